/-! the class goes through the sets -/
theorem lZ_inj {a b : Nat} (ha : a < 2 ^ 62) (hb : b < 2 ^ 62) (h : lZ (a : Int) = lZ (b : Int)) : a = b := by
  have h1 := congrArg Int64.toInt h
  rw [lZ_t (by omega) (by omega), lZ_t (by omega) (by omega)] at h1
  omega
def tk (v p n v0 p0 n0 : Nat) : Prop := v < v0 ∨ (v = v0 ∧ (p < p0 ∨ (p = p0 ∧ n < n0)))
theorem c_better {v p n v0 p0 n0 : Nat} {S : St} {post : Int32 → St → Prop} (hv : v < 2 ^ 62) (hv0 : v0 < 2 ^ 62) (hp : p < 2 ^ 31) (hp0 : p0 < 2 ^ 31) (hn : n < 2 ^ 31) (hn0 : n0 < 2 ^ 31) (e0 : S.2.1 0 = lZ (v0 : Int)) (e11 : S.1 11 = nI p0) (e12 : S.1 12 = nI n0)
    (k1 : tk v p n v0 p0 n0 → post 1 S) (k0 : ¬ tk v p n v0 p0 n0 → post 0 S) : PX2_isBetter (lZ (v : Int)) (nI p) (nI n) S post := by
  unfold PX2_isBetter
  unfold tk at k1 k0
  rw [e0, e11, e12]
  refine ⟨fun c => ?_, fun c => ?_⟩
  · have c' := lZ_inj hv hv0 ((lg_cmp_eq _ _).mp c)
    refine ⟨fun c2 => ?_, fun c2 => ?_⟩
    · have c2' := nI_inj hp hp0 c2
      refine ⟨fun c3 => k0 ?_, fun c3 => k1 ?_⟩
      · have := (nI_leI hn0 hn).mp c3
        omega
      · have : ¬ n0 ≤ n := fun h => c3 (nI_le h hn)
        omega
    · have c2' : p ≠ p0 := fun h => c2 (by rw [h])
      refine ⟨fun c3 => k0 ?_, fun c3 => k1 ?_⟩
      · have := (nI_leI hp0 hp).mp c3
        omega
      · have : ¬ p0 ≤ p := fun h => c3 (nI_le h hp)
        omega
  · have c' : v ≠ v0 := fun h => c ((lg_cmp_eq _ _).mpr (by rw [h]))
    refine ⟨fun c2 => k0 ?_, fun c2 => k1 ?_⟩
    · rw [lg_cmp_ge, lZ_le (by omega) (by omega) (by omega) (by omega)] at c2
      omega
    · rw [lg_cmp_ge, lZ_le (by omega) (by omega) (by omega) (by omega)] at c2
      omega
/-- the best of the sets from a number on -/
def cV (ns : Nat) (V P N : (Nat → Nat) → Nat) (T : Nat) (S : St) : Prop := (S.1 10 = 0 ∧ ∀ y, qK ns y → ¬ T ≤ qC y) ∨
  (S.1 10 = 1 ∧ ∃ x, qK ns x ∧ T ≤ qC x ∧ (∀ i, i < 4 → S.2.2 15 i = nI (x i)) ∧ S.2.1 0 = lZ (V x : Nat) ∧ S.1 11 = nI (P x) ∧ S.1 12 = nI (N x) ∧ ∀ y, qK ns y → T ≤ qC y → qB V P N x y)
section FB
variable {ns : Nat} {V P N : (Nat → Nat) → Nat}
theorem cV_low {T T' : Nat} {S : St} (h : cV ns V P N T S) (h1 : T' ≤ T) (h2 : ∀ y, qK ns y → T' ≤ qC y → T ≤ qC y) : cV ns V P N T' S := by
  rcases h with ⟨e, h⟩ | ⟨e, x, g1, g2, g3, g4, g5, g6, g7⟩
  · exact Or.inl ⟨e, fun y hy hT => h y hy (h2 y hy hT)⟩
  · exact Or.inr ⟨e, x, g1, by omega, g3, g4, g5, g6, fun y hy hT => g7 y hy (h2 y hy hT)⟩
theorem cV_row {T : Nat} {S : St} (h : cV ns V P N T S) (f : Nat → Int32) : cV ns V P N T (sR S 14 f) := by
  unfold cV at h ⊢
  rw [sR_n _ _ _ (show (15 : Nat) ≠ 14 by decide)]
  exact h
theorem qB_eq {x y : Nat → Nat} (eV : qE V) (eP : qE P) (eN : qE N) (h : ∀ i, i < 4 → x i = y i) : qB V P N x y := by
  refine Or.inr ⟨eV x y h, Or.inr ⟨eP x y h, Or.inr ⟨eN x y h, ?_⟩⟩⟩
  unfold qC
  rw [h 0 (by omega), h 1 (by omega), h 2 (by omega), h 3 (by omega)]
  exact Nat.le_refl _
theorem cV_take {x : Nat → Nat} {S S1 : St} (eV : qE V) (eP : qE P) (eN : qE N) (hx : qK ns x) (hv : cV ns V P N (qC x + 1) S)
    (hbt : S.1 10 = 0 ∨ ∀ b, qK ns b → qC x + 1 ≤ qC b → S.2.1 0 = lZ (V b : Nat) → S.1 11 = nI (P b) → S.1 12 = nI (N b) → tk (V x) (P x) (N x) (V b) (P b) (N b))
    (g10 : S1.1 10 = 1) (g15 : ∀ i, i < 4 → S1.2.2 15 i = nI (x i)) (g0 : S1.2.1 0 = lZ (V x : Nat)) (g11 : S1.1 11 = nI (P x)) (g12 : S1.1 12 = nI (N x)) : cV ns V P N (qC x) S1 := by
  have same : ∀ y, qK ns y → qC x ≤ qC y → ¬ qC x + 1 ≤ qC y → qB V P N x y := fun y hy h1 h2 => qB_eq eV eP eN (qC_inj hx.1 hy.1 (by omega))
  refine Or.inr ⟨g10, x, hx, Nat.le_refl _, g15, g0, g11, g12, fun y hy hT => ?_⟩
  by_cases c : qC x + 1 ≤ qC y
  · rcases hv with ⟨e, h⟩ | ⟨e, b, q1, q2, q3, q4, q5, q6, q7⟩
    · exact absurd c (h y hy)
    · rcases hbt with h0 | hbt
      · rw [e] at h0; exact absurd h0 (by decide)
      · have h1 := hbt b q1 q2 q4 q5 q6
        refine qB_tr ?_ (q7 y hy c)
        unfold tk at h1
        unfold qB
        omega
  · exact same y hy hT c
theorem cV_keep {x b : Nat → Nat} {S : St} (eV : qE V) (eP : qE P) (eN : qE N) (hx : qK ns x) (e : S.1 10 = 1) (q1 : qK ns b) (q2 : qC x + 1 ≤ qC b) (q3 : ∀ i, i < 4 → S.2.2 15 i = nI (b i)) (q4 : S.2.1 0 = lZ (V b : Nat)) (q5 : S.1 11 = nI (P b)) (q6 : S.1 12 = nI (N b)) (q7 : ∀ y, qK ns y → qC x + 1 ≤ qC y → qB V P N b y) (hbt : ¬ tk (V x) (P x) (N x) (V b) (P b) (N b)) : cV ns V P N (qC x) S := by
  refine Or.inr ⟨e, b, q1, by omega, q3, q4, q5, q6, fun y hy hT => ?_⟩
  by_cases c : qC x + 1 ≤ qC y
  · exact q7 y hy c
  · have h1 : qB V P N x y := qB_eq eV eP eN (qC_inj hx.1 hy.1 (by omega))
    refine qB_tr ?_ h1
    unfold tk at hbt
    unfold qB
    omega
end FB
/-! weighing one set -/
def qP (ns : Nat) (po : Nat → Nat) (x : Nat → Nat) : Nat := zA (fun i => x i * po i) ns
def qN (ns : Nat) (x : Nat → Nat) : Nat := zA x ns
def qV (p : Nat → Bool) (ea : Nat → Nat) (wa wn nd ns left : Nat) (po pr : Nat → Nat) (x : Nat → Nat) : Nat := cst p ea wa wn nd (qP ns po x + left) (qP ns pr x)
theorem qP_E {ns : Nat} {po : Nat → Nat} (hn : ns ≤ 4) : qE (qP ns po) := fun x y h => zA_c (fun i hi => by rw [h i (by omega)])
theorem qN_E {ns : Nat} (hn : ns ≤ 4) : qE (qN ns) := fun x y h => zA_c (fun i hi => h i (by omega))
theorem qV_E {p : Nat → Bool} {ea : Nat → Nat} {wa wn nd ns left : Nat} {po pr : Nat → Nat} (hn : ns ≤ 4) : qE (qV p ea wa wn nd ns left po pr) := fun x y h => by
  unfold qV
  rw [qP_E (po := po) hn x y h, qP_E (po := pr) hn x y h]
theorem qK_12 {ns : Nat} {x : Nat → Nat} (h : qK ns x) : ∀ i, i < 4 → x i ≤ 12 := by
  intro i hi
  have h1 := h.1
  have h4 : i = 0 ∨ i = 1 ∨ i = 2 ∨ i = 3 := by omega
  rcases h4 with rfl | rfl | rfl | rfl <;> omega
theorem qP_b {ns B : Nat} {po x : Nat → Nat} (hn : ns ≤ 4) (h : qK ns x) (hp : ∀ i, i < ns → po i ≤ B) : qP ns po x ≤ 4 * (12 * B) := by
  have h1 : qP ns po x ≤ ns * (12 * B) := zA_b ns (fun i hi => Nat.mul_le_mul (qK_12 h i (by omega)) (hp i hi))
  exact Nat.le_trans h1 (Nat.mul_le_mul hn (Nat.le_refl _))
theorem qN_b {ns : Nat} {x : Nat → Nat} (hn : ns ≤ 4) (h : qK ns x) : qN ns x ≤ 12 := by
  have h1 : zA x ns ≤ zA x 4 := zA_mono hn
  have h2 : zA x 4 = x 0 + x 1 + x 2 + x 3 := by simp [zA]
  have h3 := h.1
  unfold qN
  omega
/-- the kitchen, ready to weigh -/
def KC (p : Nat → Bool) (ea : Nat → Nat) (wa wn nd ns : Nat) (po pr : Nat → Nat) (S : St) : Prop := S.1 5 = nI ns ∧ S.1 6 = nI wa ∧ S.1 7 = nI wn ∧ S.1 8 = nI (sD p (fun _ => 1) nd) ∧ S.1 9 = nI (sD p ea nd) ∧ (∀ i, i < ns → S.2.2 10 i = nI (po i) ∧ S.2.2 11 i = nI (pr i)) ∧ ∀ v, v < 1001 → S.2.2 12 v = nI (hL p ea (fun _ => 1) (v + 1) nd) ∧ S.2.2 13 v = nI (hL p ea ea (v + 1) nd)
/-- what both programs take for granted -/
def KG (ea : Nat → Nat) (wa wn nd ns left : Nat) (po pr : Nat → Nat) : Prop := ns ≤ 4 ∧ nd ≤ 150 ∧ wa ≤ 1000 ∧ wn ≤ 1000 ∧ left ≤ 10000 ∧ (∀ i, i < ns → po i ≤ 200) ∧ (∀ i, i < ns → pr i ≤ 10000) ∧ ∀ d, d < nd → ea d ≤ 1000
theorem KC.kept {p : Nat → Bool} {ea : Nat → Nat} {wa wn nd ns : Nat} {po pr : Nat → Nat} {S S1 : St} {is rs : List Nat} (h : KC p ea wa wn nd ns po pr S) (hk : Kp is rs S S1) (hi : ∀ q, q ∈ [5, 6, 7, 8, 9] → q ∉ is) (hr : ∀ q, q ∈ [10, 11, 12, 13] → q ∉ rs) : KC p ea wa wn nd ns po pr S1 := by
  unfold KC at h ⊢
  rw [hk.1 5 (hi 5 (by decide)), hk.1 6 (hi 6 (by decide)), hk.1 7 (hi 7 (by decide)), hk.1 8 (hi 8 (by decide)), hk.1 9 (hi 9 (by decide)), hk.2 10 (hr 10 (by decide)), hk.2 11 (hr 11 (by decide)), hk.2 12 (hr 12 (by decide)), hk.2 13 (hr 13 (by decide))]
  exact h
section WEIGH
variable {p : Nat → Bool} {ea : Nat → Nat} {wa wn nd ns left : Nat} {po pr : Nat → Nat}
theorem qV_b (hG : KG ea wa wn nd ns left po pr) {x : Nat → Nat} (hx : qK ns x) : qV p ea wa wn nd ns left po pr x < 2 ^ 62 := by
  obtain ⟨g1, g2, g3, g4, g5, g6, g7, g8⟩ := hG
  have h1 := qP_b g1 hx g6
  have h2 := qP_b g1 hx g7
  have := cst_b (p := p) (ea := ea) (all := qP ns po x + left) (each := qP ns pr x) g2 g8 g3 g4 (by omega) (by omega)
  unfold qV
  omega
set_option maxHeartbeats 1000000 in
theorem c_weigh (hG : KG ea wa wn nd ns left po pr) {S : St} {x : Nat → Nat} {post : St → Prop} (hx : qK ns x) (hC : KC p ea wa wn nd ns po pr S) (h14 : ∀ i, i < 4 → S.2.2 14 i = nI (x i)) (hv : cV ns (qV p ea wa wn nd ns left po pr) (qP ns po) (qN ns) (qC x + 1) S)
    (k : ∀ S1 : St, Kp [10, 11, 12] [15] S S1 → cV ns (qV p ea wa wn nd ns left po pr) (qP ns po) (qN ns) (qC x) S1 → post S1) : ∃ n, PX2_weighTried n (nI left) S post := by
  obtain ⟨g1, g2, g3, g4, g5, g6, g7, g8⟩ := id hG
  obtain ⟨c5, c6, c7, c8, c9, cp, ct⟩ := id hC
  have eV := qV_E (p := p) (ea := ea) (wa := wa) (wn := wn) (nd := nd) (left := left) (po := po) (pr := pr) g1
  have eP := qP_E (po := po) g1
  have eN := qN_E g1
  have h1 := qP_b g1 hx g6
  have h2 := qP_b g1 hx g7
  have h3 := qN_b g1 hx
  have hD := sD_n (p := p) (n := nd)
  have hSm := sD_b (p := p) (f := ea) (B := 1000) (n := nd) g8
  have key : ∀ r i, i + r = ns → LX2_weighTried post (r + 1) (nI left) (nI (zA x i)) (nI (zA (fun i => x i * po i) i)) (nI i) (lZ ((zA (fun i => x i * pr i) i : Nat) : Int)) S := by
    intro r
    induction r with
    | zero =>
      intro i hi
      have : i = ns := by omega
      subst this
      refine b_t (by rw [c5]; exact nI_le (Nat.le_refl _) (by omega)) ?_
      rw [nI_add]
      obtain ⟨look, hlk⟩ : ∃ look, look = if 1000 < zA (fun q => x q * po q) i + left then 1000 else zA (fun q => x q * po q) i + left := ⟨_, rfl⟩
      have hl : look < 1001 := by rw [hlk]; split <;> omega
      have hpx : qP i po x = zA (fun q => x q * po q) i := rfl
      have hrx : qP i pr x = zA (fun q => x q * pr q) i := rfl
      refine c_ww (by omega) hlk c6 c7 c8 c9 (ct look hl).1 (ct look hl).2 g3 g4 hL_le hL_le (by omega) (by omega) (fun y4 e4 => ?_)
      have e4' : y4 = lZ ((qV p ea wa wn nd i left po pr x : Nat) : Int) := by
        rw [e4, c8, nI_Z (by omega), lZ_mul, lZ_add]
        unfold qV
        rw [cst_look nd, hL_look g8 hlk, hL_look g8 hlk]
        rfl
      subst e4'
      have hVx := qV_b (p := p) hG hx
      refine ⟨fun c S6 e6 S7 e7 S8 e8 S9 e9 S10 e10 => ?_, fun c => ?_⟩
      · subst e6; subst e7; subst e8; subst e9; subst e10
        refine k _ (((((Kp.rf.sI (by decide) _).sJ _).sI (by decide) _).sI (by decide) _).sR (by decide) _) (cV_take eV eP eN hx hv (Or.inl c) ?_ (fun q hq => ?_) ?_ ?_ ?_)
        · rw [sR_I, sI_n _ _ _ (by decide), sI_n _ _ _ (by decide), sJ_I, sI_g]
        · rw [sR_g, pk_cpy_in (by omega) (by omega), show 0 + (q - 0) = q by omega]
          exact h14 q hq
        · rw [sR_J, sI_J, sI_J, sJ_g]
        · rw [sR_I, sI_n _ _ _ (by decide), sI_g]; rfl
        · rw [sR_I, sI_g]; rfl
      · rcases id hv with ⟨e, -⟩ | ⟨e, b, q1, q2, q3, q4, q5, q6, q7⟩
        · exact absurd e c
        · have hVb := qV_b (p := p) hG q1
          have b1 := qP_b g1 q1 g6
          have b3 := qN_b g1 q1
          have hnx : qN i x = zA x i := rfl
          refine c_better (v := qV p ea wa wn nd i left po pr x) (p := zA (fun q => x q * po q) i) (n := zA x i) (v0 := qV p ea wa wn nd i left po pr b) (p0 := qP i po b) (n0 := qN i b) hVx hVb (by omega) (by omega) (by omega) (by omega) q4 q5 q6 (fun hb => b_1 (fun S6 e6 S7 e7 S8 e8 S9 e9 S10 e10 => ?_)) (fun hb => b_0 ?_)
          · subst e6; subst e7; subst e8; subst e9; subst e10
            refine k _ (((((Kp.rf.sI (by decide) _).sJ _).sI (by decide) _).sI (by decide) _).sR (by decide) _) (cV_take eV eP eN hx hv (Or.inr (fun b' q1' q2' q4' q5' q6' => ?_)) ?_ (fun q hq => ?_) ?_ ?_ ?_)
            · have hVb' := qV_b (p := p) hG q1'
              have b1' := qP_b g1 q1' g6
              have b3' := qN_b g1 q1'
              have f1 := lZ_inj hVb hVb' (q4.symm.trans q4')
              have f2 := nI_inj (by omega) (by omega) (q5.symm.trans q5')
              have f3 := nI_inj (by omega) (by omega) (q6.symm.trans q6')
              rw [← f1, ← f2, ← f3]
              exact hb
            · rw [sR_I, sI_n _ _ _ (by decide), sI_n _ _ _ (by decide), sJ_I, sI_g]
            · rw [sR_g, pk_cpy_in (by omega) (by omega), show 0 + (q - 0) = q by omega]
              exact h14 q hq
            · rw [sR_J, sI_J, sI_J, sJ_g]
            · rw [sR_I, sI_n _ _ _ (by decide), sI_g]; rfl
            · rw [sR_I, sI_g]; rfl
          · exact k S Kp.rf (cV_keep eV eP eN hx e q1 q2 q3 q4 q5 q6 q7 hb)
    | succ r ih =>
      intro i hi
      have hin : vp_in (nI i) 4 := vp_in_nI (by omega) (by omega)
      have hx12 := qK_12 hx i (by omega)
      refine b_f (by rw [c5]; exact fun e => absurd ((nI_leI (by omega) (by omega)).mp e) (by omega)) ?_
      rw [nI_clamp (by omega), h14 i (by omega), (cp i (by omega)).1, (cp i (by omega)).2]
      refine ⟨hin, fun x20 e20 => ⟨hin, hin, fun x23 e23 => ⟨hin, hin, fun y26 e26 x27 e27 => ?_⟩⟩⟩
      have hpr := g7 i (by omega)
      rw [nI_add] at e20
      rw [pk_mul, nI_add] at e23
      rw [nI_Z (by omega), nI_Z (by omega), lZ_mul, lZ_add] at e26
      rw [nI_1] at e27
      have e26' : y26 = lZ ((zA (fun i => x i * pr i) (i + 1) : Nat) : Int) := by
        rw [e26]
        have : zA (fun i => x i * pr i) (i + 1) = zA (fun i => x i * pr i) i + x i * pr i := rfl
        rw [this, Int.natCast_add, Int.natCast_mul]
      subst e20; subst e23; subst e26'; subst e27
      exact ih (i + 1) (by omega)
  exact ⟨ns + 1, key ns 0 (by omega)⟩
end WEIGH
