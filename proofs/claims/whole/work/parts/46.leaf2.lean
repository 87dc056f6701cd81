/-! leaf -/
/-- least and greatest of the days taken -/
def mL (p : Nat → Bool) (f : Nat → Nat) : Nat → Nat
  | 0 => 0
  | n + 1 => if p n = true then (if sD p (fun _ => 1) n = 0 then f n else if f n < mL p f n then f n else mL p f n) else mL p f n
def mH (p : Nat → Bool) (f : Nat → Nat) : Nat → Nat
  | 0 => 0
  | n + 1 => if p n = true then (if mH p f n < f n then f n else mH p f n) else mH p f n
theorem mLH_b {p : Nat → Bool} {f : Nat → Nat} {B : Nat} : ∀ {n : Nat}, (∀ d, d < n → f d ≤ B) → mL p f n ≤ B ∧ mH p f n ≤ B
  | 0, _ => ⟨Nat.zero_le _, Nat.zero_le _⟩
  | n + 1, h => by
    obtain ⟨i1, i2⟩ := mLH_b (p := p) (f := f) (B := B) (n := n) (fun d hd => h d (by omega))
    have := h n (by omega)
    rw [mL, mH]
    constructor
    · repeat' split
      all_goals omega
    · repeat' split
      all_goals omega
theorem mH_0 {p : Nat → Bool} {f : Nat → Nat} : ∀ {n : Nat}, sD p (fun _ => 1) n = 0 → mH p f n = 0
  | 0, _ => rfl
  | n + 1, h => by
    rw [sD] at h
    rw [mH]
    by_cases hp : p n = true
    · rw [if_pos hp] at h; omega
    · rw [if_neg hp] at h ⊢
      exact mH_0 (by omega)
/-- the four facts, as they lie in both programs -/
def FC (p : Nat → Bool) (f : Nat → Nat) (d : Nat) : Nat → Nat
  | 0 => sD p (fun _ => 1) d
  | 1 => sD p f d
  | 2 => mL p f d
  | _ => mH p f d
theorem c_note {v n s l h : Nat} {S : St} {post : St → Prop} (hn : n < 2 ^ 31) (hv : v < 2 ^ 31) (hl : l < 2 ^ 31) (hh : h < 2 ^ 31) (e0 : S.2.2 7 0 = nI n) (e1 : S.2.2 7 1 = nI s) (e2 : S.2.2 7 2 = nI l) (e3 : S.2.2 7 3 = nI h)
    (k : ∀ S1 : St, Kp [] [7] S S1 → S1.2.2 7 0 = nI (n + 1) → S1.2.2 7 1 = nI (s + v) → S1.2.2 7 2 = nI (if n = 0 then v else if v < l then v else l) → S1.2.2 7 3 = nI (if h < v then v else h) → post S1) : ∃ m, PX0_noteFacts m (nI v) S post := by
  have i0 : vp_in 0 4 := vp_in_nI (n := 0) (by omega) (by omega)
  have i1 : vp_in 1 4 := vp_in_nI (n := 1) (by omega) (by omega)
  have i2 : vp_in 2 4 := vp_in_nI (n := 2) (by omega) (by omega)
  have i3 : vp_in 3 4 := vp_in_nI (n := 3) (by omega) (by omega)
  have z0 : (0 : Int32).toNatClampNeg = 0 := rfl
  have z1 : (1 : Int32).toNatClampNeg = 1 := rfl
  have z2 : (2 : Int32).toNatClampNeg = 2 := rfl
  have z3 : (3 : Int32).toNatClampNeg = 3 := rfl
  have q3 : (if nI h < nI v then nI v else nI h) = nI (if h < v then v else h) := by
    by_cases c : h < v
    · rw [if_pos c, if_pos (nI_lt c hv)]
    · rw [if_neg c, if_neg (fun e => c ((nI_ltI hh hv).mp e))]
  refine ⟨1, i0, fun c => ?_, fun c => ?_⟩
  · rw [z0, e0] at c
    have hn0 : n = 0 := nI_inj (b := 0) hn (by omega) c
    subst hn0
    refine ⟨i0, i0, fun S5 g5 => ⟨i1, i1, fun S8 g8 => b_1 ⟨i2, fun S17 g17 => ⟨i3, i3, fun S20 g20 => ?_⟩⟩⟩⟩
    subst g5; subst g8; subst g17; subst g20
    refine k _ ((((Kp.rf.sR (by decide) _).sR (by decide) _).sR (by decide) _).sR (by decide) _) ?_ ?_ ?_ ?_
    all_goals simp only [sR_g, z0, z1, z2, z3]
    · rw [upd_n _ _ _ (by decide), upd_n _ _ _ (by decide), upd_n _ _ _ (by decide), upd_g, e0, nI_1]
    · rw [upd_n _ _ _ (by decide), upd_n _ _ _ (by decide), upd_g, upd_n _ _ _ (by decide), e1, nI_add]
    · rw [upd_n _ _ _ (by decide), upd_g, if_pos trivial]
    · rw [upd_g, upd_n _ _ _ (by decide), upd_n _ _ _ (by decide), upd_n _ _ _ (by decide), e3, q3]
  · rw [z0, e0] at c
    have hn0 : n ≠ 0 := fun e => c (by subst e; rfl)
    refine ⟨i0, i0, fun S5 g5 => ⟨i1, i1, fun S8 g8 => b_0 ⟨i2, i2, fun S17 g17 => ⟨i3, i3, fun S20 g20 => ?_⟩⟩⟩⟩
    subst g5; subst g8; subst g17; subst g20
    refine k _ ((((Kp.rf.sR (by decide) _).sR (by decide) _).sR (by decide) _).sR (by decide) _) ?_ ?_ ?_ ?_
    all_goals simp only [sR_g, z0, z1, z2, z3]
    · rw [upd_n _ _ _ (by decide), upd_n _ _ _ (by decide), upd_n _ _ _ (by decide), upd_g, e0, nI_1]
    · rw [upd_n _ _ _ (by decide), upd_n _ _ _ (by decide), upd_g, upd_n _ _ _ (by decide), e1, nI_add]
    · rw [upd_n _ _ _ (by decide), upd_g, upd_n _ _ _ (by decide), upd_n _ _ _ (by decide), e2, if_neg hn0]
      by_cases c : v < l
      · rw [if_pos c, if_pos (nI_lt c hl)]
      · rw [if_neg c, if_neg (fun e => c ((nI_ltI hv hl).mp e))]
    · rw [upd_g, upd_n _ _ _ (by decide), upd_n _ _ _ (by decide), upd_n _ _ _ (by decide), e3, q3]
theorem c_factOf {C : St} {nd j w : Nat} {ea : Nat → Nat} {asked marks : Int32} {post : Int32 → St → Prop} (hD : DC C nd j ea) (hw : w < 4)
    (k : ∀ S : St, Kp [] [7] C S → post (nI (FC (kn (C.2.2 5) (C.2.2 4) asked marks) ea nd w)) S) : ∃ n, PX0_factOf n (nI j) asked marks (nI w) C post := by
  obtain ⟨hnd, hj, hn, hea⟩ := hD
  have hkp : Kp [] [7] C (sR C 7 (g_fill (C.2.2 7) 4 0)) := Kp.rf.sR (by decide) _
  have key : ∀ r d, d + r = nd → ∀ S, Kp [] [7] C S → (∀ i, i < 4 → S.2.2 7 i = nI (FC (kn (C.2.2 5) (C.2.2 4) asked marks) ea d i)) → LX0_factOf post (r + 1) (nI j) asked marks (nI w) (nI d) S := by
    intro r
    induction r with
    | zero =>
      intro d hd S hK hf
      have : d = nd := by omega
      subst this
      refine b_t (by rw [hK.1 1 (by decide), hn]; exact nI_le (Nat.le_refl _) (by omega)) ⟨vp_in_nI hw (by omega), ?_⟩
      rw [nI_clamp (by omega), hf w hw]
      exact k S hK
    | succ r ih =>
      intro d hd S hK hf
      have r5 : S.2.2 5 = C.2.2 5 := hK.2 5 (by decide)
      have r4 : S.2.2 4 = C.2.2 4 := hK.2 4 (by decide)
      refine b_f (by rw [hK.1 1 (by decide), hn]; exact fun e => absurd ((nI_leI (by omega) (by omega)).mp e) (by omega)) (c_inKnot (by omega) (fun hy => b_1 (c_eaten (by omega) hj ?_)) (fun hn0 => b_0 (fun x ex => ?_)))
      · rw [hK.2 6 (by decide), (hea d (by omega)).1]
        rw [r5, r4] at hy
        have hb := mLH_b (p := kn (C.2.2 5) (C.2.2 4) asked marks) (f := ea) (B := 1000) (n := d) (fun d' hd' => (hea d' (by omega)).2)
        have hc := sD_n (p := kn (C.2.2 5) (C.2.2 4) asked marks) (n := d)
        have hv := (hea d (by omega)).2
        refine c_note (n := sD (kn (C.2.2 5) (C.2.2 4) asked marks) (fun _ => 1) d) (s := sD (kn (C.2.2 5) (C.2.2 4) asked marks) ea d) (l := mL (kn (C.2.2 5) (C.2.2 4) asked marks) ea d) (h := mH (kn (C.2.2 5) (C.2.2 4) asked marks) ea d) (by omega) (by omega) (by omega) (by omega) (hf 0 (by omega)) (hf 1 (by omega)) (hf 2 (by omega)) (hf 3 (by omega)) (fun S1 hK1 g0 g1 g2 g3 x ex => ?_)
        subst ex
        rw [nI_1]
        refine ih (d + 1) (by omega) S1 (hK.tr hK1) (fun i hi => ?_)
        have h4 : i = 0 ∨ i = 1 ∨ i = 2 ∨ i = 3 := by omega
        rcases h4 with rfl | rfl | rfl | rfl
        · rw [g0]; simp only [FC, sD, if_pos hy]
        · rw [g1]; simp only [FC, sD, if_pos hy]
        · rw [g2]; simp only [FC, mL, if_pos hy]
        · rw [g3]; simp only [FC, mH, if_pos hy]
      · subst ex
        rw [nI_1]
        rw [r5, r4] at hn0
        have hy : ¬ kn (C.2.2 5) (C.2.2 4) asked marks d = true := by rw [hn0]; decide
        refine ih (d + 1) (by omega) S hK (fun i hi => ?_)
        rw [hf i hi]
        have h4 : i = 0 ∨ i = 1 ∨ i = 2 ∨ i = 3 := by omega
        rcases h4 with rfl | rfl | rfl | rfl
        · simp only [FC, sD, if_neg hy]; rfl
        · simp only [FC, sD, if_neg hy]; rfl
        · simp only [FC, mL, if_neg hy]
        · simp only [FC, mH, if_neg hy]
  refine ⟨nd + 1, fun S1 e1 => ?_⟩
  subst e1
  refine key nd 0 (by omega) _ hkp (fun i hi => ?_)
  rw [sR_g]
  have h4 : i = 0 ∨ i = 1 ∨ i = 2 ∨ i = 3 := by omega
  rcases h4 with rfl | rfl | rfl | rfl <;> rfl

/-- the reference: is a day of the leaf -/
theorem m_isLeaf {M : St} {nd j d : Nat} {ea : Nat → Nat} {aw mk : Nat → Int32} {A marks : Int32} {post : Int32 → St → Prop} (hD : DM M nd j ea aw mk) (hd : d < nd) (h6 : M.1 6 = A) (h7 : M.1 7 = marks &&& A)
    (k1 : kn aw mk A marks d = true → post 1 M) (k0 : kn aw mk A marks d = false → post 0 M) : PX6_isLeafOf (nI d) M post := by
  obtain ⟨hnd, hj, hn, hd0⟩ := hD
  obtain ⟨he, heb, haw, hmk⟩ := hd0 d hd
  have hin : vp_in (nI d) 150 := vp_in_nI (by omega) (by omega)
  unfold PX6_isLeafOf
  rw [nI_clamp (by omega), hmk, h6, h7]
  refine ⟨hin, fun c => k0 (by simp [kn, haw.mp c]), fun c => ⟨hin, fun c2 => ?_, fun c2 => ?_⟩⟩
  · have haw0 : aw d = 0 := Classical.byContradiction fun h => c (haw.mpr h)
    exact k1 (by simp [kn, haw0, (i_knot (mk d) marks A).mpr c2])
  · exact k0 (by unfold kn; rw [decide_eq_false (fun h => c2 ((i_knot (mk d) marks A).mp h)), Bool.and_false])
theorem m_eaten {M : St} {nd j d : Nat} {ea : Nat → Nat} {aw mk : Nat → Int32} (hD : DM M nd j ea aw mk) (hd : d < nd) : (6 : Int32) * nI d + nI j = nI (6 * d + j) ∧ vp_in (nI (6 * d + j)) 900 ∧ M.2.2 4 (nI (6 * d + j)).toNatClampNeg = nI (ea d) ∧ ea d ≤ 1000 := by
  obtain ⟨hnd, hj, hn, hd0⟩ := hD
  obtain ⟨he, heb, haw, hmk⟩ := hd0 d hd
  exact ⟨by rw [show (6 : Int32) = nI 6 from rfl, pk_mul, nI_add], vp_in_nI (by omega) (by omega), by rw [nI_clamp (by omega)]; exact he, heb⟩
set_option maxHeartbeats 1000000 in
theorem m_leafLoop {M : St} {nd j w : Nat} {ea : Nat → Nat} {aw mk : Nat → Int32} {A marks : Int32} {post : Int32 → St → Prop} (hD : DM M nd j ea aw mk) (h6 : M.1 6 = A) (h7 : M.1 7 = marks &&& A) (hw : w < 4)
    (k : post (nI (FC (kn aw mk A marks) ea nd w)) M) : ∀ r d, d + r = nd → ∀ F, 2 * r + 1 ≤ F → LX6_leaf post F 1 (nI j) 0 (nI w) (nI (sD (kn aw mk A marks) (fun _ => 1) d)) (nI (sD (kn aw mk A marks) ea d)) (nI (mL (kn aw mk A marks) ea d)) (nI (mH (kn aw mk A marks) ea d)) (nI d) 0 0 M := by
  have hnd := hD.1
  have hn := hD.2.2.1
  intro r
  induction r with
  | zero =>
    intro d hd F hF
    obtain ⟨F, rfl⟩ : ∃ G, F = G + 1 := ⟨F - 1, by omega⟩
    have : d = nd := by omega
    subst this
    refine b_t (by rw [hn]; exact nI_le (Nat.le_refl _) (by omega)) ?_
    have h4 : w = 0 ∨ w = 1 ∨ w = 2 ∨ w = 3 := by omega
    rcases h4 with rfl | rfl | rfl | rfl
    · exact b_t rfl k
    · exact b_f (by decide) (b_t rfl k)
    · exact b_f (by decide) (b_f (by decide) (b_t rfl k))
    · exact b_f (by decide) (b_f (by decide) (b_f (by decide) k))
  | succ r ih =>
    intro d hd F hF
    obtain ⟨F, rfl⟩ : ∃ G, F = G + 2 := ⟨F - 2, by omega⟩
    obtain ⟨q1, q2, q3, q4⟩ := m_eaten hD (show d < nd by omega)
    have hb := mLH_b (p := kn aw mk A marks) (f := ea) (B := 1000) (n := d) (fun d' hd' => (hD.2.2.2 d' (by omega)).2.1)
    have hc := sD_n (p := kn aw mk A marks) (n := d)
    refine b_f (by rw [hn]; exact fun e => absurd ((nI_leI (by omega) (by omega)).mp e) (by omega)) (m_isLeaf hD (by omega) h6 h7 (fun hy => b_1 ?_) (fun hn0 => b_0 (fun x ex => ?_)))
    · rw [q1]
      refine ⟨q2, fun x22 e22 => ?_⟩
      rw [q3] at e22
      subst e22
      -- the next cut, whatever the least is
      have nxt : ∀ l, l = mL (kn aw mk A marks) ea (d + 1) → LX6_leaf post (F + 1) 2 (nI j) 0 (nI w) (nI (sD (kn aw mk A marks) (fun _ => 1) d)) (nI (sD (kn aw mk A marks) ea d)) 0 (nI (mH (kn aw mk A marks) ea d)) (nI d) (nI (ea d)) (nI l) M := by
        intro l el
        have goal := ih (d + 1) (by omega) F (by omega)
        rw [← el] at goal
        rw [sD, if_pos hy, sD, if_pos hy, mH, if_pos hy] at goal
        refine ⟨fun c x27 e27 x28 e28 x29 e29 => ?_, fun c => ⟨fun c2 x27 e27 x28 e28 x29 e29 => ?_, fun c2 x27 e27 x28 e28 x29 e29 => ?_⟩⟩
        · have hc0 : sD (kn aw mk A marks) (fun _ => 1) d = 0 := nI_inj (b := 0) (by omega) (by omega) c
          rw [mH_0 hc0] at goal
          have : (if 0 < ea d then ea d else 0) = ea d := by split <;> omega
          rw [this] at goal
          subst e27; subst e28; subst e29
          rw [nI_1, nI_1, nI_add]
          exact goal
        · rw [if_neg (fun e => absurd ((nI_leI (by omega) (by omega)).mp c2) (by omega))] at goal
          subst e27; subst e28; subst e29
          rw [nI_1, nI_1, nI_add]
          exact goal
        · rw [if_pos (by
            rcases Nat.lt_or_ge (mH (kn aw mk A marks) ea d) (ea d) with h9 | h9
            · exact h9
            · exact absurd (nI_le h9 (by omega)) c2)] at goal
          subst e27; subst e28; subst e29
          rw [nI_1, nI_1, nI_add]
          exact goal
      refine ⟨fun c => nxt _ ?_, fun c => ⟨fun c2 => nxt _ ?_, fun c2 => nxt _ ?_⟩⟩
      · have hc0 : sD (kn aw mk A marks) (fun _ => 1) d = 0 := nI_inj (b := 0) (by omega) (by omega) c
        rw [mL, if_pos hy, if_pos hc0]
      · have hc0 : ¬ sD (kn aw mk A marks) (fun _ => 1) d = 0 := fun e => c (by rw [e]; rfl)
        rw [mL, if_pos hy, if_neg hc0, if_neg (fun e => absurd ((nI_leI (by omega) (by omega)).mp c2) (by omega))]
      · have hc0 : ¬ sD (kn aw mk A marks) (fun _ => 1) d = 0 := fun e => c (by rw [e]; rfl)
        rw [mL, if_pos hy, if_neg hc0, if_pos (by
          rcases Nat.lt_or_ge (ea d) (mL (kn aw mk A marks) ea d) with h9 | h9
          · exact h9
          · exact absurd (nI_le h9 (by omega)) c2)]
    · subst ex
      have hy : ¬ kn aw mk A marks d = true := by rw [hn0]; decide
      have goal := ih (d + 1) (by omega) (F + 1) (by omega)
      rw [sD, if_neg hy, sD, if_neg hy, mH, if_neg hy, mL, if_neg hy] at goal
      rw [nI_1]
      exact goal
theorem op_leaf : Op_leaf Rel := by
  intro C M p0 p1 p2 v hR
  obtain ⟨nm, nd, ns, nt, h⟩ := id hR
  obtain ⟨⟨b1, b2, b3, b4⟩, ⟨e1, e2, e3, e4, e5, e6, e7, e8⟩, -⟩ := id h
  have hM1 : MK M (sI M 0 0) := Kp.rf.sI (by decide) _
  have hbad : ∀ F, 1 ≤ F → ∀ x : Int32, LX6_leaf (fun b M1 => M1.1 0 = 2 ∧ ((2 : Int32) = 0 → v = b.toInt64) ∧ Rel C M1) F 0 x p1 p2 0 0 0 0 0 0 1 (sI M 0 0) := by
    intro F hF x
    obtain ⟨F, rfl⟩ : ∃ G, F = G + 1 := ⟨F - 1, by omega⟩
    show BX6_leaf_0 _ _ _ _ _ _ _ _ _ _ _ _ _
    unfold BX6_leaf_0
    exact m_bad1 (b_1 ⟨sI_g _ _ _, fun e => absurd e (by decide), hR.kept Kp.rf (hM1.sI (by decide) _)⟩)
  refine c_meal e1 b1 (fun j hj ej => ?_) (fun hx => Or.inl ⟨rfl, 1, ?_⟩)
  · subst ej
    obtain ⟨ea, hDC, hDM⟩ := rel_D h (show j < 6 by omega)
    refine c_within (fun h0 h0' => ?_) (fun hx => Or.inr ⟨rfl, 1, ?_⟩)
    · refine c_within (fun h1 h1' => ?_) (fun hx => Or.inr ⟨rfl, 1, ?_⟩)
      · obtain ⟨w, hw, rfl⟩ := nI_of h1
        have hw4 : w ≤ 3 := (nI_leI (b := 3) hw (by omega)).mp h1'
        refine c_asked hDC rfl rfl (fun S1 hS1 => ?_)
        refine c_factOf (hDC.kept hS1) (by omega) (fun S2 hS2 => ?_)
        rw [hS1.2 5 (by decide), hS1.2 4 (by decide)]
        have hC2 : CK C S2 := hS1.tr (hS2.mono (by decide) (by decide))
        have hg := m_goes (M := sI M 0 0) (m := p1) (post := fun S12 => LX6_leaf (fun b M1 => M1.1 0 = 0 ∧ ((0 : Int32) = 0 → (nI (FC (kn (C.2.2 5) (C.2.2 4) (wA nd (C.2.2 5) (C.2.2 4) ea p1 4) p1) ea nd w)).toInt64 = b.toInt64) ∧ Rel S2 M1) (2 * nd + 1) 1 (nI j) 0 (nI w) 0 0 0 0 0 0 0 S12) (hDM.kept hM1) (fun S u hG hu => ?_)
        · refine ⟨2 * nd + 2, m_isMeal_t e2 b1 hj (b_1 (m_bits_t h0 h0' (b_1 (b_f h1 (b_t h1' ?_)))))⟩
          show BX6_leaf_0 _ _ _ _ _ _ _ _ _ _ _ _ _
          unfold BX6_leaf_0
          exact m_bad0 (b_0 hg)
        · obtain ⟨hMT, hu4, g5, g6, g7, hq⟩ := hG
          have hA : wA nd (C.2.2 5) (C.2.2 4) ea p1 u = wA nd (C.2.2 5) (C.2.2 4) ea p1 4 := by
            rcases hu with rfl | hu
            · rfl
            · exact ((wA_stop hu 4 hu4).1).symm
          rw [hA] at g6 g7
          exact m_leafLoop ((hDM.kept hM1).keptT hMT) g6 g7 (by omega) ⟨by rw [hMT.1 0 (by decide), sI_g], fun _ => rfl, hR.kept hC2 (hM1.tr (MT_MK hMT))⟩ nd 0 (by omega) _ (Nat.le_refl _)
      · refine m_isMeal_t e2 b1 hj (b_1 (m_bits_t h0 h0' (b_1 ⟨fun c => hbad 1 (by omega) _, fun c => ⟨fun c2 => absurd c2 (hx.resolve_left c), fun c2 => hbad 1 (by omega) _⟩⟩)))
    · exact m_isMeal_t e2 b1 hj (b_1 (m_bits_f hx (b_0 (hbad 1 (by omega) _))))
  · exact m_isMeal_f e2 hx (b_0 ⟨sI_g _ _ _, fun e => absurd e (by decide), hR.kept Kp.rf (Kp.rf.sI (by decide) _)⟩)
