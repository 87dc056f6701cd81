/-! the way down the tree -/
/-- the reference's scratch but for what was thrown -/
def mQ : List Nat := [3, 4, 5, 6, 7, 11, 12, 13, 15, 16, 17, 18]
abbrev MT : St → St → Prop := Kp mQ mR
theorem MT_MK {M S : St} (h : MT M S) : MK M S := h.mono (by decide) (by decide)
theorem DM.keptT {M S : St} {nd j : Nat} {ea : Nat → Nat} {aw mk : Nat → Int32} (h : DM M nd j ea aw mk) (hk : MT M S) : DM S nd j ea aw mk := h.kept (MT_MK hk)
theorem i_ext {x y : Int32} (h : ∀ i, i < 32 → x.toBitVec.getLsbD i = y.toBitVec.getLsbD i) : x = y := Int32.toBitVec_inj.mp (BitVec.eq_of_getLsbD_eq fun i hi => h i hi)
theorem i_and_or (m a b : Int32) : m &&& (a ||| b) = (m &&& a) ||| (m &&& b) := i_ext fun i hi => by
  simp only [Int32.toBitVec_and, Int32.toBitVec_or, BitVec.getLsbD_and, BitVec.getLsbD_or]
  cases m.toBitVec.getLsbD i <;> cases a.toBitVec.getLsbD i <;> cases b.toBitVec.getLsbD i <;> rfl
theorem i_sub_l {x m b : Int32} (h : x &&& m = x) : x &&& (m ||| b) = x := i_ext fun i hi => by
  have := congrArg (fun z : Int32 => z.toBitVec.getLsbD i) h
  simp only [Int32.toBitVec_and, Int32.toBitVec_or, BitVec.getLsbD_and, BitVec.getLsbD_or] at this ⊢
  revert this
  cases x.toBitVec.getLsbD i <;> cases m.toBitVec.getLsbD i <;> cases b.toBitVec.getLsbD i <;> simp
theorem i_sub_r {x m b : Int32} (h : x &&& m = x) : (x ||| b) &&& (m ||| b) = x ||| b := i_ext fun i hi => by
  have := congrArg (fun z : Int32 => z.toBitVec.getLsbD i) h
  simp only [Int32.toBitVec_and, Int32.toBitVec_or, BitVec.getLsbD_and, BitVec.getLsbD_or] at this ⊢
  revert this
  cases x.toBitVec.getLsbD i <;> cases m.toBitVec.getLsbD i <;> cases b.toBitVec.getLsbD i <;> simp
theorem i_and_0 (m : Int32) : m &&& 0 = 0 := i_ext fun i hi => by
  simp only [Int32.toBitVec_and, BitVec.getLsbD_and]
  rw [show (0 : Int32).toBitVec = 0#32 from rfl, BitVec.getLsbD_zero, Bool.and_false]
theorem i_0_and (m : Int32) : (0 : Int32) &&& m = 0 := i_ext fun i hi => by
  simp only [Int32.toBitVec_and, BitVec.getLsbD_and]
  rw [show (0 : Int32).toBitVec = 0#32 from rfl, BitVec.getLsbD_zero, Bool.false_and]
section WAY
variable (nd : Nat) (aw mk : Nat → Int32) (ea : Nat → Nat)
/-- how many leaves, with r marks still to come -/
def lvK : Nat → Int32 → Int32 → Nat
  | 0, _, _ => 1
  | r + 1, a, m => if mkK nd aw mk ea a m = -1 then 1 else lvK r (a ||| ((1 : Int32) <<< (mkK nd aw mk ea a m &&& 31))) m + lvK r (a ||| ((1 : Int32) <<< (mkK nd aw mk ea a m &&& 31))) (m ||| ((1 : Int32) <<< (mkK nd aw mk ea a m &&& 31)))
/-- the marks asked for on the way, i of them -/
def wA (m : Int32) : Nat → Int32
  | 0 => 0
  | i + 1 => if mkK nd aw mk ea (wA m i) m = -1 then wA m i else wA m i ||| ((1 : Int32) <<< (mkK nd aw mk ea (wA m i) m &&& 31))
def wM (m : Int32) (i : Nat) : Int32 := mkK nd aw mk ea (wA nd aw mk ea m i) m
end WAY
section WAY2
variable {nd : Nat} {aw mk : Nat → Int32} {ea : Nat → Nat}
theorem wA_stop {m : Int32} {i : Nat} (h : wM nd aw mk ea m i = -1) : ∀ j, i ≤ j → wA nd aw mk ea m j = wA nd aw mk ea m i ∧ wM nd aw mk ea m j = -1 := by
  intro j hj
  induction j with
  | zero =>
    have : i = 0 := by omega
    subst this
    exact ⟨rfl, h⟩
  | succ j ih =>
    rcases Nat.lt_or_ge j i with h1 | h1
    · have : i = j + 1 := by omega
      subst this
      exact ⟨rfl, h⟩
    · obtain ⟨e1, e2⟩ := ih h1
      have e3 : wA nd aw mk ea m (j + 1) = wA nd aw mk ea m i := by
        rw [wA]
        have : mkK nd aw mk ea (wA nd aw mk ea m j) m = -1 := e2
        rw [if_pos this, e1]
      refine ⟨e3, ?_⟩
      unfold wM
      rw [e3]
      exact h
theorem wM_id {m : Int32} {i : Nat} : wM nd aw mk ea m i = -1 ∨ ∃ q, q < 8 ∧ wM nd aw mk ea m i = nI q := mkK_id
theorem c_asked {C : St} {j : Nat} {m : Int32} {post : Int32 → St → Prop} (hD : DC C nd j ea) (hw : C.2.2 5 = aw) (hk : C.2.2 4 = mk)
    (k : ∀ S : St, CK C S → post (wA nd aw mk ea m 4) S) : ∃ n, PX4_askedOnTheWay n (nI j) m C post := by
  have key : ∀ r i, i + r = 4 → ∀ S, CK C S → LX4_askedOnTheWay post (r + 1) (nI j) m (wA nd aw mk ea m i) (nI i) S := by
    intro r
    induction r with
    | zero =>
      intro i hi S hS
      have : i = 4 := by omega
      subst this
      exact b_t (by decide) (k S hS)
    | succ r ih =>
      intro i hi S hS
      refine b_f (fun e => absurd ((nI_leI (a := 4) (b := i) (by omega) (by omega)).mp e) (by omega)) (c_mark (hD.kept hS) (fun S1 hS1 => ?_))
      rw [hS.2 5 (by decide), hS.2 4 (by decide), hw, hk]
      refine ⟨fun h1 => ?_, fun h1 x6 e6 x7 e7 => ?_⟩
      · have h2 : wM nd aw mk ea m i = -1 := h1
        rw [← (wA_stop h2 4 (by omega)).1]
        exact k S1 (hS.tr hS1)
      · subst e6; subst e7
        rw [nI_1]
        have := ih (i + 1) (by omega) S1 (hS.tr hS1)
        rw [wA, if_neg h1] at this
        exact this
  exact ⟨5, key 4 0 rfl C Kp.rf⟩
theorem c_wayMark {C : St} {j kk : Nat} {m : Int32} {post : Int32 → St → Prop} (hD : DC C nd j ea) (hw : C.2.2 5 = aw) (hk : C.2.2 4 = mk) (h4 : kk < 4)
    (k : ∀ S : St, CK C S → post (wM nd aw mk ea m kk) S) : ∃ n, PX4_markOnTheWay n (nI j) m (nI kk) C post := by
  have key : ∀ r i, i + r = kk → ∀ S, CK C S → LX4_markOnTheWay post (r + 1) (nI j) m (nI kk) (wA nd aw mk ea m i) (nI i) S := by
    intro r
    induction r with
    | zero =>
      intro i hi S hS
      have : i = kk := by omega
      subst this
      refine b_t (nI_le (Nat.le_refl _) (by omega)) (c_mark (hD.kept hS) (fun S1 hS1 => ?_))
      rw [hS.2 5 (by decide), hS.2 4 (by decide), hw, hk]
      exact k S1 (hS.tr hS1)
    | succ r ih =>
      intro i hi S hS
      refine b_f (fun e => absurd ((nI_leI (a := kk) (b := i) (by omega) (by omega)).mp e) (by omega)) (c_mark (hD.kept hS) (fun S1 hS1 => ?_))
      rw [hS.2 5 (by decide), hS.2 4 (by decide), hw, hk]
      refine ⟨fun h1 => ?_, fun h1 x6 e6 x7 e7 => ?_⟩
      · have h2 : wM nd aw mk ea m i = -1 := h1
        rw [← (wA_stop h2 kk (by omega)).2]
        exact k S1 (hS.tr hS1)
      · subst e6; subst e7
        rw [nI_1]
        have := ih (i + 1) (by omega) S1 (hS.tr hS1)
        rw [wA, if_neg h1] at this
        exact this
  exact ⟨kk + 1, b_f (nI_pos (by omega)) (b_t (nI_lt (b := 4) h4 (by omega)) (key kk 0 (by omega) C Kp.rf))⟩
theorem c_leaves {j : Nat} : ∀ (r d : Nat), r < d → r ≤ 4 → ∀ (a m : Int32) (S : St) (post : Int32 → St → Prop), DC S nd j ea → S.2.2 5 = aw → S.2.2 4 = mk → (∀ S1, CK S S1 → post (nI (lvK nd aw mk ea r a m)) S1) → PX4_leavesBelow d (nI j) a m (nI (4 - r)) S post := by
  intro r
  induction r with
  | zero =>
    intro d hd h4 a m S post hD hw hk k
    obtain ⟨d, rfl⟩ : ∃ e, d = e + 1 := ⟨d - 1, by omega⟩
    exact b_t (by decide) (b_t rfl (k S Kp.rf))
  | succ r ih =>
    intro d hd h4 a m S post hD hw hk k
    obtain ⟨d, rfl⟩ : ∃ e, d = e + 1 := ⟨d - 1, by omega⟩
    refine b_f (fun e => absurd ((nI_leI (a := 4) (b := 4 - (r + 1)) (by omega) (by omega)).mp e) (by omega)) (c_mark hD (fun S1 hS1 => ?_))
    rw [hw, hk]
    have e4 : nI (4 - (r + 1)) + 1 = nI (4 - r) := by rw [nI_1]; congr 1; omega
    refine ⟨fun h1 => ?_, fun h1 x ex => ?_⟩
    · have := k S1 hS1
      rw [lvK, if_pos h1] at this
      exact this
    · subst ex
      rw [e4]
      refine ih d (by omega) (by omega) _ _ S1 _ (hD.kept hS1) (by rw [hS1.2 5 (by decide), hw]) (by rw [hS1.2 4 (by decide), hk]) (fun S2 hS2 => ?_)
      have h12 := hS1.tr hS2
      refine ih d (by omega) (by omega) _ _ S2 _ (hD.kept h12) (by rw [h12.2 5 (by decide), hw]) (by rw [h12.2 4 (by decide), hk]) (fun S3 hS3 => ?_)
      have := k S3 (h12.tr hS3)
      rw [lvK, if_neg h1, ← nI_add] at this
      exact this
theorem m_leaves {j : Nat} : ∀ (r d : Nat), r < d → r ≤ 4 → ∀ (a m : Int32) (S : St) (post : Int32 → St → Prop), m &&& a = m → DM S nd j ea aw mk → (∀ S1, MT S S1 → post (nI (lvK nd aw mk ea r a m)) S1) → PX6_leavesOf d (nI j) a m (nI (4 - r)) S post := by
  intro r
  induction r with
  | zero =>
    intro d hd h4 a m S post hma hD k
    obtain ⟨d, rfl⟩ : ∃ e, d = e + 1 := ⟨d - 1, by omega⟩
    exact m_mark4 (b_f (by decide) (k S Kp.rf))
  | succ r ih =>
    intro d hd h4 a m S post hma hD k
    obtain ⟨d, rfl⟩ : ∃ e, d = e + 1 := ⟨d - 1, by omega⟩
    have e4 : nI (4 - (r + 1)) + 1 = nI (4 - r) := by rw [nI_1]; congr 1; omega
    have h0 := m_markK (M := S) (nd := nd) (j := j) (ea := ea) (aw := aw) (mk := mk) (mask := a) (marks := m) (deep := nI (4 - (r + 1))) (post := fun x2 S1 => ((0 ≤ x2 → PX6_leavesOf d (nI j) (a ||| ((1 : Int32) <<< (x2 &&& 31))) m (nI (4 - (r + 1)) + 1) S1 (fun x6 S5 => PX6_leavesOf d (nI j) (a ||| ((1 : Int32) <<< (x2 &&& 31))) (m ||| ((1 : Int32) <<< (x2 &&& 31))) (nI (4 - (r + 1)) + 1) S5 (fun x8 S7 => post (x6 + x8) S7))) ∧ (¬ 0 ≤ x2 → post 1 S1))) hD (fun e => absurd (nI_inj (b := 4) (by omega) (by omega) e) (by omega)) (by
      intro S1 hS0
      have hS1 : MT S S1 := hS0.mono (by decide) (by decide)
      rw [e4]
      rcases mkK_id (nd := nd) (aw := aw) (mk := mk) (ea := ea) (asked := a) (marks := m) with h1 | ⟨i, hi, h1⟩
      · refine b_f (by rw [h1]; decide) ?_
        have := k S1 hS1
        rw [lvK, if_pos h1] at this
        exact this
      · refine b_t (by rw [h1]; exact nI_pos' (by omega)) ?_
        have hne : ¬ mkK nd aw mk ea a m = -1 := by rw [h1]; exact nI_neg1 (by omega)
        refine ih d (by omega) (by omega) _ _ S1 _ (i_sub_l hma) (hD.keptT hS1) (fun S2 hS2 => ?_)
        have h12 := hS1.tr hS2
        refine ih d (by omega) (by omega) _ _ S2 _ (i_sub_r hma) (hD.keptT h12) (fun S3 hS3 => ?_)
        have := k S3 (h12.tr hS3)
        rw [lvK, if_neg hne, ← nI_add] at this
        exact this)
    rw [hma] at h0
    exact h0
/-- the reference's way -/
def GO (M S : St) (m : Int32) (w : Nat) : Prop := MT M S ∧ w ≤ 4 ∧ S.1 5 = nI w ∧ S.1 6 = wA nd aw mk ea m w ∧ S.1 7 = m &&& wA nd aw mk ea m w ∧ ∀ q, q < w → S.2.2 6 q = wM nd aw mk ea m q ∧ wM nd aw mk ea m q ≠ -1
theorem m_goes {M : St} {j : Nat} {m : Int32} {post : St → Prop} (hD : DM M nd j ea aw mk)
    (k : ∀ (S : St) (w : Nat), GO (nd := nd) (aw := aw) (mk := mk) (ea := ea) M S m w → (w = 4 ∨ wM nd aw mk ea m w = -1) → post S) : ∃ n, PX6_goes n (nI j) m M post := by
  have key : ∀ r i, i + r = 4 → ∀ S, GO (nd := nd) (aw := aw) (mk := mk) (ea := ea) M S m i → LX6_goes post (r + 1) (nI j) m (if i = 4 then -1 else wM nd aw mk ea m i) S := by
    intro r
    induction r with
    | zero =>
      intro i hi S hG
      have : i = 4 := by omega
      subst this
      rw [if_pos rfl]
      exact b_t (by decide) (k S 4 hG (Or.inl rfl))
    | succ r ih =>
      intro i hi S hG
      rw [if_neg (by omega)]
      obtain ⟨hMS, h4, h5, h6, h7, hq⟩ := id hG
      rcases wM_id (nd := nd) (aw := aw) (mk := mk) (ea := ea) (m := m) (i := i) with h1 | ⟨q, hq8, h1⟩
      · exact b_t (by rw [h1]; decide) (k S i hG (Or.inr h1))
      · have hne : ¬ mkK nd aw mk ea (wA nd aw mk ea m i) m = -1 := by
          have : mkK nd aw mk ea (wA nd aw mk ea m i) m = nI q := h1
          rw [this]; exact nI_neg1 (by omega)
        refine b_f (by rw [h1]; exact nI_pos (by omega)) ⟨by rw [h5]; exact vp_in_nI (by omega) (by omega), fun S9 e9 S10 e10 S11 e11 S12 e12 => ?_⟩
        have wA1 : wA nd aw mk ea m (i + 1) = wA nd aw mk ea m i ||| ((1 : Int32) <<< (wM nd aw mk ea m i &&& 31)) := by
          rw [wA, if_neg hne]; rfl
        have f5 : S12.1 5 = nI (i + 1) := by
          rw [e12, sI_n _ _ _ (by decide), e11, sI_n _ _ _ (by decide), e10, sI_g, e9, sR_I, h5, nI_1]
        have f6 : S12.1 6 = wA nd aw mk ea m (i + 1) := by
          rw [e12, sI_n _ _ _ (by decide), e11, sI_g, e10, sI_n _ _ _ (by decide), e9, sR_I, h6, wA1]
        have f7 : S12.1 7 = m &&& wA nd aw mk ea m (i + 1) := by
          rw [e12, sI_g, e11, sI_n _ _ _ (by decide), e10, sI_n _ _ _ (by decide), e9, sR_I, h7, wA1, i_and_or]
        have fR : S12.2.2 6 = upd (S.2.2 6) i (wM nd aw mk ea m i) := by
          rw [e12, sI_R, e11, sI_R, e10, sI_R, e9, sR_g, h5, nI_clamp (by omega)]
        have hM12 : MT M S12 := by
          rw [e12, e11, e10, e9]
          exact (((hMS.sR (by decide) _).sI (by decide) _).sI (by decide) _).sI (by decide) _
        have hGo : ∀ S13, MT S12 S13 → S13.1 5 = S12.1 5 → S13.1 6 = S12.1 6 → S13.1 7 = S12.1 7 → S13.2.2 6 = S12.2.2 6 → GO (nd := nd) (aw := aw) (mk := mk) (ea := ea) M S13 m (i + 1) := by
          intro S13 hk g5 g6 g7 g8
          refine ⟨hM12.tr hk, by omega, by rw [g5, f5], by rw [g6, f6], by rw [g7, f7], fun z hz => ?_⟩
          rw [g8, fR]
          by_cases hzi : z = i
          · subst hzi
            rw [upd_g]
            exact ⟨rfl, by rw [h1]; exact nI_neg1 (by omega)⟩
          · rw [upd_n _ _ _ hzi]
            exact hq z (by omega)
        rw [f5, f6, f7]
        by_cases h3 : i + 1 = 4
        · have e3 : nI (i + 1) = 4 := by rw [h3]; rfl
          rw [e3]
          refine m_mark4 ?_
          have := ih (i + 1) (by omega) S12 (hGo S12 Kp.rf rfl rfl rfl rfl)
          rw [if_pos h3] at this
          exact this
        · refine m_markK (hD.keptT hM12) (fun e => absurd (nI_inj (b := 4) (by omega) (by omega) e) (by omega)) (fun S13 hk => ?_)
          have := ih (i + 1) (by omega) S13 (hGo S13 (hk.mono (by decide) (by decide)) (hk.1 5 (by decide)) (hk.1 6 (by decide)) (hk.1 7 (by decide)) (hk.2 6 (by decide)))
          rw [if_neg h3] at this
          exact this
  have hM3 : MT M (sI (sI (sI M 6 0) 7 0) 5 0) := ((Kp.rf.sI (by decide) _).sI (by decide) _).sI (by decide) _
  have hG0 : ∀ S4, Kp [3, 4] [] (sI (sI (sI M 6 0) 7 0) 5 0) S4 → GO (nd := nd) (aw := aw) (mk := mk) (ea := ea) M S4 m 0 := fun S4 hk => by
    refine ⟨hM3.tr (hk.mono (by decide) (by decide)), by omega, ?_, ?_, ?_, fun q hq => absurd hq (by omega)⟩
    · rw [hk.1 5 (by decide), sI_g]; rfl
    · rw [hk.1 6 (by decide), sI_n _ _ _ (by decide), sI_n _ _ _ (by decide), sI_g]; rfl
    · rw [hk.1 7 (by decide), sI_n _ _ _ (by decide), sI_g, wA, i_and_0]
  have h0 := m_markK (M := sI (sI (sI M 6 0) 7 0) 5 0) (j := j) (mask := 0) (marks := m) (deep := 0) (post := fun x5 S4 => LX6_goes post 5 (nI j) m x5 S4) (hD.keptT hM3) (by decide) (fun S4 hk => key 4 0 rfl S4 (hG0 S4 hk))
  rw [i_and_0] at h0
  refine ⟨5, fun S1 e1 S2 e2 S3 e3 => ?_⟩
  subst e1; subst e2; subst e3
  exact h0
end WAY2
