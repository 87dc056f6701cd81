/-! cost and pots -/
theorem rel_K {nm nd ns nt : Nat} {C M : St} (h : RelN nm nd ns nt C M) : ∃ (po pr : Nat → Nat) (wa wn : Nat), wa ≤ 1000 ∧ wn ≤ 1000 ∧ (∀ i, i < ns → po i ≤ 200) ∧ (∀ i, i < ns → pr i ≤ 10000) ∧ C.1 6 = nI wa ∧ C.1 7 = nI wn ∧ M.1 9 = nI wa ∧ M.1 10 = nI wn ∧ (∀ i, i < ns → C.2.2 10 i = nI (po i) ∧ C.2.2 11 i = nI (pr i)) ∧ ∀ i, i < ns → M.2.2 7 i = nI (po i) ∧ M.2.2 8 i = nI (pr i) := by
  obtain ⟨-, -, -, -, -, -, -, -, hsz, ⟨wa, hwa, wa1, wa2⟩, ⟨wn, hwn, wn1, wn2⟩, -⟩ := h
  have hx : ∀ i, i < ns → (C.2.2 10 i).toNatClampNeg ≤ 200 ∧ C.2.2 10 i = nI (C.2.2 10 i).toNatClampNeg := fun i hi => by
    obtain ⟨-, -, ⟨x, -, hx, e⟩, -⟩ := hsz i hi
    rw [e, nI_clamp (by omega)]
    exact ⟨hx, rfl⟩
  have hy : ∀ i, i < ns → (C.2.2 11 i).toNatClampNeg ≤ 10000 ∧ C.2.2 11 i = nI (C.2.2 11 i).toNatClampNeg := fun i hi => by
    obtain ⟨-, -, -, ⟨x, -, hx, e⟩⟩ := hsz i hi
    rw [e, nI_clamp (by omega)]
    exact ⟨hx, rfl⟩
  refine ⟨fun i => (C.2.2 10 i).toNatClampNeg, fun i => (C.2.2 11 i).toNatClampNeg, wa, wn, hwa, hwn, fun i hi => (hx i hi).1, fun i hi => (hy i hi).1, wa1, wn1, wa2, wn2, fun i hi => ⟨(hx i hi).2, (hy i hi).2⟩, fun i hi => ⟨?_, ?_⟩⟩
  · rw [← (hsz i hi).1]; exact (hx i hi).2
  · rw [← (hsz i hi).2.1]; exact (hy i hi).2
def AskM (p0 p1 p2 : Int32) (M : St) (z : St → Prop) (q : Int32 → St → Prop) : Prop := ∃ k, PX6_isAsked k p0 p1 p2 M (fun x2 S1 => ((x2 = 0 → z S1) ∧ (¬ x2 = 0 → ∃ k : Nat, PX6_chooses k p0 p1 p2 S1 q)))
set_option maxHeartbeats 1000000 in
theorem both {C M : St} {p0 p1 p2 : Int32} {post : Int32 → St → Prop} {postx : String → St → Prop} (hR : Rel C M)
    (kx1 : (∀ z q, (∀ M1 : St, M1.1 0 = 1 → Rel C M1 → z M1) → AskM p0 p1 p2 M z q) → postx "java/lang/IndexOutOfBoundsException" C)
    (kx2 : (∀ z q, (∀ M1 : St, M1.1 0 = 2 → Rel C M1 → z M1) → AskM p0 p1 p2 M z q) → postx "java/lang/IllegalArgumentException" C)
    (k0 : ∀ S1 : St, (∀ z q, (∀ M1 : St, M1.1 0 = 0 → Rel S1 M1 → q 0 M1) → AskM p0 p1 p2 M z q) → post 0 S1)
    (k1 : ∀ (S1 : St) (ns : Nat) (x : Nat → Nat), ns ≤ 4 → S1.1 5 = nI ns → (∀ i, i < 4 → S1.2.2 15 i = nI (x i)) → (∀ z q, (∀ M1 : St, M1.1 0 = 0 → Rel S1 M1 → M1.1 8 = nI ns → (∀ i, i < 4 → M1.2.2 10 i = nI (x i)) → M1.2.1 2 = S1.2.1 0 → q 1 M1) → AskM p0 p1 p2 M z q) → post 1 S1) : PX5_findBestSet p0 p1 p2 C post postx := by
  obtain ⟨nm, nd, ns, nt, h⟩ := id hR
  obtain ⟨⟨b1, b2, b3, b4⟩, ⟨e1, e2, e3, e4, e5, e6, e7, e8⟩, -⟩ := id h
  obtain ⟨po, pr, wa, wn, hwa, hwn, hpo, hpr, wa1, wn1, wa2, wn2, hCk, hMk⟩ := rel_K h
  have hM1 : MK M (sI M 0 0) := Kp.rf.sI (by decide) _
  have bad : ∀ (z : St → Prop) (q : Int32 → St → Prop), (∀ M1 : St, M1.1 0 = 2 → Rel C M1 → z M1) → LX6_isAsked (fun x2 S1 => ((x2 = 0 → z S1) ∧ (¬ x2 = 0 → ∃ k : Nat, PX6_chooses k p0 p1 p2 S1 q))) 1 (sI M 0 0) := by
    intro z q hz
    show BX6_isAsked_0 _ _ _
    exact m_bad1 (b_1 (b_0 (hz _ (sI_g _ _ _) (hR.kept Kp.rf (hM1.sI (by decide) _)))))
  unfold PX5_findBestSet
  refine c_meal e1 b1 (fun j hj ej => ?_) (fun hx => kx1 (fun z q hz => ⟨1, m_isMeal_f e2 hx (b_0 (b_0 (hz _ (sI_g _ _ _) (hR.kept Kp.rf (Kp.rf.sI (by decide) _)))))⟩))
  subst ej
  obtain ⟨ea, hDC, hDM⟩ := rel_D h (show j < 6 by omega)
  refine c_within (fun h0 h0' => c_within (fun h1 h1' => ?_) (fun hx => kx2 (fun z q hz => ⟨1, ?_⟩))) (fun hx => kx2 (fun z q hz => ⟨1, ?_⟩))
  · obtain ⟨left, hl0, hl, rfl⟩ := i_of (lo := 0) (hi := 10000) (by omega) h1 h1' (by omega)
    have hG : KG ea wa wn nd ns left po pr := ⟨b3, b2, hwa, hwn, hl, hpo, hpr, fun d hd => (hDC.2.2.2 d hd).2⟩
    obtain ⟨A, hA⟩ : ∃ A, A = wA nd (C.2.2 5) (C.2.2 4) ea p1 4 := ⟨_, rfl⟩
    obtain ⟨p, hp⟩ : ∃ p, p = kn (C.2.2 5) (C.2.2 4) A p1 := ⟨_, rfl⟩
    -- the reference, whatever it is asked for
    have ref : ∀ (z : St → Prop) (q : Int32 → St → Prop), (sD p (fun _ => 1) nd = 0 → ∀ M1 : St, M1.1 0 = 0 → MK M M1 → q 0 M1) → (sD p (fun _ => 1) nd ≠ 0 → ∀ (M1 : St) (x : Nat → Nat), M1.1 0 = 0 → MK M M1 → M1.1 8 = nI ns → qK ns x → (∀ i, i < 4 → M1.2.2 10 i = nI (x i)) → M1.2.1 2 = lZ (qV p ea wa wn nd ns left po pr x : Nat) → (∀ y, qK ns y → qB (qV p ea wa wn nd ns left po pr) (qP ns po) (qN ns) x y) → q 1 M1) → AskM (nI j) p1 (nI left) M z q := by
      intro z q r0 r1
      refine ⟨1, m_isMeal_t e2 b1 hj (b_1 (m_bits_t h0 h0' (b_1 (b_f h1 (b_t h1' (m_bad0 (b_0 (b_1 ⟨nd + 600200, ?_⟩))))))))⟩
      refine m_goes (hDM.kept hM1) (fun S u hGo hu => ?_)
      obtain ⟨hMT, hu4, g5, g6, g7, -⟩ := hGo
      have hAu : wA nd (C.2.2 5) (C.2.2 4) ea p1 u = A := by
        rw [hA]
        rcases hu with rfl | hu
        · rfl
        · exact ((wA_stop hu 4 hu4).1).symm
      rw [hAu] at g6 g7
      have hMC : MC S nd j ea (C.2.2 5) (C.2.2 4) A p1 wa wn ns po pr := by
        refine ⟨(hDM.kept hM1).keptT hMT, g6, g7, ?_, ?_, ?_, fun i hi => ?_⟩
        · rw [hMT.1 8 (by decide), sI_n _ _ _ (by decide), e6]
        · rw [hMT.1 9 (by decide), sI_n _ _ _ (by decide), wa2]
        · rw [hMT.1 10 (by decide), sI_n _ _ _ (by decide), wn2]
        · rw [hMT.2 7 (by decide), hMT.2 8 (by decide)]
          exact hMk i hi
      have hS0 : S.1 0 = 0 := by rw [hMT.1 0 (by decide), sI_g]
      have hSK : MK M S := hM1.tr (MT_MK hMT)
      have main := m_choose0 (post := q) hG hMC hp (fun c => r0 c S hS0 hSK) (fun c S' x hK' hx h10 hJ hb => r1 c S' x (by rw [hK'.1 0 (by decide), hS0]) (hSK.tr (hK'.mono (by decide) (by decide))) (by rw [hK'.1 8 (by decide)]; exact hMC.2.2.2.1) hx h10 hJ hb) nd 0 (by omega) (nd + 600200) (Nat.le_refl _)
      rw [if_pos (show sD p (fun _ => 1) 0 = 0 from rfl)] at main
      exact main
    refine c_asked hDC rfl rfl (fun S1 hS1 => ?_)
    rw [← hA]
    refine c_readLeaf (p := p) (hDC.kept hS1) (by rw [hS1.2 5 (by decide), hS1.2 4 (by decide), hp]) (fun S7 hK7 g8 g9 gt => ?_)
    have hC7 : CK C S7 := hS1.tr (hK7.mono (by decide) (by decide))
    have hDn := sD_n (p := p) (n := nd)
    refine ⟨fun c => ?_, fun c => ?_⟩
    · have hz : sD p (fun _ => 1) nd = 0 := nI_inj (b := 0) (by omega) (by omega) (g8.symm.trans c)
      exact k0 S7 (fun z q hq => ref z q (fun _ M1 h00 hMK => hq M1 h00 (hR.kept hC7 hMK)) (fun hne => absurd hz hne))
    · have hz : sD p (fun _ => 1) nd ≠ 0 := fun e => c (by rw [g8, e]; rfl)
      have hKC : KC p ea wa wn nd ns po pr S7 := by
        refine ⟨by rw [hC7.1 5 (by decide), e5], by rw [hC7.1 6 (by decide), wa1], by rw [hC7.1 7 (by decide), wn1], g8, g9, fun i hi => ?_, gt⟩
        rw [hC7.2 10 (by decide), hC7.2 11 (by decide)]
        exact hCk i hi
      refine c_findBest hG hKC (fun S10 x hK10 hx h15 hJ hbest => ?_)
      have hC10 : CK C S10 := hC7.tr (hK10.mono (by decide) (by decide))
      refine k1 S10 ns x b3 (by rw [hC10.1 5 (by decide), e5]) h15 (fun z q hq => ref z q (fun he => absurd he hz) (fun _ M1 x' h00 hMK h8 hx' h10 hJ' hbest' => ?_))
      obtain ⟨v1, v2, v3, v4⟩ := qB_as (hbest x' hx') (hbest' x hx)
      have hxx := qC_inj hx.1 hx'.1 v4
      exact hq M1 h00 (hR.kept hC10 hMK) h8 (fun i hi => by rw [h10 i hi, hxx i hi]) (by rw [hJ', hJ, v1])
  · exact m_isMeal_t e2 b1 hj (b_1 (m_bits_t h0 h0' (b_1 ⟨fun _ => bad z q hz, fun c => ⟨fun c2 => absurd c2 (hx.resolve_left c), fun _ => bad z q hz⟩⟩)))
  · exact m_isMeal_t e2 b1 hj (b_1 (m_bits_f hx (b_0 (bad z q hz))))
theorem op_cost : Op_cost Rel := by
  intro C M p0 p1 p2 v hR
  unfold PX5_cost Q_cost PX6_cost
  refine both hR (fun hk => Or.inl ⟨rfl, ?_⟩) (fun hk => Or.inr ⟨rfl, ?_⟩) (fun S1 hk => b_0 ?_) (fun S1 ns x hn h5 h15 hk => b_1 ?_)
  · refine hk _ _ (fun M1 e r => ?_)
    exact ⟨e, fun h => absurd h (by decide), r⟩
  · refine hk _ _ (fun M1 e r => ?_)
    exact ⟨e, fun h => absurd h (by decide), r⟩
  · refine hk _ _ (fun M1 e r => ?_)
    exact b_0 ⟨e, fun _ => rfl, r⟩
  · refine hk _ _ (fun M1 e r h8 h10 hj => ?_)
    exact b_1 ⟨e, fun _ => hj.symm, r⟩
theorem op_pots : Op_pots Rel := by
  intro C M p0 p1 p2 p3 v hR
  unfold PX5_pots Q_pots PX6_pots
  refine both hR (fun hk => Or.inl ⟨rfl, ?_⟩) (fun hk => Or.inr ⟨rfl, ?_⟩) (fun S1 hk => b_0 ?_) (fun S1 ns x hn h5 h15 hk => b_1 ?_)
  · refine hk _ _ (fun M1 e r => ?_)
    exact ⟨e, fun h => absurd h (by decide), r⟩
  · refine hk _ _ (fun M1 e r => ?_)
    exact ⟨e, fun h => absurd h (by decide), r⟩
  · refine hk _ _ (fun M1 e r => ?_)
    exact b_0 ⟨e, fun _ => rfl, r⟩
  · unfold PX2_bestPotsOf
    rw [h5]
    refine ⟨fun c => ?_, fun c => ⟨fun c2 => ?_, fun c2 => ?_⟩⟩
    · refine hk _ _ (fun M1 e r h8 h10 hj => ?_)
      exact b_1 (b_t c ⟨e, fun _ => rfl, r⟩)
    · obtain ⟨q, hq, rfl⟩ := nI_of c
      have c2' := (nI_ltI hq (by omega)).mp c2
      have hin : vp_in (nI q) 4 := vp_in_nI (by omega) (by omega)
      have hcl : (nI q).toNatClampNeg = q := nI_clamp hq
      refine ⟨hin, hk _ _ (fun M1 e r h8 h10 hj => b_1 (b_f c (b_f ?_ ⟨hin, e, fun _ => ?_, r⟩)))⟩
      · rw [h8]
        exact fun e => absurd ((nI_leI (by omega) hq).mp e) (by omega)
      · rw [hcl, h15 q (by omega), h10 q (by omega)]
    · refine hk _ _ (fun M1 e r h8 h10 hj => b_1 (b_f c (b_t ?_ ⟨e, fun _ => rfl, r⟩)))
      rw [h8]
      exact i_nlt.mp c2
