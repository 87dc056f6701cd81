/-! leaves, split, leaf -/
theorem rel_D {nm nd ns nt j : Nat} {C M : St} (h : RelN nm nd ns nt C M) (hj : j < 6) : ∃ ea, DC C nd j ea ∧ DM M nd j ea (C.2.2 5) (C.2.2 4) := by
  obtain ⟨⟨b1, b2, b3, b4⟩, ⟨e1, e2, e3, e4, e5, e6, e7, e8⟩, -, -, hday, -, -, heat, -⟩ := h
  have key : ∀ d, d < nd → C.2.2 6 (d * 6 + j) = nI (C.2.2 6 (d * 6 + j)).toNatClampNeg ∧ (C.2.2 6 (d * 6 + j)).toNatClampNeg ≤ 1000 := fun d hd => by
    obtain ⟨-, x, hx, e⟩ := heat (d * 6 + j) (by omega)
    rw [e, nI_clamp (by omega)]
    exact ⟨rfl, hx⟩
  refine ⟨fun d => (C.2.2 6 (d * 6 + j)).toNatClampNeg, ⟨b2, hj, e3, key⟩, ⟨b2, hj, e4, fun d hd => ⟨?_, (key d hd).2, ?_, (hday d hd).1.symm⟩⟩⟩
  · rw [← (heat (6 * d + j) (by omega)).1, show 6 * d + j = d * 6 + j by omega]
    exact (key d hd).1
  · rcases (hday d hd).2 with ⟨q1, q2⟩ | ⟨q1, q2⟩
    · rw [q1, q2]; simp
    · rw [q1, q2]; simp
theorem op_leaves : Op_leaves Rel := by
  intro C M p0 v hR
  obtain ⟨nm, nd, ns, nt, h⟩ := id hR
  obtain ⟨⟨b1, b2, b3, b4⟩, ⟨e1, e2, e3, e4, e5, e6, e7, e8⟩, -⟩ := id h
  refine c_meal e1 b1 (fun j hj ej => ?_) (fun hx => ⟨rfl, ?_⟩)
  · subst ej
    obtain ⟨ea, hDC, hDM⟩ := rel_D h (show j < 6 by omega)
    refine c_leaves (nd := nd) (aw := C.2.2 5) (mk := C.2.2 4) (ea := ea) 4 8 (by omega) (by omega) 0 0 C _ hDC rfl rfl (fun S1 hS1 => ?_)
    unfold Q_leaves PX6_leaves
    refine m_isMeal_t e2 b1 hj (b_1 ?_)
    have hM1 : MK M (sI M 0 0) := Kp.rf.sI (by decide) _
    refine m_leaves (nd := nd) (aw := C.2.2 5) (mk := C.2.2 4) (ea := ea) 4 8 (by omega) (by omega) 0 0 (sI M 0 0) _ (i_0_and 0) (hDM.kept hM1) (fun S2 hS2 => ?_)
    exact ⟨by rw [hS2.1 0 (by decide), sI_g], fun _ => rfl, hR.kept hS1 (hM1.tr (MT_MK hS2))⟩
  · unfold Q_leaves PX6_leaves
    exact m_isMeal_f e2 hx (b_0 ⟨sI_g _ _ _, fun e => absurd e (by decide), hR.kept Kp.rf (Kp.rf.sI (by decide) _)⟩)
theorem op_split : Op_split Rel := by
  intro C M p0 p1 p2 v hR
  obtain ⟨nm, nd, ns, nt, h⟩ := id hR
  obtain ⟨⟨b1, b2, b3, b4⟩, ⟨e1, e2, e3, e4, e5, e6, e7, e8⟩, -⟩ := id h
  have hM1 : MK M (sI M 0 0) := Kp.rf.sI (by decide) _
  refine c_meal e1 b1 (fun j hj ej => ?_) (fun hx => Or.inl ⟨rfl, ?_⟩)
  · subst ej
    obtain ⟨ea, hDC, hDM⟩ := rel_D h (show j < 6 by omega)
    refine c_within (fun h0 h0' => ?_) (fun hx => Or.inr ⟨rfl, ?_⟩)
    · have fin : ∀ (r : Int32) (S1 : St), CK C S1 → (∀ w, w ≤ 4 → (∀ q, q < w → wM nd (C.2.2 5) (C.2.2 4) ea p1 q ≠ -1) → (w = 4 ∨ wM nd (C.2.2 5) (C.2.2 4) ea p1 w = -1) → (p2 < 0 → r = -1) ∧ (∀ kk, kk < 2 ^ 31 → p2 = nI kk → (w ≤ kk → r = -1) ∧ (kk < w → r = wM nd (C.2.2 5) (C.2.2 4) ea p1 kk))) → Q_split Rel (nI j) p1 p2 M 0 r.toInt64 S1 := by
        intro r S1 hS1 hr
        unfold Q_split PX6_split
        refine m_isMeal_t e2 b1 hj (b_1 (m_bits_t h0 h0' (b_1 (m_bad0 (b_0 (m_goes (hDM.kept hM1) (fun S w hG hw => ?_)))))))
        obtain ⟨hMT, hw4, g5, -, -, hq⟩ := hG
        obtain ⟨r1, r2⟩ := hr w hw4 (fun q hq1 => (hq q hq1).2) hw
        have hend : S.1 0 = 0 ∧ Rel S1 S := ⟨by rw [hMT.1 0 (by decide), sI_g], hR.kept hS1 (hM1.tr (MT_MK hMT))⟩
        refine ⟨fun hp => ⟨hend.1, fun _ => by rw [r1 hp], hend.2⟩, fun hp => ?_⟩
        obtain ⟨kk, hkk, rfl⟩ := nI_of hp
        rw [g5]
        refine ⟨fun h5 => ⟨hend.1, fun _ => by rw [(r2 kk hkk rfl).1 ((nI_leI (by omega) hkk).mp h5)], hend.2⟩, fun h5 => ?_⟩
        have hlt : kk < w := by
          rcases Nat.lt_or_ge kk w with h9 | h9
          · exact h9
          · exact absurd (nI_le h9 hkk) h5
        rw [nI_clamp hkk, (hq kk hlt).1]
        exact ⟨vp_in_nI (by omega) (by omega), hend.1, fun _ => by rw [(r2 kk hkk rfl).2 hlt], hend.2⟩
      by_cases hp : p2 < 0
      · refine ⟨0, b_t hp (fin (-1) C Kp.rf (fun w hw4 hq hw => ⟨fun _ => rfl, fun kk hkk ek => ?_⟩))⟩
        rw [ek] at hp; exact absurd hp (nI_pos hkk)
      · obtain ⟨kk, hkk, rfl⟩ := nI_of hp
        rcases Nat.lt_or_ge kk 4 with h4 | h4
        · refine c_wayMark hDC rfl rfl h4 (fun S1 hS1 => fin _ S1 hS1 (fun w hw4 hq hw => ⟨fun h9 => absurd h9 hp, fun k2 hk2 ek => ?_⟩))
          have : kk = k2 := nI_inj hkk hk2 ek
          subst this
          refine ⟨fun h9 => ?_, fun _ => rfl⟩
          rcases hw with rfl | hw
          · omega
          · exact (wA_stop hw kk h9).2
        · refine ⟨0, b_f hp (b_f (fun e => absurd ((nI_ltI (b := 4) hkk (by omega)).mp e) (by omega)) (fin (-1) C Kp.rf (fun w hw4 hq hw => ⟨fun _ => rfl, fun k2 hk2 ek => ?_⟩)))⟩
          have : kk = k2 := nI_inj hkk hk2 ek
          subst this
          exact ⟨fun _ => rfl, fun h9 => absurd h9 (by omega)⟩
    · unfold Q_split PX6_split
      exact m_isMeal_t e2 b1 hj (b_1 (m_bits_f hx (b_0 (m_bad1 (b_1 ⟨sI_g _ _ _, fun e => absurd e (by decide), hR.kept Kp.rf (hM1.sI (by decide) _)⟩)))))
  · unfold Q_split PX6_split
    exact m_isMeal_f e2 hx (b_0 ⟨sI_g _ _ _, fun e => absurd e (by decide), hR.kept Kp.rf (Kp.rf.sI (by decide) _)⟩)
