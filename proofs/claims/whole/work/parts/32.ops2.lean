theorem RelN.told {nm nd ns nt : Nat} {C M C1 M1 : St} (h : RelN nm nd ns nt C M) (hc : Kp cI (3 :: cR) C C1) (hm : Kp mI (2 :: mR) M M1) (g3 : (∀ i, i < 6 → C1.2.2 3 i = M1.2.2 2 i ∧ (∃ x, x ≤ 1000 ∧ C1.2.2 3 i = nI x) ∧ (nm ≤ i → C1.2.2 3 i = 0))) : RelN nm nd ns nt C1 M1 := by
  obtain ⟨hb, he, h1, h2, h3, h4, h5, h6, h7, h8, h9, h10⟩ := h
  refine ⟨hb, ?_, ?_, g3, ?_, ?_, ?_, ?_, ?_, ?_, ?_, ?_⟩
  · rw [hc.1 0 (by decide), hc.1 1 (by decide), hc.1 5 (by decide), hc.1 13 (by decide), hm.1 1 (by decide), hm.1 2 (by decide), hm.1 8 (by decide), hm.1 14 (by decide)]; exact he
  · rw [hc.2 0 (by decide), hc.2 1 (by decide), hm.2 0 (by decide), hm.2 1 (by decide)]; exact h1
  · rw [hc.2 4 (by decide), hc.2 5 (by decide), hm.2 3 (by decide), hm.2 5 (by decide)]; exact h3
  · rw [hc.2 5 (by decide)]; exact h4
  · rw [hc.1 2 (by decide), hc.2 5 (by decide)]; exact h5
  · rw [hc.2 6 (by decide), hm.2 4 (by decide)]; exact h6
  · rw [hc.2 10 (by decide), hc.2 11 (by decide), hm.2 7 (by decide), hm.2 8 (by decide)]; exact h7
  · rw [hc.1 6 (by decide), hm.1 9 (by decide)]; exact h8
  · rw [hc.1 7 (by decide), hm.1 10 (by decide)]; exact h9
  · rw [hc.2 16 (by decide), hm.2 13 (by decide)]; exact h10
theorem RelN.dayadd {nm nd ns nt : Nat} {C M C1 M1 : St} (h : RelN nm nd ns nt C M) (nd1 : Nat) (hc : Kp (1 :: cI) (3 :: 4 :: 6 :: cR) C C1) (hm : Kp (2 :: mI) (2 :: 3 :: 4 :: 5 :: mR) M M1) (g0 : (nm ≤ 6 ∧ nd1 ≤ 150 ∧ ns ≤ 4 ∧ nt ≤ 60)) (g1 : (C1.1 0 = nI nm ∧ M1.1 1 = nI nm ∧ C1.1 1 = nI nd1 ∧ M1.1 2 = nI nd1 ∧ C1.1 5 = nI ns ∧ M1.1 8 = nI ns ∧ C1.1 13 = nI nt ∧ M1.1 14 = nI nt)) (g3 : (∀ i, i < 6 → C1.2.2 3 i = M1.2.2 2 i ∧ (∃ x, x ≤ 1000 ∧ C1.2.2 3 i = nI x) ∧ (nm ≤ i → C1.2.2 3 i = 0))) (g4 : (∀ d, d < nd1 → C1.2.2 4 d = M1.2.2 3 d ∧ ((C1.2.2 5 d = 0 ∧ M1.2.2 5 d = 1) ∨ (C1.2.2 5 d = 1 ∧ M1.2.2 5 d = 0)))) (g5 : (∀ d, nd1 ≤ d → C1.2.2 5 d = 0)) (g6 : C1.1 2 = nI (cntA (C1.2.2 5) nd1)) (g7 : (∀ j, j < 6 * nd1 → C1.2.2 6 j = M1.2.2 4 j ∧ ∃ x, x ≤ 1000 ∧ C1.2.2 6 j = nI x)) : RelN nm nd1 ns nt C1 M1 := by
  obtain ⟨hb, he, h1, h2, h3, h4, h5, h6, h7, h8, h9, h10⟩ := h
  refine ⟨g0, g1, ?_, g3, g4, g5, g6, g7, ?_, ?_, ?_, ?_⟩
  · rw [hc.2 0 (by decide), hc.2 1 (by decide), hm.2 0 (by decide), hm.2 1 (by decide)]; exact h1
  · rw [hc.2 10 (by decide), hc.2 11 (by decide), hm.2 7 (by decide), hm.2 8 (by decide)]; exact h7
  · rw [hc.1 6 (by decide), hm.1 9 (by decide)]; exact h8
  · rw [hc.1 7 (by decide), hm.1 10 (by decide)]; exact h9
  · rw [hc.2 16 (by decide), hm.2 13 (by decide)]; exact h10
theorem RelN.drop {nm nd ns nt : Nat} {C M C1 M1 : St} (h : RelN nm nd ns nt C M) (hc : Kp (2 :: cI) (5 :: cR) C C1) (hm : Kp mI (5 :: mR) M M1) (g4 : (∀ d, d < nd → C1.2.2 4 d = M1.2.2 3 d ∧ ((C1.2.2 5 d = 0 ∧ M1.2.2 5 d = 1) ∨ (C1.2.2 5 d = 1 ∧ M1.2.2 5 d = 0)))) (g5 : (∀ d, nd ≤ d → C1.2.2 5 d = 0)) (g6 : C1.1 2 = nI (cntA (C1.2.2 5) nd)) : RelN nm nd ns nt C1 M1 := by
  obtain ⟨hb, he, h1, h2, h3, h4, h5, h6, h7, h8, h9, h10⟩ := h
  refine ⟨hb, ?_, ?_, ?_, g4, g5, g6, ?_, ?_, ?_, ?_, ?_⟩
  · rw [hc.1 0 (by decide), hc.1 1 (by decide), hc.1 5 (by decide), hc.1 13 (by decide), hm.1 1 (by decide), hm.1 2 (by decide), hm.1 8 (by decide), hm.1 14 (by decide)]; exact he
  · rw [hc.2 0 (by decide), hc.2 1 (by decide), hm.2 0 (by decide), hm.2 1 (by decide)]; exact h1
  · rw [hc.2 3 (by decide), hm.2 2 (by decide)]; exact h2
  · rw [hc.2 6 (by decide), hm.2 4 (by decide)]; exact h6
  · rw [hc.2 10 (by decide), hc.2 11 (by decide), hm.2 7 (by decide), hm.2 8 (by decide)]; exact h7
  · rw [hc.1 6 (by decide), hm.1 9 (by decide)]; exact h8
  · rw [hc.1 7 (by decide), hm.1 10 (by decide)]; exact h9
  · rw [hc.2 16 (by decide), hm.2 13 (by decide)]; exact h10
theorem RelN.size {nm nd ns nt : Nat} {C M C1 M1 : St} (h : RelN nm nd ns nt C M) (ns1 : Nat) (hc : Kp (5 :: cI) (10 :: 11 :: cR) C C1) (hm : Kp (8 :: mI) (7 :: 8 :: mR) M M1) (g0 : (nm ≤ 6 ∧ nd ≤ 150 ∧ ns1 ≤ 4 ∧ nt ≤ 60)) (g1 : (C1.1 0 = nI nm ∧ M1.1 1 = nI nm ∧ C1.1 1 = nI nd ∧ M1.1 2 = nI nd ∧ C1.1 5 = nI ns1 ∧ M1.1 8 = nI ns1 ∧ C1.1 13 = nI nt ∧ M1.1 14 = nI nt)) (g8 : (∀ i, i < ns1 → C1.2.2 10 i = M1.2.2 7 i ∧ C1.2.2 11 i = M1.2.2 8 i ∧ (∃ x, 1 ≤ x ∧ x ≤ 200 ∧ C1.2.2 10 i = nI x) ∧ (∃ x, 1 ≤ x ∧ x ≤ 10000 ∧ C1.2.2 11 i = nI x))) : RelN nm nd ns1 nt C1 M1 := by
  obtain ⟨hb, he, h1, h2, h3, h4, h5, h6, h7, h8, h9, h10⟩ := h
  refine ⟨g0, g1, ?_, ?_, ?_, ?_, ?_, ?_, g8, ?_, ?_, ?_⟩
  · rw [hc.2 0 (by decide), hc.2 1 (by decide), hm.2 0 (by decide), hm.2 1 (by decide)]; exact h1
  · rw [hc.2 3 (by decide), hm.2 2 (by decide)]; exact h2
  · rw [hc.2 4 (by decide), hc.2 5 (by decide), hm.2 3 (by decide), hm.2 5 (by decide)]; exact h3
  · rw [hc.2 5 (by decide)]; exact h4
  · rw [hc.1 2 (by decide), hc.2 5 (by decide)]; exact h5
  · rw [hc.2 6 (by decide), hm.2 4 (by decide)]; exact h6
  · rw [hc.1 6 (by decide), hm.1 9 (by decide)]; exact h8
  · rw [hc.1 7 (by decide), hm.1 10 (by decide)]; exact h9
  · rw [hc.2 16 (by decide), hm.2 13 (by decide)]; exact h10
theorem RelN.prices {nm nd ns nt : Nat} {C M C1 M1 : St} (h : RelN nm nd ns nt C M) (hc : Kp (6 :: 7 :: cI) cR C C1) (hm : Kp (9 :: 10 :: mI) mR M M1) (g9 : (∃ x, x ≤ 1000 ∧ C1.1 6 = nI x ∧ M1.1 9 = nI x)) (g10 : (∃ x, x ≤ 1000 ∧ C1.1 7 = nI x ∧ M1.1 10 = nI x)) : RelN nm nd ns nt C1 M1 := by
  obtain ⟨hb, he, h1, h2, h3, h4, h5, h6, h7, h8, h9, h10⟩ := h
  refine ⟨hb, ?_, ?_, ?_, ?_, ?_, ?_, ?_, ?_, g9, g10, ?_⟩
  · rw [hc.1 0 (by decide), hc.1 1 (by decide), hc.1 5 (by decide), hc.1 13 (by decide), hm.1 1 (by decide), hm.1 2 (by decide), hm.1 8 (by decide), hm.1 14 (by decide)]; exact he
  · rw [hc.2 0 (by decide), hc.2 1 (by decide), hm.2 0 (by decide), hm.2 1 (by decide)]; exact h1
  · rw [hc.2 3 (by decide), hm.2 2 (by decide)]; exact h2
  · rw [hc.2 4 (by decide), hc.2 5 (by decide), hm.2 3 (by decide), hm.2 5 (by decide)]; exact h3
  · rw [hc.2 5 (by decide)]; exact h4
  · rw [hc.1 2 (by decide), hc.2 5 (by decide)]; exact h5
  · rw [hc.2 6 (by decide), hm.2 4 (by decide)]; exact h6
  · rw [hc.2 10 (by decide), hc.2 11 (by decide), hm.2 7 (by decide), hm.2 8 (by decide)]; exact h7
  · rw [hc.2 16 (by decide), hm.2 13 (by decide)]; exact h10
theorem RelN.line {nm nd ns nt : Nat} {C M C1 M1 : St} (h : RelN nm nd ns nt C M) (nt1 : Nat) (hc : Kp (13 :: cI) (16 :: cR) C C1) (hm : Kp (14 :: mI) (13 :: mR) M M1) (g0 : (nm ≤ 6 ∧ nd ≤ 150 ∧ ns ≤ 4 ∧ nt1 ≤ 60)) (g1 : (C1.1 0 = nI nm ∧ M1.1 1 = nI nm ∧ C1.1 1 = nI nd ∧ M1.1 2 = nI nd ∧ C1.1 5 = nI ns ∧ M1.1 8 = nI ns ∧ C1.1 13 = nI nt1 ∧ M1.1 14 = nI nt1)) (g11 : (∀ i, i < nt1 → C1.2.2 16 i = M1.2.2 13 i ∧ ∃ x, x ≤ 100 ∧ C1.2.2 16 i = nI x)) : RelN nm nd ns nt1 C1 M1 := by
  obtain ⟨hb, he, h1, h2, h3, h4, h5, h6, h7, h8, h9, h10⟩ := h
  refine ⟨g0, g1, ?_, ?_, ?_, ?_, ?_, ?_, ?_, ?_, ?_, g11⟩
  · rw [hc.2 0 (by decide), hc.2 1 (by decide), hm.2 0 (by decide), hm.2 1 (by decide)]; exact h1
  · rw [hc.2 3 (by decide), hm.2 2 (by decide)]; exact h2
  · rw [hc.2 4 (by decide), hc.2 5 (by decide), hm.2 3 (by decide), hm.2 5 (by decide)]; exact h3
  · rw [hc.2 5 (by decide)]; exact h4
  · rw [hc.1 2 (by decide), hc.2 5 (by decide)]; exact h5
  · rw [hc.2 6 (by decide), hm.2 4 (by decide)]; exact h6
  · rw [hc.2 10 (by decide), hc.2 11 (by decide), hm.2 7 (by decide), hm.2 8 (by decide)]; exact h7
  · rw [hc.1 6 (by decide), hm.1 9 (by decide)]; exact h8
  · rw [hc.1 7 (by decide), hm.1 10 (by decide)]; exact h9
theorem op_ate : Op_ate Rel := by
  intro C M p0 p1 v hR
  obtain ⟨nm, nd, ns, nt, h⟩ := id hR
  obtain ⟨⟨b1, b2, b3, b4⟩, ⟨e1, e2, e3, e4, e5, e6, e7, e8⟩, hmenu, htold, -⟩ := id h
  refine c_meal e1 b1 (fun j hj ej => ?_) (fun hx => Or.inl ⟨rfl, 1, ?_⟩)
  · subst ej
    have hin : vp_in (nI j) 6 := vp_in_nI (by omega) (by omega)
    have hcl : (nI j).toNatClampNeg = j := nI_clamp (by omega)
    refine c_within (fun h0 h0' => ?_) (fun hx => Or.inr ⟨rfl, 1, ?_⟩)
    · obtain ⟨y, -, hy, rfl⟩ := i_of (lo := 0) (hi := 1000) (by omega) h0 h0' (by omega)
      refine ⟨hin, fun x2 ex => ⟨hin, fun S4 e => ?_⟩⟩
      subst ex; subst e
      refine ⟨1, m_isMeal_t e2 b1 hj (b_1 (b_f h0 (b_t h0' ?_)))⟩
      show BX6_ate_0 _ _ (nI j) (nI y) 0 _
      refine m_bad0 (b_0 ⟨hin, fun x ex => ⟨hin, fun S5 e => ?_⟩⟩)
      subst ex; subst e
      rw [hcl]
      refine ⟨by rw [sR_I, sI_g], fun _ => by rw [sI_R, (htold j (by omega)).1], nm, nd, ns, nt, h.told (Kp.rf.sR (by decide) _) ((Kp.rf.sI (by decide) _).sR (by decide) _) (fun i hi => ?_)⟩
      rw [sR_g, sR_g, sI_R]
      by_cases hij : i = j
      · subst hij
        rw [upd_g, upd_g]
        exact ⟨rfl, ⟨y, hy, rfl⟩, fun h => absurd h (by omega)⟩
      · rw [upd_n _ _ _ hij, upd_n _ _ _ hij]
        exact htold i hi
    · refine m_isMeal_t e2 b1 hj (b_1 ?_)
      have key : ∃ z : Unit, LX6_ate (fun b M1 => M1.1 0 = 2 ∧ ((2 : Int32) = 0 → v = b.toInt64) ∧ Rel C M1) 1 (nI j) p1 1 (sI M 0 0) := by
        refine ⟨(), ?_⟩
        show BX6_ate_0 _ _ (nI j) p1 1 _
        exact m_bad1 (b_1 ⟨sI_g _ _ _, fun e => absurd e (by decide), hR.kept Kp.rf ((Kp.rf.sI (by decide) _).sI (by decide) _)⟩)
      obtain ⟨-, key⟩ := key
      exact ⟨fun _ => key, fun h1 => ⟨fun h2 => absurd h2 (hx.resolve_left h1), fun _ => key⟩⟩
  · exact m_isMeal_f e2 hx (b_0 ⟨sI_g _ _ _, fun e => absurd e (by decide), hR.kept Kp.rf (Kp.rf.sI (by decide) _)⟩)
theorem op_size : Op_size Rel := by
  intro C M p0 p1 v hR
  obtain ⟨nm, nd, ns, nt, h⟩ := id hR
  obtain ⟨⟨b1, b2, b3, b4⟩, ⟨e1, e2, e3, e4, e5, e6, e7, e8⟩, -, -, -, -, -, -, hsz, -⟩ := id h
  have bad : ∃ n : Nat, LX6_size (fun b M1 => M1.1 0 = 1 ∧ ((1 : Int32) = 0 → v = b.toInt64) ∧ Rel C M1) n p0 p1 1 (sI M 0 0) := by
    refine ⟨1, ?_⟩
    show BX6_size_0 _ _ p0 p1 1 _
    exact m_bad1 (b_1 ⟨sI_g _ _ _, fun e => absurd e (by decide), hR.kept Kp.rf ((Kp.rf.sI (by decide) _).sI (by decide) _)⟩)
  obtain ⟨nb, bad⟩ := bad
  refine c_within (fun h0 h0' => c_within (fun h1 h1' => ⟨fun hf => ?_, fun hf => ?_⟩) (fun hx => Or.inl ⟨rfl, nb, ?_⟩)) (fun hx => Or.inl ⟨rfl, nb, ?_⟩)
  · obtain ⟨y, hy1, hy2, rfl⟩ := i_of (lo := 1) (hi := 200) (by omega) h0 h0' (by omega)
    obtain ⟨z, hz1, hz2, rfl⟩ := i_of (lo := 1) (hi := 10000) (by omega) h1 h1' (by omega)
    have hlt : ns < 4 := by
      rw [e5] at hf
      exact (nI_ltI (a := ns) (b := 4) (by omega) (by omega)).mp hf
    have hin : vp_in (nI ns) 4 := vp_in_nI hlt (by omega)
    have hcl : (nI ns).toNatClampNeg = ns := nI_clamp (by omega)
    refine ⟨by rw [e5]; exact hin, fun S2 e => ⟨by rw [e, sR_I, e5]; exact hin, fun S4 e' S5 e'' => ?_⟩⟩
    subst e; subst e'; subst e''
    refine ⟨1, fun S1 e => b_f h0 (b_f (i_nlt.mpr h0') (b_f h1 (b_t h1' ?_)))⟩
    subst e
    show BX6_size_0 _ _ (nI y) (nI z) 0 _
    have em : (sI M 0 0).1 8 = nI ns := by rw [sI_n _ _ _ (by decide), e6]
    refine m_bad0 (b_0 (b_f ?_ (m_bad0 (b_0 ⟨by rw [em]; exact hin, fun S3 e => ⟨by rw [e, sR_I, em]; exact hin, fun S4 e' S5 e'' => ?_⟩⟩))))
    · rw [em]
      exact fun e => absurd (nI_inj (b := 4) (by omega) (by omega) e) (by omega)
    subst e; subst e'; subst e''
    simp only [sR_I, e5, em, hcl, nI_1, sI_g]
    refine ⟨by rw [sI_n _ _ _ (by decide), sR_I, sR_I, sI_g], fun _ => trivial, nm, nd, ns + 1, nt, h.size (ns + 1) ((Kp.rf.sR (by decide) _).sR (by decide) _ |>.sI (by decide) _) (((Kp.rf.sI (by decide) _).sR (by decide) _).sR (by decide) _ |>.sI (by decide) _) ⟨b1, b2, by omega, b4⟩ ⟨?_, ?_, ?_, ?_, sI_g _ _ _, sI_g _ _ _, ?_, ?_⟩ (fun i hi => ?_)⟩
    · rw [sI_n _ _ _ (by decide)]; exact e1
    · rw [sI_n _ _ _ (by decide), sR_I, sR_I, sI_n _ _ _ (by decide)]; exact e2
    · rw [sI_n _ _ _ (by decide)]; exact e3
    · rw [sI_n _ _ _ (by decide), sR_I, sR_I, sI_n _ _ _ (by decide)]; exact e4
    · rw [sI_n _ _ _ (by decide)]; exact e7
    · rw [sI_n _ _ _ (by decide), sR_I, sR_I, sI_n _ _ _ (by decide)]; exact e8
    · rw [sI_R, sI_R, sR_g, sR_g, sR_n _ _ _ (show (10 : Nat) ≠ 11 by decide), sR_n _ _ _ (show (7 : Nat) ≠ 8 by decide), sR_g, sR_g, sR_n _ _ _ (show (11 : Nat) ≠ 10 by decide), sR_n _ _ _ (show (8 : Nat) ≠ 7 by decide), sI_R]
      by_cases hij : i = ns
      · subst hij
        rw [upd_g, upd_g, upd_g, upd_g]
        exact ⟨rfl, rfl, ⟨y, hy1, hy2, rfl⟩, ⟨z, hz1, hz2, rfl⟩⟩
      · rw [upd_n _ _ _ hij, upd_n _ _ _ hij, upd_n _ _ _ hij, upd_n _ _ _ hij]
        exact hsz i (by omega)
  · refine Or.inr ⟨rfl, 1, fun S1 e => b_f h0 (b_f (i_nlt.mpr h0') (b_f h1 (b_t h1' ?_)))⟩
    subst e
    have h4 : ns = 4 := by
      rw [e5] at hf
      have : ¬ ns < 4 := fun h => hf (nI_lt (a := ns) (b := 4) h (by omega))
      omega
    show BX6_size_0 _ _ p0 p1 0 _
    refine m_bad0 (b_0 (b_t ?_ (m_bad1 (b_1 ⟨sI_g _ _ _, fun e => absurd e (by decide), hR.kept Kp.rf ((Kp.rf.sI (by decide) _).sI (by decide) _)⟩))))
    rw [sI_n _ _ _ (by decide), e6, h4]; rfl
  · intro S1 e
    subst e
    refine b_f h0 (b_f (i_nlt.mpr h0') ⟨fun _ => bad, fun h1 => ⟨fun h2 => absurd h2 (hx.resolve_left h1), fun _ => bad⟩⟩)
  · intro S1 e
    subst e
    refine ⟨fun _ => bad, fun h1 => ⟨fun _ => bad, fun h2 => absurd (i_nlt.mp h2) (hx.resolve_left h1)⟩⟩
theorem op_prices : Op_prices Rel := by
  intro C M p0 p1 v hR
  obtain ⟨nm, nd, ns, nt, h⟩ := id hR
  have bad : ∃ n : Nat, LX6_prices (fun M1 => M1.1 0 = 1 ∧ Rel C M1) n p0 p1 1 (sI M 0 0) := by
    refine ⟨1, ?_⟩
    show BX6_prices_0 _ _ p0 p1 1 _
    exact m_bad1 (b_1 ⟨sI_g _ _ _, hR.kept Kp.rf ((Kp.rf.sI (by decide) _).sI (by decide) _)⟩)
  obtain ⟨nb, bad⟩ := bad
  refine c_within (fun h0 h0' => c_within (fun h1 h1' => ?_) (fun hx => ⟨rfl, nb, ?_⟩)) (fun hx => ⟨rfl, nb, ?_⟩)
  · obtain ⟨y, -, hy2, rfl⟩ := i_of (lo := 0) (hi := 1000) (by omega) h0 h0' (by omega)
    obtain ⟨z, -, hz2, rfl⟩ := i_of (lo := 0) (hi := 1000) (by omega) h1 h1' (by omega)
    intro S3 e S4 e'
    subst e; subst e'
    refine ⟨1, fun S1 e => b_f h0 (b_f (i_nlt.mpr h0') (b_f h1 (b_t h1' ?_)))⟩
    subst e
    show BX6_prices_0 _ _ (nI y) (nI z) 0 _
    refine m_bad0 (b_0 (fun S3 e S4 e' => ?_))
    subst e; subst e'
    refine ⟨by rw [sI_n _ _ _ (by decide), sI_n _ _ _ (by decide), sI_g], nm, nd, ns, nt, h.prices ((Kp.rf.sI (by decide) _).sI (by decide) _) (((Kp.rf.sI (by decide) _).sI (by decide) _).sI (by decide) _) ⟨y, hy2, ?_, ?_⟩ ⟨z, hz2, sI_g _ _ _, sI_g _ _ _⟩⟩
    · rw [sI_n _ _ _ (by decide), sI_g]
    · rw [sI_n _ _ _ (by decide), sI_g]
  · intro S1 e
    subst e
    refine b_f h0 (b_f (i_nlt.mpr h0') ⟨fun _ => bad, fun h1 => ⟨fun h2 => absurd h2 (hx.resolve_left h1), fun _ => bad⟩⟩)
  · intro S1 e
    subst e
    refine ⟨fun _ => bad, fun h1 => ⟨fun _ => bad, fun h2 => absurd (i_nlt.mp h2) (hx.resolve_left h1)⟩⟩
theorem op_come : Op_come Rel := by
  intro C M p0 v hR
  obtain ⟨nm, nd, ns, nt, h⟩ := id hR
  obtain ⟨⟨b1, b2, b3, b4⟩, ⟨e1, e2, e3, e4, e5, e6, e7, e8⟩, -, -, -, -, -, -, -, -, -, hln⟩ := id h
  have em : (sI M 0 0).1 14 = nI nt := by rw [sI_n _ _ _ (by decide), e8]
  refine c_within (fun h0 h0' => ⟨fun hf => ?_, fun hf => ?_⟩) (fun hx => ⟨rfl, 1, ?_⟩)
  · obtain ⟨y, -, hy2, rfl⟩ := i_of (lo := 0) (hi := 100) (by omega) h0 h0' (by omega)
    have hlt : nt < 60 := by
      rw [e7] at hf
      exact (nI_ltI (a := nt) (b := 60) (by omega) (by omega)).mp hf
    have hin : vp_in (nI nt) 60 := vp_in_nI hlt (by omega)
    have hcl : (nI nt).toNatClampNeg = nt := nI_clamp (by omega)
    refine ⟨by rw [e7]; exact hin, fun S2 e S3 e' => ?_⟩
    subst e; subst e'
    refine ⟨1, fun S1 e => b_f h0 (b_t h0' ?_)⟩
    subst e
    show BX6_come_0 _ _ (nI y) 0 _
    refine m_bad0 (b_0 (b_f ?_ ⟨by rw [em]; exact hin, fun S3 e S4 e' => ?_⟩))
    · rw [em]
      exact fun e => absurd (nI_inj (b := 60) (by omega) (by omega) e) (by omega)
    subst e; subst e'
    simp only [sR_I, e7, em, hcl, nI_1, sI_g]
    refine ⟨by rw [sI_n _ _ _ (by decide), sR_I, sI_g], fun _ => trivial, nm, nd, ns, nt + 1, h.line (nt + 1) ((Kp.rf.sR (by decide) _).sI (by decide) _) (((Kp.rf.sI (by decide) _).sR (by decide) _).sI (by decide) _) ⟨b1, b2, b3, by omega⟩ ⟨?_, ?_, ?_, ?_, ?_, ?_, sI_g _ _ _, sI_g _ _ _⟩ (fun i hi => ?_)⟩
    · rw [sI_n _ _ _ (by decide)]; exact e1
    · rw [sI_n _ _ _ (by decide), sR_I, sI_n _ _ _ (by decide)]; exact e2
    · rw [sI_n _ _ _ (by decide)]; exact e3
    · rw [sI_n _ _ _ (by decide), sR_I, sI_n _ _ _ (by decide)]; exact e4
    · rw [sI_n _ _ _ (by decide)]; exact e5
    · rw [sI_n _ _ _ (by decide), sR_I, sI_n _ _ _ (by decide)]; exact e6
    · rw [sI_R, sI_R, sR_g, sR_g, sI_R]
      by_cases hij : i = nt
      · subst hij
        rw [upd_g, upd_g]
        exact ⟨rfl, y, hy2, rfl⟩
      · rw [upd_n _ _ _ hij, upd_n _ _ _ hij]
        exact hln i (by omega)
  · refine ⟨1, fun S1 e => b_f h0 (b_t h0' ?_)⟩
    subst e
    have h6 : nt = 60 := by
      rw [e7] at hf
      have : ¬ nt < 60 := fun h => hf (nI_lt (a := nt) (b := 60) h (by omega))
      omega
    show BX6_come_0 _ _ p0 0 _
    refine m_bad0 (b_0 (b_t ?_ ⟨sI_g _ _ _, fun _ => rfl, hR.kept Kp.rf (Kp.rf.sI (by decide) _)⟩))
    rw [em, h6]; rfl
  · intro S1 e
    subst e
    have bad : LX6_come (fun b M1 => M1.1 0 = 1 ∧ ((1 : Int32) = 0 → v = b.toInt64) ∧ Rel C M1) 1 p0 1 (sI M 0 0) := by
      show BX6_come_0 _ _ p0 1 _
      exact m_bad1 (b_1 ⟨sI_g _ _ _, fun e => absurd e (by decide), hR.kept Kp.rf ((Kp.rf.sI (by decide) _).sI (by decide) _)⟩)
    exact ⟨fun _ => bad, fun h1 => ⟨fun h2 => absurd h2 (hx.resolve_left h1), fun _ => bad⟩⟩
theorem op_empty : Op_empty Rel := by
  intro C M hR
  obtain ⟨nm, nd, ns, nt, h⟩ := id hR
  obtain ⟨⟨b1, b2, b3, b4⟩, ⟨e1, e2, e3, e4, e5, e6, e7, e8⟩, -, -, -, -, -, -, -, -, -, hln⟩ := id h
  intro x1 ex S2 e S1 e' x2 ex2 S3 e''
  subst ex; subst e; subst e'; subst ex2; subst e''
  refine ⟨by rw [sI_n _ _ _ (by decide), e7, e8], nm, nd, ns, 0, h.line 0 (Kp.rf.sI (by decide) _) ((Kp.rf.sI (by decide) _).sI (by decide) _) ⟨b1, b2, b3, by omega⟩ ⟨?_, ?_, ?_, ?_, ?_, ?_, sI_g _ _ _, sI_g _ _ _⟩ (fun i hi => absurd hi (by omega))⟩
  · rw [sI_n _ _ _ (by decide)]; exact e1
  · rw [sI_n _ _ _ (by decide), sI_n _ _ _ (by decide)]; exact e2
  · rw [sI_n _ _ _ (by decide)]; exact e3
  · rw [sI_n _ _ _ (by decide), sI_n _ _ _ (by decide)]; exact e4
  · rw [sI_n _ _ _ (by decide)]; exact e5
  · rw [sI_n _ _ _ (by decide), sI_n _ _ _ (by decide)]; exact e6
