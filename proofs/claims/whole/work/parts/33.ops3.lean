theorem cntA_c {f g : Nat → Int32} : ∀ {n : Nat}, (∀ d, d < n → f d = g d) → cntA f n = cntA g n
  | 0, _ => rfl
  | n + 1, h => by rw [cntA, cntA, cntA_c (fun d hd => h d (by omega)), h n (by omega)]
theorem cntA_u {f : Nat → Int32} {j : Nat} (h0 : f j = 0) : ∀ {n : Nat}, j < n → cntA (upd f j 1) n = cntA f n + 1
  | 0, h => absurd h (by omega)
  | n + 1, h => by
    rw [cntA, cntA]
    by_cases hj : j = n
    · subst hj
      rw [upd_g, h0, cntA_c (f := upd f j 1) (g := f) (fun d hd => upd_n _ _ _ (by omega))]
      simp
    · rw [cntA_u h0 (by omega), upd_n _ _ _ (fun e => hj e.symm)]
      omega
theorem cntA_le (f : Nat → Int32) : ∀ n, cntA f n ≤ n
  | 0 => Nat.le_refl 0
  | n + 1 => by
    have := cntA_le f n
    rw [cntA]
    split <;> omega
theorem nar1 : vp_nar .boolean 1 = 1 := by decide
theorem nar0 : vp_nar .boolean 0 = 0 := by decide
theorem op_drop : Op_drop Rel := by
  intro C M p0 v hR
  obtain ⟨nm, nd, ns, nt, h⟩ := id hR
  obtain ⟨⟨b1, b2, b3, b4⟩, ⟨e1, e2, e3, e4, e5, e6, e7, e8⟩, -, -, hday, haw, haway, -⟩ := id h
  have em : (sI M 0 0).1 2 = nI nd := by rw [sI_n _ _ _ (by decide), e4]
  have bad : ∀ n, LX6_drop (fun b M1 => M1.1 0 = 1 ∧ ((1 : Int32) = 0 → v = (if b = 0 then 0 else 1)) ∧ Rel C M1) (n + 1) p0 1 (sI M 0 0) := fun n => by
    show BX6_drop_0 _ _ p0 1 _
    exact m_bad1 (b_1 ⟨sI_g _ _ _, fun e => absurd e (by decide), hR.kept Kp.rf ((Kp.rf.sI (by decide) _).sI (by decide) _)⟩)
  refine ⟨fun h0 => ⟨rfl, 1, fun S1 e => ?_⟩, fun h0 => ⟨fun h1 => ?_, fun h1 => ⟨rfl, 1, fun S1 e => ?_⟩⟩⟩
  · subst e
    exact b_t h0 (bad 0)
  · obtain ⟨j, hj, rfl⟩ := nI_of h0
    rw [e3] at h1
    have hjd : j < nd := (nI_ltI hj (by omega)).mp h1
    have hin : vp_in (nI j) 150 := vp_in_nI (by omega) (by omega)
    have hcl : (nI j).toNatClampNeg = j := nI_clamp hj
    refine ⟨hin, ⟨fun hz => ⟨hin, fun S4 e S5 e' => ⟨Or.inr rfl, 1, fun S1 e'' => ?_⟩⟩, fun hz => ⟨Or.inl rfl, 1, fun S1 e => ?_⟩⟩⟩
    · subst e; subst e'; subst e''
      rw [hcl] at hz
      refine b_f h0 (b_t (by rw [em]; exact h1) ?_)
      show BX6_drop_0 _ _ (nI j) 0 _
      refine m_bad0 (b_0 ⟨hin, fun x ex => ⟨hin, fun S6 e => ?_⟩⟩)
      subst ex; subst e
      have hm1 : M.2.2 5 j = 1 := by
        rcases (hday j hjd).2 with ⟨-, q⟩ | ⟨q, -⟩
        · exact q
        · rw [q] at hz; exact absurd hz (by decide)
      rw [hcl, sI_R, hm1, nar1, nar0, sR_I, haway, nI_1]
      refine ⟨Or.inr rfl, by rw [sR_I, sI_g], fun _ => rfl, nm, nd, ns, nt, h.drop ((Kp.rf.sR (by decide) _).sI (by decide) _) ((Kp.rf.sI (by decide) _).sR (by decide) _) (fun d hd => ?_) (fun d hd => ?_) ?_⟩
      · rw [sI_R, sR_n _ _ _ (show (4 : Nat) ≠ 5 by decide), sR_n _ _ _ (show (3 : Nat) ≠ 5 by decide), sR_g, sR_g, sI_R]
        refine ⟨(hday d hd).1, ?_⟩
        by_cases hdj : d = j
        · subst hdj; rw [upd_g, upd_g]; exact Or.inr ⟨rfl, rfl⟩
        · rw [upd_n _ _ _ hdj, upd_n _ _ _ hdj]; exact (hday d hd).2
      · rw [sI_R, sR_g, upd_n _ _ _ (by omega)]
        exact haw d hd
      · rw [sI_g, sI_R, sR_g, cntA_u hz hjd]
    · subst e
      rw [hcl] at hz
      refine b_f h0 (b_t (by rw [em]; exact h1) ?_)
      show BX6_drop_0 _ _ (nI j) 0 _
      refine m_bad0 (b_0 ⟨hin, fun x ex => ⟨hin, fun S6 e => ?_⟩⟩)
      subst ex; subst e
      have hm1 : M.2.2 5 j = 0 ∧ C.2.2 5 j = 1 := by
        rcases (hday j hjd).2 with ⟨q, -⟩ | ⟨q, q2⟩
        · exact absurd q hz
        · exact ⟨q2, q⟩
      rw [hcl, sI_R, hm1.1, nar0]
      refine ⟨Or.inl rfl, by rw [sR_I, sI_g], fun _ => rfl, nm, nd, ns, nt, h.drop Kp.rf ((Kp.rf.sI (by decide) _).sR (by decide) _) (fun d hd => ?_) haw haway⟩
      rw [sR_n _ _ _ (show (3 : Nat) ≠ 5 by decide), sR_g, sI_R]
      refine ⟨(hday d hd).1, ?_⟩
      by_cases hdj : d = j
      · subst hdj; rw [upd_g]; exact Or.inr ⟨hm1.2, rfl⟩
      · rw [upd_n _ _ _ hdj]; exact (hday d hd).2
  · subst e
    exact b_f h0 (b_f (by rw [em, ← e3]; exact h1) (bad 0))
/-! count -/
def cntT (f : Nat → Int32) : Nat → Nat
  | 0 => 0
  | n + 1 => cntT f n + (if f n = 0 then 0 else 1)
theorem cntT_le (f : Nat → Int32) : ∀ n, cntT f n ≤ n
  | 0 => Nat.le_refl 0
  | n + 1 => by
    have := cntT_le f n
    rw [cntT]
    split <;> omega
theorem cntAT {f g : Nat → Int32} : ∀ {n : Nat}, (∀ d, d < n → (f d = 0 ∧ g d = 1) ∨ (f d = 1 ∧ g d = 0)) → cntA f n + cntT g n = n
  | 0, _ => rfl
  | n + 1, h => by
    have ih := cntAT (n := n) (fun d hd => h d (by omega))
    rw [cntA, cntT]
    rcases h n (by omega) with ⟨q1, q2⟩ | ⟨q1, q2⟩
    · rw [q1, q2]; simp; omega
    · rw [q1, q2]; simp; omega
theorem m_count {M : St} {nd : Nat} {post : Int32 → St → Prop} (hn : M.1 2 = nI nd) (hb : nd ≤ 150) (k : post (nI (cntT (M.2.2 5) nd)) M) : ∃ n, LX6_count post n 0 0 M := by
  refine lp3 (W := fun n x y S => LX6_count post n x y S) (I := fun x y S => S = M ∧ ∃ d, d ≤ nd ∧ y = nI d ∧ x = nI (cntT (M.2.2 5) d)) (μ := fun x y S => 151 - y.toNatClampNeg) ?_ 0 0 M ⟨rfl, 0, Nat.zero_le _, rfl, rfl⟩
  intro n x y S hI hk
  obtain ⟨rfl, d, hd, rfl, rfl⟩ := hI
  have hc := cntT_le (S.2.2 5) d
  have hcl : (nI d).toNatClampNeg = d := nI_clamp (by omega)
  show BX6_count_0 _ _ _ _ S
  unfold BX6_count_0
  rw [hn]
  refine ⟨fun h1 => ?_, fun h1 => ⟨vp_in_nI ?_ (by omega), ?_⟩⟩
  · have : d = nd := by
      have := (nI_leI (by omega) (by omega)).mp h1
      omega
    subst this
    exact k
  · have : ¬ nd ≤ d := fun h => h1 (nI_le h (by omega))
    omega
  have hlt : d < nd := by
    have : ¬ nd ≤ d := fun h => h1 (nI_le h (by omega))
    omega
  have hm : 151 - (nI (d + 1)).toNatClampNeg < 151 - (nI d).toNatClampNeg := by
    rw [nI_clamp (by omega), nI_clamp (by omega)]; omega
  rw [hcl]
  refine ⟨fun hz x1 e1 x2 e2 => ?_, fun hz x1 e1 x2 e2 => ?_⟩
  · subst e1; subst e2
    rw [nI_1]
    exact hk _ _ _ ⟨rfl, d + 1, hlt, rfl, by rw [cntT, if_pos hz]; exact (show nI (cntT (S.2.2 5) d) + 0 = _ from by rw [show (0 : Int32) = nI 0 from rfl, nI_add])⟩ hm
  · subst e1; subst e2
    rw [nI_1, nI_1]
    exact hk _ _ _ ⟨rfl, d + 1, hlt, rfl, by rw [cntT, if_neg hz]⟩ hm
theorem op_count : Op_count Rel := by
  intro C M p0 hR
  obtain ⟨nm, nd, ns, nt, h⟩ := id hR
  obtain ⟨⟨b1, b2, b3, b4⟩, ⟨e1, e2, e3, e4, e5, e6, e7, e8⟩, -, -, hday, haw, haway, -⟩ := id h
  have hk := hR.kept Kp.rf (Kp.rf.sI (is := mI) (rs := mR) (S0 := M) (k := 0) (by decide) 0)
  unfold PX5_count PX6_count
  by_cases h0 : p0 = 0
  · refine b_t h0 ⟨0, fun S1 e => b_t h0 ⟨?_, ?_⟩⟩ <;> subst e
    · rw [sI_n _ _ _ (by decide), e1, e2]
    · exact hk
  refine b_f h0 ?_
  by_cases h1 : p0 = 1
  · refine b_t h1 ?_
    obtain ⟨n, hn⟩ := m_count (M := sI M 0 0) (nd := nd) (post := fun b M1 => C.1 1 - C.1 2 = b ∧ Rel C M1) (by rw [sI_n _ _ _ (by decide), e4]) b2 ⟨by
      rw [e3, haway, pk_sub (cntA_le _ _), sI_R]
      have := cntAT (f := C.2.2 5) (g := M.2.2 5) (n := nd) (fun d hd => (hday d hd).2)
      congr 1
      omega, hk⟩
    refine ⟨n, fun S1 e => b_f h0 (b_t h1 ?_)⟩
    subst e
    exact hn
  refine b_f h1 ?_
  by_cases h2 : p0 = 2
  · refine b_t h2 ⟨0, fun S1 e => b_f h0 (b_f h1 (b_t h2 ⟨?_, ?_⟩))⟩ <;> subst e
    · rw [sI_n _ _ _ (by decide), e3, e4]
    · exact hk
  refine b_f h2 ?_
  by_cases h3 : p0 = 3
  · refine b_t h3 ⟨0, fun S1 e => b_f h0 (b_f h1 (b_f h2 (b_t h3 ⟨?_, ?_⟩)))⟩ <;> subst e
    · rw [sI_n _ _ _ (by decide), e5, e6]
    · exact hk
  refine b_f h3 ?_
  by_cases h4 : p0 = 4
  · refine b_t h4 ⟨0, fun S1 e => b_f h0 (b_f h1 (b_f h2 (b_f h3 (b_t h4 ⟨?_, ?_⟩))))⟩ <;> subst e
    · rw [sI_n _ _ _ (by decide), e7, e8]
    · exact hk
  refine b_f h4 ⟨0, fun S1 e => b_f h0 (b_f h1 (b_f h2 (b_f h3 (b_f h4 ⟨rfl, ?_⟩))))⟩
  subst e
  exact hk
/-! day -/
theorem c_day {C : St} {nd : Nat} {p0 : Int32} {post : Int32 → St → Prop} (hn : C.1 1 = nI nd) (hb : nd < 150)
    (k : ∀ S : St, S.1 = upd C.1 1 (nI (nd + 1)) → (∀ r, r ≠ 3 → r ≠ 4 → r ≠ 6 → S.2.2 r = C.2.2 r) → S.2.2 4 = upd (C.2.2 4) nd p0 → (∀ j, j < 6 → S.2.2 3 j = 0) → (∀ j, S.2.2 6 j = if 6 * nd ≤ j ∧ j < 6 * nd + 6 then C.2.2 3 (j - 6 * nd) else C.2.2 6 j) → post (nI nd) S) : ∃ n, PX0_add n p0 C post := by
  have hin : vp_in (nI nd) 150 := vp_in_nI hb (by omega)
  have hcl : (nI nd).toNatClampNeg = nd := nI_clamp (by omega)
  obtain ⟨n, hL⟩ := lp2 (W := fun n x S => LX0_add post n x S) (I := fun x S => ∃ i, i ≤ 6 ∧ x = nI i ∧ S.1 = C.1 ∧ (∀ r, r ≠ 3 → r ≠ 4 → r ≠ 6 → S.2.2 r = C.2.2 r) ∧ S.2.2 4 = upd (C.2.2 4) nd p0 ∧ (∀ j, j < 6 → S.2.2 3 j = if j < i then 0 else C.2.2 3 j) ∧ (∀ j, S.2.2 6 j = if 6 * nd ≤ j ∧ j < 6 * nd + i then C.2.2 3 (j - 6 * nd) else C.2.2 6 j)) (μ := fun x S => 7 - x.toNatClampNeg) (by
    intro n x S hI hk
    obtain ⟨i, hi, rfl, hS1, hSr, hS4, hS3, hS6⟩ := hI
    show BX0_add_0 _ _ _ S
    unfold BX0_add_0
    refine ⟨fun h6 S4 e => ?_, fun h6 => ?_⟩
    · subst e
      have hi6 : i = 6 := by
        have := (nI_leI (a := 6) (b := i) (by omega) (by omega)).mp h6
        omega
      subst hi6
      rw [sI_g, hS1, hn, nI_1, nI_pred]
      refine k _ ?_ hSr hS4 (fun j hj => ?_) hS6
      · show upd S.1 1 _ = _
        rw [hS1]
      · show S.2.2 3 j = 0
        rw [hS3 j hj, if_pos hj]
    · have hlt : i < 6 := by
        have : ¬ 6 ≤ i := fun h => h6 (nI_le (a := 6) h (by omega))
        omega
      have hini : vp_in (nI i) 6 := vp_in_nI hlt (by omega)
      have hci : (nI i).toNatClampNeg = i := nI_clamp (by omega)
      have hix : S.1 1 * 6 + nI i = nI (nd * 6 + i) := by
        rw [hS1, hn, show (6 : Int32) = nI 6 from rfl, pk_mul, nI_add]
      have hcx : (nI (nd * 6 + i)).toNatClampNeg = nd * 6 + i := nI_clamp (by omega)
      refine ⟨hini, by rw [hix]; exact vp_in_nI (by omega) (by omega), fun S7 e7 => ⟨hini, fun S9 e9 x10 ex => ?_⟩⟩
      subst e7; subst e9; subst ex
      rw [hix, hcx, hci, nI_1]
      refine hk _ _ ⟨i + 1, by omega, rfl, hS1, fun r h3 h4 h6 => ?_, ?_, fun j hj => ?_, fun j => ?_⟩ (by rw [nI_clamp (by omega), nI_clamp (by omega)]; omega)
      · rw [sR_n _ _ _ h3, sR_n _ _ _ h6]; exact hSr r h3 h4 h6
      · rw [sR_n _ _ _ (by decide), sR_n _ _ _ (by decide)]; exact hS4
      · rw [sR_g, sR_n _ _ _ (show (3 : Nat) ≠ 6 by decide)]
        by_cases hji : j = i
        · subst hji; rw [upd_g, if_pos (by omega)]
        · rw [upd_n _ _ _ hji, hS3 j hj]
          by_cases h5 : j < i
          · rw [if_pos h5, if_pos (by omega)]
          · rw [if_neg h5, if_neg (by omega)]
      · rw [sR_n _ _ _ (show (6 : Nat) ≠ 3 by decide), sR_g]
        by_cases hj : j = nd * 6 + i
        · subst hj
          rw [upd_g, if_pos (by omega), hS3 i hlt, if_neg (by omega), show nd * 6 + i - 6 * nd = i by omega]
        · rw [upd_n _ _ _ hj, hS6 j]
          by_cases h5 : 6 * nd ≤ j ∧ j < 6 * nd + i
          · rw [if_pos h5, if_pos (by omega)]
          · rw [if_neg h5, if_neg (by omega)]) 0 (sR C 4 (upd (C.2.2 4) nd p0)) ⟨0, by omega, rfl, rfl, fun r h3 h4 h6 => sR_n _ _ _ h4, sR_g _ _ _, fun j hj => by rw [if_neg (by omega), sR_n _ _ _ (by decide)], fun j => by rw [if_neg (by omega), sR_n _ _ _ (by decide)]⟩
  refine ⟨n, by rw [hn]; exact hin, fun S2 e => ?_⟩
  subst e
  rw [hn, hcl]
  exact hL
theorem m_day {M : St} {nd nm : Nat} {p0 : Int32} {post : Int32 → St → Prop} (hn : M.1 2 = nI nd) (hb : nd < 150) (hm : M.1 1 = nI nm) (hmb : nm ≤ 6) (hz : ∀ j, j < 6 → nm ≤ j → M.2.2 2 j = 0)
    (k : ∀ S : St, S.1 = upd M.1 2 (nI (nd + 1)) → (∀ r, r ≠ 2 → r ≠ 3 → r ≠ 4 → r ≠ 5 → S.2.2 r = M.2.2 r) → S.2.2 3 = upd (M.2.2 3) nd p0 → S.2.2 5 = upd (M.2.2 5) nd 1 → (∀ j, j < 6 → S.2.2 2 j = 0) → (∀ j, S.2.2 4 j = if 6 * nd ≤ j ∧ j < 6 * nd + 6 then M.2.2 2 (j - 6 * nd) else M.2.2 4 j) → post (nI nd) S) : ∃ n, LX6_day post n 0 p0 0 0 M := by
  have hin : vp_in (nI nd) 150 := vp_in_nI hb (by omega)
  have hcl : (nI nd).toNatClampNeg = nd := nI_clamp (by omega)
  obtain ⟨n, hL⟩ := lp2 (W := fun n x S => LX6_day post n 1 0 x 0 S) (I := fun x S => ∃ i, i ≤ 6 ∧ x = nI i ∧ S.1 = M.1 ∧ (∀ r, r ≠ 2 → r ≠ 3 → r ≠ 4 → r ≠ 5 → S.2.2 r = M.2.2 r) ∧ S.2.2 3 = upd (M.2.2 3) nd p0 ∧ S.2.2 5 = upd (M.2.2 5) nd 1 ∧ (∀ j, j < 6 → S.2.2 2 j = if j < i then 0 else M.2.2 2 j) ∧ (∀ j, S.2.2 4 j = if 6 * nd ≤ j ∧ j < 6 * nd + i then M.2.2 2 (j - 6 * nd) else M.2.2 4 j)) (μ := fun x S => 7 - x.toNatClampNeg) (by
    intro n x S hI hk
    obtain ⟨i, hi, rfl, hS1, hSr, hS3, hS5, hS2, hS4⟩ := hI
    show BX6_day_1 _ _ _ _ _ S
    unfold BX6_day_1
    refine ⟨fun h6 S4 e => ?_, fun h6 => ?_⟩
    · subst e
      have hi6 : i = 6 := by
        have := (nI_leI (a := 6) (b := i) (by omega) (by omega)).mp h6
        omega
      subst hi6
      rw [sI_g, hS1, hn, nI_1, nI_pred]
      refine k _ ?_ hSr hS3 hS5 (fun j hj => ?_) hS4
      · show upd S.1 2 _ = _
        rw [hS1]
      · show S.2.2 2 j = 0
        rw [hS2 j hj, if_pos hj]
    · have hlt : i < 6 := by
        have : ¬ 6 ≤ i := fun h => h6 (nI_le (a := 6) h (by omega))
        omega
      have hini : vp_in (nI i) 6 := vp_in_nI hlt (by omega)
      have hci : (nI i).toNatClampNeg = i := nI_clamp (by omega)
      have hix : 6 * S.1 2 + nI i = nI (6 * nd + i) := by
        rw [hS1, hn, show (6 : Int32) = nI 6 from rfl, pk_mul, nI_add]
      have hcx : (nI (6 * nd + i)).toNatClampNeg = 6 * nd + i := nI_clamp (by omega)
      have hinx : vp_in (6 * S.1 2 + nI i) 900 := by rw [hix]; exact vp_in_nI (by omega) (by omega)
      have hnext : ∀ v : Int32, v = M.2.2 2 i → LX6_day post n 1 0 (nI (i + 1)) 0 (sR (sR S 4 (upd (S.2.2 4) (6 * nd + i) v)) 2 (upd ((sR S 4 (upd (S.2.2 4) (6 * nd + i) v)).2.2 2) i 0)) := by
        intro v hv
        refine hk _ _ ⟨i + 1, by omega, rfl, hS1, fun r h2 h3 h4 h5 => ?_, ?_, ?_, fun j hj => ?_, fun j => ?_⟩ (by rw [nI_clamp (by omega), nI_clamp (by omega)]; omega)
        · rw [sR_n _ _ _ h2, sR_n _ _ _ h4]; exact hSr r h2 h3 h4 h5
        · rw [sR_n _ _ _ (by decide), sR_n _ _ _ (by decide)]; exact hS3
        · rw [sR_n _ _ _ (by decide), sR_n _ _ _ (by decide)]; exact hS5
        · rw [sR_g, sR_n _ _ _ (show (2 : Nat) ≠ 4 by decide)]
          by_cases hji : j = i
          · subst hji; rw [upd_g, if_pos (by omega)]
          · rw [upd_n _ _ _ hji, hS2 j hj]
            by_cases h5 : j < i
            · rw [if_pos h5, if_pos (by omega)]
            · rw [if_neg h5, if_neg (by omega)]
        · rw [sR_n _ _ _ (show (4 : Nat) ≠ 2 by decide), sR_g]
          by_cases hj : j = 6 * nd + i
          · subst hj
            rw [upd_g, if_pos (by omega), hv, show 6 * nd + i - 6 * nd = i by omega]
          · rw [upd_n _ _ _ hj, hS4 j]
            by_cases h5 : 6 * nd ≤ j ∧ j < 6 * nd + i
            · rw [if_pos h5, if_pos (by omega)]
            · rw [if_neg h5, if_neg (by omega)]
      rw [hS1, hm]
      refine ⟨fun h7 => ?_, fun h7 => ?_⟩
      · have hmi : nm ≤ i := (nI_leI (by omega) (by omega)).mp h7
        rw [← hS1]
        refine ⟨hinx, fun S7 e7 => ⟨hini, fun S9 e9 x10 ex => ?_⟩⟩
        subst e7; subst e9; subst ex
        rw [hix, hcx, hci, nI_1]
        exact hnext 0 (hz i hlt hmi).symm
      · rw [← hS1]
        refine ⟨hini, hinx, fun S7 e7 => ⟨hini, fun S9 e9 x10 ex => ?_⟩⟩
        subst e7; subst e9; subst ex
        rw [hix, hcx, hci, nI_1]
        exact hnext _ (by rw [hS2 i hlt, if_neg (by omega)])) 0 (sR (sR M 3 (upd (M.2.2 3) nd p0)) 5 (upd (M.2.2 5) nd 1)) ⟨0, by omega, rfl, rfl, fun r h2 h3 h4 h5 => by rw [sR_n _ _ _ h5, sR_n _ _ _ h3], by rw [sR_n _ _ _ (by decide), sR_g], sR_g _ _ _, fun j hj => by rw [if_neg (by omega), sR_n _ _ _ (by decide), sR_n _ _ _ (by decide)], fun j => by rw [if_neg (by omega), sR_n _ _ _ (by decide), sR_n _ _ _ (by decide)]⟩
  refine ⟨n + 1, ?_⟩
  show BX6_day_0 _ _ p0 0 0 M
  refine m_bad0 (b_0 ⟨by rw [hn]; exact hin, fun S2 e => ⟨by rw [e, sR_I, hn]; exact hin, fun S3 e' => ?_⟩⟩)
  subst e; subst e'
  rw [sR_I, hn, hcl, nar1, sR_n _ _ _ (show (5 : Nat) ≠ 3 by decide)]
  exact hL
theorem op_day : Op_day Rel := by
  intro C M p0 v hR
  obtain ⟨nm, nd, ns, nt, h⟩ := id hR
  obtain ⟨⟨b1, b2, b3, b4⟩, ⟨e1, e2, e3, e4, e5, e6, e7, e8⟩, hmenu, htold, hday, haw, haway, heat, -⟩ := id h
  have em : (sI M 0 0).1 2 = nI nd := by rw [sI_n _ _ _ (by decide), e4]
  refine c_within (fun h0 h0' => ⟨fun hf => ?_, fun hf => ?_⟩) (fun hx => Or.inl ⟨rfl, 1, fun S1 e => ?_⟩)
  · have hlt : nd < 150 := by
      rw [e3] at hf
      exact (nI_ltI (a := nd) (b := 150) (by omega) (by omega)).mp hf
    refine c_day e3 hlt (fun S hS1 hSr hS4 hS3 hS6 => ?_)
    obtain ⟨n, hn⟩ := m_day (M := sI M 0 0) (nd := nd) (nm := nm) (p0 := p0) (post := fun b M1 => M1.1 0 = 0 ∧ ((0 : Int32) = 0 → (nI nd).toInt64 = b.toInt64) ∧ Rel S M1) em hlt (by rw [sI_n _ _ _ (by decide), e2]) b1 (fun j hj hmj => by rw [sI_R, ← (htold j hj).1]; exact (htold j hj).2.2 hmj) (by
      intro M1 hM1 hMr hM3 hM5 hM2 hM4
      have hc : Kp (1 :: cI) (3 :: 4 :: 6 :: cR) C S := ⟨fun k hk => by
        rw [hS1, upd_n _ _ _ (fun e => hk (by rw [e]; decide))], fun k hk => hSr k (fun e => hk (by rw [e]; decide)) (fun e => hk (by rw [e]; decide)) (fun e => hk (by rw [e]; decide))⟩
      have hm : Kp (2 :: mI) (2 :: 3 :: 4 :: 5 :: mR) M M1 := ⟨fun k hk => by
        rw [hM1, upd_n _ _ _ (fun e => hk (by rw [e]; decide)), sI_n _ _ _ (fun e => hk (by rw [e]; decide))], fun k hk => hMr k (fun e => hk (by rw [e]; decide)) (fun e => hk (by rw [e]; decide)) (fun e => hk (by rw [e]; decide)) (fun e => hk (by rw [e]; decide))⟩
      have r5 : S.2.2 5 = C.2.2 5 := hSr 5 (by decide) (by decide) (by decide)
      refine ⟨by rw [hM1, upd_n _ _ _ (by decide), sI_g], fun _ => rfl, nm, nd + 1, ns, nt, h.dayadd (nd + 1) hc hm ⟨b1, by omega, b3, b4⟩ ⟨?_, ?_, ?_, ?_, ?_, ?_, ?_, ?_⟩ (fun i hi => ?_) (fun d hd => ?_) (fun d hd => ?_) ?_ (fun j hj => ?_)⟩
      · rw [hc.1 0 (by decide), e1]
      · rw [hm.1 1 (by decide), e2]
      · rw [hS1, upd_g]
      · rw [hM1, upd_g]
      · rw [hc.1 5 (by decide), e5]
      · rw [hm.1 8 (by decide), e6]
      · rw [hc.1 13 (by decide), e7]
      · rw [hm.1 14 (by decide), e8]
      · rw [hS3 i hi, hM2 i hi]
        exact ⟨rfl, ⟨0, by omega, rfl⟩, fun _ => rfl⟩
      · rw [hS4, hM3, r5, hM5, sI_R]
        by_cases hdn : d = nd
        · subst hdn
          rw [upd_g, upd_g, upd_g]
          exact ⟨rfl, Or.inl ⟨haw d (Nat.le_refl _), rfl⟩⟩
        · rw [upd_n _ _ _ hdn, upd_n _ _ _ hdn, upd_n _ _ _ hdn]
          exact hday d (by omega)
      · rw [r5]; exact haw d (by omega)
      · rw [hc.1 2 (by decide), r5, haway, cntA, haw nd (Nat.le_refl _)]; rfl
      · rw [hS6, hM4, sI_R]
        by_cases h5 : 6 * nd ≤ j ∧ j < 6 * nd + 6
        · rw [if_pos h5, if_pos h5]
          have := htold (j - 6 * nd) (by omega)
          exact ⟨this.1, this.2.1⟩
        · rw [if_neg h5, if_neg h5]
          exact heat j (by omega))
    refine ⟨n, fun S1 e => ?_⟩
    subst e
    exact m_bits_t h0 h0' (b_1 (m_bad0 (b_0 (b_f (by rw [em]; exact fun e => absurd (nI_inj (b := 150) (by omega) (by omega) e) (by omega)) hn))))
  · have h6 : nd = 150 := by
      rw [e3] at hf
      have : ¬ nd < 150 := fun h => hf (nI_lt (a := nd) (b := 150) h (by omega))
      omega
    refine Or.inr ⟨rfl, 1, fun S1 e => ?_⟩
    subst e
    refine m_bits_t h0 h0' (b_1 (m_bad0 (b_0 (b_t (by rw [em, h6]; rfl) ?_))))
    show BX6_day_0 _ _ p0 0 1 _
    exact m_bad1 (b_1 ⟨sI_g _ _ _, fun e => absurd e (by decide), hR.kept Kp.rf ((Kp.rf.sI (by decide) _).sI (by decide) _)⟩)
  · subst e
    exact m_bits_f hx (b_0 (m_bad1 (b_1 ⟨sI_g _ _ _, fun e => absurd e (by decide), hR.kept Kp.rf ((Kp.rf.sI (by decide) _).sI (by decide) _)⟩)))
