/-! the plain operations: meal, ate, day, drop, size, prices, come, empty, count -/
theorem m_bits_t {p : Int32} {S : St} {post : Int32 → St → Prop} (h1 : ¬ p < 0) (h2 : p ≤ 255) (k : post 1 S) : PX6_isBits p S post := ⟨fun h => absurd h h1, fun _ => ⟨fun h => absurd h (i_nlt.mpr h2), fun _ => k⟩⟩
theorem m_bits_f {p : Int32} {S : St} {post : Int32 → St → Prop} (h : p < 0 ∨ ¬ p ≤ 255) (k : post 0 S) : PX6_isBits p S post := ⟨fun _ => k, fun h1 => ⟨fun _ => k, fun h2 => absurd (i_nlt.mp h2) (h.resolve_left h1)⟩⟩
theorem m_bad1 {p : Int32} {S : St} {post : Int32 → St → Prop} (k : post 1 (sI S 0 p)) : PX6_bad 1 p S post := ⟨fun h => absurd h (by decide), fun _ S2 e => ⟨Or.inr rfl, by rw [e]; exact k⟩⟩
theorem m_bad0 {p : Int32} {S : St} {post : Int32 → St → Prop} (k : post 0 S) : PX6_bad 0 p S post := ⟨fun _ => ⟨Or.inl rfl, k⟩, fun h => absurd rfl h⟩
theorem b_t {c A B : Prop} (h : c) (a : A) : (c → A) ∧ (¬ c → B) := ⟨fun _ => a, fun n => absurd h n⟩
theorem b_f {c A B : Prop} (h : ¬ c) (b : B) : (c → A) ∧ (¬ c → B) := ⟨fun n => absurd n h, fun _ => b⟩
theorem b_1 {A B : Prop} (b : B) : ((1 : Int32) = 0 → A) ∧ (¬ (1 : Int32) = 0 → B) := b_f (by decide) b
theorem b_0 {A B : Prop} (a : A) : ((0 : Int32) = 0 → A) ∧ (¬ (0 : Int32) = 0 → B) := b_t rfl a
theorem c_within {x lo hi : Int32} {S : St} {post : St → Prop} {postx : String → St → Prop} (k : ¬ x < lo → x ≤ hi → post S) (kx : (x < lo ∨ ¬ x ≤ hi) → postx "java/lang/IllegalArgumentException" S) : PX5_needWithin x lo hi S post postx :=
  ⟨fun h => kx (Or.inl h), fun h => ⟨fun h2 => k h h2, fun h2 => kx (Or.inr h2)⟩⟩
theorem c_meal {x : Int32} {S : St} {post : St → Prop} {postx : String → St → Prop} {nm : Nat} (hn : S.1 0 = nI nm) (hb : nm ≤ 6) (k : ∀ j, j < nm → x = nI j → post S) (kx : (x < 0 ∨ ¬ x < nI nm) → postx "java/lang/IndexOutOfBoundsException" S) : PX5_needMeal x S post postx := by
  refine ⟨fun h => kx (Or.inl h), fun h => ⟨fun h2 => ?_, fun h2 => kx (Or.inr (by rw [← hn]; exact h2))⟩⟩
  obtain ⟨j, hj, rfl⟩ := nI_of h
  rw [hn] at h2
  exact k j ((nI_ltI hj (by omega)).mp h2) rfl
theorem m_isMeal_t {j nm : Nat} {M : St} {post : Int32 → St → Prop} (hn : M.1 1 = nI nm) (hb : nm ≤ 6) (hj : j < nm) (k : post 1 (sI M 0 0)) : PX6_isMeal (nI j) M post := by
  refine b_f (nI_pos (by omega)) (b_t (by rw [hn]; exact nI_lt hj (by omega)) (fun S e => ?_))
  subst e
  exact b_t (sI_g M 0 0) k
theorem m_isMeal_f {x : Int32} {nm : Nat} {M : St} {post : Int32 → St → Prop} (hn : M.1 1 = nI nm) (h : x < 0 ∨ ¬ x < nI nm) (k : post 0 (sI M 0 1)) : PX6_isMeal x M post := by
  have key : ∀ S : St, S = sI M 0 1 → (((S.1 0) = 0 → post 1 S) ∧ (¬ (S.1 0) = 0 → post 0 S)) := fun S e => by
    subst e
    exact b_f (by rw [sI_g]; decide) k
  refine ⟨fun _ => key, fun h1 => ⟨fun h2 => absurd (by rw [← hn]; exact h2) (h.resolve_left h1), fun _ => key⟩⟩
theorem op_meal : Op_meal Rel := by
  intro C M p0 p1 v hR
  obtain ⟨nm, nd, ns, nt, h⟩ := id hR
  obtain ⟨⟨b1, b2, b3, b4⟩, ⟨e1, e2, e3, e4, e5, e6, e7, e8⟩, hmenu, htold, hday, haw, haway, heat, hsz, hwa, hwn, hln⟩ := id h
  have mk1 : MK M (sI (sI M 0 0) 0 1) := (Kp.rf.sI (by decide) _).sI (by decide) _
  have mk2 : MK M (sI (sI M 0 0) 0 2) := (Kp.rf.sI (by decide) _).sI (by decide) _
  refine c_within (fun h0 h0' => c_within (fun h1 h1' => ⟨fun hf => ?_, fun hf => ?_⟩) (fun hx => Or.inl ⟨rfl, 1, ?_⟩)) (fun hx => Or.inl ⟨rfl, 1, ?_⟩)
  · -- a new meal
    have hlt : nm < 6 := by
      rw [e1] at hf
      exact (nI_ltI (a := nm) (b := 6) (by omega) (by omega)).mp hf
    have hin : vp_in (nI nm) 6 := vp_in_nI hlt (by omega)
    have hcl : (nI nm).toNatClampNeg = nm := nI_clamp (by omega)
    refine ⟨by rw [e1]; exact hin, fun S2 e => ⟨by rw [e, sR_I, e1]; exact hin, fun S4 e' S5 e'' => ?_⟩⟩
    subst e; subst e'; subst e''
    refine ⟨1, fun S1 e => ?_⟩
    subst e
    refine m_bits_t h0 h0' (b_1 (m_bits_t h1 h1' (b_1 (m_bad0 (b_0 (b_f ?_ ?_))))))
    · rw [sI_n _ _ _ (by decide), e2]
      exact fun e => absurd (nI_inj (b := 6) (by omega) (by omega) e) (by omega)
    · show BX6_meal_0 _ _ p0 p1 0 _
      refine m_bad0 (b_0 ⟨by rw [sI_n _ _ _ (by decide), e2]; exact hin, fun S3 e => ⟨by rw [e, sR_I, sI_n _ _ _ (by decide), e2]; exact hin, fun S4 e' S5 e'' => ?_⟩⟩)
      subst e; subst e'; subst e''
      have r1 : (sI (sR (sR C 0 (upd (C.2.2 0) (C.1 0).toNatClampNeg p0)) 1 (upd ((sR C 0 (upd (C.2.2 0) (C.1 0).toNatClampNeg p0)).2.2 1) ((sR C 0 (upd (C.2.2 0) (C.1 0).toNatClampNeg p0)).1 0).toNatClampNeg p1)) 0 ((sR (sR C 0 (upd (C.2.2 0) (C.1 0).toNatClampNeg p0)) 1 (upd ((sR C 0 (upd (C.2.2 0) (C.1 0).toNatClampNeg p0)).2.2 1) ((sR C 0 (upd (C.2.2 0) (C.1 0).toNatClampNeg p0)).1 0).toNatClampNeg p1)).1 0 + 1)) = sI (sR (sR C 0 (upd (C.2.2 0) nm p0)) 1 (upd (C.2.2 1) nm p1)) 0 (nI (nm + 1)) := by
        simp only [sR_I, e1, hcl, nI_1, sR_n _ _ _ (show (1 : Nat) ≠ 0 by decide)]
      have r2 : ∀ M0 : St, M0.1 1 = nI nm → (sI (sR (sR M0 0 (upd (M0.2.2 0) (M0.1 1).toNatClampNeg p0)) 1 (upd ((sR M0 0 (upd (M0.2.2 0) (M0.1 1).toNatClampNeg p0)).2.2 1) ((sR M0 0 (upd (M0.2.2 0) (M0.1 1).toNatClampNeg p0)).1 1).toNatClampNeg p1)) 1 ((sR (sR M0 0 (upd (M0.2.2 0) (M0.1 1).toNatClampNeg p0)) 1 (upd ((sR M0 0 (upd (M0.2.2 0) (M0.1 1).toNatClampNeg p0)).2.2 1) ((sR M0 0 (upd (M0.2.2 0) (M0.1 1).toNatClampNeg p0)).1 1).toNatClampNeg p1)).1 1 + 1)) = sI (sR (sR M0 0 (upd (M0.2.2 0) nm p0)) 1 (upd (M0.2.2 1) nm p1)) 1 (nI (nm + 1)) := fun M0 hM => by
        simp only [sR_I, hM, hcl, nI_1, sR_n _ _ _ (show (1 : Nat) ≠ 0 by decide)]
      rw [r1, r2 (sI M 0 0) (by rw [sI_n _ _ _ (by decide), e2])]
      refine ⟨by simp [sI, sR, upd], fun _ => by simp [sI, sR, upd], nm + 1, nd, ns, nt, ⟨by omega, b2, b3, b4⟩, ⟨?_, ?_, ?_, ?_, ?_, ?_, ?_, ?_⟩, ?_, ?_, ?_, ?_, ?_, ?_, ?_, ?_, ?_, ?_⟩
      all_goals simp only [sI_R, sI_g, sR_I, sI_n _ _ _ (show (1 : Nat) ≠ 0 by decide), sI_n _ _ _ (show (2 : Nat) ≠ 0 by decide), sI_n _ _ _ (show (5 : Nat) ≠ 0 by decide), sI_n _ _ _ (show (6 : Nat) ≠ 0 by decide), sI_n _ _ _ (show (7 : Nat) ≠ 0 by decide), sI_n _ _ _ (show (13 : Nat) ≠ 0 by decide), sI_n _ _ _ (show (2 : Nat) ≠ 1 by decide), sI_n _ _ _ (show (8 : Nat) ≠ 1 by decide), sI_n _ _ _ (show (9 : Nat) ≠ 1 by decide), sI_n _ _ _ (show (10 : Nat) ≠ 1 by decide), sI_n _ _ _ (show (14 : Nat) ≠ 1 by decide), sI_n _ _ _ (show (8 : Nat) ≠ 0 by decide), sI_n _ _ _ (show (9 : Nat) ≠ 0 by decide), sI_n _ _ _ (show (10 : Nat) ≠ 0 by decide), sI_n _ _ _ (show (14 : Nat) ≠ 0 by decide)]
      · exact e3
      · exact e4
      · exact e5
      · exact e6
      · exact e7
      · exact e8
      · intro i hi
        simp only [sR_g, sR_n _ _ _ (show (0 : Nat) ≠ 1 by decide)]
        by_cases hin : i = nm
        · subst hin; simp [upd]
        · rw [upd_n _ _ _ hin, upd_n _ _ _ hin, upd_n _ _ _ hin, upd_n _ _ _ hin]
          exact hmenu i (by omega)
      · intro i hi
        have := htold i hi
        exact ⟨this.1, this.2.1, fun hh => this.2.2 (by omega)⟩
      · exact hday
      · exact haw
      · exact haway
      · exact heat
      · exact hsz
      · exact hwa
      · exact hwn
      · exact hln
  · -- there are 6
    refine Or.inr ⟨rfl, 1, fun S1 e => ?_⟩
    subst e
    have h6 : nm = 6 := by
      rw [e1] at hf
      have : ¬ nm < 6 := fun h => hf (nI_lt (a := nm) (b := 6) h (by omega))
      omega
    refine m_bits_t h0 h0' (b_1 (m_bits_t h1 h1' (b_1 (m_bad0 (b_0 (b_t ?_ ?_))))))
    · rw [sI_n _ _ _ (by decide), e2, h6]; rfl
    · show BX6_meal_0 _ _ p0 p1 1 _
      exact m_bad1 (b_1 ⟨sI_g _ _ _, fun e => absurd e (by decide), hR.kept Kp.rf mk2⟩)
  · intro S1 e
    subst e
    exact m_bits_t h0 h0' (b_1 (m_bits_f hx (b_0 (m_bad1 (b_1 ⟨sI_g _ _ _, fun e => absurd e (by decide), hR.kept Kp.rf mk1⟩)))))
  · intro S1 e
    subst e
    exact m_bits_f hx (b_0 (m_bad1 (b_1 ⟨sI_g _ _ _, fun e => absurd e (by decide), hR.kept Kp.rf mk1⟩)))
