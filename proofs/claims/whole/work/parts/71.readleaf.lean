/-! the class reads a leaf -/
def hE (p : Nat → Bool) (ea : Nat → Nat) (v n : Nat) : Nat := sD (fun d => p d && decide (ea d = v)) (fun _ => 1) n
def hL (p : Nat → Bool) (ea f : Nat → Nat) (v n : Nat) : Nat := sD (fun d => p d && decide (ea d < v)) f n
theorem sD_3 {p q r : Nat → Bool} {f g h : Nat → Nat} : ∀ {n : Nat}, (∀ d, d < n → (if p d = true then f d else 0) = (if q d = true then g d else 0) + (if r d = true then h d else 0)) → sD p f n = sD q g n + sD r h n
  | 0, _ => rfl
  | n + 1, H => by
    rw [sD, sD, sD, sD_3 (fun d hd => H d (by omega)), H n (by omega)]
    omega
theorem sD_k {r : Nat → Bool} {v : Nat} : ∀ n, sD r (fun _ => v) n = sD r (fun _ => 1) n * v
  | 0 => by simp [sD]
  | n + 1 => by
    rw [sD, sD, sD_k n, Nat.add_mul]
    by_cases c : r n = true
    · rw [if_pos c, if_pos c, Nat.one_mul]
    · rw [if_neg c, if_neg c, Nat.zero_mul]
theorem sD_0 {p : Nat → Bool} {f : Nat → Nat} : ∀ {n : Nat}, (∀ d, d < n → p d = false) → sD p f n = 0
  | 0, _ => rfl
  | n + 1, h => by
    rw [sD, sD_0 (fun d hd => h d (by omega)), if_neg (by rw [h n (by omega)]; decide)]
theorem hL_1 {p : Nat → Bool} {ea : Nat → Nat} {v n : Nat} : hL p ea (fun _ => 1) (v + 1) n = hL p ea (fun _ => 1) v n + hE p ea v n := by
  refine sD_3 (fun d _ => ?_)
  cases p d
  · simp
  · simp only [Bool.true_and, decide_eq_true_eq]
    repeat' split
    all_goals omega
theorem hL_e {p : Nat → Bool} {ea : Nat → Nat} {v n : Nat} : hL p ea ea (v + 1) n = hL p ea ea v n + hE p ea v n * v := by
  unfold hE
  rw [← sD_k]
  refine sD_3 (fun d _ => ?_)
  cases p d
  · simp
  · simp only [Bool.true_and, decide_eq_true_eq]
    repeat' split
    all_goals omega
theorem hL_0 {p : Nat → Bool} {ea f : Nat → Nat} {n : Nat} : hL p ea f 0 n = 0 := sD_0 (fun d _ => by simp)
theorem hL_all {p : Nat → Bool} {ea f : Nat → Nat} {n : Nat} (h : ∀ d, d < n → ea d ≤ 1000) : hL p ea f 1001 n = sD p f n := sD_c (fun d hd => by
  have := h d hd
  have h2 : ea d < 1001 := by omega
  simp [h2])
theorem hL_look {p : Nat → Bool} {ea f : Nat → Nat} {n all look : Nat} (h : ∀ d, d < n → ea d ≤ 1000) (hl : look = if 1000 < all then 1000 else all) : hL p ea f (look + 1) n = sD (fun d => p d && decide (ea d ≤ all)) f n := sD_c (fun d hd => by
  have := h d hd
  have h2 : (ea d < look + 1) = (ea d ≤ all) := by
    rw [hl]
    by_cases c : 1000 < all
    · rw [if_pos c]; exact propext ⟨fun _ => by omega, fun _ => by omega⟩
    · rw [if_neg c]; exact propext ⟨fun _ => by omega, fun _ => by omega⟩
  refine ⟨?_, fun _ => rfl⟩
  simp only [h2])
theorem hL_le {p : Nat → Bool} {ea f : Nat → Nat} {v n : Nat} : hL p ea f v n ≤ sD p f n := sD_le (fun d _ h => by
  rw [Bool.and_eq_true] at h
  exact h.1)
theorem hE_s {p : Nat → Bool} {ea : Nat → Nat} {v n : Nat} : hE p ea v (n + 1) = hE p ea v n + (if (p n && decide (ea n = v)) = true then 1 else 0) := rfl
set_option maxHeartbeats 1000000 in
theorem c_readLeaf {C : St} {nd j : Nat} {ea : Nat → Nat} {p : Nat → Bool} {asked marks : Int32} {post : St → Prop} (hD : DC C nd j ea) (hp : p = kn (C.2.2 5) (C.2.2 4) asked marks)
    (k : ∀ S : St, Kp [8, 9] [12, 13] C S → S.1 8 = nI (sD p (fun _ => 1) nd) → S.1 9 = nI (sD p ea nd) → (∀ v, v < 1001 → S.2.2 12 v = nI (hL p ea (fun _ => 1) (v + 1) nd) ∧ S.2.2 13 v = nI (hL p ea ea (v + 1) nd)) → post S) : ∃ n, PX2_readLeaf n (nI j) asked marks C post := by
  obtain ⟨hnd, hj, hn, hea⟩ := hD
  have key2 : ∀ r v, v + r = 1001 → ∀ S, Kp [8, 9] [12, 13] C S → S.1 8 = nI (hL p ea (fun _ => 1) v nd) → S.1 9 = nI (hL p ea ea v nd) → (∀ i, i < v → S.2.2 12 i = nI (hL p ea (fun _ => 1) (i + 1) nd) ∧ S.2.2 13 i = nI (hL p ea ea (i + 1) nd)) → (∀ i, v ≤ i → i < 1001 → S.2.2 12 i = nI (hE p ea i nd)) → ∀ F, r + 1 ≤ F → LX2_readLeaf post F 1 0 0 0 (nI v) S := by
    intro r
    induction r with
    | zero =>
      intro v hv S hK h8 h9 hlo hhi F hF
      obtain ⟨F, rfl⟩ : ∃ G, F = G + 1 := ⟨F - 1, by omega⟩
      have : v = 1001 := by omega
      subst this
      rw [hL_all (fun d hd => (hea d hd).2)] at h8 h9
      exact b_t (by decide) (k S hK h8 h9 hlo)
    | succ r ih =>
      intro v hv S hK h8 h9 hlo hhi F hF
      obtain ⟨F, rfl⟩ : ∃ G, F = G + 1 := ⟨F - 1, by omega⟩
      have hin : vp_in (nI v) 1001 := vp_in_nI (by omega) (by omega)
      have hcv : (nI v).toNatClampNeg = v := nI_clamp (by omega)
      have r12 := hhi v (Nat.le_refl _) (by omega)
      refine b_f (fun e => absurd ((nI_ltI (a := 1000) (by omega) (by omega)).mp e) (by omega)) ?_
      rw [hcv]
      refine ⟨hin, fun S17 e17 => ⟨hin, fun S19 e19 => ⟨hin, fun S21 e21 => ⟨hin, fun S23 e23 x24 e24 => ?_⟩⟩⟩⟩
      rw [h8, r12, nI_add, ← hL_1] at e17
      have q9 : S17.1 9 = nI (hL p ea ea v nd) := by rw [e17, sI_n _ _ _ (by decide), h9]
      have q12 : S17.2.2 12 = S.2.2 12 := by rw [e17, sI_R]
      rw [q9, q12, r12, pk_mul, nI_add, ← hL_e] at e19
      have t8 : S19.1 8 = nI (hL p ea (fun _ => 1) (v + 1) nd) := by rw [e19, sI_n _ _ _ (by decide), e17, sI_g]
      have t9 : S19.1 9 = nI (hL p ea ea (v + 1) nd) := by rw [e19, sI_g]
      have t12 : S19.2.2 12 = S.2.2 12 := by rw [e19, sI_R, q12]
      have t13 : S19.2.2 13 = S.2.2 13 := by rw [e19, sI_R, e17, sI_R]
      have u9 : S21.1 9 = nI (hL p ea ea (v + 1) nd) := by rw [e21, sR_I, t9]
      have u13 : S21.2.2 13 = S.2.2 13 := by rw [e21, sR_n _ _ _ (by decide), t13]
      have hK17 : Kp [8, 9] [12, 13] C S17 := by rw [e17]; exact hK.sI (by decide) _
      have hK19 : Kp [8, 9] [12, 13] C S19 := by rw [e19]; exact hK17.sI (by decide) _
      have hK21 : Kp [8, 9] [12, 13] C S21 := by rw [e21]; exact hK19.sR (by decide) _
      have hK23 : Kp [8, 9] [12, 13] C S23 := by rw [e23]; exact hK21.sR (by decide) _
      have w12 : S23.2.2 12 = upd (S.2.2 12) v (nI (hL p ea (fun _ => 1) (v + 1) nd)) := by rw [e23, sR_n _ _ _ (by decide), e21, sR_g, t12, t8]
      have w13 : S23.2.2 13 = upd (S.2.2 13) v (nI (hL p ea ea (v + 1) nd)) := by rw [e23, sR_g, u13, u9]
      rw [nI_1] at e24
      subst e24
      refine ih (v + 1) (by omega) S23 hK23 ?_ ?_ (fun i hi => ?_) (fun i hi hi2 => ?_) F (by omega)
      · rw [e23, sR_I, e21, sR_I, t8]
      · rw [e23, sR_I, u9]
      · rw [w12, w13]
        by_cases c : i = v
        · subst c
          rw [upd_g, upd_g]
          exact ⟨rfl, rfl⟩
        · rw [upd_n _ _ _ c, upd_n _ _ _ c]
          exact hlo i (by omega)
      · rw [w12, upd_n _ _ _ (by omega)]
        exact hhi i (by omega) hi2
  have key1 : ∀ r d, d + r = nd → ∀ S, Kp [8, 9] [12, 13] C S → (∀ v, v < 1001 → S.2.2 12 v = nI (hE p ea v d)) → ∀ F, r + 1003 ≤ F → LX2_readLeaf post F 0 (nI j) asked marks (nI d) S := by
    intro r
    induction r with
    | zero =>
      intro d hd S hK h12 F hF
      obtain ⟨F, rfl⟩ : ∃ G, F = G + 1 := ⟨F - 1, by omega⟩
      have : d = nd := by omega
      subst this
      refine b_t (by rw [hK.1 1 (by decide), hn]; exact nI_le (Nat.le_refl _) (by omega)) (fun S3 e3 S4 e4 => ?_)
      subst e3; subst e4
      refine key2 1001 0 (by omega) _ ((hK.sI (by decide) _).sI (by decide) _) ?_ ?_ (fun i hi => absurd hi (by omega)) (fun i _ hi => h12 i hi) F (by omega)
      · rw [sI_n _ _ _ (by decide), sI_g, hL_0]; rfl
      · rw [sI_g, hL_0]; rfl
    | succ r ih =>
      intro d hd S hK h12 F hF
      obtain ⟨F, rfl⟩ : ∃ G, F = G + 1 := ⟨F - 1, by omega⟩
      have r5 : S.2.2 5 = C.2.2 5 := hK.2 5 (by decide)
      have r4 : S.2.2 4 = C.2.2 4 := hK.2 4 (by decide)
      have hv := (hea d (by omega)).2
      refine b_f (by rw [hK.1 1 (by decide), hn]; exact fun e => absurd ((nI_leI (by omega) (by omega)).mp e) (by omega)) (c_inKnot (by omega) (fun hy => b_1 (c_eaten (by omega) hj ?_)) (fun hn0 => b_0 (fun x ex => ?_)))
      · rw [hK.2 6 (by decide), (hea d (by omega)).1]
        rw [r5, r4, ← hp] at hy
        have hin : vp_in (nI (ea d)) 1001 := vp_in_nI (by omega) (by omega)
        refine ⟨hin, hin, fun S13 e13 x14 e14 => ?_⟩
        rw [nI_clamp (by omega), h12 _ (by omega), nI_1] at e13
        rw [nI_1] at e14
        subst e14
        refine ih (d + 1) (by omega) S13 (by rw [e13]; exact hK.sR (by decide) _) (fun v hv2 => ?_) F (by omega)
        rw [e13, sR_g, hE_s]
        by_cases c : v = ea d
        · subst c
          rw [upd_g, if_pos (by simp [hy])]
        · rw [upd_n _ _ _ c, if_neg (by
            simp only [hy, Bool.true_and, decide_eq_true_eq]
            exact fun e => c e.symm), h12 v hv2, Nat.add_zero]
      · subst ex
        rw [r5, r4, ← hp] at hn0
        rw [nI_1]
        refine ih (d + 1) (by omega) S hK (fun v hv2 => ?_) F (by omega)
        rw [h12 v hv2, hE_s, if_neg (by simp [hn0]), Nat.add_zero]
  refine ⟨nd + 1003, fun S1 e1 => ?_⟩
  subst e1
  refine key1 nd 0 (by omega) _ (Kp.rf.sR (by decide) _) (fun v hv => ?_) _ (Nat.le_refl _)
  rw [sR_g]
  simp [g_fill, hv]
  rfl
/-! waste and want by one look -/
theorem c_ww {S : St} {all look wa wn D Sm c u : Nat} {post : Int64 → St → Prop} (hall : all ≤ 20000) (hlk : look = if 1000 < all then 1000 else all) (h6 : S.1 6 = nI wa) (h7 : S.1 7 = nI wn) (h8 : S.1 8 = nI D) (h9 : S.1 9 = nI Sm) (h12 : S.2.2 12 look = nI c) (h13 : S.2.2 13 look = nI u)
    (hwa : wa ≤ 1000) (hwn : wn ≤ 1000) (hc : c ≤ D) (hu : u ≤ Sm) (hD : D ≤ 150) (hSm : Sm ≤ 150000)
    (k : post (lZ ((wa : Int) * ((all : Int) * (c : Int) - (u : Int)) + (wn : Int) * ((Sm : Int) - (u : Int) - (all : Int) * ((D : Int) - (c : Int))))) S) : PX2_wasteAndWant (nI all) S post := by
  unfold PX2_wasteAndWant
  intro x1 e1
  have hl : look ≤ 1000 := by rw [hlk]; split <;> omega
  have e1' : x1 = nI look := by
    rw [e1, hlk, show (1000 : Int32) = nI 1000 from rfl]
    by_cases g : 1000 < all
    · rw [if_pos g, if_pos (nI_lt g (by omega))]
    · rw [if_neg g, if_neg (fun e => g ((nI_ltI (by omega) (by omega)).mp e))]
  subst e1'
  have hin : vp_in (nI look) 1001 := vp_in_nI (by omega) (by omega)
  rw [nI_clamp (by omega), h12, h13, h6, h7, h8, h9, pk_sub hc, pk_sub hu, nI_Z (by omega), nI_Z (by omega), nI_Z (by omega), nI_Z (by omega), nI_Z (by omega), nI_Z (by omega), nI_Z (by omega), lZ_mul, lZ_mul, lZ_sub, lZ_sub]
  refine ⟨hin, hin, fun y4 e4 => ⟨hin, hin, fun y7 e7 => ?_⟩⟩
  subst e4; subst e7
  rw [lZ_mul, lZ_mul, lZ_add, Int.natCast_sub hu, Int.natCast_sub hc]
  exact k
