theorem i_and1 (y : Int32) : y &&& 1 = 0 ∨ y &&& 1 = 1 := by
  obtain ⟨j, hj, e⟩ := pk_andE y (m := 1) 1 (by decide)
  rcases (show j = 0 ∨ j = 1 by omega) with rfl | rfl
  · exact Or.inl e
  · exact Or.inr e
/-- how the reference's best stands to the class's -/
def RT (N Sm : Nat) (t : Int32 × Int × Int) (b : Int32) (top by_ : Int) : Prop :=
  t.1 = b ∧ ((b = -1 ∧ top = 0 ∧ by_ = 1 ∧ t.2.1 = 0 ∧ t.2.2 = 1) ∨ (∃ i, i < 8 ∧ b = nI i ∧ t.2.2 = by_ ∧ t.2.1 = top * N - (Sm : Int) * Sm * by_ ∧ 0 ≤ top ∧ top ≤ 843750000000 ∧ 1 ≤ by_ ∧ by_ ≤ 5625))
theorem pr2 {a b A B : Int} (h1 : 0 ≤ a) (h2 : a ≤ A) (h3 : 0 ≤ b) (h4 : b ≤ B) : 0 ≤ a * b ∧ a * b ≤ A * B := ⟨Int.mul_nonneg h1 h3, Int.mul_le_mul h2 h4 h3 (by omega)⟩
set_option maxHeartbeats 2000000 in
theorem m_markLoop {nd j : Nat} {ea : Nat → Nat} {aw mk : Nat → Int32} {mask marks : Int32} {N Sm : Nat} {n s : Nat → Nat} {post : Int32 → St → Prop} (hB : KB N Sm n s) (eN : N = sD (kn aw mk mask marks) (fun _ => 1) nd) (eS : Sm = sD (kn aw mk mask marks) ea nd) (en : ∀ i, n i = sD (kh aw mk mask marks i) (fun _ => 1) nd) (es : ∀ i, s i = sD (kh aw mk mask marks i) ea nd)
    {M0 : St} (kp : ∀ S, Kp [3, 4] [] M0 S → post (bestK mask N Sm n s 8).1 S) :
    ∀ r k, k + r = 8 → ∀ (M : St) (b : Int32) (top by_ : Int), Kp [3, 4] [] M0 M → DM M nd j ea aw mk → RT N Sm (bestK mask N Sm n s k) b top by_ → LX6_markOf post (r + 1) (nI j) (nI k) mask (marks &&& mask) b (lZ top) (lZ by_) M
  | 0, k, h => by
    intro M b top by_ hM hD hT
    have hk : k = 8 := by omega
    subst hk
    exact b_t (by decide) (by rw [← hT.1]; exact kp M hM)
  | r + 1, k, h => by
    intro M b top by_ hM hD hT
    have ih := m_markLoop (j := j) (post := post) hB eN eS en es kp r (k + 1) (by omega)
    have hB' := hB
    obtain ⟨hN, hSm, hi⟩ := hB'
    obtain ⟨g1, g2, g3, g4⟩ := hi k (by omega)
    have hstep : bestK mask N Sm n s (k + 1) = stepK mask N Sm n s k (bestK mask N Sm n s k) := rfl
    refine b_f (fun e => absurd ((nI_leI (a := 8) (b := k) (by omega) (by omega)).mp e) (by omega)) ⟨fun c1 x e => ?_, fun c1 => ?_⟩
    · subst e
      rw [nI_1]
      refine ih M b top by_ hM hD ?_
      rw [hstep]
      unfold stepK
      rw [if_pos (by rw [c1]; decide)]
      exact hT
    · have c1' : ((mask >>> (nI k &&& 31)) &&& 1) = 0 := (i_and1 _).resolve_right c1
      refine m_counts hD (fun S hK h3 h4 h0 h1 y6 ey6 y7 ey7 y8 ey8 y9 ey9 => ?_)
      have hMS : MK M S := hK.mono (by decide) (by decide)
      have hM' : Kp [3, 4] [] M0 S := hM.tr hK
      have hD' : DM S nd j ea aw mk := hD.kept hMS
      rw [← en] at h3
      rw [← eN] at h4
      rw [← es] at h0
      rw [← eS] at h1
      rw [h3, nI_Z (by omega)] at ey6
      rw [h3, h4, pk_sub g1, nI_Z (by omega)] at ey7
      rw [h0] at ey8
      have ey9' : y9 = lZ ((Sm - s k : Nat) : Int) := by
        rw [ey9, h0, h1, lZ_sub]
        congr 1
        omega
      subst ey6; subst ey7; subst ey8; subst ey9'
      have hskip : (if N - n k < n k then N - n k else n k) < 2 → LX6_markOf post (r + 1) (nI j) (nI (k + 1)) mask (marks &&& mask) b (lZ top) (lZ by_) S := fun c2 => by
        refine ih S b top by_ hM' hD' ?_
        rw [hstep]
        unfold stepK
        rw [if_neg (fun h => h c1'), if_pos c2]
        exact hT
      have e2 : (2 : Int64) = lZ 2 := rfl
      refine ⟨fun c2 x e => ?_, fun c2 => ⟨fun c3 => ?_, fun c3 x e => ?_⟩⟩
      · subst e
        rw [nI_1]
        rw [lg_cmp_lt, e2, lZ_lt (by omega) (by omega) (by omega) (by omega)] at c2
        exact hskip (by split <;> omega)
      · rw [lg_cmp_lt, e2, lZ_lt (by omega) (by omega) (by omega) (by omega)] at c2
        rw [lg_cmp_ge, e2, lZ_le (by omega) (by omega) (by omega) (by omega)] at c3
        intro y13 e13 y14 e14
        rw [h1]
        have c5 : ¬ (if N - n k < n k then N - n k else n k) < 2 := by split <;> omega
        have e13' : y13 = lZ (uu (n k) (N - n k) (s k) (Sm - s k)) := by
          rw [e13, lZ_mul, lZ_mul, lZ_mul, lZ_mul, lZ_add]; rfl
        have e14' : y14 = lZ ((n k * (N - n k) : Nat) : Int) := by
          rw [e14, lZ_mul]; simp
        subst e13'; subst e14'
        have hu := uu_bd (n := n k) (o := N - n k) (s := s k) (t := Sm - s k) (by omega) g3 g4
        have h7 := mul_bd (n := n k) (m := N - n k) (by omega)
        have h8 : 1 ≤ n k * (N - n k) := Nat.mul_pos (by omega) (by omega)
        have hid := qq_uu (n k) (N - n k) (s k) (Sm - s k)
        have eNN : ((n k : Nat) : Int) + ((N - n k : Nat) : Int) = (N : Int) := by omega
        have eSS : ((s k : Nat) : Int) + ((Sm - s k : Nat) : Int) = (Sm : Int) := by omega
        have eDD : ((n k : Nat) : Int) * ((N - n k : Nat) : Int) = ((n k * (N - n k) : Nat) : Int) := by simp
        rw [eNN, eSS, eDD] at hid
        rw [lZ_add, eNN, lZ_mul, lZ_mul, lZ_mul, lZ_mul, lZ_mul]
        generalize hup : uu (n k) (N - n k) (s k) (Sm - s k) = up at *
        generalize hdn : n k * (N - n k) = dn at *
        have hsq := sq_nn (qq (n k) (N - n k) (s k) (Sm - s k))
        have b1 := pr2 hu.1 hu.2 (show (0 : Int) ≤ (N : Int) by omega) (show (N : Int) ≤ 150 by omega)
        have b2 := pr2 (show (0 : Int) ≤ (Sm : Int) by omega) (show (Sm : Int) ≤ 150000 by omega) (show (0 : Int) ≤ (Sm : Int) by omega) (show (Sm : Int) ≤ 150000 by omega)
        have b3 := pr2 b2.1 b2.2 (show (0 : Int) ≤ (dn : Int) by omega) (show (dn : Int) ≤ 5625 by omega)
        have htake : ∀ (q : stepK mask N Sm n s k (bestK mask N Sm n s k) = (nI k, qq (n k) (N - n k) (s k) (Sm - s k) * qq (n k) (N - n k) (s k) (Sm - s k), ((dn : Nat) : Int))), LX6_markOf post (r + 1) (nI j) (nI (k + 1)) mask (marks &&& mask) (nI k) (lZ up) (lZ ((dn : Nat) : Int)) S := fun q => by
          refine ih S (nI k) up dn hM' hD' ?_
          rw [hstep, q]
          exact ⟨rfl, Or.inr ⟨k, by omega, rfl, rfl, hid, hu.1, hu.2, by omega, by omega⟩⟩
        have hstay : ∀ (q : stepK mask N Sm n s k (bestK mask N Sm n s k) = bestK mask N Sm n s k), LX6_markOf post (r + 1) (nI j) (nI (k + 1)) mask (marks &&& mask) b (lZ top) (lZ by_) S := fun q => by
          refine ih S b top by_ hM' hD' ?_
          rw [hstep, q]
          exact hT
        have hK1 : stepK mask N Sm n s k (bestK mask N Sm n s k) = if (bestK mask N Sm n s k).2.1 * ((dn : Nat) : Int) < qq (n k) (N - n k) (s k) (Sm - s k) * qq (n k) (N - n k) (s k) (Sm - s k) * (bestK mask N Sm n s k).2.2 then (nI k, qq (n k) (N - n k) (s k) (Sm - s k) * qq (n k) (N - n k) (s k) (Sm - s k), ((dn : Nat) : Int)) else bestK mask N Sm n s k := by
          unfold stepK
          rw [if_neg (fun h => h c1'), if_neg c5, hdn]
        have hgp := bestK_bd hB (asked := mask) k (by omega)
        refine ⟨fun c6 => ?_, fun c6 x e => ?_⟩
        · rw [lg_cmp_gt, lZ_lt (by omega) (by omega) (by omega) (by omega)] at c6
          obtain ⟨hb1, hT2⟩ := hT
          refine ⟨fun c7 x e => ?_, fun c7 => ?_⟩
          · subst e
            rw [nI_1]
            rcases hT2 with ⟨q1, q2, q3, q4, q5⟩ | ⟨i, hi8, q1, -⟩
            · refine htake ?_
              rw [hK1, q4, q5, if_pos (by rw [hid]; omega)]
            · rw [q1] at c7
              exact absurd c7 (nI_pos (by omega))
          · rcases hT2 with ⟨q1, -⟩ | ⟨i, hi8, q1, q2, q3, q4, q5, q6, q7⟩
            · rw [q1] at c7
              exact absurd (by decide) c7
            · have hcmp := uu_cmp (up := up) (top := top) (by_ := by_) (down := (dn : Int)) (N := (N : Int)) (P := (Sm : Int) * Sm) (g := (bestK mask N Sm n s k).2.1) (by omega) q3
              rw [← hid, ← q2] at hcmp
              have b4 := pr2 hu.1 hu.2 (show (0 : Int) ≤ by_ by omega) q7
              have b5 := pr2 q4 q5 (show (0 : Int) ≤ (dn : Int) by omega) (show (dn : Int) ≤ 5625 by omega)
              refine ⟨fun c8 x e => ?_, fun c8 x e => ?_⟩
              · subst e
                rw [nI_1]
                rw [lg_cmp_gt, lZ_lt (by omega) (by omega) (by omega) (by omega), ← q2] at c8
                refine htake ?_
                rw [hK1, if_pos (hcmp.mpr c8)]
              · subst e
                rw [nI_1]
                rw [lg_cmp_gt, lZ_lt (by omega) (by omega) (by omega) (by omega), ← q2] at c8
                refine hstay ?_
                rw [hK1, if_neg (fun h => c8 (hcmp.mp h))]
        · subst e
          rw [nI_1]
          rw [lg_cmp_gt, lZ_lt (by omega) (by omega) (by omega) (by omega)] at c6
          refine hstay ?_
          have hz : qq (n k) (N - n k) (s k) (Sm - s k) * qq (n k) (N - n k) (s k) (Sm - s k) = 0 := by omega
          have := Int.mul_nonneg hgp.1 (show (0 : Int) ≤ (dn : Int) by omega)
          rw [hK1, hz, if_neg (by omega)]
      · subst e
        rw [nI_1]
        rw [lg_cmp_lt, e2, lZ_lt (by omega) (by omega) (by omega) (by omega)] at c2
        rw [lg_cmp_ge, e2, lZ_le (by omega) (by omega) (by omega) (by omega)] at c3
        exact hskip (by split <;> omega)
theorem m_markK {M : St} {nd j : Nat} {ea : Nat → Nat} {aw mk : Nat → Int32} {mask marks deep : Int32} {post : Int32 → St → Prop} (hD : DM M nd j ea aw mk) (hd : ¬ deep = 4)
    (k : ∀ S : St, Kp [3, 4] [] M S → post (mkK nd aw mk ea mask marks) S) : ∃ n, PX6_markOf n (nI j) mask (marks &&& mask) deep M post := by
  refine ⟨9, b_f hd ?_⟩
  exact m_markLoop (KB_of hD.1 (fun d hd => (hD.2.2.2 d hd).2.1)) rfl rfl (fun _ => rfl) (fun _ => rfl) k 8 0 rfl M (-1) 0 1 Kp.rf hD ⟨rfl, Or.inl ⟨rfl, rfl, rfl, rfl, rfl⟩⟩
theorem m_mark {M : St} {nd j : Nat} {ea : Nat → Nat} {aw mk : Nat → Int32} {mask marks deep : Int32} {post : Int32 → St → Prop} (hD : DM M nd j ea aw mk) (hd : ¬ deep = 4)
    (k : ∀ S : St, MK M S → post (mkK nd aw mk ea mask marks) S) : ∃ n, PX6_markOf n (nI j) mask (marks &&& mask) deep M post :=
  m_markK hD hd (fun S hk => k S (hk.mono (by decide) (by decide)))
theorem m_mark4 {M : St} {j mask bits : Int32} {post : Int32 → St → Prop} (k : post (-1) M) : ∃ n, PX6_markOf n j mask bits 4 M post := ⟨0, b_t rfl k⟩
