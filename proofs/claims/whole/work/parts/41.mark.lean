/-! the mark that parts a knot -/
def lZ (z : Int) : Int64 := Int64.ofInt z
theorem lZ_add (a b : Int) : lZ a + lZ b = lZ (a + b) := (Int64.ofInt_add a b).symm
theorem lZ_sub (a b : Int) : lZ a - lZ b = lZ (a - b) := (Int64.ofInt_sub a b).symm
theorem lZ_mul (a b : Int) : lZ a * lZ b = lZ (a * b) := (Int64.ofInt_mul a b).symm
theorem lZ_t {a : Int} (h1 : -9223372036854775808 ≤ a) (h2 : a < 9223372036854775808) : (lZ a).toInt = a := Int64.toInt_ofInt_of_le (by omega) (by omega)
theorem lZ_lt {a b : Int} (h1 : -9223372036854775808 ≤ a) (h2 : a < 9223372036854775808) (h3 : -9223372036854775808 ≤ b) (h4 : b < 9223372036854775808) : lZ a < lZ b ↔ a < b := by rw [Int64.lt_iff_toInt_lt, lZ_t h1 h2, lZ_t h3 h4]
theorem lZ_le {a b : Int} (h1 : -9223372036854775808 ≤ a) (h2 : a < 9223372036854775808) (h3 : -9223372036854775808 ≤ b) (h4 : b < 9223372036854775808) : lZ a ≤ lZ b ↔ a ≤ b := by rw [Int64.le_iff_toInt_le, lZ_t h1 h2, lZ_t h3 h4]
theorem lZ_N (n : Nat) : lN n = lZ n := rfl
theorem nI_Z {n : Nat} (h : n < 2 ^ 31) : (nI n).toInt64 = lZ n := nI_l h
theorem m_150 : ∀ n, n < 151 → n * (150 - n) ≤ 5625 := by decide
theorem mul_bd {n m : Nat} (h : n + m ≤ 150) : n * m ≤ 5625 := Nat.le_trans (Nat.mul_le_mul (Nat.le_refl n) (show m ≤ 150 - n by omega)) (m_150 n (by omega))
theorem sq_bd {x B : Int} (h1 : -B ≤ x) (h2 : x ≤ B) : x * x ≤ B * B := by
  rcases Int.le_total 0 x with h | h
  · exact Int.mul_le_mul h2 h2 h (by omega)
  · have := Int.mul_le_mul (show -x ≤ B by omega) (show -x ≤ B by omega) (show 0 ≤ -x by omega) (show 0 ≤ B by omega)
    rwa [Int.neg_mul_neg] at this
theorem sq_nn (x : Int) : 0 ≤ x * x := by
  rcases Int.le_total 0 x with h | h
  · exact Int.mul_nonneg h h
  · have := Int.mul_nonneg (show 0 ≤ -x by omega) (show 0 ≤ -x by omega)
    rwa [Int.neg_mul_neg] at this
/-- with n and s on one side, o and t on the other -/
def qq (n o s t : Nat) : Int := (s : Int) * o - (t : Int) * n
theorem qq_bd {n o s t : Nat} (h : n + o ≤ 150) (hs : s ≤ 1000 * n) (ht : t ≤ 1000 * o) : -5625000 ≤ qq n o s t ∧ qq n o s t ≤ 5625000 := by
  have h1 := mul_bd h
  have h2 : s * o ≤ 1000 * (n * o) := by
    have := Nat.mul_le_mul hs (Nat.le_refl o)
    rwa [Nat.mul_assoc] at this
  have h3 : t * n ≤ 1000 * (n * o) := by
    have := Nat.mul_le_mul ht (Nat.le_refl n)
    rwa [Nat.mul_assoc, Nat.mul_comm o n] at this
  have e1 : (s : Int) * o = ((s * o : Nat) : Int) := by simp
  have e2 : (t : Int) * n = ((t * n : Nat) : Int) := by simp
  unfold qq
  rw [e1, e2]
  omega
def stepK (asked : Int32) (N Sm : Nat) (n s : Nat → Nat) (k : Nat) (t : Int32 × Int × Int) : Int32 × Int × Int :=
  if ¬ ((asked >>> (nI k &&& 31)) &&& 1) = 0 then t
  else if (if N - n k < n k then N - n k else n k) < 2 then t
  else if t.2.1 * ((n k * (N - n k) : Nat) : Int) < qq (n k) (N - n k) (s k) (Sm - s k) * qq (n k) (N - n k) (s k) (Sm - s k) * t.2.2 then (nI k, qq (n k) (N - n k) (s k) (Sm - s k) * qq (n k) (N - n k) (s k) (Sm - s k), ((n k * (N - n k) : Nat) : Int)) else t
def bestK (asked : Int32) (N Sm : Nat) (n s : Nat → Nat) : Nat → Int32 × Int × Int
  | 0 => (-1, 0, 1)
  | k + 1 => stepK asked N Sm n s k (bestK asked N Sm n s k)
/-- what the counts of a knot keep to -/
def KB (N Sm : Nat) (n s : Nat → Nat) : Prop := N ≤ 150 ∧ Sm ≤ 1000 * N ∧ ∀ i, i < 8 → n i ≤ N ∧ s i ≤ Sm ∧ s i ≤ 1000 * n i ∧ Sm - s i ≤ 1000 * (N - n i)
theorem bestK_bd {asked : Int32} {N Sm : Nat} {n s : Nat → Nat} (hB : KB N Sm n s) : ∀ k, k ≤ 8 → 0 ≤ (bestK asked N Sm n s k).2.1 ∧ (bestK asked N Sm n s k).2.1 ≤ 31640625000000 ∧ 1 ≤ (bestK asked N Sm n s k).2.2 ∧ (bestK asked N Sm n s k).2.2 ≤ 5625
  | 0, _ => by simp [bestK]
  | k + 1, h => by
    have ih := bestK_bd hB (asked := asked) k (by omega)
    obtain ⟨hN, -, hi⟩ := hB
    obtain ⟨h1, h2, h3, h4⟩ := hi k (by omega)
    rw [bestK]
    unfold stepK
    by_cases c1 : ¬ ((asked >>> (nI k &&& 31)) &&& 1) = 0
    · rw [if_pos c1]; exact ih
    rw [if_neg c1]
    by_cases c2 : (if N - n k < n k then N - n k else n k) < 2
    · rw [if_pos c2]; exact ih
    rw [if_neg c2]
    have c2' : 2 ≤ n k ∧ 2 ≤ N - n k := by
      by_cases c5 : N - n k < n k
      · rw [if_pos c5] at c2; omega
      · rw [if_neg c5] at c2; omega
    split
    · have hq := qq_bd (n := n k) (o := N - n k) (s := s k) (t := Sm - s k) (by omega) h3 h4
      have h5 := sq_bd hq.1 hq.2
      have h6 := sq_nn (qq (n k) (N - n k) (s k) (Sm - s k))
      have h7 := mul_bd (n := n k) (m := N - n k) (by omega)
      have h8 : 1 ≤ n k * (N - n k) := Nat.mul_pos (by omega) (by omega)
      refine ⟨h6, ?_, ?_, ?_⟩
      · show qq (n k) (N - n k) (s k) (Sm - s k) * qq (n k) (N - n k) (s k) (Sm - s k) ≤ 31640625000000
        omega
      · show 1 ≤ ((n k * (N - n k) : Nat) : Int)
        omega
      · show ((n k * (N - n k) : Nat) : Int) ≤ 5625
        omega
    · exact ih
theorem pr_bd {a b : Int} (h1 : 0 ≤ a) (h2 : a ≤ 31640625000000) (h3 : 0 ≤ b) (h4 : b ≤ 5625) : 0 ≤ a * b ∧ a * b ≤ 177978515625000000 := by
  refine ⟨Int.mul_nonneg h1 h3, ?_⟩
  have := Int.mul_le_mul h2 h4 h3 (show (0 : Int) ≤ 31640625000000 by omega)
  omega
theorem bestK_id {asked : Int32} {N Sm : Nat} {n s : Nat → Nat} : ∀ k, (bestK asked N Sm n s k).1 = -1 ∨ ∃ i, i < k ∧ (bestK asked N Sm n s k).1 = nI i
  | 0 => Or.inl rfl
  | k + 1 => by
    rw [bestK]
    unfold stepK
    have ih : (bestK asked N Sm n s k).1 = -1 ∨ ∃ i, i < k + 1 ∧ (bestK asked N Sm n s k).1 = nI i := (bestK_id k).imp id (fun ⟨i, h, e⟩ => ⟨i, by omega, e⟩)
    by_cases c1 : ¬ ((asked >>> (nI k &&& 31)) &&& 1) = 0
    · rw [if_pos c1]; exact ih
    rw [if_neg c1]
    by_cases c2 : (if N - n k < n k then N - n k else n k) < 2
    · rw [if_pos c2]; exact ih
    rw [if_neg c2]
    split
    · exact Or.inr ⟨k, by omega, rfl⟩
    · exact ih
theorem nI_min {a b : Nat} (ha : a < 2 ^ 31) (hb : b < 2 ^ 31) : (if nI a < nI b then nI a else nI b) = nI (if a < b then a else b) := by
  by_cases h : a < b
  · rw [if_pos h, if_pos (nI_lt h hb)]
  · rw [if_neg h, if_neg (fun e => h ((nI_ltI ha hb).mp e))]
theorem c_markLoop {S : St} {asked : Int32} {N Sm : Nat} {n s : Nat → Nat} {post : Int32 → St → Prop} (hB : KB N Sm n s) (h3 : S.1 3 = nI N) (h4 : S.1 4 = nI Sm) (h89 : ∀ i, i < 8 → S.2.2 8 i = nI (n i) ∧ S.2.2 9 i = nI (s i)) (kp : post (bestK asked N Sm n s 8).1 S) :
    ∀ r k, k + r = 8 → LX4_markThatParts post (2 * r + 1) 0 0 asked (bestK asked N Sm n s k).1 (nI k) 0 (lZ (bestK asked N Sm n s k).2.1) (lZ (bestK asked N Sm n s k).2.2) S
  | 0, k, h => by
    have hk : k = 8 := by omega
    subst hk
    exact b_t (by decide) kp
  | r + 1, k, h => by
    have ih := c_markLoop (asked := asked) (post := post) hB h3 h4 h89 kp r (k + 1) (by omega)
    have hbd := bestK_bd hB (asked := asked) k (by omega)
    obtain ⟨hN, hSm, hi⟩ := hB
    obtain ⟨g1, g2, g3, g4⟩ := hi k (by omega)
    obtain ⟨r8, r9⟩ := h89 k (by omega)
    have hck : (nI k).toNatClampNeg = k := nI_clamp (by omega)
    have hin : vp_in (nI k) 8 := vp_in_nI (by omega) (by omega)
    refine b_f (fun e => absurd ((nI_leI (a := 8) (b := k) (by omega) (by omega)).mp e) (by omega)) ⟨hin, fun x5 e5 => ?_⟩
    subst e5
    rw [hck, r8, h3, pk_sub g1]
    have hstep : bestK asked N Sm n s (k + 1) = stepK asked N Sm n s k (bestK asked N Sm n s k) := rfl
    refine ⟨fun c1 => ?_, fun c1 => ?_⟩
    · show BX4_markThatParts_1 (LX4_markThatParts post (2 * r + 1)) post (nI (N - n k)) asked _ (nI k) 0 _ _ S
      unfold BX4_markThatParts_1
      rw [hck, r8, r9, h4, nI_min (by omega) (by omega)]
      refine b_0 ⟨hin, fun c2 x11 e11 => ?_, fun c2 => ⟨hin, hin, hin, fun y15 ey15 y16 ey16 => ⟨hin, fun y18 ey18 => ?_⟩⟩⟩
      · subst e11
        have c2' : (if N - n k < n k then N - n k else n k) < 2 := (nI_ltI (b := 2) (by split <;> omega) (by omega)).mp c2
        rw [hstep] at ih
        unfold stepK at ih
        rw [if_neg (fun h => h c1), if_pos c2'] at ih
        rw [nI_1]
        exact ih
      · have c2' : ¬ (if N - n k < n k then N - n k else n k) < 2 := fun h => c2 (nI_lt (b := 2) h (by omega))
        have hq := qq_bd (n := n k) (o := N - n k) (s := s k) (t := Sm - s k) (by omega) g3 g4
        have h5 := sq_bd hq.1 hq.2
        have h6 := sq_nn (qq (n k) (N - n k) (s k) (Sm - s k))
        have h7 := mul_bd (n := n k) (m := N - n k) (by omega)
        have ey : y15 = lZ (qq (n k) (N - n k) (s k) (Sm - s k)) := by
          rw [ey15, pk_sub g2, nI_Z (by omega), nI_Z (by omega), nI_Z (by omega), nI_Z (by omega), lZ_mul, lZ_mul, lZ_sub]
          rfl
        rw [ey, lZ_mul] at ey16
        have ep : y18 = lZ ((n k * (N - n k) : Nat) : Int) := by
          rw [ey18, nI_Z (by omega), nI_Z (by omega), lZ_mul]
          simp
        subst ey16; subst ep
        have p1 := pr_bd h6 (show qq (n k) (N - n k) (s k) (Sm - s k) * qq (n k) (N - n k) (s k) (Sm - s k) ≤ 31640625000000 by omega) (show 0 ≤ (bestK asked N Sm n s k).2.2 by omega) hbd.2.2.2
        have p2 := pr_bd hbd.1 hbd.2.1 (show (0 : Int) ≤ ((n k * (N - n k) : Nat) : Int) by omega) (show ((n k * (N - n k) : Nat) : Int) ≤ 5625 by omega)
        rw [hstep] at ih
        unfold stepK at ih
        rw [if_neg (fun h => h c1), if_neg c2'] at ih
        rw [lZ_mul, lZ_mul]
        refine ⟨fun c3 x20 e20 => ?_, fun c3 x20 e20 => ?_⟩
        · subst e20
          rw [lg_cmp_le, lZ_le (by omega) (by omega) (by omega) (by omega)] at c3
          rw [if_neg (by omega)] at ih
          rw [nI_1]
          exact ih
        · subst e20
          rw [lg_cmp_le, lZ_le (by omega) (by omega) (by omega) (by omega)] at c3
          rw [if_pos (by omega)] at ih
          rw [nI_1]
          exact ih
    · show BX4_markThatParts_1 (LX4_markThatParts post (2 * r + 1)) post (nI (N - n k)) asked _ (nI k) 1 _ _ S
      unfold BX4_markThatParts_1
      refine b_1 (fun x8 e8 => ?_)
      subst e8
      rw [hstep] at ih
      unfold stepK at ih
      rw [if_pos c1] at ih
      rw [nI_1]
      exact ih
/-- the mark of a knot -/
def mkK (nd : Nat) (aw mk : Nat → Int32) (ea : Nat → Nat) (asked marks : Int32) : Int32 :=
  (bestK asked (sD (kn aw mk asked marks) (fun _ => 1) nd) (sD (kn aw mk asked marks) ea nd) (fun i => sD (kh aw mk asked marks i) (fun _ => 1) nd) (fun i => sD (kh aw mk asked marks i) ea nd) 8).1
theorem mkK_id {nd : Nat} {aw mk : Nat → Int32} {ea : Nat → Nat} {asked marks : Int32} : mkK nd aw mk ea asked marks = -1 ∨ ∃ i, i < 8 ∧ mkK nd aw mk ea asked marks = nI i := bestK_id 8
theorem sD_and {p q : Nat → Bool} {f : Nat → Nat} : ∀ {n : Nat}, sD p f n = sD (fun d => p d && q d) f n + sD (fun d => p d && !q d) f n
  | 0 => rfl
  | n + 1 => by
    rw [sD, sD, sD, sD_and (p := p) (q := q) (n := n)]
    cases p n <;> cases q n <;> simp <;> omega
theorem KB_of {nd : Nat} {aw mk : Nat → Int32} {ea : Nat → Nat} {asked marks : Int32} (hnd : nd ≤ 150) (hea : ∀ d, d < nd → ea d ≤ 1000) :
    KB (sD (kn aw mk asked marks) (fun _ => 1) nd) (sD (kn aw mk asked marks) ea nd) (fun i => sD (kh aw mk asked marks i) (fun _ => 1) nd) (fun i => sD (kh aw mk asked marks i) ea nd) := by
  refine ⟨Nat.le_trans sD_n hnd, sD_b hea, fun i hi => ?_⟩
  have e1 := sD_and (p := kn aw mk asked marks) (q := hb mk i) (f := fun _ => 1) (n := nd)
  have e2 := sD_and (p := kn aw mk asked marks) (q := hb mk i) (f := ea) (n := nd)
  have l1 : sD (kh aw mk asked marks i) ea nd ≤ 1000 * sD (kh aw mk asked marks i) (fun _ => 1) nd := sD_b hea
  have l2 : sD (fun d => kn aw mk asked marks d && !hb mk i d) ea nd ≤ 1000 * sD (fun d => kn aw mk asked marks d && !hb mk i d) (fun _ => 1) nd := sD_b hea
  have f1 : sD (fun d => kn aw mk asked marks d && hb mk i d) (fun _ => 1) nd = sD (kh aw mk asked marks i) (fun _ => 1) nd := rfl
  have f2 : sD (fun d => kn aw mk asked marks d && hb mk i d) ea nd = sD (kh aw mk asked marks i) ea nd := rfl
  rw [f1] at e1
  rw [f2] at e2
  dsimp only
  omega
theorem c_mark {C : St} {nd j : Nat} {ea : Nat → Nat} {asked marks : Int32} {post : Int32 → St → Prop} (hD : DC C nd j ea)
    (k : ∀ S : St, CK C S → post (mkK nd (C.2.2 5) (C.2.2 4) ea asked marks) S) : ∃ n, PX4_markThatParts n (nI j) asked marks C post := by
  refine ⟨17, c_readKnot hD (fun S hK h3 h4 h89 => ?_)⟩
  exact c_markLoop (KB_of hD.1 (fun d hd => (hD.2.2.2 d hd).2)) h3 h4 h89 (k S (hK.mono (by decide) (by decide))) 8 0 rfl
