/-! sums over days -/
def sD (p : Nat → Bool) (f : Nat → Nat) : Nat → Nat
  | 0 => 0
  | n + 1 => sD p f n + (if p n = true then f n else 0)
theorem sD_le {p q : Nat → Bool} {f : Nat → Nat} : ∀ {n : Nat}, (∀ d, d < n → p d = true → q d = true) → sD p f n ≤ sD q f n
  | 0, _ => Nat.le_refl _
  | n + 1, h => by
    have ih := sD_le (p := p) (q := q) (f := f) (n := n) (fun d hd => h d (by omega))
    rw [sD, sD]
    by_cases hp : p n = true
    · rw [if_pos hp, if_pos (h n (by omega) hp)]; omega
    · rw [if_neg hp]; omega
theorem sD_b {p : Nat → Bool} {f : Nat → Nat} {B : Nat} : ∀ {n : Nat}, (∀ d, d < n → f d ≤ B) → sD p f n ≤ B * sD p (fun _ => 1) n
  | 0, _ => Nat.le_refl _
  | n + 1, h => by
    have ih := sD_b (p := p) (f := f) (B := B) (n := n) (fun d hd => h d (by omega))
    have := h n (by omega)
    rw [sD, sD]
    by_cases hp : p n = true
    · rw [if_pos hp, if_pos hp, Nat.mul_add]; omega
    · rw [if_neg hp, if_neg hp]; omega
theorem sD_n {p : Nat → Bool} : ∀ {n : Nat}, sD p (fun _ => 1) n ≤ n
  | 0 => Nat.le_refl _
  | n + 1 => by
    have ih := sD_n (p := p) (n := n)
    rw [sD]
    split <;> omega
theorem sD_c {p q : Nat → Bool} {f g : Nat → Nat} : ∀ {n : Nat}, (∀ d, d < n → p d = q d ∧ (p d = true → f d = g d)) → sD p f n = sD q g n
  | 0, _ => rfl
  | n + 1, h => by
    rw [sD, sD, sD_c (p := p) (q := q) (f := f) (g := g) (fun d hd => h d (by omega))]
    obtain ⟨h1, h2⟩ := h n (by omega)
    rw [← h1]
    by_cases hp : p n = true
    · rw [if_pos hp, if_pos hp, h2 hp]
    · rw [if_neg hp, if_neg hp]
/-- the days of a knot; the days with a mark -/
def kn (aw mk : Nat → Int32) (asked marks : Int32) (d : Nat) : Bool := decide (aw d = 0) && decide (((mk d ^^^ marks) &&& asked) = 0)
def hb (mk : Nat → Int32) (k : Nat) (d : Nat) : Bool := decide (¬ ((mk d >>> (nI k &&& 31)) &&& 1) = 0)
def kh (aw mk : Nat → Int32) (asked marks : Int32) (k : Nat) (d : Nat) : Bool := kn aw mk asked marks d && hb mk k d
theorem Kp.mono {is rs is2 rs2 : List Nat} {S0 S : St} (h : Kp is rs S0 S) (h1 : ∀ k, k ∈ is → k ∈ is2) (h2 : ∀ k, k ∈ rs → k ∈ rs2) : Kp is2 rs2 S0 S := ⟨fun k hk => h.1 k (fun e => hk (h1 k e)), fun k hk => h.2 k (fun e => hk (h2 k e))⟩
theorem c_inKnot {d : Nat} {asked marks : Int32} {S : St} {post : Int32 → St → Prop} (hd : d < 150) (k1 : kn (S.2.2 5) (S.2.2 4) asked marks d = true → post 1 S) (k0 : kn (S.2.2 5) (S.2.2 4) asked marks d = false → post 0 S) : PX0_isInKnot (nI d) asked marks S post := by
  have hin : vp_in (nI d) 150 := vp_in_nI hd (by omega)
  unfold PX0_isInKnot
  rw [nI_clamp (by omega)]
  refine ⟨hin, fun h1 => ⟨hin, fun h2 => k1 (by simp [kn, h1, h2]), fun h2 => k0 (by simp [kn, h2])⟩, fun h1 => k0 (by simp [kn, h1])⟩
theorem c_eaten {d j : Nat} {S : St} {post : Int32 → St → Prop} (hd : d < 150) (hj : j < 6) (k : post (S.2.2 6 (d * 6 + j)) S) : PX0_eatenOn (nI d) (nI j) S post := by
  unfold PX0_eatenOn
  rw [show (6 : Int32) = nI 6 from rfl, pk_mul, nI_add, nI_clamp (by omega)]
  exact ⟨vp_in_nI (by omega) (by omega), k⟩
/-- readDay: one more day, its eaten portions, both by mark -/
theorem c_readDay {m : Int32} {v : Nat} {S : St} {post : St → Prop}
    (k : ∀ S1 : St, Kp [3, 4] [8, 9] S S1 → S1.1 3 = S.1 3 + 1 → S1.1 4 = S.1 4 + nI v → (∀ i, i < 8 → S1.2.2 8 i = S.2.2 8 i + (if ((m >>> (nI i &&& 31)) &&& 1) = 0 then 0 else 1)) → (∀ i, i < 8 → S1.2.2 9 i = S.2.2 9 i + (if ((m >>> (nI i &&& 31)) &&& 1) = 0 then 0 else nI v)) → post S1) : ∃ n, PX4_readDay n m (nI v) S post := by
  obtain ⟨n, hL⟩ := lp2 (W := fun n x T => LX4_readDay post n m (nI v) x T) (I := fun x T => ∃ i, i ≤ 8 ∧ x = nI i ∧ Kp [3, 4] [8, 9] S T ∧ T.1 3 = S.1 3 + 1 ∧ T.1 4 = S.1 4 + nI v ∧ (∀ q, T.2.2 8 q = S.2.2 8 q + (if q < i ∧ ¬ ((m >>> (nI q &&& 31)) &&& 1) = 0 then 1 else 0)) ∧ (∀ q, T.2.2 9 q = S.2.2 9 q + (if q < i ∧ ¬ ((m >>> (nI q &&& 31)) &&& 1) = 0 then nI v else 0))) (μ := fun x T => 9 - x.toNatClampNeg) (by
    intro n x T hI hk
    obtain ⟨i, hi, rfl, hK, h3, h4, h8, h9⟩ := hI
    show BX4_readDay_0 _ _ _ _ _ T
    unfold BX4_readDay_0
    refine ⟨fun c1 => ?_, fun c1 => ?_⟩
    · have hi8 : i = 8 := by
        have := (nI_leI (a := 8) (b := i) (by omega) (by omega)).mp c1
        omega
      subst hi8
      refine k T hK h3 h4 (fun q hq => ?_) (fun q hq => ?_)
      · rw [h8 q]
        by_cases hz : ((m >>> (nI q &&& 31)) &&& 1) = 0
        · rw [if_pos hz, if_neg (fun h => h.2 hz)]
        · rw [if_neg hz, if_pos ⟨hq, hz⟩]
      · rw [h9 q]
        by_cases hz : ((m >>> (nI q &&& 31)) &&& 1) = 0
        · rw [if_pos hz, if_neg (fun h => h.2 hz)]
        · rw [if_neg hz, if_pos ⟨hq, hz⟩]
    · have hlt : i < 8 := by
        have : ¬ 8 ≤ i := fun h => c1 (nI_le (a := 8) h (by omega))
        omega
      have hin : vp_in (nI i) 8 := vp_in_nI hlt (by omega)
      have hci : (nI i).toNatClampNeg = i := nI_clamp (by omega)
      have hm : 9 - (nI (i + 1)).toNatClampNeg < 9 - (nI i).toNatClampNeg := by rw [nI_clamp (by omega), nI_clamp (by omega)]; omega
      refine ⟨fun hz x ex => ?_, fun hz => ⟨hin, hin, fun T1 e1 => ⟨hin, hin, fun T2 e2 x ex => ?_⟩⟩⟩
      · subst ex
        rw [nI_1]
        refine hk _ _ ⟨i + 1, by omega, rfl, hK, h3, h4, fun q => ?_, fun q => ?_⟩ hm
        · rw [h8 q]
          by_cases hq : q < i ∧ ¬ ((m >>> (nI q &&& 31)) &&& 1) = 0
          · rw [if_pos hq, if_pos ⟨by omega, hq.2⟩]
          · rw [if_neg hq, if_neg (fun h => hq ⟨by
              rcases Nat.lt_or_ge q i with h5 | h5
              · exact h5
              · have : q = i := by omega
                subst this
                exact absurd hz h.2, h.2⟩)]
        · rw [h9 q]
          by_cases hq : q < i ∧ ¬ ((m >>> (nI q &&& 31)) &&& 1) = 0
          · rw [if_pos hq, if_pos ⟨by omega, hq.2⟩]
          · rw [if_neg hq, if_neg (fun h => hq ⟨by
              rcases Nat.lt_or_ge q i with h5 | h5
              · exact h5
              · have : q = i := by omega
                subst this
                exact absurd hz h.2, h.2⟩)]
      · subst e1; subst e2; subst ex
        rw [hci, nI_1]
        refine hk _ _ ⟨i + 1, by omega, rfl, (hK.sR (by decide) _).sR (by decide) _, h3, h4, fun q => ?_, fun q => ?_⟩ hm
        · rw [sR_n _ _ _ (show (8 : Nat) ≠ 9 by decide), sR_g]
          by_cases hq : q = i
          · subst hq
            rw [upd_g, h8 q, if_neg (fun h => absurd h.1 (by omega)), if_pos ⟨by omega, hz⟩, Int32.add_zero]
          · rw [upd_n _ _ _ hq, h8 q]
            by_cases hq2 : q < i ∧ ¬ ((m >>> (nI q &&& 31)) &&& 1) = 0
            · rw [if_pos hq2, if_pos ⟨by omega, hq2.2⟩]
            · rw [if_neg hq2, if_neg (fun h => hq2 ⟨by omega, h.2⟩)]
        · rw [sR_g, sR_n _ _ _ (show (9 : Nat) ≠ 8 by decide)]
          by_cases hq : q = i
          · subst hq
            rw [upd_g, h9 q, if_neg (fun h => absurd h.1 (by omega)), if_pos ⟨by omega, hz⟩, Int32.add_zero]
          · rw [upd_n _ _ _ hq, h9 q]
            by_cases hq2 : q < i ∧ ¬ ((m >>> (nI q &&& 31)) &&& 1) = 0
            · rw [if_pos hq2, if_pos ⟨by omega, hq2.2⟩]
            · rw [if_neg hq2, if_neg (fun h => hq2 ⟨by omega, h.2⟩)]) 0 (sI (sI S 3 (S.1 3 + 1)) 4 (S.1 4 + nI v)) ⟨0, by omega, rfl, (Kp.rf.sI (by decide) _).sI (by decide) _, by rw [sI_n _ _ _ (by decide), sI_g], sI_g _ _ _, fun q => by rw [if_neg (fun h => absurd h.1 (by omega)), Int32.add_zero]; rfl, fun q => by rw [if_neg (fun h => absurd h.1 (by omega)), Int32.add_zero]; rfl⟩
  refine ⟨n, fun S1 e S2 e' => ?_⟩
  subst e; subst e'
  rw [sI_n _ _ _ (show (4 : Nat) ≠ 3 by decide)]
  exact hL
/-- what the class's rows say of a meal: its days, and what was eaten -/
def DC (C : St) (nd j : Nat) (ea : Nat → Nat) : Prop := nd ≤ 150 ∧ j < 6 ∧ C.1 1 = nI nd ∧ ∀ d, d < nd → C.2.2 6 (d * 6 + j) = nI (ea d) ∧ ea d ≤ 1000
theorem DC.kept {C S : St} {nd j : Nat} {ea : Nat → Nat} (h : DC C nd j ea) (hk : CK C S) : DC S nd j ea := ⟨h.1, h.2.1, by rw [hk.1 1 (by decide)]; exact h.2.2.1, fun d hd => by rw [hk.2 6 (by decide)]; exact h.2.2.2 d hd⟩
theorem c_readKnot {C : St} {nd j : Nat} {ea : Nat → Nat} {asked marks : Int32} {post : St → Prop} (hD : DC C nd j ea)
    (k : ∀ S : St, Kp [3, 4] [8, 9] C S → S.1 3 = nI (sD (kn (C.2.2 5) (C.2.2 4) asked marks) (fun _ => 1) nd) → S.1 4 = nI (sD (kn (C.2.2 5) (C.2.2 4) asked marks) ea nd) → (∀ i, i < 8 → S.2.2 8 i = nI (sD (kh (C.2.2 5) (C.2.2 4) asked marks i) (fun _ => 1) nd) ∧ S.2.2 9 i = nI (sD (kh (C.2.2 5) (C.2.2 4) asked marks i) ea nd)) → post S) : ∃ n, PX4_readKnot n (nI j) asked marks C post := by
  obtain ⟨hnd, hj, hn, hea⟩ := hD
  obtain ⟨n, hL⟩ := lp2 (W := fun n x T => LX4_readKnot post n (nI j) asked marks x T) (I := fun x T => ∃ d, d ≤ nd ∧ x = nI d ∧ Kp [3, 4] [8, 9] C T ∧ T.1 3 = nI (sD (kn (C.2.2 5) (C.2.2 4) asked marks) (fun _ => 1) d) ∧ T.1 4 = nI (sD (kn (C.2.2 5) (C.2.2 4) asked marks) ea d) ∧ (∀ i, i < 8 → T.2.2 8 i = nI (sD (kh (C.2.2 5) (C.2.2 4) asked marks i) (fun _ => 1) d) ∧ T.2.2 9 i = nI (sD (kh (C.2.2 5) (C.2.2 4) asked marks i) ea d))) (μ := fun x T => 151 - x.toNatClampNeg) (by
    intro n x T hI hk
    obtain ⟨d, hd, rfl, hK, h3, h4, h89⟩ := hI
    show BX4_readKnot_0 _ _ _ _ _ _ T
    unfold BX4_readKnot_0
    rw [hK.1 1 (by decide), hn]
    refine ⟨fun c1 => ?_, fun c1 => ?_⟩
    · have hdn : d = nd := by
        have := (nI_leI (by omega) (by omega)).mp c1
        omega
      subst hdn
      exact k T hK h3 h4 h89
    · have hlt : d < nd := by
        have : ¬ nd ≤ d := fun h => c1 (nI_le h (by omega))
        omega
      have hcd : (nI d).toNatClampNeg = d := nI_clamp (by omega)
      have hm : 151 - (nI (d + 1)).toNatClampNeg < 151 - (nI d).toNatClampNeg := by rw [nI_clamp (by omega), nI_clamp (by omega)]; omega
      have r5 : T.2.2 5 = C.2.2 5 := hK.2 5 (by decide)
      have r4 : T.2.2 4 = C.2.2 4 := hK.2 4 (by decide)
      refine c_inKnot (by omega) (fun hy => b_1 ⟨vp_in_nI (by omega) (by omega), c_eaten (by omega) hj ?_⟩) (fun hn0 => b_0 (fun x ex => ?_))
      · rw [hK.2 6 (by decide), (hea d hlt).1, hcd]
        refine c_readDay (fun S1 hK1 g3 g4 g8 g9 x ex => ?_)
        subst ex
        rw [nI_1]
        rw [r5, r4] at hy
        refine hk _ _ ⟨d + 1, hlt, rfl, hK.tr hK1, ?_, ?_, fun i hi => ⟨?_, ?_⟩⟩ hm
        · rw [g3, h3, sD, if_pos hy, nI_1]
        · rw [g4, h4, sD, if_pos hy, nI_add]
        · rw [g8 i hi, (h89 i hi).1, sD, r4]
          by_cases hz : ((C.2.2 4 d >>> (nI i &&& 31)) &&& 1) = 0
          · rw [if_pos hz, if_neg (by simp [kh, hb, hz]), Int32.add_zero]; rfl
          · rw [if_neg hz, if_pos (by simp [kh, hb, hz, hy]), nI_1]
        · rw [g9 i hi, (h89 i hi).2, sD, r4]
          by_cases hz : ((C.2.2 4 d >>> (nI i &&& 31)) &&& 1) = 0
          · rw [if_pos hz, if_neg (by simp [kh, hb, hz]), Int32.add_zero]; rfl
          · rw [if_neg hz, if_pos (by simp [kh, hb, hz, hy]), nI_add]
      · subst ex
        rw [nI_1]
        rw [r5, r4] at hn0
        refine hk _ _ ⟨d + 1, hlt, rfl, hK, ?_, ?_, fun i hi => ⟨?_, ?_⟩⟩ hm
        · rw [h3, sD, if_neg (by rw [hn0]; decide)]; rfl
        · rw [h4, sD, if_neg (by rw [hn0]; decide)]; rfl
        · rw [(h89 i hi).1, sD, if_neg (by simp [kh, hn0])]; rfl
        · rw [(h89 i hi).2, sD, if_neg (by simp [kh, hn0])]; rfl) 0 (sR (sR (sI (sI C 3 0) 4 0) 8 (g_fill (C.2.2 8) 8 0)) 9 (g_fill (C.2.2 9) 8 0)) ⟨0, Nat.zero_le _, rfl, (((Kp.rf.sI (by decide) _).sI (by decide) _).sR (by decide) _).sR (by decide) _, rfl, rfl, fun i hi => ⟨by rw [sR_n _ _ _ (by decide), sR_g]; simp [g_fill, hi]; rfl, by rw [sR_g]; simp [g_fill, hi]; rfl⟩⟩
  refine ⟨n, fun S1 e1 S2 e2 S3 e3 S4 e4 => ?_⟩
  subst e1; subst e2; subst e3; subst e4
  exact hL
