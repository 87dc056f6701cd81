/-! the hatch: the reference's walk -/
def Hm (a : Nat → Nat) (s k b : Nat) (S : St) : Prop := S.1 15 = nI (zM (zW a s) k) ∧ S.1 16 = nI (zA (zW a s) k) ∧ S.1 17 = zE a s k ∧ S.1 18 = nI (zM (fun i => zL a s (i + 1)) b)
/-- the first group in the line, of which so many are left, with k gone -/
def Hg (a : Nat → Nat) (nt k fi l : Nat) : Prop := k + l = zA a (fi + 1) ∧ zA a fi ≤ k ∧ fi ≤ nt
theorem m_chunk {a : Nat → Nat} {nt s b k fi n : Nat} {S : St} (hI : zI a nt) (hfi : fi < nt) (hn : 0 < n) (h1 : zA a fi ≤ k) (h2 : k + n ≤ zA a (fi + 1)) (h3 : zD a s b ≤ k) (h4 : k + n ≤ zD a s (b + 1)) (hb : b < 2 ^ 20) (hH : Hm a s k b S) :
    fi ≤ b ∧ ∀ S30, S30 = sI S 16 (S.1 16 + nI n * (nI b - nI fi)) → ((nI b - nI fi ≤ S30.1 15 → Hm a s (k + n) b (sI (sI S30 15 (S30.1 15)) 17 (nI b))) ∧ (¬ nI b - nI fi ≤ S30.1 15 → Hm a s (k + n) b (sI (sI S30 15 (nI b - nI fi)) 17 (nI b)))) := by
  have hnt := hI.1
  have hw : ∀ i, k ≤ i → i < k + n → fi ≤ b ∧ zC a i 60 = fi ∧ zW a s i = b - fi := fun i g1 g2 => zW_go (by omega) (by omega) (by omega) (by omega) (by omega)
  have hfb := (hw k (by omega) (by omega)).1
  refine ⟨hfb, fun S30 e30 => ?_⟩
  obtain ⟨f15, f16, f17, f18⟩ := hH
  have hA := zA_const (f := zW a s) (c := b - fi) (k := k) n (fun i g1 g2 => (hw i g1 g2).2.2)
  have hM := zM_grp (f := zW a s) (c := b - fi) (k := k) hn (fun i g1 g2 => Nat.le_of_eq (hw i g1 g2).2.2) (hw (k + (n - 1)) (by omega) (by omega)).2.2
  have hE : zE a s (k + n) = nI b := by
    have hz := hw (k + (n - 1)) (by omega) (by omega)
    unfold zE
    rw [if_neg (by omega), show k + n - 1 = k + (n - 1) by omega, hz.2.1, hz.2.2, show fi + (b - fi) = b by omega]
  have hzk : k ≤ zA a nt := by
    have := (zA_bd hI (fi + 1)).1
    omega
  have hwb := zW_bd (s := s) hI hzk
  rw [pk_sub hfb]
  rw [pk_sub hfb, pk_mul, f16, nI_add, ← hA] at e30
  subst e30
  have q15 : (sI S 16 (nI (zA (zW a s) (k + n)))).1 15 = nI (zM (zW a s) k) := by rw [sI_n _ _ _ (by decide), f15]
  rw [q15]
  refine ⟨fun c => ?_, fun c => ?_⟩
  · have c' := (nI_leI (by omega) (by omega)).mp c
    rw [if_neg (by omega)] at hM
    refine ⟨?_, ?_, ?_, ?_⟩
    · rw [sI_n _ _ _ (by decide), sI_g, hM]
    · rw [sI_n _ _ _ (by decide), sI_n _ _ _ (by decide), sI_g]
    · rw [sI_g, hE]
    · rw [sI_n _ _ _ (by decide), sI_n _ _ _ (by decide), sI_n _ _ _ (by decide), f18]
  · have c' : zM (zW a s) k < b - fi := by
      rcases Nat.lt_or_ge (zM (zW a s) k) (b - fi) with h | h
      · exact h
      · exact absurd (nI_le h (by omega)) c
    rw [if_pos c'] at hM
    refine ⟨?_, ?_, ?_, ?_⟩
    · rw [sI_n _ _ _ (by decide), sI_g, hM]
    · rw [sI_n _ _ _ (by decide), sI_n _ _ _ (by decide), sI_g]
    · rw [sI_g, hE]
    · rw [sI_n _ _ _ (by decide), sI_n _ _ _ (by decide), sI_n _ _ _ (by decide), f18]
section STANDS
variable {M : St} {a : Nat → Nat} {nt s : Nat} {post : St → Prop}
def St0 (M : St) (a : Nat → Nat) (nt s : Nat) (post : St → Prop) (F : Nat) : Prop := ∀ b fi l S, Kp [15, 16, 17, 18] [] M S → Hm a s (zD a s b) b S → Hg a nt (zD a s b) fi l → b + (zA a nt - zD a s b) ≤ 10000 → 10 * (nt - b) + 10 * (zA a nt - zD a s b) + (nt - fi) + 1 < F → LX6_stands post F 0 (nI s) (nI fi) (nI l) (nI (zL a s b)) (nI nt) (nI b) 0 0 0 S
def St1 (M : St) (a : Nat → Nat) (nt s : Nat) (post : St → Prop) (F : Nat) : Prop := ∀ b fi l S, Kp [15, 16, 17, 18] [] M S → Hm a s (zD a s b) b S → Hg a nt (zD a s b) fi l → b + 1 + (zA a nt - zD a s (b + 1)) ≤ 10000 → 10 * (nt - (b + 1)) + 10 * (zA a nt - zD a s (b + 1)) + 4 * (zD a s (b + 1) - zD a s b) + (nt - fi) + 3 < F → LX6_stands post F 1 (nI s) (nI fi) (nI l) 0 (nI nt) (nI b) 0 (nI (a b)) (nI (zL a s b)) S
def St2 (M : St) (a : Nat → Nat) (nt s : Nat) (post : St → Prop) (F : Nat) : Prop := ∀ b fi l k go S, Kp [15, 16, 17, 18] [] M S → Hm a s k b S → Hg a nt k fi l → zD a s b ≤ k → k + go = zD a s (b + 1) → b + 1 + (zA a nt - zD a s (b + 1)) ≤ 10000 → 10 * (nt - (b + 1)) + 10 * (zA a nt - zD a s (b + 1)) + 4 * go + (nt - fi) + 2 < F → LX6_stands post F 2 (nI s) (nI fi) (nI l) (nI (zL a s (b + 1))) (nI nt) (nI b) (nI go) 0 0 S
def St3 (M : St) (a : Nat → Nat) (nt s : Nat) (post : St → Prop) (F : Nat) : Prop := ∀ b fi l k go S, Kp [15, 16, 17, 18] [] M S → Hm a s k b S → Hg a nt k fi l → zD a s b ≤ k → 0 < go → k + go = zD a s (b + 1) → b + 1 + (zA a nt - zD a s (b + 1)) ≤ 10000 → 10 * (nt - (b + 1)) + 10 * (zA a nt - zD a s (b + 1)) + 4 * go + (nt - fi) + 1 < F → LX6_stands post F 3 (nI s) (nI fi) (nI l) (nI (zL a s (b + 1))) (nI nt) (nI b) (nI go) 0 0 S
theorem st_0 {F : Nat} (hI : zI a nt) (hs : 1 ≤ s) (h14 : M.1 14 = nI nt) (h13 : ∀ i, i < nt → M.2.2 13 i = nI (a i))
    (k : ∀ S, Kp [15, 16, 17, 18] [] M S → Hm a s (zA a nt) nt S → post S) (i1 : St1 M a nt s post F) : St0 M a nt s post (F + 1) := by
  intro b fi l S hK hH hg hb hF
  have hnt := hI.1
  have r14 : S.1 14 = nI nt := by rw [hK.1 14 (by decide), h14]
  have hgo := zD_go (a := a) (s := s) (t := b)
  have hD1 := zD_le (a := a) (s := s) (b + 1)
  have hD0 := zD_le (a := a) (s := s) b
  have hA1 := (zA_bd hI (b + 1)).1
  have hA0 := (zA_bd hI b).1
  have hLd : zL a s b = zA a b - zD a s b := rfl
  have hst := zD_step (a := a) (s := s) (b := b)
  have hLb := zL_bd hI s b
  have h6 := (zA_bd hI nt).2
  show BX6_stands_0 _ _ _ _ _ _ _ _ _ _ _ _
  unfold BX6_stands_0
  rw [r14]
  refine ⟨fun c => ?_, fun c => ⟨fun c2 => ?_, fun c2 => ?_⟩⟩
  · have c' : b < nt := (nI_ltI (by omega) (by omega)).mp c
    refine b_f (fun e => absurd ((nI_leI (by omega) (by omega)).mp e) (by omega)) ⟨vp_in_nI (by omega) (by omega), ?_⟩
    rw [nI_clamp (by omega), hK.2 13 (by decide), h13 b c']
    refine i1 b fi l S hK hH hg (by omega) ?_
    have : zA a nt - zD a s b = (zA a nt - zD a s (b + 1)) + (zD a s (b + 1) - zD a s b) := by omega
    omega
  · have c' : nt ≤ b := by
      rcases Nat.lt_or_ge b nt with h | h
      · exact absurd (nI_lt h (by omega)) c
      · exact h
    have c2' : zL a s b = 0 := by
      have := (nI_leI (b := 0) (by omega) (by omega)).mp c2
      omega
    have hAe := zA_end' hI c'
    have hk : zD a s b = zA a nt := by omega
    rw [hk] at hH
    refine k S hK ⟨hH.1, hH.2.1, hH.2.2.1, ?_⟩
    rw [hH.2.2.2]
    have hz := zM_end (s := s) hI (b - nt)
    rw [show nt + (b - nt) = b by omega] at hz
    rw [hz]
  · have c' : nt ≤ b := by
      rcases Nat.lt_or_ge b nt with h | h
      · exact absurd (nI_lt h (by omega)) c
      · exact h
    have c2' : 0 < zL a s b := by
      rcases Nat.eq_zero_or_pos (zL a s b) with h | h
      · exact absurd (by rw [h]; decide) c2
      · exact h
    have ha0 := hI.2.2 b c'
    have hgo1 : zD a s b < zD a s (b + 1) := by
      rw [hgo]
      split <;> omega
    refine b_t (nI_le c' (by omega)) ?_
    have i1' := i1 b fi l S hK hH hg (by omega) (by omega)
    rw [ha0] at i1'
    exact i1'
theorem st_1 {F : Nat} (hI : zI a nt) (hs2 : s ≤ 100) (i2 : St2 M a nt s post F) : St1 M a nt s post (F + 1) := by
  intro b fi l S hK hH hg hb hF
  have hgo := zD_go (a := a) (s := s) (t := b)
  have hLs := zL_step (a := a) (s := s) (t := b)
  have hLb := zL_bd hI s b
  have ha := hI.2.1 b
  show BX6_stands_1 _ _ _ _ _ _ _ _ _ _ _ _
  unfold BX6_stands_1
  intro x16 e16
  rw [nI_add] at e16
  subst e16
  refine ⟨fun c x18 e18 => ?_, fun c x19 e19 => ?_⟩
  · have c' := (nI_leI (by omega) (by omega)).mp c
    rw [if_pos c'] at hgo
    rw [pk_sub c', ← hLs] at e18
    subst e18
    exact i2 b fi l (zD a s b) s S hK hH hg (Nat.le_refl _) hgo.symm hb (by omega)
  · have c' : ¬ s ≤ zL a s b + a b := fun h => c (nI_le h (by omega))
    rw [if_neg c'] at hgo
    have hz : zL a s (b + 1) = 0 := by omega
    rw [pk_sub (Nat.le_refl _), Nat.sub_self] at e19
    subst e19
    have i2' := i2 b fi l (zD a s b) (zL a s b + a b) S hK hH hg (Nat.le_refl _) hgo.symm hb (by omega)
    rw [hz] at i2'
    exact i2'
theorem st_2 {F : Nat} (hI : zI a nt) (i0 : St0 M a nt s post F) (i3 : St3 M a nt s post F) : St2 M a nt s post (F + 1) := by
  intro b fi l k go S hK hH hg hk hgo hb hF
  have hLb := zL_bd hI s (b + 1)
  have hMb := zLM_bd hI s b
  have hD1 := zD_le (a := a) (s := s) (b + 1)
  have hA1 := (zA_bd hI (b + 1))
  have hM1 : zM (fun i => zL a s (i + 1)) (b + 1) = if zM (fun i => zL a s (i + 1)) b < zL a s (b + 1) then zL a s (b + 1) else zM (fun i => zL a s (i + 1)) b := rfl
  obtain ⟨f15, f16, f17, f18⟩ := id hH
  show BX6_stands_2 _ _ _ _ _ _ _ _ _ _ _ _
  unfold BX6_stands_2
  rw [f18]
  refine ⟨fun c => ?_, fun c => ?_⟩
  · have hg0 : go = 0 := by
      have := (nI_leI (b := 0) (by omega) (by omega)).mp c
      omega
    subst hg0
    rw [Nat.add_zero] at hgo
    subst hgo
    refine ⟨fun c2 S22 e22 x23 e23 => ?_, fun c2 S22 e22 x23 e23 => ?_⟩
    · have c2' := (nI_leI (by omega) (by omega)).mp c2
      rw [if_neg (by omega)] at hM1
      subst e22; subst e23
      rw [nI_1]
      refine i0 (b + 1) fi l _ (hK.sI (by decide) _) ⟨?_, ?_, ?_, ?_⟩ hg hb (by omega)
      · rw [sI_n _ _ _ (by decide), f15]
      · rw [sI_n _ _ _ (by decide), f16]
      · rw [sI_n _ _ _ (by decide), f17]
      · rw [sI_g, hM1]
    · have c2' : zM (fun i => zL a s (i + 1)) b < zL a s (b + 1) := by
        rcases Nat.lt_or_ge (zM (fun i => zL a s (i + 1)) b) (zL a s (b + 1)) with h | h
        · exact h
        · exact absurd (nI_le h (by omega)) c2
      rw [if_pos c2'] at hM1
      subst e22; subst e23
      rw [nI_1]
      refine i0 (b + 1) fi l _ (hK.sI (by decide) _) ⟨?_, ?_, ?_, ?_⟩ hg hb (by omega)
      · rw [sI_n _ _ _ (by decide), f15]
      · rw [sI_n _ _ _ (by decide), f16]
      · rw [sI_n _ _ _ (by decide), f17]
      · rw [sI_g, hM1]
  · have hg0 : 0 < go := by
      rcases Nat.eq_zero_or_pos go with h | h
      · exact absurd (by rw [h]; decide) c
      · exact h
    exact i3 b fi l k go S hK hH hg hk hg0 hgo hb (by omega)
theorem st_3 {F : Nat} (hI : zI a nt) (h13 : ∀ i, i < nt → M.2.2 13 i = nI (a i)) (i2 : St2 M a nt s post F) (i3 : St3 M a nt s post F) : St3 M a nt s post (F + 1) := by
  intro b fi l k go S hK hH hg hk hg0 hgo hb hF
  have hnt := hI.1
  have hD1 := zD_le (a := a) (s := s) (b + 1)
  have hA1 := zA_bd hI (b + 1)
  have hAf := zA_bd hI (fi + 1)
  obtain ⟨g1, g2, g3⟩ := id hg
  have hfn : fi < nt := by
    rcases Nat.lt_or_ge fi nt with h | h
    · exact h
    · have := zA_mono (a := a) h
      omega
  show BX6_stands_3 _ _ _ _ _ _ _ _ _ _ _ _
  unfold BX6_stands_3
  refine ⟨fun c x44 e44 => ?_, fun c => ⟨fun c2 x28 e28 x29 e29 S30 e30 => ?_, fun c2 x28 e28 x29 e29 S30 e30 => ?_⟩⟩
  · have hl : l = 0 := nI_inj (b := 0) (by omega) (by omega) c
    subst hl
    have hf1 : fi + 1 < nt := by
      rcases Nat.lt_or_ge (fi + 1) nt with h | h
      · exact h
      · have := zA_mono (a := a) h
        omega
    rw [nI_1] at e44
    subst e44
    refine ⟨vp_in_nI (by omega) (by omega), fun x46 e46 => ?_⟩
    rw [nI_clamp (by omega), hK.2 13 (by decide), h13 _ hf1] at e46
    subst e46
    have e2 : zA a (fi + 1 + 1) = zA a (fi + 1) + a (fi + 1) := rfl
    exact i3 b (fi + 1) (a (fi + 1)) k go S hK hH ⟨by omega, by omega, by omega⟩ hk hg0 hgo hb (by omega)
  · have hl : 0 < l := by
      rcases Nat.eq_zero_or_pos l with h | h
      · exact absurd (by rw [h]; rfl) c
      · exact h
    have c2' := (nI_leI (by omega) (by omega)).mp c2
    rw [pk_sub c2'] at e28
    rw [pk_sub (Nat.le_refl _), Nat.sub_self] at e29
    subst e28; subst e29
    obtain ⟨hfb, hch⟩ := m_chunk (n := go) hI hfn hg0 g2 (by omega) hk (by omega) (by omega) hH
    obtain ⟨q1, q2⟩ := hch S30 e30
    have hK30 : Kp [15, 16, 17, 18] [] M S30 := by rw [e30]; exact hK.sI (by decide) _
    refine ⟨fun c3 S32 e32 S33 e33 => ?_, fun c3 S32 e32 S33 e33 => ?_⟩
    · subst e32; subst e33
      exact i2 b fi (l - go) (k + go) 0 _ ((hK30.sI (by decide) _).sI (by decide) _) (q1 c3) ⟨by omega, by omega, g3⟩ (by omega) (by omega) hb (by omega)
    · subst e32; subst e33
      exact i2 b fi (l - go) (k + go) 0 _ ((hK30.sI (by decide) _).sI (by decide) _) (q2 c3) ⟨by omega, by omega, g3⟩ (by omega) (by omega) hb (by omega)
  · have hl : 0 < l := by
      rcases Nat.eq_zero_or_pos l with h | h
      · exact absurd (by rw [h]; rfl) c
      · exact h
    have c2' : l < go := by
      rcases Nat.lt_or_ge l go with h | h
      · exact h
      · exact absurd (nI_le h (by omega)) c2
    rw [pk_sub (Nat.le_refl _), Nat.sub_self] at e28
    rw [pk_sub (by omega)] at e29
    subst e28; subst e29
    obtain ⟨hfb, hch⟩ := m_chunk (n := l) hI hfn hl g2 (by omega) hk (by omega) (by omega) hH
    obtain ⟨q1, q2⟩ := hch S30 e30
    have hK30 : Kp [15, 16, 17, 18] [] M S30 := by rw [e30]; exact hK.sI (by decide) _
    refine ⟨fun c3 S32 e32 S33 e33 => ?_, fun c3 S32 e32 S33 e33 => ?_⟩
    · subst e32; subst e33
      exact i2 b fi 0 (k + l) (go - l) _ ((hK30.sI (by decide) _).sI (by decide) _) (q1 c3) ⟨by omega, by omega, g3⟩ (by omega) (by omega) hb (by omega)
    · subst e32; subst e33
      exact i2 b fi 0 (k + l) (go - l) _ ((hK30.sI (by decide) _).sI (by decide) _) (q2 c3) ⟨by omega, by omega, g3⟩ (by omega) (by omega) hb (by omega)
theorem st_all (hI : zI a nt) (hs : 1 ≤ s) (hs2 : s ≤ 100) (h14 : M.1 14 = nI nt) (h13 : ∀ i, i < nt → M.2.2 13 i = nI (a i))
    (k : ∀ S, Kp [15, 16, 17, 18] [] M S → Hm a s (zA a nt) nt S → post S) : ∀ F, St0 M a nt s post F ∧ St1 M a nt s post F ∧ St2 M a nt s post F ∧ St3 M a nt s post F
  | 0 => ⟨fun b fi l S _ _ _ _ h => absurd h (by omega), fun b fi l S _ _ _ _ h => absurd h (by omega), fun b fi l k go S _ _ _ _ _ _ h => absurd h (by omega), fun b fi l k go S _ _ _ _ _ _ _ h => absurd h (by omega)⟩
  | F + 1 => by
    obtain ⟨i0, i1, i2, i3⟩ := st_all hI hs hs2 h14 h13 k F
    exact ⟨st_0 hI hs h14 h13 k i1, st_1 hI hs2 i2, st_2 hI i0 i3, st_3 hI h13 i2 i3⟩
theorem m_stands (hI : zI a nt) (hs : 1 ≤ s) (hs2 : s ≤ 100) (h14 : M.1 14 = nI nt) (h13 : ∀ i, i < nt → M.2.2 13 i = nI (a i))
    (k : ∀ S, Kp [15, 16, 17, 18] [] M S → S.1 15 = zF a s (zA a nt) nt 0 → S.1 16 = zF a s (zA a nt) nt 1 → S.1 17 = zF a s (zA a nt) nt 2 → S.1 18 = zF a s (zA a nt) nt 3 → post S) : ∃ n, PX6_stands n (nI s) M post := by
  have hnt := hI.1
  have hb := (zA_bd hI nt).2
  refine ⟨70000, fun S1 e1 S2 e2 S3 e3 S4 e4 => ?_⟩
  have hK : Kp [15, 16, 17, 18] [] M S4 := by
    rw [e4, e3, e2, e1]
    exact (((Kp.rf.sI (by decide) _).sI (by decide) _).sI (by decide) _).sI (by decide) _
  have hH : Hm a s (zD a s 0) 0 S4 := by
    rw [e4, e3, e2, e1]
    refine ⟨?_, ?_, ?_, ?_⟩
    · rw [sI_n _ _ _ (by decide), sI_n _ _ _ (by decide), sI_n _ _ _ (by decide), sI_g]; rfl
    · rw [sI_n _ _ _ (by decide), sI_n _ _ _ (by decide), sI_g]; rfl
    · rw [sI_n _ _ _ (by decide), sI_g]; rfl
    · rw [sI_g]; rfl
  have r14 : S4.1 14 = nI nt := by rw [hK.1 14 (by decide), h14]
  have main := (st_all (post := post) hI hs hs2 h14 h13 (fun S hKS hHS => k S hKS hHS.1 hHS.2.1 hHS.2.2.1 hHS.2.2.2) 70000).1 0 0 (a 0) S4 hK hH ⟨rfl, Nat.le_refl _, Nat.zero_le _⟩ (by simp only [zD]; omega) (by simp only [zD]; omega)
  rw [r14]
  refine ⟨fun c x6 e6 => ?_, fun c => ⟨vp_in_nI (n := 0) (by omega) (by omega), fun x8 e8 x9 e9 => ?_⟩⟩
  · have h0 : nt = 0 := by
      have := (nI_leI (b := 0) (by omega) (by omega)).mp c
      omega
    subst e6
    rw [hI.2.2 0 (by omega)] at main
    exact main
  · have h0 : 0 < nt := by
      rcases Nat.eq_zero_or_pos nt with h | h
      · exact absurd (by rw [h]; decide) c
      · exact h
    rw [show (0 : Int32).toNatClampNeg = 0 from rfl, hK.2 13 (by decide), h13 0 h0] at e8
    subst e8; subst e9
    exact main
end STANDS
theorem rel_Z {nm nd ns nt : Nat} {C M : St} (h : RelN nm nd ns nt C M) : ∃ a, zI a nt ∧ (∀ i, i < nt → C.2.2 16 i = nI (a i)) ∧ ∀ i, i < nt → M.2.2 13 i = nI (a i) := by
  obtain ⟨⟨-, -, -, b4⟩, -, -, -, -, -, -, -, -, -, -, hln⟩ := h
  have hx : ∀ i, i < nt → (C.2.2 16 i).toNatClampNeg ≤ 100 ∧ C.2.2 16 i = nI (C.2.2 16 i).toNatClampNeg := fun i hi => by
    obtain ⟨-, x, hx, e⟩ := hln i hi
    rw [e, nI_clamp (by omega)]
    exact ⟨hx, rfl⟩
  refine ⟨fun i => if i < nt then (C.2.2 16 i).toNatClampNeg else 0, ⟨b4, fun t => ?_, fun t ht => if_neg (by omega)⟩, fun i hi => ?_, fun i hi => ?_⟩
  · dsimp only
    by_cases c : t < nt
    · rw [if_pos c]; exact (hx t c).1
    · rw [if_neg c]; omega
  · dsimp only
    rw [if_pos hi]; exact (hx i hi).2
  · dsimp only
    rw [if_pos hi, ← (hln i hi).1]; exact (hx i hi).2
theorem op_hatch : Op_hatch Rel := by
  intro C M p0 p1 v hR
  obtain ⟨nm, nd, ns, nt, h⟩ := id hR
  obtain ⟨⟨b1, b2, b3, b4⟩, ⟨e1, e2, e3, e4, e5, e6, e7, e8⟩, -⟩ := id h
  obtain ⟨a, hI, hC, hM⟩ := rel_Z h
  have hM1 : MK M (sI M 0 0) := Kp.rf.sI (by decide) _
  have bad : LX6_hatch (fun b M1 => M1.1 0 = 1 ∧ ((1 : Int32) = 0 → v = b.toInt64) ∧ Rel C M1) 1 p0 p1 1 (sI M 0 0) := by
    show BX6_hatch_0 _ _ _ _ _ _
    exact m_bad1 (b_1 ⟨sI_g _ _ _, fun e => absurd e (by decide), hR.kept Kp.rf (hM1.sI (by decide) _)⟩)
  refine c_within (fun h0 h0' => c_within (fun h1 h1' => ?_) (fun hx => ⟨rfl, 1, ?_⟩)) (fun hx => ⟨rfl, 1, ?_⟩)
  · obtain ⟨s, hs, hs2, rfl⟩ := i_of (lo := 1) (hi := 100) (by omega) h0 h0' (by omega)
    obtain ⟨q, hq0, hq, rfl⟩ := i_of (lo := 0) (hi := 3) (by omega) h1 h1' (by omega)
    refine c_fact hI hs hs2 (by omega) e7 hC (fun S hS => ⟨1, fun S1 eS1 => ?_⟩)
    subst eS1
    refine b_f h0 (b_f (i_nlt.mpr h0') (b_f h1 (b_t h1' ?_)))
    show BX6_hatch_0 _ _ _ _ _ _
    refine m_bad0 (b_0 (m_stands hI hs hs2 (by rw [sI_n _ _ _ (by decide), e8]) hM (fun T hT g0 g1 g2 g3 => ?_)))
    have hr : Rel S T := hR.kept (hS.mono (by decide) (by decide)) (hM1.tr (hT.mono (by decide) (by decide)))
    have h00 : T.1 0 = 0 := by rw [hT.1 0 (by decide), sI_g]
    have h4 : q = 0 ∨ q = 1 ∨ q = 2 ∨ q = 3 := by omega
    rcases h4 with rfl | rfl | rfl | rfl
    · exact b_t rfl ⟨h00, fun _ => by rw [g0], hr⟩
    · exact b_f (by decide) (b_t rfl ⟨h00, fun _ => by rw [g1], hr⟩)
    · exact b_f (by decide) (b_f (by decide) (b_t rfl ⟨h00, fun _ => by rw [g2], hr⟩))
    · exact b_f (by decide) (b_f (by decide) (b_f (by decide) ⟨h00, fun _ => by rw [g3], hr⟩))
  · intro S1 eS1
    subst eS1
    exact b_f h0 (b_f (i_nlt.mpr h0') ⟨fun _ => bad, fun c => ⟨fun c2 => absurd c2 (hx.resolve_left c), fun _ => bad⟩⟩)
  · intro S1 eS1
    subst eS1
    refine ⟨fun _ => bad, fun c => b_t (i_nle.mp (hx.resolve_left c)) bad⟩
theorem first_of {G : Nat → Nat} {m : Nat} (h : G 100 ≤ m) : ∀ n i, i + n = 100 → 1 ≤ i → (∀ q, 1 ≤ q → q < i → ¬ G q ≤ m) → ∃ r, i ≤ r ∧ r ≤ 100 ∧ G r ≤ m ∧ ∀ q, 1 ≤ q → q < r → ¬ G q ≤ m
  | 0, i, e, h1, hq => by
    have : i = 100 := by omega
    subst this
    exact ⟨100, Nat.le_refl _, Nat.le_refl _, h, hq⟩
  | n + 1, i, e, h1, hq => by
    by_cases c : G i ≤ m
    · exact ⟨i, Nat.le_refl _, by omega, c, hq⟩
    · obtain ⟨r, r1, r2, r3, r4⟩ := first_of h n (i + 1) (by omega) (by omega) (fun q q1 q2 => by
        rcases Nat.lt_or_ge q i with g | g
        · exact hq q q1 g
        · have : q = i := by omega
          subst this
          exact c)
      exact ⟨r, by omega, r2, r3, r4⟩
theorem op_serve : Op_serve Rel := by
  intro C M p0 v hR
  obtain ⟨nm, nd, ns, nt, h⟩ := id hR
  obtain ⟨⟨b1, b2, b3, b4⟩, ⟨e1, e2, e3, e4, e5, e6, e7, e8⟩, -⟩ := id h
  obtain ⟨a, hI, hC, hM⟩ := rel_Z h
  have hM1 : MK M (sI M 0 0) := Kp.rf.sI (by decide) _
  refine ⟨fun c => ?_, fun c => ⟨rfl, 0, fun S1 eS1 => ?_⟩⟩
  · obtain ⟨m, hm, rfl⟩ := nI_of (i_nlt.mpr c)
    obtain ⟨G, hG⟩ : ∃ G : Nat → Nat, G = fun s => zM (zW a s) (zA a nt) := ⟨_, rfl⟩
    have hGb : ∀ s, G s ≤ 6000 := fun s => by rw [hG]; exact zW_bd hI (Nat.le_refl _)
    have hG100 : G 100 ≤ m := by
      rw [hG]
      show zM (zW a 100) (zA a nt) ≤ m
      rw [zM_100 hI nt hI.1]
      exact Nat.zero_le _
    have hF : ∀ s, zF a s (zA a nt) nt 0 = nI (G s) := fun s => by rw [hG]; rfl
    obtain ⟨r, r1, r2, r3, r4⟩ := first_of hG100 99 1 (by omega) (by omega) (fun q q1 q2 => absurd q1 (by omega))
    -- the reference finds r
    have ref : ∀ S, CK C S → Q_serve Rel (nI m) M 0 (nI r).toInt64 S := by
      intro S hS
      have loop : ∀ d i, i + d = r → 1 ≤ i → ∀ T, Kp [15, 16, 17, 18] [] (sI M 0 0) T → T.1 15 = nI (G i) → LX6_serve (fun b M1 => M1.1 0 = 0 ∧ ((0 : Int32) = 0 → (nI r).toInt64 = b.toInt64) ∧ Rel S M1) (d + 1) (nI m) (nI i) T := by
        intro d
        induction d with
        | zero =>
          intro i hi h1 T hT g
          have : i = r := by omega
          subst this
          refine b_t (by rw [g]; exact nI_le r3 hm) ⟨by rw [hT.1 0 (by decide), sI_g], fun _ => rfl, hR.kept hS (hM1.tr (hT.mono (by decide) (by decide)))⟩
        | succ d ih =>
          intro i hi h1 T hT g
          have hgi := hGb i
          refine b_f (by rw [g]; exact fun e => absurd ((nI_leI (by omega) hm).mp e) (r4 i h1 (by omega))) (fun x14 e14 => ?_)
          rw [nI_1] at e14
          subst e14
          refine m_stands hI (by omega) (by omega) (by rw [hT.1 14 (by decide), sI_n _ _ _ (by decide), e8]) (fun i hi => by rw [hT.2 13 (by decide)]; exact hM i hi) (fun T1 hT1 g0 _ _ _ => ?_)
          exact ih (i + 1) (by omega) (by omega) T1 (hT.tr hT1) (by rw [g0, hF])
      refine ⟨r, fun S1 eS1 => b_t c (m_bad0 (b_0 ?_))⟩
      subst eS1
      refine m_stands (s := 1) hI (by omega) (by omega) (by rw [sI_n _ _ _ (by decide), e8]) hM (fun T hT g0 _ _ _ => ?_)
      have := loop (r - 1) 1 (by omega) (by omega) T hT (by rw [g0, hF])
      rw [show r - 1 + 1 = r by omega] at this
      exact this
    -- the class finds r
    have loop : ∀ d i, i + d = r → 1 ≤ i → ∀ S, Kp [] [17] C S → LX1_leastServed (fun x S1 => Q_serve Rel (nI m) M 0 x.toInt64 S1) (d + 1) (nI m) (nI i) S := by
      intro d
      induction d with
      | zero =>
        intro i hi h1 S hS
        have : i = r := by omega
        subst this
        refine ⟨fun c2 => ?_, fun c2 => ?_⟩
        · have c2' := (nI_leI (a := 100) (by omega) (by omega)).mp c2
          have h100 : i = 100 := by omega
          have := ref S (hS.mono (by decide) (by decide))
          rw [h100] at this
          exact this
        · refine c_fact hI h1 r2 (q := 0) (by omega) (by rw [hS.1 13 (by decide), e7]) (fun i hi => by rw [hS.2 16 (by decide)]; exact hC i hi) (fun S2 hS2 => ?_)
          rw [hF]
          have hgi := hGb i
          exact b_f (fun e => absurd ((nI_ltI hm (by omega)).mp e) (by omega)) (ref S2 ((hS.tr hS2).mono (by decide) (by decide)))
      | succ d ih =>
        intro i hi h1 S hS
        refine b_f (fun e => absurd ((nI_leI (a := 100) (by omega) (by omega)).mp e) (by omega)) ?_
        refine c_fact hI h1 (by omega) (q := 0) (by omega) (by rw [hS.1 13 (by decide), e7]) (fun i hi => by rw [hS.2 16 (by decide)]; exact hC i hi) (fun S2 hS2 => ?_)
        rw [hF]
        have hgi := hGb i
        have hri := r4 i h1 (by omega)
        refine b_t (nI_lt (by omega) (by omega)) (fun x6 e6 => ?_)
        rw [nI_1] at e6
        subst e6
        exact ih (i + 1) (by omega) (by omega) S2 (hS.tr hS2)
    exact ⟨r, by
      have := loop (r - 1) 1 (by omega) (by omega) C Kp.rf
      rw [show r - 1 + 1 = r by omega] at this
      exact this⟩
  · subst eS1
    exact b_f c (m_bad1 (b_1 ⟨sI_g _ _ _, fun e => absurd e (by decide), hR.kept Kp.rf (hM1.sI (by decide) _)⟩))
