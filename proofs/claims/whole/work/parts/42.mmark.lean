/-! the reference's counts and its mark -/
theorem bv_knot (x m a : BitVec 32) : (x ^^^ m) &&& a = 0#32 ↔ x &&& a = m &&& a := by
  constructor
  · intro h
    apply BitVec.eq_of_getLsbD_eq
    intro i hi
    have := congrArg (fun z : BitVec 32 => z.getLsbD i) h
    simp only [BitVec.getLsbD_and, BitVec.getLsbD_xor, BitVec.getLsbD_zero] at this ⊢
    revert this
    cases x.getLsbD i <;> cases m.getLsbD i <;> cases a.getLsbD i <;> simp
  · intro h
    apply BitVec.eq_of_getLsbD_eq
    intro i hi
    have := congrArg (fun z : BitVec 32 => z.getLsbD i) h
    simp only [BitVec.getLsbD_and, BitVec.getLsbD_xor, BitVec.getLsbD_zero] at this ⊢
    revert this
    cases x.getLsbD i <;> cases m.getLsbD i <;> cases a.getLsbD i <;> simp
theorem i_knot (x m a : Int32) : (x ^^^ m) &&& a = 0 ↔ x &&& a = m &&& a := by
  have h := bv_knot x.toBitVec m.toBitVec a.toBitVec
  rw [← Int32.toBitVec_inj, ← Int32.toBitVec_inj, Int32.toBitVec_and, Int32.toBitVec_xor, Int32.toBitVec_and, Int32.toBitVec_and]
  exact h
def DM (M : St) (nd j : Nat) (ea : Nat → Nat) (aw mk : Nat → Int32) : Prop := nd ≤ 150 ∧ j < 6 ∧ M.1 2 = nI nd ∧ ∀ d, d < nd → M.2.2 4 (6 * d + j) = nI (ea d) ∧ ea d ≤ 1000 ∧ (M.2.2 5 d = 0 ↔ ¬ aw d = 0) ∧ M.2.2 3 d = mk d
theorem DM.kept {M S : St} {nd j : Nat} {ea : Nat → Nat} {aw mk : Nat → Int32} (h : DM M nd j ea aw mk) (hk : MK M S) : DM S nd j ea aw mk := ⟨h.1, h.2.1, by rw [hk.1 2 (by decide)]; exact h.2.2.1, fun d hd => by rw [hk.2 4 (by decide), hk.2 5 (by decide), hk.2 3 (by decide)]; exact h.2.2.2 d hd⟩
theorem sJ_K {is rs : List Nat} {S0 S : St} (k : Nat) (h : Kp is rs S0 S) (v : Int64) : Kp is rs S0 (sJ S k v) := h.sJ v
set_option maxHeartbeats 1000000 in
theorem m_counts {M : St} {nd j k0 : Nat} {ea : Nat → Nat} {aw mk : Nat → Int32} {mask marks : Int32} {post : St → Prop} (hD : DM M nd j ea aw mk)
    (k : ∀ S : St, Kp [3, 4] [] M S → S.1 3 = nI (sD (kh aw mk mask marks k0) (fun _ => 1) nd) → S.1 4 = nI (sD (kn aw mk mask marks) (fun _ => 1) nd) → S.2.1 0 = lZ (sD (kh aw mk mask marks k0) ea nd) → S.2.1 1 = lZ (sD (kn aw mk mask marks) ea nd) → post S) : ∃ n, PX6_counts n (nI j) mask (marks &&& mask) (nI k0) M post := by
  obtain ⟨hnd, hj, hn, hd0⟩ := hD
  obtain ⟨n, hL⟩ := lp2 (W := fun n x T => LX6_counts post n (nI j) mask (marks &&& mask) (nI k0) x T) (I := fun x T => ∃ d, d ≤ nd ∧ x = nI d ∧ Kp [3, 4] [] M T ∧ T.1 3 = nI (sD (kh aw mk mask marks k0) (fun _ => 1) d) ∧ T.1 4 = nI (sD (kn aw mk mask marks) (fun _ => 1) d) ∧ T.2.1 0 = lZ (sD (kh aw mk mask marks k0) ea d) ∧ T.2.1 1 = lZ (sD (kn aw mk mask marks) ea d)) (μ := fun x T => 151 - x.toNatClampNeg) (by
    intro n x T hI hk
    obtain ⟨d, hd, rfl, hK, h3, h4, h0, h1⟩ := hI
    show BX6_counts_0 _ _ _ _ _ _ _ T
    unfold BX6_counts_0
    rw [hK.1 2 (by decide), hn]
    refine ⟨fun c1 => ?_, fun c1 => ?_⟩
    · have hdn : d = nd := by
        have := (nI_leI (by omega) (by omega)).mp c1
        omega
      subst hdn
      exact k T hK h3 h4 h0 h1
    · have hlt : d < nd := by
        have : ¬ nd ≤ d := fun h => c1 (nI_le h (by omega))
        omega
      have hcd : (nI d).toNatClampNeg = d := nI_clamp (by omega)
      have hm : 151 - (nI (d + 1)).toNatClampNeg < 151 - (nI d).toNatClampNeg := by rw [nI_clamp (by omega), nI_clamp (by omega)]; omega
      have hin : vp_in (nI d) 150 := vp_in_nI (by omega) (by omega)
      obtain ⟨he, heb, haw, hmk⟩ := hd0 d hlt
      rw [hcd, hK.2 5 (by decide), hK.2 3 (by decide), hmk]
      have hno : kn aw mk mask marks d = false → LX6_counts post n (nI j) mask (marks &&& mask) (nI k0) (nI (d + 1)) T := fun hf => by
        have hf2 : kh aw mk mask marks k0 d = false := by simp [kh, hf]
        refine hk _ _ ⟨d + 1, hlt, rfl, hK, ?_, ?_, ?_, ?_⟩ hm
        · rw [h3, sD, if_neg (by rw [hf2]; decide)]; rfl
        · rw [h4, sD, if_neg (by rw [hf]; decide)]; rfl
        · rw [h0, sD, if_neg (by rw [hf2]; decide)]; rfl
        · rw [h1, sD, if_neg (by rw [hf]; decide)]; rfl
      refine ⟨hin, fun c2 x ex => ?_, fun c2 => ⟨hin, fun c3 => ?_, fun c3 x ex => ?_⟩⟩
      · subst ex
        rw [nI_1]
        exact hno (by simp [kn, haw.mp c2])
      · have haw0 : aw d = 0 := Classical.byContradiction fun h => c2 (haw.mpr h)
        have hy : kn aw mk mask marks d = true := by simp [kn, haw0, (i_knot (mk d) marks mask).mpr c3]
        have hix : (6 : Int32) * nI d + nI j = nI (6 * d + j) := by rw [show (6 : Int32) = nI 6 from rfl, pk_mul, nI_add]
        rw [hix, nI_clamp (by omega)]
        refine ⟨vp_in_nI (by omega) (by omega), fun x12 e12 S13 e13 S14 e14 => ⟨hin, ?_⟩⟩
        rw [hK.2 4 (by decide), he] at e12
        subst e12; subst e13; subst e14
        rw [nI_Z (by omega)]
        have hJ : (sI T 4 (T.1 4 + 1)).2.1 1 = T.2.1 1 := rfl
        have hR : (sJ (sI T 4 (T.1 4 + 1)) 1 ((sI T 4 (T.1 4 + 1)).2.1 1 + lZ (ea d))).2.2 3 d = mk d := by
          show T.2.2 3 d = mk d
          rw [hK.2 3 (by decide), hmk]
        rw [hR]
        refine ⟨fun c4 x ex => ?_, fun c4 S17 e17 S18 e18 x ex => ?_⟩
        · subst ex
          rw [nI_1]
          have hf2 : kh aw mk mask marks k0 d = false := by simp [kh, hb, c4]
          refine hk _ _ ⟨d + 1, hlt, rfl, (hK.sI (by decide) _).sJ _, ?_, ?_, ?_, ?_⟩ hm
          · rw [sJ_I, sI_n _ _ _ (by decide), h3, sD, if_neg (by rw [hf2]; decide)]; rfl
          · rw [sJ_I, sI_g, h4, sD, if_pos hy, nI_1]
          · rw [sJ_n _ _ _ (by decide), sI_J, h0, sD, if_neg (by rw [hf2]; decide)]; rfl
          · rw [sJ_g, hJ, h1, sD, if_pos hy, lZ_add]; rfl
        · subst e17; subst e18; subst ex
          rw [nI_1]
          have hf2 : kh aw mk mask marks k0 d = true := by simp [kh, hb, c4, hy]
          refine hk _ _ ⟨d + 1, hlt, rfl, (((hK.sI (by decide) _).sJ _).sI (by decide) _).sJ _, ?_, ?_, ?_, ?_⟩ hm
          · rw [sJ_I, sI_g, sJ_I, sI_n _ _ _ (by decide), h3, sD, if_pos hf2, nI_1]
          · rw [sJ_I, sI_n _ _ _ (by decide), sJ_I, sI_g, h4, sD, if_pos hy, nI_1]
          · rw [sJ_g, sI_J, sJ_n _ _ _ (by decide), sI_J, h0, sD, if_pos hf2, lZ_add]; rfl
          · rw [sJ_n _ _ _ (by decide), sI_J, sJ_g, hJ, h1, sD, if_pos hy, lZ_add]; rfl
      · subst ex
        rw [nI_1]
        exact hno (by unfold kn; rw [decide_eq_false (fun h => c3 ((i_knot (mk d) marks mask).mp h)), Bool.and_false])) 0 (sJ (sJ (sI (sI M 3 0) 4 0) 0 0) 1 0) ⟨0, Nat.zero_le _, rfl, (((Kp.rf.sI (by decide) _).sI (by decide) _).sJ _).sJ _, rfl, rfl, rfl, rfl⟩
  refine ⟨n, fun S1 e1 S2 e2 S3 e3 S4 e4 => ?_⟩
  subst e1; subst e2; subst e3; subst e4
  exact hL
/-- up, in the reference's words -/
def uu (n o s t : Nat) : Int := (s : Int) * s * o + (t : Int) * t * n
theorem qq_uu (n o s t : Nat) : qq n o s t * qq n o s t = uu n o s t * ((n : Int) + o) - ((s : Int) + t) * ((s : Int) + t) * ((n : Int) * o) := by
  unfold qq uu
  generalize (n : Int) = a
  generalize (o : Int) = b
  generalize (s : Int) = c
  generalize (t : Int) = d
  grind
theorem uu_cmp {up top by_ down N P g : Int} (hN : 0 < N) (hg : g = top * N - P * by_) : g * down < (up * N - P * down) * by_ ↔ top * down < up * by_ := by
  have e : (up * N - P * down) * by_ - g * down = N * (up * by_ - top * down) := by rw [hg]; grind
  constructor
  · intro h
    have h1 : 0 < N * (up * by_ - top * down) := by omega
    have h2 : 0 < up * by_ - top * down := Int.pos_of_mul_pos_right h1 (by omega)
    omega
  · intro h
    have h1 : 0 < N * (up * by_ - top * down) := Int.mul_pos hN (by omega)
    omega
theorem uu_bd {n o s t : Nat} (h : n + o ≤ 150) (hs : s ≤ 1000 * n) (ht : t ≤ 1000 * o) : 0 ≤ uu n o s t ∧ uu n o s t ≤ 843750000000 := by
  have h1 := mul_bd h
  have h2 : s * s * o ≤ 1000 * n * (1000 * n) * o := Nat.mul_le_mul (Nat.mul_le_mul hs hs) (Nat.le_refl o)
  have h3 : t * t * n ≤ 1000 * o * (1000 * o) * n := Nat.mul_le_mul (Nat.mul_le_mul ht ht) (Nat.le_refl n)
  have e1 : 1000 * n * (1000 * n) * o = 1000000 * (n * (n * o)) := by grind
  have e2 : 1000 * o * (1000 * o) * n = 1000000 * (o * (n * o)) := by grind
  have h4 : n * (n * o) + o * (n * o) ≤ 150 * 5625 := by
    rw [← Nat.add_mul]
    exact Nat.mul_le_mul h h1
  have e3 : uu n o s t = ((s * s * o + t * t * n : Nat) : Int) := by simp [uu]
  rw [e3]
  omega
