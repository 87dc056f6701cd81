/-! the hatch: the class's walk -/
theorem nI_max {m x : Nat} (hm : m < 2 ^ 31) (hx : x < 2 ^ 31) : (if nI m < nI x then nI x else nI m) = nI (if m < x then x else m) := by
  by_cases c : m < x
  · rw [if_pos c, if_pos (nI_lt c hx)]
  · rw [if_neg c, if_neg (fun e => c ((nI_ltI hm hx).mp e))]
theorem nI_fp : ∀ f : Nat, nI f * (nI f - 1) = nI (f * (f - 1))
  | 0 => by decide
  | f + 1 => by
    show nI (f + 1) * (nI (f + 1) - 1) = nI ((f + 1) * f)
    rw [nI_pred, pk_mul]
theorem nI_line {L x s : Nat} (h1 : L + x < 2 ^ 30) (h2 : s < 2 ^ 30) : (if nI L + nI x - nI s < 0 then 0 else nI L + nI x - nI s) = nI (L + x - s) := by
  rw [nI_add]
  rcases Nat.lt_or_ge (L + x) s with c | c
  · rw [if_pos (pk_sneg h2 c), show L + x - s = 0 by omega]; rfl
  · rw [pk_sub c, if_neg (nI_pos (by omega))]
theorem c_wf {n s : Nat} {S : St} {post : Int32 → St → Prop} (hn : n ≤ 7000) (hs : 1 ≤ s) (hs2 : s ≤ 100) (k : post (nI (zA (fun p => p / s) n)) S) : PX1_waitsOfFirst (nI n) (nI s) S post := by
  unfold PX1_waitsOfFirst
  refine b_f (nI_nle (by omega) (by omega)) ⟨nI_ne0 (by omega) (by omega), fun x5 e5 x6 e6 => ⟨by decide, ?_⟩⟩
  have hf : n / s ≤ n := Nat.div_le_self n s
  rw [pk_div (by omega) (by omega) (by omega)] at e5
  subst e5
  rw [pk_mul, pk_sub (Nat.div_mul_le_self n s)] at e6
  subst e6
  have hm : n / s * (n / s - 1) ≤ 7000 * 7000 := Nat.mul_le_mul (by omega) (by omega)
  have e2 : (2 : Int32) = nI 2 := rfl
  rw [nI_fp, e2, pk_div (by omega) (by omega) (by omega), pk_mul, pk_mul, nI_add, ← zT (s := s) (by omega) n]
  exact k
theorem c_notew {t L s x : Nat} {m w : Nat} {S : St} {post : St → Prop} (ht : t < 60) (hL : L ≤ 6000) (ha : 0 < x) (ha2 : x ≤ 100) (hs : 1 ≤ s) (hs2 : s ≤ 100) (hm : m < 2 ^ 31) (e16 : S.2.2 16 t = nI x) (e0 : S.2.2 17 0 = nI m) (e1 : S.2.2 17 1 = nI w)
    (k : ∀ S1 : St, Kp [] [17] S S1 → S1.2.2 17 0 = nI (if m < (L + (x - 1)) / s then (L + (x - 1)) / s else m) → S1.2.2 17 1 = nI (w + (zA (fun p => p / s) (L + x) - zA (fun p => p / s) L)) → S1.2.2 17 2 = nI (t + (L + (x - 1)) / s) → S1.2.2 17 3 = S.2.2 17 3 → post S1) : PX1_noteWaits (nI t) (nI L) (nI s) S post := by
  have i0 : vp_in 0 4 := vp_in_nI (n := 0) (by omega) (by omega)
  have i1 : vp_in 1 4 := vp_in_nI (n := 1) (by omega) (by omega)
  have i2 : vp_in 2 4 := vp_in_nI (n := 2) (by omega) (by omega)
  have z0 : (0 : Int32).toNatClampNeg = 0 := rfl
  have z1 : (1 : Int32).toNatClampNeg = 1 := rfl
  have z2 : (2 : Int32).toNatClampNeg = 2 := rfl
  unfold PX1_noteWaits
  rw [nI_clamp (show t < 2 ^ 31 by omega), e16, nI_add]
  refine ⟨vp_in_nI ht (by omega), fun x2 g2 => b_f (nI_nle (by omega) (by omega)) ⟨nI_ne0 (by omega) (by omega), fun x17 g17 => ⟨i0, i0, fun S20 g20 => ⟨i1, ?_⟩⟩⟩⟩
  subst g2
  have hd : (L + (x - 1)) / s ≤ L + (x - 1) := Nat.div_le_self _ _
  have g17' : x17 = nI ((L + (x - 1)) / s) := by
    rw [g17, show (1 : Int32) = nI 1 from rfl, pk_sub (by omega), pk_div (by omega) (by omega) (by omega), show L + x - 1 = L + (x - 1) by omega]
  subst g17'
  refine c_wf (by omega) hs hs2 (c_wf (by omega) hs hs2 ⟨i1, fun S27 g27 => ⟨i2, fun S29 g29 => ?_⟩⟩)
  subst g20; subst g27; subst g29
  refine k _ (((Kp.rf.sR (by decide) _).sR (by decide) _).sR (by decide) _) ?_ ?_ ?_ ?_
  all_goals simp only [sR_g, z0, z1, z2]
  · rw [upd_n _ _ _ (by decide), upd_n _ _ _ (by decide), upd_g, e0, nI_max hm (by omega)]
  · rw [upd_n _ _ _ (by decide), upd_g, upd_n _ _ _ (by decide), e1, pk_sub (zA_mono (by omega)), nI_add]
  · rw [upd_g, nI_add]
  · rw [upd_n _ _ _ (by decide), upd_n _ _ _ (by decide), upd_n _ _ _ (by decide)]
/-- the four facts before a minute -/
def Hc (a : Nat → Nat) (s t : Nat) (S : St) : Prop := S.2.2 17 0 = nI (zM (zW a s) (zA a t)) ∧ S.2.2 17 1 = nI (zA (zW a s) (zA a t)) ∧ S.2.2 17 2 = zE a s (zA a t) ∧ S.2.2 17 3 = nI (zM (fun i => zL a s (i + 1)) t)
theorem zW_bd {a : Nat → Nat} {nt s k : Nat} (hI : zI a nt) (hk : k ≤ zA a nt) : zM (zW a s) k ≤ 6000 := by
  have hb := (zA_bd hI nt).2
  refine zM_up k (fun i hi => ?_)
  have h1 : zW a s i ≤ i - zD a s (zC a i 60) := Nat.div_le_self _ _
  omega
theorem zL_bd {a : Nat → Nat} {nt : Nat} (hI : zI a nt) (s t : Nat) : zL a s t ≤ 6000 := by
  have hb := zA_bd hI t
  unfold zL
  omega
theorem zLM_bd {a : Nat → Nat} {nt : Nat} (hI : zI a nt) (s t : Nat) : zM (fun i => zL a s (i + 1)) t ≤ 6000 := zM_up t (fun i _ => zL_bd hI s (i + 1))
theorem c_fact {C : St} {a : Nat → Nat} {nt s q : Nat} {post : Int32 → St → Prop} (hI : zI a nt) (hs : 1 ≤ s) (hs2 : s ≤ 100) (hq : q < 4) (h13 : C.1 13 = nI nt) (h16 : ∀ i, i < nt → C.2.2 16 i = nI (a i))
    (k : ∀ S : St, Kp [] [17] C S → post (zF a s (zA a nt) nt q) S) : ∃ n, PX1_factOf n (nI s) (nI q) C post := by
  have hnt := hI.1
  have i2 : vp_in 2 4 := vp_in_nI (n := 2) (by omega) (by omega)
  have i3 : vp_in 3 4 := vp_in_nI (n := 3) (by omega) (by omega)
  have z2 : (2 : Int32).toNatClampNeg = 2 := rfl
  have z3 : (3 : Int32).toNatClampNeg = 3 := rfl
  have key : ∀ r t, t + r = nt → ∀ S, Kp [] [17] C S → Hc a s t S → LX1_factOf post (r + 1) (nI s) (nI q) (nI (zL a s t)) (nI t) S := by
    intro r
    induction r with
    | zero =>
      intro t ht S hK hH
      have : t = nt := by omega
      subst this
      refine b_t (by rw [hK.1 13 (by decide), h13]; exact nI_le (Nat.le_refl _) (by omega)) ⟨vp_in_nI hq (by omega), ?_⟩
      rw [nI_clamp (by omega)]
      obtain ⟨f0, f1, f2, f3⟩ := hH
      have h4 : q = 0 ∨ q = 1 ∨ q = 2 ∨ q = 3 := by omega
      rcases h4 with rfl | rfl | rfl | rfl
      · rw [f0]; exact k S hK
      · rw [f1]; exact k S hK
      · rw [f2]; exact k S hK
      · rw [f3]; exact k S hK
    | succ r ih =>
      intro t ht S hK hH
      have hct : (nI t).toNatClampNeg = t := nI_clamp (by omega)
      have hin : vp_in (nI t) 60 := vp_in_nI (by omega) (by omega)
      have r16 : S.2.2 16 t = nI (a t) := by rw [hK.2 16 (by decide)]; exact h16 t (by omega)
      have hLb := zL_bd hI s t
      have hLb' := zL_bd hI s (t + 1)
      have hMb := zLM_bd hI s t
      have ha := hI.2.1 t
      have hA1 : zA a (t + 1) = zA a t + a t := rfl
      obtain ⟨f0, f1, f2, f3⟩ := hH
      have hl : (if nI (zL a s t) + nI (a t) - nI s < 0 then 0 else nI (zL a s t) + nI (a t) - nI s) = nI (zL a s (t + 1)) := by rw [nI_line (by omega) (by omega), zL_step]
      have hM1 : zM (fun i => zL a s (i + 1)) (t + 1) = if zM (fun i => zL a s (i + 1)) t < zL a s (t + 1) then zL a s (t + 1) else zM (fun i => zL a s (i + 1)) t := rfl
      refine b_f (by rw [hK.1 13 (by decide), h13]; exact fun e => absurd ((nI_leI (by omega) (by omega)).mp e) (by omega)) ⟨hin, ?_⟩
      rw [hct, r16]
      refine ⟨fun c => ⟨hin, fun x9 g9 => ⟨i3, i3, fun S12 g12 x13 g13 => ?_⟩⟩, fun c => ?_⟩
      · have h0 : a t = 0 := by
          have := (nI_leI (b := 0) (by omega) (by omega)).mp c
          omega
        rw [hl] at g9
        subst g9; subst g13
        rw [nI_1]
        rw [z3, f3, nI_max (by omega) (by omega), ← hM1] at g12
        refine ih (t + 1) (by omega) S12 (by rw [g12]; exact hK.sR (by decide) _) ?_
        rw [g12]
        unfold Hc
        rw [sR_g, hA1, h0, Nat.add_zero, upd_n _ _ _ (by decide), upd_n _ _ _ (by decide), upd_n _ _ _ (by decide), upd_g]
        exact ⟨f0, f1, f2, rfl⟩
      · have h0 : 0 < a t := by
          rcases Nat.eq_zero_or_pos (a t) with h | h
          · exact absurd (by rw [h]; decide) c
          · exact h
        have hwb := zW_bd (s := s) hI (zA_bd hI t).1
        refine c_notew (by omega) hLb h0 ha hs hs2 (by omega) r16 f0 f1 (fun S14 hK14 g0 g1 g2 g3 => ⟨hin, fun x9 g9 => ⟨i3, i3, fun S12 g12 x13 g13 => ?_⟩⟩)
        have r16' : S14.2.2 16 t = nI (a t) := by rw [hK14.2 16 (by decide)]; exact r16
        rw [r16', hl] at g9
        subst g9; subst g13
        rw [nI_1]
        rw [z3, g3, f3, nI_max (by omega) (by omega), ← hM1] at g12
        refine ih (t + 1) (by omega) S12 (by rw [g12]; exact (hK.tr hK14).sR (by decide) _) ?_
        rw [g12]
        unfold Hc
        rw [sR_g, hA1, upd_n _ _ _ (by decide), upd_n _ _ _ (by decide), upd_n _ _ _ (by decide), upd_g, g0, g1, g2]
        refine ⟨by rw [zG_max (by omega) h0], ?_, ?_, rfl⟩
        · have hs9 := zG_sum (a := a) (s := s) (t := t) (by omega) (a t) (Nat.le_refl _)
          have hm9 := zA_mono (a := fun p => p / s) (show zL a s t ≤ zL a s t + a t by omega)
          congr 1
          omega
        · have hz := zW_in (a := a) (s := s) (t := t) (r := a t - 1) (by omega) (by omega)
          unfold zE
          rw [if_neg (by omega), show zA a t + a t - 1 = zA a t + (a t - 1) by omega, hz.1, hz.2]
  refine ⟨nt + 1, fun S1 e1 => ⟨i2, fun S3 e3 => ?_⟩⟩
  subst e1
  have hK3 : Kp [] [17] C S3 := by rw [e3]; exact (Kp.rf.sR (by decide) _).sR (by decide) _
  refine key nt 0 (by omega) S3 hK3 ?_
  rw [e3]
  unfold Hc
  rw [sR_g, sR_g, z2, upd_n _ _ _ (by decide), upd_n _ _ _ (by decide), upd_g, upd_n _ _ _ (by decide)]
  exact ⟨rfl, rfl, rfl, rfl⟩
