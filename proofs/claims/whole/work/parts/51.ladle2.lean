/-! ladles: the reference, and both together -/
section LADLE3
variable {ii bb : Nat → Int32}
def BB (nm : Nat) (S : St) (acc : Option (Nat × (Nat → Nat))) : Prop := (acc = none ∧ S.1 13 = -1) ∨ ∃ u r, acc = some (u, r) ∧ u ≤ 6 ∧ S.1 13 = nI u ∧ ∀ k, k < nm → S.2.2 12 k = nI (r k)
set_option maxHeartbeats 1000000 in
theorem m_shares {nm : Nat} (hnm : nm ≤ 6) : ∀ (n d : Nat), n < d → ∀ (m u : Nat) (row : Nat → Nat) (acc : Option (Nat × (Nat → Nat))) (S : St) (post : St → Prop), m + n = nm → u ≤ m → S.1 1 = nI nm → UB nm ii bb S → (∀ k, k < m → S.2.2 11 k = nI (row k) ∧ row k ≤ 6) → BB nm S acc →
    (∀ S1, Kp [13] [11, 12] S S1 → (∀ k, k < m → S1.2.2 11 k = nI (row k)) → BB nm S1 ((LV ii bb n m u row).foldl stp acc) → post S1) → PX6_shares d (nI m) (nI u) S post := by
  intro n
  induction n with
  | zero =>
    intro d hd m u row acc S post hmn hum h1 hU hr hB k
    obtain ⟨d, rfl⟩ : ∃ e, d = e + 1 := ⟨d - 1, by omega⟩
    have : m = nm := by omega
    subst this
    have enter : stp acc (u, row) = some (u, row) → ∀ F, m + 1 ≤ F → ((nI m = (S.1 1) → ∀ S3 : St, S3 = sI S 13 (nI u) → LX6_shares (PX6_shares d) post F 0 0 0 0 0 0 S3) ∧ (¬ nI m = (S.1 1) → LX6_shares (PX6_shares d) post F 1 (nI m) (nI u) 0 0 0 S)) := by
      intro he F hF
      refine b_t h1.symm (fun S3 e3 => ?_)
      have key : ∀ r q, q + r = m → ∀ S', Kp [13] [11, 12] S S' → S'.1 13 = nI u → S'.2.2 11 = S.2.2 11 → (∀ i, i < q → S'.2.2 12 i = nI (row i)) → ∀ F, r + 1 ≤ F → LX6_shares (PX6_shares d) post F 0 0 0 (nI q) 0 0 S' := by
        intro r
        induction r with
        | zero =>
          intro q hq S' hK g13 g11 g12 F hF
          obtain ⟨F, rfl⟩ : ∃ G, F = G + 1 := ⟨F - 1, by omega⟩
          have : q = m := by omega
          subst this
          refine b_t (by rw [hK.1 1 (by decide), h1]; exact nI_le (Nat.le_refl _) (by omega)) (k S' hK (fun i hi => by rw [g11]; exact (hr i hi).1) ?_)
          rw [LV, List.foldl_cons, List.foldl_nil, he]
          exact Or.inr ⟨u, row, rfl, by omega, g13, g12⟩
        | succ r ih =>
          intro q hq S' hK g13 g11 g12 F hF
          obtain ⟨F, rfl⟩ : ∃ G, F = G + 1 := ⟨F - 1, by omega⟩
          have hin : vp_in (nI q) 6 := vp_in_nI (by omega) (by omega)
          refine b_f (by rw [hK.1 1 (by decide), h1]; exact fun e => absurd ((nI_leI (by omega) (by omega)).mp e) (by omega)) ⟨hin, hin, fun S11 e11 x ex => ?_⟩
          rw [nI_clamp (by omega)] at e11
          subst ex
          rw [nI_1]
          refine ih (q + 1) (by omega) S11 (by rw [e11]; exact hK.sR (by decide) _) (by rw [e11]; exact g13) (by rw [e11, sR_n _ _ _ (by decide), g11]) (fun i hi => ?_) F (by omega)
          rw [e11, sR_g]
          by_cases hiq : i = q
          · subst hiq
            rw [upd_g, g11, (hr i (by omega)).1]
          · rw [upd_n _ _ _ hiq]
            exact g12 i (by omega)
      subst e3
      exact key m 0 (by omega) _ (Kp.rf.sI (by decide) _) (sI_g _ _ _) rfl (fun i hi => absurd hi (by omega)) F hF
    refine ⟨m + 1, ?_⟩
    rcases hB with ⟨e1, e2⟩ | ⟨a, r, e1, e2, e3, e4⟩
    · subst e1
      exact b_t (by rw [e2]; decide) (enter rfl _ (Nat.le_refl _))
    · subst e1
      refine b_f (by rw [e3]; exact nI_pos (by omega)) ⟨fun c => ?_, fun c => k S Kp.rf (fun i hi => (hr i hi).1) ?_⟩
      · rw [e3] at c
        refine enter ?_ _ (Nat.le_refl _)
        show (if u < a then some (u, row) else some (a, r)) = _
        rw [if_pos ((nI_ltI (by omega) (by omega)).mp c)]
      · have hle : a ≤ u := by
          rcases Nat.lt_or_ge u a with h9 | h9
          · exact absurd (by rw [e3]; exact nI_lt h9 (by omega)) c
          · exact h9
        rw [fold_id _ (fun x hx => by have := (LV_b _ _ _ _ _ hx).1; show a ≤ x.1; omega)]
        exact Or.inr ⟨a, r, rfl, e2, e3, e4⟩
  | succ n ih =>
    intro d hd m u row acc S post hmn hum h1 hU hr hB k
    obtain ⟨d, rfl⟩ : ∃ e, d = e + 1 := ⟨d - 1, by omega⟩
    have enter : ∀ F, (u + 1) * (m + 2) + 1 ≤ F → ((nI m = (S.1 1) → ∀ S3 : St, S3 = sI S 13 (nI u) → LX6_shares (PX6_shares d) post F 0 0 0 0 0 0 S3) ∧ (¬ nI m = (S.1 1) → LX6_shares (PX6_shares d) post F 1 (nI m) (nI u) 0 0 0 S)) := by
      intro F hF
      refine b_f (by rw [h1]; exact fun e => absurd (nI_inj (by omega) (by omega) e) (by omega)) ?_
      have key : ∀ r l, l + r = u + 1 → ∀ S' acc', Kp [13] [11, 12] S S' → (∀ k, k < m → S'.2.2 11 k = nI (row k)) → BB nm S' acc' → ((List.range' l r).flatMap (fun l => if okL ii bb row m l m = true then LV ii bb n (m + 1) (if u < l + 1 then l + 1 else u) (uN row m l) else [])).foldl stp acc' = (LV ii bb (n + 1) m u row).foldl stp acc → ∀ F, r * (m + 2) + 1 ≤ F → LX6_shares (PX6_shares d) post F 1 (nI m) (nI u) (nI l) 0 0 S' := by
        intro r
        induction r with
        | zero =>
          intro l hl S' acc' hK hr' hB' hf F hF
          obtain ⟨F, rfl⟩ : ∃ G, F = G + 1 := ⟨F - 1, by omega⟩
          refine b_t (nI_lt (by omega) (by omega)) (k S' hK hr' ?_)
          rw [← hf]
          exact hB'
        | succ r ihr =>
          intro l hl S' acc' hK hr' hB' hf F hF
          rw [Nat.add_mul] at hF
          obtain ⟨F, rfl⟩ : ∃ G, F = G + 1 := ⟨F - 1, by omega⟩
          rw [List.range'_succ, List.flatMap_cons, List.foldl_append] at hf
          refine b_f (fun e => absurd ((nI_ltI (by omega) (by omega)).mp e) (by omega)) ?_
          have inner : ∀ r2 q, q + r2 = m → ∀ F, r2 + 1 + (r * (m + 2) + 1) ≤ F → LX6_shares (PX6_shares d) post F 2 (nI m) (nI u) (nI l) (if okL ii bb row m l q = true then 1 else 0) (nI q) S' := by
            intro r2
            induction r2 with
            | zero =>
              intro q hq F hF
              obtain ⟨F, rfl⟩ : ∃ G, F = G + 1 := ⟨F - 1, by omega⟩
              have : q = m := by omega
              subst this
              refine b_t (nI_le (Nat.le_refl _) (by omega)) ?_
              by_cases ho : okL ii bb row q l q = true
              · rw [if_pos ho] at hf ⊢
                refine b_1 ⟨vp_in_nI (by omega) (by omega), fun S16 e16 => ?_⟩
                rw [nI_clamp (by omega)] at e16
                have hK16 : Kp [13] [11, 12] S S16 := by rw [e16]; exact hK.sR (by decide) _
                have hB16 : BB nm S16 acc' := by rw [e16]; exact hB'
                have hr16 : ∀ k, k < q + 1 → S16.2.2 11 k = nI (uN row q l k) ∧ uN row q l k ≤ 6 := fun k hk => by
                  rw [e16, sR_g]
                  unfold uN
                  by_cases hkm : k = q
                  · subst hkm
                    rw [upd_g, if_pos rfl]
                    exact ⟨rfl, by omega⟩
                  · rw [upd_n _ _ _ hkm, if_neg hkm]
                    exact ⟨hr' k (by omega), (hr k (by omega)).2⟩
                have go : PX6_shares d (nI (q + 1)) (nI (if u < l + 1 then l + 1 else u)) S16 (fun S20 => ∀ x21 : Int32, x21 = nI l + 1 → LX6_shares (PX6_shares d) post F 1 (nI q) (nI u) x21 0 0 S20) := by
                  refine ih d (by omega) (q + 1) _ _ acc' S16 _ (by omega) (by split <;> omega) (by rw [hK16.1 1 (by decide), h1]) (hU.kept hK16 (by decide) (by decide)) hr16 hB16 (fun S20 hK20 hr20 hB20 x ex => ?_)
                  subst ex
                  rw [nI_1]
                  refine ihr (l + 1) (by omega) S20 _ (hK16.tr hK20) (fun k hk => ?_) hB20 hf F (by omega)
                  rw [hr20 k (by omega)]
                  unfold uN
                  rw [if_neg (by omega)]
                rw [nI_1]
                refine ⟨fun c => ?_, fun c => ?_⟩
                · have : l = u := nI_inj (by omega) (by omega) c
                  rw [nI_1]
                  rw [if_pos (by omega)] at go
                  subst this
                  exact go
                · have : l ≠ u := fun e => c (by rw [e])
                  rw [if_neg (by omega)] at go
                  exact go
              · rw [if_neg ho] at hf ⊢
                refine b_0 (fun x ex => ?_)
                subst ex
                rw [nI_1]
                exact ihr (l + 1) (by omega) S' acc' hK hr' hB' hf F (by omega)
            | succ r2 ih2 =>
              intro q hq F hF
              obtain ⟨F, rfl⟩ : ∃ G, F = G + 1 := ⟨F - 1, by omega⟩
              have hci : (nI q).toNatClampNeg = q := nI_clamp (by omega)
              refine b_f (fun e => absurd ((nI_leI (by omega) (by omega)).mp e) (by omega)) ?_
              have nx := ih2 (q + 1) (by omega) F (by omega)
              by_cases ho : okL ii bb row m l q = true
              · rw [if_pos ho]
                refine b_1 ⟨vp_in_nI (by omega) (by omega), fun c => ?_, fun c x ex => ?_⟩
                · rw [hci, hr' q (by omega)] at c
                  have hrl : row q = l := nI_inj (by have := (hr q (by omega)).2; omega) (by omega) c
                  refine m_unlike hnm (hU.kept hK (by decide) (by decide)) (by omega) (by omega) (fun hu => b_0 (fun x ex => ?_)) (fun hu => b_1 (fun x ex => ?_))
                  · subst ex
                    rw [nI_1]
                    rw [if_pos (by rw [okL, ho, hu]; simp)] at nx
                    exact nx
                  · subst ex
                    rw [nI_1]
                    rw [if_neg (by rw [okL, ho, hu]; simp [hrl])] at nx
                    exact nx
                · subst ex
                  rw [nI_1]
                  have : row q ≠ l := fun e => c (by rw [hci, hr' q (by omega), e])
                  rw [if_pos (by rw [okL, ho]; simp [this])] at nx
                  exact nx
              · rw [if_neg ho]
                refine b_0 (fun x ex => ?_)
                subst ex
                rw [nI_1]
                rw [if_neg (by rw [okL]; simp [ho])] at nx
                exact nx
          exact inner m 0 (by omega) F (by omega)
      exact key (u + 1) 0 (by omega) S acc Kp.rf (fun k hk => (hr k hk).1) hB rfl F hF
    refine ⟨(u + 1) * (m + 2) + 1, ?_⟩
    rcases id hB with ⟨e1, e2⟩ | ⟨a, r, e1, e2, e3, e4⟩
    · exact b_t (by rw [e2]; decide) (enter _ (Nat.le_refl _))
    · refine b_f (by rw [e3]; exact nI_pos (by omega)) ⟨fun c => enter _ (Nat.le_refl _), fun c => k S Kp.rf (fun i hi => (hr i hi).1) ?_⟩
      have hle : a ≤ u := by
        rcases Nat.lt_or_ge u a with h9 | h9
        · exact absurd (by rw [e3]; exact nI_lt h9 (by omega)) c
        · exact h9
      subst e1
      rw [fold_id _ (fun x hx => by have := (LV_b _ _ _ _ _ hx).1; show a ≤ x.1; omega)]
      exact Or.inr ⟨a, r, rfl, e2, e3, e4⟩
/-- what the reference finds -/
theorem m_anew {nm : Nat} {M : St} {post : Int32 → St → Prop} (hnm : nm ≤ 6) (h1 : M.1 1 = nI nm) (hU : UB nm ii bb M)
    (k0 : sfL ii bb nm = false → ∀ S, MT M S → post 0 S)
    (k1 : sfL ii bb nm = true → ∀ x, (LV ii bb nm 0 0 (fun _ => 0)).foldl stp none = some x → ∀ S, MT M S → S.1 13 = nI x.1 → (∀ k, k < nm → S.2.2 12 k = nI (x.2 k)) → post 1 S) : ∃ n, PX6_ladlesAnew n M post := by
  have key : ∀ r q, q + r = nm → LX6_ladlesAnew post (r + 1) (if sfL ii bb q = true then 1 else 0) (nI q) M := by
    intro r
    induction r with
    | zero =>
      intro q hq
      have : q = nm := by omega
      subst this
      have hM2 : MT M (sI M 13 (-1)) := Kp.rf.sI (by decide) _
      refine b_t (by rw [h1]; exact nI_le (Nat.le_refl _) (by omega)) (fun S2 e2 => ?_)
      subst e2
      by_cases hs : sfL ii bb q = true
      · rw [if_pos hs]
        refine b_1 (m_shares hnm q 8 (by omega) 0 0 (fun _ => 0) none _ _ (by omega) (by omega) (by rw [hM2.1 1 (by decide), h1]) (hU.kept hM2 (by decide) (by decide)) (fun k hk => absurd hk (by omega)) (Or.inl ⟨rfl, sI_g _ _ _⟩) (fun S1 hK1 hr1 hB1 => ⟨Or.inr rfl, ?_⟩))
        have hM1 : MT M S1 := hM2.tr (hK1.mono (by decide) (by decide))
        rcases hB1 with ⟨e1, e2⟩ | ⟨u, r, e1, e2, e3, e4⟩
        · obtain ⟨x, hx, -⟩ := fold_best (LV_ne (ii := ii) (bb := bb) q 0 0 (fun _ => 0) (fun i hi => absurd hi (by omega)))
          rw [hx] at e1
          exact absurd e1 (by simp)
        · exact k1 hs (u, r) e1 S1 hM1 e3 e4
      · rw [if_neg hs]
        exact b_0 ⟨Or.inl rfl, k0 (by simpa using hs) _ hM2⟩
    | succ r ih =>
      intro q hq
      have nx := ih (q + 1) (by omega)
      have hin : vp_in (nI q) 6 := vp_in_nI (by omega) (by omega)
      refine b_f (by rw [h1]; exact fun e => absurd ((nI_leI (by omega) (by omega)).mp e) (by omega)) ?_
      rw [nI_clamp (by omega), (hU q (by omega)).1, (hU q (by omega)).2]
      by_cases hs : sfL ii bb q = true
      · rw [if_pos hs]
        refine b_1 ⟨hin, hin, fun c x ex => ?_, fun c x ex => ?_⟩
        · subst ex
          rw [nI_1]
          rw [if_pos (by rw [sfL, hs]; simp [un, c])] at nx
          exact nx
        · subst ex
          rw [nI_1]
          rw [if_neg (by rw [sfL, hs]; simp [un, c])] at nx
          exact nx
      · rw [if_neg hs]
        refine b_0 (fun x ex => ?_)
        subst ex
        rw [nI_1]
        rw [if_neg (by rw [sfL]; simp [hs])] at nx
        exact nx
  exact ⟨nm + 1, key nm 0 (by omega)⟩
/-- what the class finds -/
theorem c_deal {nm : Nat} {C : St} {post : Int32 → St → Prop} (hnm : nm ≤ 6) (h0 : C.1 0 = nI nm) (hU : UB nm ii bb C)
    (k0 : sfL ii bb nm = false → post (-1) C)
    (k1 : sfL ii bb nm = true → ∀ x, x.1 ≤ 6 → (LV ii bb nm 0 0 (fun _ => 0)).foldl stp none = some x → ∀ S, CK C S → (∀ k, k < nm → S.2.2 2 k = nI (x.2 k)) → post (nI x.1) S) : ∃ n, PX3_deal n C post := by
  have second : sfL ii bb nm = true → ∀ r q, q + r = nm + 1 → ∀ S, Kp [] [2] C S → (∀ y, y ∈ LV ii bb nm 0 0 (fun _ => 0) → q ≤ y.1) → ∀ F, r + 1 ≤ F → LX3_deal post F 1 (nI q) S := by
    intro hs
    obtain ⟨x, hx, hxm, hxl, hxf⟩ := fold_best (LV_ne (ii := ii) (bb := bb) nm 0 0 (fun _ => 0) (fun i hi => absurd hi (by omega)))
    have hxb := LV_b _ _ _ _ _ hxm
    intro r
    induction r with
    | zero =>
      intro q hq S hK hall F hF
      have := hall x hxm
      omega
    | succ r ih =>
      intro q hq S hK hall F hF
      obtain ⟨F, rfl⟩ : ∃ G, F = G + 1 := ⟨F - 1, by omega⟩
      have hqx := hall x hxm
      refine b_f (by rw [hK.1 0 (by decide), h0]; exact fun e => absurd ((nI_ltI (by omega) (by omega)).mp e) (by omega)) ?_
      refine c_dealFrom (ii := ii) (bb := bb) (nm := nm) hnm (by omega) nm 8 (by omega) 0 0 (fun _ => 0) S _ (by omega) (by omega) (by omega) (by rw [hK.1 0 (by decide), h0]) (hU.kept hK (by decide) (by decide)) (fun k hk => absurd hk (by omega)) (fun hn S1 hK1 _ => b_0 (fun y ey => ?_)) (fun y hy S1 hK1 hr1 => b_1 ?_)
      · subst ey
        rw [nI_1]
        refine ih (q + 1) (by omega) S1 (hK.tr hK1) (fun y hy => ?_) F (by omega)
        have := List.find?_eq_none.mp hn y hy
        simp only [decide_eq_true_eq] at this
        omega
      · have hyq : y.1 ≤ q := by
          have := List.find?_some hy
          simpa using this
        have hym : y ∈ LV ii bb nm 0 0 (fun _ => 0) := List.mem_of_find?_eq_some hy
        have hq2 : q = x.1 := by
          have h1 := hall x hxm
          have h2 := hxl y hym
          omega
        subst hq2
        rw [hxf] at hy
        have : x = y := Option.some.inj hy
        subst this
        exact k1 hs x (by omega) hx S1 ((hK.tr hK1).mono (by decide) (by decide)) hr1
  have first : ∀ r q, q + r = nm → sfL ii bb q = true → ∀ F, r + nm + 3 ≤ F → LX3_deal post F 0 (nI q) C := by
    intro r
    induction r with
    | zero =>
      intro q hq hs F hF
      have : q = nm := by omega
      subst this
      obtain ⟨F, rfl⟩ : ∃ G, F = G + 1 := ⟨F - 1, by omega⟩
      exact b_t (by rw [h0]; exact nI_le (Nat.le_refl _) (by omega)) (second hs (q + 1) 0 (by omega) C Kp.rf (fun y _ => Nat.zero_le _) F (by omega))
    | succ r ih =>
      intro q hq hs F hF
      obtain ⟨F, rfl⟩ : ∃ G, F = G + 1 := ⟨F - 1, by omega⟩
      refine b_f (by rw [h0]; exact fun e => absurd ((nI_leI (by omega) (by omega)).mp e) (by omega)) ?_
      refine c_canMeet hnm hU (by omega) (by omega) (fun hu => b_1 (fun x ex => ?_)) (fun hu => b_0 (k0 (sfL_f (k := q + 1) ?_ nm (by omega))))
      · subst ex
        rw [nI_1]
        exact ih (q + 1) (by omega) (by rw [sfL, hs, hu]; rfl) F (by omega)
      · rw [sfL, hs, hu]; rfl
  exact ⟨_, first nm 0 (by omega) rfl _ (Nat.le_refl _)⟩
end LADLE3

theorem rel_UB {nm nd ns nt : Nat} {C M : St} (h : RelN nm nd ns nt C M) : UB nm (C.2.2 0) (C.2.2 1) C ∧ UB nm (C.2.2 0) (C.2.2 1) M := by
  obtain ⟨-, -, hmenu, -⟩ := h
  exact ⟨fun i hi => ⟨rfl, rfl⟩, fun i hi => ⟨(hmenu i hi).1.symm, (hmenu i hi).2.symm⟩⟩
theorem op_ladles : Op_ladles Rel := by
  intro C M hR
  obtain ⟨nm, nd, ns, nt, h⟩ := id hR
  obtain ⟨⟨b1, b2, b3, b4⟩, ⟨e1, e2, e3, e4, e5, e6, e7, e8⟩, -⟩ := id h
  obtain ⟨uC, uM⟩ := rel_UB h
  have hM1 : MK M (sI M 0 0) := Kp.rf.sI (by decide) _
  refine c_deal b1 e1 uC (fun hs => ?_) (fun hs x hx6 hx S1 hS1 hr => ?_)
  · intro T1 eT
    subst eT
    refine m_anew b1 (by rw [sI_n _ _ _ (by decide), e2]) (uM.kept hM1 (by decide) (by decide)) (fun _ S hS => b_0 ⟨rfl, hR.kept Kp.rf (hM1.tr (MT_MK hS))⟩) (fun hs' => absurd hs' (by rw [hs]; decide))
  · intro T1 eT
    subst eT
    refine m_anew b1 (by rw [sI_n _ _ _ (by decide), e2]) (uM.kept hM1 (by decide) (by decide)) (fun hs' => absurd hs (by rw [hs']; decide)) (fun _ y hy S hS g13 g12 => b_1 ⟨?_, hR.kept hS1 (hM1.tr (MT_MK hS))⟩)
    rw [hx] at hy
    have : x = y := Option.some.inj hy
    subst this
    exact g13.symm
theorem op_ladle : Op_ladle Rel := by
  intro C M p0 v hR
  obtain ⟨nm, nd, ns, nt, h⟩ := id hR
  obtain ⟨⟨b1, b2, b3, b4⟩, ⟨e1, e2, e3, e4, e5, e6, e7, e8⟩, -⟩ := id h
  obtain ⟨uC, uM⟩ := rel_UB h
  have hM1 : MK M (sI M 0 0) := Kp.rf.sI (by decide) _
  refine c_meal e1 b1 (fun j hj ej => ?_) (fun hx => ⟨rfl, ?_⟩)
  · subst ej
    have hin : vp_in (nI j) 6 := vp_in_nI (by omega) (by omega)
    have hcj : (nI j).toNatClampNeg = j := nI_clamp (by omega)
    refine c_deal b1 e1 uC (fun hs => b_t rfl ?_) (fun hs x hx6 hx S1 hS1 hr => b_f (nI_neg1 (by omega)) ⟨hin, ?_⟩)
    · unfold Q_ladle PX6_ladle
      refine m_isMeal_t e2 b1 hj (b_1 (m_anew b1 (by rw [sI_n _ _ _ (by decide), e2]) (uM.kept hM1 (by decide) (by decide)) (fun _ S hS => b_0 ⟨by rw [hS.1 0 (by decide), sI_g], fun _ => rfl, hR.kept Kp.rf (hM1.tr (MT_MK hS))⟩) (fun hs' => absurd hs' (by rw [hs]; decide))))
    · unfold Q_ladle PX6_ladle
      refine m_isMeal_t e2 b1 hj (b_1 (m_anew b1 (by rw [sI_n _ _ _ (by decide), e2]) (uM.kept hM1 (by decide) (by decide)) (fun hs' => absurd hs (by rw [hs']; decide)) (fun _ y hy S hS g13 g12 => b_1 ⟨hin, by rw [hS.1 0 (by decide), sI_g], fun _ => ?_, hR.kept hS1 (hM1.tr (MT_MK hS))⟩)))
      rw [hx] at hy
      have : x = y := Option.some.inj hy
      subst this
      rw [hcj, hr j hj, g12 j hj]
  · unfold Q_ladle PX6_ladle
    exact m_isMeal_f e2 hx (b_0 ⟨sI_g _ _ _, fun e => absurd e (by decide), hR.kept Kp.rf (Kp.rf.sI (by decide) _)⟩)
