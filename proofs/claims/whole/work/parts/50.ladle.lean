/-! ladles -/
section LADLE
variable (ii bb : Nat → Int32)
def un (a b : Nat) : Bool := !(decide ((ii a &&& bb b) = 0) && decide ((ii b &&& bb a) = 0))
def okL (row : Nat → Nat) (m l : Nat) : Nat → Bool
  | 0 => true
  | k + 1 => okL row m l k && (decide (row k ≠ l) || !un ii bb k m)
def sfL : Nat → Bool
  | 0 => true
  | k + 1 => sfL k && !un ii bb k k
def uN (row : Nat → Nat) (m l : Nat) : Nat → Nat := fun i => if i = m then l else row i
/-- all ways to go on, in the order in which both programs try them -/
def LV : Nat → Nat → Nat → (Nat → Nat) → List (Nat × (Nat → Nat))
  | 0, _, u, row => [(u, row)]
  | n + 1, m, u, row => (List.range' 0 (u + 1)).flatMap (fun l => if okL ii bb row m l m = true then LV n (m + 1) (if u < l + 1 then l + 1 else u) (uN row m l) else [])
end LADLE
section LADLE2
variable {ii bb : Nat → Int32}
theorem un_s {a b : Nat} : un ii bb a b = un ii bb b a := by simp [un, Bool.and_comm]
theorem okL_f {row : Nat → Nat} {m l k : Nat} (h : okL ii bb row m l k = false) : ∀ q, k ≤ q → okL ii bb row m l q = false := by
  intro q hq
  induction q with
  | zero =>
    have : k = 0 := by omega
    subst this
    exact h
  | succ q ih =>
    rcases Nat.lt_or_ge q k with h1 | h1
    · have : k = q + 1 := by omega
      subst this
      exact h
    · rw [okL, ih h1, Bool.false_and]
theorem sfL_f {k : Nat} (h : sfL ii bb k = false) : ∀ q, k ≤ q → sfL ii bb q = false := by
  intro q hq
  induction q with
  | zero =>
    have : k = 0 := by omega
    subst this
    exact h
  | succ q ih =>
    rcases Nat.lt_or_ge q k with h1 | h1
    · have : k = q + 1 := by omega
      subst this
      exact h
    · rw [sfL, ih h1, Bool.false_and]
theorem okL_new {row : Nat → Nat} {m l : Nat} : ∀ k, (∀ i, i < k → row i < l) → okL ii bb row m l k = true
  | 0, _ => rfl
  | k + 1, h => by
    rw [okL, okL_new k (fun i hi => h i (by omega)), Bool.true_and]
    have : row k ≠ l := by have := h k (by omega); omega
    simp [this]
theorem LV_b : ∀ (n m u : Nat) (row : Nat → Nat) (x : Nat × (Nat → Nat)), x ∈ LV ii bb n m u row → u ≤ x.1 ∧ x.1 ≤ u + n
  | 0, m, u, row, x, h => by
    rw [LV, List.mem_singleton] at h
    subst h
    exact ⟨Nat.le_refl _, Nat.le_refl _⟩
  | n + 1, m, u, row, x, h => by
    rw [LV, List.mem_flatMap] at h
    obtain ⟨l, hl, hx⟩ := h
    rw [List.mem_range'_1] at hl
    by_cases c : okL ii bb row m l m = true
    · rw [if_pos c] at hx
      have := LV_b n _ _ _ _ hx
      split at this <;> omega
    · rw [if_neg c] at hx
      exact absurd hx (by simp)
theorem LV_ne : ∀ (n m u : Nat) (row : Nat → Nat), (∀ i, i < m → row i < u) → ∃ x, x ∈ LV ii bb n m u row
  | 0, m, u, row, _ => ⟨(u, row), by rw [LV]; exact List.mem_singleton.mpr rfl⟩
  | n + 1, m, u, row, h => by
    obtain ⟨x, hx⟩ := LV_ne n (m + 1) (u + 1) (uN row m u) (fun i hi => by
      unfold uN
      split
      · omega
      · have := h i (by omega); omega)
    refine ⟨x, ?_⟩
    rw [LV, List.mem_flatMap]
    refine ⟨u, List.mem_range'_1.mpr ⟨by omega, by omega⟩, ?_⟩
    rw [if_pos (okL_new m h), if_pos (by omega)]
    exact hx
def stp (a : Option (Nat × (Nat → Nat))) (x : Nat × (Nat → Nat)) : Option (Nat × (Nat → Nat)) := match a with
  | none => some x
  | some y => if x.1 < y.1 then some x else some y
theorem fold_id {y : Nat × (Nat → Nat)} : ∀ L : List (Nat × (Nat → Nat)), (∀ x, x ∈ L → y.1 ≤ x.1) → L.foldl stp (some y) = some y
  | [], _ => rfl
  | x :: L, h => by
    rw [List.foldl_cons]
    have : stp (some y) x = some y := by
      show (if x.1 < y.1 then some x else some y) = some y
      rw [if_neg (by have := h x (by simp); omega)]
    rw [this]
    exact fold_id L (fun z hz => h z (List.mem_cons_of_mem _ hz))
theorem fold_min : ∀ (L : List (Nat × (Nat → Nat))) (a : Nat × (Nat → Nat)), ∃ x, L.foldl stp (some a) = some x ∧ x ∈ a :: L ∧ (∀ y, y ∈ a :: L → x.1 ≤ y.1) ∧ (a :: L).find? (fun y => decide (y.1 ≤ x.1)) = some x
  | [], a => ⟨a, rfl, by simp, fun y hy => by rw [List.mem_singleton] at hy; subst hy; exact Nat.le_refl _, by simp⟩
  | b :: L, a => by
    rw [List.foldl_cons]
    by_cases c : b.1 < a.1
    · have e : stp (some a) b = some b := by
        show (if b.1 < a.1 then some b else some a) = some b
        rw [if_pos c]
      rw [e]
      obtain ⟨x, h1, h2, h3, h4⟩ := fold_min L b
      have hxb := h3 b (by simp)
      refine ⟨x, h1, List.mem_cons_of_mem _ h2, fun y hy => ?_, ?_⟩
      · rcases List.mem_cons.mp hy with rfl | hy
        · omega
        · exact h3 y hy
      · rw [List.find?_cons_of_neg (by simp; omega)]
        exact h4
    · have e : stp (some a) b = some a := by
        show (if b.1 < a.1 then some b else some a) = some a
        rw [if_neg c]
      rw [e]
      obtain ⟨x, h1, h2, h3, h4⟩ := fold_min L a
      have hxa := h3 a (by simp)
      refine ⟨x, h1, ?_, fun y hy => ?_, ?_⟩
      · rcases List.mem_cons.mp h2 with rfl | h2
        · simp
        · exact List.mem_cons_of_mem _ (List.mem_cons_of_mem _ h2)
      · rcases List.mem_cons.mp hy with rfl | hy
        · exact hxa
        · rcases List.mem_cons.mp hy with rfl | hy
          · omega
          · exact h3 y (List.mem_cons_of_mem _ hy)
      · by_cases ca : a.1 ≤ x.1
        · rw [List.find?_cons_of_pos (by simp [ca])] at h4 ⊢
          exact h4
        · rw [List.find?_cons_of_neg (by simp; omega)] at h4
          rw [List.find?_cons_of_neg (by simp; omega), List.find?_cons_of_neg (by simp; omega)]
          exact h4
theorem fold_best {L : List (Nat × (Nat → Nat))} (h : ∃ x, x ∈ L) : ∃ x, L.foldl stp none = some x ∧ x ∈ L ∧ (∀ y, y ∈ L → x.1 ≤ y.1) ∧ L.find? (fun y => decide (y.1 ≤ x.1)) = some x := by
  cases L with
  | nil => obtain ⟨x, hx⟩ := h; exact absurd hx (by simp)
  | cons a L => exact fold_min L a
/-! the class deals -/
def UB (nm : Nat) (ii bb : Nat → Int32) (S : St) : Prop := ∀ i, i < nm → S.2.2 0 i = ii i ∧ S.2.2 1 i = bb i
theorem UB.kept {nm : Nat} {is rs : List Nat} {S S1 : St} (h : UB nm ii bb S) (hk : Kp is rs S S1) (h0 : 0 ∉ rs) (h1 : 1 ∉ rs) : UB nm ii bb S1 := fun i hi => by
  rw [hk.2 0 h0, hk.2 1 h1]; exact h i hi
theorem c_canMeet {nm a b : Nat} {S : St} {post : Int32 → St → Prop} (hnm : nm ≤ 6) (hU : UB nm ii bb S) (ha : a < nm) (hb : b < nm) (k1 : un ii bb a b = false → post 1 S) (k0 : un ii bb a b = true → post 0 S) : PX3_canMeet (nI a) (nI b) S post := by
  have ia : vp_in (nI a) 6 := vp_in_nI (by omega) (by omega)
  have ib : vp_in (nI b) 6 := vp_in_nI (by omega) (by omega)
  unfold PX3_canMeet
  rw [nI_clamp (by omega), nI_clamp (by omega), (hU a ha).1, (hU a ha).2, (hU b hb).1, (hU b hb).2]
  exact ⟨ia, ib, fun c1 => ⟨ib, ia, fun c2 => k1 (by simp [un, c1, c2]), fun c2 => k0 (by simp [un, c2])⟩, fun c1 => k0 (by simp [un, c1])⟩
theorem m_unlike {nm a b : Nat} {S : St} {post : Int32 → St → Prop} (hnm : nm ≤ 6) (hU : UB nm ii bb S) (ha : a < nm) (hb : b < nm) (k0 : un ii bb a b = false → post 0 S) (k1 : un ii bb a b = true → post 1 S) : PX6_isUnlike (nI a) (nI b) S post := by
  have ia : vp_in (nI a) 6 := vp_in_nI (by omega) (by omega)
  have ib : vp_in (nI b) 6 := vp_in_nI (by omega) (by omega)
  unfold PX6_isUnlike
  rw [nI_clamp (by omega), nI_clamp (by omega), (hU a ha).1, (hU a ha).2, (hU b hb).1, (hU b hb).2]
  exact ⟨ia, ib, fun c1 => ⟨ib, ia, fun c2 => k0 (by simp [un, c1, c2]), fun c2 => k1 (by simp [un, c2])⟩, fun c1 => k1 (by simp [un, c1])⟩
theorem c_canTake {nm m l : Nat} {row : Nat → Nat} {S : St} {post : Int32 → St → Prop} (hnm : nm ≤ 6) (hU : UB nm ii bb S) (hm : m < nm) (hl : l ≤ 6) (hr : ∀ k, k < m → S.2.2 2 k = nI (row k) ∧ row k ≤ 6)
    (k1 : okL ii bb row m l m = true → post 1 S) (k0 : okL ii bb row m l m = false → post 0 S) : ∃ n, PX3_canTake n (nI m) (nI l) S post := by
  have key : ∀ r k, k + r = m → okL ii bb row m l k = true → LX3_canTake post (r + 1) (nI m) (nI l) (nI k) S := by
    intro r
    induction r with
    | zero =>
      intro k hk ho
      have : k = m := by omega
      subst this
      exact b_t (nI_le (Nat.le_refl _) (by omega)) (k1 ho)
    | succ r ih =>
      intro k hk ho
      have hci : (nI k).toNatClampNeg = k := nI_clamp (by omega)
      refine b_f (fun e => absurd ((nI_leI (by omega) (by omega)).mp e) (by omega)) ⟨vp_in_nI (by omega) (by omega), fun c => ?_, fun c x ex => ?_⟩
      · rw [hci, (hr k (by omega)).1] at c
        have hrl : row k = l := nI_inj (by have := (hr k (by omega)).2; omega) (by omega) c
        refine c_canMeet hnm hU hm (by omega) (fun hu => b_1 (fun x ex => ?_)) (fun hu => b_0 (k0 (okL_f (k := k + 1) ?_ m (by omega))))
        · subst ex
          rw [nI_1]
          rw [un_s] at hu
          exact ih (k + 1) (by omega) (by rw [okL, ho, hu]; simp)
        · rw [un_s] at hu
          rw [okL, ho, hu]
          simp [hrl]
      · subst ex
        rw [nI_1]
        refine ih (k + 1) (by omega) ?_
        have : row k ≠ l := fun e => c (by rw [hci, (hr k (by omega)).1, e])
        rw [okL, ho]
        simp [this]
  exact ⟨m + 1, key m 0 (by omega) rfl⟩
theorem c_dealFrom {nm most : Nat} (hnm : nm ≤ 6) (hmost : most ≤ 6) : ∀ (n d : Nat), n < d → ∀ (m u : Nat) (row : Nat → Nat) (S : St) (post : Int32 → St → Prop), m + n = nm → u ≤ m → u ≤ most → S.1 0 = nI nm → UB nm ii bb S → (∀ k, k < m → S.2.2 2 k = nI (row k) ∧ row k ≤ 6) →
    ((LV ii bb n m u row).find? (fun y => decide (y.1 ≤ most)) = none → ∀ S1, Kp [] [2] S S1 → (∀ k, k < m → S1.2.2 2 k = nI (row k)) → post 0 S1) →
    (∀ x, (LV ii bb n m u row).find? (fun y => decide (y.1 ≤ most)) = some x → ∀ S1, Kp [] [2] S S1 → (∀ k, k < nm → S1.2.2 2 k = nI (x.2 k)) → post 1 S1) → PX3_dealFrom d (nI m) (nI u) (nI most) S post := by
  intro n
  induction n with
  | zero =>
    intro d hd m u row S post hmn hum humo h0 hU hr k0 k1
    obtain ⟨d, rfl⟩ : ∃ e, d = e + 1 := ⟨d - 1, by omega⟩
    have : m = nm := by omega
    subst this
    refine ⟨0, b_f (by rw [h0]; exact fun e => absurd ((nI_ltI (by omega) (by omega)).mp e) (by omega)) (k1 (u, row) ?_ S Kp.rf (fun k hk => (hr k hk).1))⟩
    rw [LV, List.find?_cons_of_pos (by simp [humo])]
  | succ n ih =>
    intro d hd m u row S post hmn hum humo h0 hU hr k0 k1
    obtain ⟨d, rfl⟩ : ∃ e, d = e + 1 := ⟨d - 1, by omega⟩
    have key : ∀ r l, l + r = u + 1 → ∀ S', Kp [] [2] S S' → (∀ k, k < m → S'.2.2 2 k = nI (row k)) → ((List.range' l r).flatMap (fun l => if okL ii bb row m l m = true then LV ii bb n (m + 1) (if u < l + 1 then l + 1 else u) (uN row m l) else [])).find? (fun y => decide (y.1 ≤ most)) = (LV ii bb (n + 1) m u row).find? (fun y => decide (y.1 ≤ most)) → LX3_dealFrom (PX3_dealFrom d) post (r + 1) (nI m) (nI u) (nI most) (nI l) S' := by
      intro r
      induction r with
      | zero =>
        intro l hl S' hK hr' hf
        refine b_t (nI_lt (by omega) (by omega)) (k0 ?_ S' hK hr')
        rw [← hf]; rfl
      | succ r ihr =>
        intro l hl S' hK hr' hf
        refine b_f (fun e => absurd ((nI_ltI (by omega) (by omega)).mp e) (by omega)) ⟨fun c => k0 ?_ S' hK hr', fun c => ?_⟩
        · rw [← hf, List.find?_eq_none]
          intro x hx
          rw [List.mem_flatMap] at hx
          obtain ⟨l', hl', hx⟩ := hx
          rw [List.mem_range'_1] at hl'
          have hml : most ≤ l := (nI_leI (by omega) (by omega)).mp c
          by_cases c2 : okL ii bb row m l' m = true
          · rw [if_pos c2] at hx
            have := (LV_b _ _ _ _ _ hx).1
            simp only [decide_eq_true_eq]
            split at this <;> omega
          · rw [if_neg c2] at hx
            exact absurd hx (by simp)
        · have hlm : l < most := by
            rcases Nat.lt_or_ge l most with h9 | h9
            · exact h9
            · exact absurd (nI_le h9 (by omega)) c
          rw [List.range'_succ, List.flatMap_cons, List.find?_append] at hf
          refine c_canTake hnm (hU.kept hK (by decide) (by decide)) (by omega) (by omega) (fun k hk => ⟨hr' k hk, (hr k hk).2⟩) (fun ho => b_1 ⟨vp_in_nI (by omega) (by omega), fun S10 e10 => ?_⟩) (fun ho => b_0 (fun x ex => ?_))
          · rw [if_pos ho] at hf
            have hmax : (if nI u < nI l + 1 then nI l + 1 else nI u) = nI (if u < l + 1 then l + 1 else u) := by
              rw [nI_1]
              by_cases c3 : u < l + 1
              · rw [if_pos c3, if_pos (nI_lt c3 (by omega))]
              · rw [if_neg c3, if_neg (fun e => c3 ((nI_ltI (by omega) (by omega)).mp e))]
            rw [hmax, nI_1]
            rw [nI_clamp (by omega)] at e10
            have hK10 : Kp [] [2] S S10 := by rw [e10]; exact hK.sR (by decide) _
            have hr10 : ∀ k, k < m + 1 → S10.2.2 2 k = nI (uN row m l k) ∧ uN row m l k ≤ 6 := fun k hk => by
              rw [e10, sR_g]
              unfold uN
              by_cases hkm : k = m
              · subst hkm
                rw [upd_g, if_pos rfl]
                exact ⟨rfl, by omega⟩
              · rw [upd_n _ _ _ hkm, if_neg hkm]
                exact ⟨hr' k (by omega), (hr k (by omega)).2⟩
            refine ih d (by omega) (m + 1) _ _ S10 _ (by omega) (by split <;> omega) (by split <;> omega) (by rw [hK10.1 0 (by decide), h0]) (hU.kept hK10 (by decide) (by decide)) hr10 (fun hn S11 hK11 hr11 => b_0 (fun x ex => ?_)) (fun x hx S11 hK11 hr11 => b_1 (k1 x ?_ S11 (hK10.tr hK11) hr11))
            · subst ex
              rw [nI_1]
              refine ihr (l + 1) (by omega) S11 (hK10.tr hK11) (fun k hk => ?_) ?_
              · rw [hr11 k (by omega)]
                unfold uN
                rw [if_neg (by omega)]
              · rw [hn, Option.none_or] at hf
                exact hf
            · rw [← hf, hx, Option.some_or]
          · subst ex
            rw [nI_1]
            refine ihr (l + 1) (by omega) S' hK hr' ?_
            rw [if_neg (by rw [ho]; decide)] at hf
            exact hf
    exact ⟨u + 2, b_t (by rw [h0]; exact nI_lt (by omega) (by omega)) (key (u + 1) 0 (by omega) S Kp.rf (fun k hk => (hr k hk).1) rfl)⟩
end LADLE2
