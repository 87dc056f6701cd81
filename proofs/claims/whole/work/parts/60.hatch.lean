/-! the line at the hatch: who comes, who goes, who waits -/
def zA (a : Nat → Nat) : Nat → Nat
  | 0 => 0
  | t + 1 => zA a t + a t
def zM (f : Nat → Nat) : Nat → Nat
  | 0 => 0
  | t + 1 => if zM f t < f t then f t else zM f t
/-- how many are gone before a minute -/
def zD (a : Nat → Nat) (s : Nat) : Nat → Nat
  | 0 => 0
  | b + 1 => if zA a (b + 1) ≤ zD a s b + s then zA a (b + 1) else zD a s b + s
/-- the minute in which one came -/
def zC (a : Nat → Nat) (k : Nat) : Nat → Nat
  | 0 => 0
  | n + 1 => if zA a (n + 1) ≤ k then n + 1 else zC a k n
def zW (a : Nat → Nat) (s k : Nat) : Nat := (k - zD a s (zC a k 60)) / s
def zL (a : Nat → Nat) (s t : Nat) : Nat := zA a t - zD a s t
def zE (a : Nat → Nat) (s k : Nat) : Int32 := if k = 0 then -1 else nI (zC a (k - 1) 60 + zW a s (k - 1))
def zF (a : Nat → Nat) (s N nt : Nat) : Nat → Int32
  | 0 => nI (zM (zW a s) N)
  | 1 => nI (zA (zW a s) N)
  | 2 => zE a s N
  | _ => nI (zM (fun i => zL a s (i + 1)) nt)
def zI (a : Nat → Nat) (nt : Nat) : Prop := nt ≤ 60 ∧ (∀ t, a t ≤ 100) ∧ ∀ t, nt ≤ t → a t = 0
theorem zA_mono {a : Nat → Nat} {t : Nat} : ∀ {u : Nat}, t ≤ u → zA a t ≤ zA a u
  | 0, h => by
    have : t = 0 := by omega
    subst this
    exact Nat.le_refl _
  | u + 1, h => by
    have e : zA a (u + 1) = zA a u + a u := rfl
    rcases Nat.lt_or_ge u t with h1 | h1
    · have : t = u + 1 := by omega
      subst this
      exact Nat.le_refl _
    · have := zA_mono (a := a) h1
      omega
theorem zA_100 {a : Nat → Nat} (h : ∀ t, a t ≤ 100) : ∀ t, zA a t ≤ 100 * t
  | 0 => Nat.le_refl _
  | t + 1 => by
    have e : zA a (t + 1) = zA a t + a t := rfl
    have := zA_100 h t
    have := h t
    omega
theorem zA_end {a : Nat → Nat} {nt : Nat} (h : ∀ t, nt ≤ t → a t = 0) : ∀ r, zA a (nt + r) = zA a nt
  | 0 => rfl
  | r + 1 => by
    have e : zA a (nt + (r + 1)) = zA a (nt + r) + a (nt + r) := rfl
    rw [e, zA_end h r, h (nt + r) (by omega), Nat.add_zero]
theorem zA_end' {a : Nat → Nat} {nt : Nat} (hI : zI a nt) {t : Nat} (h : nt ≤ t) : zA a t = zA a nt := by
  have := zA_end hI.2.2 (t - nt)
  rwa [show nt + (t - nt) = t by omega] at this
theorem zA_bd {a : Nat → Nat} {nt : Nat} (hI : zI a nt) (t : Nat) : zA a t ≤ zA a nt ∧ zA a nt ≤ 6000 := by
  have h1 := zA_100 hI.2.1 nt
  have h2 := hI.1
  refine ⟨?_, by omega⟩
  rcases Nat.lt_or_ge t nt with h | h
  · exact zA_mono (by omega)
  · exact Nat.le_of_eq (zA_end' hI h)
theorem zD_le {a : Nat → Nat} {s : Nat} : ∀ b, zD a s b ≤ zA a b
  | 0 => Nat.le_refl _
  | b + 1 => by
    have e : zD a s (b + 1) = if zA a (b + 1) ≤ zD a s b + s then zA a (b + 1) else zD a s b + s := rfl
    by_cases c : zA a (b + 1) ≤ zD a s b + s
    · rw [e, if_pos c]; exact Nat.le_refl _
    · rw [e, if_neg c]; omega
theorem zD_step {a : Nat → Nat} {s b : Nat} : zD a s b ≤ zD a s (b + 1) ∧ zD a s (b + 1) ≤ zD a s b + s := by
  have e : zD a s (b + 1) = if zA a (b + 1) ≤ zD a s b + s then zA a (b + 1) else zD a s b + s := rfl
  have h := zD_le (a := a) (s := s) b
  have h1 : zA a (b + 1) = zA a b + a b := rfl
  by_cases c : zA a (b + 1) ≤ zD a s b + s
  · rw [if_pos c] at e; omega
  · rw [if_neg c] at e; omega
theorem zD_mono {a : Nat → Nat} {s t : Nat} : ∀ {u : Nat}, t ≤ u → zD a s t ≤ zD a s u
  | 0, h => by
    have : t = 0 := by omega
    subst this
    exact Nat.le_refl _
  | u + 1, h => by
    have e := zD_step (a := a) (s := s) (b := u)
    rcases Nat.lt_or_ge u t with h1 | h1
    · have : t = u + 1 := by omega
      subst this
      exact Nat.le_refl _
    · have := zD_mono (a := a) (s := s) h1
      omega
theorem zD_ex {a : Nat → Nat} {s t k : Nat} (hk : k < zA a (t + 1)) : ∀ j, zD a s (t + j) ≤ k → zD a s (t + j) = zD a s t + j * s
  | 0, _ => by rw [Nat.zero_mul]; rfl
  | j + 1, h => by
    have e : zD a s (t + (j + 1)) = if zA a (t + j + 1) ≤ zD a s (t + j) + s then zA a (t + j + 1) else zD a s (t + j) + s := rfl
    have st : zD a s (t + j) ≤ zD a s (t + (j + 1)) := (zD_step (a := a) (s := s) (b := t + j)).1
    have ih := zD_ex (s := s) hk j (by omega)
    have hm : zA a (t + 1) ≤ zA a (t + j + 1) := zA_mono (by omega)
    rw [Nat.add_mul, Nat.one_mul]
    by_cases c : zA a (t + j + 1) ≤ zD a s (t + j) + s
    · rw [if_pos c] at e; omega
    · rw [if_neg c] at e; omega
theorem zC_eq {a : Nat → Nat} {t k : Nat} (h1 : zA a t ≤ k) (h2 : k < zA a (t + 1)) : ∀ n, t ≤ n → zC a k n = t
  | 0, h => by
    have : t = 0 := by omega
    subst this
    rfl
  | n + 1, h => by
    have e : zC a k (n + 1) = if zA a (n + 1) ≤ k then n + 1 else zC a k n := rfl
    rcases Nat.lt_or_ge n t with c | c
    · have : t = n + 1 := by omega
      subst this
      rw [e, if_pos h1]
    · have := zA_mono (a := a) (show t + 1 ≤ n + 1 by omega)
      rw [e, if_neg (by omega)]
      exact zC_eq h1 h2 n c
theorem zW_go {a : Nat → Nat} {s b t k : Nat} (ht : t < 60) (h1 : zA a t ≤ k) (h2 : k < zA a (t + 1)) (h3 : zD a s b ≤ k) (h4 : k < zD a s (b + 1)) : t ≤ b ∧ zC a k 60 = t ∧ zW a s k = b - t := by
  have htb : t ≤ b := by
    rcases Nat.lt_or_ge b t with h | h
    · have g1 := zD_le (a := a) (s := s) (b + 1)
      have g2 := zA_mono (a := a) (show b + 1 ≤ t from h)
      omega
    · exact h
  have hc : zC a k 60 = t := zC_eq h1 h2 60 (by omega)
  obtain ⟨j, rfl⟩ : ∃ j, b = t + j := ⟨b - t, by omega⟩
  have e := zD_ex (a := a) (s := s) h2 j h3
  have st := (zD_step (a := a) (s := s) (b := t + j)).2
  refine ⟨htb, hc, ?_⟩
  unfold zW
  rw [hc, show t + j - t = j by omega]
  refine Nat.div_eq_of_lt_le (by omega) ?_
  rw [Nat.add_mul, Nat.one_mul]
  omega
/-- sums and maxima over a group -/
theorem zA_const {f : Nat → Nat} {c k : Nat} : ∀ n, (∀ i, k ≤ i → i < k + n → f i = c) → zA f (k + n) = zA f k + n * c
  | 0, _ => by rw [Nat.zero_mul]; rfl
  | n + 1, h => by
    have ih := zA_const (f := f) (c := c) (k := k) n (fun i h1 h2 => h i h1 (by omega))
    have e : zA f (k + (n + 1)) = zA f (k + n) + f (k + n) := rfl
    rw [e, ih, h (k + n) (by omega) (by omega), Nat.add_mul, Nat.one_mul, Nat.add_assoc]
theorem zM_up {f : Nat → Nat} {B : Nat} : ∀ n, (∀ i, i < n → f i ≤ B) → zM f n ≤ B
  | 0, _ => Nat.zero_le _
  | n + 1, h => by
    have e : zM f (n + 1) = if zM f n < f n then f n else zM f n := rfl
    have ih := zM_up (f := f) (B := B) n (fun i hi => h i (by omega))
    have := h n (by omega)
    by_cases c : zM f n < f n
    · rw [e, if_pos c]; exact this
    · rw [e, if_neg c]; exact ih
theorem zM_st {f : Nat → Nat} {n : Nat} : zM f n ≤ zM f (n + 1) ∧ f n ≤ zM f (n + 1) := by
  have e : zM f (n + 1) = if zM f n < f n then f n else zM f n := rfl
  by_cases c : zM f n < f n
  · rw [if_pos c] at e; omega
  · rw [if_neg c] at e; omega
theorem zM_in {f : Nat → Nat} {i : Nat} : ∀ {n : Nat}, i < n → f i ≤ zM f n
  | 0, h => absurd h (by omega)
  | n + 1, h => by
    have e := zM_st (f := f) (n := n)
    rcases Nat.lt_or_ge i n with c | c
    · have := zM_in (f := f) c
      omega
    · have : i = n := by omega
      subst this
      exact e.2
theorem zM_g1 {f : Nat → Nat} {k c : Nat} : ∀ n, (∀ i, k ≤ i → i < k + n → f i ≤ c) → zM f (k + n) ≤ (if zM f k < c then c else zM f k) ∧ zM f k ≤ zM f (k + n)
  | 0, _ => by
    refine ⟨?_, Nat.le_refl _⟩
    show zM f k ≤ _
    split <;> omega
  | n + 1, h => by
    obtain ⟨i1, i2⟩ := zM_g1 (f := f) (k := k) (c := c) n (fun i h1 h2 => h i h1 (by omega))
    have e : zM f (k + (n + 1)) = if zM f (k + n) < f (k + n) then f (k + n) else zM f (k + n) := rfl
    have h9 := h (k + n) (by omega) (by omega)
    by_cases d : zM f k < c
    · rw [if_pos d] at i1 ⊢
      by_cases g : zM f (k + n) < f (k + n)
      · rw [if_pos g] at e; omega
      · rw [if_neg g] at e; omega
    · rw [if_neg d] at i1 ⊢
      by_cases g : zM f (k + n) < f (k + n)
      · rw [if_pos g] at e; omega
      · rw [if_neg g] at e; omega
theorem zM_grp {f : Nat → Nat} {k n c : Nat} (hn : 0 < n) (h : ∀ i, k ≤ i → i < k + n → f i ≤ c) (hl : f (k + (n - 1)) = c) : zM f (k + n) = if zM f k < c then c else zM f k := by
  obtain ⟨g1, g2⟩ := zM_g1 (f := f) (k := k) (c := c) n h
  have g3 := zM_in (f := f) (show k + (n - 1) < k + n by omega)
  rw [hl] at g3
  by_cases d : zM f k < c
  · rw [if_pos d] at g1 ⊢; omega
  · rw [if_neg d] at g1 ⊢; omega
/-- a group of those who came in one minute -/
theorem zW_in {a : Nat → Nat} {s t r : Nat} (ht : t < 60) (hr : r < a t) : zC a (zA a t + r) 60 = t ∧ zW a s (zA a t + r) = (zL a s t + r) / s := by
  have e : zA a (t + 1) = zA a t + a t := rfl
  have hc : zC a (zA a t + r) 60 = t := zC_eq (by omega) (by omega) 60 (by omega)
  have h := zD_le (a := a) (s := s) t
  refine ⟨hc, ?_⟩
  unfold zW zL
  rw [hc, show zA a t + r - zD a s t = zA a t - zD a s t + r by omega]
theorem zG_sum {a : Nat → Nat} {s t : Nat} (ht : t < 60) : ∀ r, r ≤ a t → zA (zW a s) (zA a t + r) + zA (fun p => p / s) (zL a s t) = zA (zW a s) (zA a t) + zA (fun p => p / s) (zL a s t + r)
  | 0, _ => rfl
  | r + 1, h => by
    have ih := zG_sum (a := a) (s := s) ht r (by omega)
    have e1 : zA (zW a s) (zA a t + (r + 1)) = zA (zW a s) (zA a t + r) + zW a s (zA a t + r) := rfl
    have e2 : zA (fun p => p / s) (zL a s t + (r + 1)) = zA (fun p => p / s) (zL a s t + r) + (zL a s t + r) / s := rfl
    have e3 := (zW_in (a := a) (s := s) ht (show r < a t by omega)).2
    omega
theorem zG_max {a : Nat → Nat} {s t : Nat} (ht : t < 60) (ha : 0 < a t) : zM (zW a s) (zA a t + a t) = if zM (zW a s) (zA a t) < (zL a s t + (a t - 1)) / s then (zL a s t + (a t - 1)) / s else zM (zW a s) (zA a t) := by
  refine zM_grp ha (fun i h1 h2 => ?_) (zW_in ht (by omega)).2
  have := (zW_in (a := a) (s := s) ht (show i - zA a t < a t by omega)).2
  rw [show zA a t + (i - zA a t) = i by omega] at this
  rw [this]
  exact Nat.div_le_div_right (by omega)
theorem zL_step {a : Nat → Nat} {s t : Nat} : zL a s (t + 1) = zL a s t + a t - s := by
  have e : zD a s (t + 1) = if zA a (t + 1) ≤ zD a s t + s then zA a (t + 1) else zD a s t + s := rfl
  have h1 : zA a (t + 1) = zA a t + a t := rfl
  have h := zD_le (a := a) (s := s) t
  unfold zL
  by_cases c : zA a (t + 1) ≤ zD a s t + s
  · rw [if_pos c] at e; omega
  · rw [if_neg c] at e; omega
theorem zD_go {a : Nat → Nat} {s t : Nat} : zD a s (t + 1) = zD a s t + (if s ≤ zL a s t + a t then s else zL a s t + a t) := by
  have e : zD a s (t + 1) = if zA a (t + 1) ≤ zD a s t + s then zA a (t + 1) else zD a s t + s := rfl
  have h1 : zA a (t + 1) = zA a t + a t := rfl
  have h := zD_le (a := a) (s := s) t
  unfold zL
  by_cases c : zA a (t + 1) ≤ zD a s t + s
  · rw [if_pos c] at e
    by_cases g : s ≤ zA a t - zD a s t + a t
    · rw [if_pos g]; omega
    · rw [if_neg g]; omega
  · rw [if_neg c] at e
    by_cases g : s ≤ zA a t - zD a s t + a t
    · rw [if_pos g]; omega
    · rw [if_neg g]; omega
/-- behind the last minute the line only gets shorter -/
theorem zL_end {a : Nat → Nat} {s nt : Nat} (hI : zI a nt) : ∀ r, zL a s (nt + r) ≤ zM (fun i => zL a s (i + 1)) nt
  | 0 => by
    rcases Nat.eq_zero_or_pos nt with h | h
    · subst h
      exact Nat.le_refl _
    · have := zM_in (f := fun i => zL a s (i + 1)) (show nt - 1 < nt by omega)
      rw [show nt - 1 + 1 = nt by omega] at this
      exact this
  | r + 1 => by
    have ih := zL_end (s := s) hI r
    have e : zL a s (nt + (r + 1)) = zL a s (nt + r) + a (nt + r) - s := zL_step
    have := hI.2.2 (nt + r) (by omega)
    omega
theorem zM_end {a : Nat → Nat} {s nt : Nat} (hI : zI a nt) : ∀ r, zM (fun i => zL a s (i + 1)) (nt + r) = zM (fun i => zL a s (i + 1)) nt
  | 0 => rfl
  | r + 1 => by
    have e : zM (fun i => zL a s (i + 1)) (nt + (r + 1)) = if zM (fun i => zL a s (i + 1)) (nt + r) < zL a s (nt + r + 1) then zL a s (nt + r + 1) else zM (fun i => zL a s (i + 1)) (nt + r) := rfl
    have h := zL_end (s := s) hI (r + 1)
    rw [e, zM_end (s := s) hI r, if_neg (by
      have : nt + (r + 1) = nt + r + 1 := rfl
      rw [this] at h
      omega)]
/-- with 100 nobody waits -/
theorem zL_100 {a : Nat → Nat} {nt : Nat} (hI : zI a nt) : ∀ t, zL a 100 t = 0
  | 0 => rfl
  | t + 1 => by
    have := hI.2.1 t
    rw [zL_step, zL_100 hI t]
    omega
theorem zM_100 {a : Nat → Nat} {nt : Nat} (hI : zI a nt) : ∀ t, t ≤ 60 → zM (zW a 100) (zA a t) = 0
  | 0, _ => rfl
  | t + 1, h => by
    have ih := zM_100 hI t (by omega)
    have hb := hI.2.1 t
    have e : zA a (t + 1) = zA a t + a t := rfl
    rw [e]
    rcases Nat.eq_zero_or_pos (a t) with h0 | h0
    · rw [h0]; exact ih
    · rw [zG_max (by omega) h0, ih, zL_100 hI t, if_neg (by rw [Nat.div_eq_of_lt (by omega)]; omega)]
/-- the sum of the waits of the first ones in a line -/
theorem tri (f : Nat) : (f + 1) * f / 2 = f * (f - 1) / 2 + f := by
  cases f with
  | zero => rfl
  | succ g =>
    rw [show (g + 1 + 1) * (g + 1) = (g + 1) * (g + 1 - 1) + (g + 1) * 2 by
      rw [show g + 1 - 1 = g by omega, Nat.mul_comm (g + 1 + 1) (g + 1), ← Nat.mul_add], Nat.add_mul_div_right _ _ (by omega)]
theorem zT {s : Nat} (hs : 0 < s) : ∀ n, zA (fun p => p / s) n = s * (n / s * (n / s - 1) / 2) + (n - n / s * s) * (n / s)
  | 0 => by
    rw [Nat.zero_div]
    simp [zA]
  | n + 1 => by
    have ih := zT hs n
    have e : zA (fun p => p / s) (n + 1) = zA (fun p => p / s) n + n / s := rfl
    have h1 := Nat.div_mul_le_self n s
    have h2 := Nat.lt_div_mul_add hs (a := n)
    rw [e, ih]
    generalize n / s = f at h1 h2 ⊢
    rcases Nat.lt_or_ge (n + 1) (f * s + s) with c | c
    · have e1 : (n + 1) / s = f := Nat.div_eq_of_lt_le (by omega) (by rw [Nat.add_mul, Nat.one_mul]; exact c)
      rw [e1, show n + 1 - f * s = n - f * s + 1 by omega, Nat.add_mul (n - f * s) 1 f, Nat.one_mul, Nat.add_assoc]
    · have e1 : (n + 1) / s = f + 1 := Nat.div_eq_of_lt_le (by rw [Nat.add_mul, Nat.one_mul]; exact c) (by rw [Nat.add_mul, Nat.add_mul, Nat.one_mul]; omega)
      rw [e1, show n + 1 - (f + 1) * s = 0 by rw [Nat.add_mul, Nat.one_mul]; omega, Nat.zero_mul, Nat.add_zero, show f + 1 - 1 = f by omega, tri, Nat.mul_add, Nat.add_assoc, show n - f * s = s - 1 by omega]
      congr 1
      rw [Nat.sub_mul, Nat.one_mul]
      have : 1 * f ≤ s * f := Nat.mul_le_mul (by omega) (Nat.le_refl f)
      omega
