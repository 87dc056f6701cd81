/-! sets of pots, and which is better -/
def qC (x : Nat → Nat) : Nat := 2197 * x 0 + 169 * x 1 + 13 * x 2 + x 3
def qK (ns : Nat) (x : Nat → Nat) : Prop := x 0 + x 1 + x 2 + x 3 ≤ 12 ∧ ∀ i, ns ≤ i → i < 4 → x i = 0
def qB (V P N : (Nat → Nat) → Nat) (x y : Nat → Nat) : Prop := V x < V y ∨ (V x = V y ∧ (P x < P y ∨ (P x = P y ∧ (N x < N y ∨ (N x = N y ∧ qC y ≤ qC x)))))
/-- what depends on the four numbers alone -/
def qE (V : (Nat → Nat) → Nat) : Prop := ∀ x y : Nat → Nat, (∀ i, i < 4 → x i = y i) → V x = V y
def qU (x : Nat → Nat) (k v : Nat) : Nat → Nat := fun i => if i = k then v else x i
def pw : Nat → Nat
  | 0 => 28561
  | 1 => 2197
  | 2 => 169
  | 3 => 13
  | _ => 1
theorem qB_rf {V P N : (Nat → Nat) → Nat} {x : Nat → Nat} : qB V P N x x := Or.inr ⟨rfl, Or.inr ⟨rfl, Or.inr ⟨rfl, Nat.le_refl _⟩⟩⟩
theorem qB_tr {V P N : (Nat → Nat) → Nat} {x y z : Nat → Nat} (h : qB V P N x y) (h2 : qB V P N y z) : qB V P N x z := by
  unfold qB at h h2 ⊢
  omega
theorem qB_as {V P N : (Nat → Nat) → Nat} {x y : Nat → Nat} (h : qB V P N x y) (h2 : qB V P N y x) : V x = V y ∧ P x = P y ∧ N x = N y ∧ qC x = qC y := by
  unfold qB at h h2
  omega
theorem q4 {x y : Nat → Nat} (h : x 0 = y 0 ∧ x 1 = y 1 ∧ x 2 = y 2 ∧ x 3 = y 3) : ∀ i, i < 4 → x i = y i := by
  intro i hi
  have h4 : i = 0 ∨ i = 1 ∨ i = 2 ∨ i = 3 := by omega
  rcases h4 with rfl | rfl | rfl | rfl
  · exact h.1
  · exact h.2.1
  · exact h.2.2.1
  · exact h.2.2.2
theorem qC_inj {x y : Nat → Nat} (hx : x 0 + x 1 + x 2 + x 3 ≤ 12) (hy : y 0 + y 1 + y 2 + y 3 ≤ 12) (h : qC x = qC y) : ∀ i, i < 4 → x i = y i := by
  unfold qC at h
  have h0 : x 0 = y 0 := by omega
  have h1 : x 1 = y 1 := by omega
  have h2 : x 2 = y 2 := by omega
  exact q4 ⟨h0, h1, h2, by omega⟩
/-- the sets are gone through from the least on: the carry -/
theorem q_carry {x y : Nat → Nat} {k : Nat} (hk : k < 4) (hz : ∀ i, k < i → i < 4 → x i = 0) (hs : x 0 + x 1 + x 2 + x 3 = 12) (hy : y 0 + y 1 + y 2 + y 3 ≤ 12) (h : qC y < qC (qU x k 0) + pw k) : qC y < qC x + pw (k + 1) := by
  have h4 : k = 0 ∨ k = 1 ∨ k = 2 ∨ k = 3 := by omega
  rcases h4 with rfl | rfl | rfl | rfl
  · have z1 := hz 1 (by omega) (by omega)
    have z2 := hz 2 (by omega) (by omega)
    have z3 := hz 3 (by omega) (by omega)
    show 2197 * y 0 + 169 * y 1 + 13 * y 2 + y 3 < 2197 * x 0 + 169 * x 1 + 13 * x 2 + x 3 + 2197
    omega
  · have z2 := hz 2 (by omega) (by omega)
    have z3 := hz 3 (by omega) (by omega)
    have h' : 2197 * y 0 + 169 * y 1 + 13 * y 2 + y 3 < 2197 * x 0 + 169 * 0 + 13 * x 2 + x 3 + 2197 := h
    show 2197 * y 0 + 169 * y 1 + 13 * y 2 + y 3 < 2197 * x 0 + 169 * x 1 + 13 * x 2 + x 3 + 169
    rcases Nat.lt_trichotomy (y 0) (x 0) with c | c | c <;> omega
  · have z3 := hz 3 (by omega) (by omega)
    have h' : 2197 * y 0 + 169 * y 1 + 13 * y 2 + y 3 < 2197 * x 0 + 169 * x 1 + 13 * 0 + x 3 + 169 := h
    show 2197 * y 0 + 169 * y 1 + 13 * y 2 + y 3 < 2197 * x 0 + 169 * x 1 + 13 * x 2 + x 3 + 13
    rcases Nat.lt_trichotomy (y 0) (x 0) with c | c | c
    · omega
    · rcases Nat.lt_trichotomy (y 1) (x 1) with c1 | c1 | c1 <;> omega
    · omega
  · have h' : 2197 * y 0 + 169 * y 1 + 13 * y 2 + y 3 < 2197 * x 0 + 169 * x 1 + 13 * x 2 + 0 + 13 := h
    show 2197 * y 0 + 169 * y 1 + 13 * y 2 + y 3 < 2197 * x 0 + 169 * x 1 + 13 * x 2 + x 3 + 1
    rcases Nat.lt_trichotomy (y 0) (x 0) with c | c | c
    · omega
    · rcases Nat.lt_trichotomy (y 1) (x 1) with c1 | c1 | c1
      · omega
      · rcases Nat.lt_trichotomy (y 2) (x 2) with c2 | c2 | c2 <;> omega
      · omega
    · omega
theorem q_up {x : Nat → Nat} {k : Nat} (hk : k < 4) : qC (qU x k (x k + 1)) = qC x + pw (k + 1) := by
  have h4 : k = 0 ∨ k = 1 ∨ k = 2 ∨ k = 3 := by omega
  rcases h4 with rfl | rfl | rfl | rfl
  · show 2197 * (x 0 + 1) + 169 * x 1 + 13 * x 2 + x 3 = 2197 * x 0 + 169 * x 1 + 13 * x 2 + x 3 + 2197
    omega
  · show 2197 * x 0 + 169 * (x 1 + 1) + 13 * x 2 + x 3 = 2197 * x 0 + 169 * x 1 + 13 * x 2 + x 3 + 169
    omega
  · show 2197 * x 0 + 169 * x 1 + 13 * (x 2 + 1) + x 3 = 2197 * x 0 + 169 * x 1 + 13 * x 2 + x 3 + 13
    omega
  · show 2197 * x 0 + 169 * x 1 + 13 * x 2 + (x 3 + 1) = 2197 * x 0 + 169 * x 1 + 13 * x 2 + x 3 + 1
    omega
theorem q_zero {x : Nat → Nat} {k : Nat} (hk : k < 4) (h12 : x 0 + x 1 + x 2 + x 3 ≤ 12) : qC x + pw (k + 1) ≤ qC (qU x k 0) + pw k := by
  have h4 : k = 0 ∨ k = 1 ∨ k = 2 ∨ k = 3 := by omega
  rcases h4 with rfl | rfl | rfl | rfl
  · show 2197 * x 0 + 169 * x 1 + 13 * x 2 + x 3 + 2197 ≤ 2197 * 0 + 169 * x 1 + 13 * x 2 + x 3 + 28561
    omega
  · show 2197 * x 0 + 169 * x 1 + 13 * x 2 + x 3 + 169 ≤ 2197 * x 0 + 169 * 0 + 13 * x 2 + x 3 + 2197
    omega
  · show 2197 * x 0 + 169 * x 1 + 13 * x 2 + x 3 + 13 ≤ 2197 * x 0 + 169 * x 1 + 13 * 0 + x 3 + 169
    omega
  · show 2197 * x 0 + 169 * x 1 + 13 * x 2 + x 3 + 1 ≤ 2197 * x 0 + 169 * x 1 + 13 * x 2 + 0 + 13
    omega
theorem qK_0 {ns : Nat} : qK ns (fun _ => 0) := ⟨by
  show 0 + 0 + 0 + 0 ≤ 12
  omega, fun _ _ _ => rfl⟩
theorem q_last {x y : Nat → Nat} {ns : Nat} (hn : ns ≤ 4) (hx : qK ns x) (hy : qK ns y) (h : qC y < qC x + pw ns) : qC y < qC x + 1 := by
  obtain ⟨hx1, hx2⟩ := hx
  obtain ⟨hy1, hy2⟩ := hy
  have h4 : ns = 0 ∨ ns = 1 ∨ ns = 2 ∨ ns = 3 ∨ ns = 4 := by omega
  unfold qC at h ⊢
  rcases h4 with rfl | rfl | rfl | rfl | rfl
  · have a0 := hx2 0 (by omega) (by omega)
    have a1 := hx2 1 (by omega) (by omega)
    have a2 := hx2 2 (by omega) (by omega)
    have a3 := hx2 3 (by omega) (by omega)
    have c0 := hy2 0 (by omega) (by omega)
    have c1 := hy2 1 (by omega) (by omega)
    have c2 := hy2 2 (by omega) (by omega)
    have c3 := hy2 3 (by omega) (by omega)
    omega
  · have a1 := hx2 1 (by omega) (by omega)
    have a2 := hx2 2 (by omega) (by omega)
    have a3 := hx2 3 (by omega) (by omega)
    have c1 := hy2 1 (by omega) (by omega)
    have c2 := hy2 2 (by omega) (by omega)
    have c3 := hy2 3 (by omega) (by omega)
    rw [show pw 1 = 2197 from rfl] at h
    omega
  · have a2 := hx2 2 (by omega) (by omega)
    have a3 := hx2 3 (by omega) (by omega)
    have c2 := hy2 2 (by omega) (by omega)
    have c3 := hy2 3 (by omega) (by omega)
    rw [show pw 2 = 169 from rfl] at h
    omega
  · have a3 := hx2 3 (by omega) (by omega)
    have c3 := hy2 3 (by omega) (by omega)
    rw [show pw 3 = 13 from rfl] at h
    omega
  · exact h
theorem q_max {y : Nat → Nat} (hy : y 0 + y 1 + y 2 + y 3 ≤ 12) : qC y < 28561 := by
  unfold qC
  omega
/-- the sets are gone through from the greatest on: where the next begins -/
theorem q_d1 {y : Nat → Nat} {ns a b0 : Nat} (hy : qK ns y) (ha : a ≤ 12) (hb : b0 = if 1 < ns then 12 - a else 0) (h : 2197 * a + 169 * (b0 + 1) ≤ qC y) : 2197 * (a + 1) ≤ qC y := by
  obtain ⟨h1, h2⟩ := hy
  unfold qC at h ⊢
  by_cases c : 1 < ns
  · rw [if_pos c] at hb
    rcases Nat.lt_trichotomy (y 0) a with d | d | d
    · omega
    · rcases Nat.lt_or_ge (y 1) b0 with e | e <;> omega
    · omega
  · rw [if_neg c] at hb
    have c1 := h2 1 (by omega) (by omega)
    have c2 := h2 2 (by omega) (by omega)
    have c3 := h2 3 (by omega) (by omega)
    omega
theorem q_d2 {y : Nat → Nat} {ns a b c0 : Nat} (hy : qK ns y) (ha : a + b ≤ 12) (hb : c0 = if 2 < ns then 12 - a - b else 0) (h : 2197 * a + 169 * b + 13 * (c0 + 1) ≤ qC y) : 2197 * a + 169 * (b + 1) ≤ qC y := by
  obtain ⟨h1, h2⟩ := hy
  unfold qC at h ⊢
  by_cases c : 2 < ns
  · rw [if_pos c] at hb
    rcases Nat.lt_trichotomy (y 0) a with d | d | d
    · omega
    · rcases Nat.lt_trichotomy (y 1) b with e | e | e
      · omega
      · rcases Nat.lt_or_ge (y 2) c0 with f | f <;> omega
      · omega
    · omega
  · rw [if_neg c] at hb
    have c2 := h2 2 (by omega) (by omega)
    have c3 := h2 3 (by omega) (by omega)
    omega
theorem q_d3 {y : Nat → Nat} {ns a b c d0 : Nat} (hy : qK ns y) (ha : a + b + c ≤ 12) (hb : d0 = if 3 < ns then 12 - a - b - c else 0) (h : 2197 * a + 169 * b + 13 * c + (d0 + 1) ≤ qC y) : 2197 * a + 169 * b + 13 * (c + 1) ≤ qC y := by
  obtain ⟨h1, h2⟩ := hy
  unfold qC at h ⊢
  by_cases g : 3 < ns
  · rw [if_pos g] at hb
    rcases Nat.lt_trichotomy (y 0) a with d | d | d
    · omega
    · rcases Nat.lt_trichotomy (y 1) b with e | e | e
      · omega
      · rcases Nat.lt_trichotomy (y 2) c with f | f | f <;> omega
      · omega
    · omega
  · rw [if_neg g] at hb
    have c3 := h2 3 (by omega) (by omega)
    omega
theorem zA_c {f g : Nat → Nat} : ∀ {n : Nat}, (∀ i, i < n → f i = g i) → zA f n = zA g n
  | 0, _ => rfl
  | n + 1, h => by
    have e1 : zA f (n + 1) = zA f n + f n := rfl
    have e2 : zA g (n + 1) = zA g n + g n := rfl
    rw [e1, e2, zA_c (fun i hi => h i (by omega)), h n (by omega)]
theorem zA_b {f : Nat → Nat} {B : Nat} : ∀ n, (∀ i, i < n → f i ≤ B) → zA f n ≤ n * B
  | 0, _ => Nat.zero_le _
  | n + 1, h => by
    have e1 : zA f (n + 1) = zA f n + f n := rfl
    have ih := zA_b (f := f) (B := B) n (fun i hi => h i (by omega))
    have := h n (by omega)
    rw [e1, Nat.add_mul, Nat.one_mul]
    omega
/-! the cost of a set, day by day and by one look -/
def cst (p : Nat → Bool) (ea : Nat → Nat) (wa wn nd all each : Nat) : Nat := sD p (fun d => each + (if ea d < all then (all - ea d) * wa else (ea d - all) * wn)) nd
theorem cst_look {p : Nat → Bool} {ea : Nat → Nat} {wa wn all each : Nat} : ∀ nd : Nat, ((cst p ea wa wn nd all each : Nat) : Int) = (each : Int) * (sD p (fun _ => 1) nd : Nat) + ((wa : Int) * ((all : Int) * (sD (fun d => p d && decide (ea d ≤ all)) (fun _ => 1) nd : Nat) - (sD (fun d => p d && decide (ea d ≤ all)) ea nd : Nat)) + (wn : Int) * (((sD p ea nd : Nat) : Int) - (sD (fun d => p d && decide (ea d ≤ all)) ea nd : Nat) - (all : Int) * (((sD p (fun _ => 1) nd : Nat) : Int) - (sD (fun d => p d && decide (ea d ≤ all)) (fun _ => 1) nd : Nat))))
  | 0 => by simp [cst, sD]
  | n + 1 => by
    have ih := cst_look (p := p) (ea := ea) (wa := wa) (wn := wn) (all := all) (each := each) n
    unfold cst at ih ⊢
    rw [sD, sD, sD, sD, sD]
    generalize sD p (fun d => each + (if ea d < all then (all - ea d) * wa else (ea d - all) * wn)) n = K at ih ⊢
    generalize sD p (fun _ => 1) n = D at ih ⊢
    generalize sD p ea n = Sm at ih ⊢
    generalize sD (fun d => p d && decide (ea d ≤ all)) (fun _ => 1) n = c at ih ⊢
    generalize sD (fun d => p d && decide (ea d ≤ all)) ea n = u at ih ⊢
    by_cases hp : p n = true
    · rw [if_pos hp, if_pos hp, if_pos hp]
      by_cases hl : ea n ≤ all
      · have hq : (p n && decide (ea n ≤ all)) = true := by simp [hp, hl]
        rw [if_pos hq, if_pos hq]
        obtain ⟨t, ht⟩ : ∃ t, all = ea n + t := ⟨all - ea n, by omega⟩
        have hv : (if ea n < all then (all - ea n) * wa else (ea n - all) * wn) = t * wa := by
          rw [ht, show ea n + t - ea n = t by omega, show ea n - (ea n + t) = 0 by omega, Nat.zero_mul]
          by_cases c0 : ea n < ea n + t
          · rw [if_pos c0]
          · rw [if_neg c0, show t = 0 by omega, Nat.zero_mul]
        rw [hv]
        have hw : (wa : Int) * (all : Int) = wa * (ea n : Int) + ((t * wa : Nat) : Int) := by
          rw [ht, Int.natCast_add, Int.mul_add, Int.natCast_mul, Int.mul_comm (t : Int) wa]
        simp only [Int.natCast_add, Int.mul_add, Int.mul_sub, Int.natCast_one, Int.mul_one] at ih ⊢
        omega
      · have hq : ¬ (p n && decide (ea n ≤ all)) = true := by simp [hl]
        rw [if_neg hq, if_neg hq, if_neg (by omega)]
        obtain ⟨t, ht⟩ : ∃ t, ea n = all + t := ⟨ea n - all, by omega⟩
        have hw : (wn : Int) * (ea n : Int) = wn * (all : Int) + ((t * wn : Nat) : Int) := by
          rw [ht, Int.natCast_add, Int.mul_add, Int.natCast_mul, Int.mul_comm (t : Int) wn]
        rw [show ea n - all = t by omega]
        simp only [Int.natCast_add, Int.mul_add, Int.mul_sub, Int.natCast_one, Int.mul_one, Nat.add_zero] at ih ⊢
        omega
    · have hq : ¬ (p n && decide (ea n ≤ all)) = true := by simp [hp]
      rw [if_neg hp, if_neg hp, if_neg hp, if_neg hq, if_neg hq]
      simp only [Nat.add_zero]
      exact ih
theorem cst_b {p : Nat → Bool} {ea : Nat → Nat} {wa wn nd all each : Nat} (hnd : nd ≤ 150) (he : ∀ d, d < nd → ea d ≤ 1000) (hwa : wa ≤ 1000) (hwn : wn ≤ 1000) (hall : all ≤ 20000) (hea : each ≤ 1000000) : cst p ea wa wn nd all each ≤ 150 * 21000000 := by
  have h1 : cst p ea wa wn nd all each ≤ 21000000 * sD p (fun _ => 1) nd := by
    refine sD_b (fun d hd => ?_)
    have hd' := he d hd
    have m1 : (all - ea d) * wa ≤ 20000 * 1000 := Nat.mul_le_mul (by omega) hwa
    have m2 : (ea d - all) * wn ≤ 20000 * 1000 := Nat.mul_le_mul (by omega) hwn
    split <;> omega
  have h2 := sD_n (p := p) (n := nd)
  have h3 : 21000000 * sD p (fun _ => 1) nd ≤ 21000000 * 150 := Nat.mul_le_mul (Nat.le_refl _) (by omega)
  omega
