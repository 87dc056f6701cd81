/-! what the two states have in common -/
def cntA (f : Nat → Int32) : Nat → Nat
  | 0 => 0
  | n + 1 => cntA f n + (if f n = 0 then 0 else 1)
def RelN (nm nd ns nt : Nat) (C M : St) : Prop :=
  (nm ≤ 6 ∧ nd ≤ 150 ∧ ns ≤ 4 ∧ nt ≤ 60) ∧
  (C.1 0 = nI nm ∧ M.1 1 = nI nm ∧ C.1 1 = nI nd ∧ M.1 2 = nI nd ∧ C.1 5 = nI ns ∧ M.1 8 = nI ns ∧ C.1 13 = nI nt ∧ M.1 14 = nI nt) ∧
  (∀ i, i < nm → C.2.2 0 i = M.2.2 0 i ∧ C.2.2 1 i = M.2.2 1 i) ∧
  (∀ i, i < 6 → C.2.2 3 i = M.2.2 2 i ∧ (∃ x, x ≤ 1000 ∧ C.2.2 3 i = nI x) ∧ (nm ≤ i → C.2.2 3 i = 0)) ∧
  (∀ d, d < nd → C.2.2 4 d = M.2.2 3 d ∧ ((C.2.2 5 d = 0 ∧ M.2.2 5 d = 1) ∨ (C.2.2 5 d = 1 ∧ M.2.2 5 d = 0))) ∧
  (∀ d, nd ≤ d → C.2.2 5 d = 0) ∧
  C.1 2 = nI (cntA (C.2.2 5) nd) ∧
  (∀ j, j < 6 * nd → C.2.2 6 j = M.2.2 4 j ∧ ∃ x, x ≤ 1000 ∧ C.2.2 6 j = nI x) ∧
  (∀ i, i < ns → C.2.2 10 i = M.2.2 7 i ∧ C.2.2 11 i = M.2.2 8 i ∧ (∃ x, 1 ≤ x ∧ x ≤ 200 ∧ C.2.2 10 i = nI x) ∧ (∃ x, 1 ≤ x ∧ x ≤ 10000 ∧ C.2.2 11 i = nI x)) ∧
  (∃ x, x ≤ 1000 ∧ C.1 6 = nI x ∧ M.1 9 = nI x) ∧ (∃ x, x ≤ 1000 ∧ C.1 7 = nI x ∧ M.1 10 = nI x) ∧
  (∀ i, i < nt → C.2.2 16 i = M.2.2 13 i ∧ ∃ x, x ≤ 100 ∧ C.2.2 16 i = nI x)
def Rel (C M : St) : Prop := ∃ nm nd ns nt : Nat, RelN nm nd ns nt C M
theorem sI_g (S : St) (k : Nat) (v : Int32) : (sI S k v).1 k = v := by simp [sI, upd]
theorem sI_n (S : St) (k : Nat) (v : Int32) {j : Nat} (h : j ≠ k) : (sI S k v).1 j = S.1 j := by simp [sI, upd, h]
theorem sI_J (S : St) (k : Nat) (v : Int32) : (sI S k v).2.1 = S.2.1 := rfl
theorem sI_R (S : St) (k : Nat) (v : Int32) : (sI S k v).2.2 = S.2.2 := rfl
theorem sJ_I (S : St) (k : Nat) (v : Int64) : (sJ S k v).1 = S.1 := rfl
theorem sJ_g (S : St) (k : Nat) (v : Int64) : (sJ S k v).2.1 k = v := by simp [sJ, vp_updL]
theorem sJ_n (S : St) (k : Nat) (v : Int64) {j : Nat} (h : j ≠ k) : (sJ S k v).2.1 j = S.2.1 j := by simp [sJ, vp_updL, h]
theorem sJ_R (S : St) (k : Nat) (v : Int64) : (sJ S k v).2.2 = S.2.2 := rfl
theorem sR_I (S : St) (k : Nat) (f : Nat → Int32) : (sR S k f).1 = S.1 := rfl
theorem sR_J (S : St) (k : Nat) (f : Nat → Int32) : (sR S k f).2.1 = S.2.1 := rfl
theorem sR_g (S : St) (k : Nat) (f : Nat → Int32) : (sR S k f).2.2 k = f := by simp [sR]
theorem sR_n (S : St) (k : Nat) (f : Nat → Int32) {j : Nat} (h : j ≠ k) : (sR S k f).2.2 j = S.2.2 j := by simp [sR, h]
/-- scratch of the class, scratch of the reference -/
def cI : List Nat := [3, 4, 8, 9, 10, 11, 12]
def cR : List Nat := [2, 7, 8, 9, 12, 13, 14, 15, 17]
def mI : List Nat := [0, 3, 4, 5, 6, 7, 11, 12, 13, 15, 16, 17, 18]
def mR : List Nat := [6, 9, 10, 11, 12]
def Kp (is rs : List Nat) (S0 S : St) : Prop := (∀ k, k ∉ is → S.1 k = S0.1 k) ∧ ∀ k, k ∉ rs → S.2.2 k = S0.2.2 k
theorem Kp.rf {is rs : List Nat} {S : St} : Kp is rs S S := ⟨fun _ _ => rfl, fun _ _ => rfl⟩
theorem Kp.tr {is rs : List Nat} {S0 S S1 : St} (h : Kp is rs S0 S) (h1 : Kp is rs S S1) : Kp is rs S0 S1 := ⟨fun k hk => (h1.1 k hk).trans (h.1 k hk), fun k hk => (h1.2 k hk).trans (h.2 k hk)⟩
theorem Kp.sI {is rs : List Nat} {S0 S : St} {k : Nat} (h : Kp is rs S0 S) (hk : k ∈ is) (v : Int32) : Kp is rs S0 (sI S k v) := ⟨fun j hj => by rw [sI_n _ _ _ (fun e => hj (by rw [e]; exact hk))]; exact h.1 j hj, fun j hj => h.2 j hj⟩
theorem Kp.sJ {is rs : List Nat} {S0 S : St} {k : Nat} (h : Kp is rs S0 S) (v : Int64) : Kp is rs S0 (sJ S k v) := ⟨fun j hj => h.1 j hj, fun j hj => h.2 j hj⟩
theorem Kp.sR {is rs : List Nat} {S0 S : St} {k : Nat} (h : Kp is rs S0 S) (hk : k ∈ rs) (f : Nat → Int32) : Kp is rs S0 (sR S k f) := ⟨fun j hj => h.1 j hj, fun j hj => by rw [sR_n _ _ _ (fun e => hj (by rw [e]; exact hk))]; exact h.2 j hj⟩
abbrev CK : St → St → Prop := Kp cI cR
abbrev MK : St → St → Prop := Kp mI mR
theorem RelN.kept {nm nd ns nt : Nat} {C M C1 M1 : St} (h : RelN nm nd ns nt C M) (hc : CK C C1) (hm : MK M M1) : RelN nm nd ns nt C1 M1 := by
  unfold RelN at h ⊢
  rw [hc.1 0 (by decide), hc.1 1 (by decide), hc.1 2 (by decide), hc.1 5 (by decide), hc.1 6 (by decide), hc.1 7 (by decide), hc.1 13 (by decide), hm.1 1 (by decide), hm.1 2 (by decide), hm.1 8 (by decide), hm.1 9 (by decide), hm.1 10 (by decide), hm.1 14 (by decide),
    hc.2 0 (by decide), hc.2 1 (by decide), hc.2 3 (by decide), hc.2 4 (by decide), hc.2 5 (by decide), hc.2 6 (by decide), hc.2 10 (by decide), hc.2 11 (by decide), hc.2 16 (by decide), hm.2 0 (by decide), hm.2 1 (by decide), hm.2 2 (by decide), hm.2 3 (by decide), hm.2 4 (by decide), hm.2 5 (by decide), hm.2 7 (by decide), hm.2 8 (by decide), hm.2 13 (by decide)]
  exact h
theorem Rel.kept {C M C1 M1 : St} (h : Rel C M) (hc : CK C C1) (hm : MK M M1) : Rel C1 M1 := by
  obtain ⟨nm, nd, ns, nt, h⟩ := h
  exact ⟨nm, nd, ns, nt, h.kept hc hm⟩
theorem Rel0 : Rel C0 M0 := by
  refine ⟨0, 0, 0, 0, ⟨by omega, by omega, by omega, by omega⟩, ⟨rfl, rfl, rfl, rfl, rfl, rfl, rfl, rfl⟩, fun i h => absurd h (by omega), fun i h => ⟨rfl, ⟨0, by omega, rfl⟩, fun _ => rfl⟩, fun i h => absurd h (by omega), fun i h => rfl, rfl, fun i h => absurd h (by omega), fun i h => absurd h (by omega), ⟨1, by omega, rfl, rfl⟩, ⟨3, by omega, rfl, rfl⟩, fun i h => absurd h (by omega)⟩
/-! Int32 and numbers -/
theorem i_nlt {a b : Int32} : ¬ a < b ↔ b ≤ a := by rw [Int32.lt_iff_toInt_lt, Int32.le_iff_toInt_le]; omega
theorem i_nle {a b : Int32} : ¬ a ≤ b ↔ b < a := by rw [Int32.lt_iff_toInt_lt, Int32.le_iff_toInt_le]; omega
theorem i_le {a b : Int32} : a ≤ b ↔ a.toInt ≤ b.toInt := Int32.le_iff_toInt_le
theorem i_lt {a b : Int32} : a < b ↔ a.toInt < b.toInt := Int32.lt_iff_toInt_lt
/-- a number that lies between two small ones -/
theorem i_of {x : Int32} {lo hi : Nat} (hhi : hi < 2 ^ 31) (h1 : ¬ x < nI lo) (h2 : x ≤ nI hi) (hlo : lo ≤ hi) : ∃ n, lo ≤ n ∧ n ≤ hi ∧ x = nI n := by
  have h0 : ¬ x < 0 := by
    rw [i_lt] at h1 ⊢
    rw [nI_toInt (by omega)] at h1
    have e0 : (0 : Int32).toInt = 0 := rfl
    omega
  obtain ⟨j, hj, rfl⟩ := nI_of h0
  have h3 := (nI_leI hj hhi).mp h2
  have h4 : ¬ j < lo := fun h => h1 ((nI_ltI hj (by omega)).mpr h)
  exact ⟨j, by omega, h3, rfl⟩
theorem nI_inj {a b : Nat} (ha : a < 2 ^ 31) (hb : b < 2 ^ 31) (h : nI a = nI b) : a = b := (nI_eq ha hb).mp h
theorem upd_g (f : Nat → Int32) (k : Nat) (x : Int32) : upd f k x k = x := by simp [upd]
theorem upd_n (f : Nat → Int32) (k : Nat) (x : Int32) {j : Nat} (h : j ≠ k) : upd f k x j = f j := by simp [upd, h]
theorem nI_neg1 {n : Nat} (h : n < 2 ^ 31) : nI n ≠ -1 := fun e => by
  have h1 := nI_toInt h
  rw [e] at h1
  have h2 : (-1 : Int32).toInt = -1 := rfl
  omega
