def OpsOK (Rel : St → St → Prop) : Prop := Rel C0 M0 ∧ Op_meal Rel ∧ Op_ate Rel ∧ Op_day Rel ∧ Op_drop Rel ∧ Op_leaves Rel ∧ Op_split Rel ∧ Op_leaf Rel ∧ Op_size Rel ∧ Op_prices Rel ∧ Op_cost Rel ∧ Op_pots Rel ∧ Op_ladles Rel ∧ Op_ladle Rel ∧ Op_come Rel ∧ Op_hatch Rel ∧ Op_serve Rel ∧ Op_empty Rel ∧ Op_count Rel
theorem law_gt {L i : Nat} (hL : L ≤ 2560) (hi : i ≤ L) (h : ¬ (nI L - 5 < nI i)) : i + 5 ≤ L := by
  have e1 : (nI L - 5).toInt = (L : Int) - 5 := pk_sub_toInt (a := L) (b := 5) (by omega) (by omega)
  have e2 : (nI i).toInt = (i : Int) := nI_toInt (by omega)
  rw [Int32.lt_iff_toInt_lt, e1, e2] at h
  omega
theorem law_in {L i k : Nat} (hL : L ≤ 2560) (h : i + k < L) : vp_in (nI i + nI k) L := by
  rw [nI_add]
  exact vp_in_nI h (by omega)
section LL
variable {p : Program} {l : Launch} {e : Env} {s : State} {m : MethodId} {below : List Frame} {meth : Method} {c9 : Code} {b L : Nat} {xs : Nat → Int32} {D : va_G} {a : Nat → Nat} {c : Nat → ClassId} {o : Nat} {co : ClassId} {a2 : Nat → Nat} {c2 : Nat → ClassId} {Rel : St → St → Prop}
set_option maxHeartbeats 4000000 in
set_option maxRecDepth 100000 in
theorem law_loop (hL : L ≤ 2560) (E0 : LawE p l s m meth c9 b L xs D a c o co a2 c2) (ok : OpsOK Rel) : ∀ (n i cells slots : Nat), i ≤ L → L < i + 5 * n + 5 → cells + 4 * n ≤ 601024 → slots + 24 * n ≤ 7293034 → ∀ (u : Lo) (M : St) (H : Heap) (locs : List Loc) (ls : Array Slot), Rel u.1 M → va_P D vwCl (ww a c o co u ++ mw a2 c2 M) H → va_S (lA s) s.heap H locs → lv_has ls 8 [(0, .ref b), (1, .ref (a 0)), (2, .ref (a2 0)), (3, .ref o), (4, .int (nI i))] → W p l e room_1 s m #[Value.ref b] below meth c9 H locs cells slots (lw_Z below #[Value.ref b] s) (F0 m 23 ls []) := by
  obtain ⟨hx, hb, hr, hml, hown, hts0, hX, hbl, hlocks, hgv⟩ := E0.1
  have hbA : ¬ lA s b := Nat.not_le.mpr hbl
  have hexit : ∀ (cells slots : Nat) (H : Heap) (locs : List Loc) (ls : Array Slot), cells ≤ 601024 → slots ≤ 7293034 → va_S (lA s) s.heap H locs → W p l e room_1 s m #[Value.ref b] below meth c9 H locs cells slots (lw_Z below #[Value.ref b] s) (F0 m 1175 ls []) := by
    intro cells slots H locs ls h1 h2 hS
    refine lv_iconst (v := 1) hx hb dL_law_1175 (by decide) ?_
    refine va_forget (fun q hq => hS.2.2 q hq) ?_
    refine W.widen (k := 601024) (n := 7293034) h1 h2 ?_
    exact lw_ret hx hb hr hlocks dL_law_1176
  intro n
  induction n with
  | zero =>
    intro i cells slots hi hn hcl hsl u M H locs ls hR hP hS hl
    refine lv_iload hx hb dL_law_23 (lv_at hl 4 rfl) ?_
    refine lv_aload_n hx hb dL_law_25 rfl (lv_at hl 0 rfl) ?_
    refine va_slen hx hb hX hbl hbA hS dL_law_26 ?_
    refine lv_iconst (v := 5) hx hb dL_law_27 (by decide) ?_
    refine lv_isub hx hb dL_law_28 ?_
    refine lv_icmp_gt (tgt := 1175) hx hb dL_law_29 (by decide) (fun c1 => ?_) (fun c1 => ?_)
    · exact hexit _ _ _ _ _ (by omega) (by omega) hS
    · have := law_gt hL hi c1
      omega
  | succ n ih =>
    intro i cells slots hi hn hcl hsl u M H locs ls hR hP hS hl
    refine lv_iload hx hb dL_law_23 (lv_at hl 4 rfl) ?_
    refine lv_aload_n hx hb dL_law_25 rfl (lv_at hl 0 rfl) ?_
    refine va_slen hx hb hX hbl hbA hS dL_law_26 ?_
    refine lv_iconst (v := 5) hx hb dL_law_27 (by decide) ?_
    refine lv_isub hx hb dL_law_28 ?_
    refine lv_icmp_gt (tgt := 1175) hx hb dL_law_29 (by decide) (fun c1 => ?_) (fun c1 => ?_)
    · exact hexit _ _ _ _ _ (by omega) (by omega) hS
    · have hlt := law_gt hL hi c1
      have hin0 : vp_in (nI i) L := vp_in_nI (by omega) (by omega)
      have hin1 : vp_in (nI i + 1) L := law_in (k := 1) hL (by omega)
      have hin2 : vp_in (nI i + 2) L := law_in (k := 2) hL (by omega)
      have hin3 : vp_in (nI i + 3) L := law_in (k := 3) hL (by omega)
      have hin4 : vp_in (nI i + 4) L := law_in (k := 4) hL (by omega)
      have hk : ∀ (cells2 slots2 : Nat), cells2 ≤ cells + 4 → slots2 ≤ slots + 24 → ∀ (u : Lo) (M : St) (H : Heap) (locs : List Loc) (ls : Array Slot), Rel u.1 M → va_P D vwCl (ww a c o co u ++ mw a2 c2 M) H → va_S (lA s) s.heap H locs → lv_has ls 8 [(0, .ref b), (1, .ref (a 0)), (2, .ref (a2 0)), (3, .ref o), (4, .int (nI i))] → W p l e room_1 s m #[Value.ref b] below meth c9 H locs cells2 slots2 (lw_Z below #[Value.ref b] s) (F0 m 1169 ls []) := by
        intro cells2 slots2 hc2 hs2 u M H locs ls hR hP hS hl
        refine W.widen (k := cells + 4) (n := slots + 24) hc2 hs2 ?_
        refine lv_iinc (v := nI (i + 5)) (lv' := [(4, .int (nI (i + 5))), (0, .ref b), (1, .ref (a 0)), (2, .ref (a2 0)), (3, .ref o)]) hx hb dL_law_1169 hl (k := 4) rfl (nI_add i 5) (by decide) rfl (fun ls hl => ?_)
        refine lv_goto (tgt := 23) hx hb dL_law_1172 (by decide) ?_
        exact ih (i + 5) (cells + 4) (slots + 24) hlt (by omega) (by omega) (by omega) u M H locs ls hR hP hS (lv_sub hl [1, 2, 3, 4, 0] rfl)
      have hk4 := hk (cells + 4) (slots + 24) (Nat.le_refl _) (Nat.le_refl _)
      have hcl4 : cells + 4 ≤ 601024 := by omega
      have hsl4 : slots + 24 ≤ 7293034 := by omega
      refine lv_aload_n hx hb dL_law_32 rfl (lv_at hl 0 rfl) ?_
      refine lv_iload hx hb dL_law_33 (lv_at hl 4 rfl) ?_
      refine va_sld hx hb hX hbl hbA hS hin0 dL_law_35 ?_
      refine lv_bipush (v := 31) hx hb dL_law_36 (by decide) ?_
      refine lv_iand hx hb dL_law_38 ?_
      obtain ⟨j, hj, ej⟩ := pk_andE (xs (nI i).toNatClampNeg) (m := 31) 5 (by decide)
      rw [ej]
      obtain ⟨ok0, ok_0, ok_1, ok_2, ok_3, ok_4, ok_5, ok_6, ok_7, ok_8, ok_9, ok_10, ok_11, ok_12, ok_13, ok_14, ok_15, ok_16, ok_17⟩ := ok
      rcases Nat.lt_or_ge j 18 with hj18 | hj18
      · rcases (show j = 0 ∨ j = 1 ∨ j = 2 ∨ j = 3 ∨ j = 4 ∨ j = 5 ∨ j = 6 ∨ j = 7 ∨ j = 8 ∨ j = 9 ∨ j = 10 ∨ j = 11 ∨ j = 12 ∨ j = 13 ∨ j = 14 ∨ j = 15 ∨ j = 16 ∨ j = 17 by omega) with rfl | rfl | rfl | rfl | rfl | rfl | rfl | rfl | rfl | rfl | rfl | rfl | rfl | rfl | rfl | rfl | rfl | rfl
        · refine lv_tableIn (off := 85) (tgt := 124) hx hb dL_law_39 (by decide) (by decide) (by decide) (by decide) ?_
          exact law_0 E0 ok_0 (nI i) hin1 hin2 hin3 hin4 cells slots hcl4 hsl4 hk4 u M _ _ ls hR hP hS hl
        · refine lv_tableIn (off := 153) (tgt := 192) hx hb dL_law_39 (by decide) (by decide) (by decide) (by decide) ?_
          exact law_1 E0 ok_1 (nI i) hin1 hin2 hin3 hin4 cells slots hcl4 hsl4 hk4 u M _ _ ls hR hP hS hl
        · refine lv_tableIn (off := 221) (tgt := 260) hx hb dL_law_39 (by decide) (by decide) (by decide) (by decide) ?_
          exact law_2 E0 ok_2 (nI i) hin1 hin2 hin3 hin4 cells slots hcl4 hsl4 hk4 u M _ _ ls hR hP hS hl
        · refine lv_tableIn (off := 277) (tgt := 316) hx hb dL_law_39 (by decide) (by decide) (by decide) (by decide) ?_
          exact law_3 E0 ok_3 (nI i) hin1 hin2 hin3 hin4 cells slots hcl4 hsl4 hk4 u M _ _ ls hR hP hS hl
        · refine lv_tableIn (off := 340) (tgt := 379) hx hb dL_law_39 (by decide) (by decide) (by decide) (by decide) ?_
          exact law_4 E0 ok_4 (nI i) hin1 hin2 hin3 hin4 cells slots hcl4 hsl4 hk4 u M _ _ ls hR hP hS hl
        · refine lv_tableIn (off := 396) (tgt := 435) hx hb dL_law_39 (by decide) (by decide) (by decide) (by decide) ?_
          exact law_5 E0 ok_5 (nI i) hin1 hin2 hin3 hin4 cells slots hcl4 hsl4 hk4 u M _ _ ls hR hP hS hl
        · refine lv_tableIn (off := 476) (tgt := 515) hx hb dL_law_39 (by decide) (by decide) (by decide) (by decide) ?_
          exact law_6 E0 ok_6 (nI i) hin1 hin2 hin3 hin4 cells slots hcl4 hsl4 hk4 u M _ _ ls hR hP hS hl
        · refine lv_tableIn (off := 556) (tgt := 595) hx hb dL_law_39 (by decide) (by decide) (by decide) (by decide) ?_
          exact law_7 E0 ok_7 (nI i) hin1 hin2 hin3 hin4 cells slots hcl4 hsl4 hk4 u M _ _ ls hR hP hS hl
        · refine lv_tableIn (off := 624) (tgt := 663) hx hb dL_law_39 (by decide) (by decide) (by decide) (by decide) ?_
          exact law_8 E0 ok_8 (nI i) hin1 hin2 hin3 hin4 cells slots hcl4 hsl4 hk4 u M _ _ ls hR hP hS hl
        · refine lv_tableIn (off := 672) (tgt := 711) hx hb dL_law_39 (by decide) (by decide) (by decide) (by decide) ?_
          exact law_9 E0 ok_9 (nI i) hin1 hin2 hin3 hin4 cells slots hcl4 hsl4 hk4 u M _ _ ls hR hP hS hl
        · refine lv_tableIn (off := 751) (tgt := 790) hx hb dL_law_39 (by decide) (by decide) (by decide) (by decide) ?_
          exact law_10 E0 ok_10 (nI i) hin1 hin2 hin3 hin4 cells slots hcl4 hsl4 hk4 u M _ _ ls hR hP hS hl
        · refine lv_tableIn (off := 843) (tgt := 882) hx hb dL_law_39 (by decide) (by decide) (by decide) (by decide) ?_
          exact law_11 E0 ok_11 (nI i) hin1 hin2 hin3 hin4 cells slots hcl4 hsl4 hk4 u M _ _ ls hR hP hS hl
        · refine lv_tableIn (off := 856) (tgt := 895) hx hb dL_law_39 (by decide) (by decide) (by decide) (by decide) ?_
          exact law_12 E0 ok_12 (nI i) hin1 hin2 hin3 hin4 cells slots hcl4 hsl4 hk4 u M _ _ ls hR hP hS hl
        · refine lv_tableIn (off := 912) (tgt := 951) hx hb dL_law_39 (by decide) (by decide) (by decide) (by decide) ?_
          exact law_13 E0 ok_13 (nI i) hin1 hin2 hin3 hin4 cells slots hcl4 hsl4 hk4 u M _ _ ls hR hP hS hl
        · refine lv_tableIn (off := 968) (tgt := 1007) hx hb dL_law_39 (by decide) (by decide) (by decide) (by decide) ?_
          exact law_14 E0 ok_14 (nI i) hin1 hin2 hin3 hin4 cells slots hcl4 hsl4 hk4 u M _ _ ls hR hP hS hl
        · refine lv_tableIn (off := 1036) (tgt := 1075) hx hb dL_law_39 (by decide) (by decide) (by decide) (by decide) ?_
          exact law_15 E0 ok_15 (nI i) hin1 hin2 hin3 hin4 cells slots hcl4 hsl4 hk4 u M _ _ ls hR hP hS hl
        · refine lv_tableIn (off := 1092) (tgt := 1131) hx hb dL_law_39 (by decide) (by decide) (by decide) (by decide) ?_
          exact law_16 E0 ok_16 (nI i) hin1 hin2 hin3 hin4 cells slots hcl4 hsl4 hk4 u M _ _ ls hR hP hS hl
        · refine lv_tableIn (off := 1105) (tgt := 1144) hx hb dL_law_39 (by decide) (by decide) (by decide) (by decide) ?_
          exact law_17 E0 ok_17 (nI i) hin1 hin2 hin3 hin4 cells slots hcl4 hsl4 hk4 u M _ _ ls hR hP hS hl
      · refine lv_tableOut (tgt := 1169) hx hb dL_law_39 (Or.inr (by rw [nI_toInt (by omega)]; omega)) (by decide) ?_
        exact hk cells slots (by omega) (by omega) u M _ _ ls hR hP hS hl
end LL
theorem D_same {A : Nat → Prop} {W1 W2 : va_W} (h : va_D A W1) (e : W2.map Prod.fst = W1.map Prod.fst) : va_D A W2 := by
  have key : ∀ (k : Nat) (q : Nat × va_E), W2[k]? = some q → ∃ q0, W1[k]? = some q0 ∧ q0.1 = q.1 := by
    intro k q hk
    have e1 : (W2.map Prod.fst)[k]? = some q.1 := by rw [List.getElem?_map, hk]; rfl
    rw [e, List.getElem?_map, Option.map_eq_some_iff] at e1
    exact e1
  refine ⟨fun i j p q hi hj hpq => ?_, fun k q hk => ?_⟩
  · obtain ⟨p0, h1, e1⟩ := key i p hi
    obtain ⟨q0, h2, e2⟩ := key j q hj
    exact h.1 i j p0 q0 h1 h2 (by rw [e1, e2, hpq])
  · obtain ⟨q0, h1, e1⟩ := key k q hk
    rw [← e1]
    exact h.2 k q0 h1
theorem cns_in : ∀ w ∈ cns, w ∈ lw_tbl := by decide +kernel
theorem xW_in : ∀ w ∈ xW, w ∈ lw_tbl := by decide +kernel
theorem xStr_in : ∀ q ∈ xStr, Cond.stringRef RX5 q.1 q.2 ∈ lw_tbl := by decide +kernel
theorem xC_in : ∀ q ∈ xPairs, Cond.not (Cond.castable q.1 q.2) ∈ flatC (Jvm.Cond.and given_1 narrow_1) := by decide +kernel
theorem lw_stat : Cond.isRef (.static Bundle.tN "UNASSIGNED_STACK" Bundle.steD) ∈ flatC (Jvm.Cond.and given_1 narrow_1) ∧ Cond.isRef (.static Bundle.tN "SUPPRESSED_SENTINEL" Bundle.listD) ∈ flatC (Jvm.Cond.and given_1 narrow_1) ∧ Cond.laysStatic Bundle.tN "UNASSIGNED_STACK" Bundle.steD ∈ lw_tbl ∧ Cond.laysStatic Bundle.tN "SUPPRESSED_SENTINEL" Bundle.listD ∈ lw_tbl ∧ Cond.initialized Bundle.tN ∈ lw_tbl := by decide +kernel
theorem lw_T {s : State} {b : Nat} (hts : ∀ w ∈ lw_tbl, w.before #[Value.ref b] s = true) (hgv : (Jvm.Cond.and given_1 narrow_1).before #[Value.ref b] s = true) : gN cns s ∧ xT (lA s) s s.heap ∧ xC s := by
  have hfl := flat_of_before _ hgv
  have hnA : ∀ a : Nat, a < s.heap.size → ¬ lA s a := fun a h => Nat.not_le.mpr h
  obtain ⟨cur, k9, hcur, -⟩ := Cond.instantiable_spec (hts (.instantiable RX5 5) (by decide +kernel))
  refine ⟨fun w hw => ?_, ⟨vx_Zqof (hts _ lw_stat.2.2.1) (hts _ lw_stat.2.2.2.2) (hfl _ lw_stat.1) hnA, vx_Zqof (hts _ lw_stat.2.2.2.1) (hts _ lw_stat.2.2.2.2) (hfl _ lw_stat.2.1) hnA, fun q hq => ?_, fun w hw => ?_⟩, fun q hq => va_Nc.of (hfl _ (xC_in q hq))⟩
  · have h1 := List.all_eq_true.mp cns_ok w hw
    have h2 := hts w (cns_in w hw)
    cases w <;> first | exact va_Nw.of rfl h2 | (exact Bool.noConfusion h1)
  · have h2 := hts _ (xStr_in q hq)
    obtain ⟨k, cf, i, a, -, -, -, -, -, he⟩ := Cond.stringRef_spec hcur h2
    exact ⟨a, vk_R.of h2 he⟩
  · have h1 := List.all_eq_true.mp xW_ok w hw
    have h2 := hts w (xW_in w hw)
    cases w <;> first | exact va_Nw.of rfl h2 | (exact Bool.noConfusion h1)
set_option maxHeartbeats 4000000 in
set_option maxRecDepth 100000 in
theorem whole_start {Rel : St → St → Prop} (ok : OpsOK Rel) {p : Program} {e : Env} {s : State} {m : MethodId} {below : List Frame} {meth : Method} {c9 : Code} (l : Launch) (hl0 : l.stackTraces = false) {b L : Nat} {xs : Nat → Int32} (hL : L ≤ 2560) (C00 : lw_At p s m meth c9 b L xs) : W p l e room_1 s m #[Value.ref b] below meth c9 s.heap [] 0 0 (lw_Z below #[Value.ref b] s) (entryFrame m ([Value.ref b] : List Value).toArray 8) := by
  obtain ⟨hx, hb, hr, hml, hown, hts0, hX, hbl, hlocks, hgv⟩ := id C00
  obtain ⟨hN, hT, hC⟩ := lw_T hts0 hgv
  have hts := fun w h => hts0 w (wsL_law_in w h)
  have hA : ∀ q : Nat, s.heap.size ≤ q → lA s q := fun _ h => h
  obtain ⟨d0, i0, hKn0⟩ := u_known (C := RX0) (T := TX0) (N := 7) (n := 7) hts0 inX0 (hts0 (.instantiable RX0 7) (by decide +kernel))
  obtain ⟨d1, i1, hKn1⟩ := u_known (C := RX1) (T := TX1) (N := 3) (n := 3) hts0 inX1 (hts0 (.instantiable RX1 3) (by decide +kernel))
  obtain ⟨d2, i2, hKn2⟩ := u_known (C := RX2) (T := TX2) (N := 15) (n := 15) hts0 inX2 (hts0 (.instantiable RX2 15) (by decide +kernel))
  obtain ⟨d3, i3, hKn3⟩ := u_known (C := RX3) (T := TX3) (N := 4) (n := 4) hts0 inX3 (hts0 (.instantiable RX3 4) (by decide +kernel))
  obtain ⟨d4, i4, hKn4⟩ := u_known (C := RX4) (T := TX4) (N := 5) (n := 5) hts0 inX4 (hts0 (.instantiable RX4 5) (by decide +kernel))
  obtain ⟨d5, i5, hKn5⟩ := u_known (C := RX5) (T := TX5) (N := 5) (n := 5) hts0 inX5 (hts0 (.instantiable RX5 5) (by decide +kernel))
  obtain ⟨d6, i6, hKn6⟩ := u_known (C := RX6) (T := TX6) (N := 36) (n := 36) hts0 inX6 (hts0 (.instantiable RX6 36) (by decide +kernel))
  obtain ⟨D, hKc⟩ : ∃ D : va_G, ∀ (k : Nat) (q : vw_C), vwCl[k]? = some q → u_Kn s q.1 q.2.1 q.2.2 (D.1 k) (D.2 k) := by
    refine ⟨(fun k => match k with | 0 => d0 | 1 => d1 | 2 => d2 | 3 => d3 | 4 => d4 | 5 => d5 | _ => d6, fun k => match k with | 0 => i0 | 1 => i1 | 2 => i2 | 3 => i3 | 4 => i4 | 5 => i5 | _ => i6), ?_⟩
    intro k q hq
    match k, hq with
    | 0, hq => cases hq; exact hKn0
    | 1, hq => cases hq; exact hKn1
    | 2, hq => cases hq; exact hKn2
    | 3, hq => cases hq; exact hKn3
    | 4, hq => cases hq; exact hKn4
    | 5, hq => cases hq; exact hKn5
    | 6, hq => cases hq; exact hKn6
    | k + 7, hq => simp [vwCl] at hq
  have hS : va_S (lA s) s.heap s.heap [] := va_S.rf
  have hK : va_K D vwCl [] s := ⟨hKc, fun k q h => by simp at h⟩
  have hP : va_P D vwCl [] s.heap := fun k q h => by simp at h
  have hD : va_D (lA s) [] := ⟨fun i j p q h => by simp at h, fun k q h => by simp at h⟩
  have hl := lv_entry ([.ref b]) (n := 8) (Nat.le_of_ble_eq_true rfl)
  rw [lg_entry_eq]
  generalize (lg_sl ([.ref b]) ++ List.replicate (8 - (lg_sl ([.ref b])).length) Slot.unset).toArray = ls at hl ⊢
  have hl : lv_has ls 8 [(0, .ref b)] := hl
  refine va_new (ci := 5) (fs := [.null, .null, .null, .null, .null]) (C := RX5) (T := TX5) (N := 5) hx hb hts inlX5 tyX5 tyX5_ok hown (hts (.classLink RL 8 RX5) (by decide +kernel)) (hts (.instantiable RX5 5) (by decide +kernel)) (hts (.initialized RX5) (by decide +kernel)) hK hP hD hS hA rfl (fun j hj => by rcases (show j = 0 ∨ j = 1 ∨ j = 2 ∨ j = 3 ∨ j = 4 by omega) with rfl | rfl | rfl | rfl | rfl <;> rfl) (Nat.le_of_ble_eq_true rfl) (Nat.le_of_ble_eq_true rfl) dL_law_0 (fun q0 H hP hD hS => ?_)
  have hP : va_P D vwCl [(q0, .inr (5, [.null, .null, .null, .null, .null]))] H := hP
  have hD : va_D (lA s) [(q0, .inr (5, [.null, .null, .null, .null, .null]))] := hD
  refine lv_dup hx hb dL_law_3 rfl ?_
  have hFc := va_free (wc := [(q0, .inr (5, [.null, .null, .null, .null, .null]))]) hD hS hA [0] rfl
  refine va_callv (va_runI (As := []) (rest := [.ref q0]) ⟨hx, hb, hml, hown, hts⟩ (tX5_init l D q0 _) (cwI 0 hts gL_law_X5_init rfl rfl rfl (hts (.initialized RX5) (by decide +kernel)) (hts (.methodLink RL 67 yX5_init) (by decide +kernel)) (hts (.instanceMethod yX5_init) (by decide +kernel)) rfl (by decide +kernel) ⟨Nat.le_of_ble_eq_true rfl, Nat.le_of_ble_eq_true rfl⟩) ⟨fun a U g mk q => by obtain ⟨q0, q1, qP, qK, qD, qN⟩ := q; exact ⟨q0, q1, qP, va_K.moved (u := U) (U := U.calling g mk a) (Vm.Alike.refl U.vm) qK, qD, gN.same (s := U) (U := U.calling g mk a) cns_ok rfl qN⟩, fun U hU hW => ⟨rfl, by rw [hU], by rw [hU]; exact hP, va_K.moved hW.alike hK, hD.weaken (fun _ _ _ _ => trivial), hN.warm cns_ok hW⟩⟩ rfl rfl hl.1 rfl (lv_room (Nat.le_of_ble_eq_true rfl)) dL_law_4 ⟨Nat.le_of_ble_eq_true rfl, Nat.le_of_ble_eq_true rfl⟩) hS (fun q _ h => hFc q h) hFc (fun u1 t H1 locs ht hvm hw hB hz1 hk1 hS => ?_)
  obtain ⟨a, c⟩ := u1
  dsimp only at hw hB
  obtain ⟨hP1, hK1, hD1⟩ := hB
  rw [ht] at hP1
  have hK1 := va_K.moved hvm.symm hK1
  subst hw
  have hD1 : va_D (lA s) (cw a c C0) := hD1.weaken (fun k q hk h => hFc q.1 h)
  refine lv_astore_n (lv' := [(1, .ref (a 0)), (0, .ref b)]) hx hb dL_law_7 rfl hl (by decide) rfl (fun ls hl => ?_)
  refine va_new (ci := 6) (fs := [.int 0, .null, .null, .null, .int 0, .null, .null, .null, .int 0, .int 0, .int 0, .long 0, .long 0, .null, .int 0, .int 0, .int 0, .null, .null, .int 0, .int 0, .int 0, .null, .null, .long 0, .int 0, .int 0, .null, .null, .int 0, .null, .int 0, .int 0, .int 0, .int 0, .int 0]) (C := RX6) (T := TX6) (N := 36) hx hb hts inlX6 tyX6 tyX6_ok hown (hts (.classLink RL 68 RX6) (by decide +kernel)) (hts (.instantiable RX6 36) (by decide +kernel)) (hts (.initialized RX6) (by decide +kernel)) hK1 hP1 hD1 hS hA rfl (fun j hj => by rcases (show j = 0 ∨ j = 1 ∨ j = 2 ∨ j = 3 ∨ j = 4 ∨ j = 5 ∨ j = 6 ∨ j = 7 ∨ j = 8 ∨ j = 9 ∨ j = 10 ∨ j = 11 ∨ j = 12 ∨ j = 13 ∨ j = 14 ∨ j = 15 ∨ j = 16 ∨ j = 17 ∨ j = 18 ∨ j = 19 ∨ j = 20 ∨ j = 21 ∨ j = 22 ∨ j = 23 ∨ j = 24 ∨ j = 25 ∨ j = 26 ∨ j = 27 ∨ j = 28 ∨ j = 29 ∨ j = 30 ∨ j = 31 ∨ j = 32 ∨ j = 33 ∨ j = 34 ∨ j = 35 by omega) with rfl | rfl | rfl | rfl | rfl | rfl | rfl | rfl | rfl | rfl | rfl | rfl | rfl | rfl | rfl | rfl | rfl | rfl | rfl | rfl | rfl | rfl | rfl | rfl | rfl | rfl | rfl | rfl | rfl | rfl | rfl | rfl | rfl | rfl | rfl | rfl <;> rfl) (Nat.le_of_ble_eq_true rfl) (Nat.le_of_ble_eq_true rfl) dL_law_8 (fun q2 H hP hD hS => ?_)
  refine lv_dup hx hb dL_law_11 rfl ?_
  have hFc := gFreeL (X := []) (W1 := [(q2, .inr (6, [.int 0, .null, .null, .null, .int 0, .null, .null, .null, .int 0, .int 0, .int 0, .long 0, .long 0, .null, .int 0, .int 0, .int 0, .null, .null, .int 0, .int 0, .int 0, .null, .null, .long 0, .int 0, .int 0, .null, .null, .int 0, .null, .int 0, .int 0, .int 0, .int 0, .int 0]))]) hS (D_right hD) hA
  refine va_callv (va_runI (As := []) (rest := [.ref q2]) ⟨hx, hb, hml, hown, hts⟩ (tX6_init l D q2 _) (cwI 0 hts gL_law_X6_init rfl rfl rfl (hts (.initialized RX6) (by decide +kernel)) (hts (.methodLink RL 70 yX6_init) (by decide +kernel)) (hts (.instanceMethod yX6_init) (by decide +kernel)) rfl (by decide +kernel) ⟨Nat.le_of_ble_eq_true rfl, Nat.le_of_ble_eq_true rfl⟩) ⟨fun a U g mk q => by obtain ⟨q0, q1, qP, qK, qD⟩ := q; exact ⟨q0, q1, qP, va_K.moved (u := U) (U := U.calling g mk a) (Vm.Alike.refl U.vm) qK, qD⟩, fun U hU hW => ⟨rfl, by rw [hU], by rw [hU]; exact P_right hP, va_K.moved hW.alike hK, (D_right hD).weaken (fun _ _ _ _ => trivial)⟩⟩ rfl rfl hl.1 rfl (lv_room (Nat.le_of_ble_eq_true rfl)) dL_law_12 ⟨Nat.le_of_ble_eq_true rfl, Nat.le_of_ble_eq_true rfl⟩) hS (fun q _ h => hFc q h) hFc (fun u2 t H2 locs ht hvm hw hB hz1 hk1 hS => ?_)
  obtain ⟨a3, c2⟩ := u2
  dsimp only at hB
  obtain ⟨hP2, hK2, hD2⟩ := hB
  rw [ht] at hP2
  have hK2 := va_K.moved hvm.symm hK2
  have hPc : va_P D vwCl (cw a c C0) H2 := P_stay (A := lA s) (P_left hP) (D_swap hD) hk1
  have hDj : va_D (lA s) (cw a c C0 ++ iwX6 q2 a3 c2) := by
    refine va_D.app (D_left hD) (hD2.weaken (fun k q hk h => hFc q.1 h)) (fun i j p q hi hj e => ?_)
    rcases hD2.2 j q hj with ⟨k, e9, hk⟩ | h9
    · rw [← e] at hk
      exact D_apart hD i k p (p.1, e9) hi hk rfl
    · exact absurd ((P_left hP) i p hi).lt (by rw [e]; exact Nat.not_lt.mpr h9)
  obtain ⟨a2, ea2⟩ : ∃ a2 : Nat → Nat, a2 = fun k => if k = 0 then q2 else a3 (k - 1) := ⟨_, rfl⟩
  have eq2 : q2 = a2 0 := by rw [ea2]; rfl
  rw [iwX6_eq, ← ea2] at hP2 hDj
  rw [itX6_eq] at hK2
  rw [eq2]
  have hPj := P_app hPc hP2
  have hKj := hK1.app hK2
  refine lv_astore_n (lv' := [(2, .ref (a2 0)), (1, .ref (a 0)), (0, .ref b)]) hx hb dL_law_15 rfl hl (by decide) rfl (fun ls hl => ?_)
  refine lv_iconst (v := 1) hx hb dL_law_16 (by decide) ?_
  refine va_newa (atype := .long) (ty := .long) (n := 1) (N' := 1) (a0 := (1, .inr (.inl (fun _ => 0)))) hx hb (hts (.arrayClass .long) (by decide +kernel)) rfl hKj hPj hDj hS hA (fun _ => rfl) (by decide +kernel) (by decide +kernel) (by decide +kernel) (Nat.le_of_ble_eq_true rfl) (Nat.le_of_ble_eq_true rfl) dL_law_17 (fun o co H hKo hPo hDo hS => ?_)
  refine lv_astore_n (lv' := [(3, .ref o), (2, .ref (a2 0)), (1, .ref (a 0)), (0, .ref b)]) hx hb dL_law_19 rfl hl (by decide) rfl (fun ls hl => ?_)
  refine lv_iconst (v := 0) hx hb dL_law_20 (by decide) ?_
  refine lv_istore (lv' := [(4, .int (nI 0)), (3, .ref o), (2, .ref (a2 0)), (1, .ref (a 0)), (0, .ref b)]) hx hb dL_law_21 hl (by decide) rfl (fun ls hl => ?_)
  have hPw : va_P D vwCl (ww a c o co (C0, fun _ => 0) ++ mw a2 c2 M0) H := hPo.sub [0, 1, 2, 3, 4, 5, 6, 7, 8, 9, 10, 11, 12, 13, 14, 15, 16, 17, 18, 19, 20, 21, 22, 23, 39, 24, 25, 26, 27, 28, 29, 30, 31, 32, 33, 34, 35, 36, 37, 38] rfl
  have hDw0 : va_D (lA s) (ww a c o co (C0, fun _ => 0) ++ mw a2 c2 M0) := hDo.sub [0, 1, 2, 3, 4, 5, 6, 7, 8, 9, 10, 11, 12, 13, 14, 15, 16, 17, 18, 19, 20, 21, 22, 23, 39, 24, 25, 26, 27, 28, 29, 30, 31, 32, 33, 34, 35, 36, 37, 38] (by decide) rfl
  have hDw : ∀ (u : Lo) (M : St), va_D (lA s) (ww a c o co u ++ mw a2 c2 M) := fun u M => D_same hDw0 rfl
  have hKw : va_K D vwCl (wty c co) s := hKo.sub [0, 1, 2, 3, 4, 5, 6, 7, 8, 9, 10, 11, 12, 13, 14, 15, 16, 17, 32] rfl
  have hKm : va_K D vwCl (mty c2) s := hKo.sub [18, 19, 20, 21, 22, 23, 24, 25, 26, 27, 28, 29, 30, 31] rfl
  exact law_loop (Rel := Rel) hL ⟨C00, hl0, hKw, hKm, hN, hT, hC, hDw⟩ ok 512 0 _ _ (Nat.zero_le _) (by omega) (Nat.le_of_ble_eq_true rfl) (Nat.le_of_ble_eq_true rfl) (C0, fun _ => 0) M0 _ _ ls ok.1 hPw hS (lv_sub hl [4, 3, 2, 1, 0] rfl)
