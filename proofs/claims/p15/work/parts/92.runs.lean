/-! ===== the loop ===== -/
section LOOP
variable {xs : List Int32} {K ns : Nat} {s : St}
set_option maxRecDepth 20000 in
theorem L_sw (x0 : Int32) (hl : xs.length ≤ 3072) (hK : K + 6 ≤ xs.length) (h : INV s) (hns : ns ≤ 1802 + 806 * nm s) (go : ∀ s2 ns2, INV s2 → ns2 ≤ 1802 + 806 * nm s2 → Wp (some xs) 11 0 4 1553 (LV (i3 (K : Int))) [] (H s2) ns2 pQ) : Wp (some xs) 11 0 4 33 (LV (i3 (K : Int))) [.int (x0 &&& 63)] (H s) ns pQ := by
  obtain ⟨j, hj, e⟩ := pk_andE x0 (m := 63) 6 (by decide)
  rw [e]
  clear e
  match j, hj with
  | 0, _ => exact w_P (pc' := 268) (lv' := LV (i3 (K : Int))) (st' := []) rfl (by decide) rfl (L_0 hl hK h hns go)
  | 1, _ => exact w_P (pc' := 311) (lv' := LV (i3 (K : Int))) (st' := []) rfl (by decide) rfl (L_1 hl hK h hns go)
  | 2, _ => exact w_P (pc' := 384) (lv' := LV (i3 (K : Int))) (st' := []) rfl (by decide) rfl (L_2 hl hK h hns go)
  | 3, _ => exact w_P (pc' := 447) (lv' := LV (i3 (K : Int))) (st' := []) rfl (by decide) rfl (L_3 hl hK h hns go)
  | 4, _ => exact w_P (pc' := 480) (lv' := LV (i3 (K : Int))) (st' := []) rfl (by decide) rfl (L_4 hl hK h hns go)
  | 5, _ => exact w_P (pc' := 503) (lv' := LV (i3 (K : Int))) (st' := []) rfl (by decide) rfl (L_5 hl hK h hns go)
  | 6, _ => exact w_P (pc' := 536) (lv' := LV (i3 (K : Int))) (st' := []) rfl (by decide) rfl (L_6 hl hK h hns go)
  | 7, _ => exact w_P (pc' := 569) (lv' := LV (i3 (K : Int))) (st' := []) rfl (by decide) rfl (L_7 hl hK h hns go)
  | 8, _ => exact w_P (pc' := 592) (lv' := LV (i3 (K : Int))) (st' := []) rfl (by decide) rfl (L_8 hl hK h hns go)
  | 9, _ => exact w_P (pc' := 635) (lv' := LV (i3 (K : Int))) (st' := []) rfl (by decide) rfl (L_9 hl hK h hns go)
  | 10, _ => exact w_P (pc' := 658) (lv' := LV (i3 (K : Int))) (st' := []) rfl (by decide) rfl (L_10 hl hK h hns go)
  | 11, _ => exact w_P (pc' := 671) (lv' := LV (i3 (K : Int))) (st' := []) rfl (by decide) rfl (L_11 hl hK h hns go)
  | 12, _ => exact w_P (pc' := 704) (lv' := LV (i3 (K : Int))) (st' := []) rfl (by decide) rfl (L_12 hl hK h hns go)
  | 13, _ => exact w_P (pc' := 717) (lv' := LV (i3 (K : Int))) (st' := []) rfl (by decide) rfl (L_13 hl hK h hns go)
  | 14, _ => exact w_P (pc' := 740) (lv' := LV (i3 (K : Int))) (st' := []) rfl (by decide) rfl (L_14 hl hK h hns go)
  | 15, _ => exact w_P (pc' := 753) (lv' := LV (i3 (K : Int))) (st' := []) rfl (by decide) rfl (L_15 hl hK h hns go)
  | 16, _ => exact w_P (pc' := 766) (lv' := LV (i3 (K : Int))) (st' := []) rfl (by decide) rfl (L_16 hl hK h hns go)
  | 17, _ => exact w_P (pc' := 799) (lv' := LV (i3 (K : Int))) (st' := []) rfl (by decide) rfl (L_17 hl hK h hns go)
  | 18, _ => exact w_P (pc' := 822) (lv' := LV (i3 (K : Int))) (st' := []) rfl (by decide) rfl (L_18 hl hK h hns go)
  | 19, _ => exact w_P (pc' := 845) (lv' := LV (i3 (K : Int))) (st' := []) rfl (by decide) rfl (L_19 hl hK h hns go)
  | 20, _ => exact w_P (pc' := 858) (lv' := LV (i3 (K : Int))) (st' := []) rfl (by decide) rfl (L_20 hl hK h hns go)
  | 21, _ => exact w_P (pc' := 891) (lv' := LV (i3 (K : Int))) (st' := []) rfl (by decide) rfl (L_21 hl hK h hns go)
  | 22, _ => exact w_P (pc' := 904) (lv' := LV (i3 (K : Int))) (st' := []) rfl (by decide) rfl (L_22 hl hK h hns go)
  | 23, _ => exact w_P (pc' := 917) (lv' := LV (i3 (K : Int))) (st' := []) rfl (by decide) rfl (L_23 hl hK h hns go)
  | 24, _ => exact w_P (pc' := 950) (lv' := LV (i3 (K : Int))) (st' := []) rfl (by decide) rfl (L_24 hl hK h hns go)
  | 25, _ => exact w_P (pc' := 973) (lv' := LV (i3 (K : Int))) (st' := []) rfl (by decide) rfl (L_25 hl hK h hns go)
  | 26, _ => exact w_P (pc' := 1006) (lv' := LV (i3 (K : Int))) (st' := []) rfl (by decide) rfl (L_26 hl hK h hns go)
  | 27, _ => exact w_P (pc' := 1029) (lv' := LV (i3 (K : Int))) (st' := []) rfl (by decide) rfl (L_27 hl hK h hns go)
  | 28, _ => exact w_P (pc' := 1052) (lv' := LV (i3 (K : Int))) (st' := []) rfl (by decide) rfl (L_28 hl hK h hns go)
  | 29, _ => exact w_P (pc' := 1065) (lv' := LV (i3 (K : Int))) (st' := []) rfl (by decide) rfl (L_29 hl hK h hns go)
  | 30, _ => exact w_P (pc' := 1088) (lv' := LV (i3 (K : Int))) (st' := []) rfl (by decide) rfl (L_30 hl hK h hns go)
  | 31, _ => exact w_P (pc' := 1121) (lv' := LV (i3 (K : Int))) (st' := []) rfl (by decide) rfl (L_31 hl hK h hns go)
  | 32, _ => exact w_P (pc' := 1134) (lv' := LV (i3 (K : Int))) (st' := []) rfl (by decide) rfl (L_32 hl hK h hns go)
  | 33, _ => exact w_P (pc' := 1157) (lv' := LV (i3 (K : Int))) (st' := []) rfl (by decide) rfl (L_33 hl hK h hns go)
  | 34, _ => exact w_P (pc' := 1180) (lv' := LV (i3 (K : Int))) (st' := []) rfl (by decide) rfl (L_34 hl hK h hns go)
  | 35, _ => exact w_P (pc' := 1193) (lv' := LV (i3 (K : Int))) (st' := []) rfl (by decide) rfl (L_35 hl hK h hns go)
  | 36, _ => exact w_P (pc' := 1226) (lv' := LV (i3 (K : Int))) (st' := []) rfl (by decide) rfl (L_36 hl hK h hns go)
  | 37, _ => exact w_P (pc' := 1249) (lv' := LV (i3 (K : Int))) (st' := []) rfl (by decide) rfl (L_37 hl hK h hns go)
  | 38, _ => exact w_P (pc' := 1272) (lv' := LV (i3 (K : Int))) (st' := []) rfl (by decide) rfl (L_38 hl hK h hns go)
  | 39, _ => exact w_P (pc' := 1295) (lv' := LV (i3 (K : Int))) (st' := []) rfl (by decide) rfl (L_39 hl hK h hns go)
  | 40, _ => exact w_P (pc' := 1318) (lv' := LV (i3 (K : Int))) (st' := []) rfl (by decide) rfl (L_40 hl hK h hns go)
  | 41, _ => exact w_P (pc' := 1331) (lv' := LV (i3 (K : Int))) (st' := []) rfl (by decide) rfl (L_41 hl hK h hns go)
  | 42, _ => exact w_P (pc' := 1344) (lv' := LV (i3 (K : Int))) (st' := []) rfl (by decide) rfl (L_42 hl hK h hns go)
  | 43, _ => exact w_P (pc' := 1357) (lv' := LV (i3 (K : Int))) (st' := []) rfl (by decide) rfl (L_43 hl hK h hns go)
  | 44, _ => exact w_P (pc' := 1370) (lv' := LV (i3 (K : Int))) (st' := []) rfl (by decide) rfl (L_44 hl hK h hns go)
  | 45, _ => exact w_P (pc' := 1383) (lv' := LV (i3 (K : Int))) (st' := []) rfl (by decide) rfl (L_45 hl hK h hns go)
  | 46, _ => exact w_P (pc' := 1396) (lv' := LV (i3 (K : Int))) (st' := []) rfl (by decide) rfl (L_46 hl hK h hns go)
  | 47, _ => exact w_P (pc' := 1419) (lv' := LV (i3 (K : Int))) (st' := []) rfl (by decide) rfl (L_47 hl hK h hns go)
  | 48, _ => exact w_P (pc' := 1432) (lv' := LV (i3 (K : Int))) (st' := []) rfl (by decide) rfl (L_48 hl hK h hns go)
  | 49, _ => exact w_P (pc' := 1445) (lv' := LV (i3 (K : Int))) (st' := []) rfl (by decide) rfl (L_49 hl hK h hns go)
  | 50, _ => exact w_P (pc' := 1458) (lv' := LV (i3 (K : Int))) (st' := []) rfl (by decide) rfl (L_50 hl hK h hns go)
  | 51, _ => exact w_P (pc' := 1481) (lv' := LV (i3 (K : Int))) (st' := []) rfl (by decide) rfl (L_51 hl hK h hns go)
  | 52, _ => exact w_P (pc' := 1504) (lv' := LV (i3 (K : Int))) (st' := []) rfl (by decide) rfl (L_52 hl hK h hns go)
  | 53, _ => exact w_P (pc' := 1517) (lv' := LV (i3 (K : Int))) (st' := []) rfl (by decide) rfl (L_53 hl hK h hns go)
  | 54, _ => exact w_P (pc' := 1530) (lv' := LV (i3 (K : Int))) (st' := []) rfl (by decide) rfl (L_54 hl hK h hns go)
  | 55, _ => exact w_P (pc' := 1553) (lv' := LV (i3 (K : Int))) (st' := []) rfl (by decide) rfl (go s ns h hns)
  | 56, _ => exact w_P (pc' := 1553) (lv' := LV (i3 (K : Int))) (st' := []) rfl (by decide) rfl (go s ns h hns)
  | 57, _ => exact w_P (pc' := 1553) (lv' := LV (i3 (K : Int))) (st' := []) rfl (by decide) rfl (go s ns h hns)
  | 58, _ => exact w_P (pc' := 1553) (lv' := LV (i3 (K : Int))) (st' := []) rfl (by decide) rfl (go s ns h hns)
  | 59, _ => exact w_P (pc' := 1553) (lv' := LV (i3 (K : Int))) (st' := []) rfl (by decide) rfl (go s ns h hns)
  | 60, _ => exact w_P (pc' := 1553) (lv' := LV (i3 (K : Int))) (st' := []) rfl (by decide) rfl (go s ns h hns)
  | 61, _ => exact w_P (pc' := 1553) (lv' := LV (i3 (K : Int))) (st' := []) rfl (by decide) rfl (go s ns h hns)
  | 62, _ => exact w_P (pc' := 1553) (lv' := LV (i3 (K : Int))) (st' := []) rfl (by decide) rfl (go s ns h hns)
  | 63, _ => exact w_P (pc' := 1553) (lv' := LV (i3 (K : Int))) (st' := []) rfl (by decide) rfl (go s ns h hns)
  | n + 64, h => omega
theorem L_end (hl : xs.length ≤ 3072) (hK : xs.length < K + 6) (hK2 : K ≤ xs.length + 6) (h : INV s) (hns : ns ≤ 1802 + 806 * nm s) : Wp (some xs) 11 0 4 18 (LV (i3 (K : Int))) [] (H s) ns pQ := by
  have h6 : (Int8.ofInt 6).toInt32 = i3 6 := by decide +kernel
  have e : Int32.ofNat xs.length - i3 6 = i3 ((xs.length : Int) - 6) := by rw [i3_nat, i3_sub]
  have n2 := h.2.1.nm2
  refine w_P rfl (by decide) rfl ?_
  refine w_P rfl (by decide) rfl ?_
  refine w_R (pc' := 21) (st' := [.int (Int32.ofNat xs.length), .int (i3 (K : Int))]) rfl (by decide) rfl ?_
  refine w_P (pc' := 23) (lv' := LV (i3 (K : Int))) (st' := [.int (i3 6), .int (Int32.ofNat xs.length), .int (i3 (K : Int))]) rfl (by decide) (by rw [← h6]; rfl) ?_
  refine w_P (pc' := 24) (lv' := LV (i3 (K : Int))) (st' := [.int (i3 ((xs.length : Int) - 6)), .int (i3 (K : Int))]) rfl (by decide) (by rw [← e]; rfl) ?_
  have g : i3 ((xs.length : Int) - 6) < i3 (K : Int) := by
    rw [i3_lt ⟨by omega, by omega⟩ ⟨by omega, by omega⟩]; omega
  refine w_P (pc' := 1559) (lv' := LV (i3 (K : Int))) (st' := []) rfl (by decide) (by clear e; generalize i3 ((xs.length : Int) - 6) = z at g ⊢; generalize i3 (K : Int) = y at g ⊢; simp [t_P, t_i2, t_icmp, g]) ?_
  refine w_P (st' := [.int 1]) rfl (by decide) rfl ?_
  exact w_ret (r := some (.int 1)) rfl (by decide) rfl ⟨rfl, by show ns ≤ _; omega⟩
theorem L_go (hl : xs.length ≤ 3072) (hK : K + 6 ≤ xs.length) (h : INV s) (hns : ns ≤ 1802 + 806 * nm s) (go : ∀ s2 ns2, INV s2 → ns2 ≤ 1802 + 806 * nm s2 → Wp (some xs) 11 0 4 18 (LV (i3 ((K + 6 : Nat) : Int))) [] (H s2) ns2 pQ) : Wp (some xs) 11 0 4 18 (LV (i3 (K : Int))) [] (H s) ns pQ := by
  have h6 : (Int8.ofInt 6).toInt32 = i3 6 := by decide +kernel
  have h63 : (Int8.ofInt 63).toInt32 = 63 := by decide +kernel
  have e : Int32.ofNat xs.length - i3 6 = i3 ((xs.length : Int) - 6) := by rw [i3_nat, i3_sub]
  refine w_P rfl (by decide) rfl ?_
  refine w_P rfl (by decide) rfl ?_
  refine w_R (pc' := 21) (st' := [.int (Int32.ofNat xs.length), .int (i3 (K : Int))]) rfl (by decide) rfl ?_
  refine w_P (pc' := 23) (lv' := LV (i3 (K : Int))) (st' := [.int (i3 6), .int (Int32.ofNat xs.length), .int (i3 (K : Int))]) rfl (by decide) (by rw [← h6]; rfl) ?_
  refine w_P (pc' := 24) (lv' := LV (i3 (K : Int))) (st' := [.int (i3 ((xs.length : Int) - 6)), .int (i3 (K : Int))]) rfl (by decide) (by rw [← e]; rfl) ?_
  have g : ¬ i3 ((xs.length : Int) - 6) < i3 (K : Int) := by
    rw [i3_lt ⟨by omega, by omega⟩ ⟨by omega, by omega⟩]; omega
  refine w_P (pc' := 27) (lv' := LV (i3 (K : Int))) (st' := []) rfl (by decide) (by clear e; generalize i3 ((xs.length : Int) - 6) = z at g ⊢; generalize i3 (K : Int) = y at g ⊢; simp [t_P, t_i2, t_icmp, g]) ?_
  refine w_P rfl (by decide) rfl ?_
  refine w_P rfl (by decide) rfl ?_
  have sc0 : t_R (some xs) 4 .iaload 29 0 0 [.int (i3 (K : Int)), .ref 1000] (H s) = some (30, [.int (xs.getD K 0)]) := by
    have := sc_at (j := 0) (K := K) hl (by omega) 29 [] (H s)
    have z : i3 (K : Int) + Int32.ofInt ((0 : Nat) : Int) = i3 (K : Int) := Int32.add_zero _
    rw [z] at this
    exact this
  refine w_R (st' := [.int (xs.getD K 0)]) rfl (by decide) sc0 ?_
  refine w_P (pc' := 32) (lv' := LV (i3 (K : Int))) (st' := [.int 63, .int (xs.getD K 0)]) rfl (by decide) (by rw [← h63]; rfl) ?_
  refine w_P rfl (by decide) rfl ?_
  refine L_sw _ hl hK h hns (fun s2 ns2 i2 n2 => ?_)
  have e2 : i3 (K : Int) + Int32.ofInt 6 = i3 ((K + 6 : Nat) : Int) := by rw [i3_add]; rfl
  refine w_P (pc' := 1556) (lv' := LV (i3 ((K + 6 : Nat) : Int))) (st' := []) rfl (by decide) (by rw [← e2]; rfl) ?_
  refine w_P rfl (by decide) rfl ?_
  exact go s2 ns2 i2 n2
theorem L_loop (hl : xs.length ≤ 3072) : ∀ (f K : Nat) (s : St) (ns : Nat), xs.length + 6 ≤ K + f → K ≤ xs.length + 6 → INV s → ns ≤ 1802 + 806 * nm s → Wp (some xs) 11 0 4 18 (LV (i3 (K : Int))) [] (H s) ns pQ := by
  intro f
  induction f with
  | zero =>
    intro K s ns h1 h2 h hns
    refine L_end hl (by omega) (by omega) h hns
  | succ f ih =>
    intro K s ns h1 h2 h hns
    by_cases c : K + 6 ≤ xs.length
    · refine L_go hl c h hns (fun s2 ns2 i2 n2 => ?_)
      exact ih (K + 6) s2 ns2 (by omega) (by omega) i2 n2
    · exact L_end hl (by omega) (by omega) h hns
theorem L_begin (h : Wp (some xs) 11 0 4 18 (LV (i3 ((0 : Nat) : Int))) [] (H s00) 1802 pQ) : Wp (some xs) 11 0 4 0 [(0, .ref 1000)] [] [] 0 pQ := by
  rw [← TH0_eq] at h
  refine w_A (add := [.inr (7, [.null, .null, .null, .null, .null, .null, .null, .null, .null, .null, .int 0])]) (n1 := 11) rfl (by decide) rfl rfl ?_
  refine w_P rfl (by decide) rfl ?_
  refine w_call (th' := THA) rfl (by decide) rfl rfl ⟨Nat.le_of_ble_eq_true rfl, Nat.le_of_ble_eq_true rfl⟩ p_newA (Or.inr rfl) ?_
  refine w_P (lv' := [(1, .ref 0), (0, .ref 1000)]) rfl (by decide) rfl ?_
  refine w_A (add := [.inr (8, [.null, .null, .null, .null, .null, .null, .null, .int 0, .null, .int 0, .int 0, .null, .null, .null, .int 0, .null, .int 0, .null, .null, .int 0, .int 0, .int 0, .int 0, .int 0, .null, .int 0, .null, .int 0, .int 0, .int 0, .int 0])]) (n1 := 31) (st' := [.ref 44]) rfl (by decide) rfl (by decide +kernel) ?_
  refine w_P rfl (by decide) rfl ?_
  refine w_call (th' := TH0) rfl (by decide) rfl rfl ⟨Nat.le_of_ble_eq_true rfl, Nat.le_of_ble_eq_true rfl⟩ p_newB (Or.inr (by decide +kernel)) ?_
  refine w_P (lv' := [(2, .ref 44), (1, .ref 0), (0, .ref 1000)]) rfl (by decide) rfl ?_
  refine w_P (st' := [.int 0]) rfl (by decide) rfl ?_
  refine w_P (lv' := LV (i3 ((0 : Nat) : Int))) rfl (by decide) rfl ?_
  exact h
end LOOP
theorem s_runs : s_Runs := by
  intro xs hL
  have key : Wp (some xs) 11 0 4 0 [(0, .ref 1000)] [] [] 0 pQ := L_begin (L_loop hL (xs.length + 6) 0 s00 1802 (by omega) (by omega) INV00 (by show 1802 ≤ 1802 + 806 * 0; omega))
  obtain ⟨n, ⟨r, th', ns'⟩, h1, h2, h3⟩ := key
  have h2 : r = some (.int 1) := h2
  subst h2
  rw [f_ct, f_mi] at h1
  exact ⟨n, th', ns', h1, h3⟩
