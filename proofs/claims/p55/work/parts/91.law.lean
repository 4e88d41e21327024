section
/-! ===== the law, case by case ===== -/
abbrev LV (x : Int32) : tL := [(3, .int x), (2, .ref 44), (1, .ref 0), (0, .ref 1000)]
def pQ : t_Res → Prop := fun res => res.1 = some (.int 1) ∧ res.2.2 ≤ 7302250
theorem sc_at {xs : List Int32} {K j : Nat} (hl : xs.length ≤ 3072) (h : K + j < xs.length) (pc : Nat) (r : List Value) (th : tH) : t_R (some xs) 4 .iaload pc 0 0 (.int (i3 (K : Int) + Int32.ofInt (j : Int)) :: .ref 1000 :: r) th = some (pc + 1, .int (xs.getD (K + j) 0) :: r) := by
  have e : i3 (K : Int) + Int32.ofInt (j : Int) = i3 ((K + j : Nat) : Int) := by rw [i3_add]; rfl
  rw [e]
  show (if i3 ((K + j : Nat) : Int) < 0 then none else (xs[(i3 ((K + j : Nat) : Int)).toNatClampNeg]?).map (fun x => (pc + 1, .int x :: r))) = _
  rw [if_neg (i3n_nneg (by omega)), cl_i3 (by omega), List.getElem?_eq_getElem h, Option.map_some, List.getD_eq_getElem?_getD, List.getElem?_eq_getElem h]
  rfl
theorem p_eqi (o : Int) (pc a1 : Nat) (lv : tL) (z : Int32) : t_P (.if_icmp .eq o) pc a1 4 lv [.int z, .int z] = some (a1, lv, []) := by simp [t_P, t_i2, t_icmp]
theorem p_eql (pc : Nat) (lv : tL) (z : Int64) : t_P .lcmp pc 0 4 lv [.long z, .long z] = some (pc + 1, lv, [.int 0]) := by simp [t_P, t_j2, lg_cmp]
theorem g0 (s : St) : ∃ fs, (H s)[0]? = some (.inr (7, fs)) := ⟨_, rfl⟩
theorem lv_ok {n : Nat} (x : Int32) (h : 44 < n) (rest : List Value) (hr : ∀ n, rest.all (t_okv n) = true) : (t_okl n (LV x) && rest.all (t_okv n)) = true := by
  rw [hr, Bool.and_true]
  show (true && (t_okv n (.ref 44) && (t_okv n (.ref 0) && (t_okv n (.ref 1000) && true)))) = true
  rw [vN h, vN (show 0 < n by omega)]
  show (true && (true && (true && ((decide (1000 < n) || decide (1000 ≤ 1000)) && true)))) = true
  simp
section LAW
variable {xs : List Int32} {K ns : Nat} {s : St}
theorem L_0 (hl : xs.length ≤ 3072) (hK : K + 6 ≤ xs.length) (h : INV s) (hns : ns ≤ 1802 + 806 * nm s) (go : ∀ s2 ns2, INV s2 → ns2 ≤ 1802 + 806 * nm s2 → Wp (some xs) 11 0 4 1553 (LV (i3 (K : Int))) [] (H s2) ns2 pQ) : Wp (some xs) 11 0 4 268 (LV (i3 (K : Int))) [] (H s) ns pQ := by
  obtain ⟨v, w, n1, s1, n2, s2, m2, e1, e2, i2, hm, hl1, hl2, hE⟩ := B_0 h (xs.getD (K + 1) 0) (xs.getD (K + 2) 0) (xs.getD (K + 3) 0)
  obtain ⟨_, hf0⟩ := g0 s
  obtain ⟨_, hf1⟩ := g44 s1
  have h44 := (List.getElem?_eq_some_iff.mp hf1).1
  refine w_P rfl (by decide) rfl ?_
  refine w_P rfl (by decide) rfl ?_
  refine w_P rfl (by decide) rfl ?_
  refine w_P rfl (by decide) rfl ?_
  refine w_P rfl (by decide) rfl ?_
  refine w_R rfl (by decide) (sc_at (j := 1) hl (by omega) _ _ _) ?_
  refine w_P rfl (by decide) rfl ?_
  refine w_P rfl (by decide) rfl ?_
  refine w_P rfl (by decide) rfl ?_
  refine w_P rfl (by decide) rfl ?_
  refine w_R rfl (by decide) (sc_at (j := 2) hl (by omega) _ _ _) ?_
  refine w_P rfl (by decide) rfl ?_
  refine w_P rfl (by decide) rfl ?_
  refine w_P rfl (by decide) rfl ?_
  refine w_P rfl (by decide) rfl ?_
  refine w_R rfl (by decide) (sc_at (j := 3) hl (by omega) _ _ _) ?_
  refine w_call (d := 10) (nL' := 5) (na := 3) (rc := 7) (vs := [.ref 0, .int (xs.getD (K + 1) 0), .int (xs.getD (K + 2) 0), .int (xs.getD (K + 3) 0)]) (rest := []) rfl (by decide) rfl (t_cutV (A := [.int (xs.getD (K + 3) 0), .int (xs.getD (K + 2) 0), .int (xs.getD (K + 1) 0)]) (rest := []) rfl hf0) ⟨Nat.le_of_ble_eq_true rfl, Nat.le_of_ble_eq_true rfl⟩ e1 (Or.inl hl1) ?_
  refine w_P (pc' := 288) (lv' := LV (i3 (K : Int))) (st' := []) rfl (by decide) rfl ?_
  refine w_P rfl (by decide) rfl ?_
  refine w_P rfl (by decide) rfl ?_
  refine w_P rfl (by decide) rfl ?_
  refine w_P rfl (by decide) rfl ?_
  refine w_P rfl (by decide) rfl ?_
  refine w_R rfl (by decide) (sc_at (j := 1) hl (by omega) _ _ _) ?_
  refine w_P rfl (by decide) rfl ?_
  refine w_P rfl (by decide) rfl ?_
  refine w_P rfl (by decide) rfl ?_
  refine w_P rfl (by decide) rfl ?_
  refine w_R rfl (by decide) (sc_at (j := 2) hl (by omega) _ _ _) ?_
  refine w_P rfl (by decide) rfl ?_
  refine w_P rfl (by decide) rfl ?_
  refine w_P rfl (by decide) rfl ?_
  refine w_P rfl (by decide) rfl ?_
  refine w_R rfl (by decide) (sc_at (j := 3) hl (by omega) _ _ _) ?_
  refine w_call (d := 10) (nL' := 5) (na := 3) (rc := 8) (vs := [.ref 44, .int (xs.getD (K + 1) 0), .int (xs.getD (K + 2) 0), .int (xs.getD (K + 3) 0)]) (rest := []) rfl (by decide) rfl (t_cutV (A := [.int (xs.getD (K + 3) 0), .int (xs.getD (K + 2) 0), .int (xs.getD (K + 1) 0)]) (rest := []) rfl hf1) ⟨Nat.le_of_ble_eq_true rfl, Nat.le_of_ble_eq_true rfl⟩ e2 (Or.inr (lv_ok _ (by omega) [] (fun _ => rfl))) ?_
  refine w_P (pc' := 308) (lv' := LV (i3 (K : Int))) (st' := []) rfl (by decide) rfl ?_
  refine w_P rfl (by decide) rfl ?_
  exact go s2 _ i2 (by omega)
theorem L_1 (hl : xs.length ≤ 3072) (hK : K + 6 ≤ xs.length) (h : INV s) (hns : ns ≤ 1802 + 806 * nm s) (go : ∀ s2 ns2, INV s2 → ns2 ≤ 1802 + 806 * nm s2 → Wp (some xs) 11 0 4 1553 (LV (i3 (K : Int))) [] (H s2) ns2 pQ) : Wp (some xs) 11 0 4 311 (LV (i3 (K : Int))) [] (H s) ns pQ := by
  obtain ⟨v, w, n1, s1, n2, s2, m2, e1, e2, i2, hm, hl1, hl2, hE⟩ := B_1 h (xs.getD (K + 1) 0) (xs.getD (K + 2) 0) (((xs.getD (K + 3) 0).toInt64 <<< ((Int8.ofInt 32).toInt32.toInt64 &&& 63)) ||| ((xs.getD (K + 4) 0).toInt64 &&& Int64.ofNat 4294967295))
  obtain ⟨_, hf0⟩ := g0 s
  obtain ⟨_, hf1⟩ := g44 s1
  have h44 := (List.getElem?_eq_some_iff.mp hf1).1
  refine w_P rfl (by decide) rfl ?_
  refine w_P rfl (by decide) rfl ?_
  refine w_P rfl (by decide) rfl ?_
  refine w_P rfl (by decide) rfl ?_
  refine w_P rfl (by decide) rfl ?_
  refine w_R rfl (by decide) (sc_at (j := 1) hl (by omega) _ _ _) ?_
  refine w_P rfl (by decide) rfl ?_
  refine w_P rfl (by decide) rfl ?_
  refine w_P rfl (by decide) rfl ?_
  refine w_P rfl (by decide) rfl ?_
  refine w_R rfl (by decide) (sc_at (j := 2) hl (by omega) _ _ _) ?_
  refine w_P rfl (by decide) rfl ?_
  refine w_P rfl (by decide) rfl ?_
  refine w_P rfl (by decide) rfl ?_
  refine w_P rfl (by decide) rfl ?_
  refine w_R rfl (by decide) (sc_at (j := 3) hl (by omega) _ _ _) ?_
  refine w_P rfl (by decide) rfl ?_
  refine w_P rfl (by decide) rfl ?_
  refine w_P rfl (by decide) rfl ?_
  refine w_P rfl (by decide) rfl ?_
  refine w_P rfl (by decide) rfl ?_
  refine w_P rfl (by decide) rfl ?_
  refine w_P rfl (by decide) rfl ?_
  refine w_R rfl (by decide) (sc_at (j := 4) hl (by omega) _ _ _) ?_
  refine w_P rfl (by decide) rfl ?_
  refine w_P rfl (by decide) rfl ?_
  refine w_P rfl (by decide) rfl ?_
  refine w_P rfl (by decide) rfl ?_
  refine w_call (d := 10) (nL' := 6) (na := 3) (rc := 7) (vs := [.ref 0, .int (xs.getD (K + 1) 0), .int (xs.getD (K + 2) 0), .long (((xs.getD (K + 3) 0).toInt64 <<< ((Int8.ofInt 32).toInt32.toInt64 &&& 63)) ||| ((xs.getD (K + 4) 0).toInt64 &&& Int64.ofNat 4294967295))]) (rest := []) rfl (by decide) rfl (t_cutV (A := [.long (((xs.getD (K + 3) 0).toInt64 <<< ((Int8.ofInt 32).toInt32.toInt64 &&& 63)) ||| ((xs.getD (K + 4) 0).toInt64 &&& Int64.ofNat 4294967295)), .int (xs.getD (K + 2) 0), .int (xs.getD (K + 1) 0)]) (rest := []) rfl hf0) ⟨Nat.le_of_ble_eq_true rfl, Nat.le_of_ble_eq_true rfl⟩ e1 (Or.inl hl1) ?_
  refine w_P (pc' := 346) (lv' := LV (i3 (K : Int))) (st' := []) rfl (by decide) rfl ?_
  refine w_P rfl (by decide) rfl ?_
  refine w_P rfl (by decide) rfl ?_
  refine w_P rfl (by decide) rfl ?_
  refine w_P rfl (by decide) rfl ?_
  refine w_P rfl (by decide) rfl ?_
  refine w_R rfl (by decide) (sc_at (j := 1) hl (by omega) _ _ _) ?_
  refine w_P rfl (by decide) rfl ?_
  refine w_P rfl (by decide) rfl ?_
  refine w_P rfl (by decide) rfl ?_
  refine w_P rfl (by decide) rfl ?_
  refine w_R rfl (by decide) (sc_at (j := 2) hl (by omega) _ _ _) ?_
  refine w_P rfl (by decide) rfl ?_
  refine w_P rfl (by decide) rfl ?_
  refine w_P rfl (by decide) rfl ?_
  refine w_P rfl (by decide) rfl ?_
  refine w_R rfl (by decide) (sc_at (j := 3) hl (by omega) _ _ _) ?_
  refine w_P rfl (by decide) rfl ?_
  refine w_P rfl (by decide) rfl ?_
  refine w_P rfl (by decide) rfl ?_
  refine w_P rfl (by decide) rfl ?_
  refine w_P rfl (by decide) rfl ?_
  refine w_P rfl (by decide) rfl ?_
  refine w_P rfl (by decide) rfl ?_
  refine w_R rfl (by decide) (sc_at (j := 4) hl (by omega) _ _ _) ?_
  refine w_P rfl (by decide) rfl ?_
  refine w_P rfl (by decide) rfl ?_
  refine w_P rfl (by decide) rfl ?_
  refine w_P rfl (by decide) rfl ?_
  refine w_call (d := 10) (nL' := 6) (na := 3) (rc := 8) (vs := [.ref 44, .int (xs.getD (K + 1) 0), .int (xs.getD (K + 2) 0), .long (((xs.getD (K + 3) 0).toInt64 <<< ((Int8.ofInt 32).toInt32.toInt64 &&& 63)) ||| ((xs.getD (K + 4) 0).toInt64 &&& Int64.ofNat 4294967295))]) (rest := []) rfl (by decide) rfl (t_cutV (A := [.long (((xs.getD (K + 3) 0).toInt64 <<< ((Int8.ofInt 32).toInt32.toInt64 &&& 63)) ||| ((xs.getD (K + 4) 0).toInt64 &&& Int64.ofNat 4294967295)), .int (xs.getD (K + 2) 0), .int (xs.getD (K + 1) 0)]) (rest := []) rfl hf1) ⟨Nat.le_of_ble_eq_true rfl, Nat.le_of_ble_eq_true rfl⟩ e2 (Or.inr (lv_ok _ (by omega) [] (fun _ => rfl))) ?_
  refine w_P (pc' := 381) (lv' := LV (i3 (K : Int))) (st' := []) rfl (by decide) rfl ?_
  refine w_P rfl (by decide) rfl ?_
  exact go s2 _ i2 (by omega)
theorem L_2 (hl : xs.length ≤ 3072) (hK : K + 6 ≤ xs.length) (h : INV s) (hns : ns ≤ 1802 + 806 * nm s) (go : ∀ s2 ns2, INV s2 → ns2 ≤ 1802 + 806 * nm s2 → Wp (some xs) 11 0 4 1553 (LV (i3 (K : Int))) [] (H s2) ns2 pQ) : Wp (some xs) 11 0 4 384 (LV (i3 (K : Int))) [] (H s) ns pQ := by
  obtain ⟨v, w, n1, s1, n2, s2, m2, e1, e2, i2, hm, hl1, hl2, hE⟩ := B_2 h (xs.getD (K + 1) 0) (xs.getD (K + 2) 0) (xs.getD (K + 3) 0) (xs.getD (K + 4) 0) (xs.getD (K + 5) 0)
  obtain ⟨_, hf0⟩ := g0 s
  obtain ⟨_, hf1⟩ := g44 s1
  have h44 := (List.getElem?_eq_some_iff.mp hf1).1
  refine w_P rfl (by decide) rfl ?_
  refine w_P rfl (by decide) rfl ?_
  refine w_P rfl (by decide) rfl ?_
  refine w_P rfl (by decide) rfl ?_
  refine w_P rfl (by decide) rfl ?_
  refine w_R rfl (by decide) (sc_at (j := 1) hl (by omega) _ _ _) ?_
  refine w_P rfl (by decide) rfl ?_
  refine w_P rfl (by decide) rfl ?_
  refine w_P rfl (by decide) rfl ?_
  refine w_P rfl (by decide) rfl ?_
  refine w_R rfl (by decide) (sc_at (j := 2) hl (by omega) _ _ _) ?_
  refine w_P rfl (by decide) rfl ?_
  refine w_P rfl (by decide) rfl ?_
  refine w_P rfl (by decide) rfl ?_
  refine w_P rfl (by decide) rfl ?_
  refine w_R rfl (by decide) (sc_at (j := 3) hl (by omega) _ _ _) ?_
  refine w_P rfl (by decide) rfl ?_
  refine w_P rfl (by decide) rfl ?_
  refine w_P rfl (by decide) rfl ?_
  refine w_P rfl (by decide) rfl ?_
  refine w_R rfl (by decide) (sc_at (j := 4) hl (by omega) _ _ _) ?_
  refine w_P rfl (by decide) rfl ?_
  refine w_P rfl (by decide) rfl ?_
  refine w_P rfl (by decide) rfl ?_
  refine w_P rfl (by decide) rfl ?_
  refine w_R rfl (by decide) (sc_at (j := 5) hl (by omega) _ _ _) ?_
  refine w_call (d := 10) (nL' := 8) (na := 5) (rc := 7) (vs := [.ref 0, .int (xs.getD (K + 1) 0), .int (xs.getD (K + 2) 0), .int (xs.getD (K + 3) 0), .int (xs.getD (K + 4) 0), .int (xs.getD (K + 5) 0)]) (rest := []) rfl (by decide) rfl (t_cutV (A := [.int (xs.getD (K + 5) 0), .int (xs.getD (K + 4) 0), .int (xs.getD (K + 3) 0), .int (xs.getD (K + 2) 0), .int (xs.getD (K + 1) 0)]) (rest := []) rfl hf0) ⟨Nat.le_of_ble_eq_true rfl, Nat.le_of_ble_eq_true rfl⟩ e1 (Or.inl hl1) ?_
  refine w_P (pc' := 414) (lv' := LV (i3 (K : Int))) (st' := []) rfl (by decide) rfl ?_
  refine w_P rfl (by decide) rfl ?_
  refine w_P rfl (by decide) rfl ?_
  refine w_P rfl (by decide) rfl ?_
  refine w_P rfl (by decide) rfl ?_
  refine w_P rfl (by decide) rfl ?_
  refine w_R rfl (by decide) (sc_at (j := 1) hl (by omega) _ _ _) ?_
  refine w_P rfl (by decide) rfl ?_
  refine w_P rfl (by decide) rfl ?_
  refine w_P rfl (by decide) rfl ?_
  refine w_P rfl (by decide) rfl ?_
  refine w_R rfl (by decide) (sc_at (j := 2) hl (by omega) _ _ _) ?_
  refine w_P rfl (by decide) rfl ?_
  refine w_P rfl (by decide) rfl ?_
  refine w_P rfl (by decide) rfl ?_
  refine w_P rfl (by decide) rfl ?_
  refine w_R rfl (by decide) (sc_at (j := 3) hl (by omega) _ _ _) ?_
  refine w_P rfl (by decide) rfl ?_
  refine w_P rfl (by decide) rfl ?_
  refine w_P rfl (by decide) rfl ?_
  refine w_P rfl (by decide) rfl ?_
  refine w_R rfl (by decide) (sc_at (j := 4) hl (by omega) _ _ _) ?_
  refine w_P rfl (by decide) rfl ?_
  refine w_P rfl (by decide) rfl ?_
  refine w_P rfl (by decide) rfl ?_
  refine w_P rfl (by decide) rfl ?_
  refine w_R rfl (by decide) (sc_at (j := 5) hl (by omega) _ _ _) ?_
  refine w_call (d := 10) (nL' := 7) (na := 5) (rc := 8) (vs := [.ref 44, .int (xs.getD (K + 1) 0), .int (xs.getD (K + 2) 0), .int (xs.getD (K + 3) 0), .int (xs.getD (K + 4) 0), .int (xs.getD (K + 5) 0)]) (rest := []) rfl (by decide) rfl (t_cutV (A := [.int (xs.getD (K + 5) 0), .int (xs.getD (K + 4) 0), .int (xs.getD (K + 3) 0), .int (xs.getD (K + 2) 0), .int (xs.getD (K + 1) 0)]) (rest := []) rfl hf1) ⟨Nat.le_of_ble_eq_true rfl, Nat.le_of_ble_eq_true rfl⟩ e2 (Or.inr (lv_ok _ (by omega) [] (fun _ => rfl))) ?_
  refine w_P (pc' := 444) (lv' := LV (i3 (K : Int))) (st' := []) rfl (by decide) rfl ?_
  refine w_P rfl (by decide) rfl ?_
  exact go s2 _ i2 (by omega)
theorem L_3 (hl : xs.length ≤ 3072) (hK : K + 6 ≤ xs.length) (h : INV s) (hns : ns ≤ 1802 + 806 * nm s) (go : ∀ s2 ns2, INV s2 → ns2 ≤ 1802 + 806 * nm s2 → Wp (some xs) 11 0 4 1553 (LV (i3 (K : Int))) [] (H s2) ns2 pQ) : Wp (some xs) 11 0 4 447 (LV (i3 (K : Int))) [] (H s) ns pQ := by
  obtain ⟨v, w, n1, s1, n2, s2, m2, e1, e2, i2, hm, hl1, hl2, hE⟩ := B_3 h (xs.getD (K + 1) 0) (xs.getD (K + 2) 0)
  obtain ⟨_, hf0⟩ := g0 s
  obtain ⟨_, hf1⟩ := g44 s1
  have h44 := (List.getElem?_eq_some_iff.mp hf1).1
  refine w_P rfl (by decide) rfl ?_
  refine w_P rfl (by decide) rfl ?_
  refine w_P rfl (by decide) rfl ?_
  refine w_P rfl (by decide) rfl ?_
  refine w_P rfl (by decide) rfl ?_
  refine w_R rfl (by decide) (sc_at (j := 1) hl (by omega) _ _ _) ?_
  refine w_P rfl (by decide) rfl ?_
  refine w_P rfl (by decide) rfl ?_
  refine w_P rfl (by decide) rfl ?_
  refine w_P rfl (by decide) rfl ?_
  refine w_R rfl (by decide) (sc_at (j := 2) hl (by omega) _ _ _) ?_
  refine w_call (d := 10) (nL' := 4) (na := 2) (rc := 7) (vs := [.ref 0, .int (xs.getD (K + 1) 0), .int (xs.getD (K + 2) 0)]) (rest := []) rfl (by decide) rfl (t_cutV (A := [.int (xs.getD (K + 2) 0), .int (xs.getD (K + 1) 0)]) (rest := []) rfl hf0) ⟨Nat.le_of_ble_eq_true rfl, Nat.le_of_ble_eq_true rfl⟩ e1 (Or.inl hl1) ?_
  refine w_P (pc' := 462) (lv' := LV (i3 (K : Int))) (st' := []) rfl (by decide) rfl ?_
  refine w_P rfl (by decide) rfl ?_
  refine w_P rfl (by decide) rfl ?_
  refine w_P rfl (by decide) rfl ?_
  refine w_P rfl (by decide) rfl ?_
  refine w_P rfl (by decide) rfl ?_
  refine w_R rfl (by decide) (sc_at (j := 1) hl (by omega) _ _ _) ?_
  refine w_P rfl (by decide) rfl ?_
  refine w_P rfl (by decide) rfl ?_
  refine w_P rfl (by decide) rfl ?_
  refine w_P rfl (by decide) rfl ?_
  refine w_R rfl (by decide) (sc_at (j := 2) hl (by omega) _ _ _) ?_
  refine w_call (d := 10) (nL' := 3) (na := 2) (rc := 8) (vs := [.ref 44, .int (xs.getD (K + 1) 0), .int (xs.getD (K + 2) 0)]) (rest := []) rfl (by decide) rfl (t_cutV (A := [.int (xs.getD (K + 2) 0), .int (xs.getD (K + 1) 0)]) (rest := []) rfl hf1) ⟨Nat.le_of_ble_eq_true rfl, Nat.le_of_ble_eq_true rfl⟩ e2 (Or.inr (lv_ok _ (by omega) [] (fun _ => rfl))) ?_
  refine w_P (pc' := 477) (lv' := LV (i3 (K : Int))) (st' := []) rfl (by decide) rfl ?_
  refine w_P rfl (by decide) rfl ?_
  exact go s2 _ i2 (by omega)
theorem L_4 (hl : xs.length ≤ 3072) (hK : K + 6 ≤ xs.length) (h : INV s) (hns : ns ≤ 1802 + 806 * nm s) (go : ∀ s2 ns2, INV s2 → ns2 ≤ 1802 + 806 * nm s2 → Wp (some xs) 11 0 4 1553 (LV (i3 (K : Int))) [] (H s2) ns2 pQ) : Wp (some xs) 11 0 4 480 (LV (i3 (K : Int))) [] (H s) ns pQ := by
  obtain ⟨v, w, n1, s1, n2, s2, m2, e1, e2, i2, hm, hl1, hl2, hE⟩ := B_4 h (xs.getD (K + 1) 0)
  obtain ⟨_, hf0⟩ := g0 s
  obtain ⟨_, hf1⟩ := g44 s1
  have h44 := (List.getElem?_eq_some_iff.mp hf1).1
  refine w_P rfl (by decide) rfl ?_
  refine w_P rfl (by decide) rfl ?_
  refine w_P rfl (by decide) rfl ?_
  refine w_P rfl (by decide) rfl ?_
  refine w_P rfl (by decide) rfl ?_
  refine w_R rfl (by decide) (sc_at (j := 1) hl (by omega) _ _ _) ?_
  refine w_call (d := 10) (nL' := 3) (na := 1) (rc := 7) (vs := [.ref 0, .int (xs.getD (K + 1) 0)]) (rest := []) rfl (by decide) rfl (t_cutV (A := [.int (xs.getD (K + 1) 0)]) (rest := []) rfl hf0) ⟨Nat.le_of_ble_eq_true rfl, Nat.le_of_ble_eq_true rfl⟩ e1 (Or.inl hl1) ?_
  refine w_P (pc' := 490) (lv' := LV (i3 (K : Int))) (st' := []) rfl (by decide) rfl ?_
  refine w_P rfl (by decide) rfl ?_
  refine w_P rfl (by decide) rfl ?_
  refine w_P rfl (by decide) rfl ?_
  refine w_P rfl (by decide) rfl ?_
  refine w_P rfl (by decide) rfl ?_
  refine w_R rfl (by decide) (sc_at (j := 1) hl (by omega) _ _ _) ?_
  refine w_call (d := 10) (nL' := 2) (na := 1) (rc := 8) (vs := [.ref 44, .int (xs.getD (K + 1) 0)]) (rest := []) rfl (by decide) rfl (t_cutV (A := [.int (xs.getD (K + 1) 0)]) (rest := []) rfl hf1) ⟨Nat.le_of_ble_eq_true rfl, Nat.le_of_ble_eq_true rfl⟩ e2 (Or.inr (lv_ok _ (by omega) [] (fun _ => rfl))) ?_
  refine w_P (pc' := 500) (lv' := LV (i3 (K : Int))) (st' := []) rfl (by decide) rfl ?_
  refine w_P rfl (by decide) rfl ?_
  exact go s2 _ i2 (by omega)
theorem L_5 (hl : xs.length ≤ 3072) (hK : K + 6 ≤ xs.length) (h : INV s) (hns : ns ≤ 1802 + 806 * nm s) (go : ∀ s2 ns2, INV s2 → ns2 ≤ 1802 + 806 * nm s2 → Wp (some xs) 11 0 4 1553 (LV (i3 (K : Int))) [] (H s2) ns2 pQ) : Wp (some xs) 11 0 4 503 (LV (i3 (K : Int))) [] (H s) ns pQ := by
  obtain ⟨v, w, n1, s1, n2, s2, m2, e1, e2, i2, hm, hl1, hl2, hE⟩ := B_5 h (xs.getD (K + 1) 0) (xs.getD (K + 2) 0)
  obtain ⟨_, hf0⟩ := g0 s
  obtain ⟨_, hf1⟩ := g44 s1
  have h44 := (List.getElem?_eq_some_iff.mp hf1).1
  refine w_P rfl (by decide) rfl ?_
  refine w_P rfl (by decide) rfl ?_
  refine w_P rfl (by decide) rfl ?_
  refine w_P rfl (by decide) rfl ?_
  refine w_P rfl (by decide) rfl ?_
  refine w_R rfl (by decide) (sc_at (j := 1) hl (by omega) _ _ _) ?_
  refine w_P rfl (by decide) rfl ?_
  refine w_P rfl (by decide) rfl ?_
  refine w_P rfl (by decide) rfl ?_
  refine w_P rfl (by decide) rfl ?_
  refine w_R rfl (by decide) (sc_at (j := 2) hl (by omega) _ _ _) ?_
  refine w_call (d := 10) (nL' := 4) (na := 2) (rc := 7) (vs := [.ref 0, .int (xs.getD (K + 1) 0), .int (xs.getD (K + 2) 0)]) (rest := []) rfl (by decide) rfl (t_cutV (A := [.int (xs.getD (K + 2) 0), .int (xs.getD (K + 1) 0)]) (rest := []) rfl hf0) ⟨Nat.le_of_ble_eq_true rfl, Nat.le_of_ble_eq_true rfl⟩ e1 (Or.inl hl1) ?_
  refine w_P (pc' := 518) (lv' := LV (i3 (K : Int))) (st' := []) rfl (by decide) rfl ?_
  refine w_P rfl (by decide) rfl ?_
  refine w_P rfl (by decide) rfl ?_
  refine w_P rfl (by decide) rfl ?_
  refine w_P rfl (by decide) rfl ?_
  refine w_P rfl (by decide) rfl ?_
  refine w_R rfl (by decide) (sc_at (j := 1) hl (by omega) _ _ _) ?_
  refine w_P rfl (by decide) rfl ?_
  refine w_P rfl (by decide) rfl ?_
  refine w_P rfl (by decide) rfl ?_
  refine w_P rfl (by decide) rfl ?_
  refine w_R rfl (by decide) (sc_at (j := 2) hl (by omega) _ _ _) ?_
  refine w_call (d := 10) (nL' := 3) (na := 2) (rc := 8) (vs := [.ref 44, .int (xs.getD (K + 1) 0), .int (xs.getD (K + 2) 0)]) (rest := []) rfl (by decide) rfl (t_cutV (A := [.int (xs.getD (K + 2) 0), .int (xs.getD (K + 1) 0)]) (rest := []) rfl hf1) ⟨Nat.le_of_ble_eq_true rfl, Nat.le_of_ble_eq_true rfl⟩ e2 (Or.inr (lv_ok _ (by omega) [] (fun _ => rfl))) ?_
  refine w_P (pc' := 533) (lv' := LV (i3 (K : Int))) (st' := []) rfl (by decide) rfl ?_
  refine w_P rfl (by decide) rfl ?_
  exact go s2 _ i2 (by omega)
theorem L_6 (hl : xs.length ≤ 3072) (hK : K + 6 ≤ xs.length) (h : INV s) (hns : ns ≤ 1802 + 806 * nm s) (go : ∀ s2 ns2, INV s2 → ns2 ≤ 1802 + 806 * nm s2 → Wp (some xs) 11 0 4 1553 (LV (i3 (K : Int))) [] (H s2) ns2 pQ) : Wp (some xs) 11 0 4 536 (LV (i3 (K : Int))) [] (H s) ns pQ := by
  obtain ⟨v, w, n1, s1, n2, s2, m2, e1, e2, i2, hm, hl1, hl2, hE⟩ := B_6 h (xs.getD (K + 1) 0) (xs.getD (K + 2) 0)
  obtain ⟨_, hf0⟩ := g0 s
  obtain ⟨_, hf1⟩ := g44 s1
  have h44 := (List.getElem?_eq_some_iff.mp hf1).1
  refine w_P rfl (by decide) rfl ?_
  refine w_P rfl (by decide) rfl ?_
  refine w_P rfl (by decide) rfl ?_
  refine w_P rfl (by decide) rfl ?_
  refine w_P rfl (by decide) rfl ?_
  refine w_R rfl (by decide) (sc_at (j := 1) hl (by omega) _ _ _) ?_
  refine w_P rfl (by decide) rfl ?_
  refine w_P rfl (by decide) rfl ?_
  refine w_P rfl (by decide) rfl ?_
  refine w_P rfl (by decide) rfl ?_
  refine w_R rfl (by decide) (sc_at (j := 2) hl (by omega) _ _ _) ?_
  refine w_call (d := 10) (nL' := 4) (na := 2) (rc := 7) (vs := [.ref 0, .int (xs.getD (K + 1) 0), .int (xs.getD (K + 2) 0)]) (rest := []) rfl (by decide) rfl (t_cutV (A := [.int (xs.getD (K + 2) 0), .int (xs.getD (K + 1) 0)]) (rest := []) rfl hf0) ⟨Nat.le_of_ble_eq_true rfl, Nat.le_of_ble_eq_true rfl⟩ e1 (Or.inl hl1) ?_
  refine w_P (pc' := 551) (lv' := LV (i3 (K : Int))) (st' := []) rfl (by decide) rfl ?_
  refine w_P rfl (by decide) rfl ?_
  refine w_P rfl (by decide) rfl ?_
  refine w_P rfl (by decide) rfl ?_
  refine w_P rfl (by decide) rfl ?_
  refine w_P rfl (by decide) rfl ?_
  refine w_R rfl (by decide) (sc_at (j := 1) hl (by omega) _ _ _) ?_
  refine w_P rfl (by decide) rfl ?_
  refine w_P rfl (by decide) rfl ?_
  refine w_P rfl (by decide) rfl ?_
  refine w_P rfl (by decide) rfl ?_
  refine w_R rfl (by decide) (sc_at (j := 2) hl (by omega) _ _ _) ?_
  refine w_call (d := 10) (nL' := 7) (na := 2) (rc := 8) (vs := [.ref 44, .int (xs.getD (K + 1) 0), .int (xs.getD (K + 2) 0)]) (rest := []) rfl (by decide) rfl (t_cutV (A := [.int (xs.getD (K + 2) 0), .int (xs.getD (K + 1) 0)]) (rest := []) rfl hf1) ⟨Nat.le_of_ble_eq_true rfl, Nat.le_of_ble_eq_true rfl⟩ e2 (Or.inr (lv_ok _ (by omega) [] (fun _ => rfl))) ?_
  refine w_P (pc' := 566) (lv' := LV (i3 (K : Int))) (st' := []) rfl (by decide) rfl ?_
  refine w_P rfl (by decide) rfl ?_
  exact go s2 _ i2 (by omega)
theorem L_7 (hl : xs.length ≤ 3072) (hK : K + 6 ≤ xs.length) (h : INV s) (hns : ns ≤ 1802 + 806 * nm s) (go : ∀ s2 ns2, INV s2 → ns2 ≤ 1802 + 806 * nm s2 → Wp (some xs) 11 0 4 1553 (LV (i3 (K : Int))) [] (H s2) ns2 pQ) : Wp (some xs) 11 0 4 569 (LV (i3 (K : Int))) [] (H s) ns pQ := by
  obtain ⟨v, w, n1, s1, n2, s2, m2, e1, e2, i2, hm, hl1, hl2, hE⟩ := B_7 h (xs.getD (K + 1) 0)
  obtain ⟨_, hf0⟩ := g0 s
  obtain ⟨_, hf1⟩ := g44 s1
  have h44 := (List.getElem?_eq_some_iff.mp hf1).1
  refine w_P rfl (by decide) rfl ?_
  refine w_P rfl (by decide) rfl ?_
  refine w_P rfl (by decide) rfl ?_
  refine w_P rfl (by decide) rfl ?_
  refine w_P rfl (by decide) rfl ?_
  refine w_R rfl (by decide) (sc_at (j := 1) hl (by omega) _ _ _) ?_
  refine w_call (d := 10) (nL' := 3) (na := 1) (rc := 7) (vs := [.ref 0, .int (xs.getD (K + 1) 0)]) (rest := []) rfl (by decide) rfl (t_cutV (A := [.int (xs.getD (K + 1) 0)]) (rest := []) rfl hf0) ⟨Nat.le_of_ble_eq_true rfl, Nat.le_of_ble_eq_true rfl⟩ e1 (Or.inl hl1) ?_
  refine w_P (pc' := 579) (lv' := LV (i3 (K : Int))) (st' := []) rfl (by decide) rfl ?_
  refine w_P rfl (by decide) rfl ?_
  refine w_P rfl (by decide) rfl ?_
  refine w_P rfl (by decide) rfl ?_
  refine w_P rfl (by decide) rfl ?_
  refine w_P rfl (by decide) rfl ?_
  refine w_R rfl (by decide) (sc_at (j := 1) hl (by omega) _ _ _) ?_
  refine w_call (d := 10) (nL' := 3) (na := 1) (rc := 8) (vs := [.ref 44, .int (xs.getD (K + 1) 0)]) (rest := []) rfl (by decide) rfl (t_cutV (A := [.int (xs.getD (K + 1) 0)]) (rest := []) rfl hf1) ⟨Nat.le_of_ble_eq_true rfl, Nat.le_of_ble_eq_true rfl⟩ e2 (Or.inr (lv_ok _ (by omega) [] (fun _ => rfl))) ?_
  refine w_P (pc' := 589) (lv' := LV (i3 (K : Int))) (st' := []) rfl (by decide) rfl ?_
  refine w_P rfl (by decide) rfl ?_
  exact go s2 _ i2 (by omega)
theorem L_8 (hl : xs.length ≤ 3072) (hK : K + 6 ≤ xs.length) (h : INV s) (hns : ns ≤ 1802 + 806 * nm s) (go : ∀ s2 ns2, INV s2 → ns2 ≤ 1802 + 806 * nm s2 → Wp (some xs) 11 0 4 1553 (LV (i3 (K : Int))) [] (H s2) ns2 pQ) : Wp (some xs) 11 0 4 592 (LV (i3 (K : Int))) [] (H s) ns pQ := by
  obtain ⟨v, w, n1, s1, n2, s2, m2, e1, e2, i2, hm, hl1, hl2, hE⟩ := B_8 h (xs.getD (K + 1) 0) (xs.getD (K + 2) 0) (xs.getD (K + 3) 0)
  obtain ⟨_, hf0⟩ := g0 s
  obtain ⟨_, hf1⟩ := g44 s1
  have h44 := (List.getElem?_eq_some_iff.mp hf1).1
  refine w_P rfl (by decide) rfl ?_
  refine w_P rfl (by decide) rfl ?_
  refine w_P rfl (by decide) rfl ?_
  refine w_P rfl (by decide) rfl ?_
  refine w_P rfl (by decide) rfl ?_
  refine w_R rfl (by decide) (sc_at (j := 1) hl (by omega) _ _ _) ?_
  refine w_P rfl (by decide) rfl ?_
  refine w_P rfl (by decide) rfl ?_
  refine w_P rfl (by decide) rfl ?_
  refine w_P rfl (by decide) rfl ?_
  refine w_R rfl (by decide) (sc_at (j := 2) hl (by omega) _ _ _) ?_
  refine w_P rfl (by decide) rfl ?_
  refine w_P rfl (by decide) rfl ?_
  refine w_P rfl (by decide) rfl ?_
  refine w_P rfl (by decide) rfl ?_
  refine w_R rfl (by decide) (sc_at (j := 3) hl (by omega) _ _ _) ?_
  refine w_call (d := 10) (nL' := 4) (na := 3) (rc := 7) (vs := [.ref 0, .int (xs.getD (K + 1) 0), .int (xs.getD (K + 2) 0), .int (xs.getD (K + 3) 0)]) (rest := []) rfl (by decide) rfl (t_cutV (A := [.int (xs.getD (K + 3) 0), .int (xs.getD (K + 2) 0), .int (xs.getD (K + 1) 0)]) (rest := []) rfl hf0) ⟨Nat.le_of_ble_eq_true rfl, Nat.le_of_ble_eq_true rfl⟩ e1 (Or.inl hl1) ?_
  refine w_P (pc' := 612) (lv' := LV (i3 (K : Int))) (st' := []) rfl (by decide) rfl ?_
  refine w_P rfl (by decide) rfl ?_
  refine w_P rfl (by decide) rfl ?_
  refine w_P rfl (by decide) rfl ?_
  refine w_P rfl (by decide) rfl ?_
  refine w_P rfl (by decide) rfl ?_
  refine w_R rfl (by decide) (sc_at (j := 1) hl (by omega) _ _ _) ?_
  refine w_P rfl (by decide) rfl ?_
  refine w_P rfl (by decide) rfl ?_
  refine w_P rfl (by decide) rfl ?_
  refine w_P rfl (by decide) rfl ?_
  refine w_R rfl (by decide) (sc_at (j := 2) hl (by omega) _ _ _) ?_
  refine w_P rfl (by decide) rfl ?_
  refine w_P rfl (by decide) rfl ?_
  refine w_P rfl (by decide) rfl ?_
  refine w_P rfl (by decide) rfl ?_
  refine w_R rfl (by decide) (sc_at (j := 3) hl (by omega) _ _ _) ?_
  refine w_call (d := 10) (nL' := 4) (na := 3) (rc := 8) (vs := [.ref 44, .int (xs.getD (K + 1) 0), .int (xs.getD (K + 2) 0), .int (xs.getD (K + 3) 0)]) (rest := []) rfl (by decide) rfl (t_cutV (A := [.int (xs.getD (K + 3) 0), .int (xs.getD (K + 2) 0), .int (xs.getD (K + 1) 0)]) (rest := []) rfl hf1) ⟨Nat.le_of_ble_eq_true rfl, Nat.le_of_ble_eq_true rfl⟩ e2 (Or.inr (lv_ok _ (by omega) [] (fun _ => rfl))) ?_
  refine w_P (pc' := 632) (lv' := LV (i3 (K : Int))) (st' := []) rfl (by decide) rfl ?_
  refine w_P rfl (by decide) rfl ?_
  exact go s2 _ i2 (by omega)
theorem L_9 (hl : xs.length ≤ 3072) (hK : K + 6 ≤ xs.length) (h : INV s) (hns : ns ≤ 1802 + 806 * nm s) (go : ∀ s2 ns2, INV s2 → ns2 ≤ 1802 + 806 * nm s2 → Wp (some xs) 11 0 4 1553 (LV (i3 (K : Int))) [] (H s2) ns2 pQ) : Wp (some xs) 11 0 4 635 (LV (i3 (K : Int))) [] (H s) ns pQ := by
  obtain ⟨v, w, n1, s1, n2, s2, m2, e1, e2, i2, hm, hl1, hl2, hE⟩ := B_9 h (xs.getD (K + 1) 0)
  obtain ⟨_, hf0⟩ := g0 s
  obtain ⟨_, hf1⟩ := g44 s1
  have h44 := (List.getElem?_eq_some_iff.mp hf1).1
  refine w_P rfl (by decide) rfl ?_
  refine w_P rfl (by decide) rfl ?_
  refine w_P rfl (by decide) rfl ?_
  refine w_P rfl (by decide) rfl ?_
  refine w_P rfl (by decide) rfl ?_
  refine w_R rfl (by decide) (sc_at (j := 1) hl (by omega) _ _ _) ?_
  refine w_call (d := 10) (nL' := 2) (na := 1) (rc := 7) (vs := [.ref 0, .int (xs.getD (K + 1) 0)]) (rest := []) rfl (by decide) rfl (t_cutV (A := [.int (xs.getD (K + 1) 0)]) (rest := []) rfl hf0) ⟨Nat.le_of_ble_eq_true rfl, Nat.le_of_ble_eq_true rfl⟩ e1 (Or.inl hl1) ?_
  refine w_P (pc' := 645) (lv' := LV (i3 (K : Int))) (st' := []) rfl (by decide) rfl ?_
  refine w_P rfl (by decide) rfl ?_
  refine w_P rfl (by decide) rfl ?_
  refine w_P rfl (by decide) rfl ?_
  refine w_P rfl (by decide) rfl ?_
  refine w_P rfl (by decide) rfl ?_
  refine w_R rfl (by decide) (sc_at (j := 1) hl (by omega) _ _ _) ?_
  refine w_call (d := 10) (nL' := 2) (na := 1) (rc := 8) (vs := [.ref 44, .int (xs.getD (K + 1) 0)]) (rest := []) rfl (by decide) rfl (t_cutV (A := [.int (xs.getD (K + 1) 0)]) (rest := []) rfl hf1) ⟨Nat.le_of_ble_eq_true rfl, Nat.le_of_ble_eq_true rfl⟩ e2 (Or.inr (lv_ok _ (by omega) [] (fun _ => rfl))) ?_
  refine w_P (pc' := 655) (lv' := LV (i3 (K : Int))) (st' := []) rfl (by decide) rfl ?_
  refine w_P rfl (by decide) rfl ?_
  exact go s2 _ i2 (by omega)
theorem L_10 (hl : xs.length ≤ 3072) (hK : K + 6 ≤ xs.length) (h : INV s) (hns : ns ≤ 1802 + 806 * nm s) (go : ∀ s2 ns2, INV s2 → ns2 ≤ 1802 + 806 * nm s2 → Wp (some xs) 11 0 4 1553 (LV (i3 (K : Int))) [] (H s2) ns2 pQ) : Wp (some xs) 11 0 4 658 (LV (i3 (K : Int))) [] (H s) ns pQ := by
  obtain ⟨v, w, n1, s1, n2, s2, m2, e1, e2, i2, hm, hl1, hl2, hE⟩ := B_10 h
  obtain ⟨_, hf0⟩ := g0 s
  obtain ⟨_, hf1⟩ := g44 s1
  have h44 := (List.getElem?_eq_some_iff.mp hf1).1
  refine w_P rfl (by decide) rfl ?_
  refine w_call (d := 10) (nL' := 2) (na := 0) (rc := 7) (vs := [.ref 0]) (rest := []) rfl (by decide) rfl (t_cutV (A := []) (rest := []) rfl hf0) ⟨Nat.le_of_ble_eq_true rfl, Nat.le_of_ble_eq_true rfl⟩ e1 (Or.inl hl1) ?_
  refine w_P (pc' := 663) (lv' := LV (i3 (K : Int))) (st' := []) rfl (by decide) rfl ?_
  refine w_P rfl (by decide) rfl ?_
  refine w_call (d := 10) (nL' := 2) (na := 0) (rc := 8) (vs := [.ref 44]) (rest := []) rfl (by decide) rfl (t_cutV (A := []) (rest := []) rfl hf1) ⟨Nat.le_of_ble_eq_true rfl, Nat.le_of_ble_eq_true rfl⟩ e2 (Or.inr (lv_ok _ (by omega) [] (fun _ => rfl))) ?_
  refine w_P (pc' := 668) (lv' := LV (i3 (K : Int))) (st' := []) rfl (by decide) rfl ?_
  refine w_P rfl (by decide) rfl ?_
  exact go s2 _ i2 (by omega)
theorem L_11 (hl : xs.length ≤ 3072) (hK : K + 6 ≤ xs.length) (h : INV s) (hns : ns ≤ 1802 + 806 * nm s) (go : ∀ s2 ns2, INV s2 → ns2 ≤ 1802 + 806 * nm s2 → Wp (some xs) 11 0 4 1553 (LV (i3 (K : Int))) [] (H s2) ns2 pQ) : Wp (some xs) 11 0 4 671 (LV (i3 (K : Int))) [] (H s) ns pQ := by
  obtain ⟨v, w, n1, s1, n2, s2, m2, e1, e2, i2, hm, hl1, hl2, hE⟩ := B_11 h (xs.getD (K + 1) 0) (xs.getD (K + 2) 0)
  obtain ⟨_, hf0⟩ := g0 s
  obtain ⟨_, hf1⟩ := g44 s1
  have h44 := (List.getElem?_eq_some_iff.mp hf1).1
  refine w_P rfl (by decide) rfl ?_
  refine w_P rfl (by decide) rfl ?_
  refine w_P rfl (by decide) rfl ?_
  refine w_P rfl (by decide) rfl ?_
  refine w_P rfl (by decide) rfl ?_
  refine w_R rfl (by decide) (sc_at (j := 1) hl (by omega) _ _ _) ?_
  refine w_P rfl (by decide) rfl ?_
  refine w_P rfl (by decide) rfl ?_
  refine w_P rfl (by decide) rfl ?_
  refine w_P rfl (by decide) rfl ?_
  refine w_R rfl (by decide) (sc_at (j := 2) hl (by omega) _ _ _) ?_
  refine w_call (d := 10) (nL' := 5) (na := 2) (rc := 7) (vs := [.ref 0, .int (xs.getD (K + 1) 0), .int (xs.getD (K + 2) 0)]) (rest := []) rfl (by decide) rfl (t_cutV (A := [.int (xs.getD (K + 2) 0), .int (xs.getD (K + 1) 0)]) (rest := []) rfl hf0) ⟨Nat.le_of_ble_eq_true rfl, Nat.le_of_ble_eq_true rfl⟩ e1 (Or.inl hl1) ?_
  refine w_P (pc' := 686) (lv' := LV (i3 (K : Int))) (st' := []) rfl (by decide) rfl ?_
  refine w_P rfl (by decide) rfl ?_
  refine w_P rfl (by decide) rfl ?_
  refine w_P rfl (by decide) rfl ?_
  refine w_P rfl (by decide) rfl ?_
  refine w_P rfl (by decide) rfl ?_
  refine w_R rfl (by decide) (sc_at (j := 1) hl (by omega) _ _ _) ?_
  refine w_P rfl (by decide) rfl ?_
  refine w_P rfl (by decide) rfl ?_
  refine w_P rfl (by decide) rfl ?_
  refine w_P rfl (by decide) rfl ?_
  refine w_R rfl (by decide) (sc_at (j := 2) hl (by omega) _ _ _) ?_
  refine w_call (d := 10) (nL' := 5) (na := 2) (rc := 8) (vs := [.ref 44, .int (xs.getD (K + 1) 0), .int (xs.getD (K + 2) 0)]) (rest := []) rfl (by decide) rfl (t_cutV (A := [.int (xs.getD (K + 2) 0), .int (xs.getD (K + 1) 0)]) (rest := []) rfl hf1) ⟨Nat.le_of_ble_eq_true rfl, Nat.le_of_ble_eq_true rfl⟩ e2 (Or.inr (lv_ok _ (by omega) [] (fun _ => rfl))) ?_
  refine w_P (pc' := 701) (lv' := LV (i3 (K : Int))) (st' := []) rfl (by decide) rfl ?_
  refine w_P rfl (by decide) rfl ?_
  exact go s2 _ i2 (by omega)
theorem L_12 (hl : xs.length ≤ 3072) (hK : K + 6 ≤ xs.length) (h : INV s) (hns : ns ≤ 1802 + 806 * nm s) (go : ∀ s2 ns2, INV s2 → ns2 ≤ 1802 + 806 * nm s2 → Wp (some xs) 11 0 4 1553 (LV (i3 (K : Int))) [] (H s2) ns2 pQ) : Wp (some xs) 11 0 4 704 (LV (i3 (K : Int))) [] (H s) ns pQ := by
  obtain ⟨v, w, n1, s1, n2, s2, m2, e1, e2, i2, hm, hl1, hl2, hE⟩ := B_12 h
  obtain ⟨_, hf0⟩ := g0 s
  obtain ⟨_, hf1⟩ := g44 s1
  have h44 := (List.getElem?_eq_some_iff.mp hf1).1
  refine w_P rfl (by decide) rfl ?_
  refine w_call (d := 10) (nL' := 1) (na := 0) (rc := 7) (vs := [.ref 0]) (rest := []) rfl (by decide) rfl (t_cutV (A := []) (rest := []) rfl hf0) ⟨Nat.le_of_ble_eq_true rfl, Nat.le_of_ble_eq_true rfl⟩ e1 (Or.inl hl1) ?_
  refine w_P (pc' := 709) (lv' := LV (i3 (K : Int))) (st' := []) rfl (by decide) rfl ?_
  refine w_P rfl (by decide) rfl ?_
  refine w_call (d := 10) (nL' := 1) (na := 0) (rc := 8) (vs := [.ref 44]) (rest := []) rfl (by decide) rfl (t_cutV (A := []) (rest := []) rfl hf1) ⟨Nat.le_of_ble_eq_true rfl, Nat.le_of_ble_eq_true rfl⟩ e2 (Or.inr (lv_ok _ (by omega) [] (fun _ => rfl))) ?_
  refine w_P (pc' := 714) (lv' := LV (i3 (K : Int))) (st' := []) rfl (by decide) rfl ?_
  refine w_P rfl (by decide) rfl ?_
  exact go s2 _ i2 (by omega)
theorem L_13 (hl : xs.length ≤ 3072) (hK : K + 6 ≤ xs.length) (h : INV s) (hns : ns ≤ 1802 + 806 * nm s) (go : ∀ s2 ns2, INV s2 → ns2 ≤ 1802 + 806 * nm s2 → Wp (some xs) 11 0 4 1553 (LV (i3 (K : Int))) [] (H s2) ns2 pQ) : Wp (some xs) 11 0 4 717 (LV (i3 (K : Int))) [] (H s) ns pQ := by
  obtain ⟨v, w, n1, s1, n2, s2, m2, e1, e2, i2, hm, hl1, hl2, hE⟩ := B_13 h (xs.getD (K + 1) 0)
  obtain ⟨_, hf0⟩ := g0 s
  obtain ⟨_, hf1⟩ := g44 s1
  have h44 := (List.getElem?_eq_some_iff.mp hf1).1
  refine w_P rfl (by decide) rfl ?_
  refine w_P rfl (by decide) rfl ?_
  refine w_P rfl (by decide) rfl ?_
  refine w_P rfl (by decide) rfl ?_
  refine w_P rfl (by decide) rfl ?_
  refine w_R rfl (by decide) (sc_at (j := 1) hl (by omega) _ _ _) ?_
  refine w_call (d := 10) (nL' := 2) (na := 1) (rc := 7) (vs := [.ref 0, .int (xs.getD (K + 1) 0)]) (rest := []) rfl (by decide) rfl (t_cutV (A := [.int (xs.getD (K + 1) 0)]) (rest := []) rfl hf0) ⟨Nat.le_of_ble_eq_true rfl, Nat.le_of_ble_eq_true rfl⟩ e1 (Or.inl hl1) ?_
  refine w_P (pc' := 727) (lv' := LV (i3 (K : Int))) (st' := []) rfl (by decide) rfl ?_
  refine w_P rfl (by decide) rfl ?_
  refine w_P rfl (by decide) rfl ?_
  refine w_P rfl (by decide) rfl ?_
  refine w_P rfl (by decide) rfl ?_
  refine w_P rfl (by decide) rfl ?_
  refine w_R rfl (by decide) (sc_at (j := 1) hl (by omega) _ _ _) ?_
  refine w_call (d := 10) (nL' := 2) (na := 1) (rc := 8) (vs := [.ref 44, .int (xs.getD (K + 1) 0)]) (rest := []) rfl (by decide) rfl (t_cutV (A := [.int (xs.getD (K + 1) 0)]) (rest := []) rfl hf1) ⟨Nat.le_of_ble_eq_true rfl, Nat.le_of_ble_eq_true rfl⟩ e2 (Or.inr (lv_ok _ (by omega) [] (fun _ => rfl))) ?_
  refine w_P (pc' := 737) (lv' := LV (i3 (K : Int))) (st' := []) rfl (by decide) rfl ?_
  refine w_P rfl (by decide) rfl ?_
  exact go s2 _ i2 (by omega)
theorem L_14 (hl : xs.length ≤ 3072) (hK : K + 6 ≤ xs.length) (h : INV s) (hns : ns ≤ 1802 + 806 * nm s) (go : ∀ s2 ns2, INV s2 → ns2 ≤ 1802 + 806 * nm s2 → Wp (some xs) 11 0 4 1553 (LV (i3 (K : Int))) [] (H s2) ns2 pQ) : Wp (some xs) 11 0 4 740 (LV (i3 (K : Int))) [] (H s) ns pQ := by
  obtain ⟨v, w, n1, s1, n2, s2, m2, e1, e2, i2, hm, hl1, hl2, hE⟩ := B_14 h
  obtain ⟨_, hf0⟩ := g0 s
  obtain ⟨_, hf1⟩ := g44 s1
  have h44 := (List.getElem?_eq_some_iff.mp hf1).1
  refine w_P rfl (by decide) rfl ?_
  refine w_call (d := 10) (nL' := 2) (na := 0) (rc := 7) (vs := [.ref 0]) (rest := []) rfl (by decide) rfl (t_cutV (A := []) (rest := []) rfl hf0) ⟨Nat.le_of_ble_eq_true rfl, Nat.le_of_ble_eq_true rfl⟩ e1 (Or.inl hl1) ?_
  refine w_P (pc' := 745) (lv' := LV (i3 (K : Int))) (st' := []) rfl (by decide) rfl ?_
  refine w_P rfl (by decide) rfl ?_
  refine w_call (d := 10) (nL' := 2) (na := 0) (rc := 8) (vs := [.ref 44]) (rest := []) rfl (by decide) rfl (t_cutV (A := []) (rest := []) rfl hf1) ⟨Nat.le_of_ble_eq_true rfl, Nat.le_of_ble_eq_true rfl⟩ e2 (Or.inr (lv_ok _ (by omega) [] (fun _ => rfl))) ?_
  refine w_P (pc' := 750) (lv' := LV (i3 (K : Int))) (st' := []) rfl (by decide) rfl ?_
  refine w_P rfl (by decide) rfl ?_
  exact go s2 _ i2 (by omega)
theorem L_15 (hl : xs.length ≤ 3072) (hK : K + 6 ≤ xs.length) (h : INV s) (hns : ns ≤ 1802 + 806 * nm s) (go : ∀ s2 ns2, INV s2 → ns2 ≤ 1802 + 806 * nm s2 → Wp (some xs) 11 0 4 1553 (LV (i3 (K : Int))) [] (H s2) ns2 pQ) : Wp (some xs) 11 0 4 753 (LV (i3 (K : Int))) [] (H s) ns pQ := by
  obtain ⟨v, w, n1, s1, n2, s2, m2, e1, e2, i2, hm, hl1, hl2, hE⟩ := B_15 h
  obtain ⟨_, hf0⟩ := g0 s
  obtain ⟨_, hf1⟩ := g44 s1
  have h44 := (List.getElem?_eq_some_iff.mp hf1).1
  refine w_P rfl (by decide) rfl ?_
  refine w_call (d := 10) (nL' := 2) (na := 0) (rc := 7) (vs := [.ref 0]) (rest := []) rfl (by decide) rfl (t_cutV (A := []) (rest := []) rfl hf0) ⟨Nat.le_of_ble_eq_true rfl, Nat.le_of_ble_eq_true rfl⟩ e1 (Or.inl hl1) ?_
  refine w_P (pc' := 758) (lv' := LV (i3 (K : Int))) (st' := []) rfl (by decide) rfl ?_
  refine w_P rfl (by decide) rfl ?_
  refine w_call (d := 10) (nL' := 3) (na := 0) (rc := 8) (vs := [.ref 44]) (rest := []) rfl (by decide) rfl (t_cutV (A := []) (rest := []) rfl hf1) ⟨Nat.le_of_ble_eq_true rfl, Nat.le_of_ble_eq_true rfl⟩ e2 (Or.inr (lv_ok _ (by omega) [] (fun _ => rfl))) ?_
  refine w_P (pc' := 763) (lv' := LV (i3 (K : Int))) (st' := []) rfl (by decide) rfl ?_
  refine w_P rfl (by decide) rfl ?_
  exact go s2 _ i2 (by omega)
theorem L_16 (hl : xs.length ≤ 3072) (hK : K + 6 ≤ xs.length) (h : INV s) (hns : ns ≤ 1802 + 806 * nm s) (go : ∀ s2 ns2, INV s2 → ns2 ≤ 1802 + 806 * nm s2 → Wp (some xs) 11 0 4 1553 (LV (i3 (K : Int))) [] (H s2) ns2 pQ) : Wp (some xs) 11 0 4 766 (LV (i3 (K : Int))) [] (H s) ns pQ := by
  obtain ⟨v, w, n1, s1, n2, s2, m2, e1, e2, i2, hm, hl1, hl2, hE⟩ := B_16 h (xs.getD (K + 1) 0) (xs.getD (K + 2) 0)
  obtain ⟨_, hf0⟩ := g0 s
  obtain ⟨_, hf1⟩ := g44 s1
  have h44 := (List.getElem?_eq_some_iff.mp hf1).1
  refine w_P rfl (by decide) rfl ?_
  refine w_P rfl (by decide) rfl ?_
  refine w_P rfl (by decide) rfl ?_
  refine w_P rfl (by decide) rfl ?_
  refine w_P rfl (by decide) rfl ?_
  refine w_R rfl (by decide) (sc_at (j := 1) hl (by omega) _ _ _) ?_
  refine w_P rfl (by decide) rfl ?_
  refine w_P rfl (by decide) rfl ?_
  refine w_P rfl (by decide) rfl ?_
  refine w_P rfl (by decide) rfl ?_
  refine w_R rfl (by decide) (sc_at (j := 2) hl (by omega) _ _ _) ?_
  refine w_call (d := 10) (nL' := 3) (na := 2) (rc := 7) (vs := [.ref 0, .int (xs.getD (K + 1) 0), .int (xs.getD (K + 2) 0)]) (rest := []) rfl (by decide) rfl (t_cutV (A := [.int (xs.getD (K + 2) 0), .int (xs.getD (K + 1) 0)]) (rest := []) rfl hf0) ⟨Nat.le_of_ble_eq_true rfl, Nat.le_of_ble_eq_true rfl⟩ e1 (Or.inl hl1) ?_
  refine w_P (pc' := 781) (lv' := LV (i3 (K : Int))) (st' := []) rfl (by decide) rfl ?_
  refine w_P rfl (by decide) rfl ?_
  refine w_P rfl (by decide) rfl ?_
  refine w_P rfl (by decide) rfl ?_
  refine w_P rfl (by decide) rfl ?_
  refine w_P rfl (by decide) rfl ?_
  refine w_R rfl (by decide) (sc_at (j := 1) hl (by omega) _ _ _) ?_
  refine w_P rfl (by decide) rfl ?_
  refine w_P rfl (by decide) rfl ?_
  refine w_P rfl (by decide) rfl ?_
  refine w_P rfl (by decide) rfl ?_
  refine w_R rfl (by decide) (sc_at (j := 2) hl (by omega) _ _ _) ?_
  refine w_call (d := 10) (nL' := 3) (na := 2) (rc := 8) (vs := [.ref 44, .int (xs.getD (K + 1) 0), .int (xs.getD (K + 2) 0)]) (rest := []) rfl (by decide) rfl (t_cutV (A := [.int (xs.getD (K + 2) 0), .int (xs.getD (K + 1) 0)]) (rest := []) rfl hf1) ⟨Nat.le_of_ble_eq_true rfl, Nat.le_of_ble_eq_true rfl⟩ e2 (Or.inr (lv_ok _ (by omega) [] (fun _ => rfl))) ?_
  refine w_P (pc' := 796) (lv' := LV (i3 (K : Int))) (st' := []) rfl (by decide) rfl ?_
  refine w_P rfl (by decide) rfl ?_
  exact go s2 _ i2 (by omega)
theorem L_17 (hl : xs.length ≤ 3072) (hK : K + 6 ≤ xs.length) (h : INV s) (hns : ns ≤ 1802 + 806 * nm s) (go : ∀ s2 ns2, INV s2 → ns2 ≤ 1802 + 806 * nm s2 → Wp (some xs) 11 0 4 1553 (LV (i3 (K : Int))) [] (H s2) ns2 pQ) : Wp (some xs) 11 0 4 799 (LV (i3 (K : Int))) [] (H s) ns pQ := by
  obtain ⟨v, w, n1, s1, n2, s2, m2, e1, e2, i2, hm, hl1, hl2, hE⟩ := B_17 h (xs.getD (K + 1) 0)
  obtain ⟨_, hf0⟩ := g0 s
  obtain ⟨_, hf1⟩ := g44 s1
  have h44 := (List.getElem?_eq_some_iff.mp hf1).1
  refine w_P rfl (by decide) rfl ?_
  refine w_P rfl (by decide) rfl ?_
  refine w_P rfl (by decide) rfl ?_
  refine w_P rfl (by decide) rfl ?_
  refine w_P rfl (by decide) rfl ?_
  refine w_R rfl (by decide) (sc_at (j := 1) hl (by omega) _ _ _) ?_
  refine w_call (d := 10) (nL' := 2) (na := 1) (rc := 7) (vs := [.ref 0, .int (xs.getD (K + 1) 0)]) (rest := []) rfl (by decide) rfl (t_cutV (A := [.int (xs.getD (K + 1) 0)]) (rest := []) rfl hf0) ⟨Nat.le_of_ble_eq_true rfl, Nat.le_of_ble_eq_true rfl⟩ e1 (Or.inl hl1) ?_
  refine w_P (pc' := 809) (lv' := LV (i3 (K : Int))) (st' := []) rfl (by decide) rfl ?_
  refine w_P rfl (by decide) rfl ?_
  refine w_P rfl (by decide) rfl ?_
  refine w_P rfl (by decide) rfl ?_
  refine w_P rfl (by decide) rfl ?_
  refine w_P rfl (by decide) rfl ?_
  refine w_R rfl (by decide) (sc_at (j := 1) hl (by omega) _ _ _) ?_
  refine w_call (d := 10) (nL' := 2) (na := 1) (rc := 8) (vs := [.ref 44, .int (xs.getD (K + 1) 0)]) (rest := []) rfl (by decide) rfl (t_cutV (A := [.int (xs.getD (K + 1) 0)]) (rest := []) rfl hf1) ⟨Nat.le_of_ble_eq_true rfl, Nat.le_of_ble_eq_true rfl⟩ e2 (Or.inr (lv_ok _ (by omega) [] (fun _ => rfl))) ?_
  refine w_P (pc' := 819) (lv' := LV (i3 (K : Int))) (st' := []) rfl (by decide) rfl ?_
  refine w_P rfl (by decide) rfl ?_
  exact go s2 _ i2 (by omega)
theorem L_18 (hl : xs.length ≤ 3072) (hK : K + 6 ≤ xs.length) (h : INV s) (hns : ns ≤ 1802 + 806 * nm s) (go : ∀ s2 ns2, INV s2 → ns2 ≤ 1802 + 806 * nm s2 → Wp (some xs) 11 0 4 1553 (LV (i3 (K : Int))) [] (H s2) ns2 pQ) : Wp (some xs) 11 0 4 822 (LV (i3 (K : Int))) [] (H s) ns pQ := by
  obtain ⟨v, w, n1, s1, n2, s2, m2, e1, e2, i2, hm, hl1, hl2, hE⟩ := B_18 h (xs.getD (K + 1) 0)
  obtain ⟨_, hf0⟩ := g0 s
  obtain ⟨_, hf1⟩ := g44 s1
  have h44 := (List.getElem?_eq_some_iff.mp hf1).1
  refine w_P rfl (by decide) rfl ?_
  refine w_P rfl (by decide) rfl ?_
  refine w_P rfl (by decide) rfl ?_
  refine w_P rfl (by decide) rfl ?_
  refine w_P rfl (by decide) rfl ?_
  refine w_R rfl (by decide) (sc_at (j := 1) hl (by omega) _ _ _) ?_
  refine w_call (d := 10) (nL' := 2) (na := 1) (rc := 7) (vs := [.ref 0, .int (xs.getD (K + 1) 0)]) (rest := []) rfl (by decide) rfl (t_cutV (A := [.int (xs.getD (K + 1) 0)]) (rest := []) rfl hf0) ⟨Nat.le_of_ble_eq_true rfl, Nat.le_of_ble_eq_true rfl⟩ e1 (Or.inl hl1) ?_
  refine w_P (pc' := 832) (lv' := LV (i3 (K : Int))) (st' := []) rfl (by decide) rfl ?_
  refine w_P rfl (by decide) rfl ?_
  refine w_P rfl (by decide) rfl ?_
  refine w_P rfl (by decide) rfl ?_
  refine w_P rfl (by decide) rfl ?_
  refine w_P rfl (by decide) rfl ?_
  refine w_R rfl (by decide) (sc_at (j := 1) hl (by omega) _ _ _) ?_
  refine w_call (d := 10) (nL' := 4) (na := 1) (rc := 8) (vs := [.ref 44, .int (xs.getD (K + 1) 0)]) (rest := []) rfl (by decide) rfl (t_cutV (A := [.int (xs.getD (K + 1) 0)]) (rest := []) rfl hf1) ⟨Nat.le_of_ble_eq_true rfl, Nat.le_of_ble_eq_true rfl⟩ e2 (Or.inr (lv_ok _ (by omega) [] (fun _ => rfl))) ?_
  refine w_P (pc' := 842) (lv' := LV (i3 (K : Int))) (st' := []) rfl (by decide) rfl ?_
  refine w_P rfl (by decide) rfl ?_
  exact go s2 _ i2 (by omega)
theorem L_19 (hl : xs.length ≤ 3072) (hK : K + 6 ≤ xs.length) (h : INV s) (hns : ns ≤ 1802 + 806 * nm s) (go : ∀ s2 ns2, INV s2 → ns2 ≤ 1802 + 806 * nm s2 → Wp (some xs) 11 0 4 1553 (LV (i3 (K : Int))) [] (H s2) ns2 pQ) : Wp (some xs) 11 0 4 845 (LV (i3 (K : Int))) [] (H s) ns pQ := by
  obtain ⟨v, w, n1, s1, n2, s2, m2, e1, e2, i2, hm, hl1, hl2, hE⟩ := B_19 h
  obtain ⟨_, hf0⟩ := g0 s
  obtain ⟨_, hf1⟩ := g44 s1
  have h44 := (List.getElem?_eq_some_iff.mp hf1).1
  refine w_P rfl (by decide) rfl ?_
  refine w_call (d := 10) (nL' := 1) (na := 0) (rc := 7) (vs := [.ref 0]) (rest := []) rfl (by decide) rfl (t_cutV (A := []) (rest := []) rfl hf0) ⟨Nat.le_of_ble_eq_true rfl, Nat.le_of_ble_eq_true rfl⟩ e1 (Or.inl hl1) ?_
  refine w_P (pc' := 850) (lv' := LV (i3 (K : Int))) (st' := []) rfl (by decide) rfl ?_
  refine w_P rfl (by decide) rfl ?_
  refine w_call (d := 10) (nL' := 1) (na := 0) (rc := 8) (vs := [.ref 44]) (rest := []) rfl (by decide) rfl (t_cutV (A := []) (rest := []) rfl hf1) ⟨Nat.le_of_ble_eq_true rfl, Nat.le_of_ble_eq_true rfl⟩ e2 (Or.inr (lv_ok _ (by omega) [] (fun _ => rfl))) ?_
  refine w_P (pc' := 855) (lv' := LV (i3 (K : Int))) (st' := []) rfl (by decide) rfl ?_
  refine w_P rfl (by decide) rfl ?_
  exact go s2 _ i2 (by omega)
theorem L_20 (hl : xs.length ≤ 3072) (hK : K + 6 ≤ xs.length) (h : INV s) (hns : ns ≤ 1802 + 806 * nm s) (go : ∀ s2 ns2, INV s2 → ns2 ≤ 1802 + 806 * nm s2 → Wp (some xs) 11 0 4 1553 (LV (i3 (K : Int))) [] (H s2) ns2 pQ) : Wp (some xs) 11 0 4 858 (LV (i3 (K : Int))) [] (H s) ns pQ := by
  obtain ⟨v, w, n1, s1, n2, s2, m2, e1, e2, i2, hm, hl1, hl2, hE⟩ := B_20 h (xs.getD (K + 1) 0) (xs.getD (K + 2) 0)
  obtain ⟨_, hf0⟩ := g0 s
  obtain ⟨_, hf1⟩ := g44 s1
  have h44 := (List.getElem?_eq_some_iff.mp hf1).1
  refine w_P rfl (by decide) rfl ?_
  refine w_P rfl (by decide) rfl ?_
  refine w_P rfl (by decide) rfl ?_
  refine w_P rfl (by decide) rfl ?_
  refine w_P rfl (by decide) rfl ?_
  refine w_R rfl (by decide) (sc_at (j := 1) hl (by omega) _ _ _) ?_
  refine w_P rfl (by decide) rfl ?_
  refine w_P rfl (by decide) rfl ?_
  refine w_P rfl (by decide) rfl ?_
  refine w_P rfl (by decide) rfl ?_
  refine w_R rfl (by decide) (sc_at (j := 2) hl (by omega) _ _ _) ?_
  refine w_call (d := 10) (nL' := 4) (na := 2) (rc := 7) (vs := [.ref 0, .int (xs.getD (K + 1) 0), .int (xs.getD (K + 2) 0)]) (rest := []) rfl (by decide) rfl (t_cutV (A := [.int (xs.getD (K + 2) 0), .int (xs.getD (K + 1) 0)]) (rest := []) rfl hf0) ⟨Nat.le_of_ble_eq_true rfl, Nat.le_of_ble_eq_true rfl⟩ e1 (Or.inl hl1) ?_
  refine w_P (pc' := 873) (lv' := LV (i3 (K : Int))) (st' := []) rfl (by decide) rfl ?_
  refine w_P rfl (by decide) rfl ?_
  refine w_P rfl (by decide) rfl ?_
  refine w_P rfl (by decide) rfl ?_
  refine w_P rfl (by decide) rfl ?_
  refine w_P rfl (by decide) rfl ?_
  refine w_R rfl (by decide) (sc_at (j := 1) hl (by omega) _ _ _) ?_
  refine w_P rfl (by decide) rfl ?_
  refine w_P rfl (by decide) rfl ?_
  refine w_P rfl (by decide) rfl ?_
  refine w_P rfl (by decide) rfl ?_
  refine w_R rfl (by decide) (sc_at (j := 2) hl (by omega) _ _ _) ?_
  refine w_call (d := 10) (nL' := 5) (na := 2) (rc := 8) (vs := [.ref 44, .int (xs.getD (K + 1) 0), .int (xs.getD (K + 2) 0)]) (rest := []) rfl (by decide) rfl (t_cutV (A := [.int (xs.getD (K + 2) 0), .int (xs.getD (K + 1) 0)]) (rest := []) rfl hf1) ⟨Nat.le_of_ble_eq_true rfl, Nat.le_of_ble_eq_true rfl⟩ e2 (Or.inr (lv_ok _ (by omega) [] (fun _ => rfl))) ?_
  refine w_P (pc' := 888) (lv' := LV (i3 (K : Int))) (st' := []) rfl (by decide) rfl ?_
  refine w_P rfl (by decide) rfl ?_
  exact go s2 _ i2 (by omega)
theorem L_21 (hl : xs.length ≤ 3072) (hK : K + 6 ≤ xs.length) (h : INV s) (hns : ns ≤ 1802 + 806 * nm s) (go : ∀ s2 ns2, INV s2 → ns2 ≤ 1802 + 806 * nm s2 → Wp (some xs) 11 0 4 1553 (LV (i3 (K : Int))) [] (H s2) ns2 pQ) : Wp (some xs) 11 0 4 891 (LV (i3 (K : Int))) [] (H s) ns pQ := by
  obtain ⟨v, w, n1, s1, n2, s2, m2, e1, e2, i2, hm, hl1, hl2, hE⟩ := B_21 h
  obtain ⟨_, hf0⟩ := g0 s
  obtain ⟨_, hf1⟩ := g44 s1
  have h44 := (List.getElem?_eq_some_iff.mp hf1).1
  refine w_P rfl (by decide) rfl ?_
  refine w_call (d := 10) (nL' := 2) (na := 0) (rc := 7) (vs := [.ref 0]) (rest := []) rfl (by decide) rfl (t_cutV (A := []) (rest := []) rfl hf0) ⟨Nat.le_of_ble_eq_true rfl, Nat.le_of_ble_eq_true rfl⟩ e1 (Or.inl hl1) ?_
  refine w_P (pc' := 896) (lv' := LV (i3 (K : Int))) (st' := []) rfl (by decide) rfl ?_
  refine w_P rfl (by decide) rfl ?_
  refine w_call (d := 10) (nL' := 3) (na := 0) (rc := 8) (vs := [.ref 44]) (rest := []) rfl (by decide) rfl (t_cutV (A := []) (rest := []) rfl hf1) ⟨Nat.le_of_ble_eq_true rfl, Nat.le_of_ble_eq_true rfl⟩ e2 (Or.inr (lv_ok _ (by omega) [] (fun _ => rfl))) ?_
  refine w_P (pc' := 901) (lv' := LV (i3 (K : Int))) (st' := []) rfl (by decide) rfl ?_
  refine w_P rfl (by decide) rfl ?_
  exact go s2 _ i2 (by omega)
theorem L_22 (hl : xs.length ≤ 3072) (hK : K + 6 ≤ xs.length) (h : INV s) (hns : ns ≤ 1802 + 806 * nm s) (go : ∀ s2 ns2, INV s2 → ns2 ≤ 1802 + 806 * nm s2 → Wp (some xs) 11 0 4 1553 (LV (i3 (K : Int))) [] (H s2) ns2 pQ) : Wp (some xs) 11 0 4 904 (LV (i3 (K : Int))) [] (H s) ns pQ := by
  obtain ⟨v, w, n1, s1, n2, s2, m2, e1, e2, i2, hm, hl1, hl2, hE⟩ := B_22 h
  obtain ⟨_, hf0⟩ := g0 s
  obtain ⟨_, hf1⟩ := g44 s1
  have h44 := (List.getElem?_eq_some_iff.mp hf1).1
  refine w_P rfl (by decide) rfl ?_
  refine w_call (d := 10) (nL' := 1) (na := 0) (rc := 7) (vs := [.ref 0]) (rest := []) rfl (by decide) rfl (t_cutV (A := []) (rest := []) rfl hf0) ⟨Nat.le_of_ble_eq_true rfl, Nat.le_of_ble_eq_true rfl⟩ e1 (Or.inl hl1) ?_
  refine w_P (pc' := 909) (lv' := LV (i3 (K : Int))) (st' := []) rfl (by decide) rfl ?_
  refine w_P rfl (by decide) rfl ?_
  refine w_call (d := 10) (nL' := 3) (na := 0) (rc := 8) (vs := [.ref 44]) (rest := []) rfl (by decide) rfl (t_cutV (A := []) (rest := []) rfl hf1) ⟨Nat.le_of_ble_eq_true rfl, Nat.le_of_ble_eq_true rfl⟩ e2 (Or.inr (lv_ok _ (by omega) [] (fun _ => rfl))) ?_
  refine w_P (pc' := 914) (lv' := LV (i3 (K : Int))) (st' := []) rfl (by decide) rfl ?_
  refine w_P rfl (by decide) rfl ?_
  exact go s2 _ i2 (by omega)
theorem L_23 (hl : xs.length ≤ 3072) (hK : K + 6 ≤ xs.length) (h : INV s) (hns : ns ≤ 1802 + 806 * nm s) (go : ∀ s2 ns2, INV s2 → ns2 ≤ 1802 + 806 * nm s2 → Wp (some xs) 11 0 4 1553 (LV (i3 (K : Int))) [] (H s2) ns2 pQ) : Wp (some xs) 11 0 4 917 (LV (i3 (K : Int))) [] (H s) ns pQ := by
  obtain ⟨v, w, n1, s1, n2, s2, m2, e1, e2, i2, hm, hl1, hl2, hE⟩ := B_23 h (xs.getD (K + 1) 0) (xs.getD (K + 2) 0)
  obtain ⟨_, hf0⟩ := g0 s
  obtain ⟨_, hf1⟩ := g44 s1
  have h44 := (List.getElem?_eq_some_iff.mp hf1).1
  refine w_P rfl (by decide) rfl ?_
  refine w_P rfl (by decide) rfl ?_
  refine w_P rfl (by decide) rfl ?_
  refine w_P rfl (by decide) rfl ?_
  refine w_P rfl (by decide) rfl ?_
  refine w_R rfl (by decide) (sc_at (j := 1) hl (by omega) _ _ _) ?_
  refine w_P rfl (by decide) rfl ?_
  refine w_P rfl (by decide) rfl ?_
  refine w_P rfl (by decide) rfl ?_
  refine w_P rfl (by decide) rfl ?_
  refine w_R rfl (by decide) (sc_at (j := 2) hl (by omega) _ _ _) ?_
  refine w_call (d := 10) (nL' := 3) (na := 2) (rc := 7) (vs := [.ref 0, .int (xs.getD (K + 1) 0), .int (xs.getD (K + 2) 0)]) (rest := []) rfl (by decide) rfl (t_cutV (A := [.int (xs.getD (K + 2) 0), .int (xs.getD (K + 1) 0)]) (rest := []) rfl hf0) ⟨Nat.le_of_ble_eq_true rfl, Nat.le_of_ble_eq_true rfl⟩ e1 (Or.inl hl1) ?_
  refine w_P (pc' := 932) (lv' := LV (i3 (K : Int))) (st' := []) rfl (by decide) rfl ?_
  refine w_P rfl (by decide) rfl ?_
  refine w_P rfl (by decide) rfl ?_
  refine w_P rfl (by decide) rfl ?_
  refine w_P rfl (by decide) rfl ?_
  refine w_P rfl (by decide) rfl ?_
  refine w_R rfl (by decide) (sc_at (j := 1) hl (by omega) _ _ _) ?_
  refine w_P rfl (by decide) rfl ?_
  refine w_P rfl (by decide) rfl ?_
  refine w_P rfl (by decide) rfl ?_
  refine w_P rfl (by decide) rfl ?_
  refine w_R rfl (by decide) (sc_at (j := 2) hl (by omega) _ _ _) ?_
  refine w_call (d := 10) (nL' := 3) (na := 2) (rc := 8) (vs := [.ref 44, .int (xs.getD (K + 1) 0), .int (xs.getD (K + 2) 0)]) (rest := []) rfl (by decide) rfl (t_cutV (A := [.int (xs.getD (K + 2) 0), .int (xs.getD (K + 1) 0)]) (rest := []) rfl hf1) ⟨Nat.le_of_ble_eq_true rfl, Nat.le_of_ble_eq_true rfl⟩ e2 (Or.inr (lv_ok _ (by omega) [] (fun _ => rfl))) ?_
  refine w_P (pc' := 947) (lv' := LV (i3 (K : Int))) (st' := []) rfl (by decide) rfl ?_
  refine w_P rfl (by decide) rfl ?_
  exact go s2 _ i2 (by omega)
theorem L_24 (hl : xs.length ≤ 3072) (hK : K + 6 ≤ xs.length) (h : INV s) (hns : ns ≤ 1802 + 806 * nm s) (go : ∀ s2 ns2, INV s2 → ns2 ≤ 1802 + 806 * nm s2 → Wp (some xs) 11 0 4 1553 (LV (i3 (K : Int))) [] (H s2) ns2 pQ) : Wp (some xs) 11 0 4 950 (LV (i3 (K : Int))) [] (H s) ns pQ := by
  obtain ⟨v, w, n1, s1, n2, s2, m2, e1, e2, i2, hm, hl1, hl2, hE⟩ := B_24 h (xs.getD (K + 1) 0)
  obtain ⟨_, hf0⟩ := g0 s
  obtain ⟨_, hf1⟩ := g44 s1
  have h44 := (List.getElem?_eq_some_iff.mp hf1).1
  refine w_P rfl (by decide) rfl ?_
  refine w_P rfl (by decide) rfl ?_
  refine w_P rfl (by decide) rfl ?_
  refine w_P rfl (by decide) rfl ?_
  refine w_P rfl (by decide) rfl ?_
  refine w_R rfl (by decide) (sc_at (j := 1) hl (by omega) _ _ _) ?_
  refine w_call (d := 10) (nL' := 2) (na := 1) (rc := 7) (vs := [.ref 0, .int (xs.getD (K + 1) 0)]) (rest := []) rfl (by decide) rfl (t_cutV (A := [.int (xs.getD (K + 1) 0)]) (rest := []) rfl hf0) ⟨Nat.le_of_ble_eq_true rfl, Nat.le_of_ble_eq_true rfl⟩ e1 (Or.inl hl1) ?_
  refine w_P (pc' := 960) (lv' := LV (i3 (K : Int))) (st' := []) rfl (by decide) rfl ?_
  refine w_P rfl (by decide) rfl ?_
  refine w_P rfl (by decide) rfl ?_
  refine w_P rfl (by decide) rfl ?_
  refine w_P rfl (by decide) rfl ?_
  refine w_P rfl (by decide) rfl ?_
  refine w_R rfl (by decide) (sc_at (j := 1) hl (by omega) _ _ _) ?_
  refine w_call (d := 10) (nL' := 2) (na := 1) (rc := 8) (vs := [.ref 44, .int (xs.getD (K + 1) 0)]) (rest := []) rfl (by decide) rfl (t_cutV (A := [.int (xs.getD (K + 1) 0)]) (rest := []) rfl hf1) ⟨Nat.le_of_ble_eq_true rfl, Nat.le_of_ble_eq_true rfl⟩ e2 (Or.inr (lv_ok _ (by omega) [] (fun _ => rfl))) ?_
  refine w_P (pc' := 970) (lv' := LV (i3 (K : Int))) (st' := []) rfl (by decide) rfl ?_
  refine w_P rfl (by decide) rfl ?_
  exact go s2 _ i2 (by omega)
theorem L_25 (hl : xs.length ≤ 3072) (hK : K + 6 ≤ xs.length) (h : INV s) (hns : ns ≤ 1802 + 806 * nm s) (go : ∀ s2 ns2, INV s2 → ns2 ≤ 1802 + 806 * nm s2 → Wp (some xs) 11 0 4 1553 (LV (i3 (K : Int))) [] (H s2) ns2 pQ) : Wp (some xs) 11 0 4 973 (LV (i3 (K : Int))) [] (H s) ns pQ := by
  obtain ⟨v, w, n1, s1, n2, s2, m2, e1, e2, i2, hm, hl1, hl2, hE⟩ := B_25 h (xs.getD (K + 1) 0) (xs.getD (K + 2) 0)
  obtain ⟨_, hf0⟩ := g0 s
  obtain ⟨_, hf1⟩ := g44 s1
  have h44 := (List.getElem?_eq_some_iff.mp hf1).1
  refine w_P rfl (by decide) rfl ?_
  refine w_P rfl (by decide) rfl ?_
  refine w_P rfl (by decide) rfl ?_
  refine w_P rfl (by decide) rfl ?_
  refine w_P rfl (by decide) rfl ?_
  refine w_R rfl (by decide) (sc_at (j := 1) hl (by omega) _ _ _) ?_
  refine w_P rfl (by decide) rfl ?_
  refine w_P rfl (by decide) rfl ?_
  refine w_P rfl (by decide) rfl ?_
  refine w_P rfl (by decide) rfl ?_
  refine w_R rfl (by decide) (sc_at (j := 2) hl (by omega) _ _ _) ?_
  refine w_call (d := 10) (nL' := 4) (na := 2) (rc := 7) (vs := [.ref 0, .int (xs.getD (K + 1) 0), .int (xs.getD (K + 2) 0)]) (rest := []) rfl (by decide) rfl (t_cutV (A := [.int (xs.getD (K + 2) 0), .int (xs.getD (K + 1) 0)]) (rest := []) rfl hf0) ⟨Nat.le_of_ble_eq_true rfl, Nat.le_of_ble_eq_true rfl⟩ e1 (Or.inl hl1) ?_
  refine w_P (pc' := 988) (lv' := LV (i3 (K : Int))) (st' := []) rfl (by decide) rfl ?_
  refine w_P rfl (by decide) rfl ?_
  refine w_P rfl (by decide) rfl ?_
  refine w_P rfl (by decide) rfl ?_
  refine w_P rfl (by decide) rfl ?_
  refine w_P rfl (by decide) rfl ?_
  refine w_R rfl (by decide) (sc_at (j := 1) hl (by omega) _ _ _) ?_
  refine w_P rfl (by decide) rfl ?_
  refine w_P rfl (by decide) rfl ?_
  refine w_P rfl (by decide) rfl ?_
  refine w_P rfl (by decide) rfl ?_
  refine w_R rfl (by decide) (sc_at (j := 2) hl (by omega) _ _ _) ?_
  refine w_call (d := 10) (nL' := 8) (na := 2) (rc := 8) (vs := [.ref 44, .int (xs.getD (K + 1) 0), .int (xs.getD (K + 2) 0)]) (rest := []) rfl (by decide) rfl (t_cutV (A := [.int (xs.getD (K + 2) 0), .int (xs.getD (K + 1) 0)]) (rest := []) rfl hf1) ⟨Nat.le_of_ble_eq_true rfl, Nat.le_of_ble_eq_true rfl⟩ e2 (Or.inr (lv_ok _ (by omega) [] (fun _ => rfl))) ?_
  refine w_P (pc' := 1003) (lv' := LV (i3 (K : Int))) (st' := []) rfl (by decide) rfl ?_
  refine w_P rfl (by decide) rfl ?_
  exact go s2 _ i2 (by omega)
theorem L_26 (hl : xs.length ≤ 3072) (hK : K + 6 ≤ xs.length) (h : INV s) (hns : ns ≤ 1802 + 806 * nm s) (go : ∀ s2 ns2, INV s2 → ns2 ≤ 1802 + 806 * nm s2 → Wp (some xs) 11 0 4 1553 (LV (i3 (K : Int))) [] (H s2) ns2 pQ) : Wp (some xs) 11 0 4 1006 (LV (i3 (K : Int))) [] (H s) ns pQ := by
  obtain ⟨v, w, n1, s1, n2, s2, m2, e1, e2, i2, hm, hl1, hl2, hE⟩ := B_26 h (xs.getD (K + 1) 0)
  obtain ⟨_, hf0⟩ := g0 s
  obtain ⟨_, hf1⟩ := g44 s1
  have h44 := (List.getElem?_eq_some_iff.mp hf1).1
  refine w_P rfl (by decide) rfl ?_
  refine w_P rfl (by decide) rfl ?_
  refine w_P rfl (by decide) rfl ?_
  refine w_P rfl (by decide) rfl ?_
  refine w_P rfl (by decide) rfl ?_
  refine w_R rfl (by decide) (sc_at (j := 1) hl (by omega) _ _ _) ?_
  refine w_call (d := 10) (nL' := 2) (na := 1) (rc := 7) (vs := [.ref 0, .int (xs.getD (K + 1) 0)]) (rest := []) rfl (by decide) rfl (t_cutV (A := [.int (xs.getD (K + 1) 0)]) (rest := []) rfl hf0) ⟨Nat.le_of_ble_eq_true rfl, Nat.le_of_ble_eq_true rfl⟩ e1 (Or.inl hl1) ?_
  refine w_P (pc' := 1016) (lv' := LV (i3 (K : Int))) (st' := []) rfl (by decide) rfl ?_
  refine w_P rfl (by decide) rfl ?_
  refine w_P rfl (by decide) rfl ?_
  refine w_P rfl (by decide) rfl ?_
  refine w_P rfl (by decide) rfl ?_
  refine w_P rfl (by decide) rfl ?_
  refine w_R rfl (by decide) (sc_at (j := 1) hl (by omega) _ _ _) ?_
  refine w_call (d := 10) (nL' := 17) (na := 1) (rc := 8) (vs := [.ref 44, .int (xs.getD (K + 1) 0)]) (rest := []) rfl (by decide) rfl (t_cutV (A := [.int (xs.getD (K + 1) 0)]) (rest := []) rfl hf1) ⟨Nat.le_of_ble_eq_true rfl, Nat.le_of_ble_eq_true rfl⟩ e2 (Or.inr (lv_ok _ (by omega) [] (fun _ => rfl))) ?_
  refine w_P (pc' := 1026) (lv' := LV (i3 (K : Int))) (st' := []) rfl (by decide) rfl ?_
  refine w_P rfl (by decide) rfl ?_
  exact go s2 _ i2 (by omega)
theorem L_27 (hl : xs.length ≤ 3072) (hK : K + 6 ≤ xs.length) (h : INV s) (hns : ns ≤ 1802 + 806 * nm s) (go : ∀ s2 ns2, INV s2 → ns2 ≤ 1802 + 806 * nm s2 → Wp (some xs) 11 0 4 1553 (LV (i3 (K : Int))) [] (H s2) ns2 pQ) : Wp (some xs) 11 0 4 1029 (LV (i3 (K : Int))) [] (H s) ns pQ := by
  obtain ⟨v, w, n1, s1, n2, s2, m2, e1, e2, i2, hm, hl1, hl2, hE⟩ := B_27 h (xs.getD (K + 1) 0)
  obtain ⟨_, hf0⟩ := g0 s
  obtain ⟨_, hf1⟩ := g44 s1
  have h44 := (List.getElem?_eq_some_iff.mp hf1).1
  refine w_P rfl (by decide) rfl ?_
  refine w_P rfl (by decide) rfl ?_
  refine w_P rfl (by decide) rfl ?_
  refine w_P rfl (by decide) rfl ?_
  refine w_P rfl (by decide) rfl ?_
  refine w_R rfl (by decide) (sc_at (j := 1) hl (by omega) _ _ _) ?_
  refine w_call (d := 10) (nL' := 2) (na := 1) (rc := 7) (vs := [.ref 0, .int (xs.getD (K + 1) 0)]) (rest := []) rfl (by decide) rfl (t_cutV (A := [.int (xs.getD (K + 1) 0)]) (rest := []) rfl hf0) ⟨Nat.le_of_ble_eq_true rfl, Nat.le_of_ble_eq_true rfl⟩ e1 (Or.inl hl1) ?_
  refine w_P (pc' := 1039) (lv' := LV (i3 (K : Int))) (st' := []) rfl (by decide) rfl ?_
  refine w_P rfl (by decide) rfl ?_
  refine w_P rfl (by decide) rfl ?_
  refine w_P rfl (by decide) rfl ?_
  refine w_P rfl (by decide) rfl ?_
  refine w_P rfl (by decide) rfl ?_
  refine w_R rfl (by decide) (sc_at (j := 1) hl (by omega) _ _ _) ?_
  refine w_call (d := 10) (nL' := 2) (na := 1) (rc := 8) (vs := [.ref 44, .int (xs.getD (K + 1) 0)]) (rest := []) rfl (by decide) rfl (t_cutV (A := [.int (xs.getD (K + 1) 0)]) (rest := []) rfl hf1) ⟨Nat.le_of_ble_eq_true rfl, Nat.le_of_ble_eq_true rfl⟩ e2 (Or.inr (lv_ok _ (by omega) [] (fun _ => rfl))) ?_
  refine w_P (pc' := 1049) (lv' := LV (i3 (K : Int))) (st' := []) rfl (by decide) rfl ?_
  refine w_P rfl (by decide) rfl ?_
  exact go s2 _ i2 (by omega)
theorem L_28 (hl : xs.length ≤ 3072) (hK : K + 6 ≤ xs.length) (h : INV s) (hns : ns ≤ 1802 + 806 * nm s) (go : ∀ s2 ns2, INV s2 → ns2 ≤ 1802 + 806 * nm s2 → Wp (some xs) 11 0 4 1553 (LV (i3 (K : Int))) [] (H s2) ns2 pQ) : Wp (some xs) 11 0 4 1052 (LV (i3 (K : Int))) [] (H s) ns pQ := by
  obtain ⟨v, w, n1, s1, n2, s2, m2, e1, e2, i2, hm, hl1, hl2, hE⟩ := B_28 h
  obtain ⟨_, hf0⟩ := g0 s
  obtain ⟨_, hf1⟩ := g44 s1
  have h44 := (List.getElem?_eq_some_iff.mp hf1).1
  refine w_P rfl (by decide) rfl ?_
  refine w_call (d := 10) (nL' := 3) (na := 0) (rc := 7) (vs := [.ref 0]) (rest := []) rfl (by decide) rfl (t_cutV (A := []) (rest := []) rfl hf0) ⟨Nat.le_of_ble_eq_true rfl, Nat.le_of_ble_eq_true rfl⟩ e1 (Or.inl hl1) ?_
  refine w_P (pc' := 1057) (lv' := LV (i3 (K : Int))) (st' := []) rfl (by decide) rfl ?_
  refine w_P rfl (by decide) rfl ?_
  refine w_call (d := 10) (nL' := 3) (na := 0) (rc := 8) (vs := [.ref 44]) (rest := []) rfl (by decide) rfl (t_cutV (A := []) (rest := []) rfl hf1) ⟨Nat.le_of_ble_eq_true rfl, Nat.le_of_ble_eq_true rfl⟩ e2 (Or.inr (lv_ok _ (by omega) [] (fun _ => rfl))) ?_
  refine w_P (pc' := 1062) (lv' := LV (i3 (K : Int))) (st' := []) rfl (by decide) rfl ?_
  refine w_P rfl (by decide) rfl ?_
  exact go s2 _ i2 (by omega)
theorem L_29 (hl : xs.length ≤ 3072) (hK : K + 6 ≤ xs.length) (h : INV s) (hns : ns ≤ 1802 + 806 * nm s) (go : ∀ s2 ns2, INV s2 → ns2 ≤ 1802 + 806 * nm s2 → Wp (some xs) 11 0 4 1553 (LV (i3 (K : Int))) [] (H s2) ns2 pQ) : Wp (some xs) 11 0 4 1065 (LV (i3 (K : Int))) [] (H s) ns pQ := by
  obtain ⟨v, w, n1, s1, n2, s2, m2, e1, e2, i2, hm, hl1, hl2, hE⟩ := B_29 h (xs.getD (K + 1) 0)
  obtain ⟨_, hf0⟩ := g0 s
  obtain ⟨_, hf1⟩ := g44 s1
  have h44 := (List.getElem?_eq_some_iff.mp hf1).1
  refine w_P rfl (by decide) rfl ?_
  refine w_P rfl (by decide) rfl ?_
  refine w_P rfl (by decide) rfl ?_
  refine w_P rfl (by decide) rfl ?_
  refine w_P rfl (by decide) rfl ?_
  refine w_R rfl (by decide) (sc_at (j := 1) hl (by omega) _ _ _) ?_
  refine w_call (d := 10) (nL' := 2) (na := 1) (rc := 7) (vs := [.ref 0, .int (xs.getD (K + 1) 0)]) (rest := []) rfl (by decide) rfl (t_cutV (A := [.int (xs.getD (K + 1) 0)]) (rest := []) rfl hf0) ⟨Nat.le_of_ble_eq_true rfl, Nat.le_of_ble_eq_true rfl⟩ e1 (Or.inl hl1) ?_
  refine w_P (pc' := 1075) (lv' := LV (i3 (K : Int))) (st' := []) rfl (by decide) rfl ?_
  refine w_P rfl (by decide) rfl ?_
  refine w_P rfl (by decide) rfl ?_
  refine w_P rfl (by decide) rfl ?_
  refine w_P rfl (by decide) rfl ?_
  refine w_P rfl (by decide) rfl ?_
  refine w_R rfl (by decide) (sc_at (j := 1) hl (by omega) _ _ _) ?_
  refine w_call (d := 10) (nL' := 2) (na := 1) (rc := 8) (vs := [.ref 44, .int (xs.getD (K + 1) 0)]) (rest := []) rfl (by decide) rfl (t_cutV (A := [.int (xs.getD (K + 1) 0)]) (rest := []) rfl hf1) ⟨Nat.le_of_ble_eq_true rfl, Nat.le_of_ble_eq_true rfl⟩ e2 (Or.inr (lv_ok _ (by omega) [] (fun _ => rfl))) ?_
  refine w_P (pc' := 1085) (lv' := LV (i3 (K : Int))) (st' := []) rfl (by decide) rfl ?_
  refine w_P rfl (by decide) rfl ?_
  exact go s2 _ i2 (by omega)
theorem L_30 (hl : xs.length ≤ 3072) (hK : K + 6 ≤ xs.length) (h : INV s) (hns : ns ≤ 1802 + 806 * nm s) (go : ∀ s2 ns2, INV s2 → ns2 ≤ 1802 + 806 * nm s2 → Wp (some xs) 11 0 4 1553 (LV (i3 (K : Int))) [] (H s2) ns2 pQ) : Wp (some xs) 11 0 4 1088 (LV (i3 (K : Int))) [] (H s) ns pQ := by
  obtain ⟨v, w, n1, s1, n2, s2, m2, e1, e2, i2, hm, hl1, hl2, hE⟩ := B_30 h (xs.getD (K + 1) 0) (xs.getD (K + 2) 0)
  obtain ⟨_, hf0⟩ := g0 s
  obtain ⟨_, hf1⟩ := g44 s1
  have h44 := (List.getElem?_eq_some_iff.mp hf1).1
  refine w_P rfl (by decide) rfl ?_
  refine w_P rfl (by decide) rfl ?_
  refine w_P rfl (by decide) rfl ?_
  refine w_P rfl (by decide) rfl ?_
  refine w_P rfl (by decide) rfl ?_
  refine w_R rfl (by decide) (sc_at (j := 1) hl (by omega) _ _ _) ?_
  refine w_P rfl (by decide) rfl ?_
  refine w_P rfl (by decide) rfl ?_
  refine w_P rfl (by decide) rfl ?_
  refine w_P rfl (by decide) rfl ?_
  refine w_R rfl (by decide) (sc_at (j := 2) hl (by omega) _ _ _) ?_
  refine w_call (d := 10) (nL' := 4) (na := 2) (rc := 7) (vs := [.ref 0, .int (xs.getD (K + 1) 0), .int (xs.getD (K + 2) 0)]) (rest := []) rfl (by decide) rfl (t_cutV (A := [.int (xs.getD (K + 2) 0), .int (xs.getD (K + 1) 0)]) (rest := []) rfl hf0) ⟨Nat.le_of_ble_eq_true rfl, Nat.le_of_ble_eq_true rfl⟩ e1 (Or.inl hl1) ?_
  refine w_P (pc' := 1103) (lv' := LV (i3 (K : Int))) (st' := []) rfl (by decide) rfl ?_
  refine w_P rfl (by decide) rfl ?_
  refine w_P rfl (by decide) rfl ?_
  refine w_P rfl (by decide) rfl ?_
  refine w_P rfl (by decide) rfl ?_
  refine w_P rfl (by decide) rfl ?_
  refine w_R rfl (by decide) (sc_at (j := 1) hl (by omega) _ _ _) ?_
  refine w_P rfl (by decide) rfl ?_
  refine w_P rfl (by decide) rfl ?_
  refine w_P rfl (by decide) rfl ?_
  refine w_P rfl (by decide) rfl ?_
  refine w_R rfl (by decide) (sc_at (j := 2) hl (by omega) _ _ _) ?_
  refine w_call (d := 10) (nL' := 6) (na := 2) (rc := 8) (vs := [.ref 44, .int (xs.getD (K + 1) 0), .int (xs.getD (K + 2) 0)]) (rest := []) rfl (by decide) rfl (t_cutV (A := [.int (xs.getD (K + 2) 0), .int (xs.getD (K + 1) 0)]) (rest := []) rfl hf1) ⟨Nat.le_of_ble_eq_true rfl, Nat.le_of_ble_eq_true rfl⟩ e2 (Or.inr (lv_ok _ (by omega) [] (fun _ => rfl))) ?_
  refine w_P (pc' := 1118) (lv' := LV (i3 (K : Int))) (st' := []) rfl (by decide) rfl ?_
  refine w_P rfl (by decide) rfl ?_
  exact go s2 _ i2 (by omega)
theorem L_31 (hl : xs.length ≤ 3072) (hK : K + 6 ≤ xs.length) (h : INV s) (hns : ns ≤ 1802 + 806 * nm s) (go : ∀ s2 ns2, INV s2 → ns2 ≤ 1802 + 806 * nm s2 → Wp (some xs) 11 0 4 1553 (LV (i3 (K : Int))) [] (H s2) ns2 pQ) : Wp (some xs) 11 0 4 1121 (LV (i3 (K : Int))) [] (H s) ns pQ := by
  obtain ⟨v, w, n1, s1, n2, s2, m2, e1, e2, i2, hm, hl1, hl2, hE⟩ := B_31 h
  obtain ⟨_, hf0⟩ := g0 s
  obtain ⟨_, hf1⟩ := g44 s1
  have h44 := (List.getElem?_eq_some_iff.mp hf1).1
  refine w_P rfl (by decide) rfl ?_
  refine w_call (d := 10) (nL' := 4) (na := 0) (rc := 7) (vs := [.ref 0]) (rest := []) rfl (by decide) rfl (t_cutV (A := []) (rest := []) rfl hf0) ⟨Nat.le_of_ble_eq_true rfl, Nat.le_of_ble_eq_true rfl⟩ e1 (Or.inl hl1) ?_
  refine w_P (pc' := 1126) (lv' := LV (i3 (K : Int))) (st' := []) rfl (by decide) rfl ?_
  refine w_P rfl (by decide) rfl ?_
  refine w_call (d := 10) (nL' := 4) (na := 0) (rc := 8) (vs := [.ref 44]) (rest := []) rfl (by decide) rfl (t_cutV (A := []) (rest := []) rfl hf1) ⟨Nat.le_of_ble_eq_true rfl, Nat.le_of_ble_eq_true rfl⟩ e2 (Or.inr (lv_ok _ (by omega) [] (fun _ => rfl))) ?_
  refine w_P (pc' := 1131) (lv' := LV (i3 (K : Int))) (st' := []) rfl (by decide) rfl ?_
  refine w_P rfl (by decide) rfl ?_
  exact go s2 _ i2 (by omega)
theorem L_32 (hl : xs.length ≤ 3072) (hK : K + 6 ≤ xs.length) (h : INV s) (hns : ns ≤ 1802 + 806 * nm s) (go : ∀ s2 ns2, INV s2 → ns2 ≤ 1802 + 806 * nm s2 → Wp (some xs) 11 0 4 1553 (LV (i3 (K : Int))) [] (H s2) ns2 pQ) : Wp (some xs) 11 0 4 1134 (LV (i3 (K : Int))) [] (H s) ns pQ := by
  obtain ⟨v, w, n1, s1, n2, s2, m2, e1, e2, i2, hm, hl1, hl2, hE⟩ := B_32 h (xs.getD (K + 1) 0)
  obtain ⟨_, hf0⟩ := g0 s
  obtain ⟨_, hf1⟩ := g44 s1
  have h44 := (List.getElem?_eq_some_iff.mp hf1).1
  refine w_P rfl (by decide) rfl ?_
  refine w_P rfl (by decide) rfl ?_
  refine w_P rfl (by decide) rfl ?_
  refine w_P rfl (by decide) rfl ?_
  refine w_P rfl (by decide) rfl ?_
  refine w_R rfl (by decide) (sc_at (j := 1) hl (by omega) _ _ _) ?_
  refine w_call (d := 10) (nL' := 2) (na := 1) (rc := 7) (vs := [.ref 0, .int (xs.getD (K + 1) 0)]) (rest := []) rfl (by decide) rfl (t_cutV (A := [.int (xs.getD (K + 1) 0)]) (rest := []) rfl hf0) ⟨Nat.le_of_ble_eq_true rfl, Nat.le_of_ble_eq_true rfl⟩ e1 (Or.inl hl1) ?_
  refine w_P (pc' := 1144) (lv' := LV (i3 (K : Int))) (st' := []) rfl (by decide) rfl ?_
  refine w_P rfl (by decide) rfl ?_
  refine w_P rfl (by decide) rfl ?_
  refine w_P rfl (by decide) rfl ?_
  refine w_P rfl (by decide) rfl ?_
  refine w_P rfl (by decide) rfl ?_
  refine w_R rfl (by decide) (sc_at (j := 1) hl (by omega) _ _ _) ?_
  refine w_call (d := 10) (nL' := 2) (na := 1) (rc := 8) (vs := [.ref 44, .int (xs.getD (K + 1) 0)]) (rest := []) rfl (by decide) rfl (t_cutV (A := [.int (xs.getD (K + 1) 0)]) (rest := []) rfl hf1) ⟨Nat.le_of_ble_eq_true rfl, Nat.le_of_ble_eq_true rfl⟩ e2 (Or.inr (lv_ok _ (by omega) [] (fun _ => rfl))) ?_
  refine w_P (pc' := 1154) (lv' := LV (i3 (K : Int))) (st' := []) rfl (by decide) rfl ?_
  refine w_P rfl (by decide) rfl ?_
  exact go s2 _ i2 (by omega)
theorem L_33 (hl : xs.length ≤ 3072) (hK : K + 6 ≤ xs.length) (h : INV s) (hns : ns ≤ 1802 + 806 * nm s) (go : ∀ s2 ns2, INV s2 → ns2 ≤ 1802 + 806 * nm s2 → Wp (some xs) 11 0 4 1553 (LV (i3 (K : Int))) [] (H s2) ns2 pQ) : Wp (some xs) 11 0 4 1157 (LV (i3 (K : Int))) [] (H s) ns pQ := by
  obtain ⟨v, w, n1, s1, n2, s2, m2, e1, e2, i2, hm, hl1, hl2, hE⟩ := B_33 h (xs.getD (K + 1) 0)
  obtain ⟨_, hf0⟩ := g0 s
  obtain ⟨_, hf1⟩ := g44 s1
  have h44 := (List.getElem?_eq_some_iff.mp hf1).1
  refine w_P rfl (by decide) rfl ?_
  refine w_P rfl (by decide) rfl ?_
  refine w_P rfl (by decide) rfl ?_
  refine w_P rfl (by decide) rfl ?_
  refine w_P rfl (by decide) rfl ?_
  refine w_R rfl (by decide) (sc_at (j := 1) hl (by omega) _ _ _) ?_
  refine w_call (d := 10) (nL' := 2) (na := 1) (rc := 7) (vs := [.ref 0, .int (xs.getD (K + 1) 0)]) (rest := []) rfl (by decide) rfl (t_cutV (A := [.int (xs.getD (K + 1) 0)]) (rest := []) rfl hf0) ⟨Nat.le_of_ble_eq_true rfl, Nat.le_of_ble_eq_true rfl⟩ e1 (Or.inl hl1) ?_
  refine w_P (pc' := 1167) (lv' := LV (i3 (K : Int))) (st' := []) rfl (by decide) rfl ?_
  refine w_P rfl (by decide) rfl ?_
  refine w_P rfl (by decide) rfl ?_
  refine w_P rfl (by decide) rfl ?_
  refine w_P rfl (by decide) rfl ?_
  refine w_P rfl (by decide) rfl ?_
  refine w_R rfl (by decide) (sc_at (j := 1) hl (by omega) _ _ _) ?_
  refine w_call (d := 10) (nL' := 2) (na := 1) (rc := 8) (vs := [.ref 44, .int (xs.getD (K + 1) 0)]) (rest := []) rfl (by decide) rfl (t_cutV (A := [.int (xs.getD (K + 1) 0)]) (rest := []) rfl hf1) ⟨Nat.le_of_ble_eq_true rfl, Nat.le_of_ble_eq_true rfl⟩ e2 (Or.inr (lv_ok _ (by omega) [] (fun _ => rfl))) ?_
  refine w_P (pc' := 1177) (lv' := LV (i3 (K : Int))) (st' := []) rfl (by decide) rfl ?_
  refine w_P rfl (by decide) rfl ?_
  exact go s2 _ i2 (by omega)
theorem L_34 (hl : xs.length ≤ 3072) (hK : K + 6 ≤ xs.length) (h : INV s) (hns : ns ≤ 1802 + 806 * nm s) (go : ∀ s2 ns2, INV s2 → ns2 ≤ 1802 + 806 * nm s2 → Wp (some xs) 11 0 4 1553 (LV (i3 (K : Int))) [] (H s2) ns2 pQ) : Wp (some xs) 11 0 4 1180 (LV (i3 (K : Int))) [] (H s) ns pQ := by
  obtain ⟨v, w, n1, s1, n2, s2, m2, e1, e2, i2, hm, hl1, hl2, hE⟩ := B_34 h
  obtain ⟨_, hf0⟩ := g0 s
  obtain ⟨_, hf1⟩ := g44 s1
  have h44 := (List.getElem?_eq_some_iff.mp hf1).1
  refine w_P rfl (by decide) rfl ?_
  refine w_call (d := 10) (nL' := 4) (na := 0) (rc := 7) (vs := [.ref 0]) (rest := []) rfl (by decide) rfl (t_cutV (A := []) (rest := []) rfl hf0) ⟨Nat.le_of_ble_eq_true rfl, Nat.le_of_ble_eq_true rfl⟩ e1 (Or.inl hl1) ?_
  refine w_P (pc' := 1185) (lv' := LV (i3 (K : Int))) (st' := []) rfl (by decide) rfl ?_
  refine w_P rfl (by decide) rfl ?_
  refine w_call (d := 10) (nL' := 4) (na := 0) (rc := 8) (vs := [.ref 44]) (rest := []) rfl (by decide) rfl (t_cutV (A := []) (rest := []) rfl hf1) ⟨Nat.le_of_ble_eq_true rfl, Nat.le_of_ble_eq_true rfl⟩ e2 (Or.inr (lv_ok _ (by omega) [] (fun _ => rfl))) ?_
  refine w_P (pc' := 1190) (lv' := LV (i3 (K : Int))) (st' := []) rfl (by decide) rfl ?_
  refine w_P rfl (by decide) rfl ?_
  exact go s2 _ i2 (by omega)
theorem L_35 (hl : xs.length ≤ 3072) (hK : K + 6 ≤ xs.length) (h : INV s) (hns : ns ≤ 1802 + 806 * nm s) (go : ∀ s2 ns2, INV s2 → ns2 ≤ 1802 + 806 * nm s2 → Wp (some xs) 11 0 4 1553 (LV (i3 (K : Int))) [] (H s2) ns2 pQ) : Wp (some xs) 11 0 4 1193 (LV (i3 (K : Int))) [] (H s) ns pQ := by
  obtain ⟨v, w, n1, s1, n2, s2, m2, e1, e2, i2, hm, hl1, hl2, hE⟩ := B_35 h (xs.getD (K + 1) 0) (xs.getD (K + 2) 0)
  obtain ⟨_, hf0⟩ := g0 s
  obtain ⟨_, hf1⟩ := g44 s1
  have h44 := (List.getElem?_eq_some_iff.mp hf1).1
  refine w_P rfl (by decide) rfl ?_
  refine w_P rfl (by decide) rfl ?_
  refine w_P rfl (by decide) rfl ?_
  refine w_P rfl (by decide) rfl ?_
  refine w_P rfl (by decide) rfl ?_
  refine w_R rfl (by decide) (sc_at (j := 1) hl (by omega) _ _ _) ?_
  refine w_P rfl (by decide) rfl ?_
  refine w_P rfl (by decide) rfl ?_
  refine w_P rfl (by decide) rfl ?_
  refine w_P rfl (by decide) rfl ?_
  refine w_R rfl (by decide) (sc_at (j := 2) hl (by omega) _ _ _) ?_
  refine w_call (d := 10) (nL' := 3) (na := 2) (rc := 7) (vs := [.ref 0, .int (xs.getD (K + 1) 0), .int (xs.getD (K + 2) 0)]) (rest := []) rfl (by decide) rfl (t_cutV (A := [.int (xs.getD (K + 2) 0), .int (xs.getD (K + 1) 0)]) (rest := []) rfl hf0) ⟨Nat.le_of_ble_eq_true rfl, Nat.le_of_ble_eq_true rfl⟩ e1 (Or.inl hl1) ?_
  refine w_P (pc' := 1208) (lv' := LV (i3 (K : Int))) (st' := []) rfl (by decide) rfl ?_
  refine w_P rfl (by decide) rfl ?_
  refine w_P rfl (by decide) rfl ?_
  refine w_P rfl (by decide) rfl ?_
  refine w_P rfl (by decide) rfl ?_
  refine w_P rfl (by decide) rfl ?_
  refine w_R rfl (by decide) (sc_at (j := 1) hl (by omega) _ _ _) ?_
  refine w_P rfl (by decide) rfl ?_
  refine w_P rfl (by decide) rfl ?_
  refine w_P rfl (by decide) rfl ?_
  refine w_P rfl (by decide) rfl ?_
  refine w_R rfl (by decide) (sc_at (j := 2) hl (by omega) _ _ _) ?_
  refine w_call (d := 10) (nL' := 3) (na := 2) (rc := 8) (vs := [.ref 44, .int (xs.getD (K + 1) 0), .int (xs.getD (K + 2) 0)]) (rest := []) rfl (by decide) rfl (t_cutV (A := [.int (xs.getD (K + 2) 0), .int (xs.getD (K + 1) 0)]) (rest := []) rfl hf1) ⟨Nat.le_of_ble_eq_true rfl, Nat.le_of_ble_eq_true rfl⟩ e2 (Or.inr (lv_ok _ (by omega) [] (fun _ => rfl))) ?_
  refine w_P (pc' := 1223) (lv' := LV (i3 (K : Int))) (st' := []) rfl (by decide) rfl ?_
  refine w_P rfl (by decide) rfl ?_
  exact go s2 _ i2 (by omega)
theorem L_36 (hl : xs.length ≤ 3072) (hK : K + 6 ≤ xs.length) (h : INV s) (hns : ns ≤ 1802 + 806 * nm s) (go : ∀ s2 ns2, INV s2 → ns2 ≤ 1802 + 806 * nm s2 → Wp (some xs) 11 0 4 1553 (LV (i3 (K : Int))) [] (H s2) ns2 pQ) : Wp (some xs) 11 0 4 1226 (LV (i3 (K : Int))) [] (H s) ns pQ := by
  obtain ⟨v, w, n1, s1, n2, s2, m2, e1, e2, i2, hm, hl1, hl2, hE⟩ := B_36 h (xs.getD (K + 1) 0)
  obtain ⟨_, hf0⟩ := g0 s
  obtain ⟨_, hf1⟩ := g44 s1
  have h44 := (List.getElem?_eq_some_iff.mp hf1).1
  refine w_P rfl (by decide) rfl ?_
  refine w_P rfl (by decide) rfl ?_
  refine w_P rfl (by decide) rfl ?_
  refine w_P rfl (by decide) rfl ?_
  refine w_P rfl (by decide) rfl ?_
  refine w_R rfl (by decide) (sc_at (j := 1) hl (by omega) _ _ _) ?_
  refine w_call (d := 10) (nL' := 2) (na := 1) (rc := 7) (vs := [.ref 0, .int (xs.getD (K + 1) 0)]) (rest := []) rfl (by decide) rfl (t_cutV (A := [.int (xs.getD (K + 1) 0)]) (rest := []) rfl hf0) ⟨Nat.le_of_ble_eq_true rfl, Nat.le_of_ble_eq_true rfl⟩ e1 (Or.inl hl1) ?_
  refine w_P (pc' := 1236) (lv' := LV (i3 (K : Int))) (st' := []) rfl (by decide) rfl ?_
  refine w_P rfl (by decide) rfl ?_
  refine w_P rfl (by decide) rfl ?_
  refine w_P rfl (by decide) rfl ?_
  refine w_P rfl (by decide) rfl ?_
  refine w_P rfl (by decide) rfl ?_
  refine w_R rfl (by decide) (sc_at (j := 1) hl (by omega) _ _ _) ?_
  refine w_call (d := 10) (nL' := 7) (na := 1) (rc := 8) (vs := [.ref 44, .int (xs.getD (K + 1) 0)]) (rest := []) rfl (by decide) rfl (t_cutV (A := [.int (xs.getD (K + 1) 0)]) (rest := []) rfl hf1) ⟨Nat.le_of_ble_eq_true rfl, Nat.le_of_ble_eq_true rfl⟩ e2 (Or.inr (lv_ok _ (by omega) [] (fun _ => rfl))) ?_
  refine w_P (pc' := 1246) (lv' := LV (i3 (K : Int))) (st' := []) rfl (by decide) rfl ?_
  refine w_P rfl (by decide) rfl ?_
  exact go s2 _ i2 (by omega)
theorem L_37 (hl : xs.length ≤ 3072) (hK : K + 6 ≤ xs.length) (h : INV s) (hns : ns ≤ 1802 + 806 * nm s) (go : ∀ s2 ns2, INV s2 → ns2 ≤ 1802 + 806 * nm s2 → Wp (some xs) 11 0 4 1553 (LV (i3 (K : Int))) [] (H s2) ns2 pQ) : Wp (some xs) 11 0 4 1249 (LV (i3 (K : Int))) [] (H s) ns pQ := by
  obtain ⟨v, w, n1, s1, n2, s2, m2, e1, e2, i2, hm, hl1, hl2, hE⟩ := B_37 h (xs.getD (K + 1) 0)
  obtain ⟨_, hf0⟩ := g0 s
  obtain ⟨_, hf1⟩ := g44 s1
  have h44 := (List.getElem?_eq_some_iff.mp hf1).1
  refine w_P rfl (by decide) rfl ?_
  refine w_P rfl (by decide) rfl ?_
  refine w_P rfl (by decide) rfl ?_
  refine w_P rfl (by decide) rfl ?_
  refine w_P rfl (by decide) rfl ?_
  refine w_R rfl (by decide) (sc_at (j := 1) hl (by omega) _ _ _) ?_
  refine w_call (d := 10) (nL' := 2) (na := 1) (rc := 7) (vs := [.ref 0, .int (xs.getD (K + 1) 0)]) (rest := []) rfl (by decide) rfl (t_cutV (A := [.int (xs.getD (K + 1) 0)]) (rest := []) rfl hf0) ⟨Nat.le_of_ble_eq_true rfl, Nat.le_of_ble_eq_true rfl⟩ e1 (Or.inl hl1) ?_
  refine w_P (pc' := 1259) (lv' := LV (i3 (K : Int))) (st' := []) rfl (by decide) rfl ?_
  refine w_P rfl (by decide) rfl ?_
  refine w_P rfl (by decide) rfl ?_
  refine w_P rfl (by decide) rfl ?_
  refine w_P rfl (by decide) rfl ?_
  refine w_P rfl (by decide) rfl ?_
  refine w_R rfl (by decide) (sc_at (j := 1) hl (by omega) _ _ _) ?_
  refine w_call (d := 10) (nL' := 2) (na := 1) (rc := 8) (vs := [.ref 44, .int (xs.getD (K + 1) 0)]) (rest := []) rfl (by decide) rfl (t_cutV (A := [.int (xs.getD (K + 1) 0)]) (rest := []) rfl hf1) ⟨Nat.le_of_ble_eq_true rfl, Nat.le_of_ble_eq_true rfl⟩ e2 (Or.inr (lv_ok _ (by omega) [] (fun _ => rfl))) ?_
  refine w_P (pc' := 1269) (lv' := LV (i3 (K : Int))) (st' := []) rfl (by decide) rfl ?_
  refine w_P rfl (by decide) rfl ?_
  exact go s2 _ i2 (by omega)
theorem L_38 (hl : xs.length ≤ 3072) (hK : K + 6 ≤ xs.length) (h : INV s) (hns : ns ≤ 1802 + 806 * nm s) (go : ∀ s2 ns2, INV s2 → ns2 ≤ 1802 + 806 * nm s2 → Wp (some xs) 11 0 4 1553 (LV (i3 (K : Int))) [] (H s2) ns2 pQ) : Wp (some xs) 11 0 4 1272 (LV (i3 (K : Int))) [] (H s) ns pQ := by
  obtain ⟨v, w, n1, s1, n2, s2, m2, e1, e2, i2, hm, hl1, hl2, hE⟩ := B_38 h (xs.getD (K + 1) 0)
  obtain ⟨_, hf0⟩ := g0 s
  obtain ⟨_, hf1⟩ := g44 s1
  have h44 := (List.getElem?_eq_some_iff.mp hf1).1
  refine w_P rfl (by decide) rfl ?_
  refine w_P rfl (by decide) rfl ?_
  refine w_P rfl (by decide) rfl ?_
  refine w_P rfl (by decide) rfl ?_
  refine w_P rfl (by decide) rfl ?_
  refine w_R rfl (by decide) (sc_at (j := 1) hl (by omega) _ _ _) ?_
  refine w_call (d := 10) (nL' := 2) (na := 1) (rc := 7) (vs := [.ref 0, .int (xs.getD (K + 1) 0)]) (rest := []) rfl (by decide) rfl (t_cutV (A := [.int (xs.getD (K + 1) 0)]) (rest := []) rfl hf0) ⟨Nat.le_of_ble_eq_true rfl, Nat.le_of_ble_eq_true rfl⟩ e1 (Or.inl hl1) ?_
  refine w_P (pc' := 1282) (lv' := LV (i3 (K : Int))) (st' := []) rfl (by decide) rfl ?_
  refine w_P rfl (by decide) rfl ?_
  refine w_P rfl (by decide) rfl ?_
  refine w_P rfl (by decide) rfl ?_
  refine w_P rfl (by decide) rfl ?_
  refine w_P rfl (by decide) rfl ?_
  refine w_R rfl (by decide) (sc_at (j := 1) hl (by omega) _ _ _) ?_
  refine w_call (d := 10) (nL' := 2) (na := 1) (rc := 8) (vs := [.ref 44, .int (xs.getD (K + 1) 0)]) (rest := []) rfl (by decide) rfl (t_cutV (A := [.int (xs.getD (K + 1) 0)]) (rest := []) rfl hf1) ⟨Nat.le_of_ble_eq_true rfl, Nat.le_of_ble_eq_true rfl⟩ e2 (Or.inr (lv_ok _ (by omega) [] (fun _ => rfl))) ?_
  refine w_P (pc' := 1292) (lv' := LV (i3 (K : Int))) (st' := []) rfl (by decide) rfl ?_
  refine w_P rfl (by decide) rfl ?_
  exact go s2 _ i2 (by omega)
theorem L_39 (hl : xs.length ≤ 3072) (hK : K + 6 ≤ xs.length) (h : INV s) (hns : ns ≤ 1802 + 806 * nm s) (go : ∀ s2 ns2, INV s2 → ns2 ≤ 1802 + 806 * nm s2 → Wp (some xs) 11 0 4 1553 (LV (i3 (K : Int))) [] (H s2) ns2 pQ) : Wp (some xs) 11 0 4 1295 (LV (i3 (K : Int))) [] (H s) ns pQ := by
  obtain ⟨v, w, n1, s1, n2, s2, m2, e1, e2, i2, hm, hl1, hl2, hE⟩ := B_39 h (xs.getD (K + 1) 0)
  obtain ⟨_, hf0⟩ := g0 s
  obtain ⟨_, hf1⟩ := g44 s1
  have h44 := (List.getElem?_eq_some_iff.mp hf1).1
  refine w_P rfl (by decide) rfl ?_
  refine w_P rfl (by decide) rfl ?_
  refine w_P rfl (by decide) rfl ?_
  refine w_P rfl (by decide) rfl ?_
  refine w_P rfl (by decide) rfl ?_
  refine w_R rfl (by decide) (sc_at (j := 1) hl (by omega) _ _ _) ?_
  refine w_call (d := 10) (nL' := 2) (na := 1) (rc := 7) (vs := [.ref 0, .int (xs.getD (K + 1) 0)]) (rest := []) rfl (by decide) rfl (t_cutV (A := [.int (xs.getD (K + 1) 0)]) (rest := []) rfl hf0) ⟨Nat.le_of_ble_eq_true rfl, Nat.le_of_ble_eq_true rfl⟩ e1 (Or.inl hl1) ?_
  refine w_P (pc' := 1305) (lv' := LV (i3 (K : Int))) (st' := []) rfl (by decide) rfl ?_
  refine w_P rfl (by decide) rfl ?_
  refine w_P rfl (by decide) rfl ?_
  refine w_P rfl (by decide) rfl ?_
  refine w_P rfl (by decide) rfl ?_
  refine w_P rfl (by decide) rfl ?_
  refine w_R rfl (by decide) (sc_at (j := 1) hl (by omega) _ _ _) ?_
  refine w_call (d := 10) (nL' := 2) (na := 1) (rc := 8) (vs := [.ref 44, .int (xs.getD (K + 1) 0)]) (rest := []) rfl (by decide) rfl (t_cutV (A := [.int (xs.getD (K + 1) 0)]) (rest := []) rfl hf1) ⟨Nat.le_of_ble_eq_true rfl, Nat.le_of_ble_eq_true rfl⟩ e2 (Or.inr (lv_ok _ (by omega) [] (fun _ => rfl))) ?_
  refine w_P (pc' := 1315) (lv' := LV (i3 (K : Int))) (st' := []) rfl (by decide) rfl ?_
  refine w_P rfl (by decide) rfl ?_
  exact go s2 _ i2 (by omega)
theorem L_40 (hl : xs.length ≤ 3072) (hK : K + 6 ≤ xs.length) (h : INV s) (hns : ns ≤ 1802 + 806 * nm s) (go : ∀ s2 ns2, INV s2 → ns2 ≤ 1802 + 806 * nm s2 → Wp (some xs) 11 0 4 1553 (LV (i3 (K : Int))) [] (H s2) ns2 pQ) : Wp (some xs) 11 0 4 1318 (LV (i3 (K : Int))) [] (H s) ns pQ := by
  obtain ⟨v, w, n1, s1, n2, s2, m2, e1, e2, i2, hm, hl1, hl2, hE⟩ := B_40 h
  obtain ⟨_, hf0⟩ := g0 s
  obtain ⟨_, hf1⟩ := g44 s1
  have h44 := (List.getElem?_eq_some_iff.mp hf1).1
  refine w_P rfl (by decide) rfl ?_
  refine w_call (d := 10) (nL' := 1) (na := 0) (rc := 7) (vs := [.ref 0]) (rest := []) rfl (by decide) rfl (t_cutV (A := []) (rest := []) rfl hf0) ⟨Nat.le_of_ble_eq_true rfl, Nat.le_of_ble_eq_true rfl⟩ e1 (Or.inl hl1) ?_
  refine w_P (pc' := 1323) (lv' := LV (i3 (K : Int))) (st' := []) rfl (by decide) rfl ?_
  refine w_P rfl (by decide) rfl ?_
  refine w_call (d := 10) (nL' := 7) (na := 0) (rc := 8) (vs := [.ref 44]) (rest := []) rfl (by decide) rfl (t_cutV (A := []) (rest := []) rfl hf1) ⟨Nat.le_of_ble_eq_true rfl, Nat.le_of_ble_eq_true rfl⟩ e2 (Or.inr (lv_ok _ (by omega) [] (fun _ => rfl))) ?_
  refine w_P (pc' := 1328) (lv' := LV (i3 (K : Int))) (st' := []) rfl (by decide) rfl ?_
  refine w_P rfl (by decide) rfl ?_
  exact go s2 _ i2 (by omega)
theorem L_41 (hl : xs.length ≤ 3072) (hK : K + 6 ≤ xs.length) (h : INV s) (hns : ns ≤ 1802 + 806 * nm s) (go : ∀ s2 ns2, INV s2 → ns2 ≤ 1802 + 806 * nm s2 → Wp (some xs) 11 0 4 1553 (LV (i3 (K : Int))) [] (H s2) ns2 pQ) : Wp (some xs) 11 0 4 1331 (LV (i3 (K : Int))) [] (H s) ns pQ := by
  obtain ⟨v, w, n1, s1, n2, s2, m2, e1, e2, i2, hm, hl1, hl2, hE⟩ := B_41 h
  obtain ⟨_, hf0⟩ := g0 s
  obtain ⟨_, hf1⟩ := g44 s1
  have h44 := (List.getElem?_eq_some_iff.mp hf1).1
  refine w_P rfl (by decide) rfl ?_
  refine w_call (d := 10) (nL' := 1) (na := 0) (rc := 7) (vs := [.ref 0]) (rest := []) rfl (by decide) rfl (t_cutV (A := []) (rest := []) rfl hf0) ⟨Nat.le_of_ble_eq_true rfl, Nat.le_of_ble_eq_true rfl⟩ e1 (Or.inl hl1) ?_
  refine w_P (pc' := 1336) (lv' := LV (i3 (K : Int))) (st' := []) rfl (by decide) rfl ?_
  refine w_P rfl (by decide) rfl ?_
  refine w_call (d := 10) (nL' := 6) (na := 0) (rc := 8) (vs := [.ref 44]) (rest := []) rfl (by decide) rfl (t_cutV (A := []) (rest := []) rfl hf1) ⟨Nat.le_of_ble_eq_true rfl, Nat.le_of_ble_eq_true rfl⟩ e2 (Or.inr (lv_ok _ (by omega) [] (fun _ => rfl))) ?_
  refine w_P (pc' := 1341) (lv' := LV (i3 (K : Int))) (st' := []) rfl (by decide) rfl ?_
  refine w_P rfl (by decide) rfl ?_
  exact go s2 _ i2 (by omega)
theorem L_42 (hl : xs.length ≤ 3072) (hK : K + 6 ≤ xs.length) (h : INV s) (hns : ns ≤ 1802 + 806 * nm s) (go : ∀ s2 ns2, INV s2 → ns2 ≤ 1802 + 806 * nm s2 → Wp (some xs) 11 0 4 1553 (LV (i3 (K : Int))) [] (H s2) ns2 pQ) : Wp (some xs) 11 0 4 1344 (LV (i3 (K : Int))) [] (H s) ns pQ := by
  obtain ⟨v, w, n1, s1, n2, s2, m2, e1, e2, i2, hm, hl1, hl2, hE⟩ := B_42 h
  obtain ⟨_, hf0⟩ := g0 s
  obtain ⟨_, hf1⟩ := g44 s1
  have h44 := (List.getElem?_eq_some_iff.mp hf1).1
  refine w_P rfl (by decide) rfl ?_
  refine w_call (d := 10) (nL' := 1) (na := 0) (rc := 7) (vs := [.ref 0]) (rest := []) rfl (by decide) rfl (t_cutV (A := []) (rest := []) rfl hf0) ⟨Nat.le_of_ble_eq_true rfl, Nat.le_of_ble_eq_true rfl⟩ e1 (Or.inl hl1) ?_
  refine w_P (pc' := 1349) (lv' := LV (i3 (K : Int))) (st' := []) rfl (by decide) rfl ?_
  refine w_P rfl (by decide) rfl ?_
  refine w_call (d := 10) (nL' := 4) (na := 0) (rc := 8) (vs := [.ref 44]) (rest := []) rfl (by decide) rfl (t_cutV (A := []) (rest := []) rfl hf1) ⟨Nat.le_of_ble_eq_true rfl, Nat.le_of_ble_eq_true rfl⟩ e2 (Or.inr (lv_ok _ (by omega) [] (fun _ => rfl))) ?_
  refine w_P (pc' := 1354) (lv' := LV (i3 (K : Int))) (st' := []) rfl (by decide) rfl ?_
  refine w_P rfl (by decide) rfl ?_
  exact go s2 _ i2 (by omega)
theorem L_43 (hl : xs.length ≤ 3072) (hK : K + 6 ≤ xs.length) (h : INV s) (hns : ns ≤ 1802 + 806 * nm s) (go : ∀ s2 ns2, INV s2 → ns2 ≤ 1802 + 806 * nm s2 → Wp (some xs) 11 0 4 1553 (LV (i3 (K : Int))) [] (H s2) ns2 pQ) : Wp (some xs) 11 0 4 1357 (LV (i3 (K : Int))) [] (H s) ns pQ := by
  obtain ⟨v, w, n1, s1, n2, s2, m2, e1, e2, i2, hm, hl1, hl2, hE⟩ := B_43 h
  obtain ⟨_, hf0⟩ := g0 s
  obtain ⟨_, hf1⟩ := g44 s1
  have h44 := (List.getElem?_eq_some_iff.mp hf1).1
  refine w_P rfl (by decide) rfl ?_
  refine w_call (d := 10) (nL' := 1) (na := 0) (rc := 7) (vs := [.ref 0]) (rest := []) rfl (by decide) rfl (t_cutV (A := []) (rest := []) rfl hf0) ⟨Nat.le_of_ble_eq_true rfl, Nat.le_of_ble_eq_true rfl⟩ e1 (Or.inl hl1) ?_
  refine w_P (pc' := 1362) (lv' := LV (i3 (K : Int))) (st' := []) rfl (by decide) rfl ?_
  refine w_P rfl (by decide) rfl ?_
  refine w_call (d := 10) (nL' := 6) (na := 0) (rc := 8) (vs := [.ref 44]) (rest := []) rfl (by decide) rfl (t_cutV (A := []) (rest := []) rfl hf1) ⟨Nat.le_of_ble_eq_true rfl, Nat.le_of_ble_eq_true rfl⟩ e2 (Or.inr (lv_ok _ (by omega) [] (fun _ => rfl))) ?_
  refine w_P (pc' := 1367) (lv' := LV (i3 (K : Int))) (st' := []) rfl (by decide) rfl ?_
  refine w_P rfl (by decide) rfl ?_
  exact go s2 _ i2 (by omega)
theorem L_44 (hl : xs.length ≤ 3072) (hK : K + 6 ≤ xs.length) (h : INV s) (hns : ns ≤ 1802 + 806 * nm s) (go : ∀ s2 ns2, INV s2 → ns2 ≤ 1802 + 806 * nm s2 → Wp (some xs) 11 0 4 1553 (LV (i3 (K : Int))) [] (H s2) ns2 pQ) : Wp (some xs) 11 0 4 1370 (LV (i3 (K : Int))) [] (H s) ns pQ := by
  obtain ⟨v, w, n1, s1, n2, s2, m2, e1, e2, i2, hm, hl1, hl2, hE⟩ := B_44 h
  obtain ⟨_, hf0⟩ := g0 s
  obtain ⟨_, hf1⟩ := g44 s1
  have h44 := (List.getElem?_eq_some_iff.mp hf1).1
  refine w_P rfl (by decide) rfl ?_
  refine w_call (d := 10) (nL' := 1) (na := 0) (rc := 7) (vs := [.ref 0]) (rest := []) rfl (by decide) rfl (t_cutV (A := []) (rest := []) rfl hf0) ⟨Nat.le_of_ble_eq_true rfl, Nat.le_of_ble_eq_true rfl⟩ e1 (Or.inl hl1) ?_
  refine w_P (pc' := 1375) (lv' := LV (i3 (K : Int))) (st' := []) rfl (by decide) rfl ?_
  refine w_P rfl (by decide) rfl ?_
  refine w_call (d := 10) (nL' := 7) (na := 0) (rc := 8) (vs := [.ref 44]) (rest := []) rfl (by decide) rfl (t_cutV (A := []) (rest := []) rfl hf1) ⟨Nat.le_of_ble_eq_true rfl, Nat.le_of_ble_eq_true rfl⟩ e2 (Or.inr (lv_ok _ (by omega) [] (fun _ => rfl))) ?_
  refine w_P (pc' := 1380) (lv' := LV (i3 (K : Int))) (st' := []) rfl (by decide) rfl ?_
  refine w_P rfl (by decide) rfl ?_
  exact go s2 _ i2 (by omega)
theorem L_45 (hl : xs.length ≤ 3072) (hK : K + 6 ≤ xs.length) (h : INV s) (hns : ns ≤ 1802 + 806 * nm s) (go : ∀ s2 ns2, INV s2 → ns2 ≤ 1802 + 806 * nm s2 → Wp (some xs) 11 0 4 1553 (LV (i3 (K : Int))) [] (H s2) ns2 pQ) : Wp (some xs) 11 0 4 1383 (LV (i3 (K : Int))) [] (H s) ns pQ := by
  obtain ⟨v, w, n1, s1, n2, s2, m2, e1, e2, i2, hm, hl1, hl2, hE⟩ := B_45 h
  obtain ⟨_, hf0⟩ := g0 s
  obtain ⟨_, hf1⟩ := g44 s1
  have h44 := (List.getElem?_eq_some_iff.mp hf1).1
  refine w_P rfl (by decide) rfl ?_
  refine w_call (d := 10) (nL' := 3) (na := 0) (rc := 7) (vs := [.ref 0]) (rest := []) rfl (by decide) rfl (t_cutV (A := []) (rest := []) rfl hf0) ⟨Nat.le_of_ble_eq_true rfl, Nat.le_of_ble_eq_true rfl⟩ e1 (Or.inl hl1) ?_
  refine w_P (pc' := 1388) (lv' := LV (i3 (K : Int))) (st' := []) rfl (by decide) rfl ?_
  refine w_P rfl (by decide) rfl ?_
  refine w_call (d := 10) (nL' := 3) (na := 0) (rc := 8) (vs := [.ref 44]) (rest := []) rfl (by decide) rfl (t_cutV (A := []) (rest := []) rfl hf1) ⟨Nat.le_of_ble_eq_true rfl, Nat.le_of_ble_eq_true rfl⟩ e2 (Or.inr (lv_ok _ (by omega) [] (fun _ => rfl))) ?_
  refine w_P (pc' := 1393) (lv' := LV (i3 (K : Int))) (st' := []) rfl (by decide) rfl ?_
  refine w_P rfl (by decide) rfl ?_
  exact go s2 _ i2 (by omega)
theorem L_46 (hl : xs.length ≤ 3072) (hK : K + 6 ≤ xs.length) (h : INV s) (hns : ns ≤ 1802 + 806 * nm s) (go : ∀ s2 ns2, INV s2 → ns2 ≤ 1802 + 806 * nm s2 → Wp (some xs) 11 0 4 1553 (LV (i3 (K : Int))) [] (H s2) ns2 pQ) : Wp (some xs) 11 0 4 1396 (LV (i3 (K : Int))) [] (H s) ns pQ := by
  obtain ⟨v, w, n1, s1, n2, s2, m2, e1, e2, i2, hm, hl1, hl2, hE⟩ := B_46 h (xs.getD (K + 1) 0)
  obtain ⟨_, hf0⟩ := g0 s
  obtain ⟨_, hf1⟩ := g44 s1
  have h44 := (List.getElem?_eq_some_iff.mp hf1).1
  refine w_P rfl (by decide) rfl ?_
  refine w_P rfl (by decide) rfl ?_
  refine w_P rfl (by decide) rfl ?_
  refine w_P rfl (by decide) rfl ?_
  refine w_P rfl (by decide) rfl ?_
  refine w_R rfl (by decide) (sc_at (j := 1) hl (by omega) _ _ _) ?_
  refine w_call (d := 10) (nL' := 2) (na := 1) (rc := 7) (vs := [.ref 0, .int (xs.getD (K + 1) 0)]) (rest := []) rfl (by decide) rfl (t_cutV (A := [.int (xs.getD (K + 1) 0)]) (rest := []) rfl hf0) ⟨Nat.le_of_ble_eq_true rfl, Nat.le_of_ble_eq_true rfl⟩ e1 (Or.inl hl1) ?_
  refine w_P (pc' := 1406) (lv' := LV (i3 (K : Int))) (st' := []) rfl (by decide) rfl ?_
  refine w_P rfl (by decide) rfl ?_
  refine w_P rfl (by decide) rfl ?_
  refine w_P rfl (by decide) rfl ?_
  refine w_P rfl (by decide) rfl ?_
  refine w_P rfl (by decide) rfl ?_
  refine w_R rfl (by decide) (sc_at (j := 1) hl (by omega) _ _ _) ?_
  refine w_call (d := 10) (nL' := 6) (na := 1) (rc := 8) (vs := [.ref 44, .int (xs.getD (K + 1) 0)]) (rest := []) rfl (by decide) rfl (t_cutV (A := [.int (xs.getD (K + 1) 0)]) (rest := []) rfl hf1) ⟨Nat.le_of_ble_eq_true rfl, Nat.le_of_ble_eq_true rfl⟩ e2 (Or.inr (lv_ok _ (by omega) [] (fun _ => rfl))) ?_
  refine w_P (pc' := 1416) (lv' := LV (i3 (K : Int))) (st' := []) rfl (by decide) rfl ?_
  refine w_P rfl (by decide) rfl ?_
  exact go s2 _ i2 (by omega)
theorem L_47 (hl : xs.length ≤ 3072) (hK : K + 6 ≤ xs.length) (h : INV s) (hns : ns ≤ 1802 + 806 * nm s) (go : ∀ s2 ns2, INV s2 → ns2 ≤ 1802 + 806 * nm s2 → Wp (some xs) 11 0 4 1553 (LV (i3 (K : Int))) [] (H s2) ns2 pQ) : Wp (some xs) 11 0 4 1419 (LV (i3 (K : Int))) [] (H s) ns pQ := by
  obtain ⟨v, w, n1, s1, n2, s2, m2, e1, e2, i2, hm, hl1, hl2, hE⟩ := B_47 h
  obtain ⟨_, hf0⟩ := g0 s
  obtain ⟨_, hf1⟩ := g44 s1
  have h44 := (List.getElem?_eq_some_iff.mp hf1).1
  refine w_P rfl (by decide) rfl ?_
  refine w_call (d := 10) (nL' := 2) (na := 0) (rc := 7) (vs := [.ref 0]) (rest := []) rfl (by decide) rfl (t_cutV (A := []) (rest := []) rfl hf0) ⟨Nat.le_of_ble_eq_true rfl, Nat.le_of_ble_eq_true rfl⟩ e1 (Or.inl hl1) ?_
  refine w_P (pc' := 1424) (lv' := LV (i3 (K : Int))) (st' := []) rfl (by decide) rfl ?_
  refine w_P rfl (by decide) rfl ?_
  refine w_call (d := 10) (nL' := 2) (na := 0) (rc := 8) (vs := [.ref 44]) (rest := []) rfl (by decide) rfl (t_cutV (A := []) (rest := []) rfl hf1) ⟨Nat.le_of_ble_eq_true rfl, Nat.le_of_ble_eq_true rfl⟩ e2 (Or.inr (lv_ok _ (by omega) [] (fun _ => rfl))) ?_
  refine w_P (pc' := 1429) (lv' := LV (i3 (K : Int))) (st' := []) rfl (by decide) rfl ?_
  refine w_P rfl (by decide) rfl ?_
  exact go s2 _ i2 (by omega)
theorem L_48 (hl : xs.length ≤ 3072) (hK : K + 6 ≤ xs.length) (h : INV s) (hns : ns ≤ 1802 + 806 * nm s) (go : ∀ s2 ns2, INV s2 → ns2 ≤ 1802 + 806 * nm s2 → Wp (some xs) 11 0 4 1553 (LV (i3 (K : Int))) [] (H s2) ns2 pQ) : Wp (some xs) 11 0 4 1432 (LV (i3 (K : Int))) [] (H s) ns pQ := by
  obtain ⟨v, w, n1, s1, n2, s2, m2, e1, e2, i2, hm, hl1, hl2, hE⟩ := B_48 h
  obtain ⟨_, hf0⟩ := g0 s
  obtain ⟨_, hf1⟩ := g44 s1
  have h44 := (List.getElem?_eq_some_iff.mp hf1).1
  refine w_P rfl (by decide) rfl ?_
  refine w_call (d := 10) (nL' := 2) (na := 0) (rc := 7) (vs := [.ref 0]) (rest := []) rfl (by decide) rfl (t_cutV (A := []) (rest := []) rfl hf0) ⟨Nat.le_of_ble_eq_true rfl, Nat.le_of_ble_eq_true rfl⟩ e1 (Or.inl hl1) ?_
  refine w_P (pc' := 1437) (lv' := LV (i3 (K : Int))) (st' := []) rfl (by decide) rfl ?_
  refine w_P rfl (by decide) rfl ?_
  refine w_call (d := 10) (nL' := 2) (na := 0) (rc := 8) (vs := [.ref 44]) (rest := []) rfl (by decide) rfl (t_cutV (A := []) (rest := []) rfl hf1) ⟨Nat.le_of_ble_eq_true rfl, Nat.le_of_ble_eq_true rfl⟩ e2 (Or.inr (lv_ok _ (by omega) [] (fun _ => rfl))) ?_
  refine w_P (pc' := 1442) (lv' := LV (i3 (K : Int))) (st' := []) rfl (by decide) rfl ?_
  refine w_P rfl (by decide) rfl ?_
  exact go s2 _ i2 (by omega)
theorem L_49 (hl : xs.length ≤ 3072) (hK : K + 6 ≤ xs.length) (h : INV s) (hns : ns ≤ 1802 + 806 * nm s) (go : ∀ s2 ns2, INV s2 → ns2 ≤ 1802 + 806 * nm s2 → Wp (some xs) 11 0 4 1553 (LV (i3 (K : Int))) [] (H s2) ns2 pQ) : Wp (some xs) 11 0 4 1445 (LV (i3 (K : Int))) [] (H s) ns pQ := by
  obtain ⟨v, w, n1, s1, n2, s2, m2, e1, e2, i2, hm, hl1, hl2, hE⟩ := B_49 h
  obtain ⟨_, hf0⟩ := g0 s
  obtain ⟨_, hf1⟩ := g44 s1
  have h44 := (List.getElem?_eq_some_iff.mp hf1).1
  refine w_P rfl (by decide) rfl ?_
  refine w_call (d := 10) (nL' := 2) (na := 0) (rc := 7) (vs := [.ref 0]) (rest := []) rfl (by decide) rfl (t_cutV (A := []) (rest := []) rfl hf0) ⟨Nat.le_of_ble_eq_true rfl, Nat.le_of_ble_eq_true rfl⟩ e1 (Or.inl hl1) ?_
  refine w_P (pc' := 1450) (lv' := LV (i3 (K : Int))) (st' := []) rfl (by decide) rfl ?_
  refine w_P rfl (by decide) rfl ?_
  refine w_call (d := 10) (nL' := 2) (na := 0) (rc := 8) (vs := [.ref 44]) (rest := []) rfl (by decide) rfl (t_cutV (A := []) (rest := []) rfl hf1) ⟨Nat.le_of_ble_eq_true rfl, Nat.le_of_ble_eq_true rfl⟩ e2 (Or.inr (lv_ok _ (by omega) [] (fun _ => rfl))) ?_
  refine w_P (pc' := 1455) (lv' := LV (i3 (K : Int))) (st' := []) rfl (by decide) rfl ?_
  refine w_P rfl (by decide) rfl ?_
  exact go s2 _ i2 (by omega)
theorem L_50 (hl : xs.length ≤ 3072) (hK : K + 6 ≤ xs.length) (h : INV s) (hns : ns ≤ 1802 + 806 * nm s) (go : ∀ s2 ns2, INV s2 → ns2 ≤ 1802 + 806 * nm s2 → Wp (some xs) 11 0 4 1553 (LV (i3 (K : Int))) [] (H s2) ns2 pQ) : Wp (some xs) 11 0 4 1458 (LV (i3 (K : Int))) [] (H s) ns pQ := by
  obtain ⟨v, w, n1, s1, n2, s2, m2, e1, e2, i2, hm, hl1, hl2, hE⟩ := B_50 h (xs.getD (K + 1) 0)
  obtain ⟨_, hf0⟩ := g0 s
  obtain ⟨_, hf1⟩ := g44 s1
  have h44 := (List.getElem?_eq_some_iff.mp hf1).1
  refine w_P rfl (by decide) rfl ?_
  refine w_P rfl (by decide) rfl ?_
  refine w_P rfl (by decide) rfl ?_
  refine w_P rfl (by decide) rfl ?_
  refine w_P rfl (by decide) rfl ?_
  refine w_R rfl (by decide) (sc_at (j := 1) hl (by omega) _ _ _) ?_
  refine w_call (d := 10) (nL' := 3) (na := 1) (rc := 7) (vs := [.ref 0, .int (xs.getD (K + 1) 0)]) (rest := []) rfl (by decide) rfl (t_cutV (A := [.int (xs.getD (K + 1) 0)]) (rest := []) rfl hf0) ⟨Nat.le_of_ble_eq_true rfl, Nat.le_of_ble_eq_true rfl⟩ e1 (Or.inl hl1) ?_
  refine w_P (pc' := 1468) (lv' := LV (i3 (K : Int))) (st' := []) rfl (by decide) rfl ?_
  refine w_P rfl (by decide) rfl ?_
  refine w_P rfl (by decide) rfl ?_
  refine w_P rfl (by decide) rfl ?_
  refine w_P rfl (by decide) rfl ?_
  refine w_P rfl (by decide) rfl ?_
  refine w_R rfl (by decide) (sc_at (j := 1) hl (by omega) _ _ _) ?_
  refine w_call (d := 10) (nL' := 5) (na := 1) (rc := 8) (vs := [.ref 44, .int (xs.getD (K + 1) 0)]) (rest := []) rfl (by decide) rfl (t_cutV (A := [.int (xs.getD (K + 1) 0)]) (rest := []) rfl hf1) ⟨Nat.le_of_ble_eq_true rfl, Nat.le_of_ble_eq_true rfl⟩ e2 (Or.inr (lv_ok _ (by omega) [] (fun _ => rfl))) ?_
  refine w_P (pc' := 1478) (lv' := LV (i3 (K : Int))) (st' := []) rfl (by decide) rfl ?_
  refine w_P rfl (by decide) rfl ?_
  exact go s2 _ i2 (by omega)
theorem L_51 (hl : xs.length ≤ 3072) (hK : K + 6 ≤ xs.length) (h : INV s) (hns : ns ≤ 1802 + 806 * nm s) (go : ∀ s2 ns2, INV s2 → ns2 ≤ 1802 + 806 * nm s2 → Wp (some xs) 11 0 4 1553 (LV (i3 (K : Int))) [] (H s2) ns2 pQ) : Wp (some xs) 11 0 4 1481 (LV (i3 (K : Int))) [] (H s) ns pQ := by
  obtain ⟨v, w, n1, s1, n2, s2, m2, e1, e2, i2, hm, hl1, hl2, hE⟩ := B_51 h (xs.getD (K + 1) 0)
  obtain ⟨_, hf0⟩ := g0 s
  obtain ⟨_, hf1⟩ := g44 s1
  have h44 := (List.getElem?_eq_some_iff.mp hf1).1
  refine w_P rfl (by decide) rfl ?_
  refine w_P rfl (by decide) rfl ?_
  refine w_P rfl (by decide) rfl ?_
  refine w_P rfl (by decide) rfl ?_
  refine w_P rfl (by decide) rfl ?_
  refine w_R rfl (by decide) (sc_at (j := 1) hl (by omega) _ _ _) ?_
  refine w_call (d := 10) (nL' := 3) (na := 1) (rc := 7) (vs := [.ref 0, .int (xs.getD (K + 1) 0)]) (rest := []) rfl (by decide) rfl (t_cutV (A := [.int (xs.getD (K + 1) 0)]) (rest := []) rfl hf0) ⟨Nat.le_of_ble_eq_true rfl, Nat.le_of_ble_eq_true rfl⟩ e1 (Or.inl hl1) ?_
  refine w_P (pc' := 1491) (lv' := LV (i3 (K : Int))) (st' := []) rfl (by decide) rfl ?_
  refine w_P rfl (by decide) rfl ?_
  refine w_P rfl (by decide) rfl ?_
  refine w_P rfl (by decide) rfl ?_
  refine w_P rfl (by decide) rfl ?_
  refine w_P rfl (by decide) rfl ?_
  refine w_R rfl (by decide) (sc_at (j := 1) hl (by omega) _ _ _) ?_
  refine w_call (d := 10) (nL' := 3) (na := 1) (rc := 8) (vs := [.ref 44, .int (xs.getD (K + 1) 0)]) (rest := []) rfl (by decide) rfl (t_cutV (A := [.int (xs.getD (K + 1) 0)]) (rest := []) rfl hf1) ⟨Nat.le_of_ble_eq_true rfl, Nat.le_of_ble_eq_true rfl⟩ e2 (Or.inr (lv_ok _ (by omega) [] (fun _ => rfl))) ?_
  refine w_P (pc' := 1501) (lv' := LV (i3 (K : Int))) (st' := []) rfl (by decide) rfl ?_
  refine w_P rfl (by decide) rfl ?_
  exact go s2 _ i2 (by omega)
theorem L_52 (hl : xs.length ≤ 3072) (hK : K + 6 ≤ xs.length) (h : INV s) (hns : ns ≤ 1802 + 806 * nm s) (go : ∀ s2 ns2, INV s2 → ns2 ≤ 1802 + 806 * nm s2 → Wp (some xs) 11 0 4 1553 (LV (i3 (K : Int))) [] (H s2) ns2 pQ) : Wp (some xs) 11 0 4 1504 (LV (i3 (K : Int))) [] (H s) ns pQ := by
  obtain ⟨v, w, n1, s1, n2, s2, m2, e1, e2, i2, hm, hl1, hl2, hE⟩ := B_52 h
  obtain ⟨_, hf0⟩ := g0 s
  obtain ⟨_, hf1⟩ := g44 s1
  have h44 := (List.getElem?_eq_some_iff.mp hf1).1
  refine w_P rfl (by decide) rfl ?_
  refine w_call (d := 10) (nL' := 1) (na := 0) (rc := 7) (vs := [.ref 0]) (rest := []) rfl (by decide) rfl (t_cutV (A := []) (rest := []) rfl hf0) ⟨Nat.le_of_ble_eq_true rfl, Nat.le_of_ble_eq_true rfl⟩ e1 (Or.inl hl1) ?_
  refine w_P (pc' := 1509) (lv' := LV (i3 (K : Int))) (st' := []) rfl (by decide) rfl ?_
  refine w_P rfl (by decide) rfl ?_
  refine w_call (d := 10) (nL' := 1) (na := 0) (rc := 8) (vs := [.ref 44]) (rest := []) rfl (by decide) rfl (t_cutV (A := []) (rest := []) rfl hf1) ⟨Nat.le_of_ble_eq_true rfl, Nat.le_of_ble_eq_true rfl⟩ e2 (Or.inr (lv_ok _ (by omega) [] (fun _ => rfl))) ?_
  refine w_P (pc' := 1514) (lv' := LV (i3 (K : Int))) (st' := []) rfl (by decide) rfl ?_
  refine w_P rfl (by decide) rfl ?_
  exact go s2 _ i2 (by omega)
theorem L_53 (hl : xs.length ≤ 3072) (hK : K + 6 ≤ xs.length) (h : INV s) (hns : ns ≤ 1802 + 806 * nm s) (go : ∀ s2 ns2, INV s2 → ns2 ≤ 1802 + 806 * nm s2 → Wp (some xs) 11 0 4 1553 (LV (i3 (K : Int))) [] (H s2) ns2 pQ) : Wp (some xs) 11 0 4 1517 (LV (i3 (K : Int))) [] (H s) ns pQ := by
  obtain ⟨v, w, n1, s1, n2, s2, m2, e1, e2, i2, hm, hl1, hl2, hE⟩ := B_53 h
  obtain ⟨_, hf0⟩ := g0 s
  obtain ⟨_, hf1⟩ := g44 s1
  have h44 := (List.getElem?_eq_some_iff.mp hf1).1
  subst hE
  refine w_P rfl (by decide) rfl ?_
  refine w_call (d := 10) (nL' := 1) (na := 0) (rc := 7) (vs := [.ref 0]) (rest := []) rfl (by decide) rfl (t_cutV (A := []) (rest := []) rfl hf0) ⟨Nat.le_of_ble_eq_true rfl, Nat.le_of_ble_eq_true rfl⟩ e1 (Or.inl hl1) ?_
  refine w_P rfl (by decide) rfl ?_
  refine w_call (d := 10) (nL' := 1) (na := 0) (rc := 8) (vs := [.ref 44]) (rest := [.int v]) rfl (by decide) rfl (t_cutV (A := []) (rest := [.int v]) rfl hf1) ⟨Nat.le_of_ble_eq_true rfl, Nat.le_of_ble_eq_true rfl⟩ e2 (Or.inr (lv_ok _ (by omega) [.int v] (fun _ => rfl))) ?_
  refine w_P rfl (by decide) (p_eqi _ _ _ _ _) ?_
  exact go s2 _ i2 (by omega)
theorem L_54 (hl : xs.length ≤ 3072) (hK : K + 6 ≤ xs.length) (h : INV s) (hns : ns ≤ 1802 + 806 * nm s) (go : ∀ s2 ns2, INV s2 → ns2 ≤ 1802 + 806 * nm s2 → Wp (some xs) 11 0 4 1553 (LV (i3 (K : Int))) [] (H s2) ns2 pQ) : Wp (some xs) 11 0 4 1530 (LV (i3 (K : Int))) [] (H s) ns pQ := by
  obtain ⟨v, w, n1, s1, n2, s2, m2, e1, e2, i2, hm, hl1, hl2, hE⟩ := B_54 h (xs.getD (K + 1) 0)
  obtain ⟨_, hf0⟩ := g0 s
  obtain ⟨_, hf1⟩ := g44 s1
  have h44 := (List.getElem?_eq_some_iff.mp hf1).1
  refine w_P rfl (by decide) rfl ?_
  refine w_P rfl (by decide) rfl ?_
  refine w_P rfl (by decide) rfl ?_
  refine w_P rfl (by decide) rfl ?_
  refine w_P rfl (by decide) rfl ?_
  refine w_R rfl (by decide) (sc_at (j := 1) hl (by omega) _ _ _) ?_
  refine w_call (d := 10) (nL' := 2) (na := 1) (rc := 7) (vs := [.ref 0, .int (xs.getD (K + 1) 0)]) (rest := []) rfl (by decide) rfl (t_cutV (A := [.int (xs.getD (K + 1) 0)]) (rest := []) rfl hf0) ⟨Nat.le_of_ble_eq_true rfl, Nat.le_of_ble_eq_true rfl⟩ e1 (Or.inl hl1) ?_
  refine w_P (pc' := 1540) (lv' := LV (i3 (K : Int))) (st' := []) rfl (by decide) rfl ?_
  refine w_P rfl (by decide) rfl ?_
  refine w_P rfl (by decide) rfl ?_
  refine w_P rfl (by decide) rfl ?_
  refine w_P rfl (by decide) rfl ?_
  refine w_P rfl (by decide) rfl ?_
  refine w_R rfl (by decide) (sc_at (j := 1) hl (by omega) _ _ _) ?_
  refine w_call (d := 10) (nL' := 4) (na := 1) (rc := 8) (vs := [.ref 44, .int (xs.getD (K + 1) 0)]) (rest := []) rfl (by decide) rfl (t_cutV (A := [.int (xs.getD (K + 1) 0)]) (rest := []) rfl hf1) ⟨Nat.le_of_ble_eq_true rfl, Nat.le_of_ble_eq_true rfl⟩ e2 (Or.inr (lv_ok _ (by omega) [] (fun _ => rfl))) ?_
  refine w_P (pc' := 1550) (lv' := LV (i3 (K : Int))) (st' := []) rfl (by decide) rfl ?_
  refine w_P rfl (by decide) rfl ?_
  exact go s2 _ i2 (by omega)
end LAW
end
section
/-! ===== the loop ===== -/
section LOOP
variable {xs : List Int32} {K ns : Nat} {s : St}
set_option maxRecDepth 20000 in
theorem L_sw (x0 : Int32) (hl : xs.length ≤ 3072) (hK : K + 6 ≤ xs.length) (h : INV s) (hns : ns ≤ 1802 + 806 * nm s) (go : ∀ s2 ns2, INV s2 → ns2 ≤ 1802 + 806 * nm s2 → Wp (some xs) 11 0 4 1553 (LV (i3 (K : Int))) [] (H s2) ns2 pQ) : Wp (some xs) 11 0 4 33 (LV (i3 (K : Int))) [.int (x0 &&& 63)] (H s) ns pQ := by
  obtain ⟨j, hj, e⟩ := pk_andE x0 (m := 63) 6 (by decide)
  rw [e]
  clear e
  match j, hj with
  | 0, _ => exact w_P (pc' := 268) (lv' := LV (i3 (K : Int))) (st' := []) rfl (by decide) rfl (L_0 hl hK h hns go)
  | 1, _ => exact w_P (pc' := 311) (lv' := LV (i3 (K : Int))) (st' := []) rfl (by decide) rfl (L_1 hl hK h hns go)
  | 2, _ => exact w_P (pc' := 384) (lv' := LV (i3 (K : Int))) (st' := []) rfl (by decide) rfl (L_2 hl hK h hns go)
  | 3, _ => exact w_P (pc' := 447) (lv' := LV (i3 (K : Int))) (st' := []) rfl (by decide) rfl (L_3 hl hK h hns go)
  | 4, _ => exact w_P (pc' := 480) (lv' := LV (i3 (K : Int))) (st' := []) rfl (by decide) rfl (L_4 hl hK h hns go)
  | 5, _ => exact w_P (pc' := 503) (lv' := LV (i3 (K : Int))) (st' := []) rfl (by decide) rfl (L_5 hl hK h hns go)
  | 6, _ => exact w_P (pc' := 536) (lv' := LV (i3 (K : Int))) (st' := []) rfl (by decide) rfl (L_6 hl hK h hns go)
  | 7, _ => exact w_P (pc' := 569) (lv' := LV (i3 (K : Int))) (st' := []) rfl (by decide) rfl (L_7 hl hK h hns go)
  | 8, _ => exact w_P (pc' := 592) (lv' := LV (i3 (K : Int))) (st' := []) rfl (by decide) rfl (L_8 hl hK h hns go)
  | 9, _ => exact w_P (pc' := 635) (lv' := LV (i3 (K : Int))) (st' := []) rfl (by decide) rfl (L_9 hl hK h hns go)
  | 10, _ => exact w_P (pc' := 658) (lv' := LV (i3 (K : Int))) (st' := []) rfl (by decide) rfl (L_10 hl hK h hns go)
  | 11, _ => exact w_P (pc' := 671) (lv' := LV (i3 (K : Int))) (st' := []) rfl (by decide) rfl (L_11 hl hK h hns go)
  | 12, _ => exact w_P (pc' := 704) (lv' := LV (i3 (K : Int))) (st' := []) rfl (by decide) rfl (L_12 hl hK h hns go)
  | 13, _ => exact w_P (pc' := 717) (lv' := LV (i3 (K : Int))) (st' := []) rfl (by decide) rfl (L_13 hl hK h hns go)
  | 14, _ => exact w_P (pc' := 740) (lv' := LV (i3 (K : Int))) (st' := []) rfl (by decide) rfl (L_14 hl hK h hns go)
  | 15, _ => exact w_P (pc' := 753) (lv' := LV (i3 (K : Int))) (st' := []) rfl (by decide) rfl (L_15 hl hK h hns go)
  | 16, _ => exact w_P (pc' := 766) (lv' := LV (i3 (K : Int))) (st' := []) rfl (by decide) rfl (L_16 hl hK h hns go)
  | 17, _ => exact w_P (pc' := 799) (lv' := LV (i3 (K : Int))) (st' := []) rfl (by decide) rfl (L_17 hl hK h hns go)
  | 18, _ => exact w_P (pc' := 822) (lv' := LV (i3 (K : Int))) (st' := []) rfl (by decide) rfl (L_18 hl hK h hns go)
  | 19, _ => exact w_P (pc' := 845) (lv' := LV (i3 (K : Int))) (st' := []) rfl (by decide) rfl (L_19 hl hK h hns go)
  | 20, _ => exact w_P (pc' := 858) (lv' := LV (i3 (K : Int))) (st' := []) rfl (by decide) rfl (L_20 hl hK h hns go)
  | 21, _ => exact w_P (pc' := 891) (lv' := LV (i3 (K : Int))) (st' := []) rfl (by decide) rfl (L_21 hl hK h hns go)
  | 22, _ => exact w_P (pc' := 904) (lv' := LV (i3 (K : Int))) (st' := []) rfl (by decide) rfl (L_22 hl hK h hns go)
  | 23, _ => exact w_P (pc' := 917) (lv' := LV (i3 (K : Int))) (st' := []) rfl (by decide) rfl (L_23 hl hK h hns go)
  | 24, _ => exact w_P (pc' := 950) (lv' := LV (i3 (K : Int))) (st' := []) rfl (by decide) rfl (L_24 hl hK h hns go)
  | 25, _ => exact w_P (pc' := 973) (lv' := LV (i3 (K : Int))) (st' := []) rfl (by decide) rfl (L_25 hl hK h hns go)
  | 26, _ => exact w_P (pc' := 1006) (lv' := LV (i3 (K : Int))) (st' := []) rfl (by decide) rfl (L_26 hl hK h hns go)
  | 27, _ => exact w_P (pc' := 1029) (lv' := LV (i3 (K : Int))) (st' := []) rfl (by decide) rfl (L_27 hl hK h hns go)
  | 28, _ => exact w_P (pc' := 1052) (lv' := LV (i3 (K : Int))) (st' := []) rfl (by decide) rfl (L_28 hl hK h hns go)
  | 29, _ => exact w_P (pc' := 1065) (lv' := LV (i3 (K : Int))) (st' := []) rfl (by decide) rfl (L_29 hl hK h hns go)
  | 30, _ => exact w_P (pc' := 1088) (lv' := LV (i3 (K : Int))) (st' := []) rfl (by decide) rfl (L_30 hl hK h hns go)
  | 31, _ => exact w_P (pc' := 1121) (lv' := LV (i3 (K : Int))) (st' := []) rfl (by decide) rfl (L_31 hl hK h hns go)
  | 32, _ => exact w_P (pc' := 1134) (lv' := LV (i3 (K : Int))) (st' := []) rfl (by decide) rfl (L_32 hl hK h hns go)
  | 33, _ => exact w_P (pc' := 1157) (lv' := LV (i3 (K : Int))) (st' := []) rfl (by decide) rfl (L_33 hl hK h hns go)
  | 34, _ => exact w_P (pc' := 1180) (lv' := LV (i3 (K : Int))) (st' := []) rfl (by decide) rfl (L_34 hl hK h hns go)
  | 35, _ => exact w_P (pc' := 1193) (lv' := LV (i3 (K : Int))) (st' := []) rfl (by decide) rfl (L_35 hl hK h hns go)
  | 36, _ => exact w_P (pc' := 1226) (lv' := LV (i3 (K : Int))) (st' := []) rfl (by decide) rfl (L_36 hl hK h hns go)
  | 37, _ => exact w_P (pc' := 1249) (lv' := LV (i3 (K : Int))) (st' := []) rfl (by decide) rfl (L_37 hl hK h hns go)
  | 38, _ => exact w_P (pc' := 1272) (lv' := LV (i3 (K : Int))) (st' := []) rfl (by decide) rfl (L_38 hl hK h hns go)
  | 39, _ => exact w_P (pc' := 1295) (lv' := LV (i3 (K : Int))) (st' := []) rfl (by decide) rfl (L_39 hl hK h hns go)
  | 40, _ => exact w_P (pc' := 1318) (lv' := LV (i3 (K : Int))) (st' := []) rfl (by decide) rfl (L_40 hl hK h hns go)
  | 41, _ => exact w_P (pc' := 1331) (lv' := LV (i3 (K : Int))) (st' := []) rfl (by decide) rfl (L_41 hl hK h hns go)
  | 42, _ => exact w_P (pc' := 1344) (lv' := LV (i3 (K : Int))) (st' := []) rfl (by decide) rfl (L_42 hl hK h hns go)
  | 43, _ => exact w_P (pc' := 1357) (lv' := LV (i3 (K : Int))) (st' := []) rfl (by decide) rfl (L_43 hl hK h hns go)
  | 44, _ => exact w_P (pc' := 1370) (lv' := LV (i3 (K : Int))) (st' := []) rfl (by decide) rfl (L_44 hl hK h hns go)
  | 45, _ => exact w_P (pc' := 1383) (lv' := LV (i3 (K : Int))) (st' := []) rfl (by decide) rfl (L_45 hl hK h hns go)
  | 46, _ => exact w_P (pc' := 1396) (lv' := LV (i3 (K : Int))) (st' := []) rfl (by decide) rfl (L_46 hl hK h hns go)
  | 47, _ => exact w_P (pc' := 1419) (lv' := LV (i3 (K : Int))) (st' := []) rfl (by decide) rfl (L_47 hl hK h hns go)
  | 48, _ => exact w_P (pc' := 1432) (lv' := LV (i3 (K : Int))) (st' := []) rfl (by decide) rfl (L_48 hl hK h hns go)
  | 49, _ => exact w_P (pc' := 1445) (lv' := LV (i3 (K : Int))) (st' := []) rfl (by decide) rfl (L_49 hl hK h hns go)
  | 50, _ => exact w_P (pc' := 1458) (lv' := LV (i3 (K : Int))) (st' := []) rfl (by decide) rfl (L_50 hl hK h hns go)
  | 51, _ => exact w_P (pc' := 1481) (lv' := LV (i3 (K : Int))) (st' := []) rfl (by decide) rfl (L_51 hl hK h hns go)
  | 52, _ => exact w_P (pc' := 1504) (lv' := LV (i3 (K : Int))) (st' := []) rfl (by decide) rfl (L_52 hl hK h hns go)
  | 53, _ => exact w_P (pc' := 1517) (lv' := LV (i3 (K : Int))) (st' := []) rfl (by decide) rfl (L_53 hl hK h hns go)
  | 54, _ => exact w_P (pc' := 1530) (lv' := LV (i3 (K : Int))) (st' := []) rfl (by decide) rfl (L_54 hl hK h hns go)
  | 55, _ => exact w_P (pc' := 1553) (lv' := LV (i3 (K : Int))) (st' := []) rfl (by decide) rfl (go s ns h hns)
  | 56, _ => exact w_P (pc' := 1553) (lv' := LV (i3 (K : Int))) (st' := []) rfl (by decide) rfl (go s ns h hns)
  | 57, _ => exact w_P (pc' := 1553) (lv' := LV (i3 (K : Int))) (st' := []) rfl (by decide) rfl (go s ns h hns)
  | 58, _ => exact w_P (pc' := 1553) (lv' := LV (i3 (K : Int))) (st' := []) rfl (by decide) rfl (go s ns h hns)
  | 59, _ => exact w_P (pc' := 1553) (lv' := LV (i3 (K : Int))) (st' := []) rfl (by decide) rfl (go s ns h hns)
  | 60, _ => exact w_P (pc' := 1553) (lv' := LV (i3 (K : Int))) (st' := []) rfl (by decide) rfl (go s ns h hns)
  | 61, _ => exact w_P (pc' := 1553) (lv' := LV (i3 (K : Int))) (st' := []) rfl (by decide) rfl (go s ns h hns)
  | 62, _ => exact w_P (pc' := 1553) (lv' := LV (i3 (K : Int))) (st' := []) rfl (by decide) rfl (go s ns h hns)
  | 63, _ => exact w_P (pc' := 1553) (lv' := LV (i3 (K : Int))) (st' := []) rfl (by decide) rfl (go s ns h hns)
  | n + 64, h => omega
theorem L_end (hl : xs.length ≤ 3072) (hK : xs.length < K + 6) (hK2 : K ≤ xs.length + 6) (h : INV s) (hns : ns ≤ 1802 + 806 * nm s) : Wp (some xs) 11 0 4 18 (LV (i3 (K : Int))) [] (H s) ns pQ := by
  have h6 : (Int8.ofInt 6).toInt32 = i3 6 := by decide +kernel
  have e : Int32.ofNat xs.length - i3 6 = i3 ((xs.length : Int) - 6) := by rw [i3_nat, i3_sub]
  have n2 := h.2.1.nm2
  refine w_P rfl (by decide) rfl ?_
  refine w_P rfl (by decide) rfl ?_
  refine w_R (pc' := 21) (st' := [.int (Int32.ofNat xs.length), .int (i3 (K : Int))]) rfl (by decide) rfl ?_
  refine w_P (pc' := 23) (lv' := LV (i3 (K : Int))) (st' := [.int (i3 6), .int (Int32.ofNat xs.length), .int (i3 (K : Int))]) rfl (by decide) (by rw [← h6]; rfl) ?_
  refine w_P (pc' := 24) (lv' := LV (i3 (K : Int))) (st' := [.int (i3 ((xs.length : Int) - 6)), .int (i3 (K : Int))]) rfl (by decide) (by rw [← e]; rfl) ?_
  have g : i3 ((xs.length : Int) - 6) < i3 (K : Int) := by
    rw [i3_lt ⟨by omega, by omega⟩ ⟨by omega, by omega⟩]; omega
  refine w_P (pc' := 1559) (lv' := LV (i3 (K : Int))) (st' := []) rfl (by decide) (by clear e; generalize i3 ((xs.length : Int) - 6) = z at g ⊢; generalize i3 (K : Int) = y at g ⊢; simp [t_P, t_i2, t_icmp, g]) ?_
  refine w_P (st' := [.int 1]) rfl (by decide) rfl ?_
  exact w_ret (r := some (.int 1)) rfl (by decide) rfl ⟨rfl, by show ns ≤ _; omega⟩
theorem L_go (hl : xs.length ≤ 3072) (hK : K + 6 ≤ xs.length) (h : INV s) (hns : ns ≤ 1802 + 806 * nm s) (go : ∀ s2 ns2, INV s2 → ns2 ≤ 1802 + 806 * nm s2 → Wp (some xs) 11 0 4 18 (LV (i3 ((K + 6 : Nat) : Int))) [] (H s2) ns2 pQ) : Wp (some xs) 11 0 4 18 (LV (i3 (K : Int))) [] (H s) ns pQ := by
  have h6 : (Int8.ofInt 6).toInt32 = i3 6 := by decide +kernel
  have h63 : (Int8.ofInt 63).toInt32 = 63 := by decide +kernel
  have e : Int32.ofNat xs.length - i3 6 = i3 ((xs.length : Int) - 6) := by rw [i3_nat, i3_sub]
  refine w_P rfl (by decide) rfl ?_
  refine w_P rfl (by decide) rfl ?_
  refine w_R (pc' := 21) (st' := [.int (Int32.ofNat xs.length), .int (i3 (K : Int))]) rfl (by decide) rfl ?_
  refine w_P (pc' := 23) (lv' := LV (i3 (K : Int))) (st' := [.int (i3 6), .int (Int32.ofNat xs.length), .int (i3 (K : Int))]) rfl (by decide) (by rw [← h6]; rfl) ?_
  refine w_P (pc' := 24) (lv' := LV (i3 (K : Int))) (st' := [.int (i3 ((xs.length : Int) - 6)), .int (i3 (K : Int))]) rfl (by decide) (by rw [← e]; rfl) ?_
  have g : ¬ i3 ((xs.length : Int) - 6) < i3 (K : Int) := by
    rw [i3_lt ⟨by omega, by omega⟩ ⟨by omega, by omega⟩]; omega
  refine w_P (pc' := 27) (lv' := LV (i3 (K : Int))) (st' := []) rfl (by decide) (by clear e; generalize i3 ((xs.length : Int) - 6) = z at g ⊢; generalize i3 (K : Int) = y at g ⊢; simp [t_P, t_i2, t_icmp, g]) ?_
  refine w_P rfl (by decide) rfl ?_
  refine w_P rfl (by decide) rfl ?_
  have sc0 : t_R (some xs) 4 .iaload 29 0 0 [.int (i3 (K : Int)), .ref 1000] (H s) = some (30, [.int (xs.getD K 0)]) := by
    have := sc_at (j := 0) (K := K) hl (by omega) 29 [] (H s)
    have z : i3 (K : Int) + Int32.ofInt ((0 : Nat) : Int) = i3 (K : Int) := Int32.add_zero _
    rw [z] at this
    exact this
  refine w_R (st' := [.int (xs.getD K 0)]) rfl (by decide) sc0 ?_
  refine w_P (pc' := 32) (lv' := LV (i3 (K : Int))) (st' := [.int 63, .int (xs.getD K 0)]) rfl (by decide) (by rw [← h63]; rfl) ?_
  refine w_P rfl (by decide) rfl ?_
  refine L_sw _ hl hK h hns (fun s2 ns2 i2 n2 => ?_)
  have e2 : i3 (K : Int) + Int32.ofInt 6 = i3 ((K + 6 : Nat) : Int) := by rw [i3_add]; rfl
  refine w_P (pc' := 1556) (lv' := LV (i3 ((K + 6 : Nat) : Int))) (st' := []) rfl (by decide) (by rw [← e2]; rfl) ?_
  refine w_P rfl (by decide) rfl ?_
  exact go s2 ns2 i2 n2
theorem L_loop (hl : xs.length ≤ 3072) : ∀ (f K : Nat) (s : St) (ns : Nat), xs.length + 6 ≤ K + f → K ≤ xs.length + 6 → INV s → ns ≤ 1802 + 806 * nm s → Wp (some xs) 11 0 4 18 (LV (i3 (K : Int))) [] (H s) ns pQ := by
  intro f
  induction f with
  | zero =>
    intro K s ns h1 h2 h hns
    refine L_end hl (by omega) (by omega) h hns
  | succ f ih =>
    intro K s ns h1 h2 h hns
    by_cases c : K + 6 ≤ xs.length
    · refine L_go hl c h hns (fun s2 ns2 i2 n2 => ?_)
      exact ih (K + 6) s2 ns2 (by omega) (by omega) i2 n2
    · exact L_end hl (by omega) (by omega) h hns
theorem L_begin (h : Wp (some xs) 11 0 4 18 (LV (i3 ((0 : Nat) : Int))) [] (H s00) 1802 pQ) : Wp (some xs) 11 0 4 0 [(0, .ref 1000)] [] [] 0 pQ := by
  rw [← TH0_eq] at h
  refine w_A (add := [.inr (7, [.null, .null, .null, .null, .null, .null, .null, .null, .null, .null, .int 0])]) (n1 := 11) rfl (by decide) rfl rfl ?_
  refine w_P rfl (by decide) rfl ?_
  refine w_call (th' := THA) rfl (by decide) rfl rfl ⟨Nat.le_of_ble_eq_true rfl, Nat.le_of_ble_eq_true rfl⟩ p_newA (Or.inr rfl) ?_
  refine w_P (lv' := [(1, .ref 0), (0, .ref 1000)]) rfl (by decide) rfl ?_
  refine w_A (add := [.inr (8, [.null, .null, .null, .null, .null, .null, .null, .int 0, .null, .int 0, .int 0, .null, .null, .null, .int 0, .null, .int 0, .null, .null, .int 0, .int 0, .int 0, .int 0, .int 0, .null, .int 0, .null, .int 0, .int 0, .int 0, .int 0])]) (n1 := 31) (st' := [.ref 44]) rfl (by decide) rfl (by decide +kernel) ?_
  refine w_P rfl (by decide) rfl ?_
  refine w_call (th' := TH0) rfl (by decide) rfl rfl ⟨Nat.le_of_ble_eq_true rfl, Nat.le_of_ble_eq_true rfl⟩ p_newB (Or.inr (by decide +kernel)) ?_
  refine w_P (lv' := [(2, .ref 44), (1, .ref 0), (0, .ref 1000)]) rfl (by decide) rfl ?_
  refine w_P (st' := [.int 0]) rfl (by decide) rfl ?_
  refine w_P (lv' := LV (i3 ((0 : Nat) : Int))) rfl (by decide) rfl ?_
  exact h
end LOOP
theorem s_runs : s_Runs := by
  intro xs hL
  have key : Wp (some xs) 11 0 4 0 [(0, .ref 1000)] [] [] 0 pQ := L_begin (L_loop hL (xs.length + 6) 0 s00 1802 (by omega) (by omega) INV00 (by show 1802 ≤ 1802 + 806 * 0; omega))
  obtain ⟨n, ⟨r, th', ns'⟩, h1, h2, h3⟩ := key
  have h2 : r = some (.int 1) := h2
  subst h2
  rw [f_ct, f_mi] at h1
  exact ⟨n, th', ns', h1, h3⟩
end
