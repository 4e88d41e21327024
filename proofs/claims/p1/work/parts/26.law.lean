abbrev pLV : tL := [(3, .int 0), (2, .ref 44), (1, .ref 0), (0, .ref 1000)]
abbrev pLE : tL := [(3, .int 6), (2, .ref 44), (1, .ref 0), (0, .ref 1000)]
def pQ : t_Res → Prop := fun res => res.1 = some (.int 1) ∧ res.2.2 ≤ 7302250
theorem p_sh0 {r : Option Value} (h : p_sh 0 r = true) : ∃ z, r = some (.int z) := by
  cases r with
  | none => cases h
  | some x => cases x <;> first | exact ⟨_, rfl⟩ | cases h
theorem p_sh1 {r : Option Value} (h : p_sh 1 r = true) : ∃ z, r = some (.long z) := by
  cases r with
  | none => cases h
  | some x => cases x <;> first | exact ⟨_, rfl⟩ | cases h
theorem t_cutV {na rc b : Nat} {A rest fs : List Value} {th : tH} (hl : A.length = na) (hb : th[b]? = some (.inr (rc, fs))) : t_cut 20 na rc (A ++ .ref b :: rest) th = some (.ref b :: A.reverse, rest) := by
  unfold t_cut
  rw [if_neg (by simp; omega), if_neg (by decide), List.take_left' hl, List.drop_left' hl]
  dsimp only
  rw [if_neg (by decide), if_pos rfl, hb]
  dsimp only
  rw [if_pos rfl]
theorem p_okl {th : tH} {rest : List Value} (h : 44 < th.length) (hr : ∀ n, rest.all (t_okv n) = true) : (t_okl th.length pLV && rest.all (t_okv th.length)) = true := by
  rw [hr, Bool.and_true]
  have h0 : 0 < th.length := by omega
  simp [t_okl, t_okv, h, h0]
theorem p_eqi (o : Int) (pc a1 : Nat) (lv : tL) (z : Int32) : t_P (.if_icmp .eq o) pc a1 4 lv [.int z, .int z] = some (a1, lv, []) := by simp [t_P, t_i2, t_icmp]
theorem p_eql (pc : Nat) (lv : tL) (z : Int64) : t_P .lcmp pc 0 4 lv [.long z, .long z] = some (pc + 1, lv, [.int 0]) := by simp [t_P, t_j2, lg_cmp]
theorem p_obj {n ic nc : Nat} {as : List Value} {r : Option Value} {th1 : tH} {m1 : Nat} (h : t_exec t_ctf t_mif n none 10 ic nc 0 (lv_args 0 (.ref 0 :: as)) [] TH0 0 = some (r, th1, m1)) : ∃ fs, th1[44]? = some (.inr (8, fs)) := t_obj h ⟨_, rfl⟩
theorem p_end {x0 x1 x2 x3 x4 x5 : Int32} {th : tH} {ns : Nat} (h : ns ≤ 7302250) : Wp (some [x0, x1, x2, x3, x4, x5]) 11 0 4 1556 pLV [] th ns pQ := by
  refine w_P (lv' := pLE) rfl (by decide) rfl ?_
  refine w_P rfl (by decide) rfl ?_
  refine w_P rfl (by decide) rfl ?_
  refine w_P rfl (by decide) rfl ?_
  refine w_R (pc' := 21) (st' := [.int 6, .int 6]) rfl (by decide) rfl ?_
  refine w_P (pc' := 23) (lv' := pLE) (st' := [.int 6, .int 6, .int 6]) rfl (by decide) (by decide +kernel) ?_
  refine w_P (pc' := 24) (lv' := pLE) (st' := [.int 0, .int 6]) rfl (by decide) (by decide +kernel) ?_
  refine w_P (pc' := 1562) (lv' := pLE) (st' := []) rfl (by decide) (by decide +kernel) ?_
  refine w_P (st' := [.int 1]) rfl (by decide) rfl ?_
  exact w_ret rfl (by decide) rfl ⟨rfl, h⟩
theorem p_case0 {x0 x1 x2 x3 x4 x5 : Int32} : Wp (some [x0, x1, x2, x3, x4, x5]) 11 0 4 268 pLV [] TH0 1802 pQ := by
  obtain ⟨n1, n2, r, th1, th2, m1, m2, hsh, k1, k2, hm⟩ := p_op0 x1 x2 x3
  obtain ⟨z, rfl⟩ := p_sh0 hsh
  obtain ⟨fs, hfs⟩ := p_obj k1
  refine w_P rfl (by decide) rfl ?_
  refine w_P rfl (by decide) rfl ?_
  refine w_P rfl (by decide) rfl ?_
  refine w_P rfl (by decide) rfl ?_
  refine w_P rfl (by decide) rfl ?_
  refine w_R rfl (by decide) rfl ?_
  refine w_P rfl (by decide) rfl ?_
  refine w_P rfl (by decide) rfl ?_
  refine w_P rfl (by decide) rfl ?_
  refine w_P rfl (by decide) rfl ?_
  refine w_R rfl (by decide) rfl ?_
  refine w_P rfl (by decide) rfl ?_
  refine w_P rfl (by decide) rfl ?_
  refine w_P rfl (by decide) rfl ?_
  refine w_P rfl (by decide) rfl ?_
  refine w_R rfl (by decide) rfl ?_
  refine w_call rfl (by decide) rfl rfl ⟨Nat.le_of_ble_eq_true rfl, Nat.le_of_ble_eq_true rfl⟩ k1 (Or.inr rfl) ?_
  refine w_P rfl (by decide) rfl ?_
  refine w_P rfl (by decide) rfl ?_
  refine w_P rfl (by decide) rfl ?_
  refine w_P rfl (by decide) rfl ?_
  refine w_P rfl (by decide) rfl ?_
  refine w_R rfl (by decide) rfl ?_
  refine w_P rfl (by decide) rfl ?_
  refine w_P rfl (by decide) rfl ?_
  refine w_P rfl (by decide) rfl ?_
  refine w_P rfl (by decide) rfl ?_
  refine w_R rfl (by decide) rfl ?_
  refine w_P rfl (by decide) rfl ?_
  refine w_P rfl (by decide) rfl ?_
  refine w_P rfl (by decide) rfl ?_
  refine w_P rfl (by decide) rfl ?_
  refine w_R rfl (by decide) rfl ?_
  refine w_call rfl (by decide) rfl (t_cutV (A := [.int x3, .int x2, .int x1]) (rest := [.int z]) rfl hfs) ⟨Nat.le_of_ble_eq_true rfl, Nat.le_of_ble_eq_true rfl⟩ k2 (Or.inr (p_okl (List.getElem?_eq_some_iff.mp hfs).1 (fun _ => rfl))) ?_
  refine w_P rfl (by decide) (p_eqi _ _ _ _ z) ?_
  exact p_end (by omega)
theorem p_case1 {x0 x1 x2 x3 x4 x5 : Int32} : Wp (some [x0, x1, x2, x3, x4, x5]) 11 0 4 311 pLV [] TH0 1802 pQ := by
  obtain ⟨n1, n2, r, th1, th2, m1, m2, hsh, k1, k2, hm⟩ := p_op1 x1 x2 ((x3.toInt64 <<< ((Int8.ofInt 32).toInt32.toInt64 &&& 63)) ||| (x4.toInt64 &&& Int64.ofNat 4294967295))
  obtain ⟨z, rfl⟩ := p_sh0 hsh
  obtain ⟨fs, hfs⟩ := p_obj k1
  refine w_P rfl (by decide) rfl ?_
  refine w_P rfl (by decide) rfl ?_
  refine w_P rfl (by decide) rfl ?_
  refine w_P rfl (by decide) rfl ?_
  refine w_P rfl (by decide) rfl ?_
  refine w_R rfl (by decide) rfl ?_
  refine w_P rfl (by decide) rfl ?_
  refine w_P rfl (by decide) rfl ?_
  refine w_P rfl (by decide) rfl ?_
  refine w_P rfl (by decide) rfl ?_
  refine w_R rfl (by decide) rfl ?_
  refine w_P rfl (by decide) rfl ?_
  refine w_P rfl (by decide) rfl ?_
  refine w_P rfl (by decide) rfl ?_
  refine w_P rfl (by decide) rfl ?_
  refine w_R rfl (by decide) rfl ?_
  refine w_P rfl (by decide) rfl ?_
  refine w_P rfl (by decide) rfl ?_
  refine w_P rfl (by decide) rfl ?_
  refine w_P rfl (by decide) rfl ?_
  refine w_P rfl (by decide) rfl ?_
  refine w_P rfl (by decide) rfl ?_
  refine w_P rfl (by decide) rfl ?_
  refine w_R rfl (by decide) rfl ?_
  refine w_P rfl (by decide) rfl ?_
  refine w_P rfl (by decide) rfl ?_
  refine w_P rfl (by decide) rfl ?_
  refine w_P rfl (by decide) rfl ?_
  refine w_call rfl (by decide) rfl rfl ⟨Nat.le_of_ble_eq_true rfl, Nat.le_of_ble_eq_true rfl⟩ k1 (Or.inr rfl) ?_
  refine w_P rfl (by decide) rfl ?_
  refine w_P rfl (by decide) rfl ?_
  refine w_P rfl (by decide) rfl ?_
  refine w_P rfl (by decide) rfl ?_
  refine w_P rfl (by decide) rfl ?_
  refine w_R rfl (by decide) rfl ?_
  refine w_P rfl (by decide) rfl ?_
  refine w_P rfl (by decide) rfl ?_
  refine w_P rfl (by decide) rfl ?_
  refine w_P rfl (by decide) rfl ?_
  refine w_R rfl (by decide) rfl ?_
  refine w_P rfl (by decide) rfl ?_
  refine w_P rfl (by decide) rfl ?_
  refine w_P rfl (by decide) rfl ?_
  refine w_P rfl (by decide) rfl ?_
  refine w_R rfl (by decide) rfl ?_
  refine w_P rfl (by decide) rfl ?_
  refine w_P rfl (by decide) rfl ?_
  refine w_P rfl (by decide) rfl ?_
  refine w_P rfl (by decide) rfl ?_
  refine w_P rfl (by decide) rfl ?_
  refine w_P rfl (by decide) rfl ?_
  refine w_P rfl (by decide) rfl ?_
  refine w_R rfl (by decide) rfl ?_
  refine w_P rfl (by decide) rfl ?_
  refine w_P rfl (by decide) rfl ?_
  refine w_P rfl (by decide) rfl ?_
  refine w_P rfl (by decide) rfl ?_
  refine w_call rfl (by decide) rfl (t_cutV (A := [.long ((x3.toInt64 <<< ((Int8.ofInt 32).toInt32.toInt64 &&& 63)) ||| (x4.toInt64 &&& Int64.ofNat 4294967295)), .int x2, .int x1]) (rest := [.int z]) rfl hfs) ⟨Nat.le_of_ble_eq_true rfl, Nat.le_of_ble_eq_true rfl⟩ k2 (Or.inr (p_okl (List.getElem?_eq_some_iff.mp hfs).1 (fun _ => rfl))) ?_
  refine w_P rfl (by decide) (p_eqi _ _ _ _ z) ?_
  exact p_end (by omega)
theorem p_case2 {x0 x1 x2 x3 x4 x5 : Int32} : Wp (some [x0, x1, x2, x3, x4, x5]) 11 0 4 384 pLV [] TH0 1802 pQ := by
  obtain ⟨n1, n2, r, th1, th2, m1, m2, hsh, k1, k2, hm⟩ := p_op2 x1 x2 x3 x4 x5
  obtain ⟨z, rfl⟩ := p_sh0 hsh
  obtain ⟨fs, hfs⟩ := p_obj k1
  refine w_P rfl (by decide) rfl ?_
  refine w_P rfl (by decide) rfl ?_
  refine w_P rfl (by decide) rfl ?_
  refine w_P rfl (by decide) rfl ?_
  refine w_P rfl (by decide) rfl ?_
  refine w_R rfl (by decide) rfl ?_
  refine w_P rfl (by decide) rfl ?_
  refine w_P rfl (by decide) rfl ?_
  refine w_P rfl (by decide) rfl ?_
  refine w_P rfl (by decide) rfl ?_
  refine w_R rfl (by decide) rfl ?_
  refine w_P rfl (by decide) rfl ?_
  refine w_P rfl (by decide) rfl ?_
  refine w_P rfl (by decide) rfl ?_
  refine w_P rfl (by decide) rfl ?_
  refine w_R rfl (by decide) rfl ?_
  refine w_P rfl (by decide) rfl ?_
  refine w_P rfl (by decide) rfl ?_
  refine w_P rfl (by decide) rfl ?_
  refine w_P rfl (by decide) rfl ?_
  refine w_R rfl (by decide) rfl ?_
  refine w_P rfl (by decide) rfl ?_
  refine w_P rfl (by decide) rfl ?_
  refine w_P rfl (by decide) rfl ?_
  refine w_P rfl (by decide) rfl ?_
  refine w_R rfl (by decide) rfl ?_
  refine w_call rfl (by decide) rfl rfl ⟨Nat.le_of_ble_eq_true rfl, Nat.le_of_ble_eq_true rfl⟩ k1 (Or.inr rfl) ?_
  refine w_P rfl (by decide) rfl ?_
  refine w_P rfl (by decide) rfl ?_
  refine w_P rfl (by decide) rfl ?_
  refine w_P rfl (by decide) rfl ?_
  refine w_P rfl (by decide) rfl ?_
  refine w_R rfl (by decide) rfl ?_
  refine w_P rfl (by decide) rfl ?_
  refine w_P rfl (by decide) rfl ?_
  refine w_P rfl (by decide) rfl ?_
  refine w_P rfl (by decide) rfl ?_
  refine w_R rfl (by decide) rfl ?_
  refine w_P rfl (by decide) rfl ?_
  refine w_P rfl (by decide) rfl ?_
  refine w_P rfl (by decide) rfl ?_
  refine w_P rfl (by decide) rfl ?_
  refine w_R rfl (by decide) rfl ?_
  refine w_P rfl (by decide) rfl ?_
  refine w_P rfl (by decide) rfl ?_
  refine w_P rfl (by decide) rfl ?_
  refine w_P rfl (by decide) rfl ?_
  refine w_R rfl (by decide) rfl ?_
  refine w_P rfl (by decide) rfl ?_
  refine w_P rfl (by decide) rfl ?_
  refine w_P rfl (by decide) rfl ?_
  refine w_P rfl (by decide) rfl ?_
  refine w_R rfl (by decide) rfl ?_
  refine w_call rfl (by decide) rfl (t_cutV (A := [.int x5, .int x4, .int x3, .int x2, .int x1]) (rest := [.int z]) rfl hfs) ⟨Nat.le_of_ble_eq_true rfl, Nat.le_of_ble_eq_true rfl⟩ k2 (Or.inr (p_okl (List.getElem?_eq_some_iff.mp hfs).1 (fun _ => rfl))) ?_
  refine w_P rfl (by decide) (p_eqi _ _ _ _ z) ?_
  exact p_end (by omega)
theorem p_case3 {x0 x1 x2 x3 x4 x5 : Int32} : Wp (some [x0, x1, x2, x3, x4, x5]) 11 0 4 447 pLV [] TH0 1802 pQ := by
  obtain ⟨n1, n2, r, th1, th2, m1, m2, hsh, k1, k2, hm⟩ := p_op3 x1 x2
  obtain ⟨z, rfl⟩ := p_sh1 hsh
  obtain ⟨fs, hfs⟩ := p_obj k1
  refine w_P rfl (by decide) rfl ?_
  refine w_P rfl (by decide) rfl ?_
  refine w_P rfl (by decide) rfl ?_
  refine w_P rfl (by decide) rfl ?_
  refine w_P rfl (by decide) rfl ?_
  refine w_R rfl (by decide) rfl ?_
  refine w_P rfl (by decide) rfl ?_
  refine w_P rfl (by decide) rfl ?_
  refine w_P rfl (by decide) rfl ?_
  refine w_P rfl (by decide) rfl ?_
  refine w_R rfl (by decide) rfl ?_
  refine w_call rfl (by decide) rfl rfl ⟨Nat.le_of_ble_eq_true rfl, Nat.le_of_ble_eq_true rfl⟩ k1 (Or.inr rfl) ?_
  refine w_P rfl (by decide) rfl ?_
  refine w_P rfl (by decide) rfl ?_
  refine w_P rfl (by decide) rfl ?_
  refine w_P rfl (by decide) rfl ?_
  refine w_P rfl (by decide) rfl ?_
  refine w_R rfl (by decide) rfl ?_
  refine w_P rfl (by decide) rfl ?_
  refine w_P rfl (by decide) rfl ?_
  refine w_P rfl (by decide) rfl ?_
  refine w_P rfl (by decide) rfl ?_
  refine w_R rfl (by decide) rfl ?_
  refine w_call rfl (by decide) rfl (t_cutV (A := [.int x2, .int x1]) (rest := [.long z]) rfl hfs) ⟨Nat.le_of_ble_eq_true rfl, Nat.le_of_ble_eq_true rfl⟩ k2 (Or.inr (p_okl (List.getElem?_eq_some_iff.mp hfs).1 (fun _ => rfl))) ?_
  refine w_P rfl (by decide) (p_eql _ _ z) ?_
  refine w_P (pc' := 1556) (lv' := pLV) (st' := []) rfl (by decide) (by decide +kernel) ?_
  exact p_end (by omega)
theorem p_case4 {x0 x1 x2 x3 x4 x5 : Int32} : Wp (some [x0, x1, x2, x3, x4, x5]) 11 0 4 481 pLV [] TH0 1802 pQ := by
  obtain ⟨n1, n2, r, th1, th2, m1, m2, hsh, k1, k2, hm⟩ := p_op4 x1
  obtain ⟨z, rfl⟩ := p_sh0 hsh
  obtain ⟨fs, hfs⟩ := p_obj k1
  refine w_P rfl (by decide) rfl ?_
  refine w_P rfl (by decide) rfl ?_
  refine w_P rfl (by decide) rfl ?_
  refine w_P rfl (by decide) rfl ?_
  refine w_P rfl (by decide) rfl ?_
  refine w_R rfl (by decide) rfl ?_
  refine w_call rfl (by decide) rfl rfl ⟨Nat.le_of_ble_eq_true rfl, Nat.le_of_ble_eq_true rfl⟩ k1 (Or.inr rfl) ?_
  refine w_P rfl (by decide) rfl ?_
  refine w_P rfl (by decide) rfl ?_
  refine w_P rfl (by decide) rfl ?_
  refine w_P rfl (by decide) rfl ?_
  refine w_P rfl (by decide) rfl ?_
  refine w_R rfl (by decide) rfl ?_
  refine w_call rfl (by decide) rfl (t_cutV (A := [.int x1]) (rest := [.int z]) rfl hfs) ⟨Nat.le_of_ble_eq_true rfl, Nat.le_of_ble_eq_true rfl⟩ k2 (Or.inr (p_okl (List.getElem?_eq_some_iff.mp hfs).1 (fun _ => rfl))) ?_
  refine w_P rfl (by decide) (p_eqi _ _ _ _ z) ?_
  exact p_end (by omega)
theorem p_case5 {x0 x1 x2 x3 x4 x5 : Int32} : Wp (some [x0, x1, x2, x3, x4, x5]) 11 0 4 504 pLV [] TH0 1802 pQ := by
  obtain ⟨n1, n2, r, th1, th2, m1, m2, hsh, k1, k2, hm⟩ := p_op5 x1 x2
  obtain ⟨z, rfl⟩ := p_sh0 hsh
  obtain ⟨fs, hfs⟩ := p_obj k1
  refine w_P rfl (by decide) rfl ?_
  refine w_P rfl (by decide) rfl ?_
  refine w_P rfl (by decide) rfl ?_
  refine w_P rfl (by decide) rfl ?_
  refine w_P rfl (by decide) rfl ?_
  refine w_R rfl (by decide) rfl ?_
  refine w_P rfl (by decide) rfl ?_
  refine w_P rfl (by decide) rfl ?_
  refine w_P rfl (by decide) rfl ?_
  refine w_P rfl (by decide) rfl ?_
  refine w_R rfl (by decide) rfl ?_
  refine w_call rfl (by decide) rfl rfl ⟨Nat.le_of_ble_eq_true rfl, Nat.le_of_ble_eq_true rfl⟩ k1 (Or.inr rfl) ?_
  refine w_P rfl (by decide) rfl ?_
  refine w_P rfl (by decide) rfl ?_
  refine w_P rfl (by decide) rfl ?_
  refine w_P rfl (by decide) rfl ?_
  refine w_P rfl (by decide) rfl ?_
  refine w_R rfl (by decide) rfl ?_
  refine w_P rfl (by decide) rfl ?_
  refine w_P rfl (by decide) rfl ?_
  refine w_P rfl (by decide) rfl ?_
  refine w_P rfl (by decide) rfl ?_
  refine w_R rfl (by decide) rfl ?_
  refine w_call rfl (by decide) rfl (t_cutV (A := [.int x2, .int x1]) (rest := [.int z]) rfl hfs) ⟨Nat.le_of_ble_eq_true rfl, Nat.le_of_ble_eq_true rfl⟩ k2 (Or.inr (p_okl (List.getElem?_eq_some_iff.mp hfs).1 (fun _ => rfl))) ?_
  refine w_P rfl (by decide) (p_eqi _ _ _ _ z) ?_
  exact p_end (by omega)
theorem p_case6 {x0 x1 x2 x3 x4 x5 : Int32} : Wp (some [x0, x1, x2, x3, x4, x5]) 11 0 4 537 pLV [] TH0 1802 pQ := by
  obtain ⟨n1, n2, r, th1, th2, m1, m2, hsh, k1, k2, hm⟩ := p_op6 x1 x2
  obtain ⟨z, rfl⟩ := p_sh0 hsh
  obtain ⟨fs, hfs⟩ := p_obj k1
  refine w_P rfl (by decide) rfl ?_
  refine w_P rfl (by decide) rfl ?_
  refine w_P rfl (by decide) rfl ?_
  refine w_P rfl (by decide) rfl ?_
  refine w_P rfl (by decide) rfl ?_
  refine w_R rfl (by decide) rfl ?_
  refine w_P rfl (by decide) rfl ?_
  refine w_P rfl (by decide) rfl ?_
  refine w_P rfl (by decide) rfl ?_
  refine w_P rfl (by decide) rfl ?_
  refine w_R rfl (by decide) rfl ?_
  refine w_call rfl (by decide) rfl rfl ⟨Nat.le_of_ble_eq_true rfl, Nat.le_of_ble_eq_true rfl⟩ k1 (Or.inr rfl) ?_
  refine w_P rfl (by decide) rfl ?_
  refine w_P rfl (by decide) rfl ?_
  refine w_P rfl (by decide) rfl ?_
  refine w_P rfl (by decide) rfl ?_
  refine w_P rfl (by decide) rfl ?_
  refine w_R rfl (by decide) rfl ?_
  refine w_P rfl (by decide) rfl ?_
  refine w_P rfl (by decide) rfl ?_
  refine w_P rfl (by decide) rfl ?_
  refine w_P rfl (by decide) rfl ?_
  refine w_R rfl (by decide) rfl ?_
  refine w_call rfl (by decide) rfl (t_cutV (A := [.int x2, .int x1]) (rest := [.int z]) rfl hfs) ⟨Nat.le_of_ble_eq_true rfl, Nat.le_of_ble_eq_true rfl⟩ k2 (Or.inr (p_okl (List.getElem?_eq_some_iff.mp hfs).1 (fun _ => rfl))) ?_
  refine w_P rfl (by decide) (p_eqi _ _ _ _ z) ?_
  exact p_end (by omega)
theorem p_case7 {x0 x1 x2 x3 x4 x5 : Int32} : Wp (some [x0, x1, x2, x3, x4, x5]) 11 0 4 570 pLV [] TH0 1802 pQ := by
  obtain ⟨n1, n2, r, th1, th2, m1, m2, hsh, k1, k2, hm⟩ := p_op7 x1
  obtain ⟨z, rfl⟩ := p_sh0 hsh
  obtain ⟨fs, hfs⟩ := p_obj k1
  refine w_P rfl (by decide) rfl ?_
  refine w_P rfl (by decide) rfl ?_
  refine w_P rfl (by decide) rfl ?_
  refine w_P rfl (by decide) rfl ?_
  refine w_P rfl (by decide) rfl ?_
  refine w_R rfl (by decide) rfl ?_
  refine w_call rfl (by decide) rfl rfl ⟨Nat.le_of_ble_eq_true rfl, Nat.le_of_ble_eq_true rfl⟩ k1 (Or.inr rfl) ?_
  refine w_P rfl (by decide) rfl ?_
  refine w_P rfl (by decide) rfl ?_
  refine w_P rfl (by decide) rfl ?_
  refine w_P rfl (by decide) rfl ?_
  refine w_P rfl (by decide) rfl ?_
  refine w_R rfl (by decide) rfl ?_
  refine w_call rfl (by decide) rfl (t_cutV (A := [.int x1]) (rest := [.int z]) rfl hfs) ⟨Nat.le_of_ble_eq_true rfl, Nat.le_of_ble_eq_true rfl⟩ k2 (Or.inr (p_okl (List.getElem?_eq_some_iff.mp hfs).1 (fun _ => rfl))) ?_
  refine w_P rfl (by decide) (p_eqi _ _ _ _ z) ?_
  exact p_end (by omega)
theorem p_case8 {x0 x1 x2 x3 x4 x5 : Int32} : Wp (some [x0, x1, x2, x3, x4, x5]) 11 0 4 593 pLV [] TH0 1802 pQ := by
  obtain ⟨n1, n2, r, th1, th2, m1, m2, hsh, k1, k2, hm⟩ := p_op8 x1 x2 x3
  obtain ⟨z, rfl⟩ := p_sh0 hsh
  obtain ⟨fs, hfs⟩ := p_obj k1
  refine w_P rfl (by decide) rfl ?_
  refine w_P rfl (by decide) rfl ?_
  refine w_P rfl (by decide) rfl ?_
  refine w_P rfl (by decide) rfl ?_
  refine w_P rfl (by decide) rfl ?_
  refine w_R rfl (by decide) rfl ?_
  refine w_P rfl (by decide) rfl ?_
  refine w_P rfl (by decide) rfl ?_
  refine w_P rfl (by decide) rfl ?_
  refine w_P rfl (by decide) rfl ?_
  refine w_R rfl (by decide) rfl ?_
  refine w_P rfl (by decide) rfl ?_
  refine w_P rfl (by decide) rfl ?_
  refine w_P rfl (by decide) rfl ?_
  refine w_P rfl (by decide) rfl ?_
  refine w_R rfl (by decide) rfl ?_
  refine w_call rfl (by decide) rfl rfl ⟨Nat.le_of_ble_eq_true rfl, Nat.le_of_ble_eq_true rfl⟩ k1 (Or.inr rfl) ?_
  refine w_P rfl (by decide) rfl ?_
  refine w_P rfl (by decide) rfl ?_
  refine w_P rfl (by decide) rfl ?_
  refine w_P rfl (by decide) rfl ?_
  refine w_P rfl (by decide) rfl ?_
  refine w_R rfl (by decide) rfl ?_
  refine w_P rfl (by decide) rfl ?_
  refine w_P rfl (by decide) rfl ?_
  refine w_P rfl (by decide) rfl ?_
  refine w_P rfl (by decide) rfl ?_
  refine w_R rfl (by decide) rfl ?_
  refine w_P rfl (by decide) rfl ?_
  refine w_P rfl (by decide) rfl ?_
  refine w_P rfl (by decide) rfl ?_
  refine w_P rfl (by decide) rfl ?_
  refine w_R rfl (by decide) rfl ?_
  refine w_call rfl (by decide) rfl (t_cutV (A := [.int x3, .int x2, .int x1]) (rest := [.int z]) rfl hfs) ⟨Nat.le_of_ble_eq_true rfl, Nat.le_of_ble_eq_true rfl⟩ k2 (Or.inr (p_okl (List.getElem?_eq_some_iff.mp hfs).1 (fun _ => rfl))) ?_
  refine w_P rfl (by decide) (p_eqi _ _ _ _ z) ?_
  exact p_end (by omega)
theorem p_case9 {x0 x1 x2 x3 x4 x5 : Int32} : Wp (some [x0, x1, x2, x3, x4, x5]) 11 0 4 636 pLV [] TH0 1802 pQ := by
  obtain ⟨n1, n2, r, th1, th2, m1, m2, hsh, k1, k2, hm⟩ := p_op9 x1
  obtain ⟨z, rfl⟩ := p_sh0 hsh
  obtain ⟨fs, hfs⟩ := p_obj k1
  refine w_P rfl (by decide) rfl ?_
  refine w_P rfl (by decide) rfl ?_
  refine w_P rfl (by decide) rfl ?_
  refine w_P rfl (by decide) rfl ?_
  refine w_P rfl (by decide) rfl ?_
  refine w_R rfl (by decide) rfl ?_
  refine w_call rfl (by decide) rfl rfl ⟨Nat.le_of_ble_eq_true rfl, Nat.le_of_ble_eq_true rfl⟩ k1 (Or.inr rfl) ?_
  refine w_P rfl (by decide) rfl ?_
  refine w_P rfl (by decide) rfl ?_
  refine w_P rfl (by decide) rfl ?_
  refine w_P rfl (by decide) rfl ?_
  refine w_P rfl (by decide) rfl ?_
  refine w_R rfl (by decide) rfl ?_
  refine w_call rfl (by decide) rfl (t_cutV (A := [.int x1]) (rest := [.int z]) rfl hfs) ⟨Nat.le_of_ble_eq_true rfl, Nat.le_of_ble_eq_true rfl⟩ k2 (Or.inr (p_okl (List.getElem?_eq_some_iff.mp hfs).1 (fun _ => rfl))) ?_
  refine w_P rfl (by decide) (p_eqi _ _ _ _ z) ?_
  exact p_end (by omega)
theorem p_case10 {x0 x1 x2 x3 x4 x5 : Int32} : Wp (some [x0, x1, x2, x3, x4, x5]) 11 0 4 659 pLV [] TH0 1802 pQ := by
  obtain ⟨n1, n2, r, th1, th2, m1, m2, hsh, k1, k2, hm⟩ := p_op10 
  obtain ⟨z, rfl⟩ := p_sh0 hsh
  obtain ⟨fs, hfs⟩ := p_obj k1
  refine w_P rfl (by decide) rfl ?_
  refine w_call rfl (by decide) rfl rfl ⟨Nat.le_of_ble_eq_true rfl, Nat.le_of_ble_eq_true rfl⟩ k1 (Or.inr rfl) ?_
  refine w_P rfl (by decide) rfl ?_
  refine w_call rfl (by decide) rfl (t_cutV (A := []) (rest := [.int z]) rfl hfs) ⟨Nat.le_of_ble_eq_true rfl, Nat.le_of_ble_eq_true rfl⟩ k2 (Or.inr (p_okl (List.getElem?_eq_some_iff.mp hfs).1 (fun _ => rfl))) ?_
  refine w_P rfl (by decide) (p_eqi _ _ _ _ z) ?_
  exact p_end (by omega)
theorem p_case11 {x0 x1 x2 x3 x4 x5 : Int32} : Wp (some [x0, x1, x2, x3, x4, x5]) 11 0 4 672 pLV [] TH0 1802 pQ := by
  obtain ⟨n1, n2, r, th1, th2, m1, m2, hsh, k1, k2, hm⟩ := p_op11 x1 x2
  obtain ⟨z, rfl⟩ := p_sh0 hsh
  obtain ⟨fs, hfs⟩ := p_obj k1
  refine w_P rfl (by decide) rfl ?_
  refine w_P rfl (by decide) rfl ?_
  refine w_P rfl (by decide) rfl ?_
  refine w_P rfl (by decide) rfl ?_
  refine w_P rfl (by decide) rfl ?_
  refine w_R rfl (by decide) rfl ?_
  refine w_P rfl (by decide) rfl ?_
  refine w_P rfl (by decide) rfl ?_
  refine w_P rfl (by decide) rfl ?_
  refine w_P rfl (by decide) rfl ?_
  refine w_R rfl (by decide) rfl ?_
  refine w_call rfl (by decide) rfl rfl ⟨Nat.le_of_ble_eq_true rfl, Nat.le_of_ble_eq_true rfl⟩ k1 (Or.inr rfl) ?_
  refine w_P rfl (by decide) rfl ?_
  refine w_P rfl (by decide) rfl ?_
  refine w_P rfl (by decide) rfl ?_
  refine w_P rfl (by decide) rfl ?_
  refine w_P rfl (by decide) rfl ?_
  refine w_R rfl (by decide) rfl ?_
  refine w_P rfl (by decide) rfl ?_
  refine w_P rfl (by decide) rfl ?_
  refine w_P rfl (by decide) rfl ?_
  refine w_P rfl (by decide) rfl ?_
  refine w_R rfl (by decide) rfl ?_
  refine w_call rfl (by decide) rfl (t_cutV (A := [.int x2, .int x1]) (rest := [.int z]) rfl hfs) ⟨Nat.le_of_ble_eq_true rfl, Nat.le_of_ble_eq_true rfl⟩ k2 (Or.inr (p_okl (List.getElem?_eq_some_iff.mp hfs).1 (fun _ => rfl))) ?_
  refine w_P rfl (by decide) (p_eqi _ _ _ _ z) ?_
  exact p_end (by omega)
theorem p_case12 {x0 x1 x2 x3 x4 x5 : Int32} : Wp (some [x0, x1, x2, x3, x4, x5]) 11 0 4 705 pLV [] TH0 1802 pQ := by
  obtain ⟨n1, n2, r, th1, th2, m1, m2, hsh, k1, k2, hm⟩ := p_op12 
  obtain ⟨z, rfl⟩ := p_sh0 hsh
  obtain ⟨fs, hfs⟩ := p_obj k1
  refine w_P rfl (by decide) rfl ?_
  refine w_call rfl (by decide) rfl rfl ⟨Nat.le_of_ble_eq_true rfl, Nat.le_of_ble_eq_true rfl⟩ k1 (Or.inr rfl) ?_
  refine w_P rfl (by decide) rfl ?_
  refine w_call rfl (by decide) rfl (t_cutV (A := []) (rest := [.int z]) rfl hfs) ⟨Nat.le_of_ble_eq_true rfl, Nat.le_of_ble_eq_true rfl⟩ k2 (Or.inr (p_okl (List.getElem?_eq_some_iff.mp hfs).1 (fun _ => rfl))) ?_
  refine w_P rfl (by decide) (p_eqi _ _ _ _ z) ?_
  exact p_end (by omega)
theorem p_case13 {x0 x1 x2 x3 x4 x5 : Int32} : Wp (some [x0, x1, x2, x3, x4, x5]) 11 0 4 718 pLV [] TH0 1802 pQ := by
  obtain ⟨n1, n2, r, th1, th2, m1, m2, hsh, k1, k2, hm⟩ := p_op13 x1
  obtain ⟨z, rfl⟩ := p_sh0 hsh
  obtain ⟨fs, hfs⟩ := p_obj k1
  refine w_P rfl (by decide) rfl ?_
  refine w_P rfl (by decide) rfl ?_
  refine w_P rfl (by decide) rfl ?_
  refine w_P rfl (by decide) rfl ?_
  refine w_P rfl (by decide) rfl ?_
  refine w_R rfl (by decide) rfl ?_
  refine w_call rfl (by decide) rfl rfl ⟨Nat.le_of_ble_eq_true rfl, Nat.le_of_ble_eq_true rfl⟩ k1 (Or.inr rfl) ?_
  refine w_P rfl (by decide) rfl ?_
  refine w_P rfl (by decide) rfl ?_
  refine w_P rfl (by decide) rfl ?_
  refine w_P rfl (by decide) rfl ?_
  refine w_P rfl (by decide) rfl ?_
  refine w_R rfl (by decide) rfl ?_
  refine w_call rfl (by decide) rfl (t_cutV (A := [.int x1]) (rest := [.int z]) rfl hfs) ⟨Nat.le_of_ble_eq_true rfl, Nat.le_of_ble_eq_true rfl⟩ k2 (Or.inr (p_okl (List.getElem?_eq_some_iff.mp hfs).1 (fun _ => rfl))) ?_
  refine w_P rfl (by decide) (p_eqi _ _ _ _ z) ?_
  exact p_end (by omega)
theorem p_case14 {x0 x1 x2 x3 x4 x5 : Int32} : Wp (some [x0, x1, x2, x3, x4, x5]) 11 0 4 741 pLV [] TH0 1802 pQ := by
  obtain ⟨n1, n2, r, th1, th2, m1, m2, hsh, k1, k2, hm⟩ := p_op14 
  obtain ⟨z, rfl⟩ := p_sh0 hsh
  obtain ⟨fs, hfs⟩ := p_obj k1
  refine w_P rfl (by decide) rfl ?_
  refine w_call rfl (by decide) rfl rfl ⟨Nat.le_of_ble_eq_true rfl, Nat.le_of_ble_eq_true rfl⟩ k1 (Or.inr rfl) ?_
  refine w_P rfl (by decide) rfl ?_
  refine w_call rfl (by decide) rfl (t_cutV (A := []) (rest := [.int z]) rfl hfs) ⟨Nat.le_of_ble_eq_true rfl, Nat.le_of_ble_eq_true rfl⟩ k2 (Or.inr (p_okl (List.getElem?_eq_some_iff.mp hfs).1 (fun _ => rfl))) ?_
  refine w_P rfl (by decide) (p_eqi _ _ _ _ z) ?_
  exact p_end (by omega)
theorem p_case15 {x0 x1 x2 x3 x4 x5 : Int32} : Wp (some [x0, x1, x2, x3, x4, x5]) 11 0 4 754 pLV [] TH0 1802 pQ := by
  obtain ⟨n1, n2, r, th1, th2, m1, m2, hsh, k1, k2, hm⟩ := p_op15 
  obtain ⟨z, rfl⟩ := p_sh0 hsh
  obtain ⟨fs, hfs⟩ := p_obj k1
  refine w_P rfl (by decide) rfl ?_
  refine w_call rfl (by decide) rfl rfl ⟨Nat.le_of_ble_eq_true rfl, Nat.le_of_ble_eq_true rfl⟩ k1 (Or.inr rfl) ?_
  refine w_P rfl (by decide) rfl ?_
  refine w_call rfl (by decide) rfl (t_cutV (A := []) (rest := [.int z]) rfl hfs) ⟨Nat.le_of_ble_eq_true rfl, Nat.le_of_ble_eq_true rfl⟩ k2 (Or.inr (p_okl (List.getElem?_eq_some_iff.mp hfs).1 (fun _ => rfl))) ?_
  refine w_P rfl (by decide) (p_eqi _ _ _ _ z) ?_
  exact p_end (by omega)
theorem p_case16 {x0 x1 x2 x3 x4 x5 : Int32} : Wp (some [x0, x1, x2, x3, x4, x5]) 11 0 4 767 pLV [] TH0 1802 pQ := by
  obtain ⟨n1, n2, r, th1, th2, m1, m2, hsh, k1, k2, hm⟩ := p_op16 x1 x2
  obtain ⟨z, rfl⟩ := p_sh0 hsh
  obtain ⟨fs, hfs⟩ := p_obj k1
  refine w_P rfl (by decide) rfl ?_
  refine w_P rfl (by decide) rfl ?_
  refine w_P rfl (by decide) rfl ?_
  refine w_P rfl (by decide) rfl ?_
  refine w_P rfl (by decide) rfl ?_
  refine w_R rfl (by decide) rfl ?_
  refine w_P rfl (by decide) rfl ?_
  refine w_P rfl (by decide) rfl ?_
  refine w_P rfl (by decide) rfl ?_
  refine w_P rfl (by decide) rfl ?_
  refine w_R rfl (by decide) rfl ?_
  refine w_call rfl (by decide) rfl rfl ⟨Nat.le_of_ble_eq_true rfl, Nat.le_of_ble_eq_true rfl⟩ k1 (Or.inr rfl) ?_
  refine w_P rfl (by decide) rfl ?_
  refine w_P rfl (by decide) rfl ?_
  refine w_P rfl (by decide) rfl ?_
  refine w_P rfl (by decide) rfl ?_
  refine w_P rfl (by decide) rfl ?_
  refine w_R rfl (by decide) rfl ?_
  refine w_P rfl (by decide) rfl ?_
  refine w_P rfl (by decide) rfl ?_
  refine w_P rfl (by decide) rfl ?_
  refine w_P rfl (by decide) rfl ?_
  refine w_R rfl (by decide) rfl ?_
  refine w_call rfl (by decide) rfl (t_cutV (A := [.int x2, .int x1]) (rest := [.int z]) rfl hfs) ⟨Nat.le_of_ble_eq_true rfl, Nat.le_of_ble_eq_true rfl⟩ k2 (Or.inr (p_okl (List.getElem?_eq_some_iff.mp hfs).1 (fun _ => rfl))) ?_
  refine w_P rfl (by decide) (p_eqi _ _ _ _ z) ?_
  exact p_end (by omega)
theorem p_case17 {x0 x1 x2 x3 x4 x5 : Int32} : Wp (some [x0, x1, x2, x3, x4, x5]) 11 0 4 800 pLV [] TH0 1802 pQ := by
  obtain ⟨n1, n2, r, th1, th2, m1, m2, hsh, k1, k2, hm⟩ := p_op17 x1
  obtain ⟨z, rfl⟩ := p_sh0 hsh
  obtain ⟨fs, hfs⟩ := p_obj k1
  refine w_P rfl (by decide) rfl ?_
  refine w_P rfl (by decide) rfl ?_
  refine w_P rfl (by decide) rfl ?_
  refine w_P rfl (by decide) rfl ?_
  refine w_P rfl (by decide) rfl ?_
  refine w_R rfl (by decide) rfl ?_
  refine w_call rfl (by decide) rfl rfl ⟨Nat.le_of_ble_eq_true rfl, Nat.le_of_ble_eq_true rfl⟩ k1 (Or.inr rfl) ?_
  refine w_P rfl (by decide) rfl ?_
  refine w_P rfl (by decide) rfl ?_
  refine w_P rfl (by decide) rfl ?_
  refine w_P rfl (by decide) rfl ?_
  refine w_P rfl (by decide) rfl ?_
  refine w_R rfl (by decide) rfl ?_
  refine w_call rfl (by decide) rfl (t_cutV (A := [.int x1]) (rest := [.int z]) rfl hfs) ⟨Nat.le_of_ble_eq_true rfl, Nat.le_of_ble_eq_true rfl⟩ k2 (Or.inr (p_okl (List.getElem?_eq_some_iff.mp hfs).1 (fun _ => rfl))) ?_
  refine w_P rfl (by decide) (p_eqi _ _ _ _ z) ?_
  exact p_end (by omega)
theorem p_case18 {x0 x1 x2 x3 x4 x5 : Int32} : Wp (some [x0, x1, x2, x3, x4, x5]) 11 0 4 823 pLV [] TH0 1802 pQ := by
  obtain ⟨n1, n2, r, th1, th2, m1, m2, hsh, k1, k2, hm⟩ := p_op18 x1
  obtain ⟨z, rfl⟩ := p_sh0 hsh
  obtain ⟨fs, hfs⟩ := p_obj k1
  refine w_P rfl (by decide) rfl ?_
  refine w_P rfl (by decide) rfl ?_
  refine w_P rfl (by decide) rfl ?_
  refine w_P rfl (by decide) rfl ?_
  refine w_P rfl (by decide) rfl ?_
  refine w_R rfl (by decide) rfl ?_
  refine w_call rfl (by decide) rfl rfl ⟨Nat.le_of_ble_eq_true rfl, Nat.le_of_ble_eq_true rfl⟩ k1 (Or.inr rfl) ?_
  refine w_P rfl (by decide) rfl ?_
  refine w_P rfl (by decide) rfl ?_
  refine w_P rfl (by decide) rfl ?_
  refine w_P rfl (by decide) rfl ?_
  refine w_P rfl (by decide) rfl ?_
  refine w_R rfl (by decide) rfl ?_
  refine w_call rfl (by decide) rfl (t_cutV (A := [.int x1]) (rest := [.int z]) rfl hfs) ⟨Nat.le_of_ble_eq_true rfl, Nat.le_of_ble_eq_true rfl⟩ k2 (Or.inr (p_okl (List.getElem?_eq_some_iff.mp hfs).1 (fun _ => rfl))) ?_
  refine w_P rfl (by decide) (p_eqi _ _ _ _ z) ?_
  exact p_end (by omega)
theorem p_case19 {x0 x1 x2 x3 x4 x5 : Int32} : Wp (some [x0, x1, x2, x3, x4, x5]) 11 0 4 846 pLV [] TH0 1802 pQ := by
  obtain ⟨n1, n2, r, th1, th2, m1, m2, hsh, k1, k2, hm⟩ := p_op19 
  obtain ⟨z, rfl⟩ := p_sh0 hsh
  obtain ⟨fs, hfs⟩ := p_obj k1
  refine w_P rfl (by decide) rfl ?_
  refine w_call rfl (by decide) rfl rfl ⟨Nat.le_of_ble_eq_true rfl, Nat.le_of_ble_eq_true rfl⟩ k1 (Or.inr rfl) ?_
  refine w_P rfl (by decide) rfl ?_
  refine w_call rfl (by decide) rfl (t_cutV (A := []) (rest := [.int z]) rfl hfs) ⟨Nat.le_of_ble_eq_true rfl, Nat.le_of_ble_eq_true rfl⟩ k2 (Or.inr (p_okl (List.getElem?_eq_some_iff.mp hfs).1 (fun _ => rfl))) ?_
  refine w_P rfl (by decide) (p_eqi _ _ _ _ z) ?_
  exact p_end (by omega)
theorem p_case20 {x0 x1 x2 x3 x4 x5 : Int32} : Wp (some [x0, x1, x2, x3, x4, x5]) 11 0 4 859 pLV [] TH0 1802 pQ := by
  obtain ⟨n1, n2, r, th1, th2, m1, m2, hsh, k1, k2, hm⟩ := p_op20 x1 x2
  obtain ⟨z, rfl⟩ := p_sh0 hsh
  obtain ⟨fs, hfs⟩ := p_obj k1
  refine w_P rfl (by decide) rfl ?_
  refine w_P rfl (by decide) rfl ?_
  refine w_P rfl (by decide) rfl ?_
  refine w_P rfl (by decide) rfl ?_
  refine w_P rfl (by decide) rfl ?_
  refine w_R rfl (by decide) rfl ?_
  refine w_P rfl (by decide) rfl ?_
  refine w_P rfl (by decide) rfl ?_
  refine w_P rfl (by decide) rfl ?_
  refine w_P rfl (by decide) rfl ?_
  refine w_R rfl (by decide) rfl ?_
  refine w_call rfl (by decide) rfl rfl ⟨Nat.le_of_ble_eq_true rfl, Nat.le_of_ble_eq_true rfl⟩ k1 (Or.inr rfl) ?_
  refine w_P rfl (by decide) rfl ?_
  refine w_P rfl (by decide) rfl ?_
  refine w_P rfl (by decide) rfl ?_
  refine w_P rfl (by decide) rfl ?_
  refine w_P rfl (by decide) rfl ?_
  refine w_R rfl (by decide) rfl ?_
  refine w_P rfl (by decide) rfl ?_
  refine w_P rfl (by decide) rfl ?_
  refine w_P rfl (by decide) rfl ?_
  refine w_P rfl (by decide) rfl ?_
  refine w_R rfl (by decide) rfl ?_
  refine w_call rfl (by decide) rfl (t_cutV (A := [.int x2, .int x1]) (rest := [.int z]) rfl hfs) ⟨Nat.le_of_ble_eq_true rfl, Nat.le_of_ble_eq_true rfl⟩ k2 (Or.inr (p_okl (List.getElem?_eq_some_iff.mp hfs).1 (fun _ => rfl))) ?_
  refine w_P rfl (by decide) (p_eqi _ _ _ _ z) ?_
  exact p_end (by omega)
theorem p_case21 {x0 x1 x2 x3 x4 x5 : Int32} : Wp (some [x0, x1, x2, x3, x4, x5]) 11 0 4 892 pLV [] TH0 1802 pQ := by
  obtain ⟨n1, n2, r, th1, th2, m1, m2, hsh, k1, k2, hm⟩ := p_op21 
  obtain ⟨z, rfl⟩ := p_sh0 hsh
  obtain ⟨fs, hfs⟩ := p_obj k1
  refine w_P rfl (by decide) rfl ?_
  refine w_call rfl (by decide) rfl rfl ⟨Nat.le_of_ble_eq_true rfl, Nat.le_of_ble_eq_true rfl⟩ k1 (Or.inr rfl) ?_
  refine w_P rfl (by decide) rfl ?_
  refine w_call rfl (by decide) rfl (t_cutV (A := []) (rest := [.int z]) rfl hfs) ⟨Nat.le_of_ble_eq_true rfl, Nat.le_of_ble_eq_true rfl⟩ k2 (Or.inr (p_okl (List.getElem?_eq_some_iff.mp hfs).1 (fun _ => rfl))) ?_
  refine w_P rfl (by decide) (p_eqi _ _ _ _ z) ?_
  exact p_end (by omega)
theorem p_case22 {x0 x1 x2 x3 x4 x5 : Int32} : Wp (some [x0, x1, x2, x3, x4, x5]) 11 0 4 905 pLV [] TH0 1802 pQ := by
  obtain ⟨n1, n2, r, th1, th2, m1, m2, hsh, k1, k2, hm⟩ := p_op22 
  obtain ⟨z, rfl⟩ := p_sh0 hsh
  obtain ⟨fs, hfs⟩ := p_obj k1
  refine w_P rfl (by decide) rfl ?_
  refine w_call rfl (by decide) rfl rfl ⟨Nat.le_of_ble_eq_true rfl, Nat.le_of_ble_eq_true rfl⟩ k1 (Or.inr rfl) ?_
  refine w_P rfl (by decide) rfl ?_
  refine w_call rfl (by decide) rfl (t_cutV (A := []) (rest := [.int z]) rfl hfs) ⟨Nat.le_of_ble_eq_true rfl, Nat.le_of_ble_eq_true rfl⟩ k2 (Or.inr (p_okl (List.getElem?_eq_some_iff.mp hfs).1 (fun _ => rfl))) ?_
  refine w_P rfl (by decide) (p_eqi _ _ _ _ z) ?_
  exact p_end (by omega)
theorem p_case23 {x0 x1 x2 x3 x4 x5 : Int32} : Wp (some [x0, x1, x2, x3, x4, x5]) 11 0 4 918 pLV [] TH0 1802 pQ := by
  obtain ⟨n1, n2, r, th1, th2, m1, m2, hsh, k1, k2, hm⟩ := p_op23 x1 x2
  obtain ⟨z, rfl⟩ := p_sh0 hsh
  obtain ⟨fs, hfs⟩ := p_obj k1
  refine w_P rfl (by decide) rfl ?_
  refine w_P rfl (by decide) rfl ?_
  refine w_P rfl (by decide) rfl ?_
  refine w_P rfl (by decide) rfl ?_
  refine w_P rfl (by decide) rfl ?_
  refine w_R rfl (by decide) rfl ?_
  refine w_P rfl (by decide) rfl ?_
  refine w_P rfl (by decide) rfl ?_
  refine w_P rfl (by decide) rfl ?_
  refine w_P rfl (by decide) rfl ?_
  refine w_R rfl (by decide) rfl ?_
  refine w_call rfl (by decide) rfl rfl ⟨Nat.le_of_ble_eq_true rfl, Nat.le_of_ble_eq_true rfl⟩ k1 (Or.inr rfl) ?_
  refine w_P rfl (by decide) rfl ?_
  refine w_P rfl (by decide) rfl ?_
  refine w_P rfl (by decide) rfl ?_
  refine w_P rfl (by decide) rfl ?_
  refine w_P rfl (by decide) rfl ?_
  refine w_R rfl (by decide) rfl ?_
  refine w_P rfl (by decide) rfl ?_
  refine w_P rfl (by decide) rfl ?_
  refine w_P rfl (by decide) rfl ?_
  refine w_P rfl (by decide) rfl ?_
  refine w_R rfl (by decide) rfl ?_
  refine w_call rfl (by decide) rfl (t_cutV (A := [.int x2, .int x1]) (rest := [.int z]) rfl hfs) ⟨Nat.le_of_ble_eq_true rfl, Nat.le_of_ble_eq_true rfl⟩ k2 (Or.inr (p_okl (List.getElem?_eq_some_iff.mp hfs).1 (fun _ => rfl))) ?_
  refine w_P rfl (by decide) (p_eqi _ _ _ _ z) ?_
  exact p_end (by omega)
theorem p_case24 {x0 x1 x2 x3 x4 x5 : Int32} : Wp (some [x0, x1, x2, x3, x4, x5]) 11 0 4 951 pLV [] TH0 1802 pQ := by
  obtain ⟨n1, n2, r, th1, th2, m1, m2, hsh, k1, k2, hm⟩ := p_op24 x1
  obtain ⟨z, rfl⟩ := p_sh0 hsh
  obtain ⟨fs, hfs⟩ := p_obj k1
  refine w_P rfl (by decide) rfl ?_
  refine w_P rfl (by decide) rfl ?_
  refine w_P rfl (by decide) rfl ?_
  refine w_P rfl (by decide) rfl ?_
  refine w_P rfl (by decide) rfl ?_
  refine w_R rfl (by decide) rfl ?_
  refine w_call rfl (by decide) rfl rfl ⟨Nat.le_of_ble_eq_true rfl, Nat.le_of_ble_eq_true rfl⟩ k1 (Or.inr rfl) ?_
  refine w_P rfl (by decide) rfl ?_
  refine w_P rfl (by decide) rfl ?_
  refine w_P rfl (by decide) rfl ?_
  refine w_P rfl (by decide) rfl ?_
  refine w_P rfl (by decide) rfl ?_
  refine w_R rfl (by decide) rfl ?_
  refine w_call rfl (by decide) rfl (t_cutV (A := [.int x1]) (rest := [.int z]) rfl hfs) ⟨Nat.le_of_ble_eq_true rfl, Nat.le_of_ble_eq_true rfl⟩ k2 (Or.inr (p_okl (List.getElem?_eq_some_iff.mp hfs).1 (fun _ => rfl))) ?_
  refine w_P rfl (by decide) (p_eqi _ _ _ _ z) ?_
  exact p_end (by omega)
theorem p_case25 {x0 x1 x2 x3 x4 x5 : Int32} : Wp (some [x0, x1, x2, x3, x4, x5]) 11 0 4 974 pLV [] TH0 1802 pQ := by
  obtain ⟨n1, n2, r, th1, th2, m1, m2, hsh, k1, k2, hm⟩ := p_op25 x1 x2
  obtain ⟨z, rfl⟩ := p_sh0 hsh
  obtain ⟨fs, hfs⟩ := p_obj k1
  refine w_P rfl (by decide) rfl ?_
  refine w_P rfl (by decide) rfl ?_
  refine w_P rfl (by decide) rfl ?_
  refine w_P rfl (by decide) rfl ?_
  refine w_P rfl (by decide) rfl ?_
  refine w_R rfl (by decide) rfl ?_
  refine w_P rfl (by decide) rfl ?_
  refine w_P rfl (by decide) rfl ?_
  refine w_P rfl (by decide) rfl ?_
  refine w_P rfl (by decide) rfl ?_
  refine w_R rfl (by decide) rfl ?_
  refine w_call rfl (by decide) rfl rfl ⟨Nat.le_of_ble_eq_true rfl, Nat.le_of_ble_eq_true rfl⟩ k1 (Or.inr rfl) ?_
  refine w_P rfl (by decide) rfl ?_
  refine w_P rfl (by decide) rfl ?_
  refine w_P rfl (by decide) rfl ?_
  refine w_P rfl (by decide) rfl ?_
  refine w_P rfl (by decide) rfl ?_
  refine w_R rfl (by decide) rfl ?_
  refine w_P rfl (by decide) rfl ?_
  refine w_P rfl (by decide) rfl ?_
  refine w_P rfl (by decide) rfl ?_
  refine w_P rfl (by decide) rfl ?_
  refine w_R rfl (by decide) rfl ?_
  refine w_call rfl (by decide) rfl (t_cutV (A := [.int x2, .int x1]) (rest := [.int z]) rfl hfs) ⟨Nat.le_of_ble_eq_true rfl, Nat.le_of_ble_eq_true rfl⟩ k2 (Or.inr (p_okl (List.getElem?_eq_some_iff.mp hfs).1 (fun _ => rfl))) ?_
  refine w_P rfl (by decide) (p_eqi _ _ _ _ z) ?_
  exact p_end (by omega)
theorem p_case26 {x0 x1 x2 x3 x4 x5 : Int32} : Wp (some [x0, x1, x2, x3, x4, x5]) 11 0 4 1007 pLV [] TH0 1802 pQ := by
  obtain ⟨n1, n2, r, th1, th2, m1, m2, hsh, k1, k2, hm⟩ := p_op26 x1
  obtain ⟨z, rfl⟩ := p_sh0 hsh
  obtain ⟨fs, hfs⟩ := p_obj k1
  refine w_P rfl (by decide) rfl ?_
  refine w_P rfl (by decide) rfl ?_
  refine w_P rfl (by decide) rfl ?_
  refine w_P rfl (by decide) rfl ?_
  refine w_P rfl (by decide) rfl ?_
  refine w_R rfl (by decide) rfl ?_
  refine w_call rfl (by decide) rfl rfl ⟨Nat.le_of_ble_eq_true rfl, Nat.le_of_ble_eq_true rfl⟩ k1 (Or.inr rfl) ?_
  refine w_P rfl (by decide) rfl ?_
  refine w_P rfl (by decide) rfl ?_
  refine w_P rfl (by decide) rfl ?_
  refine w_P rfl (by decide) rfl ?_
  refine w_P rfl (by decide) rfl ?_
  refine w_R rfl (by decide) rfl ?_
  refine w_call rfl (by decide) rfl (t_cutV (A := [.int x1]) (rest := [.int z]) rfl hfs) ⟨Nat.le_of_ble_eq_true rfl, Nat.le_of_ble_eq_true rfl⟩ k2 (Or.inr (p_okl (List.getElem?_eq_some_iff.mp hfs).1 (fun _ => rfl))) ?_
  refine w_P rfl (by decide) (p_eqi _ _ _ _ z) ?_
  exact p_end (by omega)
theorem p_case27 {x0 x1 x2 x3 x4 x5 : Int32} : Wp (some [x0, x1, x2, x3, x4, x5]) 11 0 4 1030 pLV [] TH0 1802 pQ := by
  obtain ⟨n1, n2, r, th1, th2, m1, m2, hsh, k1, k2, hm⟩ := p_op27 x1
  obtain ⟨z, rfl⟩ := p_sh0 hsh
  obtain ⟨fs, hfs⟩ := p_obj k1
  refine w_P rfl (by decide) rfl ?_
  refine w_P rfl (by decide) rfl ?_
  refine w_P rfl (by decide) rfl ?_
  refine w_P rfl (by decide) rfl ?_
  refine w_P rfl (by decide) rfl ?_
  refine w_R rfl (by decide) rfl ?_
  refine w_call rfl (by decide) rfl rfl ⟨Nat.le_of_ble_eq_true rfl, Nat.le_of_ble_eq_true rfl⟩ k1 (Or.inr rfl) ?_
  refine w_P rfl (by decide) rfl ?_
  refine w_P rfl (by decide) rfl ?_
  refine w_P rfl (by decide) rfl ?_
  refine w_P rfl (by decide) rfl ?_
  refine w_P rfl (by decide) rfl ?_
  refine w_R rfl (by decide) rfl ?_
  refine w_call rfl (by decide) rfl (t_cutV (A := [.int x1]) (rest := [.int z]) rfl hfs) ⟨Nat.le_of_ble_eq_true rfl, Nat.le_of_ble_eq_true rfl⟩ k2 (Or.inr (p_okl (List.getElem?_eq_some_iff.mp hfs).1 (fun _ => rfl))) ?_
  refine w_P rfl (by decide) (p_eqi _ _ _ _ z) ?_
  exact p_end (by omega)
theorem p_case28 {x0 x1 x2 x3 x4 x5 : Int32} : Wp (some [x0, x1, x2, x3, x4, x5]) 11 0 4 1053 pLV [] TH0 1802 pQ := by
  obtain ⟨n1, n2, r, th1, th2, m1, m2, hsh, k1, k2, hm⟩ := p_op28 
  obtain ⟨z, rfl⟩ := p_sh0 hsh
  obtain ⟨fs, hfs⟩ := p_obj k1
  refine w_P rfl (by decide) rfl ?_
  refine w_call rfl (by decide) rfl rfl ⟨Nat.le_of_ble_eq_true rfl, Nat.le_of_ble_eq_true rfl⟩ k1 (Or.inr rfl) ?_
  refine w_P rfl (by decide) rfl ?_
  refine w_call rfl (by decide) rfl (t_cutV (A := []) (rest := [.int z]) rfl hfs) ⟨Nat.le_of_ble_eq_true rfl, Nat.le_of_ble_eq_true rfl⟩ k2 (Or.inr (p_okl (List.getElem?_eq_some_iff.mp hfs).1 (fun _ => rfl))) ?_
  refine w_P rfl (by decide) (p_eqi _ _ _ _ z) ?_
  exact p_end (by omega)
theorem p_case29 {x0 x1 x2 x3 x4 x5 : Int32} : Wp (some [x0, x1, x2, x3, x4, x5]) 11 0 4 1066 pLV [] TH0 1802 pQ := by
  obtain ⟨n1, n2, r, th1, th2, m1, m2, hsh, k1, k2, hm⟩ := p_op29 x1
  obtain ⟨z, rfl⟩ := p_sh0 hsh
  obtain ⟨fs, hfs⟩ := p_obj k1
  refine w_P rfl (by decide) rfl ?_
  refine w_P rfl (by decide) rfl ?_
  refine w_P rfl (by decide) rfl ?_
  refine w_P rfl (by decide) rfl ?_
  refine w_P rfl (by decide) rfl ?_
  refine w_R rfl (by decide) rfl ?_
  refine w_call rfl (by decide) rfl rfl ⟨Nat.le_of_ble_eq_true rfl, Nat.le_of_ble_eq_true rfl⟩ k1 (Or.inr rfl) ?_
  refine w_P rfl (by decide) rfl ?_
  refine w_P rfl (by decide) rfl ?_
  refine w_P rfl (by decide) rfl ?_
  refine w_P rfl (by decide) rfl ?_
  refine w_P rfl (by decide) rfl ?_
  refine w_R rfl (by decide) rfl ?_
  refine w_call rfl (by decide) rfl (t_cutV (A := [.int x1]) (rest := [.int z]) rfl hfs) ⟨Nat.le_of_ble_eq_true rfl, Nat.le_of_ble_eq_true rfl⟩ k2 (Or.inr (p_okl (List.getElem?_eq_some_iff.mp hfs).1 (fun _ => rfl))) ?_
  refine w_P rfl (by decide) (p_eqi _ _ _ _ z) ?_
  exact p_end (by omega)
theorem p_case30 {x0 x1 x2 x3 x4 x5 : Int32} : Wp (some [x0, x1, x2, x3, x4, x5]) 11 0 4 1089 pLV [] TH0 1802 pQ := by
  obtain ⟨n1, n2, r, th1, th2, m1, m2, hsh, k1, k2, hm⟩ := p_op30 x1 x2
  obtain ⟨z, rfl⟩ := p_sh0 hsh
  obtain ⟨fs, hfs⟩ := p_obj k1
  refine w_P rfl (by decide) rfl ?_
  refine w_P rfl (by decide) rfl ?_
  refine w_P rfl (by decide) rfl ?_
  refine w_P rfl (by decide) rfl ?_
  refine w_P rfl (by decide) rfl ?_
  refine w_R rfl (by decide) rfl ?_
  refine w_P rfl (by decide) rfl ?_
  refine w_P rfl (by decide) rfl ?_
  refine w_P rfl (by decide) rfl ?_
  refine w_P rfl (by decide) rfl ?_
  refine w_R rfl (by decide) rfl ?_
  refine w_call rfl (by decide) rfl rfl ⟨Nat.le_of_ble_eq_true rfl, Nat.le_of_ble_eq_true rfl⟩ k1 (Or.inr rfl) ?_
  refine w_P rfl (by decide) rfl ?_
  refine w_P rfl (by decide) rfl ?_
  refine w_P rfl (by decide) rfl ?_
  refine w_P rfl (by decide) rfl ?_
  refine w_P rfl (by decide) rfl ?_
  refine w_R rfl (by decide) rfl ?_
  refine w_P rfl (by decide) rfl ?_
  refine w_P rfl (by decide) rfl ?_
  refine w_P rfl (by decide) rfl ?_
  refine w_P rfl (by decide) rfl ?_
  refine w_R rfl (by decide) rfl ?_
  refine w_call rfl (by decide) rfl (t_cutV (A := [.int x2, .int x1]) (rest := [.int z]) rfl hfs) ⟨Nat.le_of_ble_eq_true rfl, Nat.le_of_ble_eq_true rfl⟩ k2 (Or.inr (p_okl (List.getElem?_eq_some_iff.mp hfs).1 (fun _ => rfl))) ?_
  refine w_P rfl (by decide) (p_eqi _ _ _ _ z) ?_
  exact p_end (by omega)
theorem p_case31 {x0 x1 x2 x3 x4 x5 : Int32} : Wp (some [x0, x1, x2, x3, x4, x5]) 11 0 4 1122 pLV [] TH0 1802 pQ := by
  obtain ⟨n1, n2, r, th1, th2, m1, m2, hsh, k1, k2, hm⟩ := p_op31 
  obtain ⟨z, rfl⟩ := p_sh1 hsh
  obtain ⟨fs, hfs⟩ := p_obj k1
  refine w_P rfl (by decide) rfl ?_
  refine w_call rfl (by decide) rfl rfl ⟨Nat.le_of_ble_eq_true rfl, Nat.le_of_ble_eq_true rfl⟩ k1 (Or.inr rfl) ?_
  refine w_P rfl (by decide) rfl ?_
  refine w_call rfl (by decide) rfl (t_cutV (A := []) (rest := [.long z]) rfl hfs) ⟨Nat.le_of_ble_eq_true rfl, Nat.le_of_ble_eq_true rfl⟩ k2 (Or.inr (p_okl (List.getElem?_eq_some_iff.mp hfs).1 (fun _ => rfl))) ?_
  refine w_P rfl (by decide) (p_eql _ _ z) ?_
  refine w_P (pc' := 1556) (lv' := pLV) (st' := []) rfl (by decide) (by decide +kernel) ?_
  exact p_end (by omega)
theorem p_case32 {x0 x1 x2 x3 x4 x5 : Int32} : Wp (some [x0, x1, x2, x3, x4, x5]) 11 0 4 1136 pLV [] TH0 1802 pQ := by
  obtain ⟨n1, n2, r, th1, th2, m1, m2, hsh, k1, k2, hm⟩ := p_op32 x1
  obtain ⟨z, rfl⟩ := p_sh0 hsh
  obtain ⟨fs, hfs⟩ := p_obj k1
  refine w_P rfl (by decide) rfl ?_
  refine w_P rfl (by decide) rfl ?_
  refine w_P rfl (by decide) rfl ?_
  refine w_P rfl (by decide) rfl ?_
  refine w_P rfl (by decide) rfl ?_
  refine w_R rfl (by decide) rfl ?_
  refine w_call rfl (by decide) rfl rfl ⟨Nat.le_of_ble_eq_true rfl, Nat.le_of_ble_eq_true rfl⟩ k1 (Or.inr rfl) ?_
  refine w_P rfl (by decide) rfl ?_
  refine w_P rfl (by decide) rfl ?_
  refine w_P rfl (by decide) rfl ?_
  refine w_P rfl (by decide) rfl ?_
  refine w_P rfl (by decide) rfl ?_
  refine w_R rfl (by decide) rfl ?_
  refine w_call rfl (by decide) rfl (t_cutV (A := [.int x1]) (rest := [.int z]) rfl hfs) ⟨Nat.le_of_ble_eq_true rfl, Nat.le_of_ble_eq_true rfl⟩ k2 (Or.inr (p_okl (List.getElem?_eq_some_iff.mp hfs).1 (fun _ => rfl))) ?_
  refine w_P rfl (by decide) (p_eqi _ _ _ _ z) ?_
  exact p_end (by omega)
theorem p_case33 {x0 x1 x2 x3 x4 x5 : Int32} : Wp (some [x0, x1, x2, x3, x4, x5]) 11 0 4 1159 pLV [] TH0 1802 pQ := by
  obtain ⟨n1, n2, r, th1, th2, m1, m2, hsh, k1, k2, hm⟩ := p_op33 x1
  obtain ⟨z, rfl⟩ := p_sh0 hsh
  obtain ⟨fs, hfs⟩ := p_obj k1
  refine w_P rfl (by decide) rfl ?_
  refine w_P rfl (by decide) rfl ?_
  refine w_P rfl (by decide) rfl ?_
  refine w_P rfl (by decide) rfl ?_
  refine w_P rfl (by decide) rfl ?_
  refine w_R rfl (by decide) rfl ?_
  refine w_call rfl (by decide) rfl rfl ⟨Nat.le_of_ble_eq_true rfl, Nat.le_of_ble_eq_true rfl⟩ k1 (Or.inr rfl) ?_
  refine w_P rfl (by decide) rfl ?_
  refine w_P rfl (by decide) rfl ?_
  refine w_P rfl (by decide) rfl ?_
  refine w_P rfl (by decide) rfl ?_
  refine w_P rfl (by decide) rfl ?_
  refine w_R rfl (by decide) rfl ?_
  refine w_call rfl (by decide) rfl (t_cutV (A := [.int x1]) (rest := [.int z]) rfl hfs) ⟨Nat.le_of_ble_eq_true rfl, Nat.le_of_ble_eq_true rfl⟩ k2 (Or.inr (p_okl (List.getElem?_eq_some_iff.mp hfs).1 (fun _ => rfl))) ?_
  refine w_P rfl (by decide) (p_eqi _ _ _ _ z) ?_
  exact p_end (by omega)
theorem p_case34 {x0 x1 x2 x3 x4 x5 : Int32} : Wp (some [x0, x1, x2, x3, x4, x5]) 11 0 4 1182 pLV [] TH0 1802 pQ := by
  obtain ⟨n1, n2, r, th1, th2, m1, m2, hsh, k1, k2, hm⟩ := p_op34 
  obtain ⟨z, rfl⟩ := p_sh1 hsh
  obtain ⟨fs, hfs⟩ := p_obj k1
  refine w_P rfl (by decide) rfl ?_
  refine w_call rfl (by decide) rfl rfl ⟨Nat.le_of_ble_eq_true rfl, Nat.le_of_ble_eq_true rfl⟩ k1 (Or.inr rfl) ?_
  refine w_P rfl (by decide) rfl ?_
  refine w_call rfl (by decide) rfl (t_cutV (A := []) (rest := [.long z]) rfl hfs) ⟨Nat.le_of_ble_eq_true rfl, Nat.le_of_ble_eq_true rfl⟩ k2 (Or.inr (p_okl (List.getElem?_eq_some_iff.mp hfs).1 (fun _ => rfl))) ?_
  refine w_P rfl (by decide) (p_eql _ _ z) ?_
  refine w_P (pc' := 1556) (lv' := pLV) (st' := []) rfl (by decide) (by decide +kernel) ?_
  exact p_end (by omega)
theorem p_case35 {x0 x1 x2 x3 x4 x5 : Int32} : Wp (some [x0, x1, x2, x3, x4, x5]) 11 0 4 1196 pLV [] TH0 1802 pQ := by
  obtain ⟨n1, n2, r, th1, th2, m1, m2, hsh, k1, k2, hm⟩ := p_op35 x1 x2
  obtain ⟨z, rfl⟩ := p_sh0 hsh
  obtain ⟨fs, hfs⟩ := p_obj k1
  refine w_P rfl (by decide) rfl ?_
  refine w_P rfl (by decide) rfl ?_
  refine w_P rfl (by decide) rfl ?_
  refine w_P rfl (by decide) rfl ?_
  refine w_P rfl (by decide) rfl ?_
  refine w_R rfl (by decide) rfl ?_
  refine w_P rfl (by decide) rfl ?_
  refine w_P rfl (by decide) rfl ?_
  refine w_P rfl (by decide) rfl ?_
  refine w_P rfl (by decide) rfl ?_
  refine w_R rfl (by decide) rfl ?_
  refine w_call rfl (by decide) rfl rfl ⟨Nat.le_of_ble_eq_true rfl, Nat.le_of_ble_eq_true rfl⟩ k1 (Or.inr rfl) ?_
  refine w_P rfl (by decide) rfl ?_
  refine w_P rfl (by decide) rfl ?_
  refine w_P rfl (by decide) rfl ?_
  refine w_P rfl (by decide) rfl ?_
  refine w_P rfl (by decide) rfl ?_
  refine w_R rfl (by decide) rfl ?_
  refine w_P rfl (by decide) rfl ?_
  refine w_P rfl (by decide) rfl ?_
  refine w_P rfl (by decide) rfl ?_
  refine w_P rfl (by decide) rfl ?_
  refine w_R rfl (by decide) rfl ?_
  refine w_call rfl (by decide) rfl (t_cutV (A := [.int x2, .int x1]) (rest := [.int z]) rfl hfs) ⟨Nat.le_of_ble_eq_true rfl, Nat.le_of_ble_eq_true rfl⟩ k2 (Or.inr (p_okl (List.getElem?_eq_some_iff.mp hfs).1 (fun _ => rfl))) ?_
  refine w_P rfl (by decide) (p_eqi _ _ _ _ z) ?_
  exact p_end (by omega)
theorem p_case36 {x0 x1 x2 x3 x4 x5 : Int32} : Wp (some [x0, x1, x2, x3, x4, x5]) 11 0 4 1229 pLV [] TH0 1802 pQ := by
  obtain ⟨n1, n2, r, th1, th2, m1, m2, hsh, k1, k2, hm⟩ := p_op36 x1
  obtain ⟨z, rfl⟩ := p_sh0 hsh
  obtain ⟨fs, hfs⟩ := p_obj k1
  refine w_P rfl (by decide) rfl ?_
  refine w_P rfl (by decide) rfl ?_
  refine w_P rfl (by decide) rfl ?_
  refine w_P rfl (by decide) rfl ?_
  refine w_P rfl (by decide) rfl ?_
  refine w_R rfl (by decide) rfl ?_
  refine w_call rfl (by decide) rfl rfl ⟨Nat.le_of_ble_eq_true rfl, Nat.le_of_ble_eq_true rfl⟩ k1 (Or.inr rfl) ?_
  refine w_P rfl (by decide) rfl ?_
  refine w_P rfl (by decide) rfl ?_
  refine w_P rfl (by decide) rfl ?_
  refine w_P rfl (by decide) rfl ?_
  refine w_P rfl (by decide) rfl ?_
  refine w_R rfl (by decide) rfl ?_
  refine w_call rfl (by decide) rfl (t_cutV (A := [.int x1]) (rest := [.int z]) rfl hfs) ⟨Nat.le_of_ble_eq_true rfl, Nat.le_of_ble_eq_true rfl⟩ k2 (Or.inr (p_okl (List.getElem?_eq_some_iff.mp hfs).1 (fun _ => rfl))) ?_
  refine w_P rfl (by decide) (p_eqi _ _ _ _ z) ?_
  exact p_end (by omega)
theorem p_case37 {x0 x1 x2 x3 x4 x5 : Int32} : Wp (some [x0, x1, x2, x3, x4, x5]) 11 0 4 1252 pLV [] TH0 1802 pQ := by
  obtain ⟨n1, n2, r, th1, th2, m1, m2, hsh, k1, k2, hm⟩ := p_op37 x1
  obtain ⟨z, rfl⟩ := p_sh0 hsh
  obtain ⟨fs, hfs⟩ := p_obj k1
  refine w_P rfl (by decide) rfl ?_
  refine w_P rfl (by decide) rfl ?_
  refine w_P rfl (by decide) rfl ?_
  refine w_P rfl (by decide) rfl ?_
  refine w_P rfl (by decide) rfl ?_
  refine w_R rfl (by decide) rfl ?_
  refine w_call rfl (by decide) rfl rfl ⟨Nat.le_of_ble_eq_true rfl, Nat.le_of_ble_eq_true rfl⟩ k1 (Or.inr rfl) ?_
  refine w_P rfl (by decide) rfl ?_
  refine w_P rfl (by decide) rfl ?_
  refine w_P rfl (by decide) rfl ?_
  refine w_P rfl (by decide) rfl ?_
  refine w_P rfl (by decide) rfl ?_
  refine w_R rfl (by decide) rfl ?_
  refine w_call rfl (by decide) rfl (t_cutV (A := [.int x1]) (rest := [.int z]) rfl hfs) ⟨Nat.le_of_ble_eq_true rfl, Nat.le_of_ble_eq_true rfl⟩ k2 (Or.inr (p_okl (List.getElem?_eq_some_iff.mp hfs).1 (fun _ => rfl))) ?_
  refine w_P rfl (by decide) (p_eqi _ _ _ _ z) ?_
  exact p_end (by omega)
theorem p_case38 {x0 x1 x2 x3 x4 x5 : Int32} : Wp (some [x0, x1, x2, x3, x4, x5]) 11 0 4 1275 pLV [] TH0 1802 pQ := by
  obtain ⟨n1, n2, r, th1, th2, m1, m2, hsh, k1, k2, hm⟩ := p_op38 x1
  obtain ⟨z, rfl⟩ := p_sh0 hsh
  obtain ⟨fs, hfs⟩ := p_obj k1
  refine w_P rfl (by decide) rfl ?_
  refine w_P rfl (by decide) rfl ?_
  refine w_P rfl (by decide) rfl ?_
  refine w_P rfl (by decide) rfl ?_
  refine w_P rfl (by decide) rfl ?_
  refine w_R rfl (by decide) rfl ?_
  refine w_call rfl (by decide) rfl rfl ⟨Nat.le_of_ble_eq_true rfl, Nat.le_of_ble_eq_true rfl⟩ k1 (Or.inr rfl) ?_
  refine w_P rfl (by decide) rfl ?_
  refine w_P rfl (by decide) rfl ?_
  refine w_P rfl (by decide) rfl ?_
  refine w_P rfl (by decide) rfl ?_
  refine w_P rfl (by decide) rfl ?_
  refine w_R rfl (by decide) rfl ?_
  refine w_call rfl (by decide) rfl (t_cutV (A := [.int x1]) (rest := [.int z]) rfl hfs) ⟨Nat.le_of_ble_eq_true rfl, Nat.le_of_ble_eq_true rfl⟩ k2 (Or.inr (p_okl (List.getElem?_eq_some_iff.mp hfs).1 (fun _ => rfl))) ?_
  refine w_P rfl (by decide) (p_eqi _ _ _ _ z) ?_
  exact p_end (by omega)
theorem p_case39 {x0 x1 x2 x3 x4 x5 : Int32} : Wp (some [x0, x1, x2, x3, x4, x5]) 11 0 4 1298 pLV [] TH0 1802 pQ := by
  obtain ⟨n1, n2, r, th1, th2, m1, m2, hsh, k1, k2, hm⟩ := p_op39 x1
  obtain ⟨z, rfl⟩ := p_sh0 hsh
  obtain ⟨fs, hfs⟩ := p_obj k1
  refine w_P rfl (by decide) rfl ?_
  refine w_P rfl (by decide) rfl ?_
  refine w_P rfl (by decide) rfl ?_
  refine w_P rfl (by decide) rfl ?_
  refine w_P rfl (by decide) rfl ?_
  refine w_R rfl (by decide) rfl ?_
  refine w_call rfl (by decide) rfl rfl ⟨Nat.le_of_ble_eq_true rfl, Nat.le_of_ble_eq_true rfl⟩ k1 (Or.inr rfl) ?_
  refine w_P rfl (by decide) rfl ?_
  refine w_P rfl (by decide) rfl ?_
  refine w_P rfl (by decide) rfl ?_
  refine w_P rfl (by decide) rfl ?_
  refine w_P rfl (by decide) rfl ?_
  refine w_R rfl (by decide) rfl ?_
  refine w_call rfl (by decide) rfl (t_cutV (A := [.int x1]) (rest := [.int z]) rfl hfs) ⟨Nat.le_of_ble_eq_true rfl, Nat.le_of_ble_eq_true rfl⟩ k2 (Or.inr (p_okl (List.getElem?_eq_some_iff.mp hfs).1 (fun _ => rfl))) ?_
  refine w_P rfl (by decide) (p_eqi _ _ _ _ z) ?_
  exact p_end (by omega)
theorem p_case40 {x0 x1 x2 x3 x4 x5 : Int32} : Wp (some [x0, x1, x2, x3, x4, x5]) 11 0 4 1321 pLV [] TH0 1802 pQ := by
  obtain ⟨n1, n2, r, th1, th2, m1, m2, hsh, k1, k2, hm⟩ := p_op40 
  obtain ⟨z, rfl⟩ := p_sh0 hsh
  obtain ⟨fs, hfs⟩ := p_obj k1
  refine w_P rfl (by decide) rfl ?_
  refine w_call rfl (by decide) rfl rfl ⟨Nat.le_of_ble_eq_true rfl, Nat.le_of_ble_eq_true rfl⟩ k1 (Or.inr rfl) ?_
  refine w_P rfl (by decide) rfl ?_
  refine w_call rfl (by decide) rfl (t_cutV (A := []) (rest := [.int z]) rfl hfs) ⟨Nat.le_of_ble_eq_true rfl, Nat.le_of_ble_eq_true rfl⟩ k2 (Or.inr (p_okl (List.getElem?_eq_some_iff.mp hfs).1 (fun _ => rfl))) ?_
  refine w_P rfl (by decide) (p_eqi _ _ _ _ z) ?_
  exact p_end (by omega)
theorem p_case41 {x0 x1 x2 x3 x4 x5 : Int32} : Wp (some [x0, x1, x2, x3, x4, x5]) 11 0 4 1334 pLV [] TH0 1802 pQ := by
  obtain ⟨n1, n2, r, th1, th2, m1, m2, hsh, k1, k2, hm⟩ := p_op41 
  obtain ⟨z, rfl⟩ := p_sh0 hsh
  obtain ⟨fs, hfs⟩ := p_obj k1
  refine w_P rfl (by decide) rfl ?_
  refine w_call rfl (by decide) rfl rfl ⟨Nat.le_of_ble_eq_true rfl, Nat.le_of_ble_eq_true rfl⟩ k1 (Or.inr rfl) ?_
  refine w_P rfl (by decide) rfl ?_
  refine w_call rfl (by decide) rfl (t_cutV (A := []) (rest := [.int z]) rfl hfs) ⟨Nat.le_of_ble_eq_true rfl, Nat.le_of_ble_eq_true rfl⟩ k2 (Or.inr (p_okl (List.getElem?_eq_some_iff.mp hfs).1 (fun _ => rfl))) ?_
  refine w_P rfl (by decide) (p_eqi _ _ _ _ z) ?_
  exact p_end (by omega)
theorem p_case42 {x0 x1 x2 x3 x4 x5 : Int32} : Wp (some [x0, x1, x2, x3, x4, x5]) 11 0 4 1347 pLV [] TH0 1802 pQ := by
  obtain ⟨n1, n2, r, th1, th2, m1, m2, hsh, k1, k2, hm⟩ := p_op42 
  obtain ⟨z, rfl⟩ := p_sh0 hsh
  obtain ⟨fs, hfs⟩ := p_obj k1
  refine w_P rfl (by decide) rfl ?_
  refine w_call rfl (by decide) rfl rfl ⟨Nat.le_of_ble_eq_true rfl, Nat.le_of_ble_eq_true rfl⟩ k1 (Or.inr rfl) ?_
  refine w_P rfl (by decide) rfl ?_
  refine w_call rfl (by decide) rfl (t_cutV (A := []) (rest := [.int z]) rfl hfs) ⟨Nat.le_of_ble_eq_true rfl, Nat.le_of_ble_eq_true rfl⟩ k2 (Or.inr (p_okl (List.getElem?_eq_some_iff.mp hfs).1 (fun _ => rfl))) ?_
  refine w_P rfl (by decide) (p_eqi _ _ _ _ z) ?_
  exact p_end (by omega)
theorem p_case43 {x0 x1 x2 x3 x4 x5 : Int32} : Wp (some [x0, x1, x2, x3, x4, x5]) 11 0 4 1360 pLV [] TH0 1802 pQ := by
  obtain ⟨n1, n2, r, th1, th2, m1, m2, hsh, k1, k2, hm⟩ := p_op43 
  obtain ⟨z, rfl⟩ := p_sh0 hsh
  obtain ⟨fs, hfs⟩ := p_obj k1
  refine w_P rfl (by decide) rfl ?_
  refine w_call rfl (by decide) rfl rfl ⟨Nat.le_of_ble_eq_true rfl, Nat.le_of_ble_eq_true rfl⟩ k1 (Or.inr rfl) ?_
  refine w_P rfl (by decide) rfl ?_
  refine w_call rfl (by decide) rfl (t_cutV (A := []) (rest := [.int z]) rfl hfs) ⟨Nat.le_of_ble_eq_true rfl, Nat.le_of_ble_eq_true rfl⟩ k2 (Or.inr (p_okl (List.getElem?_eq_some_iff.mp hfs).1 (fun _ => rfl))) ?_
  refine w_P rfl (by decide) (p_eqi _ _ _ _ z) ?_
  exact p_end (by omega)
theorem p_case44 {x0 x1 x2 x3 x4 x5 : Int32} : Wp (some [x0, x1, x2, x3, x4, x5]) 11 0 4 1373 pLV [] TH0 1802 pQ := by
  obtain ⟨n1, n2, r, th1, th2, m1, m2, hsh, k1, k2, hm⟩ := p_op44 
  obtain ⟨z, rfl⟩ := p_sh0 hsh
  obtain ⟨fs, hfs⟩ := p_obj k1
  refine w_P rfl (by decide) rfl ?_
  refine w_call rfl (by decide) rfl rfl ⟨Nat.le_of_ble_eq_true rfl, Nat.le_of_ble_eq_true rfl⟩ k1 (Or.inr rfl) ?_
  refine w_P rfl (by decide) rfl ?_
  refine w_call rfl (by decide) rfl (t_cutV (A := []) (rest := [.int z]) rfl hfs) ⟨Nat.le_of_ble_eq_true rfl, Nat.le_of_ble_eq_true rfl⟩ k2 (Or.inr (p_okl (List.getElem?_eq_some_iff.mp hfs).1 (fun _ => rfl))) ?_
  refine w_P rfl (by decide) (p_eqi _ _ _ _ z) ?_
  exact p_end (by omega)
theorem p_case45 {x0 x1 x2 x3 x4 x5 : Int32} : Wp (some [x0, x1, x2, x3, x4, x5]) 11 0 4 1386 pLV [] TH0 1802 pQ := by
  obtain ⟨n1, n2, r, th1, th2, m1, m2, hsh, k1, k2, hm⟩ := p_op45 
  obtain ⟨z, rfl⟩ := p_sh0 hsh
  obtain ⟨fs, hfs⟩ := p_obj k1
  refine w_P rfl (by decide) rfl ?_
  refine w_call rfl (by decide) rfl rfl ⟨Nat.le_of_ble_eq_true rfl, Nat.le_of_ble_eq_true rfl⟩ k1 (Or.inr rfl) ?_
  refine w_P rfl (by decide) rfl ?_
  refine w_call rfl (by decide) rfl (t_cutV (A := []) (rest := [.int z]) rfl hfs) ⟨Nat.le_of_ble_eq_true rfl, Nat.le_of_ble_eq_true rfl⟩ k2 (Or.inr (p_okl (List.getElem?_eq_some_iff.mp hfs).1 (fun _ => rfl))) ?_
  refine w_P rfl (by decide) (p_eqi _ _ _ _ z) ?_
  exact p_end (by omega)
theorem p_case46 {x0 x1 x2 x3 x4 x5 : Int32} : Wp (some [x0, x1, x2, x3, x4, x5]) 11 0 4 1399 pLV [] TH0 1802 pQ := by
  obtain ⟨n1, n2, r, th1, th2, m1, m2, hsh, k1, k2, hm⟩ := p_op46 x1
  obtain ⟨z, rfl⟩ := p_sh0 hsh
  obtain ⟨fs, hfs⟩ := p_obj k1
  refine w_P rfl (by decide) rfl ?_
  refine w_P rfl (by decide) rfl ?_
  refine w_P rfl (by decide) rfl ?_
  refine w_P rfl (by decide) rfl ?_
  refine w_P rfl (by decide) rfl ?_
  refine w_R rfl (by decide) rfl ?_
  refine w_call rfl (by decide) rfl rfl ⟨Nat.le_of_ble_eq_true rfl, Nat.le_of_ble_eq_true rfl⟩ k1 (Or.inr rfl) ?_
  refine w_P rfl (by decide) rfl ?_
  refine w_P rfl (by decide) rfl ?_
  refine w_P rfl (by decide) rfl ?_
  refine w_P rfl (by decide) rfl ?_
  refine w_P rfl (by decide) rfl ?_
  refine w_R rfl (by decide) rfl ?_
  refine w_call rfl (by decide) rfl (t_cutV (A := [.int x1]) (rest := [.int z]) rfl hfs) ⟨Nat.le_of_ble_eq_true rfl, Nat.le_of_ble_eq_true rfl⟩ k2 (Or.inr (p_okl (List.getElem?_eq_some_iff.mp hfs).1 (fun _ => rfl))) ?_
  refine w_P rfl (by decide) (p_eqi _ _ _ _ z) ?_
  exact p_end (by omega)
theorem p_case47 {x0 x1 x2 x3 x4 x5 : Int32} : Wp (some [x0, x1, x2, x3, x4, x5]) 11 0 4 1422 pLV [] TH0 1802 pQ := by
  obtain ⟨n1, n2, r, th1, th2, m1, m2, hsh, k1, k2, hm⟩ := p_op47 
  obtain ⟨z, rfl⟩ := p_sh0 hsh
  obtain ⟨fs, hfs⟩ := p_obj k1
  refine w_P rfl (by decide) rfl ?_
  refine w_call rfl (by decide) rfl rfl ⟨Nat.le_of_ble_eq_true rfl, Nat.le_of_ble_eq_true rfl⟩ k1 (Or.inr rfl) ?_
  refine w_P rfl (by decide) rfl ?_
  refine w_call rfl (by decide) rfl (t_cutV (A := []) (rest := [.int z]) rfl hfs) ⟨Nat.le_of_ble_eq_true rfl, Nat.le_of_ble_eq_true rfl⟩ k2 (Or.inr (p_okl (List.getElem?_eq_some_iff.mp hfs).1 (fun _ => rfl))) ?_
  refine w_P rfl (by decide) (p_eqi _ _ _ _ z) ?_
  exact p_end (by omega)
theorem p_case48 {x0 x1 x2 x3 x4 x5 : Int32} : Wp (some [x0, x1, x2, x3, x4, x5]) 11 0 4 1435 pLV [] TH0 1802 pQ := by
  obtain ⟨n1, n2, r, th1, th2, m1, m2, hsh, k1, k2, hm⟩ := p_op48 
  obtain ⟨z, rfl⟩ := p_sh0 hsh
  obtain ⟨fs, hfs⟩ := p_obj k1
  refine w_P rfl (by decide) rfl ?_
  refine w_call rfl (by decide) rfl rfl ⟨Nat.le_of_ble_eq_true rfl, Nat.le_of_ble_eq_true rfl⟩ k1 (Or.inr rfl) ?_
  refine w_P rfl (by decide) rfl ?_
  refine w_call rfl (by decide) rfl (t_cutV (A := []) (rest := [.int z]) rfl hfs) ⟨Nat.le_of_ble_eq_true rfl, Nat.le_of_ble_eq_true rfl⟩ k2 (Or.inr (p_okl (List.getElem?_eq_some_iff.mp hfs).1 (fun _ => rfl))) ?_
  refine w_P rfl (by decide) (p_eqi _ _ _ _ z) ?_
  exact p_end (by omega)
theorem p_case49 {x0 x1 x2 x3 x4 x5 : Int32} : Wp (some [x0, x1, x2, x3, x4, x5]) 11 0 4 1448 pLV [] TH0 1802 pQ := by
  obtain ⟨n1, n2, r, th1, th2, m1, m2, hsh, k1, k2, hm⟩ := p_op49 
  obtain ⟨z, rfl⟩ := p_sh0 hsh
  obtain ⟨fs, hfs⟩ := p_obj k1
  refine w_P rfl (by decide) rfl ?_
  refine w_call rfl (by decide) rfl rfl ⟨Nat.le_of_ble_eq_true rfl, Nat.le_of_ble_eq_true rfl⟩ k1 (Or.inr rfl) ?_
  refine w_P rfl (by decide) rfl ?_
  refine w_call rfl (by decide) rfl (t_cutV (A := []) (rest := [.int z]) rfl hfs) ⟨Nat.le_of_ble_eq_true rfl, Nat.le_of_ble_eq_true rfl⟩ k2 (Or.inr (p_okl (List.getElem?_eq_some_iff.mp hfs).1 (fun _ => rfl))) ?_
  refine w_P rfl (by decide) (p_eqi _ _ _ _ z) ?_
  exact p_end (by omega)
theorem p_case50 {x0 x1 x2 x3 x4 x5 : Int32} : Wp (some [x0, x1, x2, x3, x4, x5]) 11 0 4 1461 pLV [] TH0 1802 pQ := by
  obtain ⟨n1, n2, r, th1, th2, m1, m2, hsh, k1, k2, hm⟩ := p_op50 x1
  obtain ⟨z, rfl⟩ := p_sh0 hsh
  obtain ⟨fs, hfs⟩ := p_obj k1
  refine w_P rfl (by decide) rfl ?_
  refine w_P rfl (by decide) rfl ?_
  refine w_P rfl (by decide) rfl ?_
  refine w_P rfl (by decide) rfl ?_
  refine w_P rfl (by decide) rfl ?_
  refine w_R rfl (by decide) rfl ?_
  refine w_call rfl (by decide) rfl rfl ⟨Nat.le_of_ble_eq_true rfl, Nat.le_of_ble_eq_true rfl⟩ k1 (Or.inr rfl) ?_
  refine w_P rfl (by decide) rfl ?_
  refine w_P rfl (by decide) rfl ?_
  refine w_P rfl (by decide) rfl ?_
  refine w_P rfl (by decide) rfl ?_
  refine w_P rfl (by decide) rfl ?_
  refine w_R rfl (by decide) rfl ?_
  refine w_call rfl (by decide) rfl (t_cutV (A := [.int x1]) (rest := [.int z]) rfl hfs) ⟨Nat.le_of_ble_eq_true rfl, Nat.le_of_ble_eq_true rfl⟩ k2 (Or.inr (p_okl (List.getElem?_eq_some_iff.mp hfs).1 (fun _ => rfl))) ?_
  refine w_P rfl (by decide) (p_eqi _ _ _ _ z) ?_
  exact p_end (by omega)
theorem p_case51 {x0 x1 x2 x3 x4 x5 : Int32} : Wp (some [x0, x1, x2, x3, x4, x5]) 11 0 4 1484 pLV [] TH0 1802 pQ := by
  obtain ⟨n1, n2, r, th1, th2, m1, m2, hsh, k1, k2, hm⟩ := p_op51 x1
  obtain ⟨z, rfl⟩ := p_sh0 hsh
  obtain ⟨fs, hfs⟩ := p_obj k1
  refine w_P rfl (by decide) rfl ?_
  refine w_P rfl (by decide) rfl ?_
  refine w_P rfl (by decide) rfl ?_
  refine w_P rfl (by decide) rfl ?_
  refine w_P rfl (by decide) rfl ?_
  refine w_R rfl (by decide) rfl ?_
  refine w_call rfl (by decide) rfl rfl ⟨Nat.le_of_ble_eq_true rfl, Nat.le_of_ble_eq_true rfl⟩ k1 (Or.inr rfl) ?_
  refine w_P rfl (by decide) rfl ?_
  refine w_P rfl (by decide) rfl ?_
  refine w_P rfl (by decide) rfl ?_
  refine w_P rfl (by decide) rfl ?_
  refine w_P rfl (by decide) rfl ?_
  refine w_R rfl (by decide) rfl ?_
  refine w_call rfl (by decide) rfl (t_cutV (A := [.int x1]) (rest := [.int z]) rfl hfs) ⟨Nat.le_of_ble_eq_true rfl, Nat.le_of_ble_eq_true rfl⟩ k2 (Or.inr (p_okl (List.getElem?_eq_some_iff.mp hfs).1 (fun _ => rfl))) ?_
  refine w_P rfl (by decide) (p_eqi _ _ _ _ z) ?_
  exact p_end (by omega)
theorem p_case52 {x0 x1 x2 x3 x4 x5 : Int32} : Wp (some [x0, x1, x2, x3, x4, x5]) 11 0 4 1507 pLV [] TH0 1802 pQ := by
  obtain ⟨n1, n2, r, th1, th2, m1, m2, hsh, k1, k2, hm⟩ := p_op52 
  obtain ⟨z, rfl⟩ := p_sh0 hsh
  obtain ⟨fs, hfs⟩ := p_obj k1
  refine w_P rfl (by decide) rfl ?_
  refine w_call rfl (by decide) rfl rfl ⟨Nat.le_of_ble_eq_true rfl, Nat.le_of_ble_eq_true rfl⟩ k1 (Or.inr rfl) ?_
  refine w_P rfl (by decide) rfl ?_
  refine w_call rfl (by decide) rfl (t_cutV (A := []) (rest := [.int z]) rfl hfs) ⟨Nat.le_of_ble_eq_true rfl, Nat.le_of_ble_eq_true rfl⟩ k2 (Or.inr (p_okl (List.getElem?_eq_some_iff.mp hfs).1 (fun _ => rfl))) ?_
  refine w_P rfl (by decide) (p_eqi _ _ _ _ z) ?_
  exact p_end (by omega)
theorem p_case53 {x0 x1 x2 x3 x4 x5 : Int32} : Wp (some [x0, x1, x2, x3, x4, x5]) 11 0 4 1520 pLV [] TH0 1802 pQ := by
  obtain ⟨n1, n2, r, th1, th2, m1, m2, hsh, k1, k2, hm⟩ := p_op53 
  obtain ⟨z, rfl⟩ := p_sh0 hsh
  obtain ⟨fs, hfs⟩ := p_obj k1
  refine w_P rfl (by decide) rfl ?_
  refine w_call rfl (by decide) rfl rfl ⟨Nat.le_of_ble_eq_true rfl, Nat.le_of_ble_eq_true rfl⟩ k1 (Or.inr rfl) ?_
  refine w_P rfl (by decide) rfl ?_
  refine w_call rfl (by decide) rfl (t_cutV (A := []) (rest := [.int z]) rfl hfs) ⟨Nat.le_of_ble_eq_true rfl, Nat.le_of_ble_eq_true rfl⟩ k2 (Or.inr (p_okl (List.getElem?_eq_some_iff.mp hfs).1 (fun _ => rfl))) ?_
  refine w_P rfl (by decide) (p_eqi _ _ _ _ z) ?_
  exact p_end (by omega)
theorem p_case54 {x0 x1 x2 x3 x4 x5 : Int32} : Wp (some [x0, x1, x2, x3, x4, x5]) 11 0 4 1533 pLV [] TH0 1802 pQ := by
  obtain ⟨n1, n2, r, th1, th2, m1, m2, hsh, k1, k2, hm⟩ := p_op54 x1
  obtain ⟨z, rfl⟩ := p_sh0 hsh
  obtain ⟨fs, hfs⟩ := p_obj k1
  refine w_P rfl (by decide) rfl ?_
  refine w_P rfl (by decide) rfl ?_
  refine w_P rfl (by decide) rfl ?_
  refine w_P rfl (by decide) rfl ?_
  refine w_P rfl (by decide) rfl ?_
  refine w_R rfl (by decide) rfl ?_
  refine w_call rfl (by decide) rfl rfl ⟨Nat.le_of_ble_eq_true rfl, Nat.le_of_ble_eq_true rfl⟩ k1 (Or.inr rfl) ?_
  refine w_P rfl (by decide) rfl ?_
  refine w_P rfl (by decide) rfl ?_
  refine w_P rfl (by decide) rfl ?_
  refine w_P rfl (by decide) rfl ?_
  refine w_P rfl (by decide) rfl ?_
  refine w_R rfl (by decide) rfl ?_
  refine w_call rfl (by decide) rfl (t_cutV (A := [.int x1]) (rest := [.int z]) rfl hfs) ⟨Nat.le_of_ble_eq_true rfl, Nat.le_of_ble_eq_true rfl⟩ k2 (Or.inr (p_okl (List.getElem?_eq_some_iff.mp hfs).1 (fun _ => rfl))) ?_
  refine w_P rfl (by decide) (p_eqi _ _ _ _ z) ?_
  exact p_end (by omega)
