set_option maxRecDepth 20000 in
theorem p_sw {x0 x1 x2 x3 x4 x5 : Int32} (h : x0 &&& 63 = x0 &&& 63) : Wp (some [x0, x1, x2, x3, x4, x5]) 11 0 4 33 pLV [.int (x0 &&& 63)] TH0 1802 pQ := by
  obtain ⟨j, hj, e⟩ := pk_andE x0 (m := 63) 6 (by decide)
  rw [e]
  clear e h
  match j, hj with
  | 0, _ => exact w_P (pc' := 268) (lv' := pLV) (st' := []) rfl (by decide) (by decide +kernel) p_case0
  | 1, _ => exact w_P (pc' := 311) (lv' := pLV) (st' := []) rfl (by decide) (by decide +kernel) p_case1
  | 2, _ => exact w_P (pc' := 384) (lv' := pLV) (st' := []) rfl (by decide) (by decide +kernel) p_case2
  | 3, _ => exact w_P (pc' := 447) (lv' := pLV) (st' := []) rfl (by decide) (by decide +kernel) p_case3
  | 4, _ => exact w_P (pc' := 481) (lv' := pLV) (st' := []) rfl (by decide) (by decide +kernel) p_case4
  | 5, _ => exact w_P (pc' := 504) (lv' := pLV) (st' := []) rfl (by decide) (by decide +kernel) p_case5
  | 6, _ => exact w_P (pc' := 537) (lv' := pLV) (st' := []) rfl (by decide) (by decide +kernel) p_case6
  | 7, _ => exact w_P (pc' := 570) (lv' := pLV) (st' := []) rfl (by decide) (by decide +kernel) p_case7
  | 8, _ => exact w_P (pc' := 593) (lv' := pLV) (st' := []) rfl (by decide) (by decide +kernel) p_case8
  | 9, _ => exact w_P (pc' := 636) (lv' := pLV) (st' := []) rfl (by decide) (by decide +kernel) p_case9
  | 10, _ => exact w_P (pc' := 659) (lv' := pLV) (st' := []) rfl (by decide) (by decide +kernel) p_case10
  | 11, _ => exact w_P (pc' := 672) (lv' := pLV) (st' := []) rfl (by decide) (by decide +kernel) p_case11
  | 12, _ => exact w_P (pc' := 705) (lv' := pLV) (st' := []) rfl (by decide) (by decide +kernel) p_case12
  | 13, _ => exact w_P (pc' := 718) (lv' := pLV) (st' := []) rfl (by decide) (by decide +kernel) p_case13
  | 14, _ => exact w_P (pc' := 741) (lv' := pLV) (st' := []) rfl (by decide) (by decide +kernel) p_case14
  | 15, _ => exact w_P (pc' := 754) (lv' := pLV) (st' := []) rfl (by decide) (by decide +kernel) p_case15
  | 16, _ => exact w_P (pc' := 767) (lv' := pLV) (st' := []) rfl (by decide) (by decide +kernel) p_case16
  | 17, _ => exact w_P (pc' := 800) (lv' := pLV) (st' := []) rfl (by decide) (by decide +kernel) p_case17
  | 18, _ => exact w_P (pc' := 823) (lv' := pLV) (st' := []) rfl (by decide) (by decide +kernel) p_case18
  | 19, _ => exact w_P (pc' := 846) (lv' := pLV) (st' := []) rfl (by decide) (by decide +kernel) p_case19
  | 20, _ => exact w_P (pc' := 859) (lv' := pLV) (st' := []) rfl (by decide) (by decide +kernel) p_case20
  | 21, _ => exact w_P (pc' := 892) (lv' := pLV) (st' := []) rfl (by decide) (by decide +kernel) p_case21
  | 22, _ => exact w_P (pc' := 905) (lv' := pLV) (st' := []) rfl (by decide) (by decide +kernel) p_case22
  | 23, _ => exact w_P (pc' := 918) (lv' := pLV) (st' := []) rfl (by decide) (by decide +kernel) p_case23
  | 24, _ => exact w_P (pc' := 951) (lv' := pLV) (st' := []) rfl (by decide) (by decide +kernel) p_case24
  | 25, _ => exact w_P (pc' := 974) (lv' := pLV) (st' := []) rfl (by decide) (by decide +kernel) p_case25
  | 26, _ => exact w_P (pc' := 1007) (lv' := pLV) (st' := []) rfl (by decide) (by decide +kernel) p_case26
  | 27, _ => exact w_P (pc' := 1030) (lv' := pLV) (st' := []) rfl (by decide) (by decide +kernel) p_case27
  | 28, _ => exact w_P (pc' := 1053) (lv' := pLV) (st' := []) rfl (by decide) (by decide +kernel) p_case28
  | 29, _ => exact w_P (pc' := 1066) (lv' := pLV) (st' := []) rfl (by decide) (by decide +kernel) p_case29
  | 30, _ => exact w_P (pc' := 1089) (lv' := pLV) (st' := []) rfl (by decide) (by decide +kernel) p_case30
  | 31, _ => exact w_P (pc' := 1122) (lv' := pLV) (st' := []) rfl (by decide) (by decide +kernel) p_case31
  | 32, _ => exact w_P (pc' := 1136) (lv' := pLV) (st' := []) rfl (by decide) (by decide +kernel) p_case32
  | 33, _ => exact w_P (pc' := 1159) (lv' := pLV) (st' := []) rfl (by decide) (by decide +kernel) p_case33
  | 34, _ => exact w_P (pc' := 1182) (lv' := pLV) (st' := []) rfl (by decide) (by decide +kernel) p_case34
  | 35, _ => exact w_P (pc' := 1196) (lv' := pLV) (st' := []) rfl (by decide) (by decide +kernel) p_case35
  | 36, _ => exact w_P (pc' := 1229) (lv' := pLV) (st' := []) rfl (by decide) (by decide +kernel) p_case36
  | 37, _ => exact w_P (pc' := 1252) (lv' := pLV) (st' := []) rfl (by decide) (by decide +kernel) p_case37
  | 38, _ => exact w_P (pc' := 1275) (lv' := pLV) (st' := []) rfl (by decide) (by decide +kernel) p_case38
  | 39, _ => exact w_P (pc' := 1298) (lv' := pLV) (st' := []) rfl (by decide) (by decide +kernel) p_case39
  | 40, _ => exact w_P (pc' := 1321) (lv' := pLV) (st' := []) rfl (by decide) (by decide +kernel) p_case40
  | 41, _ => exact w_P (pc' := 1334) (lv' := pLV) (st' := []) rfl (by decide) (by decide +kernel) p_case41
  | 42, _ => exact w_P (pc' := 1347) (lv' := pLV) (st' := []) rfl (by decide) (by decide +kernel) p_case42
  | 43, _ => exact w_P (pc' := 1360) (lv' := pLV) (st' := []) rfl (by decide) (by decide +kernel) p_case43
  | 44, _ => exact w_P (pc' := 1373) (lv' := pLV) (st' := []) rfl (by decide) (by decide +kernel) p_case44
  | 45, _ => exact w_P (pc' := 1386) (lv' := pLV) (st' := []) rfl (by decide) (by decide +kernel) p_case45
  | 46, _ => exact w_P (pc' := 1399) (lv' := pLV) (st' := []) rfl (by decide) (by decide +kernel) p_case46
  | 47, _ => exact w_P (pc' := 1422) (lv' := pLV) (st' := []) rfl (by decide) (by decide +kernel) p_case47
  | 48, _ => exact w_P (pc' := 1435) (lv' := pLV) (st' := []) rfl (by decide) (by decide +kernel) p_case48
  | 49, _ => exact w_P (pc' := 1448) (lv' := pLV) (st' := []) rfl (by decide) (by decide +kernel) p_case49
  | 50, _ => exact w_P (pc' := 1461) (lv' := pLV) (st' := []) rfl (by decide) (by decide +kernel) p_case50
  | 51, _ => exact w_P (pc' := 1484) (lv' := pLV) (st' := []) rfl (by decide) (by decide +kernel) p_case51
  | 52, _ => exact w_P (pc' := 1507) (lv' := pLV) (st' := []) rfl (by decide) (by decide +kernel) p_case52
  | 53, _ => exact w_P (pc' := 1520) (lv' := pLV) (st' := []) rfl (by decide) (by decide +kernel) p_case53
  | 54, _ => exact w_P (pc' := 1533) (lv' := pLV) (st' := []) rfl (by decide) (by decide +kernel) p_case54
  | 55, _ => exact w_P (pc' := 1556) (lv' := pLV) (st' := []) rfl (by decide) (by decide +kernel) (p_end (by decide))
  | 56, _ => exact w_P (pc' := 1556) (lv' := pLV) (st' := []) rfl (by decide) (by decide +kernel) (p_end (by decide))
  | 57, _ => exact w_P (pc' := 1556) (lv' := pLV) (st' := []) rfl (by decide) (by decide +kernel) (p_end (by decide))
  | 58, _ => exact w_P (pc' := 1556) (lv' := pLV) (st' := []) rfl (by decide) (by decide +kernel) (p_end (by decide))
  | 59, _ => exact w_P (pc' := 1556) (lv' := pLV) (st' := []) rfl (by decide) (by decide +kernel) (p_end (by decide))
  | 60, _ => exact w_P (pc' := 1556) (lv' := pLV) (st' := []) rfl (by decide) (by decide +kernel) (p_end (by decide))
  | 61, _ => exact w_P (pc' := 1556) (lv' := pLV) (st' := []) rfl (by decide) (by decide +kernel) (p_end (by decide))
  | 62, _ => exact w_P (pc' := 1556) (lv' := pLV) (st' := []) rfl (by decide) (by decide +kernel) (p_end (by decide))
  | 63, _ => exact w_P (pc' := 1556) (lv' := pLV) (st' := []) rfl (by decide) (by decide +kernel) (p_end (by decide))
  | n + 64, h => omega
theorem p_head6 {x0 x1 x2 x3 x4 x5 : Int32} : Wp (some [x0, x1, x2, x3, x4, x5]) 11 0 4 18 pLV [] TH0 1802 pQ := by
  refine w_P rfl (by decide) rfl ?_
  refine w_P rfl (by decide) rfl ?_
  refine w_R (pc' := 21) (st' := [.int 6, .int 0]) rfl (by decide) rfl ?_
  refine w_P (pc' := 23) (lv' := pLV) (st' := [.int 6, .int 6, .int 0]) rfl (by decide) (by decide +kernel) ?_
  refine w_P (pc' := 24) (lv' := pLV) (st' := [.int 0, .int 0]) rfl (by decide) (by decide +kernel) ?_
  refine w_P (pc' := 27) (lv' := pLV) (st' := []) rfl (by decide) (by decide +kernel) ?_
  refine w_P rfl (by decide) rfl ?_
  refine w_P rfl (by decide) rfl ?_
  refine w_R (st' := [.int x0]) rfl (by decide) rfl ?_
  have h63 : (Int8.ofInt 63).toInt32 = 63 := by decide +kernel
  refine w_P (pc' := 32) (lv' := pLV) (st' := [.int 63, .int x0]) rfl (by decide) (by rw [← h63]; rfl) ?_
  refine w_P rfl (by decide) rfl ?_
  exact p_sw rfl
theorem p_head0 {xs : List Int32} {z : Int32} (hz : Int32.ofNat xs.length - 6 = z) (hl : z < 0) : Wp (some xs) 11 0 4 18 pLV [] TH0 1802 pQ := by
  refine w_P rfl (by decide) rfl ?_
  refine w_P rfl (by decide) rfl ?_
  refine w_R (pc' := 21) (st' := [.int (Int32.ofNat xs.length), .int 0]) rfl (by decide) rfl ?_
  have h6 : (Int8.ofInt 6).toInt32 = 6 := by decide +kernel
  refine w_P (pc' := 23) (lv' := pLV) (st' := [.int 6, .int (Int32.ofNat xs.length), .int 0]) rfl (by decide) (by rw [← h6]; rfl) ?_
  refine w_P (pc' := 24) (lv' := pLV) (st' := [.int z, .int 0]) rfl (by decide) (by rw [← hz]; rfl) ?_
  refine w_P (pc' := 1562) (lv' := pLV) (st' := []) rfl (by decide) (by simp [t_P, t_i2, t_icmp, hl]) ?_
  refine w_P (st' := [.int 1]) rfl (by decide) rfl ?_
  exact w_ret rfl (by decide) rfl ⟨rfl, by decide⟩
theorem p_begin {xs : List Int32} (h : Wp (some xs) 11 0 4 18 pLV [] TH0 1802 pQ) : Wp (some xs) 11 0 4 0 [(0, .ref 1000)] [] [] 0 pQ := by
  refine w_A (add := [.inr (7, [.null, .null, .null, .null, .null, .null, .null, .null, .null, .null, .int 0])]) (n1 := 11) rfl (by decide) rfl rfl ?_
  refine w_P rfl (by decide) rfl ?_
  refine w_call (th' := THA) rfl (by decide) rfl rfl ⟨Nat.le_of_ble_eq_true rfl, Nat.le_of_ble_eq_true rfl⟩ p_newA (Or.inr rfl) ?_
  refine w_P (lv' := [(1, .ref 0), (0, .ref 1000)]) rfl (by decide) rfl ?_
  refine w_A (add := [.inr (8, [.null, .null, .null, .null, .null, .null, .null, .int 0, .null, .int 0, .int 0, .null, .null, .null, .int 0, .null, .int 0, .null, .null, .int 0, .int 0, .int 0, .int 0, .int 0, .null, .int 0, .null, .int 0, .int 0, .int 0, .int 0])]) (n1 := 31) (st' := [.ref 44]) rfl (by decide) rfl (by decide +kernel) ?_
  refine w_P rfl (by decide) rfl ?_
  refine w_call (th' := TH0) rfl (by decide) rfl rfl ⟨Nat.le_of_ble_eq_true rfl, Nat.le_of_ble_eq_true rfl⟩ p_newB (Or.inr (by decide +kernel)) ?_
  refine w_P (lv' := [(2, .ref 44), (1, .ref 0), (0, .ref 1000)]) rfl (by decide) rfl ?_
  refine w_P (st' := [.int 0]) rfl (by decide) rfl ?_
  refine w_P (lv' := pLV) rfl (by decide) rfl ?_
  exact h
theorem s_runs : s_Runs := by
  intro xs hL
  have key : Wp (some xs) 11 0 4 0 [(0, .ref 1000)] [] [] 0 pQ := by
    refine p_begin ?_
    match xs, hL with
    | [], _ => exact p_head0 (z := Int32.ofNat 0 - 6) rfl (by decide)
    | [_], _ => exact p_head0 (z := Int32.ofNat 1 - 6) rfl (by decide)
    | [_, _], _ => exact p_head0 (z := Int32.ofNat 2 - 6) rfl (by decide)
    | [_, _, _], _ => exact p_head0 (z := Int32.ofNat 3 - 6) rfl (by decide)
    | [_, _, _, _], _ => exact p_head0 (z := Int32.ofNat 4 - 6) rfl (by decide)
    | [_, _, _, _, _], _ => exact p_head0 (z := Int32.ofNat 5 - 6) rfl (by decide)
    | [_, _, _, _, _, _], _ => exact p_head6
    | _ :: _ :: _ :: _ :: _ :: _ :: _ :: t, h => simp at h
  obtain ⟨n, ⟨r, th', ns'⟩, h1, h2, h3⟩ := key
  have h2 : r = some (.int 1) := h2
  subst h2
  rw [f_ct, f_mi] at h1
  exact ⟨n, th', ns', h1, h3⟩
