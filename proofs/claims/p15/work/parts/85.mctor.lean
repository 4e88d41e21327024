/-! ===== the constructor of a model ===== -/
noncomputable def fs0 : List Value := [.null, .null, .null, .null, .null, .null, .null, .int 0, .null, .int 0, .int 0, .null, .null, .null, .int 0, .null, .int 0, .null, .null, .int 0, .int 0, .int 0, .int 0, .int 0, .null, .int 0, .null, .int 0, .int 0, .int 0, .int 0]
noncomputable def rI (n : Nat) : tE := .inl (0, .inl (List.replicate n 0))
noncomputable def rJ (n : Nat) : tE := .inl (1, .inr (.inl (List.replicate n 0)))
/-- a new model at a place -/
noncomputable def mcell (q : Nat) : tH := [
  .inr (8, [.ref (q + 1), .ref (q + 2), .ref (q + 3), .ref (q + 4), .ref (q + 13), .ref (q + 14), .ref (q + 15), .int 0, .ref (q + 16), .int (i3 5), .int 0, .ref (q + 17), .ref (q + 18), .ref (q + 19), .int 0, .ref (q + 20), .int (i3 1), .null, .null, .int 0, .int 0, .int 0, .int 0, .int 0, .ref (q + 21), .int 0, .ref (q + 22), .int 0, .int 0, .int 0, .int 0]),
  rI 8, rI 8, rI 8, .inl (3, .inr (.inr [some (q + 5), some (q + 6), some (q + 7), some (q + 8), some (q + 9), some (q + 10), some (q + 11), some (q + 12)])), rJ 40, rJ 40, rJ 40, rJ 40, rJ 40, rJ 40, rJ 40, rJ 40, rJ 40, rI 8, rI 250, rI 8, rI 12, rI 12, rI 12, rI 8, rI 3, rI 70]
theorem all_rep {N m : Nat} : (List.replicate m (rJ 40)).all (t_oke N) = true := List.all_eq_true.mpr (fun v hv => by rw [(List.mem_replicate.mp hv).2]; rfl)
set_option maxRecDepth 20000 in
theorem new_M {d : Nat} {th : tH} (hok : t_okh th.length th = true) (hb : th.length + 23 ≤ 1000) : Wp none (d + 1) 188 1 0 [(0, .ref th.length)] [] (th ++ [.inr (8, fs0)]) 0 (fun res => res = (none, th ++ mcell th.length, 775)) := by
  have c8 : (Int8.ofInt 8).toInt32 = i3 ((8 : Nat) : Int) := by decide +kernel
  have c12 : (Int8.ofInt 12).toInt32 = i3 ((12 : Nat) : Int) := by decide +kernel
  have c40 : (Int8.ofInt 40).toInt32 = i3 ((40 : Nat) : Int) := by decide +kernel
  have c70 : (Int8.ofInt 70).toInt32 = i3 ((70 : Nat) : Int) := by decide +kernel
  have c250 : (Int16.ofInt 250).toInt32 = i3 ((250 : Nat) : Int) := by decide +kernel
  have h0 : nOK th fs0 [] := by
    unfold nOK
    refine okh_app (okh_m (by omega) hok) ?_
    rfl
  refine w_P rfl (by decide) rfl ?_
  refine w_O rfl (by decide) ?_
  refine w_P rfl (by decide) rfl ?_
  refine w_P rfl (by decide) rfl ?_
  refine n_I (pc2 := 7) (q := 7) (k := 0) (n := 8) c8 (by omega) h0 (by show th.length + 1 + 0 + 1 ≤ 1000; omega) rfl rfl (Nat.le_of_ble_eq_true rfl) (fun h1 => ?_)
  refine w_P rfl (by decide) rfl ?_
  refine w_P rfl (by decide) rfl ?_
  refine n_I (pc2 := 15) (q := 13) (k := 1) (n := 8) c8 (by omega) h1 (by show th.length + 1 + 1 + 1 ≤ 1000; omega) rfl rfl (Nat.le_of_ble_eq_true rfl) (fun h2 => ?_)
  refine w_P rfl (by decide) rfl ?_
  refine w_P rfl (by decide) rfl ?_
  refine n_I (pc2 := 23) (q := 16) (k := 2) (n := 8) c8 (by omega) h2 (by show th.length + 1 + 2 + 1 ≤ 1000; omega) rfl rfl (Nat.le_of_ble_eq_true rfl) (fun h3 => ?_)
  refine w_P rfl (by decide) rfl ?_
  refine w_P rfl (by decide) rfl ?_
  refine w_P rfl (by decide) rfl ?_
  refine n_gen (pc2 := 33) (pc3 := 37) (q := 21) (k := 3) (n := 328) (cat := 18) (a1 := 0) (ins := .multianewarray 19 2) (add := .inl (3, .inr (.inr [some (th.length + 5), some (th.length + 6), some (th.length + 7), some (th.length + 8), some (th.length + 9), some (th.length + 10), some (th.length + 11), some (th.length + 12)])) :: List.replicate 8 (rJ 40)) h3 (by show th.length + 1 + 3 + 9 ≤ 1000; omega) rfl (by decide) ?_ ?_ rfl (Nat.le_of_ble_eq_true rfl) ?_ (Nat.le_of_ble_eq_true rfl) (fun h4 => ?_)
  · show (true && (true && ((decide (th.length < th.length + 1 + 3) || decide (1000 ≤ th.length)) && true))) = true
    simp only [Bool.true_and, Bool.and_true, Bool.or_eq_true, decide_eq_true_eq]
    omega
  · rw [c8, c40]
    rfl
  · show (t_oke (th.length + 1 + 12) _ && (List.replicate 8 (rJ 40)).all (t_oke _)) = true
    rw [all_rep, Bool.and_true]
    show ([some (th.length + 5), some (th.length + 6), some (th.length + 7), some (th.length + 8), some (th.length + 9), some (th.length + 10), some (th.length + 11), some (th.length + 12)] : List (Option Nat)).all (t_oko (th.length + 1 + 12)) = true
    simp only [List.all_cons, List.all_nil, Bool.and_true, t_oko, Bool.and_eq_true, Bool.or_eq_true, decide_eq_true_eq]
    omega
  refine w_P rfl (by decide) rfl ?_
  refine w_P rfl (by decide) rfl ?_
  refine n_J (pc2 := 43) (q := 24) (k := 4) (n := 40) c40 (by omega) h4 (by show th.length + 1 + 12 + 1 ≤ 1000; omega) rfl rfl (Nat.le_of_ble_eq_true rfl) (fun h5 => ?_)
  refine w_P rfl (by decide) rfl ?_
  refine w_P rfl (by decide) rfl ?_
  refine n_I (pc2 := 51) (q := 28) (k := 5) (n := 8) c8 (by omega) h5 (by show th.length + 1 + 13 + 1 ≤ 1000; omega) rfl rfl (Nat.le_of_ble_eq_true rfl) (fun h6 => ?_)
  refine w_P rfl (by decide) rfl ?_
  refine w_P rfl (by decide) rfl ?_
  refine n_I (pc2 := 60) (q := 31) (k := 6) (n := 250) c250 (by omega) h6 (by show th.length + 1 + 14 + 1 ≤ 1000; omega) rfl rfl (Nat.le_of_ble_eq_true rfl) (fun h7 => ?_)
  refine w_P rfl (by decide) rfl ?_
  refine w_P rfl (by decide) rfl ?_
  refine n_I (pc2 := 68) (q := 34) (k := 8) (n := 8) c8 (by omega) h7 (by show th.length + 1 + 15 + 1 ≤ 1000; omega) rfl rfl (Nat.le_of_ble_eq_true rfl) (fun h8 => ?_)
  refine w_P rfl (by decide) rfl ?_
  refine w_P rfl (by decide) rfl ?_
  refine n_F (pc2 := 75) (q := 37) (k := 9) h8 rfl (Nat.le_of_ble_eq_true rfl) (fun h9 => ?_)
  refine w_P rfl (by decide) rfl ?_
  refine w_P rfl (by decide) rfl ?_
  refine n_I (pc2 := 81) (q := 41) (k := 11) (n := 12) c12 (by omega) h9 (by show th.length + 1 + 16 + 1 ≤ 1000; omega) rfl rfl (Nat.le_of_ble_eq_true rfl) (fun h10 => ?_)
  refine w_P rfl (by decide) rfl ?_
  refine w_P rfl (by decide) rfl ?_
  refine n_I (pc2 := 89) (q := 44) (k := 12) (n := 12) c12 (by omega) h10 (by show th.length + 1 + 17 + 1 ≤ 1000; omega) rfl rfl (Nat.le_of_ble_eq_true rfl) (fun h11 => ?_)
  refine w_P rfl (by decide) rfl ?_
  refine w_P rfl (by decide) rfl ?_
  refine n_I (pc2 := 97) (q := 47) (k := 13) (n := 12) c12 (by omega) h11 (by show th.length + 1 + 18 + 1 ≤ 1000; omega) rfl rfl (Nat.le_of_ble_eq_true rfl) (fun h12 => ?_)
  refine w_P rfl (by decide) rfl ?_
  refine w_P rfl (by decide) rfl ?_
  refine n_I (pc2 := 105) (q := 50) (k := 15) (n := 8) c8 (by omega) h12 (by show th.length + 1 + 19 + 1 ≤ 1000; omega) rfl rfl (Nat.le_of_ble_eq_true rfl) (fun h13 => ?_)
  refine w_P rfl (by decide) rfl ?_
  refine w_P rfl (by decide) rfl ?_
  refine n_F (pc2 := 112) (q := 53) (k := 16) h13 rfl (Nat.le_of_ble_eq_true rfl) (fun h14 => ?_)
  refine w_P rfl (by decide) rfl ?_
  refine w_P rfl (by decide) rfl ?_
  refine n_I (pc2 := 117) (q := 56) (k := 24) (n := 3) rfl (by omega) h14 (by show th.length + 1 + 20 + 1 ≤ 1000; omega) rfl rfl (Nat.le_of_ble_eq_true rfl) (fun h15 => ?_)
  refine w_P rfl (by decide) rfl ?_
  refine w_P rfl (by decide) rfl ?_
  refine n_I (pc2 := 125) (q := 59) (k := 26) (n := 70) c70 (by omega) h15 (by show th.length + 1 + 21 + 1 ≤ 1000; omega) rfl rfl (Nat.le_of_ble_eq_true rfl) (fun h16 => ?_)
  exact w_ret (r := none) rfl (by decide) rfl rfl
