section
/-! ===== a new model beside ===== -/
section WN
variable {xo : Option (List Int32)} {d i nL pc cat a1 a2 pc' : Nat} {ins : Instr} {lv lv' : tL} {st st' : List Value} {th : tH} {ns : Nat} {Q : t_Res → Prop}
theorem w_W {th2 : tH} (hc : t_ctf i pc = some (cat, ins, a1, a2)) (h3 : ¬ cat < 3 ∧ ¬ cat < 8 ∧ cat < 15) (hp : t_W cat ins pc a1 a2 st th = some (pc', st', th2)) (k : Wp xo (d + 1) i nL pc' lv st' th2 ns Q) : Wp xo (d + 1) i nL pc lv st th ns Q := by
  obtain ⟨n, res, h1, h2⟩ := k
  refine ⟨n + 1, res, ?_, h2⟩
  rw [t_exec_s]
  unfold t_step
  rw [hc]
  dsimp only
  rw [if_neg h3.1, if_neg h3.2.1, if_pos h3.2.2, hp]
  exact h1
theorem w_O {b : Nat} {r : List Value} (hc : t_ctf i pc = some (26, ins, a1, a2)) (h8 : t_sum r ≤ 8) (k : Wp xo (d + 1) i nL (pc + 3) lv r th ns Q) : Wp xo (d + 1) i nL pc lv (.ref b :: r) th ns Q := by
  obtain ⟨n, res, h1, h2⟩ := k
  refine ⟨n + 1, res, ?_, h2⟩
  rw [t_exec_s]
  unfold t_step
  rw [hc]
  dsimp only
  rw [if_neg (by omega), if_neg (by omega), if_neg (by omega), if_neg (by omega), if_pos (by omega), if_pos rfl, if_pos h8]
  exact h1
end WN
theorem okv_m {n m : Nat} (h : n ≤ m) {v : Value} (hv : t_okv n v = true) : t_okv m v = true := by
  cases v <;> try rfl
  simp only [t_okv, Bool.or_eq_true, decide_eq_true_eq] at hv ⊢
  rcases hv with e | e
  · exact Or.inl (Nat.lt_of_lt_of_le e h)
  · exact Or.inr e
theorem oko_m {n m : Nat} (h : n ≤ m) {v : Option Nat} (hv : t_oko n v = true) : t_oko m v = true := by
  cases v with
  | none => rfl
  | some k =>
    simp only [t_oko, Bool.or_eq_true, decide_eq_true_eq] at hv ⊢
    rcases hv with e | e
    · exact Or.inl (Nat.lt_of_lt_of_le e h)
    · exact Or.inr e
theorem oke_m {n m : Nat} (h : n ≤ m) {e : tE} (he : t_oke n e = true) : t_oke m e = true := by
  rcases e with ⟨k, a | b | c⟩ | ⟨k, fs⟩
  · rfl
  · rfl
  · exact List.all_eq_true.mpr (fun v hv => oko_m h (List.all_eq_true.mp he v hv))
  · exact List.all_eq_true.mpr (fun v hv => okv_m h (List.all_eq_true.mp he v hv))
theorem okh_m {n m : Nat} (h : n ≤ m) {th : tH} (he : t_okh n th = true) : t_okh m th = true := List.all_eq_true.mpr (fun v hv => oke_m h (List.all_eq_true.mp he v hv))
theorem okh_app {n : Nat} {a b : tH} (h1 : t_okh n a = true) (h2 : t_okh n b = true) : t_okh n (a ++ b) = true := by
  unfold t_okh at *
  rw [List.all_append, h1, h2]
  rfl
theorem get_app {th : tH} {e : tE} {zs : tH} : (th ++ e :: zs)[th.length]? = some e := by
  rw [List.getElem?_append_right (Nat.le_refl _), Nat.sub_self]
  rfl
theorem set_app {th : tH} {e e' : tE} {zs : tH} : (th ++ e :: zs).set th.length e' = th ++ e' :: zs := by
  rw [List.set_append_right _ _ (Nat.le_refl _), Nat.sub_self]
  rfl
/-- the cells are in order, and the new object among them -/
noncomputable def nOK (th : tH) (fs : List Value) (zs : tH) : Prop := t_okh (th.length + 1 + zs.length) (th ++ .inr (8, fs) :: zs) = true
theorem nOK.all {th : tH} {fs : List Value} {zs : tH} (h : nOK th fs zs) : t_okh (th.length + 1 + zs.length) th = true ∧ fs.all (t_okv (th.length + 1 + zs.length)) = true ∧ t_okh (th.length + 1 + zs.length) zs = true := by
  unfold nOK t_okh at h
  rw [List.all_append, List.all_cons, Bool.and_eq_true, Bool.and_eq_true] at h
  exact ⟨h.1, h.2.1, h.2.2⟩
theorem nOK.set {th : tH} {fs : List Value} {zs add : tH} (h : nOK th fs zs) {k : Nat} (hadd : t_okh (th.length + 1 + (zs ++ add).length) add = true) (ha : 0 < add.length) : nOK th (fs.set k (.ref (th.length + 1 + zs.length))) (zs ++ add) := by
  obtain ⟨h1, h2, h3⟩ := h.all
  have le : th.length + 1 + zs.length ≤ th.length + 1 + (zs ++ add).length := by rw [List.length_append]; omega
  have a1 := okh_m le h1
  have a3 := okh_m le h3
  unfold nOK
  refine okh_app a1 ?_
  show (t_oke _ _ && t_okh _ (zs ++ add)) = true
  rw [okh_app a3 hadd, Bool.and_true]
  refine List.all_eq_true.mpr (fun v hv => ?_)
  rcases List.mem_or_eq_of_mem_set hv with e | e
  · exact okv_m le (List.all_eq_true.mp h2 v e)
  · rw [e]
    simp only [t_okv, Bool.or_eq_true, decide_eq_true_eq]
    left
    show th.length + 1 + zs.length < th.length + 1 + (zs ++ add).length
    rw [List.length_append]
    omega
theorem nOK.int {th : tH} {fs : List Value} {zs : tH} (h : nOK th fs zs) {k : Nat} {x : Int32} : nOK th (fs.set k (.int x)) zs := by
  obtain ⟨h1, h2, h3⟩ := h.all
  unfold nOK
  refine okh_app h1 ?_
  show (t_oke _ _ && t_okh _ zs) = true
  rw [h3, Bool.and_true]
  refine List.all_eq_true.mpr (fun v hv => ?_)
  rcases List.mem_or_eq_of_mem_set hv with e | e
  · exact List.all_eq_true.mp h2 v e
  · rw [e]
    rfl
section NW
variable {d ns : Nat} {th : tH} {fs : List Value} {zs : tH} {Q : t_Res → Prop}
/-- cells are made, and their first goes into a field -/
theorem n_gen {pc2 pc3 q k n cat a1 : Nat} {ins : Instr} {st : List Value} {add : tH} (h : nOK th fs zs) (hb : th.length + 1 + zs.length + add.length ≤ 1000) (hcA : t_ctf 188 pc2 = some (cat, ins, a1, 0)) (hcat : ¬ cat < 3 ∧ ¬ cat < 8 ∧ ¬ cat < 15 ∧ cat < 20) (hst : st.all (t_okv (th.length + 1 + zs.length)) = true) (hA : t_A ins pc2 a1 st (th.length + 1 + zs.length) = some (pc3, [.ref (th.length + 1 + zs.length), .ref th.length], add, n)) (hcP : t_ctf 188 pc3 = some (11, .putfield q, 8, k)) (hk : k < fs.length) (hadd : t_okh (th.length + 1 + (zs ++ add).length) add = true) (ha : 0 < add.length) (kk : nOK th (fs.set k (.ref (th.length + 1 + zs.length))) (zs ++ add) → Wp none (d + 1) 188 1 (pc3 + 3) [(0, .ref th.length)] [] (th ++ .inr (8, fs.set k (.ref (th.length + 1 + zs.length))) :: (zs ++ add)) (ns + n) Q) : Wp none (d + 1) 188 1 pc2 [(0, .ref th.length)] st (th ++ .inr (8, fs) :: zs) ns Q := by
  have hl : (th ++ .inr (8, fs) :: zs).length = th.length + 1 + zs.length := by
    rw [List.length_append, List.length_cons]; omega
  refine w_A (add := add) (n1 := n) (pc' := pc3) (st' := [.ref (th.length + 1 + zs.length), .ref th.length]) hcA hcat (by rw [hl]; exact hA) ?_ ?_
  · rw [hl]
    have h' : t_okh (th.length + 1 + zs.length) (th ++ .inr (8, fs) :: zs) = true := h
    rw [h', hst]
    have e1 : t_okl (th.length + 1 + zs.length) [(0, .ref th.length)] = true := by
      simp only [t_okl, List.all_cons, List.all_nil, Bool.and_true, t_okv, Bool.or_eq_true, decide_eq_true_eq]
      left
      show th.length < th.length + 1 + zs.length
      omega
    rw [e1]
    simp only [Bool.true_and, decide_eq_true_eq]
    exact hb
  · refine w_W (pc' := pc3 + 3) (st' := []) (th2 := th ++ .inr (8, fs.set k (.ref (th.length + 1 + zs.length))) :: (zs ++ add)) hcP (by decide) ?_ (kk (h.set hadd ha))
    rw [List.append_assoc, List.cons_append]
    generalize hFS : (.inr (8, fs) : tE) = FS
    show (match (th ++ FS :: (zs ++ add))[th.length]? with
      | some (.inr (c, fs)) => if c = 8 ∧ k < fs.length ∧ t_fit 11 (.ref (th.length + 1 + zs.length)) = true then some (pc3 + 3, [], (th ++ FS :: (zs ++ add)).set th.length (.inr (c, fs.set k (.ref (th.length + 1 + zs.length))))) else none
      | _ => none) = _
    rw [get_app, ← hFS]
    dsimp only
    rw [if_pos ⟨rfl, hk, rfl⟩, set_app]
theorem n_I {pc2 q k n : Nat} {z : Int32} (hz : z = i3 (n : Int)) (hn : n ≤ 1000) (h : nOK th fs zs) (hb : th.length + 1 + zs.length + 1 ≤ 1000) (hcA : t_ctf 188 pc2 = some (16, .newarray .int, 0, 0)) (hcP : t_ctf 188 (pc2 + 2) = some (11, .putfield q, 8, k)) (hk : k < fs.length) (kk : nOK th (fs.set k (.ref (th.length + 1 + zs.length))) (zs ++ [.inl (0, .inl (List.replicate n 0))]) → Wp none (d + 1) 188 1 (pc2 + 5) [(0, .ref th.length)] [] (th ++ .inr (8, fs.set k (.ref (th.length + 1 + zs.length))) :: (zs ++ [.inl (0, .inl (List.replicate n 0))])) (ns + n) Q) : Wp none (d + 1) 188 1 pc2 [(0, .ref th.length)] [.int z, .ref th.length] (th ++ .inr (8, fs) :: zs) ns Q := by
  refine n_gen (n := n) (add := [.inl (0, .inl (List.replicate n 0))]) h hb hcA (by decide) ?_ ?_ hcP hk rfl (Nat.zero_lt_one) kk
  · simp only [List.all_cons, List.all_nil, t_okv, Bool.true_and, Bool.and_true, Bool.or_eq_true, decide_eq_true_eq]
    left
    show th.length < th.length + 1 + zs.length
    omega
  · rw [hz]
    show (if ¬ i3 (n : Int) < 0 ∧ (i3 (n : Int)).toNatClampNeg ≤ 1000 then _ else none) = _
    rw [cl_i3 (by omega), if_pos ⟨i3n_nneg (by omega), hn⟩]
theorem n_J {pc2 q k n : Nat} {z : Int32} (hz : z = i3 (n : Int)) (hn : n ≤ 1000) (h : nOK th fs zs) (hb : th.length + 1 + zs.length + 1 ≤ 1000) (hcA : t_ctf 188 pc2 = some (16, .newarray .long, 0, 0)) (hcP : t_ctf 188 (pc2 + 2) = some (11, .putfield q, 8, k)) (hk : k < fs.length) (kk : nOK th (fs.set k (.ref (th.length + 1 + zs.length))) (zs ++ [.inl (1, .inr (.inl (List.replicate n 0)))]) → Wp none (d + 1) 188 1 (pc2 + 5) [(0, .ref th.length)] [] (th ++ .inr (8, fs.set k (.ref (th.length + 1 + zs.length))) :: (zs ++ [.inl (1, .inr (.inl (List.replicate n 0)))])) (ns + n) Q) : Wp none (d + 1) 188 1 pc2 [(0, .ref th.length)] [.int z, .ref th.length] (th ++ .inr (8, fs) :: zs) ns Q := by
  refine n_gen (n := n) (add := [.inl (1, .inr (.inl (List.replicate n 0)))]) h hb hcA (by decide) ?_ ?_ hcP hk rfl (Nat.zero_lt_one) kk
  · simp only [List.all_cons, List.all_nil, t_okv, Bool.true_and, Bool.and_true, Bool.or_eq_true, decide_eq_true_eq]
    left
    show th.length < th.length + 1 + zs.length
    omega
  · rw [hz]
    show (if ¬ i3 (n : Int) < 0 ∧ (i3 (n : Int)).toNatClampNeg ≤ 1000 then _ else none) = _
    rw [cl_i3 (by omega), if_pos ⟨i3n_nneg (by omega), hn⟩]
/-- an int goes into a field -/
theorem n_F {pc2 q k : Nat} {z : Int32} (h : nOK th fs zs) (hcP : t_ctf 188 pc2 = some (8, .putfield q, 8, k)) (hk : k < fs.length) (kk : nOK th (fs.set k (.int z)) zs → Wp none (d + 1) 188 1 (pc2 + 3) [(0, .ref th.length)] [] (th ++ .inr (8, fs.set k (.int z)) :: zs) ns Q) : Wp none (d + 1) 188 1 pc2 [(0, .ref th.length)] [.int z, .ref th.length] (th ++ .inr (8, fs) :: zs) ns Q := by
  refine w_W (pc' := pc2 + 3) (st' := []) (th2 := th ++ .inr (8, fs.set k (.int z)) :: zs) hcP (by decide) ?_ (kk h.int)
  generalize hFS : (.inr (8, fs) : tE) = FS
  show (match (th ++ FS :: zs)[th.length]? with
    | some (.inr (c, fs)) => if c = 8 ∧ k < fs.length ∧ t_fit 8 (.int z) = true then some (pc2 + 3, [], (th ++ FS :: zs).set th.length (.inr (c, fs.set k (.int z)))) else none
    | _ => none) = _
  rw [get_app, ← hFS]
  dsimp only
  rw [if_pos ⟨rfl, hk, rfl⟩, set_app]
end NW
end
section
/-! ===== the constructor of a model ===== -/
noncomputable def fs0 : List Value := [.null, .null, .null, .null, .null, .null, .null, .int 0, .null, .int 0, .int 0, .null, .null, .null, .int 0, .null, .int 0, .null, .null, .int 0, .int 0, .int 0, .int 0, .int 0, .null, .int 0, .null, .int 0, .int 0, .int 0, .int 0]
noncomputable def rI (n : Nat) : tE := .inl (0, .inl (List.replicate n 0))
noncomputable def rJ (n : Nat) : tE := .inl (1, .inr (.inl (List.replicate n 0)))
/-- a new model at a place -/
noncomputable def mcell (q : Nat) : tH := [
  .inr (8, [.ref (q + 1), .ref (q + 2), .ref (q + 3), .ref (q + 4), .ref (q + 13), .ref (q + 14), .ref (q + 15), .int 0, .ref (q + 16), .int (i3 5), .int 0, .ref (q + 17), .ref (q + 18), .ref (q + 19), .int 0, .ref (q + 20), .int (i3 1), .null, .null, .int 0, .int 0, .int 0, .int 0, .int 0, .ref (q + 21), .int 0, .ref (q + 22), .int 0, .int 0, .int 0, .int 0]),
  rI 8, rI 8, rI 8, .inl (3, .inr (.inr [some (q + 5), some (q + 6), some (q + 7), some (q + 8), some (q + 9), some (q + 10), some (q + 11), some (q + 12)])), rJ 40, rJ 40, rJ 40, rJ 40, rJ 40, rJ 40, rJ 40, rJ 40, rJ 40, rI 8, rI 250, rI 8, rI 12, rI 12, rI 12, rI 8, rI 3, rI 70]
theorem all_rep {N m : Nat} : (List.replicate m (rJ 40)).all (t_oke N) = true := List.all_eq_true.mpr (fun v hv => by rw [(List.mem_replicate.mp hv).2]; rfl)
set_option maxRecDepth 20000 in
theorem new_M {d : Nat} {th : tH} (hok : t_okh th.length th = true) (hb : th.length + 23 ≤ 1000) : Wp none (d + 1) 188 1 0 [(0, .ref th.length)] [] (th ++ [.inr (8, fs0)]) 0 (fun res => res = (none, th ++ mcell th.length, 775)) := by
  have c8 : (Int8.ofInt 8).toInt32 = i3 ((8 : Nat) : Int) := by decide +kernel
  have c12 : (Int8.ofInt 12).toInt32 = i3 ((12 : Nat) : Int) := by decide +kernel
  have c40 : (Int8.ofInt 40).toInt32 = i3 ((40 : Nat) : Int) := by decide +kernel
  have c70 : (Int8.ofInt 70).toInt32 = i3 ((70 : Nat) : Int) := by decide +kernel
  have c250 : (Int16.ofInt 250).toInt32 = i3 ((250 : Nat) : Int) := by decide +kernel
  have h0 : nOK th fs0 [] := by
    unfold nOK
    refine okh_app (okh_m (by omega) hok) ?_
    rfl
  refine w_P rfl (by decide) rfl ?_
  refine w_O rfl (by decide) ?_
  refine w_P rfl (by decide) rfl ?_
  refine w_P rfl (by decide) rfl ?_
  refine n_I (pc2 := 7) (q := 7) (k := 0) (n := 8) c8 (by omega) h0 (by show th.length + 1 + 0 + 1 ≤ 1000; omega) rfl rfl (by (try simp only [List.length_set]); decide) (fun h1 => ?_)
  refine w_P rfl (by decide) rfl ?_
  refine w_P rfl (by decide) rfl ?_
  refine n_I (pc2 := 15) (q := 13) (k := 1) (n := 8) c8 (by omega) h1 (by show th.length + 1 + 1 + 1 ≤ 1000; omega) rfl rfl (by (try simp only [List.length_set]); decide) (fun h2 => ?_)
  refine w_P rfl (by decide) rfl ?_
  refine w_P rfl (by decide) rfl ?_
  refine n_I (pc2 := 23) (q := 16) (k := 2) (n := 8) c8 (by omega) h2 (by show th.length + 1 + 2 + 1 ≤ 1000; omega) rfl rfl (by (try simp only [List.length_set]); decide) (fun h3 => ?_)
  refine w_P rfl (by decide) rfl ?_
  refine w_P rfl (by decide) rfl ?_
  refine w_P rfl (by decide) rfl ?_
  refine n_gen (pc2 := 33) (pc3 := 37) (q := 21) (k := 3) (n := 328) (cat := 18) (a1 := 0) (ins := .multianewarray 19 2) (add := .inl (3, .inr (.inr [some (th.length + 5), some (th.length + 6), some (th.length + 7), some (th.length + 8), some (th.length + 9), some (th.length + 10), some (th.length + 11), some (th.length + 12)])) :: List.replicate 8 (rJ 40)) h3 (by show th.length + 1 + 3 + 9 ≤ 1000; omega) rfl (by decide) ?_ ?_ rfl (Nat.le_of_ble_eq_true rfl) ?_ (Nat.le_of_ble_eq_true rfl) (fun h4 => ?_)
  · show (true && (true && ((decide (th.length < th.length + 1 + 3) || decide (1000 ≤ th.length)) && true))) = true
    simp only [Bool.true_and, Bool.and_true, Bool.or_eq_true, decide_eq_true_eq]
    omega
  · rw [c8, c40]
    rfl
  · show (t_oke (th.length + 1 + 12) _ && (List.replicate 8 (rJ 40)).all (t_oke _)) = true
    rw [all_rep, Bool.and_true]
    show ([some (th.length + 5), some (th.length + 6), some (th.length + 7), some (th.length + 8), some (th.length + 9), some (th.length + 10), some (th.length + 11), some (th.length + 12)] : List (Option Nat)).all (t_oko (th.length + 1 + 12)) = true
    simp only [List.all_cons, List.all_nil, Bool.and_true, t_oko, Bool.and_eq_true, Bool.or_eq_true, decide_eq_true_eq]
    omega
  refine w_P rfl (by decide) rfl ?_
  refine w_P rfl (by decide) rfl ?_
  refine n_J (pc2 := 43) (q := 24) (k := 4) (n := 40) c40 (by omega) h4 (by show th.length + 1 + 12 + 1 ≤ 1000; omega) rfl rfl (by (try simp only [List.length_set]); decide) (fun h5 => ?_)
  refine w_P rfl (by decide) rfl ?_
  refine w_P rfl (by decide) rfl ?_
  refine n_I (pc2 := 51) (q := 28) (k := 5) (n := 8) c8 (by omega) h5 (by show th.length + 1 + 13 + 1 ≤ 1000; omega) rfl rfl (by (try simp only [List.length_set]); decide) (fun h6 => ?_)
  refine w_P rfl (by decide) rfl ?_
  refine w_P rfl (by decide) rfl ?_
  refine n_I (pc2 := 60) (q := 31) (k := 6) (n := 250) c250 (by omega) h6 (by show th.length + 1 + 14 + 1 ≤ 1000; omega) rfl rfl (by (try simp only [List.length_set]); decide) (fun h7 => ?_)
  refine w_P rfl (by decide) rfl ?_
  refine w_P rfl (by decide) rfl ?_
  refine n_I (pc2 := 68) (q := 34) (k := 8) (n := 8) c8 (by omega) h7 (by show th.length + 1 + 15 + 1 ≤ 1000; omega) rfl rfl (by (try simp only [List.length_set]); decide) (fun h8 => ?_)
  refine w_P rfl (by decide) rfl ?_
  refine w_P rfl (by decide) rfl ?_
  refine n_F (pc2 := 75) (q := 37) (k := 9) h8 rfl (by (try simp only [List.length_set]); decide) (fun h9 => ?_)
  refine w_P rfl (by decide) rfl ?_
  refine w_P rfl (by decide) rfl ?_
  refine n_I (pc2 := 81) (q := 41) (k := 11) (n := 12) c12 (by omega) h9 (by show th.length + 1 + 16 + 1 ≤ 1000; omega) rfl rfl (by (try simp only [List.length_set]); decide) (fun h10 => ?_)
  refine w_P rfl (by decide) rfl ?_
  refine w_P rfl (by decide) rfl ?_
  refine n_I (pc2 := 89) (q := 44) (k := 12) (n := 12) c12 (by omega) h10 (by show th.length + 1 + 17 + 1 ≤ 1000; omega) rfl rfl (by (try simp only [List.length_set]); decide) (fun h11 => ?_)
  refine w_P rfl (by decide) rfl ?_
  refine w_P rfl (by decide) rfl ?_
  refine n_I (pc2 := 97) (q := 47) (k := 13) (n := 12) c12 (by omega) h11 (by show th.length + 1 + 18 + 1 ≤ 1000; omega) rfl rfl (by (try simp only [List.length_set]); decide) (fun h12 => ?_)
  refine w_P rfl (by decide) rfl ?_
  refine w_P rfl (by decide) rfl ?_
  refine n_I (pc2 := 105) (q := 50) (k := 15) (n := 8) c8 (by omega) h12 (by show th.length + 1 + 19 + 1 ≤ 1000; omega) rfl rfl (by (try simp only [List.length_set]); decide) (fun h13 => ?_)
  refine w_P rfl (by decide) rfl ?_
  refine w_P rfl (by decide) rfl ?_
  refine n_F (pc2 := 112) (q := 53) (k := 16) h13 rfl (by (try simp only [List.length_set]); decide) (fun h14 => ?_)
  refine w_P rfl (by decide) rfl ?_
  refine w_P rfl (by decide) rfl ?_
  refine n_I (pc2 := 117) (q := 56) (k := 24) (n := 3) rfl (by omega) h14 (by show th.length + 1 + 20 + 1 ≤ 1000; omega) rfl rfl (by (try simp only [List.length_set]); decide) (fun h15 => ?_)
  refine w_P rfl (by decide) rfl ?_
  refine w_P rfl (by decide) rfl ?_
  refine n_I (pc2 := 125) (q := 59) (k := 26) (n := 70) c70 (by omega) h15 (by show th.length + 1 + 21 + 1 ≤ 1000; omega) rfl rfl (by (try simp only [List.length_set]); decide) (fun h16 => ?_)
  refine w_ret (r := none) rfl (by decide) rfl ?_
  simp only [fs0, List.set_cons_zero, List.set_cons_succ]
  rfl
end
section
/-! ===== models beside: kept, tried ===== -/
noncomputable def rp (n : Nat) : List Int32 := List.replicate n 0
noncomputable def rpJ : List Int64 := List.replicate 40 0
/-- a new model at a place -/
noncomputable def nw (s : St) (q : Nat) : St := (fun p => if p = q + 1 then rp 8 else if p = q + 2 then rp 8 else if p = q + 3 then rp 8 else if p = q + 14 then rp 8 else if p = q + 15 then rp 250 else if p = q + 16 then rp 8 else if p = q + 17 then rp 12 else if p = q + 18 then rp 12 else if p = q + 19 then rp 12 else if p = q + 20 then rp 8 else if p = q + 21 then rp 3 else if p = q + 22 then rp 70 else s.1 p, fun p => if q + 5 ≤ p ∧ p ≤ q + 13 then rpJ else s.2.1 p, fun o k => if o = q then (if k = 9 then i3 5 else if k = 16 then i3 1 else 0) else s.2.2.1 o k, s.2.2.2.1, s.2.2.2.2.1, s.2.2.2.2.2 + 1)
noncomputable def sK (s : St) (o : Nat) : St := (s.1, s.2.1, s.2.2.1, some o, s.2.2.2.2.1, s.2.2.2.2.2)
noncomputable def sT (s : St) (o : Nat) : St := (s.1, s.2.1, s.2.2.1, s.2.2.2.1, some o, s.2.2.2.2.2)
set_option maxRecDepth 20000 in
theorem H_nw0 (s : St) (h : nm s = 0) : H s ++ mcell 67 = H (nw s 67) := by
  obtain ⟨a, b, c, k, t, n⟩ := s
  have h' : n = 0 := h
  subst h'
  rfl
set_option maxRecDepth 20000 in
theorem H_nw1 (s : St) (h : nm s = 1) : H s ++ mcell 90 = H (nw s 90) := by
  obtain ⟨a, b, c, k, t, n⟩ := s
  have h' : n = 1 := h
  subst h'
  rfl
theorem H_ln (s : St) (h : nm s ≤ 2) : (H s).length = 67 + 23 * nm s := by
  rw [H_len]
  obtain ⟨a, b, c, k, t, n⟩ := s
  have h' : n ≤ 2 := h
  match n, h' with
  | 0, _ => rfl
  | 1, _ => rfl
  | 2, _ => rfl
set_option maxRecDepth 20000 in
theorem okH {s : St} (c : KT s) (h : nm s ≤ 1) : t_okh (H s).length (H s) = true := by
  obtain ⟨a, b, d, k, t, n⟩ := s
  rcases c with ⟨e1, e2, e3⟩ | ⟨e1, e2, e3⟩ | ⟨e1, e2, e3⟩ | ⟨e1, e2, e3⟩ | ⟨e1, e2, e3⟩
  · have e1' : n = 0 := e1
    have e2' : k = none := e2
    have e3' : t = none := e3
    subst e1' e2' e3'
    rfl
  · have e1' : n = 1 := e1
    have e2' : k = some 67 := e2
    have e3' : t = none := e3
    subst e1' e2' e3'
    rfl
  · have e1' : n = 1 := e1
    have e2' : k = none := e2
    have e3' : t = some 67 := e3
    subst e1' e2' e3'
    rfl
  · rw [e1] at h; omega
  · rw [e1] at h; omega
theorem Wx.run {ρ : Type} {L : Nat} {emb : ρ → Option Value × tH} {d i nL : Nat} {lv : tL} {th : tH} {m : Option ρ} {x : ρ} (h : Wx L emb d i nL 0 lv [] th m) (hl : th.length = L) (hL : L ≤ 1000) (hm : m = some x) (hnd : (lv.map Prod.fst).Nodup) : (emb x).2.length = L ∧ ∃ n, t_exec t_ctf t_mif n none d i nL 0 lv [] th 0 = some ((emb x).1, (emb x).2, 0) := by
  obtain ⟨h1, n, h2⟩ := h hl hL x hm
  exact ⟨h1, n, h2 lv ⟨fun _ q => q, hnd⟩⟩
theorem gC_ex {th : tH} {c o : Nat} (h : gC th c o = some ()) : ∃ fs, th[o]? = some (.inr (c, fs)) := gC_of (f := fun _ => some ()) (x := ()) (by rw [h]; rfl)
theorem t_cutV {na rc b : Nat} {A rest fs : List Value} {th : tH} (hl : A.length = na) (hb : th[b]? = some (.inr (rc, fs))) : t_cut 20 na rc (A ++ .ref b :: rest) th = some (.ref b :: A.reverse, rest) := by
  unfold t_cut
  rw [if_neg (by simp; omega), if_neg (by decide), List.take_left' hl, List.drop_left' hl]
  dsimp only
  rw [if_neg (by decide), if_pos rfl, hb]
  dsimp only
  rw [if_pos rfl]
section KE
variable {s s2 : St}
/-- only what is beside has changed -/
theorem MI_bes (c : MI s) (a : ∀ p, p < 67 → ia s2 p = ia s p) (l : ∀ p, p < 67 → la s2 p = la s p) (f : ∀ o k, o < 67 → fi s2 o k = fi s o k) (ko : KO s2) : MI s2 ∧ eC s s2 ∧ abM s2 = ((abM s).1, kpM s2, (abM s).2.2) := by
  have m44 : md s2 44 = md s 44 := by
    unfold md
    rw [f 44 _ (by omega), f 44 _ (by omega), f 44 _ (by omega), f 44 _ (by omega), a _ (by omega), a _ (by omega), a _ (by omega), a _ (by omega)]
  obtain ⟨c1, c2, c3, c4, c5⟩ := c
  refine ⟨⟨⟨by rw [m44]; exact c1.1, ?_, by rw [a 60 (by omega)]; exact c1.2.2⟩, ?_, ?_, ko, fun k hk => ?_⟩, ⟨fun p hp _ => a p (by omega), fun p hp => l p (by omega), fun o k ho _ => f o k (by omega), fun p hp => by rw [a p hp], fun p hp => by rw [l p hp]⟩, ?_⟩
  · unfold Sz
    rw [a 17 (by omega), a 19 (by omega), a 22 (by omega), a 65 (by omega), a 66 (by omega), l 57 (by omega)]
    exact c1.2.1
  · unfold sl8
    rw [a 45 (by omega), a 46 (by omega), a 47 (by omega), a 58 (by omega)]
    exact c2
  · rw [a 59 (by omega), f 44 7 (by omega)]
    exact c3
  · unfold smO
    rw [l (49 + k) (by omega), a 45 (by omega), a 47 (by omega), a 58 (by omega), m44]
    exact c5 k hk
  · unfold abM
    rw [m44, a 59 (by omega), f 44 7 (by omega)]
    refine Prod.ext rfl (Prod.ext rfl (Prod.ext rfl (funext fun k => ?_)))
    show (if k < 8 then shM s2 k else none) = if k < 8 then shM s k else none
    by_cases hk : k < 8
    · rw [if_pos hk, if_pos hk]
      unfold shM
      rw [l (49 + k) (by omega), a 45 (by omega), a 46 (by omega), a 47 (by omega)]
    · rw [if_neg hk, if_neg hk]
theorem nw_lo {q : Nat} (hq : 67 ≤ q) : (∀ p, p < 67 → ia (nw s q) p = ia s p) ∧ (∀ p, p < 67 → la (nw s q) p = la s p) ∧ (∀ o k, o < 67 → fi (nw s q) o k = fi s o k) := by
  refine ⟨fun p hp => ?_, fun p hp => ?_, fun o k ho => ?_⟩
  · show (if p = q + 1 then rp 8 else if p = q + 2 then rp 8 else if p = q + 3 then rp 8 else if p = q + 14 then rp 8 else if p = q + 15 then rp 250 else if p = q + 16 then rp 8 else if p = q + 17 then rp 12 else if p = q + 18 then rp 12 else if p = q + 19 then rp 12 else if p = q + 20 then rp 8 else if p = q + 21 then rp 3 else if p = q + 22 then rp 70 else s.1 p) = s.1 p
    rw [if_neg (by omega), if_neg (by omega), if_neg (by omega), if_neg (by omega), if_neg (by omega), if_neg (by omega), if_neg (by omega), if_neg (by omega), if_neg (by omega), if_neg (by omega), if_neg (by omega), if_neg (by omega)]
  · show (if q + 5 ≤ p ∧ p ≤ q + 13 then rpJ else s.2.1 p) = s.2.1 p
    rw [if_neg (by omega)]
  · show (if o = q then _ else s.2.2.1 o k) = s.2.2.1 o k
    rw [if_neg (by omega)]
theorem wM_lo {q : Nat} (hq : 67 ≤ q) (g : Gd) : (∀ p, p < 67 → ia (wM s q g) p = ia s p) ∧ (∀ p, p < 67 → la (wM s q g) p = la s p) ∧ (∀ o k, o < 67 → fi (wM s q g) o k = fi s o k) := by
  refine ⟨fun p hp => ?_, fun _ _ => rfl, fun o k ho => ?_⟩
  · rw [ia_wM, if_neg (by omega), if_neg (by omega), if_neg (by omega), if_neg (by omega)]
  · rw [fi_wM, if_neg (by omega), if_neg (by omega), if_neg (by omega), if_neg (by omega)]
theorem sh_nw (s : St) {q : Nat} (hq : q = 67 ∨ q = 90) : sh (md (nw s q) q) := by
  rcases hq with rfl | rfl <;> exact ⟨rfl, rfl, rfl, rfl⟩
theorem md_nw90 (s : St) : md (nw s 90) 67 = md s 67 := rfl
/-- one call, once its run is known -/
theorem Wp.ex {d i nL : Nat} {lv : tL} {th : tH} {r : t_Res} (h : Wp none d i nL 0 lv [] th 0 (fun res => res = r)) : ∃ n, t_exec t_ctf t_mif n none d i nL 0 lv [] th 0 = some r := by
  obtain ⟨n, res, h1, h2⟩ := h
  exact ⟨n, by rw [h1, h2]⟩
set_option maxRecDepth 20000 in
theorem g44 (s : St) : ∃ fs, (H s)[44]? = some (.inr (8, fs)) := ⟨_, rfl⟩
/-- what is taken over by the model at a place -/
theorem take_run {d : Nat} {q : Nat} (hk : isK s q) (h1 : sh (md s q)) (h2 : sh (md s 44)) (hn : nm s ≤ 2) : ∃ n, t_exec t_ctf t_mif n none (d + 2) 300 2 0 [(0, .ref q), (1, .ref 44)] [] (H s) 0 = some (none, H (wM s q (md s 44)), 0) := by
  have hl := H_ln s hn
  obtain ⟨-, n, e⟩ := (S_300 (L := 67 + 23 * nm s) d q 44 (H s)).run hl (by omega) (q_300 (Or.inr hk) (Or.inl rfl) hk.ne h1 h2) (show ([0, 1] : List Nat).Nodup by decide)
  exact ⟨n, e⟩
end KE
end
section
/-! ===== image, fresh, garden: the reference's calls that may make a model ===== -/
section KF
variable {s : St}
theorem rK (pc f : Nat) (r : List Value) (s : St) : t_R none 3 (.getfield f) pc 8 17 (.ref 44 :: r) (H s) = some (pc + 3, va_rf (kr s) :: r) := rfl
theorem rT (pc f : Nat) (r : List Value) (s : St) : t_R none 3 (.getfield f) pc 8 18 (.ref 44 :: r) (H s) = some (pc + 3, va_rf (tr s) :: r) := rfl
theorem pK (pc f q : Nat) (s : St) : t_W 10 (.putfield f) pc 8 17 [.ref q, .ref 44] (H s) = some (pc + 3, [], H (sK s q)) := rfl
theorem pT (pc f q : Nat) (s : St) : t_W 10 (.putfield f) pc 8 18 [.ref q, .ref 44] (H s) = some (pc + 3, [], H (sT s q)) := rfl
/-- where the next model comes to lie -/
noncomputable def nq (s : St) : Nat := 67 + 23 * nm s
theorem nq_o {s : St} (h : nm s ≤ 1) : (nq s = 67 ∧ nm s = 0) ∨ (nq s = 90 ∧ nm s = 1) := by
  unfold nq
  omega
theorem H_nw (h : nm s ≤ 1) : H s ++ mcell (H s).length = H (nw s (nq s)) := by
  rw [H_ln s (by omega)]
  rcases nq_o h with ⟨e, e2⟩ | ⟨e, e2⟩
  · rw [e, e2]; exact H_nw0 s e2
  · rw [e, e2]; exact H_nw1 s e2
theorem vN {k n : Nat} (h : k < n) : t_okv n (.ref k) = true := by
  show (decide (k < n) || decide (1000 ≤ k)) = true
  rw [decide_eq_true h]
  rfl
theorem v44 {n : Nat} (h : 44 < n) : t_okv n (.ref 44) = true := vN h
/-- a model is made, and its place is left on the stack -/
theorem w_new {d i nL pc k1 k2 : Nat} {lv : tL} {Q : t_Res → Prop} {ns : Nat} (c : KT s) (h : nm s ≤ 1) (hlv : lv = [(0, .ref 44)]) (hc1 : t_ctf i pc = some (15, .new k1, 8, 0)) (hc2 : t_ctf i (pc + 3) = some (0, .dup, 0, 0)) (hc3 : t_ctf i (pc + 4) = some (22, .invokespecial k2, 188, 0)) (k : Wp none (d + 2) i nL (pc + 7) lv [.ref (nq s), .ref 44] (H (nw s (nq s))) (ns + 31 + 775) Q) : Wp none (d + 2) i nL pc lv [.ref 44] (H s) ns Q := by
  have hl := H_ln s (by omega)
  have hok := okH c h
  have hq : (H s).length = nq s := hl
  subst hlv
  refine w_A (add := [.inr (8, fs0)]) (n1 := 31) (pc' := pc + 3) (st' := [.ref (H s).length, .ref 44]) hc1 (by decide) rfl ?_ ?_
  · show (t_okh (H s).length (H s) && ((t_okv (H s).length (.ref 44) && true) && ((t_okv (H s).length (.ref 44) && true) && decide ((H s).length + 1 ≤ 1000)))) = true
    rw [hok, v44 (by omega), decide_eq_true (by omega)]
    rfl
  refine w_P (pc' := pc + 4) (lv' := [(0, .ref 44)]) (st' := [.ref (H s).length, .ref (H s).length, .ref 44]) hc2 (by decide) rfl ?_
  obtain ⟨n, e⟩ := (new_M (d := d) hok (by rw [hl]; omega)).ex
  refine w_call (nL' := 1) (na := 0) (rc := 8) (n1 := n) (m1 := 775) (vs := [.ref (H s).length]) (rest := [.ref (H s).length, .ref 44]) (r := none) (th' := H s ++ mcell (H s).length) hc3 (by decide) rfl rfl ⟨Nat.le_of_ble_eq_true rfl, Nat.le_of_ble_eq_true rfl⟩ e (Or.inr ?_) ?_
  · rw [List.length_append]
    show ((t_okv ((H s).length + 1) (.ref 44) && true) && (t_okv ((H s).length + 1) (.ref (H s).length) && (t_okv ((H s).length + 1) (.ref 44) && true))) = true
    rw [v44 (by omega), vN (by omega)]
    rfl
  · rw [H_nw h, hq]
    exact k
theorem KO_keep (c : KO s) (h : kr s = none) : nm s ≤ 1 ∧ KT (sK (nw s (nq s)) (nq s)) ∧ (∀ o, tr s = some o → o ≠ nq s ∧ md (nw s (nq s)) o = md s o) := by
  obtain ⟨c1, c2, c3⟩ := c
  unfold nq
  rcases c1 with ⟨e1, e2, e3⟩ | ⟨e1, e2, e3⟩ | ⟨e1, e2, e3⟩ | ⟨e1, e2, e3⟩ | ⟨e1, e2, e3⟩
  · rw [e1]
    refine ⟨by omega, Or.inr (Or.inl ⟨?_, rfl, ?_⟩), fun o ho => by rw [e3] at ho; cases ho⟩
    · show nm s + 1 = 1
      omega
    · exact e3
  · rw [e2] at h; cases h
  · rw [e1]
    refine ⟨by omega, Or.inr (Or.inr (Or.inr (Or.inr ⟨?_, rfl, ?_⟩))), fun o ho => ?_⟩
    · show nm s + 1 = 2
      omega
    · exact e3
    · rw [e3] at ho
      cases ho
      exact ⟨by omega, rfl⟩
  · rw [e2] at h; cases h
  · rw [e2] at h; cases h
theorem KO_try (c : KO s) (h : tr s = none) : nm s ≤ 1 ∧ KT (sT (nw s (nq s)) (nq s)) ∧ (∀ o, kr s = some o → o ≠ nq s ∧ md (nw s (nq s)) o = md s o) := by
  obtain ⟨c1, c2, c3⟩ := c
  unfold nq
  rcases c1 with ⟨e1, e2, e3⟩ | ⟨e1, e2, e3⟩ | ⟨e1, e2, e3⟩ | ⟨e1, e2, e3⟩ | ⟨e1, e2, e3⟩
  · rw [e1]
    refine ⟨by omega, Or.inr (Or.inr (Or.inl ⟨?_, ?_, rfl⟩)), fun o ho => by rw [e2] at ho; cases ho⟩
    · show nm s + 1 = 1
      omega
    · exact e2
  · rw [e1]
    refine ⟨by omega, Or.inr (Or.inr (Or.inr (Or.inl ⟨?_, ?_, rfl⟩))), fun o ho => ?_⟩
    · show nm s + 1 = 2
      omega
    · exact e2
    · rw [e2] at ho
      cases ho
      exact ⟨by omega, rfl⟩
  · rw [e3] at h; cases h
  · rw [e3] at h; cases h
  · rw [e3] at h; cases h
theorem KT.nm2 (c : KT s) : nm s ≤ 2 := by
  rcases c with ⟨e, -⟩ | ⟨e, -⟩ | ⟨e, -⟩ | ⟨e, -⟩ | ⟨e, -⟩ <;> omega
theorem KT.ne (c : KT s) {a b : Nat} (h1 : kr s = some a) (h2 : tr s = some b) : a ≠ b := by
  rcases c with ⟨e1, e2, e3⟩ | ⟨e1, e2, e3⟩ | ⟨e1, e2, e3⟩ | ⟨e1, e2, e3⟩ | ⟨e1, e2, e3⟩ <;> rw [e2] at h1 <;> rw [e3] at h2 <;> cases h1 <;> cases h2 <;> omega
/-- the model at a place has taken the garden over -/
theorem take_MI {s1 : St} {q : Nat} (c : MI s) (hq : q = 67 ∨ q = 90) (a : ∀ p, p < 67 → ia s1 p = ia s p) (l : ∀ p, p < 67 → la s1 p = la s p) (f : ∀ o k, o < 67 → fi s1 o k = fi s o k) (hm : md s1 44 = md s 44) (kt : KT s1) (ho : ∀ o, o ≠ q → kr s1 = some o → ok (md s1 o)) (ht : ∀ o, o ≠ q → tr s1 = some o → sh (md s1 o)) : MI (wM s1 q (md s1 44)) ∧ eC s (wM s1 q (md s1 44)) ∧ abM (wM s1 q (md s1 44)) = ((abM s).1, kpM (wM s1 q (md s1 44)), (abM s).2.2) := by
  obtain ⟨w1, w2, w3⟩ := wM_lo (s := s1) (q := q) (by omega) (md s1 44)
  refine MI_bes c (fun p hp => (w1 p hp).trans (a p hp)) (fun p hp => (w2 p hp).trans (l p hp)) (fun o k h => (w3 o k h).trans (f o k h)) ⟨kt, fun o h => ?_, fun o h => ?_⟩
  · by_cases e : o = q
    · rw [e, md_wM, hm]
      exact c.1.1
    · rw [md_ne s1 (md s1 44) (by omega) (kt.o (Or.inl h)) (fun e' => e e'.symm)]
      exact ho o e h
  · by_cases e : o = q
    · rw [e, md_wM, hm]
      exact c.1.1.sh
    · rw [md_ne s1 (md s1 44) (by omega) (kt.o (Or.inr h)) (fun e' => e e'.symm)]
      exact ht o e h
theorem isK.o {o : Nat} (h : isK s o) : o = 67 ∨ o = 90 := by
  rcases h with ⟨e, -⟩ | ⟨e, -⟩
  · exact Or.inl e
  · exact Or.inr e
theorem run_301 (c : MI s) : ∃ n s' m1, t_exec t_ctf t_mif n none 10 301 1 0 [(0, .ref 44)] [] (H s) 0 = some (some (.int (i3 1)), H s', m1) ∧ MI s' ∧ eC s s' ∧ abM s' = ((abM s).1, some (md s 44), (abM s).2.2) ∧ m1 + 806 * nm s = 806 * nm s' := by
  have kt := c.2.2.2.1.1
  have n2 := kt.nm2
  -- from here on the model is there
  have tail : ∀ (s1 : St) (q ns : Nat), kr s1 = some q → isK s1 q → sh (md s1 q) → sh (md s1 44) → nm s1 ≤ 2 → Wp none 10 301 1 18 [(0, .ref 44)] [] (H s1) ns (fun res => res = (some (.int (i3 1)), H (wM s1 q (md s1 44)), ns)) := fun s1 q ns e hk h1 h2 hn => by
    obtain ⟨n, ex⟩ := take_run (d := 7) hk h1 h2 hn
    obtain ⟨fs, hfs⟩ := gC_ex (r_d (s := s1) (Or.inr hk)).1
    have hl1 := H_ln s1 hn
    have hl2 := H_ln (wM s1 q (md s1 44)) hn
    refine w_P rfl (by decide) rfl ?_
    refine w_R (pc' := 22) (st' := [.ref q]) rfl (by decide) (Eq.trans (rK _ _ [] _) (by rw [e]; rfl)) ?_
    refine w_P rfl (by decide) rfl ?_
    refine w_call (d := 9) (nL' := 2) (na := 1) (rc := 8) (vs := [.ref q, .ref 44]) (rest := []) rfl (by decide) rfl (t_cutV (A := [.ref 44]) (rest := []) rfl hfs) ⟨by decide, Nat.le_of_ble_eq_true rfl⟩ ex (Or.inl (by rw [hl1, hl2]; rfl)) ?_
    refine w_P (st' := [.int (i3 1)]) rfl (by decide) rfl ?_
    exact w_ret (r := some (.int (i3 1))) rfl (by decide) rfl rfl
  cases hk : kr s with
  | some q =>
    have kK := c.2.2.2.1.kK hk
    have hok := c.2.2.2.1.2.1 q hk
    obtain ⟨n, e⟩ := (show Wp none 10 301 1 0 [(0, .ref 44)] [] (H s) 0 (fun res => res = (some (.int (i3 1)), H (wM s q (md s 44)), 0)) from by
      refine w_P rfl (by decide) rfl ?_
      refine w_R (pc' := 4) (st' := [.ref q]) rfl (by decide) (Eq.trans (rK _ _ [] _) (by rw [hk]; rfl)) ?_
      refine w_P (pc' := 18) (lv' := [(0, .ref 44)]) (st' := []) rfl (by decide) rfl ?_
      exact tail s q 0 hk kK hok.sh c.1.1.sh n2).ex
    obtain ⟨y1, y2, y3⟩ := take_MI (s1 := s) c kK.o (fun _ _ => rfl) (fun _ _ => rfl) (fun _ _ _ => rfl) rfl kt (fun o _ h => c.2.2.2.1.2.1 o h) (fun o _ h => c.2.2.2.1.2.2 o h)
    refine ⟨n, _, 0, e, y1, y2, ?_, Nat.zero_add _⟩
    rw [y3]
    have e3 : kpM (wM s q (md s 44)) = some (md s 44) := by
      unfold kpM
      rw [show kr (wM s q (md s 44)) = some q from hk]
      show some (md (wM s q (md s 44)) q) = _
      rw [md_wM]
    rw [e3]
  | none =>
    obtain ⟨n1, kt1, ho⟩ := KO_keep c.2.2.2.1 hk
    have q0 : nq s = 67 ∨ nq s = 90 := (nq_o n1).elim (fun e => Or.inl e.1) (fun e => Or.inr e.1)
    obtain ⟨w1, w2, w3⟩ := nw_lo (s := s) (q := nq s) (by omega)
    have hmd : md (sK (nw s (nq s)) (nq s)) 44 = md s 44 := by
      unfold md
      show (fi (nw s (nq s)) 44 9, fi (nw s (nq s)) 44 10, fi (nw s (nq s)) 44 14, fi (nw s (nq s)) 44 16, ia (nw s (nq s)) 61, ia (nw s (nq s)) 62, ia (nw s (nq s)) 63, ia (nw s (nq s)) 64) = _
      rw [w3 44 _ (by omega), w3 44 _ (by omega), w3 44 _ (by omega), w3 44 _ (by omega), w1 _ (by omega), w1 _ (by omega), w1 _ (by omega), w1 _ (by omega)]
    have kK : isK (sK (nw s (nq s)) (nq s)) (nq s) := by
      show (nq s = 67 ∧ 1 ≤ nm s + 1) ∨ (nq s = 90 ∧ 2 ≤ nm s + 1)
      rcases nq_o n1 with ⟨e, e2⟩ | ⟨e, e2⟩ <;> omega
    obtain ⟨n, e⟩ := (show Wp none 10 301 1 0 [(0, .ref 44)] [] (H s) 0 (fun res => res = (some (.int (i3 1)), H (wM (sK (nw s (nq s)) (nq s)) (nq s) (md (sK (nw s (nq s)) (nq s)) 44)), 806)) from by
      refine w_P rfl (by decide) rfl ?_
      refine w_R (pc' := 4) (st' := [.null]) rfl (by decide) (Eq.trans (rK _ _ [] _) (by rw [hk]; rfl)) ?_
      refine w_P (pc' := 7) (lv' := [(0, .ref 44)]) (st' := []) rfl (by decide) rfl ?_
      refine w_P rfl (by decide) rfl ?_
      refine w_new kt n1 rfl rfl rfl rfl ?_
      refine w_W rfl (by decide) (pK _ _ _ _) ?_
      exact tail (sK (nw s (nq s)) (nq s)) (nq s) 806 rfl kK (sh_nw s q0) (by rw [hmd]; exact c.1.1.sh) kt1.nm2).ex
    obtain ⟨y1, y2, y3⟩ := take_MI (s1 := sK (nw s (nq s)) (nq s)) c q0 w1 w2 w3 hmd kt1 (fun o h1 h2 => by cases h2; exact absurd rfl h1) (fun o h1 h2 => by
      have := ho o h2
      rw [show md (sK (nw s (nq s)) (nq s)) o = md (nw s (nq s)) o from rfl, this.2]
      exact c.2.2.2.1.2.2 o h2)
    refine ⟨n, _, 806, e, y1, y2, ?_, by show 806 + 806 * nm s = 806 * (nm s + 1); omega⟩
    rw [y3]
    have e3 : kpM (wM (sK (nw s (nq s)) (nq s)) (nq s) (md (sK (nw s (nq s)) (nq s)) 44)) = some (md s 44) := by
      show some (md (wM (sK (nw s (nq s)) (nq s)) (nq s) (md (sK (nw s (nq s)) (nq s)) 44)) (nq s)) = _
      rw [md_wM, hmd]
    rw [e3]
theorem run_298 (c : MI s) : ∃ n s' m1 o, t_exec t_ctf t_mif n none 9 298 1 0 [(0, .ref 44)] [] (H s) 0 = some (some (.ref o), H s', m1) ∧ tr s' = some o ∧ md s' o = md s 44 ∧ MI s' ∧ eC s s' ∧ abM s' = abM s ∧ m1 + 806 * nm s = 806 * nm s' ∧ (∀ p, p < 67 → ia s' p = ia s p) ∧ (∀ o k, o < 67 → fi s' o k = fi s o k) := by
  have kt := c.2.2.2.1.1
  have n2 := kt.nm2
  have tail : ∀ (s1 : St) (q ns : Nat), tr s1 = some q → isK s1 q → sh (md s1 q) → sh (md s1 44) → nm s1 ≤ 2 → Wp none 9 298 1 18 [(0, .ref 44)] [] (H s1) ns (fun res => res = (some (.ref q), H (wM s1 q (md s1 44)), ns)) := fun s1 q ns e hk h1 h2 hn => by
    obtain ⟨n, ex⟩ := take_run (d := 6) hk h1 h2 hn
    obtain ⟨fs, hfs⟩ := gC_ex (r_d (s := s1) (Or.inr hk)).1
    have hl1 := H_ln s1 hn
    have hl2 := H_ln (wM s1 q (md s1 44)) hn
    refine w_P rfl (by decide) rfl ?_
    refine w_R (pc' := 22) (st' := [.ref q]) rfl (by decide) (Eq.trans (rT _ _ [] _) (by rw [e]; rfl)) ?_
    refine w_P rfl (by decide) rfl ?_
    refine w_call (d := 8) (nL' := 2) (na := 1) (rc := 8) (vs := [.ref q, .ref 44]) (rest := []) rfl (by decide) rfl (t_cutV (A := [.ref 44]) (rest := []) rfl hfs) ⟨by decide, Nat.le_of_ble_eq_true rfl⟩ ex (Or.inl (by rw [hl1, hl2]; rfl)) ?_
    refine w_P rfl (by decide) rfl ?_
    refine w_R (pc' := 30) (st' := [.ref q]) rfl (by decide) (Eq.trans (rT _ _ [] _) (by rw [show tr (wM s1 q (md s1 44)) = tr s1 from rfl, e]; rfl)) ?_
    exact w_ret (r := some (.ref q)) rfl (by decide) rfl rfl
  cases hk : tr s with
  | some q =>
    have kK := c.2.2.2.1.tK hk
    have hsh := c.2.2.2.1.2.2 q hk
    obtain ⟨n, e⟩ := (show Wp none 9 298 1 0 [(0, .ref 44)] [] (H s) 0 (fun res => res = (some (.ref q), H (wM s q (md s 44)), 0)) from by
      refine w_P rfl (by decide) rfl ?_
      refine w_R (pc' := 4) (st' := [.ref q]) rfl (by decide) (Eq.trans (rT _ _ [] _) (by rw [hk]; rfl)) ?_
      refine w_P (pc' := 18) (lv' := [(0, .ref 44)]) (st' := []) rfl (by decide) rfl ?_
      exact tail s q 0 hk kK hsh c.1.1.sh n2).ex
    obtain ⟨y1, y2, y3⟩ := take_MI (s1 := s) c kK.o (fun _ _ => rfl) (fun _ _ => rfl) (fun _ _ _ => rfl) rfl kt (fun o _ h => c.2.2.2.1.2.1 o h) (fun o _ h => c.2.2.2.1.2.2 o h)
    obtain ⟨v1, v2, v3⟩ := wM_lo (s := s) (q := q) (by have := kK.o; omega) (md s 44)
    refine ⟨n, _, 0, q, e, hk, md_wM _ _ _, y1, y2, ?_, Nat.zero_add _, v1, v3⟩
    rw [y3]
    have e3 : kpM (wM s q (md s 44)) = kpM s := by
      unfold kpM
      rw [show kr (wM s q (md s 44)) = kr s from rfl]
      cases h : kr s with
      | none => rfl
      | some o =>
        show some (md (wM s q (md s 44)) o) = some (md s o)
        rw [md_ne s (md s 44) (by have := kK.o; omega) (kt.o (Or.inl h)) (fun e' => kt.ne h hk e'.symm)]
    rw [e3]
    rfl
  | none =>
    obtain ⟨n1, kt1, ho⟩ := KO_try c.2.2.2.1 hk
    have q0 : nq s = 67 ∨ nq s = 90 := (nq_o n1).elim (fun e => Or.inl e.1) (fun e => Or.inr e.1)
    obtain ⟨w1, w2, w3⟩ := nw_lo (s := s) (q := nq s) (by omega)
    have hmd : md (sT (nw s (nq s)) (nq s)) 44 = md s 44 := by
      unfold md
      show (fi (nw s (nq s)) 44 9, fi (nw s (nq s)) 44 10, fi (nw s (nq s)) 44 14, fi (nw s (nq s)) 44 16, ia (nw s (nq s)) 61, ia (nw s (nq s)) 62, ia (nw s (nq s)) 63, ia (nw s (nq s)) 64) = _
      rw [w3 44 _ (by omega), w3 44 _ (by omega), w3 44 _ (by omega), w3 44 _ (by omega), w1 _ (by omega), w1 _ (by omega), w1 _ (by omega), w1 _ (by omega)]
    have kK : isK (sT (nw s (nq s)) (nq s)) (nq s) := by
      show (nq s = 67 ∧ 1 ≤ nm s + 1) ∨ (nq s = 90 ∧ 2 ≤ nm s + 1)
      rcases nq_o n1 with ⟨e, e2⟩ | ⟨e, e2⟩ <;> omega
    obtain ⟨n, e⟩ := (show Wp none 9 298 1 0 [(0, .ref 44)] [] (H s) 0 (fun res => res = (some (.ref (nq s)), H (wM (sT (nw s (nq s)) (nq s)) (nq s) (md (sT (nw s (nq s)) (nq s)) 44)), 806)) from by
      refine w_P rfl (by decide) rfl ?_
      refine w_R (pc' := 4) (st' := [.null]) rfl (by decide) (Eq.trans (rT _ _ [] _) (by rw [hk]; rfl)) ?_
      refine w_P (pc' := 7) (lv' := [(0, .ref 44)]) (st' := []) rfl (by decide) rfl ?_
      refine w_P rfl (by decide) rfl ?_
      refine w_new kt n1 rfl rfl rfl rfl ?_
      refine w_W rfl (by decide) (pT _ _ _ _) ?_
      exact tail (sT (nw s (nq s)) (nq s)) (nq s) 806 rfl kK (sh_nw s q0) (by rw [hmd]; exact c.1.1.sh) kt1.nm2).ex
    obtain ⟨y1, y2, y3⟩ := take_MI (s1 := sT (nw s (nq s)) (nq s)) c q0 w1 w2 w3 hmd kt1 (fun o h1 h2 => by
      have := ho o h2
      rw [show md (sT (nw s (nq s)) (nq s)) o = md (nw s (nq s)) o from rfl, this.2]
      exact c.2.2.2.1.2.1 o h2) (fun o h1 h2 => by cases h2; exact absurd rfl h1)
    obtain ⟨v1, v2, v3⟩ := wM_lo (s := sT (nw s (nq s)) (nq s)) (q := nq s) (by omega) (md (sT (nw s (nq s)) (nq s)) 44)
    refine ⟨n, _, 806, nq s, e, rfl, (md_wM _ _ _).trans hmd, y1, y2, ?_, by show 806 + 806 * nm s = 806 * (nm s + 1); omega, fun p hp => (v1 p hp).trans (w1 p hp), fun o k h => (v3 o k h).trans (w3 o k h)⟩
    rw [y3]
    have e3 : kpM (wM (sT (nw s (nq s)) (nq s)) (nq s) (md (sT (nw s (nq s)) (nq s)) 44)) = kpM s := by
      unfold kpM
      rw [show kr (wM (sT (nw s (nq s)) (nq s)) (nq s) (md (sT (nw s (nq s)) (nq s)) 44)) = kr s from rfl]
      cases h : kr s with
      | none => rfl
      | some o =>
        have h2 := ho o h
        show some (md (wM (sT (nw s (nq s)) (nq s)) (nq s) (md (sT (nw s (nq s)) (nq s)) 44)) o) = some (md s o)
        rw [md_ne _ _ (by omega) (kt.o (Or.inl h)) (fun e' => h2.1 e'.symm)]
        exact congrArg some h2.2
    rw [e3]
    rfl
end KF
end
section
/-! ===== the reference's garden, out of a tape ===== -/
section GA
variable {s : St}
theorem uvI {s1 s2 : St} (c : MI s1) (u : uv s1 s2) {g : Gd} (hg : ok g) : MJ (wM (sf s2 44 7 (i3 0)) 44 g) ∧ eC s1 (wM (sf s2 44 7 (i3 0)) 44 g) ∧ abM (wM (sf s2 44 7 (i3 0)) 44 g) = (g, (abM s1).2.1, (ia s1 59, i3 0), (abM s1).2.2.2) ∧ (g = md s1 44 → MI (wM (sf s2 44 7 (i3 0)) 44 g)) := by
  obtain ⟨c1, c2, c3, c4, c5⟩ := c
  obtain ⟨u1, u2, u3, u4, u5⟩ := u
  have sh2 : sh (md s2 44) := ⟨(u5 61).trans c1.1.sh.1, (u5 62).trans c1.1.sh.2.1, (u5 63).trans c1.1.sh.2.2.1, (u5 64).trans c1.1.sh.2.2.2⟩
  generalize hS : wM (sf s2 44 7 (i3 0)) 44 g = S
  have m44 : md S 44 = g := by rw [← hS, md_wM]
  have an : ∀ p, p ≠ 65 → (p < 61 ∨ 64 < p) → ia S p = ia s1 p := fun p h1 h2 => by
    rw [← hS, ia_wM, if_neg (by omega), if_neg (by omega), if_neg (by omega), if_neg (by omega)]
    exact u1 p h1 h2
  have ln : ∀ p, la S p = la s1 p := fun p => by rw [← hS]; exact u2 p
  have fn : ∀ o k, o ≠ 44 → fi S o k = fi s1 o k := fun o k h => by
    rw [← hS, fi_wM, if_neg (by omega), if_neg (by omega), if_neg (by omega), if_neg (by omega), fi_sf, if_neg (by omega)]
    exact u3 o k (by omega)
  have f7 : fi S 44 7 = i3 0 := by rw [← hS]; rfl
  have le : ∀ p, (ia S p).length = (ia s1 p).length := fun p => by
    rw [← hS, ia_wM]
    have q := u5 p
    split
    · rename_i e; rw [e]; exact hg.sh.1.trans c1.1.sh.1.symm
    split
    · rename_i _ e; rw [e]; exact hg.sh.2.1.trans c1.1.sh.2.1.symm
    split
    · rename_i _ _ e; rw [e]; exact hg.sh.2.2.1.trans c1.1.sh.2.2.1.symm
    split
    · rename_i _ _ _ e; rw [e]; exact hg.sh.2.2.2.trans c1.1.sh.2.2.2.symm
    exact q
  have kr0 : kr S = kr s1 := by rw [← hS]; exact congrArg (·.1) u4
  have tr0 : tr S = tr s1 := by rw [← hS]; exact congrArg (·.2.1) u4
  have nm0 : nm S = nm s1 := by rw [← hS]; exact congrArg (·.2.2) u4
  have mk : ∀ o, (o = 67 ∨ o = 90) → md S o = md s1 o := fun o ho => by
    unfold md
    rw [fn o _ (by omega), fn o _ (by omega), fn o _ (by omega), fn o _ (by omega), an _ (by omega) (by omega), an _ (by omega) (by omega), an _ (by omega) (by omega), an _ (by omega) (by omega)]
  have kk : ∀ o, (kr s1 = some o ∨ tr s1 = some o) → o = 67 ∨ o = 90 := fun o h => h.elim (fun e => (c4.kK e).o) (fun e => (c4.tK e).o)
  have ko : KO S := by
    refine ⟨?_, fun o ho => ?_, fun o ho => ?_⟩
    · unfold KT
      rw [kr0, tr0, nm0]
      exact c4.1
    · rw [kr0] at ho
      rw [mk o (kk o (Or.inl ho))]
      exact c4.2.1 o ho
    · rw [tr0] at ho
      rw [mk o (kk o (Or.inr ho))]
      exact c4.2.2 o ho
  have mq : Mq S := ⟨by rw [m44]; exact hg, by
    unfold Sz
    rw [le, le, le, le, le, ln]
    exact c1.2.1, by rw [le]; exact c1.2.2⟩
  have s8 : sl8 S := by
    unfold sl8
    rw [le, le, le, le]
    exact c2
  have tp : (ia S 59).length = 250 ∧ ¬ fi S 44 7 < 0 ∧ fi S 44 7 ≤ i3 250 := ⟨by rw [le]; exact c3.1, by rw [f7]; decide +kernel, by rw [f7]; decide +kernel⟩
  refine ⟨⟨mq, s8, tp, ko, fun k hk => ?_⟩, ⟨fun p hp _ => an p (by omega) (by omega), fun p _ => ln p, fun o k ho _ => fn o k (by omega), fun p _ => le p, fun p _ => by rw [ln]⟩, ?_, fun eg => ⟨mq, s8, tp, ko, fun k hk => ?_⟩⟩
  · obtain ⟨d1, d2, d3, d4⟩ := c5 k hk
    unfold smN
    rw [ln, an 45 (by omega) (by omega), an 47 (by omega) (by omega), an 58 (by omega) (by omega)]
    exact ⟨d1, d2, d3, fun e => (d4 e).1⟩
  · have kp : kpM S = kpM s1 := by
      unfold kpM
      rw [kr0]
      cases h : kr s1 with
      | none => rfl
      | some o =>
        show some (md S o) = some (md s1 o)
        rw [mk o (kk o (Or.inl h))]
    unfold abM
    rw [m44, kp, an 59 (by omega) (by omega), f7]
    refine Prod.ext rfl (Prod.ext rfl (Prod.ext rfl (funext fun k => ?_)))
    show (if k < 8 then shM S k else none) = if k < 8 then shM s1 k else none
    unfold shM
    by_cases hk : k < 8
    · rw [ln, an 45 (by omega) (by omega), an 46 (by omega) (by omega), an 47 (by omega) (by omega)]
    · rw [if_neg hk, if_neg hk]
  · obtain ⟨d1, d2, d3, d4⟩ := c5 k hk
    unfold smO
    rw [ln, an 45 (by omega) (by omega), an 47 (by omega) (by omega), an 58 (by omega) (by omega), m44, eg]
    exact ⟨d1, d2, d3, d4⟩
theorem p7_W (pc f : Nat) (x : Int32) (s : St) : t_W 8 (.putfield f) pc 8 7 [.int x, .ref 44] (H s) = some (pc + 3, [], H (sf s 44 7 x)) := rfl
theorem r23 (pc f : Nat) (r : List Value) (s : St) : t_R none 3 (.getfield f) pc 8 23 (.ref 44 :: r) (H s) = some (pc + 3, .int (fi s 44 23) :: r) := rfl
theorem r25 (pc f : Nat) (r : List Value) (s : St) : t_R none 3 (.getfield f) pc 8 25 (.ref 44 :: r) (H s) = some (pc + 3, .int (fi s 44 25) :: r) := rfl
theorem ne_t (pc a1 nL : Nat) (o : Int) (lv : tL) : t_P (.ifCond .ne o) pc a1 nL lv [.int (bB true)] = some (a1, lv, []) := by
  have h : t_icmp .ne (bB true) 0 = true := by decide +kernel
  simp only [t_P, t_i1, h, if_true]
theorem ne_f (pc a1 nL : Nat) (o : Int) (lv : tL) : t_P (.ifCond .ne o) pc a1 nL lv [.int (bB false)] = some (pc + 3, lv, []) := by
  have h : t_icmp .ne (bB false) 0 = false := by decide +kernel
  simp only [t_P, t_i1, h, Bool.false_eq_true, if_false]
theorem run_234 (c : MI s) : ∃ n s' m1, t_exec t_ctf t_mif n none 10 234 3 0 [(0, .ref 44)] [] (H s) 0 = some (some (.int (vRd (rdG (ia s 59) (fi s 44 7).toNatClampNeg (md s 44)))), H s', m1) ∧ MI s' ∧ eC s s' ∧ abM s' = (gRd (md s 44) (rdG (ia s 59) (fi s 44 7).toNatClampNeg (md s 44)), (abM s).2.1, (ia s 59, i3 0), (abM s).2.2.2) ∧ m1 + 806 * nm s = 806 * nm s' := by
  obtain ⟨nf, s1, m1, o, ef, tr1, mo, c1, ec1, ab1, hm1, a1, f1⟩ := run_298 c
  have kt := c.2.2.2.1.1
  have kt1 := c1.2.2.2.1.1
  have l0 := H_ln s kt.nm2
  have l1 := H_ln s1 kt1.nm2
  have md1 : md s1 44 = md s 44 := congrArg (·.1) ab1
  obtain ⟨t1, t2, t3⟩ := c.2.2.1
  have hT : tpM s1 (ia s 59) (fi s 44 7).toNatClampNeg := ⟨a1 59 (by omega), t1, by rw [f1 44 7 (by omega)]; exact i3_cl t2, le_cl (b := 250) (by omega) t2 t3⟩
  obtain ⟨_, er, s2, rfl, u2, hy, hno⟩ := q_233 hT c1.1.1 c1.1.2.1.2.2.2.1
  rw [md1] at er hy hno
  have gw0 : gw (md s 44) (tN (md s 44)) := ⟨c.1.1, c.1.1.2.1.1, Int32.le_refl _⟩
  generalize rdG (ia s 59) (fi s 44 7).toNatClampNeg (md s 44) = P at er hy hno ⊢
  obtain ⟨len2, nr, exr⟩ := (S_233 (L := 67 + 23 * nm s1) 3 44 (H s1)).run l1 (by have := kt1.nm2; omega) er (show ([0] : List Nat).Nodup by decide)
  have len2' : (H s2).length = 67 + 23 * nm s1 := len2
  have nm2 : nm s2 = nm s1 := congrArg (·.2.2) u2.2.2.2.1
  have nmle : nm s2 ≤ 2 := by rw [nm2]; exact kt1.nm2
  have tK := c1.2.2.2.1.tK tr1
  -- up to the question
  have head : ∀ (Q : t_Res → Prop), Wp none 10 234 3 16 [(2, .int (bB P.1)), (1, .ref o), (0, .ref 44)] [.int (bB P.1)] (H (sf s2 44 7 (i3 0))) m1 Q → Wp none 10 234 3 0 [(0, .ref 44)] [] (H s) 0 Q := fun Q hQ => by
    refine w_P rfl (by decide) rfl ?_
    obtain ⟨fs, hfs⟩ := g44 s
    refine w_call (d := 9) (nL' := 1) (na := 0) (rc := 8) (vs := [.ref 44]) (rest := []) rfl (by decide) rfl (t_cutV (A := []) (rest := []) rfl hfs) ⟨by decide, by decide⟩ ef (Or.inr ?_) ?_
    · show ((t_okv (H s).length (.ref 44) && true) && true) = true
      rw [v44 (by omega)]
      rfl
    refine w_P (pc' := 5) (lv' := [(1, .ref o), (0, .ref 44)]) (st' := []) rfl (by decide) rfl ?_
    refine w_P rfl (by decide) rfl ?_
    obtain ⟨fs1, hfs1⟩ := g44 s1
    refine w_call (d := 9) (nL' := 1) (na := 0) (rc := 8) (vs := [.ref 44]) (rest := []) rfl (by decide) rfl (t_cutV (A := []) (rest := []) rfl hfs1) ⟨by decide, by decide⟩ exr (Or.inl (by rw [l1]; exact len2')) ?_
    refine w_P (pc' := 10) (lv' := [(2, .int (bB P.1)), (1, .ref o), (0, .ref 44)]) (st' := []) rfl (by decide) rfl ?_
    refine w_P rfl (by decide) rfl ?_
    refine w_P (st' := [.int (i3 0), .ref 44]) rfl (by decide) rfl ?_
    refine w_W rfl (by decide) (p7_W _ _ _ _) ?_
    refine w_P (pc' := 16) (lv' := [(2, .int (bB P.1)), (1, .ref o), (0, .ref 44)]) (st' := [.int (bB P.1)]) rfl (by decide) rfl ?_
    have e0 : 0 + m1 + 0 = m1 := by omega
    rw [e0]
    exact hQ
  unfold gRd vRd
  cases hp : P.1 with
  | true =>
    obtain ⟨g2, ok2, f25⟩ := hy hp
    obtain ⟨mj, ec3, ab3, -⟩ := uvI c1 u2 ok2
    have eW : wM (sf s2 44 7 (i3 0)) 44 P.2.2.1 = sf s2 44 7 (i3 0) := by
      have := wM_id (sf s2 44 7 (i3 0)) 44
      rw [show md (sf s2 44 7 (i3 0)) 44 = md s2 44 from rfl, g2] at this
      exact this
    rw [eW] at mj ec3 ab3
    obtain ⟨s4, e4, c4, ec4, ab4, md4⟩ := q_207 mj
    have l3 := H_ln (sf s2 44 7 (i3 0)) nmle
    obtain ⟨len4, n4, ex4⟩ := (S_207 (L := 67 + 23 * nm s2) 8 44 (H (sf s2 44 7 (i3 0)))).run l3 (by omega) e4 (show ([0] : List Nat).Nodup by decide)
    have len4' : (H s4).length = 67 + 23 * nm s2 := len4
    have nm4 : nm s4 = nm s2 := by
      have := H_ln s4 c4.2.2.2.1.1.nm2
      omega
    have f254 : fi s4 44 25 = i3 (P.2.1 : Int) := by
      have e5 := q_207' (s := sf s2 44 7 (i3 0)) mj.2.1.1 mj.2.1.2.2.2
      rw [e4] at e5
      have e6 : H s4 = H (sa (sf s2 44 7 (i3 0)) 45 (fol (md (sf s2 44 7 (i3 0)) 44) (ia (sf s2 44 7 (i3 0)) 58) (ia (sf s2 44 7 (i3 0)) 45))) := Option.some.inj e5
      have e7 : gI (H s4) 8 44 25 = some (fi s4 44 25) := rfl
      rw [e6] at e7
      have e8 : some (fi s2 44 25) = some (fi s4 44 25) := e7
      rw [← Option.some.inj e8]
      exact f25
    obtain ⟨n, e⟩ := (show Wp none 10 234 3 0 [(0, .ref 44)] [] (H s) 0 (fun res => res = (some (.int (i3 (P.2.1 : Int))), H s4, m1)) from by
      refine head _ ?_
      rw [hp]
      refine w_P (pc' := 39) (lv' := [(2, .int (bB true)), (1, .ref o), (0, .ref 44)]) (st' := []) rfl (by decide) (ne_t _ _ _ _ _) ?_
      refine w_P rfl (by decide) rfl ?_
      obtain ⟨fs, hfs⟩ := g44 (sf s2 44 7 (i3 0))
      refine w_call (d := 9) (nL' := 2) (na := 0) (rc := 8) (vs := [.ref 44]) (rest := []) rfl (by decide) rfl (t_cutV (A := []) (rest := []) rfl hfs) ⟨by decide, by decide⟩ ex4 (Or.inl (by rw [l3]; exact len4')) ?_
      refine w_P rfl (by decide) rfl ?_
      refine w_R (pc' := 47) (st' := [.int (i3 (P.2.1 : Int))]) rfl (by decide) (Eq.trans (r25 _ _ [] _) (by rw [f254])) ?_
      exact w_ret (r := some (.int (i3 (P.2.1 : Int)))) rfl (by decide) rfl rfl).ex
    refine ⟨n, s4, m1, ?_, c4, (ec1.trans ec3).trans ec4, ?_, by rw [nm4, nm2]; exact hm1⟩
    · rw [e, if_pos rfl]
    · rw [ab4, ab3, if_pos rfl, ab1, a1 59 (by omega)]
  | false =>
    have f23 := hno hp
    obtain ⟨-, ec3, ab3, mi3⟩ := uvI c1 u2 c1.1.1
    have c3 := mi3 rfl
    have sh2 : sh (md (sf s2 44 7 (i3 0)) 44) := ⟨(u2.2.2.2.2 61).trans c1.1.1.sh.1, (u2.2.2.2.2 62).trans c1.1.1.sh.2.1, (u2.2.2.2.2 63).trans c1.1.1.sh.2.2.1, (u2.2.2.2.2 64).trans c1.1.1.sh.2.2.2⟩
    have kK : isK (sf s2 44 7 (i3 0)) o := by
      unfold isK
      rw [show nm (sf s2 44 7 (i3 0)) = nm s2 from rfl, nm2]
      exact tK
    have mdo : md (sf s2 44 7 (i3 0)) o = md s1 44 := by
      have e0 : md (sf s2 44 7 (i3 0)) o = md s1 o := by
        have ho := tK.o
        unfold md
        have fo : ∀ k, fi (sf s2 44 7 (i3 0)) o k = fi s1 o k := fun k => by
          rw [fi_sf, if_neg (by omega)]
          exact u2.2.2.1 o k (by omega)
        have ao : ∀ p, 67 ≤ p → ia (sf s2 44 7 (i3 0)) p = ia s1 p := fun p hp => u2.1 p (by omega) (by omega)
        rw [fo, fo, fo, fo, ao _ (by omega), ao _ (by omega), ao _ (by omega), ao _ (by omega)]
      rw [e0, mo, md1]
    have l3 := H_ln (sf s2 44 7 (i3 0)) nmle
    have e3 := q_300 (s := sf s2 44 7 (i3 0)) (Or.inl rfl) (Or.inr kK) (fun e => kK.ne e.symm) sh2 (by rw [mdo]; exact c1.1.1.sh)
    rw [mdo] at e3
    obtain ⟨-, n4, ex4⟩ := (S_300 (L := 67 + 23 * nm s2) 7 44 o (H (sf s2 44 7 (i3 0)))).run l3 (by omega) e3 (show ([0, 1] : List Nat).Nodup by decide)
    generalize hS4 : wM (sf s2 44 7 (i3 0)) 44 (md s1 44) = s4 at ec3 ab3 c3 ex4
    have nm4 : nm s4 = nm s2 := by rw [← hS4]; rfl
    have l4 := H_ln s4 (by omega)
    have f234 : fi s4 44 23 = i3 (P.2.1 : Int) := by rw [← hS4]; exact f23
    obtain ⟨s5, e5, q5⟩ := q_189 (s := s4) c3.1.2.2 isB2
    obtain ⟨len5, n5, ex5⟩ := (S_189 (L := 67 + 23 * nm s4) 8 44 (i3 (-2)) (H s4)).run l4 (by omega) e5 (show ([0, 1] : List Nat).Nodup by decide)
    have len5' : (H s5).length = 67 + 23 * nm s4 := len5
    have nm5 : nm s5 = nm s4 := congrArg (·.2.2) q5.2.2.2.1
    have f235 : fi s5 44 23 = i3 (P.2.1 : Int) := by
      have e6 := q_189k (s := s4) c3.1.2.2 (x := i3 (-2)) (k := 2) (by omega) (by decide +kernel)
      rw [e5] at e6
      have e7 : H s5 = H (sa s4 60 ((ia s4 60).set 2 ((ia s4 60).getD 2 0 + i3 1))) := (Prod.mk.inj (Option.some.inj e6)).2
      have e8 : gI (H s5) 8 44 23 = some (fi s5 44 23) := rfl
      rw [e7] at e8
      have e9 : some (fi s4 44 23) = some (fi s5 44 23) := e8
      rw [← Option.some.inj e9]
      exact f234
    have c2 : (Int8.ofInt (-2)).toInt32 = i3 (-2) := by decide +kernel
    have c20 : (Int8.ofInt (-20)).toInt32 = i3 (-20) := by decide +kernel
    obtain ⟨n, e⟩ := (show Wp none 10 234 3 0 [(0, .ref 44)] [] (H s) 0 (fun res => res = (some (.int (i3 (-20) - i3 (P.2.1 : Int))), H s5, m1)) from by
      refine head _ ?_
      rw [hp]
      refine w_P (pc' := 19) (lv' := [(2, .int (bB false)), (1, .ref o), (0, .ref 44)]) (st' := []) rfl (by decide) (ne_f _ _ _ _ _) ?_
      refine w_P rfl (by decide) rfl ?_
      refine w_P rfl (by decide) rfl ?_
      obtain ⟨fs, hfs⟩ := g44 (sf s2 44 7 (i3 0))
      refine w_call (d := 9) (nL' := 2) (na := 1) (rc := 8) (vs := [.ref 44, .ref o]) (rest := []) rfl (by decide) rfl (t_cutV (A := [.ref o]) (rest := []) rfl hfs) ⟨by decide, Nat.le_of_ble_eq_true rfl⟩ ex4 (Or.inl (by rw [l3]; exact l4.trans (by rw [nm4]; rfl))) ?_
      refine w_P rfl (by decide) rfl ?_
      refine w_P (pc' := 27) (lv' := [(2, .int (bB false)), (1, .ref o), (0, .ref 44)]) (st' := [.int (i3 (-2)), .ref 44]) rfl (by decide) (by rw [← c2]; rfl) ?_
      obtain ⟨fs4, hfs4⟩ := g44 s4
      refine w_call (d := 9) (nL' := 2) (na := 1) (rc := 8) (vs := [.ref 44, .int (i3 (-2))]) (rest := []) rfl (by decide) rfl (t_cutV (A := [.int (i3 (-2))]) (rest := []) rfl hfs4) ⟨by decide, Nat.le_of_ble_eq_true rfl⟩ ex5 (Or.inl (by rw [l4]; exact len5')) ?_
      refine w_P (pc' := 31) (lv' := [(2, .int (bB false)), (1, .ref o), (0, .ref 44)]) (st' := []) rfl (by decide) rfl ?_
      refine w_P (pc' := 33) (lv' := [(2, .int (bB false)), (1, .ref o), (0, .ref 44)]) (st' := [.int (i3 (-20))]) rfl (by decide) (by rw [← c20]; rfl) ?_
      refine w_P rfl (by decide) rfl ?_
      refine w_R (pc' := 37) (st' := [.int (i3 (P.2.1 : Int)), .int (i3 (-20))]) rfl (by decide) (Eq.trans (r23 _ _ [.int (i3 (-20))] _) (by rw [f235])) ?_
      refine w_P (pc' := 38) (lv' := [(2, .int (bB false)), (1, .ref o), (0, .ref 44)]) (st' := [.int (i3 (-20) - i3 (P.2.1 : Int))]) rfl (by decide) rfl ?_
      exact w_ret (r := some (.int (i3 (-20) - i3 (P.2.1 : Int)))) rfl (by decide) rfl rfl).ex
    have ab3' : abM s5 = abM s4 := q5.eM.ab c3.2.2.2.1.1
    refine ⟨n, s5, m1, ?_, q5.eM.mi c3, (ec1.trans ec3).trans q5.eC, ?_, by rw [nm5, nm4, nm2]; exact hm1⟩
    · rw [e, if_neg (by decide)]
    · rw [ab3', ab3, if_neg (by decide), ab1, a1 59 (by omega), md1]
end GA
end
section
/-! ===== the fresh objects ===== -/
noncomputable def TH0 : tH := [.inr (7, [.ref 1, .ref 6, .ref 11, .ref 16, .ref 18, .ref 20, .ref 23, .ref 24, .ref 26, .ref 27, .int 0]),
  .inr (2, [.ref 2, .ref 3, .ref 4, .ref 5, .int 5, .int 0, .int 0, .int 1]),
  .inl (0, .inl [0, 0, 0, 0, 0, 0, 0, 0, 0, 0, 0, 0]),
  .inl (0, .inl [0, 0, 0, 0, 0, 0, 0, 0, 0, 0, 0, 0]),
  .inl (0, .inl [0, 0, 0, 0, 0, 0, 0, 0, 0, 0, 0, 0]),
  .inl (0, .inl [0, 0, 0, 0, 0, 0, 0, 0]),
  .inr (2, [.ref 7, .ref 8, .ref 9, .ref 10, .int 5, .int 0, .int 0, .int 1]),
  .inl (0, .inl [0, 0, 0, 0, 0, 0, 0, 0, 0, 0, 0, 0]),
  .inl (0, .inl [0, 0, 0, 0, 0, 0, 0, 0, 0, 0, 0, 0]),
  .inl (0, .inl [0, 0, 0, 0, 0, 0, 0, 0, 0, 0, 0, 0]),
  .inl (0, .inl [0, 0, 0, 0, 0, 0, 0, 0]),
  .inr (2, [.ref 12, .ref 13, .ref 14, .ref 15, .int 5, .int 0, .int 0, .int 1]),
  .inl (0, .inl [0, 0, 0, 0, 0, 0, 0, 0, 0, 0, 0, 0]),
  .inl (0, .inl [0, 0, 0, 0, 0, 0, 0, 0, 0, 0, 0, 0]),
  .inl (0, .inl [0, 0, 0, 0, 0, 0, 0, 0, 0, 0, 0, 0]),
  .inl (0, .inl [0, 0, 0, 0, 0, 0, 0, 0]),
  .inr (4, [.ref 17, .int 0]),
  .inl (0, .inl (List.replicate 66 0)),
  .inr (0, [.ref 19]),
  .inl (0, .inl (List.replicate 64 0)),
  .inr (3, [.ref 21, .int 0, .int (-1), .int (-1), .int (-1)]),
  .inr (0, [.ref 22]),
  .inl (0, .inl (List.replicate 64 0)),
  .inr (1, [.int 0, .int (-1), .int 0, .int 0]),
  .inr (6, [.ref 25, .int 0, .int 0, .int 0, .int 0, .int 0, .int 0]),
  .inl (0, .inl (List.replicate 250 0)),
  .inl (2, .inr (.inr [some 28, some 30, some 32, some 34, some 36, some 38, some 40, some 42])),
  .inl (0, .inl [0, 0, 0, 0, 0]),
  .inr (5, [.ref 29, .int (-1), .int 0, .int (-1)]),
  .inl (1, .inr (.inl (List.replicate 40 0))),
  .inr (5, [.ref 31, .int (-1), .int 0, .int (-1)]),
  .inl (1, .inr (.inl (List.replicate 40 0))),
  .inr (5, [.ref 33, .int (-1), .int 0, .int (-1)]),
  .inl (1, .inr (.inl (List.replicate 40 0))),
  .inr (5, [.ref 35, .int (-1), .int 0, .int (-1)]),
  .inl (1, .inr (.inl (List.replicate 40 0))),
  .inr (5, [.ref 37, .int (-1), .int 0, .int (-1)]),
  .inl (1, .inr (.inl (List.replicate 40 0))),
  .inr (5, [.ref 39, .int (-1), .int 0, .int (-1)]),
  .inl (1, .inr (.inl (List.replicate 40 0))),
  .inr (5, [.ref 41, .int (-1), .int 0, .int (-1)]),
  .inl (1, .inr (.inl (List.replicate 40 0))),
  .inr (5, [.ref 43, .int (-1), .int 0, .int (-1)]),
  .inl (1, .inr (.inl (List.replicate 40 0))),
  .inr (8, [.ref 45, .ref 46, .ref 47, .ref 48, .ref 57, .ref 58, .ref 59, .int 0, .ref 60, .int 5, .int 0, .ref 61, .ref 62, .ref 63, .int 0, .ref 64, .int 1, .null, .null, .int 0, .int 0, .int 0, .int 0, .int 0, .ref 65, .int 0, .ref 66, .int 0, .int 0, .int 0, .int 0]),
  .inl (0, .inl [0, 0, 0, 0, 0, 0, 0, 0]),
  .inl (0, .inl [0, 0, 0, 0, 0, 0, 0, 0]),
  .inl (0, .inl [0, 0, 0, 0, 0, 0, 0, 0]),
  .inl (3, .inr (.inr [some 49, some 50, some 51, some 52, some 53, some 54, some 55, some 56])),
  .inl (1, .inr (.inl (List.replicate 40 0))),
  .inl (1, .inr (.inl (List.replicate 40 0))),
  .inl (1, .inr (.inl (List.replicate 40 0))),
  .inl (1, .inr (.inl (List.replicate 40 0))),
  .inl (1, .inr (.inl (List.replicate 40 0))),
  .inl (1, .inr (.inl (List.replicate 40 0))),
  .inl (1, .inr (.inl (List.replicate 40 0))),
  .inl (1, .inr (.inl (List.replicate 40 0))),
  .inl (1, .inr (.inl (List.replicate 40 0))),
  .inl (0, .inl [0, 0, 0, 0, 0, 0, 0, 0]),
  .inl (0, .inl (List.replicate 250 0)),
  .inl (0, .inl [0, 0, 0, 0, 0, 0, 0, 0]),
  .inl (0, .inl [0, 0, 0, 0, 0, 0, 0, 0, 0, 0, 0, 0]),
  .inl (0, .inl [0, 0, 0, 0, 0, 0, 0, 0, 0, 0, 0, 0]),
  .inl (0, .inl [0, 0, 0, 0, 0, 0, 0, 0, 0, 0, 0, 0]),
  .inl (0, .inl [0, 0, 0, 0, 0, 0, 0, 0]),
  .inl (0, .inl [0, 0, 0]),
  .inl (0, .inl (List.replicate 70 0))]
noncomputable def THA : tH := TH0.take 44
noncomputable def q_list {α : Type} (f : α → α → Bool) : List α → List α → Bool
  | [], [] => true
  | a :: x, b :: y => f a b && q_list f x y
  | _, _ => false
theorem q_list_of {α : Type} {f : α → α → Bool} (hf : ∀ a b, f a b = true → a = b) : ∀ {x y : List α}, q_list f x y = true → x = y
  | [], [], _ => rfl
  | a :: x, b :: y, h => by
    simp only [q_list, Bool.and_eq_true] at h
    rw [hf a b h.1, q_list_of hf h.2]
  | [], _ :: _, h => by cases h
  | _ :: _, [], h => by cases h
noncomputable def q_E : tE → tE → Bool
  | .inl (k, .inl a), .inl (j, .inl b) => Nat.beq k j && q_list (fun x y => decide (x = y)) a b
  | .inl (k, .inr (.inl a)), .inl (j, .inr (.inl b)) => Nat.beq k j && q_list (fun x y => decide (x = y)) a b
  | .inl (k, .inr (.inr a)), .inl (j, .inr (.inr b)) => Nat.beq k j && q_list (fun x y => decide (x = y)) a b
  | .inr (k, a), .inr (j, b) => Nat.beq k j && q_list (fun x y => decide (x = y)) a b
  | _, _ => false
theorem q_E_of : ∀ a b : tE, q_E a b = true → a = b := by
  intro a b h
  rcases a with ⟨k, a | a | a⟩ | ⟨k, a⟩ <;> rcases b with ⟨j, b | b | b⟩ | ⟨j, b⟩ <;> simp only [q_E, Bool.and_eq_true] at h <;> first | (cases h; done) | (rw [Nat.eq_of_beq_eq_true h.1, q_list_of (fun x y z => of_decide_eq_true z) h.2])
noncomputable def q_res (x : Option t_Res) (r : Option Value) (th : tH) (n : Nat) : Bool := match x with
  | some (r', th', n') => decide (r' = r) && (q_list q_E th' th && Nat.beq n' n)
  | none => false
theorem q_res_of {x : Option t_Res} {r : Option Value} {th : tH} {n : Nat} (h : q_res x r th n = true) : x = some (r, th, n) := by
  unfold q_res at h
  split at h
  · simp only [Bool.and_eq_true, decide_eq_true_eq] at h
    rw [h.1, q_list_of q_E_of h.2.1, Nat.eq_of_beq_eq_true h.2.2]
  · cases h
theorem p_newA : t_exec t_ctf t_mif 1000 none 10 1 2 0 (lv_args 0 [.ref 0]) [] [.inr (7, [.null, .null, .null, .null, .null, .null, .null, .null, .null, .null, .int 0])] 0 = some (none, THA, 985) := q_res_of (by decide +kernel)
theorem p_newB : t_exec t_ctf t_mif 1000 none 10 188 1 0 (lv_args 0 [.ref 44]) [] (THA ++ [.inr (8, [.null, .null, .null, .null, .null, .null, .null, .int 0, .null, .int 0, .int 0, .null, .null, .null, .int 0, .null, .int 0, .null, .null, .int 0, .int 0, .int 0, .int 0, .int 0, .null, .int 0, .null, .int 0, .int 0, .int 0, .int 0])]) 0 = some (none, TH0, 775) := q_res_of (by decide +kernel)
/-! ===== the first state ===== -/
noncomputable def ln0 (p : Nat) : Nat := match p with
  | 5 => 8 | 10 => 8 | 15 => 8 | 17 => 66 | 19 => 64 | 22 => 64 | 25 => 250 | 27 => 5 | 45 => 8 | 46 => 8 | 47 => 8 | 58 => 8 | 59 => 250 | 60 => 8 | 64 => 8 | 65 => 3 | 66 => 70 | _ => 12
noncomputable def fi0 (o k : Nat) : Int32 := if o = 1 ∨ o = 6 ∨ o = 11 then (if k = 4 then i3 5 else if k = 7 then i3 1 else 0) else if o = 44 then (if k = 9 then i3 5 else if k = 16 then i3 1 else 0) else if o = 20 then (if 2 ≤ k then i3 (-1) else 0) else if o = 23 then (if k = 1 then i3 (-1) else 0) else if 28 ≤ o ∧ o ≤ 42 then (if k = 1 ∨ k = 3 then i3 (-1) else 0) else 0
noncomputable def s00 : St := (fun p => List.replicate (ln0 p) 0, fun _ => List.replicate 40 0, fi0, none, none, 0)
theorem TH0_eq : TH0 = H s00 := q_list_of q_E_of (by decide +kernel)
noncomputable def g00 : Gd := (i3 5, 0, 0, i3 1, List.replicate 12 0, List.replicate 12 0, List.replicate 12 0, List.replicate 8 0)
theorem noT (t : Int32) : ¬ isT g00 t := fun e => e.2 (Int32.not_lt.mp e.1)
theorem noW (t : Int32) : ¬ isW g00 t := fun e => e.2 (Int32.not_lt.mp e.1)
theorem ok00 : ok g00 := ⟨⟨by decide +kernel, by decide +kernel⟩, ⟨by decide +kernel, by decide +kernel⟩, ⟨by decide +kernel, by decide +kernel⟩, ⟨rfl, rfl, rfl, rfl⟩, fun t h => absurd h (noT t), fun t h => absurd h (noT t), fun t _ h => absurd h (noT t), fun t h => absurd h (noW t)⟩
theorem Sz00 : Sz s00 := ⟨rfl, rfl, rfl, rfl, rfl, rfl⟩
theorem CI00 : CI s00 := by
  refine ⟨⟨ok00, Sz00, rfl⟩, ⟨rfl, rfl, rfl, rfl⟩, ⟨rfl, rfl, rfl, rfl⟩, ⟨List.length_replicate, by decide +kernel, by decide +kernel⟩, Or.inl (by decide +kernel), fun k hk => ?_⟩
  have e1 : fi s00 (28 + 2 * k) 1 = i3 (-1) := by
    show fi0 (28 + 2 * k) 1 = _
    unfold fi0
    rw [if_neg (by omega), if_neg (by omega), if_neg (by omega), if_neg (by omega), if_pos (by omega), if_pos (by omega)]
  have e2 : fi s00 (28 + 2 * k) 2 = 0 := by
    show fi0 (28 + 2 * k) 2 = _
    unfold fi0
    rw [if_neg (by omega), if_neg (by omega), if_neg (by omega), if_neg (by omega), if_pos (by omega), if_neg (by omega)]
  have e3 : fi s00 (28 + 2 * k) 3 = i3 (-1) := by
    show fi0 (28 + 2 * k) 3 = _
    unfold fi0
    rw [if_neg (by omega), if_neg (by omega), if_neg (by omega), if_neg (by omega), if_pos (by omega), if_pos (by omega)]
  unfold shO
  rw [e1, e2, e3]
  exact ⟨rfl, Or.inl rfl, ⟨by decide +kernel, by decide +kernel⟩, fun _ => rfl, Or.inl rfl⟩
theorem lg00 (n k : Nat) : lg (List.replicate n (0 : Int32)) k = 0 := by
  unfold lg
  rw [List.getD_eq_getElem?_getD, List.getElem?_replicate]
  split <;> rfl
theorem MI00 : MI s00 := by
  refine ⟨⟨ok00, Sz00, rfl⟩, ⟨rfl, rfl, rfl, rfl⟩, ⟨List.length_replicate, by decide +kernel, by decide +kernel⟩, ⟨Or.inl ⟨rfl, rfl, rfl⟩, fun o h => (by cases h), fun o h => (by cases h)⟩, fun k hk => ?_⟩
  have e1 : lg (ia s00 45) k = i3 0 := lg00 8 k
  unfold smO
  rw [e1]
  exact ⟨rfl, Or.inl rfl, fun e => absurd e (by decide +kernel), fun e => absurd e (by decide +kernel)⟩
theorem ab00 : abC s00 = abM s00 := by
  refine Prod.ext rfl (Prod.ext ?_ (Prod.ext rfl (funext fun k => ?_)))
  · show (if fi s00 0 10 = 0 then none else some (gd s00 11)) = none
    rw [if_pos (by decide +kernel)]
  · show (if k < 8 then shC s00 k else none) = if k < 8 then shM s00 k else none
    by_cases hk : k < 8
    · rw [if_pos hk, if_pos hk]
      unfold shC shM
      have e1 : fi s00 (28 + 2 * k) 1 = i3 (-1) := by
        show fi0 (28 + 2 * k) 1 = _
        unfold fi0
        rw [if_neg (by omega), if_neg (by omega), if_neg (by omega), if_neg (by omega), if_pos (by omega), if_pos (by omega)]
      rw [if_pos e1, if_neg]
      show ¬ lg (List.replicate 8 0) k = i3 1
      rw [lg00]
      decide +kernel
    · rw [if_neg hk, if_neg hk]
end
