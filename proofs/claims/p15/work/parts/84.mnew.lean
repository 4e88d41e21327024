/-! ===== a new model beside ===== -/
section WN
variable {xo : Option (List Int32)} {d i nL pc cat a1 a2 pc' : Nat} {ins : Instr} {lv lv' : tL} {st st' : List Value} {th : tH} {ns : Nat} {Q : t_Res → Prop}
theorem w_W {th2 : tH} (hc : t_ctf i pc = some (cat, ins, a1, a2)) (h3 : ¬ cat < 3 ∧ ¬ cat < 8 ∧ cat < 15) (hp : t_W cat ins pc a1 a2 st th = some (pc', st', th2)) (k : Wp xo (d + 1) i nL pc' lv st' th2 ns Q) : Wp xo (d + 1) i nL pc lv st th ns Q := by
  obtain ⟨n, res, h1, h2⟩ := k
  refine ⟨n + 1, res, ?_, h2⟩
  rw [t_exec_s]
  unfold t_step
  rw [hc]
  dsimp only
  rw [if_neg h3.1, if_neg h3.2.1, if_pos h3.2.2, hp]
  exact h1
theorem w_O {b : Nat} {r : List Value} (hc : t_ctf i pc = some (26, ins, a1, a2)) (h8 : t_sum r ≤ 8) (k : Wp xo (d + 1) i nL (pc + 3) lv r th ns Q) : Wp xo (d + 1) i nL pc lv (.ref b :: r) th ns Q := by
  obtain ⟨n, res, h1, h2⟩ := k
  refine ⟨n + 1, res, ?_, h2⟩
  rw [t_exec_s]
  unfold t_step
  rw [hc]
  dsimp only
  rw [if_neg (by omega), if_neg (by omega), if_neg (by omega), if_neg (by omega), if_pos (by omega), if_pos rfl, if_pos h8]
  exact h1
end WN
theorem okv_m {n m : Nat} (h : n ≤ m) {v : Value} (hv : t_okv n v = true) : t_okv m v = true := by
  cases v <;> try rfl
  simp only [t_okv, Bool.or_eq_true, decide_eq_true_eq] at hv ⊢
  rcases hv with e | e
  · exact Or.inl (Nat.lt_of_lt_of_le e h)
  · exact Or.inr e
theorem oko_m {n m : Nat} (h : n ≤ m) {v : Option Nat} (hv : t_oko n v = true) : t_oko m v = true := by
  cases v with
  | none => rfl
  | some k =>
    simp only [t_oko, Bool.or_eq_true, decide_eq_true_eq] at hv ⊢
    rcases hv with e | e
    · exact Or.inl (Nat.lt_of_lt_of_le e h)
    · exact Or.inr e
theorem oke_m {n m : Nat} (h : n ≤ m) {e : tE} (he : t_oke n e = true) : t_oke m e = true := by
  rcases e with ⟨k, a | b | c⟩ | ⟨k, fs⟩
  · rfl
  · rfl
  · exact List.all_eq_true.mpr (fun v hv => oko_m h (List.all_eq_true.mp he v hv))
  · exact List.all_eq_true.mpr (fun v hv => okv_m h (List.all_eq_true.mp he v hv))
theorem okh_m {n m : Nat} (h : n ≤ m) {th : tH} (he : t_okh n th = true) : t_okh m th = true := List.all_eq_true.mpr (fun v hv => oke_m h (List.all_eq_true.mp he v hv))
theorem okh_app {n : Nat} {a b : tH} (h1 : t_okh n a = true) (h2 : t_okh n b = true) : t_okh n (a ++ b) = true := by
  unfold t_okh at *
  rw [List.all_append, h1, h2]
  rfl
theorem get_app {th : tH} {e : tE} {zs : tH} : (th ++ e :: zs)[th.length]? = some e := by
  rw [List.getElem?_append_right (Nat.le_refl _), Nat.sub_self]
  rfl
theorem set_app {th : tH} {e e' : tE} {zs : tH} : (th ++ e :: zs).set th.length e' = th ++ e' :: zs := by
  rw [List.set_append_right _ _ (Nat.le_refl _), Nat.sub_self]
  rfl
/-- the cells are in order, and the new object among them -/
noncomputable def nOK (th : tH) (fs : List Value) (zs : tH) : Prop := t_okh (th.length + 1 + zs.length) (th ++ .inr (8, fs) :: zs) = true
theorem nOK.all {th : tH} {fs : List Value} {zs : tH} (h : nOK th fs zs) : t_okh (th.length + 1 + zs.length) th = true ∧ fs.all (t_okv (th.length + 1 + zs.length)) = true ∧ t_okh (th.length + 1 + zs.length) zs = true := by
  unfold nOK t_okh at h
  rw [List.all_append, List.all_cons, Bool.and_eq_true, Bool.and_eq_true] at h
  exact ⟨h.1, h.2.1, h.2.2⟩
theorem nOK.set {th : tH} {fs : List Value} {zs add : tH} (h : nOK th fs zs) {k : Nat} (hadd : t_okh (th.length + 1 + (zs ++ add).length) add = true) (ha : 0 < add.length) : nOK th (fs.set k (.ref (th.length + 1 + zs.length))) (zs ++ add) := by
  obtain ⟨h1, h2, h3⟩ := h.all
  have le : th.length + 1 + zs.length ≤ th.length + 1 + (zs ++ add).length := by rw [List.length_append]; omega
  have a1 := okh_m le h1
  have a3 := okh_m le h3
  unfold nOK
  refine okh_app a1 ?_
  show (t_oke _ _ && t_okh _ (zs ++ add)) = true
  rw [okh_app a3 hadd, Bool.and_true]
  refine List.all_eq_true.mpr (fun v hv => ?_)
  rcases List.mem_or_eq_of_mem_set hv with e | e
  · exact okv_m le (List.all_eq_true.mp h2 v e)
  · rw [e]
    simp only [t_okv, Bool.or_eq_true, decide_eq_true_eq]
    left
    show th.length + 1 + zs.length < th.length + 1 + (zs ++ add).length
    rw [List.length_append]
    omega
theorem nOK.int {th : tH} {fs : List Value} {zs : tH} (h : nOK th fs zs) {k : Nat} {x : Int32} : nOK th (fs.set k (.int x)) zs := by
  obtain ⟨h1, h2, h3⟩ := h.all
  unfold nOK
  refine okh_app h1 ?_
  show (t_oke _ _ && t_okh _ zs) = true
  rw [h3, Bool.and_true]
  refine List.all_eq_true.mpr (fun v hv => ?_)
  rcases List.mem_or_eq_of_mem_set hv with e | e
  · exact List.all_eq_true.mp h2 v e
  · rw [e]
    rfl
section NW
variable {d ns : Nat} {th : tH} {fs : List Value} {zs : tH} {Q : t_Res → Prop}
/-- cells are made, and their first goes into a field -/
theorem n_gen {pc2 pc3 q k n cat a1 : Nat} {ins : Instr} {st : List Value} {add : tH} (h : nOK th fs zs) (hb : th.length + 1 + zs.length + add.length ≤ 1000) (hcA : t_ctf 188 pc2 = some (cat, ins, a1, 0)) (hcat : ¬ cat < 3 ∧ ¬ cat < 8 ∧ ¬ cat < 15 ∧ cat < 20) (hst : st.all (t_okv (th.length + 1 + zs.length)) = true) (hA : t_A ins pc2 a1 st (th.length + 1 + zs.length) = some (pc3, [.ref (th.length + 1 + zs.length), .ref th.length], add, n)) (hcP : t_ctf 188 pc3 = some (11, .putfield q, 8, k)) (hk : k < fs.length) (hadd : t_okh (th.length + 1 + (zs ++ add).length) add = true) (ha : 0 < add.length) (kk : nOK th (fs.set k (.ref (th.length + 1 + zs.length))) (zs ++ add) → Wp none (d + 1) 188 1 (pc3 + 3) [(0, .ref th.length)] [] (th ++ .inr (8, fs.set k (.ref (th.length + 1 + zs.length))) :: (zs ++ add)) (ns + n) Q) : Wp none (d + 1) 188 1 pc2 [(0, .ref th.length)] st (th ++ .inr (8, fs) :: zs) ns Q := by
  have hl : (th ++ .inr (8, fs) :: zs).length = th.length + 1 + zs.length := by
    rw [List.length_append, List.length_cons]; omega
  refine w_A (add := add) (n1 := n) (pc' := pc3) (st' := [.ref (th.length + 1 + zs.length), .ref th.length]) hcA hcat (by rw [hl]; exact hA) ?_ ?_
  · rw [hl]
    have h' : t_okh (th.length + 1 + zs.length) (th ++ .inr (8, fs) :: zs) = true := h
    rw [h', hst]
    have e1 : t_okl (th.length + 1 + zs.length) [(0, .ref th.length)] = true := by
      simp only [t_okl, List.all_cons, List.all_nil, Bool.and_true, t_okv, Bool.or_eq_true, decide_eq_true_eq]
      left
      show th.length < th.length + 1 + zs.length
      omega
    rw [e1]
    simp only [Bool.true_and, decide_eq_true_eq]
    exact hb
  · refine w_W (pc' := pc3 + 3) (st' := []) (th2 := th ++ .inr (8, fs.set k (.ref (th.length + 1 + zs.length))) :: (zs ++ add)) hcP (by decide) ?_ (kk (h.set hadd ha))
    rw [List.append_assoc, List.cons_append]
    generalize hFS : (.inr (8, fs) : tE) = FS
    show (match (th ++ FS :: (zs ++ add))[th.length]? with
      | some (.inr (c, fs)) => if c = 8 ∧ k < fs.length ∧ t_fit 11 (.ref (th.length + 1 + zs.length)) = true then some (pc3 + 3, [], (th ++ FS :: (zs ++ add)).set th.length (.inr (c, fs.set k (.ref (th.length + 1 + zs.length))))) else none
      | _ => none) = _
    rw [get_app, ← hFS]
    dsimp only
    rw [if_pos ⟨rfl, hk, rfl⟩, set_app]
theorem n_I {pc2 q k n : Nat} {z : Int32} (hz : z = i3 (n : Int)) (hn : n ≤ 1000) (h : nOK th fs zs) (hb : th.length + 1 + zs.length + 1 ≤ 1000) (hcA : t_ctf 188 pc2 = some (16, .newarray .int, 0, 0)) (hcP : t_ctf 188 (pc2 + 2) = some (11, .putfield q, 8, k)) (hk : k < fs.length) (kk : nOK th (fs.set k (.ref (th.length + 1 + zs.length))) (zs ++ [.inl (0, .inl (List.replicate n 0))]) → Wp none (d + 1) 188 1 (pc2 + 5) [(0, .ref th.length)] [] (th ++ .inr (8, fs.set k (.ref (th.length + 1 + zs.length))) :: (zs ++ [.inl (0, .inl (List.replicate n 0))])) (ns + n) Q) : Wp none (d + 1) 188 1 pc2 [(0, .ref th.length)] [.int z, .ref th.length] (th ++ .inr (8, fs) :: zs) ns Q := by
  refine n_gen (n := n) (add := [.inl (0, .inl (List.replicate n 0))]) h hb hcA (by decide) ?_ ?_ hcP hk rfl (Nat.zero_lt_one) kk
  · simp only [List.all_cons, List.all_nil, t_okv, Bool.true_and, Bool.and_true, Bool.or_eq_true, decide_eq_true_eq]
    left
    show th.length < th.length + 1 + zs.length
    omega
  · rw [hz]
    show (if ¬ i3 (n : Int) < 0 ∧ (i3 (n : Int)).toNatClampNeg ≤ 1000 then _ else none) = _
    rw [cl_i3 (by omega), if_pos ⟨i3n_nneg (by omega), hn⟩]
theorem n_J {pc2 q k n : Nat} {z : Int32} (hz : z = i3 (n : Int)) (hn : n ≤ 1000) (h : nOK th fs zs) (hb : th.length + 1 + zs.length + 1 ≤ 1000) (hcA : t_ctf 188 pc2 = some (16, .newarray .long, 0, 0)) (hcP : t_ctf 188 (pc2 + 2) = some (11, .putfield q, 8, k)) (hk : k < fs.length) (kk : nOK th (fs.set k (.ref (th.length + 1 + zs.length))) (zs ++ [.inl (1, .inr (.inl (List.replicate n 0)))]) → Wp none (d + 1) 188 1 (pc2 + 5) [(0, .ref th.length)] [] (th ++ .inr (8, fs.set k (.ref (th.length + 1 + zs.length))) :: (zs ++ [.inl (1, .inr (.inl (List.replicate n 0)))])) (ns + n) Q) : Wp none (d + 1) 188 1 pc2 [(0, .ref th.length)] [.int z, .ref th.length] (th ++ .inr (8, fs) :: zs) ns Q := by
  refine n_gen (n := n) (add := [.inl (1, .inr (.inl (List.replicate n 0)))]) h hb hcA (by decide) ?_ ?_ hcP hk rfl (Nat.zero_lt_one) kk
  · simp only [List.all_cons, List.all_nil, t_okv, Bool.true_and, Bool.and_true, Bool.or_eq_true, decide_eq_true_eq]
    left
    show th.length < th.length + 1 + zs.length
    omega
  · rw [hz]
    show (if ¬ i3 (n : Int) < 0 ∧ (i3 (n : Int)).toNatClampNeg ≤ 1000 then _ else none) = _
    rw [cl_i3 (by omega), if_pos ⟨i3n_nneg (by omega), hn⟩]
/-- an int goes into a field -/
theorem n_F {pc2 q k : Nat} {z : Int32} (h : nOK th fs zs) (hcP : t_ctf 188 pc2 = some (8, .putfield q, 8, k)) (hk : k < fs.length) (kk : nOK th (fs.set k (.int z)) zs → Wp none (d + 1) 188 1 (pc2 + 3) [(0, .ref th.length)] [] (th ++ .inr (8, fs.set k (.int z)) :: zs) ns Q) : Wp none (d + 1) 188 1 pc2 [(0, .ref th.length)] [.int z, .ref th.length] (th ++ .inr (8, fs) :: zs) ns Q := by
  refine w_W (pc' := pc2 + 3) (st' := []) (th2 := th ++ .inr (8, fs.set k (.int z)) :: zs) hcP (by decide) ?_ (kk h.int)
  generalize hFS : (.inr (8, fs) : tE) = FS
  show (match (th ++ FS :: zs)[th.length]? with
    | some (.inr (c, fs)) => if c = 8 ∧ k < fs.length ∧ t_fit 8 (.int z) = true then some (pc2 + 3, [], (th ++ FS :: zs).set th.length (.inr (c, fs.set k (.int z)))) else none
    | _ => none) = _
  rw [get_app, ← hFS]
  dsimp only
  rw [if_pos ⟨rfl, hk, rfl⟩, set_app]
end NW
