/-! ===== image, fresh, garden: the reference's calls that may make a model ===== -/
section KF
variable {s : St}
theorem rK (pc f : Nat) (r : List Value) (s : St) : t_R none 3 (.getfield f) pc 8 17 (.ref 44 :: r) (H s) = some (pc + 3, va_rf (kr s) :: r) := rfl
theorem rT (pc f : Nat) (r : List Value) (s : St) : t_R none 3 (.getfield f) pc 8 18 (.ref 44 :: r) (H s) = some (pc + 3, va_rf (tr s) :: r) := rfl
theorem pK (pc f q : Nat) (s : St) : t_W 10 (.putfield f) pc 8 17 [.ref q, .ref 44] (H s) = some (pc + 3, [], H (sK s q)) := rfl
theorem pT (pc f q : Nat) (s : St) : t_W 10 (.putfield f) pc 8 18 [.ref q, .ref 44] (H s) = some (pc + 3, [], H (sT s q)) := rfl
/-- where the next model comes to lie -/
noncomputable def nq (s : St) : Nat := 67 + 23 * nm s
theorem nq_o {s : St} (h : nm s ≤ 1) : (nq s = 67 ∧ nm s = 0) ∨ (nq s = 90 ∧ nm s = 1) := by
  unfold nq
  omega
theorem H_nw (h : nm s ≤ 1) : H s ++ mcell (H s).length = H (nw s (nq s)) := by
  rw [H_ln s (by omega)]
  rcases nq_o h with ⟨e, e2⟩ | ⟨e, e2⟩
  · rw [e, e2]; exact H_nw0 s e2
  · rw [e, e2]; exact H_nw1 s e2
theorem vN {k n : Nat} (h : k < n) : t_okv n (.ref k) = true := by
  show (decide (k < n) || decide (1000 ≤ k)) = true
  rw [decide_eq_true h]
  rfl
theorem v44 {n : Nat} (h : 44 < n) : t_okv n (.ref 44) = true := vN h
/-- a model is made, and its place is left on the stack -/
theorem w_new {d i nL pc k1 k2 : Nat} {lv : tL} {Q : t_Res → Prop} {ns : Nat} (c : KT s) (h : nm s ≤ 1) (hlv : lv = [(0, .ref 44)]) (hc1 : t_ctf i pc = some (15, .new k1, 8, 0)) (hc2 : t_ctf i (pc + 3) = some (0, .dup, 0, 0)) (hc3 : t_ctf i (pc + 4) = some (22, .invokespecial k2, 188, 0)) (k : Wp none (d + 2) i nL (pc + 7) lv [.ref (nq s), .ref 44] (H (nw s (nq s))) (ns + 31 + 775) Q) : Wp none (d + 2) i nL pc lv [.ref 44] (H s) ns Q := by
  have hl := H_ln s (by omega)
  have hok := okH c h
  have hq : (H s).length = nq s := hl
  subst hlv
  refine w_A (add := [.inr (8, fs0)]) (n1 := 31) (pc' := pc + 3) (st' := [.ref (H s).length, .ref 44]) hc1 (by decide) rfl ?_ ?_
  · show (t_okh (H s).length (H s) && ((t_okv (H s).length (.ref 44) && true) && ((t_okv (H s).length (.ref 44) && true) && decide ((H s).length + 1 ≤ 1000)))) = true
    rw [hok, v44 (by omega), decide_eq_true (by omega)]
    rfl
  refine w_P (pc' := pc + 4) (lv' := [(0, .ref 44)]) (st' := [.ref (H s).length, .ref (H s).length, .ref 44]) hc2 (by decide) rfl ?_
  obtain ⟨n, e⟩ := (new_M (d := d) hok (by rw [hl]; omega)).ex
  refine w_call (nL' := 1) (na := 0) (rc := 8) (n1 := n) (m1 := 775) (vs := [.ref (H s).length]) (rest := [.ref (H s).length, .ref 44]) (r := none) (th' := H s ++ mcell (H s).length) hc3 (by decide) rfl rfl ⟨Nat.le_of_ble_eq_true rfl, Nat.le_of_ble_eq_true rfl⟩ e (Or.inr ?_) ?_
  · rw [List.length_append]
    show ((t_okv ((H s).length + 1) (.ref 44) && true) && (t_okv ((H s).length + 1) (.ref (H s).length) && (t_okv ((H s).length + 1) (.ref 44) && true))) = true
    rw [v44 (by omega), vN (by omega)]
    rfl
  · rw [H_nw h, hq]
    exact k
theorem KO_keep (c : KO s) (h : kr s = none) : nm s ≤ 1 ∧ KT (sK (nw s (nq s)) (nq s)) ∧ (∀ o, tr s = some o → o ≠ nq s ∧ md (nw s (nq s)) o = md s o) := by
  obtain ⟨c1, c2, c3⟩ := c
  unfold nq
  rcases c1 with ⟨e1, e2, e3⟩ | ⟨e1, e2, e3⟩ | ⟨e1, e2, e3⟩ | ⟨e1, e2, e3⟩ | ⟨e1, e2, e3⟩
  · rw [e1]
    refine ⟨by omega, Or.inr (Or.inl ⟨?_, rfl, ?_⟩), fun o ho => by rw [e3] at ho; cases ho⟩
    · show nm s + 1 = 1
      omega
    · exact e3
  · rw [e2] at h; cases h
  · rw [e1]
    refine ⟨by omega, Or.inr (Or.inr (Or.inr (Or.inr ⟨?_, rfl, ?_⟩))), fun o ho => ?_⟩
    · show nm s + 1 = 2
      omega
    · exact e3
    · rw [e3] at ho
      cases ho
      exact ⟨by omega, rfl⟩
  · rw [e2] at h; cases h
  · rw [e2] at h; cases h
theorem KO_try (c : KO s) (h : tr s = none) : nm s ≤ 1 ∧ KT (sT (nw s (nq s)) (nq s)) ∧ (∀ o, kr s = some o → o ≠ nq s ∧ md (nw s (nq s)) o = md s o) := by
  obtain ⟨c1, c2, c3⟩ := c
  unfold nq
  rcases c1 with ⟨e1, e2, e3⟩ | ⟨e1, e2, e3⟩ | ⟨e1, e2, e3⟩ | ⟨e1, e2, e3⟩ | ⟨e1, e2, e3⟩
  · rw [e1]
    refine ⟨by omega, Or.inr (Or.inr (Or.inl ⟨?_, ?_, rfl⟩)), fun o ho => by rw [e2] at ho; cases ho⟩
    · show nm s + 1 = 1
      omega
    · exact e2
  · rw [e1]
    refine ⟨by omega, Or.inr (Or.inr (Or.inr (Or.inl ⟨?_, ?_, rfl⟩))), fun o ho => ?_⟩
    · show nm s + 1 = 2
      omega
    · exact e2
    · rw [e2] at ho
      cases ho
      exact ⟨by omega, rfl⟩
  · rw [e3] at h; cases h
  · rw [e3] at h; cases h
  · rw [e3] at h; cases h
theorem KT.nm2 (c : KT s) : nm s ≤ 2 := by
  rcases c with ⟨e, -⟩ | ⟨e, -⟩ | ⟨e, -⟩ | ⟨e, -⟩ | ⟨e, -⟩ <;> omega
theorem KT.ne (c : KT s) {a b : Nat} (h1 : kr s = some a) (h2 : tr s = some b) : a ≠ b := by
  rcases c with ⟨e1, e2, e3⟩ | ⟨e1, e2, e3⟩ | ⟨e1, e2, e3⟩ | ⟨e1, e2, e3⟩ | ⟨e1, e2, e3⟩ <;> rw [e2] at h1 <;> rw [e3] at h2 <;> cases h1 <;> cases h2 <;> omega
/-- the model at a place has taken the garden over -/
theorem take_MI {s1 : St} {q : Nat} (c : MI s) (hq : q = 67 ∨ q = 90) (a : ∀ p, p < 67 → ia s1 p = ia s p) (l : ∀ p, p < 67 → la s1 p = la s p) (f : ∀ o k, o < 67 → fi s1 o k = fi s o k) (hm : md s1 44 = md s 44) (kt : KT s1) (ho : ∀ o, o ≠ q → kr s1 = some o → ok (md s1 o)) (ht : ∀ o, o ≠ q → tr s1 = some o → sh (md s1 o)) : MI (wM s1 q (md s1 44)) ∧ eC s (wM s1 q (md s1 44)) ∧ abM (wM s1 q (md s1 44)) = ((abM s).1, kpM (wM s1 q (md s1 44)), (abM s).2.2) := by
  obtain ⟨w1, w2, w3⟩ := wM_lo (s := s1) (q := q) (by omega) (md s1 44)
  refine MI_bes c (fun p hp => (w1 p hp).trans (a p hp)) (fun p hp => (w2 p hp).trans (l p hp)) (fun o k h => (w3 o k h).trans (f o k h)) ⟨kt, fun o h => ?_, fun o h => ?_⟩
  · by_cases e : o = q
    · rw [e, md_wM, hm]
      exact c.1.1
    · rw [md_ne s1 (md s1 44) (by omega) (kt.o (Or.inl h)) (fun e' => e e'.symm)]
      exact ho o e h
  · by_cases e : o = q
    · rw [e, md_wM, hm]
      exact c.1.1.sh
    · rw [md_ne s1 (md s1 44) (by omega) (kt.o (Or.inr h)) (fun e' => e e'.symm)]
      exact ht o e h
theorem isK.o {o : Nat} (h : isK s o) : o = 67 ∨ o = 90 := by
  rcases h with ⟨e, -⟩ | ⟨e, -⟩
  · exact Or.inl e
  · exact Or.inr e
theorem run_301 (c : MI s) : ∃ n s' m1, t_exec t_ctf t_mif n none 10 301 1 0 [(0, .ref 44)] [] (H s) 0 = some (some (.int (i3 1)), H s', m1) ∧ MI s' ∧ eC s s' ∧ abM s' = ((abM s).1, some (md s 44), (abM s).2.2) ∧ m1 + 806 * nm s = 806 * nm s' := by
  have kt := c.2.2.2.1.1
  have n2 := kt.nm2
  -- from here on the model is there
  have tail : ∀ (s1 : St) (q ns : Nat), kr s1 = some q → isK s1 q → sh (md s1 q) → sh (md s1 44) → nm s1 ≤ 2 → Wp none 10 301 1 18 [(0, .ref 44)] [] (H s1) ns (fun res => res = (some (.int (i3 1)), H (wM s1 q (md s1 44)), ns)) := fun s1 q ns e hk h1 h2 hn => by
    obtain ⟨n, ex⟩ := take_run (d := 7) hk h1 h2 hn
    obtain ⟨fs, hfs⟩ := gC_ex (r_d (s := s1) (Or.inr hk)).1
    have hl1 := H_ln s1 hn
    have hl2 := H_ln (wM s1 q (md s1 44)) hn
    refine w_P rfl (by decide) rfl ?_
    refine w_R (pc' := 22) (st' := [.ref q]) rfl (by decide) (Eq.trans (rK _ _ [] _) (by rw [e]; rfl)) ?_
    refine w_P rfl (by decide) rfl ?_
    refine w_call (d := 9) (nL' := 2) (na := 1) (rc := 8) (vs := [.ref q, .ref 44]) (rest := []) rfl (by decide) rfl (t_cutV (A := [.ref 44]) (rest := []) rfl hfs) ⟨by decide, Nat.le_of_ble_eq_true rfl⟩ ex (Or.inl (by rw [hl1, hl2]; rfl)) ?_
    refine w_P (st' := [.int (i3 1)]) rfl (by decide) rfl ?_
    exact w_ret (r := some (.int (i3 1))) rfl (by decide) rfl rfl
  cases hk : kr s with
  | some q =>
    have kK := c.2.2.2.1.kK hk
    have hok := c.2.2.2.1.2.1 q hk
    obtain ⟨n, e⟩ := (show Wp none 10 301 1 0 [(0, .ref 44)] [] (H s) 0 (fun res => res = (some (.int (i3 1)), H (wM s q (md s 44)), 0)) from by
      refine w_P rfl (by decide) rfl ?_
      refine w_R (pc' := 4) (st' := [.ref q]) rfl (by decide) (Eq.trans (rK _ _ [] _) (by rw [hk]; rfl)) ?_
      refine w_P (pc' := 18) (lv' := [(0, .ref 44)]) (st' := []) rfl (by decide) rfl ?_
      exact tail s q 0 hk kK hok.sh c.1.1.sh n2).ex
    obtain ⟨y1, y2, y3⟩ := take_MI (s1 := s) c kK.o (fun _ _ => rfl) (fun _ _ => rfl) (fun _ _ _ => rfl) rfl kt (fun o _ h => c.2.2.2.1.2.1 o h) (fun o _ h => c.2.2.2.1.2.2 o h)
    refine ⟨n, _, 0, e, y1, y2, ?_, Nat.zero_add _⟩
    rw [y3]
    have e3 : kpM (wM s q (md s 44)) = some (md s 44) := by
      unfold kpM
      rw [show kr (wM s q (md s 44)) = some q from hk]
      show some (md (wM s q (md s 44)) q) = _
      rw [md_wM]
    rw [e3]
  | none =>
    obtain ⟨n1, kt1, ho⟩ := KO_keep c.2.2.2.1 hk
    have q0 : nq s = 67 ∨ nq s = 90 := (nq_o n1).elim (fun e => Or.inl e.1) (fun e => Or.inr e.1)
    obtain ⟨w1, w2, w3⟩ := nw_lo (s := s) (q := nq s) (by omega)
    have hmd : md (sK (nw s (nq s)) (nq s)) 44 = md s 44 := by
      unfold md
      show (fi (nw s (nq s)) 44 9, fi (nw s (nq s)) 44 10, fi (nw s (nq s)) 44 14, fi (nw s (nq s)) 44 16, ia (nw s (nq s)) 61, ia (nw s (nq s)) 62, ia (nw s (nq s)) 63, ia (nw s (nq s)) 64) = _
      rw [w3 44 _ (by omega), w3 44 _ (by omega), w3 44 _ (by omega), w3 44 _ (by omega), w1 _ (by omega), w1 _ (by omega), w1 _ (by omega), w1 _ (by omega)]
    have kK : isK (sK (nw s (nq s)) (nq s)) (nq s) := by
      show (nq s = 67 ∧ 1 ≤ nm s + 1) ∨ (nq s = 90 ∧ 2 ≤ nm s + 1)
      rcases nq_o n1 with ⟨e, e2⟩ | ⟨e, e2⟩ <;> omega
    obtain ⟨n, e⟩ := (show Wp none 10 301 1 0 [(0, .ref 44)] [] (H s) 0 (fun res => res = (some (.int (i3 1)), H (wM (sK (nw s (nq s)) (nq s)) (nq s) (md (sK (nw s (nq s)) (nq s)) 44)), 806)) from by
      refine w_P rfl (by decide) rfl ?_
      refine w_R (pc' := 4) (st' := [.null]) rfl (by decide) (Eq.trans (rK _ _ [] _) (by rw [hk]; rfl)) ?_
      refine w_P (pc' := 7) (lv' := [(0, .ref 44)]) (st' := []) rfl (by decide) rfl ?_
      refine w_P rfl (by decide) rfl ?_
      refine w_new kt n1 rfl rfl rfl rfl ?_
      refine w_W rfl (by decide) (pK _ _ _ _) ?_
      exact tail (sK (nw s (nq s)) (nq s)) (nq s) 806 rfl kK (sh_nw s q0) (by rw [hmd]; exact c.1.1.sh) kt1.nm2).ex
    obtain ⟨y1, y2, y3⟩ := take_MI (s1 := sK (nw s (nq s)) (nq s)) c q0 w1 w2 w3 hmd kt1 (fun o h1 h2 => by cases h2; exact absurd rfl h1) (fun o h1 h2 => by
      have := ho o h2
      rw [show md (sK (nw s (nq s)) (nq s)) o = md (nw s (nq s)) o from rfl, this.2]
      exact c.2.2.2.1.2.2 o h2)
    refine ⟨n, _, 806, e, y1, y2, ?_, by show 806 + 806 * nm s = 806 * (nm s + 1); omega⟩
    rw [y3]
    have e3 : kpM (wM (sK (nw s (nq s)) (nq s)) (nq s) (md (sK (nw s (nq s)) (nq s)) 44)) = some (md s 44) := by
      show some (md (wM (sK (nw s (nq s)) (nq s)) (nq s) (md (sK (nw s (nq s)) (nq s)) 44)) (nq s)) = _
      rw [md_wM, hmd]
    rw [e3]
theorem run_298 (c : MI s) : ∃ n s' m1 o, t_exec t_ctf t_mif n none 9 298 1 0 [(0, .ref 44)] [] (H s) 0 = some (some (.ref o), H s', m1) ∧ tr s' = some o ∧ md s' o = md s 44 ∧ MI s' ∧ eC s s' ∧ abM s' = abM s ∧ m1 + 806 * nm s = 806 * nm s' ∧ (∀ p, p < 67 → ia s' p = ia s p) ∧ (∀ o k, o < 67 → fi s' o k = fi s o k) := by
  have kt := c.2.2.2.1.1
  have n2 := kt.nm2
  have tail : ∀ (s1 : St) (q ns : Nat), tr s1 = some q → isK s1 q → sh (md s1 q) → sh (md s1 44) → nm s1 ≤ 2 → Wp none 9 298 1 18 [(0, .ref 44)] [] (H s1) ns (fun res => res = (some (.ref q), H (wM s1 q (md s1 44)), ns)) := fun s1 q ns e hk h1 h2 hn => by
    obtain ⟨n, ex⟩ := take_run (d := 6) hk h1 h2 hn
    obtain ⟨fs, hfs⟩ := gC_ex (r_d (s := s1) (Or.inr hk)).1
    have hl1 := H_ln s1 hn
    have hl2 := H_ln (wM s1 q (md s1 44)) hn
    refine w_P rfl (by decide) rfl ?_
    refine w_R (pc' := 22) (st' := [.ref q]) rfl (by decide) (Eq.trans (rT _ _ [] _) (by rw [e]; rfl)) ?_
    refine w_P rfl (by decide) rfl ?_
    refine w_call (d := 8) (nL' := 2) (na := 1) (rc := 8) (vs := [.ref q, .ref 44]) (rest := []) rfl (by decide) rfl (t_cutV (A := [.ref 44]) (rest := []) rfl hfs) ⟨by decide, Nat.le_of_ble_eq_true rfl⟩ ex (Or.inl (by rw [hl1, hl2]; rfl)) ?_
    refine w_P rfl (by decide) rfl ?_
    refine w_R (pc' := 30) (st' := [.ref q]) rfl (by decide) (Eq.trans (rT _ _ [] _) (by rw [show tr (wM s1 q (md s1 44)) = tr s1 from rfl, e]; rfl)) ?_
    exact w_ret (r := some (.ref q)) rfl (by decide) rfl rfl
  cases hk : tr s with
  | some q =>
    have kK := c.2.2.2.1.tK hk
    have hsh := c.2.2.2.1.2.2 q hk
    obtain ⟨n, e⟩ := (show Wp none 9 298 1 0 [(0, .ref 44)] [] (H s) 0 (fun res => res = (some (.ref q), H (wM s q (md s 44)), 0)) from by
      refine w_P rfl (by decide) rfl ?_
      refine w_R (pc' := 4) (st' := [.ref q]) rfl (by decide) (Eq.trans (rT _ _ [] _) (by rw [hk]; rfl)) ?_
      refine w_P (pc' := 18) (lv' := [(0, .ref 44)]) (st' := []) rfl (by decide) rfl ?_
      exact tail s q 0 hk kK hsh c.1.1.sh n2).ex
    obtain ⟨y1, y2, y3⟩ := take_MI (s1 := s) c kK.o (fun _ _ => rfl) (fun _ _ => rfl) (fun _ _ _ => rfl) rfl kt (fun o _ h => c.2.2.2.1.2.1 o h) (fun o _ h => c.2.2.2.1.2.2 o h)
    obtain ⟨v1, v2, v3⟩ := wM_lo (s := s) (q := q) (by have := kK.o; omega) (md s 44)
    refine ⟨n, _, 0, q, e, hk, md_wM _ _ _, y1, y2, ?_, Nat.zero_add _, v1, v3⟩
    rw [y3]
    have e3 : kpM (wM s q (md s 44)) = kpM s := by
      unfold kpM
      rw [show kr (wM s q (md s 44)) = kr s from rfl]
      cases h : kr s with
      | none => rfl
      | some o =>
        show some (md (wM s q (md s 44)) o) = some (md s o)
        rw [md_ne s (md s 44) (by have := kK.o; omega) (kt.o (Or.inl h)) (fun e' => kt.ne h hk e'.symm)]
    rw [e3]
    rfl
  | none =>
    obtain ⟨n1, kt1, ho⟩ := KO_try c.2.2.2.1 hk
    have q0 : nq s = 67 ∨ nq s = 90 := (nq_o n1).elim (fun e => Or.inl e.1) (fun e => Or.inr e.1)
    obtain ⟨w1, w2, w3⟩ := nw_lo (s := s) (q := nq s) (by omega)
    have hmd : md (sT (nw s (nq s)) (nq s)) 44 = md s 44 := by
      unfold md
      show (fi (nw s (nq s)) 44 9, fi (nw s (nq s)) 44 10, fi (nw s (nq s)) 44 14, fi (nw s (nq s)) 44 16, ia (nw s (nq s)) 61, ia (nw s (nq s)) 62, ia (nw s (nq s)) 63, ia (nw s (nq s)) 64) = _
      rw [w3 44 _ (by omega), w3 44 _ (by omega), w3 44 _ (by omega), w3 44 _ (by omega), w1 _ (by omega), w1 _ (by omega), w1 _ (by omega), w1 _ (by omega)]
    have kK : isK (sT (nw s (nq s)) (nq s)) (nq s) := by
      show (nq s = 67 ∧ 1 ≤ nm s + 1) ∨ (nq s = 90 ∧ 2 ≤ nm s + 1)
      rcases nq_o n1 with ⟨e, e2⟩ | ⟨e, e2⟩ <;> omega
    obtain ⟨n, e⟩ := (show Wp none 9 298 1 0 [(0, .ref 44)] [] (H s) 0 (fun res => res = (some (.ref (nq s)), H (wM (sT (nw s (nq s)) (nq s)) (nq s) (md (sT (nw s (nq s)) (nq s)) 44)), 806)) from by
      refine w_P rfl (by decide) rfl ?_
      refine w_R (pc' := 4) (st' := [.null]) rfl (by decide) (Eq.trans (rT _ _ [] _) (by rw [hk]; rfl)) ?_
      refine w_P (pc' := 7) (lv' := [(0, .ref 44)]) (st' := []) rfl (by decide) rfl ?_
      refine w_P rfl (by decide) rfl ?_
      refine w_new kt n1 rfl rfl rfl rfl ?_
      refine w_W rfl (by decide) (pT _ _ _ _) ?_
      exact tail (sT (nw s (nq s)) (nq s)) (nq s) 806 rfl kK (sh_nw s q0) (by rw [hmd]; exact c.1.1.sh) kt1.nm2).ex
    obtain ⟨y1, y2, y3⟩ := take_MI (s1 := sT (nw s (nq s)) (nq s)) c q0 w1 w2 w3 hmd kt1 (fun o h1 h2 => by
      have := ho o h2
      rw [show md (sT (nw s (nq s)) (nq s)) o = md (nw s (nq s)) o from rfl, this.2]
      exact c.2.2.2.1.2.1 o h2) (fun o h1 h2 => by cases h2; exact absurd rfl h1)
    obtain ⟨v1, v2, v3⟩ := wM_lo (s := sT (nw s (nq s)) (nq s)) (q := nq s) (by omega) (md (sT (nw s (nq s)) (nq s)) 44)
    refine ⟨n, _, 806, nq s, e, rfl, (md_wM _ _ _).trans hmd, y1, y2, ?_, by show 806 + 806 * nm s = 806 * (nm s + 1); omega, fun p hp => (v1 p hp).trans (w1 p hp), fun o k h => (v3 o k h).trans (w3 o k h)⟩
    rw [y3]
    have e3 : kpM (wM (sT (nw s (nq s)) (nq s)) (nq s) (md (sT (nw s (nq s)) (nq s)) 44)) = kpM s := by
      unfold kpM
      rw [show kr (wM (sT (nw s (nq s)) (nq s)) (nq s) (md (sT (nw s (nq s)) (nq s)) 44)) = kr s from rfl]
      cases h : kr s with
      | none => rfl
      | some o =>
        have h2 := ho o h
        show some (md (wM (sT (nw s (nq s)) (nq s)) (nq s) (md (sT (nw s (nq s)) (nq s)) 44)) o) = some (md s o)
        rw [md_ne _ _ (by omega) (kt.o (Or.inl h)) (fun e' => h2.1 e'.symm)]
        exact congrArg some h2.2
    rw [e3]
    rfl
end KF
