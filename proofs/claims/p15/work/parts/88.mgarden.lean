/-! ===== the reference's garden, out of a tape ===== -/
section GA
variable {s : St}
theorem uvI {s1 s2 : St} (c : MI s1) (u : uv s1 s2) {g : Gd} (hg : ok g) : MJ (wM (sf s2 44 7 (i3 0)) 44 g) ∧ eC s1 (wM (sf s2 44 7 (i3 0)) 44 g) ∧ abM (wM (sf s2 44 7 (i3 0)) 44 g) = (g, (abM s1).2.1, (ia s1 59, i3 0), (abM s1).2.2.2) ∧ (g = md s1 44 → MI (wM (sf s2 44 7 (i3 0)) 44 g)) := by
  obtain ⟨c1, c2, c3, c4, c5⟩ := c
  obtain ⟨u1, u2, u3, u4, u5⟩ := u
  have sh2 : sh (md s2 44) := ⟨(u5 61).trans c1.1.sh.1, (u5 62).trans c1.1.sh.2.1, (u5 63).trans c1.1.sh.2.2.1, (u5 64).trans c1.1.sh.2.2.2⟩
  generalize hS : wM (sf s2 44 7 (i3 0)) 44 g = S
  have m44 : md S 44 = g := by rw [← hS, md_wM]
  have an : ∀ p, p ≠ 65 → (p < 61 ∨ 64 < p) → ia S p = ia s1 p := fun p h1 h2 => by
    rw [← hS, ia_wM, if_neg (by omega), if_neg (by omega), if_neg (by omega), if_neg (by omega)]
    exact u1 p h1 h2
  have ln : ∀ p, la S p = la s1 p := fun p => by rw [← hS]; exact u2 p
  have fn : ∀ o k, o ≠ 44 → fi S o k = fi s1 o k := fun o k h => by
    rw [← hS, fi_wM, if_neg (by omega), if_neg (by omega), if_neg (by omega), if_neg (by omega), fi_sf, if_neg (by omega)]
    exact u3 o k (by omega)
  have f7 : fi S 44 7 = i3 0 := by rw [← hS]; rfl
  have le : ∀ p, (ia S p).length = (ia s1 p).length := fun p => by
    rw [← hS, ia_wM]
    have q := u5 p
    split
    · rename_i e; rw [e]; exact hg.sh.1.trans c1.1.sh.1.symm
    split
    · rename_i _ e; rw [e]; exact hg.sh.2.1.trans c1.1.sh.2.1.symm
    split
    · rename_i _ _ e; rw [e]; exact hg.sh.2.2.1.trans c1.1.sh.2.2.1.symm
    split
    · rename_i _ _ _ e; rw [e]; exact hg.sh.2.2.2.trans c1.1.sh.2.2.2.symm
    exact q
  have kr0 : kr S = kr s1 := by rw [← hS]; exact congrArg (·.1) u4
  have tr0 : tr S = tr s1 := by rw [← hS]; exact congrArg (·.2.1) u4
  have nm0 : nm S = nm s1 := by rw [← hS]; exact congrArg (·.2.2) u4
  have mk : ∀ o, (o = 67 ∨ o = 90) → md S o = md s1 o := fun o ho => by
    unfold md
    rw [fn o _ (by omega), fn o _ (by omega), fn o _ (by omega), fn o _ (by omega), an _ (by omega) (by omega), an _ (by omega) (by omega), an _ (by omega) (by omega), an _ (by omega) (by omega)]
  have kk : ∀ o, (kr s1 = some o ∨ tr s1 = some o) → o = 67 ∨ o = 90 := fun o h => h.elim (fun e => (c4.kK e).o) (fun e => (c4.tK e).o)
  have ko : KO S := by
    refine ⟨?_, fun o ho => ?_, fun o ho => ?_⟩
    · unfold KT
      rw [kr0, tr0, nm0]
      exact c4.1
    · rw [kr0] at ho
      rw [mk o (kk o (Or.inl ho))]
      exact c4.2.1 o ho
    · rw [tr0] at ho
      rw [mk o (kk o (Or.inr ho))]
      exact c4.2.2 o ho
  have mq : Mq S := ⟨by rw [m44]; exact hg, by
    unfold Sz
    rw [le, le, le, le, le, ln]
    exact c1.2.1, by rw [le]; exact c1.2.2⟩
  have s8 : sl8 S := by
    unfold sl8
    rw [le, le, le, le]
    exact c2
  have tp : (ia S 59).length = 250 ∧ ¬ fi S 44 7 < 0 ∧ fi S 44 7 ≤ i3 250 := ⟨by rw [le]; exact c3.1, by rw [f7]; decide +kernel, by rw [f7]; decide +kernel⟩
  refine ⟨⟨mq, s8, tp, ko, fun k hk => ?_⟩, ⟨fun p hp _ => an p (by omega) (by omega), fun p _ => ln p, fun o k ho _ => fn o k (by omega), fun p _ => le p, fun p _ => by rw [ln]⟩, ?_, fun eg => ⟨mq, s8, tp, ko, fun k hk => ?_⟩⟩
  · obtain ⟨d1, d2, d3, d4⟩ := c5 k hk
    unfold smN
    rw [ln, an 45 (by omega) (by omega), an 47 (by omega) (by omega), an 58 (by omega) (by omega)]
    exact ⟨d1, d2, d3, fun e => (d4 e).1⟩
  · have kp : kpM S = kpM s1 := by
      unfold kpM
      rw [kr0]
      cases h : kr s1 with
      | none => rfl
      | some o =>
        show some (md S o) = some (md s1 o)
        rw [mk o (kk o (Or.inl h))]
    unfold abM
    rw [m44, kp, an 59 (by omega) (by omega), f7]
    refine Prod.ext rfl (Prod.ext rfl (Prod.ext rfl (funext fun k => ?_)))
    show (if k < 8 then shM S k else none) = if k < 8 then shM s1 k else none
    unfold shM
    by_cases hk : k < 8
    · rw [ln, an 45 (by omega) (by omega), an 46 (by omega) (by omega), an 47 (by omega) (by omega)]
    · rw [if_neg hk, if_neg hk]
  · obtain ⟨d1, d2, d3, d4⟩ := c5 k hk
    unfold smO
    rw [ln, an 45 (by omega) (by omega), an 47 (by omega) (by omega), an 58 (by omega) (by omega), m44, eg]
    exact ⟨d1, d2, d3, d4⟩
theorem p7_W (pc f : Nat) (x : Int32) (s : St) : t_W 8 (.putfield f) pc 8 7 [.int x, .ref 44] (H s) = some (pc + 3, [], H (sf s 44 7 x)) := rfl
theorem r23 (pc f : Nat) (r : List Value) (s : St) : t_R none 3 (.getfield f) pc 8 23 (.ref 44 :: r) (H s) = some (pc + 3, .int (fi s 44 23) :: r) := rfl
theorem r25 (pc f : Nat) (r : List Value) (s : St) : t_R none 3 (.getfield f) pc 8 25 (.ref 44 :: r) (H s) = some (pc + 3, .int (fi s 44 25) :: r) := rfl
theorem ne_t (pc a1 nL : Nat) (o : Int) (lv : tL) : t_P (.ifCond .ne o) pc a1 nL lv [.int (bB true)] = some (a1, lv, []) := by
  have h : t_icmp .ne (bB true) 0 = true := by decide +kernel
  simp only [t_P, t_i1, h, if_true]
theorem ne_f (pc a1 nL : Nat) (o : Int) (lv : tL) : t_P (.ifCond .ne o) pc a1 nL lv [.int (bB false)] = some (pc + 3, lv, []) := by
  have h : t_icmp .ne (bB false) 0 = false := by decide +kernel
  simp only [t_P, t_i1, h, Bool.false_eq_true, if_false]
theorem run_234 (c : MI s) : ∃ n s' m1, t_exec t_ctf t_mif n none 10 234 3 0 [(0, .ref 44)] [] (H s) 0 = some (some (.int (vRd (rdG (ia s 59) (fi s 44 7).toNatClampNeg (md s 44)))), H s', m1) ∧ MI s' ∧ eC s s' ∧ abM s' = (gRd (md s 44) (rdG (ia s 59) (fi s 44 7).toNatClampNeg (md s 44)), (abM s).2.1, (ia s 59, i3 0), (abM s).2.2.2) ∧ m1 + 806 * nm s = 806 * nm s' := by
  obtain ⟨nf, s1, m1, o, ef, tr1, mo, c1, ec1, ab1, hm1, a1, f1⟩ := run_298 c
  have kt := c.2.2.2.1.1
  have kt1 := c1.2.2.2.1.1
  have l0 := H_ln s kt.nm2
  have l1 := H_ln s1 kt1.nm2
  have md1 : md s1 44 = md s 44 := congrArg (·.1) ab1
  obtain ⟨t1, t2, t3⟩ := c.2.2.1
  have hT : tpM s1 (ia s 59) (fi s 44 7).toNatClampNeg := ⟨a1 59 (by omega), t1, by rw [f1 44 7 (by omega)]; exact i3_cl t2, le_cl (b := 250) (by omega) t2 t3⟩
  obtain ⟨_, er, s2, rfl, u2, hy, hno⟩ := q_233 hT c1.1.1 c1.1.2.1.2.2.2.1
  rw [md1] at er hy hno
  have gw0 : gw (md s 44) (tN (md s 44)) := ⟨c.1.1, c.1.1.2.1.1, Int32.le_refl _⟩
  generalize rdG (ia s 59) (fi s 44 7).toNatClampNeg (md s 44) = P at er hy hno ⊢
  obtain ⟨len2, nr, exr⟩ := (S_233 (L := 67 + 23 * nm s1) 3 44 (H s1)).run l1 (by have := kt1.nm2; omega) er (show ([0] : List Nat).Nodup by decide)
  have len2' : (H s2).length = 67 + 23 * nm s1 := len2
  have nm2 : nm s2 = nm s1 := congrArg (·.2.2) u2.2.2.2.1
  have nmle : nm s2 ≤ 2 := by rw [nm2]; exact kt1.nm2
  have tK := c1.2.2.2.1.tK tr1
  -- up to the question
  have head : ∀ (Q : t_Res → Prop), Wp none 10 234 3 16 [(2, .int (bB P.1)), (1, .ref o), (0, .ref 44)] [.int (bB P.1)] (H (sf s2 44 7 (i3 0))) m1 Q → Wp none 10 234 3 0 [(0, .ref 44)] [] (H s) 0 Q := fun Q hQ => by
    refine w_P rfl (by decide) rfl ?_
    obtain ⟨fs, hfs⟩ := g44 s
    refine w_call (d := 9) (nL' := 1) (na := 0) (rc := 8) (vs := [.ref 44]) (rest := []) rfl (by decide) rfl (t_cutV (A := []) (rest := []) rfl hfs) ⟨by decide, by decide⟩ ef (Or.inr ?_) ?_
    · show ((t_okv (H s).length (.ref 44) && true) && true) = true
      rw [v44 (by omega)]
      rfl
    refine w_P (pc' := 5) (lv' := [(1, .ref o), (0, .ref 44)]) (st' := []) rfl (by decide) rfl ?_
    refine w_P rfl (by decide) rfl ?_
    obtain ⟨fs1, hfs1⟩ := g44 s1
    refine w_call (d := 9) (nL' := 1) (na := 0) (rc := 8) (vs := [.ref 44]) (rest := []) rfl (by decide) rfl (t_cutV (A := []) (rest := []) rfl hfs1) ⟨by decide, by decide⟩ exr (Or.inl (by rw [l1]; exact len2')) ?_
    refine w_P (pc' := 10) (lv' := [(2, .int (bB P.1)), (1, .ref o), (0, .ref 44)]) (st' := []) rfl (by decide) rfl ?_
    refine w_P rfl (by decide) rfl ?_
    refine w_P (st' := [.int (i3 0), .ref 44]) rfl (by decide) rfl ?_
    refine w_W rfl (by decide) (p7_W _ _ _ _) ?_
    refine w_P (pc' := 16) (lv' := [(2, .int (bB P.1)), (1, .ref o), (0, .ref 44)]) (st' := [.int (bB P.1)]) rfl (by decide) rfl ?_
    have e0 : 0 + m1 + 0 = m1 := by omega
    rw [e0]
    exact hQ
  unfold gRd vRd
  cases hp : P.1 with
  | true =>
    obtain ⟨g2, ok2, f25⟩ := hy hp
    obtain ⟨mj, ec3, ab3, -⟩ := uvI c1 u2 ok2
    have eW : wM (sf s2 44 7 (i3 0)) 44 P.2.2.1 = sf s2 44 7 (i3 0) := by
      have := wM_id (sf s2 44 7 (i3 0)) 44
      rw [show md (sf s2 44 7 (i3 0)) 44 = md s2 44 from rfl, g2] at this
      exact this
    rw [eW] at mj ec3 ab3
    obtain ⟨s4, e4, c4, ec4, ab4, md4⟩ := q_207 mj
    have l3 := H_ln (sf s2 44 7 (i3 0)) nmle
    obtain ⟨len4, n4, ex4⟩ := (S_207 (L := 67 + 23 * nm s2) 8 44 (H (sf s2 44 7 (i3 0)))).run l3 (by omega) e4 (show ([0] : List Nat).Nodup by decide)
    have len4' : (H s4).length = 67 + 23 * nm s2 := len4
    have nm4 : nm s4 = nm s2 := by
      have := H_ln s4 c4.2.2.2.1.1.nm2
      omega
    have f254 : fi s4 44 25 = i3 (P.2.1 : Int) := by
      have e5 := q_207' (s := sf s2 44 7 (i3 0)) mj.2.1.1 mj.2.1.2.2.2
      rw [e4] at e5
      have e6 : H s4 = H (sa (sf s2 44 7 (i3 0)) 45 (fol (md (sf s2 44 7 (i3 0)) 44) (ia (sf s2 44 7 (i3 0)) 58) (ia (sf s2 44 7 (i3 0)) 45))) := Option.some.inj e5
      have e7 : gI (H s4) 8 44 25 = some (fi s4 44 25) := rfl
      rw [e6] at e7
      have e8 : some (fi s2 44 25) = some (fi s4 44 25) := e7
      rw [← Option.some.inj e8]
      exact f25
    obtain ⟨n, e⟩ := (show Wp none 10 234 3 0 [(0, .ref 44)] [] (H s) 0 (fun res => res = (some (.int (i3 (P.2.1 : Int))), H s4, m1)) from by
      refine head _ ?_
      rw [hp]
      refine w_P (pc' := 39) (lv' := [(2, .int (bB true)), (1, .ref o), (0, .ref 44)]) (st' := []) rfl (by decide) (ne_t _ _ _ _ _) ?_
      refine w_P rfl (by decide) rfl ?_
      obtain ⟨fs, hfs⟩ := g44 (sf s2 44 7 (i3 0))
      refine w_call (d := 9) (nL' := 2) (na := 0) (rc := 8) (vs := [.ref 44]) (rest := []) rfl (by decide) rfl (t_cutV (A := []) (rest := []) rfl hfs) ⟨by decide, by decide⟩ ex4 (Or.inl (by rw [l3]; exact len4')) ?_
      refine w_P rfl (by decide) rfl ?_
      refine w_R (pc' := 47) (st' := [.int (i3 (P.2.1 : Int))]) rfl (by decide) (Eq.trans (r25 _ _ [] _) (by rw [f254])) ?_
      exact w_ret (r := some (.int (i3 (P.2.1 : Int)))) rfl (by decide) rfl rfl).ex
    refine ⟨n, s4, m1, ?_, c4, (ec1.trans ec3).trans ec4, ?_, by rw [nm4, nm2]; exact hm1⟩
    · rw [e, if_pos rfl]
    · rw [ab4, ab3, if_pos rfl, ab1, a1 59 (by omega)]
  | false =>
    have f23 := hno hp
    obtain ⟨-, ec3, ab3, mi3⟩ := uvI c1 u2 c1.1.1
    have c3 := mi3 rfl
    have sh2 : sh (md (sf s2 44 7 (i3 0)) 44) := ⟨(u2.2.2.2.2 61).trans c1.1.1.sh.1, (u2.2.2.2.2 62).trans c1.1.1.sh.2.1, (u2.2.2.2.2 63).trans c1.1.1.sh.2.2.1, (u2.2.2.2.2 64).trans c1.1.1.sh.2.2.2⟩
    have kK : isK (sf s2 44 7 (i3 0)) o := by
      unfold isK
      rw [show nm (sf s2 44 7 (i3 0)) = nm s2 from rfl, nm2]
      exact tK
    have mdo : md (sf s2 44 7 (i3 0)) o = md s1 44 := by
      have e0 : md (sf s2 44 7 (i3 0)) o = md s1 o := by
        have ho := tK.o
        unfold md
        have fo : ∀ k, fi (sf s2 44 7 (i3 0)) o k = fi s1 o k := fun k => by
          rw [fi_sf, if_neg (by omega)]
          exact u2.2.2.1 o k (by omega)
        have ao : ∀ p, 67 ≤ p → ia (sf s2 44 7 (i3 0)) p = ia s1 p := fun p hp => u2.1 p (by omega) (by omega)
        rw [fo, fo, fo, fo, ao _ (by omega), ao _ (by omega), ao _ (by omega), ao _ (by omega)]
      rw [e0, mo, md1]
    have l3 := H_ln (sf s2 44 7 (i3 0)) nmle
    have e3 := q_300 (s := sf s2 44 7 (i3 0)) (Or.inl rfl) (Or.inr kK) (fun e => kK.ne e.symm) sh2 (by rw [mdo]; exact c1.1.1.sh)
    rw [mdo] at e3
    obtain ⟨-, n4, ex4⟩ := (S_300 (L := 67 + 23 * nm s2) 7 44 o (H (sf s2 44 7 (i3 0)))).run l3 (by omega) e3 (show ([0, 1] : List Nat).Nodup by decide)
    generalize hS4 : wM (sf s2 44 7 (i3 0)) 44 (md s1 44) = s4 at ec3 ab3 c3 ex4
    have nm4 : nm s4 = nm s2 := by rw [← hS4]; rfl
    have l4 := H_ln s4 (by omega)
    have f234 : fi s4 44 23 = i3 (P.2.1 : Int) := by rw [← hS4]; exact f23
    obtain ⟨s5, e5, q5⟩ := q_189 (s := s4) c3.1.2.2 isB2
    obtain ⟨len5, n5, ex5⟩ := (S_189 (L := 67 + 23 * nm s4) 8 44 (i3 (-2)) (H s4)).run l4 (by omega) e5 (show ([0, 1] : List Nat).Nodup by decide)
    have len5' : (H s5).length = 67 + 23 * nm s4 := len5
    have nm5 : nm s5 = nm s4 := congrArg (·.2.2) q5.2.2.2.1
    have f235 : fi s5 44 23 = i3 (P.2.1 : Int) := by
      have e6 := q_189k (s := s4) c3.1.2.2 (x := i3 (-2)) (k := 2) (by omega) (by decide +kernel)
      rw [e5] at e6
      have e7 : H s5 = H (sa s4 60 ((ia s4 60).set 2 ((ia s4 60).getD 2 0 + i3 1))) := (Prod.mk.inj (Option.some.inj e6)).2
      have e8 : gI (H s5) 8 44 23 = some (fi s5 44 23) := rfl
      rw [e7] at e8
      have e9 : some (fi s4 44 23) = some (fi s5 44 23) := e8
      rw [← Option.some.inj e9]
      exact f234
    have c2 : (Int8.ofInt (-2)).toInt32 = i3 (-2) := by decide +kernel
    have c20 : (Int8.ofInt (-20)).toInt32 = i3 (-20) := by decide +kernel
    obtain ⟨n, e⟩ := (show Wp none 10 234 3 0 [(0, .ref 44)] [] (H s) 0 (fun res => res = (some (.int (i3 (-20) - i3 (P.2.1 : Int))), H s5, m1)) from by
      refine head _ ?_
      rw [hp]
      refine w_P (pc' := 19) (lv' := [(2, .int (bB false)), (1, .ref o), (0, .ref 44)]) (st' := []) rfl (by decide) (ne_f _ _ _ _ _) ?_
      refine w_P rfl (by decide) rfl ?_
      refine w_P rfl (by decide) rfl ?_
      obtain ⟨fs, hfs⟩ := g44 (sf s2 44 7 (i3 0))
      refine w_call (d := 9) (nL' := 2) (na := 1) (rc := 8) (vs := [.ref 44, .ref o]) (rest := []) rfl (by decide) rfl (t_cutV (A := [.ref o]) (rest := []) rfl hfs) ⟨by decide, Nat.le_of_ble_eq_true rfl⟩ ex4 (Or.inl (by rw [l3]; exact l4.trans (by rw [nm4]; rfl))) ?_
      refine w_P rfl (by decide) rfl ?_
      refine w_P (pc' := 27) (lv' := [(2, .int (bB false)), (1, .ref o), (0, .ref 44)]) (st' := [.int (i3 (-2)), .ref 44]) rfl (by decide) (by rw [← c2]; rfl) ?_
      obtain ⟨fs4, hfs4⟩ := g44 s4
      refine w_call (d := 9) (nL' := 2) (na := 1) (rc := 8) (vs := [.ref 44, .int (i3 (-2))]) (rest := []) rfl (by decide) rfl (t_cutV (A := [.int (i3 (-2))]) (rest := []) rfl hfs4) ⟨by decide, Nat.le_of_ble_eq_true rfl⟩ ex5 (Or.inl (by rw [l4]; exact len5')) ?_
      refine w_P (pc' := 31) (lv' := [(2, .int (bB false)), (1, .ref o), (0, .ref 44)]) (st' := []) rfl (by decide) rfl ?_
      refine w_P (pc' := 33) (lv' := [(2, .int (bB false)), (1, .ref o), (0, .ref 44)]) (st' := [.int (i3 (-20))]) rfl (by decide) (by rw [← c20]; rfl) ?_
      refine w_P rfl (by decide) rfl ?_
      refine w_R (pc' := 37) (st' := [.int (i3 (P.2.1 : Int)), .int (i3 (-20))]) rfl (by decide) (Eq.trans (r23 _ _ [.int (i3 (-20))] _) (by rw [f235])) ?_
      refine w_P (pc' := 38) (lv' := [(2, .int (bB false)), (1, .ref o), (0, .ref 44)]) (st' := [.int (i3 (-20) - i3 (P.2.1 : Int))]) rfl (by decide) rfl ?_
      exact w_ret (r := some (.int (i3 (-20) - i3 (P.2.1 : Int)))) rfl (by decide) rfl rfl).ex
    have ab3' : abM s5 = abM s4 := q5.eM.ab c3.2.2.2.1.1
    refine ⟨n, s5, m1, ?_, q5.eM.mi c3, (ec1.trans ec3).trans q5.eC, ?_, by rw [nm5, nm4, nm2]; exact hm1⟩
    · rw [e, if_neg (by decide)]
    · rw [ab3', ab3, if_neg (by decide), ab1, a1 59 (by omega), md1]
end GA
