/-! ===== the class reads statements ===== -/
theorem g6 : isG 6 := Or.inr (Or.inl rfl)
noncomputable def bB (c : Bool) : Int32 := if c = true then i3 1 else i3 0
noncomputable def PS (s : St) (b : List Int32) (n : Nat) (m : Option (Int32 × tH)) (r : PR) : Prop := ∃ s', m = some (bB r.1, H s') ∧ qq s s' ∧ cst6 s' b n r.2.2.1 r.2.1 r.2.2.2
section CS
variable {s : St} {b : List Int32} {n : Nat} {t : Tk} {g : Gd} {w : Int32}
theorem qq_w6 (s : St) {g : Gd} (h1 : sh g) (h2 : sh (gd s 6)) : qq s (wG s 6 g) := by
  obtain ⟨a1, a2, a3, a4⟩ := h1
  obtain ⟨b1, b2, b3, b4⟩ := h2
  have e1 : (ia s 7).length = 12 := b1
  have e2 : (ia s 8).length = 12 := b2
  have e3 : (ia s 9).length = 12 := b3
  have e4 : (ia s 10).length = 8 := b4
  refine ⟨fun p hp => ?_, fun _ _ => rfl, fun o k hk => ?_, rfl, fun p => ?_, fun _ => rfl⟩
  · rw [ia_wG, if_neg, if_neg, if_neg, if_neg] <;> (intro e; apply hp; unfold qA; omega)
  · rw [fi_wG, if_neg, if_neg, if_neg, if_neg] <;> (intro e; apply hk; unfold qF; omega)
  · rw [ia_wG]
    split
    · rename_i e; rw [e, a1, e1]
    split
    · rename_i _ e; rw [e, a2, e2]
    split
    · rename_i _ _ e; rw [e, a3, e3]
    split
    · rename_i _ _ _ e; rw [e, a4, e4]
    rfl
theorem cst6.wg (h : cst6 s b n t g w) {g' : Gd} (h' : ok g') : cst6 (wG s 6 g') b n t g' w ∧ qq s (wG s 6 g') := by
  obtain ⟨h1, h2, h3, h4, h5, h6⟩ := h
  exact ⟨⟨h1, h2, h3, gd_wG s 6 g', h', h6⟩, qq_w6 s h'.sh (by rw [h4]; exact h5.sh)⟩
theorem cst6.f (h : cst6 s b n t g w) (x : Int32) : cst6 (sf s 24 2 x) b n t g x ∧ qq s (sf s 24 2 x) := by
  obtain ⟨h1, h2, h3, h4, h5, h6⟩ := h
  exact ⟨⟨h1, h2, h3, h4, h5, rfl⟩, (qq.refl s).f (Or.inl (Or.inr (Or.inr (Or.inr (Or.inl ⟨rfl, by omega⟩)))))⟩
theorem PS.no (h : cst6 s b n t g w) : PS s b n ((rB (Int32.ofInt 0)).bind fun y => some (y, H s)) (false, g, t, w) := ⟨s, rfl, qq.refl s, h⟩
theorem PS.q {s s' : St} {m : Option (Int32 × tH)} {r : PR} (h : PS s' b n m r) (q : qq s s') : PS s b n m r := by
  obtain ⟨s2, e, q2, k⟩ := h
  exact ⟨s2, e, q.trans q2, k⟩
/-- one token on, and it was so -/
theorem PS.yes (h : cst6 s b n t g w) : PS s b n ((m_169 24 (H s)).bind fun th => (rB (Int32.ofInt 1)).bind fun y => some (y, th)) (true, g, adv b n t.2.2, w) := by
  obtain ⟨s', e, k, q, -⟩ := q_169' h
  rw [e]
  exact ⟨s', rfl, q, k⟩
theorem num_at (h : cst6 s b n t g w) : gI (H s) 6 24 6 = some (num b t) := by rw [← h.2.1.2.2.2]; rfl
theorem q_161 (h : cst6 s b n t g w) : PS s b n (m_161 24 6 (H s)) (pSide b n g t w) := by
  have gt : gI (H s) 2 6 5 = some (tN g) := by rw [← h.2.2.2.1]; rfl
  unfold m_161 pSide
  rw [(r_T s).1, Option.bind_some, gt, Option.bind_some]
  unfold jn
  dsimp only
  by_cases c1 : 0 < tN g
  · rw [if_pos c1, if_pos c1]
    exact PS.no h
  rw [if_neg c1, if_neg c1]
  obtain ⟨s1, e1, k1, q1⟩ := q_166 h (i3 3) (Int8.ofInt 8).toInt32
  have c8 : (Int8.ofInt 8).toInt32 = i3 8 := by decide +kernel
  rw [e1, Option.bind_some, bP_if, c8]
  refine PS.q ?_ q1
  by_cases c2 : inN b (adv b n t.2.2) (i3 3) (i3 8)
  · rw [if_pos c2, if_pos c2, num_at k1, Option.bind_some]
    have hk := ok_uD k1.2.2.2.2.1 (Int32.not_lt.mp c1) (Int32.not_lt.mp c2.2.1) (Int32.not_lt.mp c2.2.2)
    obtain ⟨k2, q2⟩ := k1.wg hk
    have ep : pI (H s1) 2 6 4 (num b (adv b n t.2.2)) = some (H (wG s1 6 (uD g (num b (adv b n t.2.2))))) := by
      rw [show pI (H s1) 2 6 4 (num b (adv b n t.2.2)) = some (H (sf s1 6 4 (num b (adv b n t.2.2)))) from rfl, sf_g4, k1.2.2.2.1]
    rw [ep, Option.bind_some]
    exact PS.q (PS.yes k2) q2
  · rw [if_neg c2, if_neg c2]
    exact PS.no k1
theorem q_162 (h : cst6 s b n t g w) : PS s b n (m_162 24 6 (H s)) (pTree b n g t w) := by
  have gt : gI (H s) 2 6 5 = some (tN g) := by rw [← h.2.2.2.1]; rfl
  have c12 : (Int8.ofInt 12).toInt32 = i3 12 := by decide +kernel
  have c9 : (Int8.ofInt 9).toInt32 = i3 9 := by decide +kernel
  unfold m_162 pTree
  rw [(r_T s).1, Option.bind_some, gt, Option.bind_some]
  unfold jn
  dsimp only
  rw [c12, c9]
  by_cases c1 : i3 12 ≤ tN g
  · rw [if_pos c1, if_pos c1]
    exact PS.no h
  rw [if_neg c1, if_neg c1]
  unfold pTree1
  obtain ⟨s1, e1, k1, q1⟩ := q_166 h (i3 0) (i3 5)
  rw [e1, Option.bind_some, bP_if]
  refine PS.q ?_ q1
  by_cases c2 : inN b (adv b n t.2.2) (i3 0) (i3 5)
  · rw [if_pos c2, if_pos c2, num_at k1, Option.bind_some, q_70 g6, Option.bind_some, k1.2.2.2.1]
    unfold pTree2
    generalize adv b n t.2.2 = t1 at k1 c2
    obtain ⟨s2, e2, k2, q2⟩ := q_166 k1 (i3 0) (cc g - i3 1)
    rw [e2, Option.bind_some, bP_if]
    refine PS.q ?_ q2
    by_cases c3 : inN b (adv b n t1.2.2) (i3 0) (cc g - i3 1)
    · rw [if_pos c3, if_pos c3, num_at k2, Option.bind_some, q_84 g6 (by rw [k2.2.2.2.1]; exact k2.2.2.2.2.1), Option.bind_some, bP_if, k2.2.2.2.1]
      generalize adv b n t1.2.2 = t2 at k2 c3
      by_cases c4 : tIn g (num b t2) = i3 (-1)
      · rw [if_pos c4, if_pos c4, Option.bind_some]
        unfold pTree3
        obtain ⟨s3, e3, k3, q3⟩ := q_166 k2 (i3 0) (i3 9)
        rw [e3, Option.bind_some, bP_if]
        refine PS.q ?_ q3
        by_cases c5 : inN b (adv b n t2.2.2) (i3 0) (i3 9)
        · rw [if_pos c5, if_pos c5, num_at k3, Option.bind_some]
          generalize adv b n t2.2.2 = t3 at k3 c5
          have hk := ok_addT k3.2.2.2.2.1 c1 (a := num b t3) ⟨c2.2.1, Int32.not_lt.mp c2.2.2⟩ (in_cl k3.2.2.2.2.1 c3) c4
          obtain ⟨k4, q4⟩ := k3.wg hk
          rw [q_89 g6 (by rw [k3.2.2.2.1]; exact k3.2.2.2.2.1) (by rw [k3.2.2.2.1]; exact c1), Option.bind_some, k3.2.2.2.1]
          exact PS.q (PS.yes k4) q4
        · rw [if_neg c5, if_neg c5]
          exact PS.no k3
      · rw [if_neg c4, if_neg c4]
        exact PS.no k2
    · rw [if_neg c3, if_neg c3]
      exact PS.no k2
  · rw [if_neg c2, if_neg c2]
    exact PS.no k1
theorem q_164 (h : cst6 s b n t g w) : PS s b n (m_164 24 6 (H s)) (pMove1 b n g (adv b n t.2.2) w) := by
  have gt : gI (H s) 2 6 5 = some (tN g) := by rw [← h.2.2.2.1]; rfl
  unfold m_164 pMove1
  rw [(r_T s).1, Option.bind_some, gt, Option.bind_some]
  unfold jn
  obtain ⟨s1, e1, k1, q1⟩ := q_166 h (i3 0) (tN g - i3 1)
  rw [e1, Option.bind_some]
  dsimp only
  rw [bP_if]
  refine PS.q ?_ q1
  generalize adv b n t.2.2 = t1 at k1
  by_cases c1 : inN b t1 (i3 0) (tN g - i3 1)
  · have hT := in_T k1.2.2.2.2.1 c1
    rw [if_pos c1, if_pos c1, num_at k1, Option.bind_some, q_87 g6 (by rw [k1.2.2.2.1]; exact k1.2.2.2.2.1) (by rw [k1.2.2.2.1]; exact hT), Option.bind_some, bP_if, k1.2.2.2.1]
    by_cases c2 : kOf (kA g (num b t1)) (i3 1)
    · rw [if_neg (fun e => e c2), if_pos c2]
      exact PS.no k1
    · rw [if_pos c2, if_neg c2, Option.bind_some, q_70 g6, Option.bind_some, k1.2.2.2.1]
      unfold pMove2
      obtain ⟨s2, e2, k2, q2⟩ := q_166 k1 (i3 0) (cc g - i3 1)
      rw [e2, Option.bind_some, bP_if]
      refine PS.q ?_ q2
      generalize adv b n t1.2.2 = t2 at k2
      by_cases c3 : inN b t2 (i3 0) (cc g - i3 1)
      · rw [if_pos c3, if_pos c3, num_at k2, Option.bind_some, q_84 g6 (by rw [k2.2.2.2.1]; exact k2.2.2.2.2.1), Option.bind_some, bP_if, k2.2.2.2.1]
        by_cases c4 : tIn g (num b t2) = i3 (-1)
        · rw [if_pos c4, if_pos c4]
          have hk := ok_mvT k2.2.2.2.2.1 hT (in_cl k2.2.2.2.2.1 c3) c4
          obtain ⟨k4, q4⟩ := k2.wg hk
          have gn : gN (H s2) 2 6 1 = some 8 := rfl
          have es : sI (H s2) 8 (num b t1) (num b t2) = some (H (wG s2 6 (mvT g (num b t1) (num b t2)))) := by
            have e0 : sI (H s2) 8 (num b t1) (num b t2) = (st32 (cS (gd s2 6)) (num b t1) (num b t2)).map (fun l => H (sa s2 8 l)) := sI_of rfl
            have hok := k2.2.2.2.2.1
            have h1 := hok.tl hT
            have h2 := hok.n_le
            rw [e0, k2.2.2.2.1, st_wr hT.1 (by rw [hok.2.2.2.1.2.1]; omega), Option.map_some]
            have e9 := sa_g2 s2 6 ((cS g).set (num b t1).toNatClampNeg (num b t2))
            rw [k2.2.2.2.1] at e9
            exact congrArg (fun z => some (H z)) e9
          rw [gn, Option.bind_some, Option.bind_some, es, Option.bind_some]
          exact PS.q (PS.yes k4) q4
        · rw [if_neg c4, if_neg c4]
          exact PS.no k2
      · rw [if_neg c3, if_neg c3]
        exact PS.no k2
  · rw [if_neg c1, if_neg c1]
    exact PS.no k1
theorem q_165 (h : cst6 s b n t g w) : PS s b n (m_165 24 6 (H s)) (pFell b n g t w) := by
  unfold m_165 pFell
  rw [(r_T s).1, Option.bind_some, q_90 g6 (by rw [h.2.2.2.1]; exact h.2.2.2.2.1), Option.bind_some, bP_if, h.2.2.2.1]
  by_cases c1 : fel g
  · have hk := ok_fell h.2.2.2.2.1 c1
    obtain ⟨k1, q1⟩ := h.wg hk
    obtain ⟨k2, q2⟩ := k1.f (mnI w (tN g - i3 1))
    rw [if_pos c1, if_pos c1, q_91 g6 (by rw [h.2.2.2.1]; exact c1.1), Option.bind_some, h.2.2.2.1]
    have f2 : gI (H (wG s 6 (uT g (tN g - i3 1)))) 6 24 2 = some w := by rw [← k1.2.2.2.2.2]; rfl
    have f5 : gI (H (wG s 6 (uT g (tN g - i3 1)))) 2 6 5 = some (tN g - i3 1) := by
      rw [show gI (H (wG s 6 (uT g (tN g - i3 1)))) 2 6 5 = some (tN (gd (wG s 6 (uT g (tN g - i3 1))) 6)) from rfl, gd_wG]
      rfl
    have p2 : ∀ x, pI (H (wG s 6 (uT g (tN g - i3 1)))) 6 24 2 x = some (H (sf (wG s 6 (uT g (tN g - i3 1))) 24 2 x)) := fun _ => rfl
    rw [f2, Option.bind_some, f5, Option.bind_some, p2, Option.bind_some]
    exact PS.q (PS.q (PS.yes k2) q2) q1
  · rw [if_neg c1, if_neg c1]
    exact PS.no h
theorem q_163 (h : cst6 s b n t g w) : PS s b n (m_163 24 6 (H s)) (pWish b n g t w) := by
  have gw' : gI (H s) 2 6 6 = some (wN g) := by rw [← h.2.2.2.1]; rfl
  have c8 : (Int8.ofInt 8).toInt32 = i3 8 := by decide +kernel
  have c12 : (Int8.ofInt 12).toInt32 = i3 12 := by decide +kernel
  unfold m_163 pWish
  rw [(r_T s).1, Option.bind_some, gw', Option.bind_some, c8, c12]
  by_cases c1 : wN g < i3 8
  · rw [if_pos c1, if_pos c1]
    have hok := h.2.2.2.2.1
    suffices T (lp (fun (s2 : Int32 × Int32 × tH) nx3 ex4 => if i3 12 < s2.2.1 then ex4 (s2.1, s2.2.2) else (m_169 24 s2.2.2).bind fun th8 => jn (fun (v9 : Unit) => (gI th8 2 6 5).bind fun x11 => (m_167 24 (Int32.ofInt 0) (x11 - (Int32.ofInt 1)) th8).bind fun x12 => jn (fun (v13 : Unit) => (rB (Int32.ofInt 0)).bind fun y15 => some (y15, th8)) (fun j14 => if x12 = 0 then j14 () else (gI th8 6 24 6).bind fun x16 => if (s2.1 &&& ((Int32.ofInt 1) <<< (x16 &&& 31))) = 0 then (gI th8 6 24 6).bind fun x17 => nx3 ((s2.1 ||| ((Int32.ofInt 1) <<< (x17 &&& 31))), (s2.2.1 + Int32.ofInt 1), th8) else j14 ())) (fun j10 => if s2.2.1 < (Int32.ofInt 3) then j10 () else (gI th8 6 24 3).bind fun x20 => if x20 = (Int32.ofInt 2) then j10 () else ex4 (s2.1, th8))) 4096 ((Int32.ofInt 0), (Int32.ofInt 0), H s) (fun (x5 : Int32 × tH) => (m_96 6 x5.1 x5.2).bind fun th6 => (rB (Int32.ofInt 1)).bind fun y7 => some (y7, th6))) (fun r => ∃ s', r = (bB (pWl b n g 13 0 (i3 0) t).1, H s') ∧ qq s s' ∧ cst6 s' b n (pWl b n g 13 0 (i3 0) t).2.2 (if (pWl b n g 13 0 (i3 0) t).1 = true then addW g (pWl b n g 13 0 (i3 0) t).2.1 else g) w) by
      obtain ⟨r, e, s', rfl, q, k⟩ := this
      by_cases c2 : (pWl b n g 13 0 (i3 0) t).1 = true
      · rw [if_pos c2] at k ⊢
        refine ⟨s', e.trans ?_, q, k⟩
        rw [c2]
      · rw [if_neg c2] at k ⊢
        refine ⟨s', e.trans ?_, q, k⟩
        have : (pWl b n g 13 0 (i3 0) t).1 = false := by simpa using c2
        rw [this]
    have hst := fun ht => pWl_ok (b := b) (n := n) hok 13 0 (i3 0) t 0 rfl (Nat.two_pow_pos _) rfl rfl ht
    generalize hP : pWl b n g 13 0 (i3 0) t = P at hst ⊢
    refine lpH 13 (fun k q => ∃ s1 m t1, q = (m, i3 (k : Int), H s1) ∧ qq s s1 ∧ cst6 s1 b n t1 g w ∧ pWl b n g (13 - k) k m t1 = P) (fun x => ∃ s1, x = (P.2.1, H s1) ∧ qq s s1 ∧ cst6 s1 b n P.2.2 g w ∧ P.1 = true) ?_ ?_ ?_ ?_ (by omega)
    · rintro k _ hk ⟨s1, m, t1, rfl, q1, k1, e1⟩ nx ex hnx hex
      obtain ⟨s2, e2, k2, q2, -⟩ := q_169' k1
      have e12 : ¬ i3 12 < i3 (k : Int) := by
        show ¬ i3 ((12 : Nat) : Int) < i3 (k : Int)
        rw [i3n_lt (by omega) (by omega)]; omega
      obtain ⟨f, hf⟩ : ∃ f, 13 - k = f + 1 := ⟨12 - k, by omega⟩
      have hf2 : 13 - (k + 1) = f := by omega
      rw [hf] at e1
      unfold pWl at e1
      dsimp only
      rw [if_neg e12, e2, Option.bind_some]
      unfold jn
      dsimp only
      have g3 : gI (H s2) 6 24 3 = some (adv b n t1.2.2).1 := by rw [← k2.2.1.1]; rfl
      have gt : gI (H s2) 2 6 5 = some (tN g) := by rw [← k2.2.2.2.1]; rfl
      have e3 : (i3 (k : Int) < Int32.ofInt 3) ↔ k < 3 := i3n_lt (b := 3) (by omega) (by omega)
      rw [g3, gt, Option.bind_some, Option.bind_some, q_167 k2.2.1, Option.bind_some, bP_if, num_at k2, Option.bind_some, Option.bind_some, i3_nat_add]
      generalize adv b n t1.2.2 = t2 at k2 e1
      have key : (k < 3 ∨ t2.1 = i3 2) → T (if inN b t2 (Int32.ofInt 0) (tN g - Int32.ofInt 1) then (if (m &&& Int32.ofInt 1 <<< (num b t2 &&& 31)) = 0 then nx (m ||| Int32.ofInt 1 <<< (num b t2 &&& 31), i3 ((k + 1 : Nat) : Int), H s2) else (rB (Int32.ofInt 0)).bind fun y15 => some (y15, H s2)) else (rB (Int32.ofInt 0)).bind fun y15 => some (y15, H s2)) (fun r => ∃ s', r = (bB P.1, H s') ∧ qq s s' ∧ cst6 s' b n P.2.2 (if P.1 = true then addW g P.2.1 else g) w) := fun c => by
        rw [if_pos c] at e1
        by_cases c2 : inN b t2 (i3 0) (tN g - i3 1)
        · rw [if_pos c2]
          rw [if_pos c2] at e1
          by_cases c3 : (m &&& bit (num b t2)) = 0
          · have c3' : (m &&& Int32.ofInt 1 <<< (num b t2 &&& 31)) = 0 := c3
            rw [if_pos c3']
            rw [if_pos c3] at e1
            exact hnx _ ⟨s2, _, t2, rfl, q1.trans q2, k2, by rw [hf2]; exact e1⟩
          · have c3' : ¬ (m &&& Int32.ofInt 1 <<< (num b t2 &&& 31)) = 0 := c3
            rw [if_neg c3']
            rw [if_neg c3] at e1
            rw [← e1]
            exact T_some ⟨s2, rfl, q1.trans q2, k2⟩
        · rw [if_neg c2]
          rw [if_neg c2] at e1
          rw [← e1]
          exact T_some ⟨s2, rfl, q1.trans q2, k2⟩
      by_cases d1 : k < 3
      · rw [if_pos (e3.mpr d1)]
        exact key (Or.inl d1)
      · rw [if_neg (fun e => d1 (e3.mp e))]
        by_cases d2 : t2.1 = i3 2
        · rw [if_pos (show t2.1 = Int32.ofInt 2 from d2)]
          exact key (Or.inr d2)
        · rw [if_neg (show ¬ t2.1 = Int32.ofInt 2 from d2)]
          rw [if_neg (fun e => e.elim d1 d2)] at e1
          refine hex _ ?_
          rw [← e1]
          exact ⟨s2, rfl, q1.trans q2, k2, rfl⟩
    · rintro _ ⟨s1, m, t1, rfl, q1, k1, e1⟩ nx ex hex
      have e12 : i3 12 < i3 ((13 : Nat) : Int) := by decide +kernel
      dsimp only
      rw [if_pos e12]
      refine hex _ ?_
      rw [← e1]
      exact ⟨s1, rfl, q1, k1, rfl⟩
    · rintro _ ⟨s1, rfl, q1, k1, hp⟩
      have hk := ok_addW hok (not8 c1) (hst hp)
      obtain ⟨k2, q2⟩ := k1.wg hk
      dsimp only
      rw [q_96 g6 (by rw [k1.2.2.2.1]; exact hok) (by rw [k1.2.2.2.1]; exact not8 c1), Option.bind_some, k1.2.2.2.1, hp]
      refine T_some ⟨_, rfl, q1.trans q2, ?_⟩
      rw [if_pos rfl]
      exact k2
    · exact ⟨s, i3 0, t, rfl, qq.refl s, h, hP⟩
  · rw [if_neg c1, if_neg c1]
    exact PS.no h
theorem bB_rB (c : Bool) : rB (bB c) = some (bB c) := by cases c <;> rfl
theorem PS.rb {m : Option (Int32 × tH)} {r : PR} (h : PS s b n m r) : PS s b n (m.bind fun q => (rB q.1).bind fun y => some (y, q.2)) r := by
  obtain ⟨s', e, q, k⟩ := h
  rw [e, Option.bind_some]
  dsimp only
  rw [bB_rB]
  exact ⟨s', rfl, q, k⟩
theorem q_160 (h : cst6 s b n t g w) : PS s b n (m_160 24 6 (H s)) (pStm b n g t w) := by
  have hb := h.2.2.1.bd
  have W : ∀ k, k < 10 → m_168 24 (1001 + k) (H s) = some (bP (wrd b t k)) := fun k hk => q_168 h.1 h.2.1 ⟨hb.1, hb.2.1⟩ hk
  have W0 : m_168 24 1001 (H s) = some (bP (wrd b t 0)) := W 0 (by omega)
  have W1 : m_168 24 1002 (H s) = some (bP (wrd b t 1)) := W 1 (by omega)
  have W2 : m_168 24 1003 (H s) = some (bP (wrd b t 2)) := W 2 (by omega)
  have W3 : m_168 24 1004 (H s) = some (bP (wrd b t 3)) := W 3 (by omega)
  have W4 : m_168 24 1005 (H s) = some (bP (wrd b t 4)) := W 4 (by omega)
  unfold m_160 pStm
  rw [(r_T s).1, Option.bind_some, W0, Option.bind_some, bP_if]
  by_cases c0 : wrd b t 0
  · rw [if_pos c0, if_pos c0]
    exact PS.rb (q_161 h)
  rw [if_neg c0, if_neg c0, W1, Option.bind_some, bP_if]
  by_cases c1 : wrd b t 1
  · rw [if_pos c1, if_pos c1]
    exact PS.rb (q_162 h)
  rw [if_neg c1, if_neg c1, W2, Option.bind_some, bP_if]
  by_cases c2 : wrd b t 2
  · rw [if_pos c2, if_pos c2]
    exact PS.rb (q_163 h)
  rw [if_neg c2, if_neg c2, W3, Option.bind_some, bP_if]
  by_cases c3 : wrd b t 3
  · rw [if_pos c3, if_pos c3]
    exact PS.rb (q_164 h)
  rw [if_neg c3, if_neg c3, W4, Option.bind_some]
  unfold jn
  dsimp only
  rw [bP_if]
  by_cases c4 : wrd b t 4
  · rw [if_pos c4, if_pos c4]
    obtain ⟨s', e, q, k⟩ := q_165 h
    rw [e, Option.bind_some]
    dsimp only
    cases hr : (pFell b n g t w).1 with
    | true =>
      rw [if_neg (show ¬ bB true = 0 by decide +kernel)]
      refine ⟨s', ?_, q, k⟩
      rw [hr]
      rfl
    | false =>
      rw [if_pos (show bB false = 0 by decide +kernel)]
      refine ⟨s', ?_, q, k⟩
      rw [hr]
      rfl
  · rw [if_neg c4, if_neg c4]
    exact PS.no h
end CS
