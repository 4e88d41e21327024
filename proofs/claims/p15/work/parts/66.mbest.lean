/-! ===== the reference: sets in line, moves tried and taken back ===== -/
noncomputable def Mq (s : St) : Prop := ok (md s 44) ∧ Sz s ∧ (ia s 60).length = 8
theorem qq.mq {s s' : St} (h : qq s s') (c : Mq s) : Mq s' := ⟨by rw [h.m (Or.inl rfl)]; exact c.1, h.z c.2.1, by rw [h.ln]; exact c.2.2⟩
theorem eF.refl (s : St) : eF s s := ⟨sc.refl s, fun _ _ _ => rfl⟩
theorem eF.trans {s s' s2 : St} (h : eF s s') (k : eF s' s2) : eF s s2 := ⟨h.1.trans k.1, fun o q hq => (k.2 o q hq).trans (h.2 o q hq)⟩
abbrev siL (L : List Int32) (m : Int32) : Prop := ¬ fst? (fun k => decide ((m &&& (lg L k ^^^ i3 (-1))) = 0)) L.length 0 = none
noncomputable def mmF (g : Gd) (k : Nat) (m : Int32) : Int32 := if siL (RL g) (wA g (i3 (k : Int))) then m + i3 1 else m
noncomputable def mmM (g : Gd) : Int32 := itr (mmF g) (wn g) (i3 0)
section MB
variable {s : St}
theorem q_252 (h : ok (md s 44)) (z : Sz s) (m : Int32) : ∃ s', m_252 44 m (H s) = some (bP (siL (RL (md s 44)) m), H s') ∧ eF s s' := by
  obtain ⟨s1, e1, c1, r1, f1⟩ := q_240 h z
  refine ⟨s1, ?_, c1, f1⟩
  have hl := RL_len h
  unfold m_252
  rw [(r_m s).1, Option.bind_some, e1, Option.bind_some]
  refine (lpS (RL (md s 44)).length (by omega) (fun t => t) () (fun k => decide ((m &&& (lg (RL (md s 44)) k ^^^ i3 (-1))) = 0)) (fun _ => some (i3 1, H s1)) ?_ ?_).trans ?_
  · intro k nx ex hk
    simp only [r_f, Option.bind_some, if_neg (r1.lt hk), r1.at hk, decide_eq_true_eq]
    split <;> rfl
  · intro nx ex
    simp only [r_f, Option.bind_some, if_pos (r1.ge (Nat.le_refl _) (show (RL (md s 44)).length ≤ 1000 by omega))]
  · unfold bP siL
    cases fst? (fun k => decide ((m &&& (lg (RL (md s 44)) k ^^^ i3 (-1))) = 0)) (RL (md s 44)).length 0 <;> simp <;> rfl
theorem q_261 (h : ok (md s 44)) (z : Sz s) : ∃ s', m_261 44 (H s) = some (mmM (md s 44), H s') ∧ eF s s' := by
  suffices T (m_261 44 (H s)) (fun r => ∃ s', r = (mmM (md s 44), H s') ∧ eF s s') by
    obtain ⟨_, e, s', rfl, c⟩ := this
    exact ⟨s', e, c⟩
  have hw := h.w_le
  unfold m_261
  rw [(r_m s).1, Option.bind_some]
  refine lpH (wn (md s 44)) (fun k q => ∃ s', q = (itr (mmF (md s 44)) k (i3 0), i3 (k : Int), H s') ∧ eF s s') (fun x => ∃ s', x = (mmM (md s 44), H s') ∧ eF s s') ?_ ?_ ?_ ?_ (by omega)
  · rintro k _ hk ⟨s1, rfl, c1⟩ nx ex hnx hex
    have m1 := c1.1.m (Or.inl rfl)
    have h1 : ok (md s1 44) := by rw [m1]; exact h
    obtain ⟨s2, e2, c2⟩ := q_252 h1 (c1.1.z z) (wA (md s 44) (i3 (k : Int)))
    rw [m1] at e2
    dsimp only
    rw [(r_g s1).2.2.2.1, Option.bind_some, m1, if_neg (h.W hk).2, (r_g s1).2.2.2.2.2.2.2.2.1, Option.bind_some, (r_g s1).2.2.2.2.2.2.2.2.2.2.2.2, m1, h.at_w (h.W hk), Option.bind_some, e2, Option.bind_some]
    unfold jn
    dsimp only
    rw [bP_if, i3_nat_add, add0]
    have hF : itr (mmF (md s 44)) (k + 1) (i3 0) = mmF (md s 44) k (itr (mmF (md s 44)) k (i3 0)) := rfl
    by_cases c : siL (RL (md s 44)) (wA (md s 44) (i3 (k : Int)))
    · rw [if_pos c]
      refine hnx _ ⟨s2, ?_, c1.trans c2⟩
      rw [hF, show mmF (md s 44) k _ = _ from if_pos c]
    · rw [if_neg c]
      refine hnx _ ⟨s2, ?_, c1.trans c2⟩
      rw [hF, show mmF (md s 44) k _ = _ from if_neg c]
  · rintro _ ⟨s1, rfl, c1⟩ nx ex hex
    have m1 := c1.1.m (Or.inl rfl)
    dsimp only
    rw [(r_g s1).2.2.2.1, Option.bind_some, m1, if_pos (h.We (Nat.le_refl _) (by have := h.w_le; omega))]
    exact hex _ ⟨s1, rfl, c1⟩
  · rintro _ ⟨s1, rfl, c1⟩
    exact T_some ⟨s1, rfl, c1⟩
  · exact ⟨s, rfl, eF.refl s⟩
/-- the garden is changed, looked at, and as it was -/
theorem sc_back {s2 : St} {g : Gd} (h : sc (wM s 44 g) s2) : sc s (wM s2 44 (md s 44)) := by
  refine ⟨fun p hp => ?_, fun p hp => h.2.1 p hp, fun o k hk => ?_, h.2.2.2.1, fun p => ?_, fun p => h.2.2.2.2.2 p⟩
  · rw [ia_wM]
    have e := h.1 p hp
    rw [ia_wM] at e
    split
    · rename_i q; rw [q]; rfl
    split
    · rename_i q; rw [q]; rfl
    split
    · rename_i q; rw [q]; rfl
    split
    · rename_i q; rw [q]; rfl
    rename_i q1 q2 q3 q4
    rw [if_neg q1, if_neg q2, if_neg q3, if_neg q4] at e
    exact e
  · rw [fi_wM]
    have e := h.2.2.1 o k hk
    rw [fi_wM] at e
    split
    · rename_i q; rw [q.1, q.2]; rfl
    split
    · rename_i q; rw [q.1, q.2]; rfl
    split
    · rename_i q; rw [q.1, q.2]; rfl
    split
    · rename_i q; rw [q.1, q.2]; rfl
    rename_i q1 q2 q3 q4
    rw [if_neg q1, if_neg q2, if_neg q3, if_neg q4] at e
    exact e
  · rw [ia_wM]
    have e := h.2.2.2.2.1 p
    rw [ia_wM] at e
    split
    · rename_i q; rw [q]; rfl
    split
    · rename_i q; rw [q]; rfl
    split
    · rename_i q; rw [q]; rfl
    split
    · rename_i q; rw [q]; rfl
    rename_i q1 q2 q3 q4
    rw [if_neg q1, if_neg q2, if_neg q3, if_neg q4] at e
    exact e
theorem Sz_wM {g : Gd} (z : Sz s) : Sz (wM s 44 g) := z
theorem set_back {l : List Int32} {t : Nat} (ht : t < l.length) (c : Int32) : (l.set t c).set t (l.getD t 0) = l := by
  rw [List.set_set]
  apply List.ext_getElem?
  intro i
  rw [List.getElem?_set]
  split
  · rename_i e
    subst e
    try rw [if_pos ht]
    rw [List.getD_eq_getElem?_getD, List.getElem?_eq_getElem ht]
    rfl
  · rfl
theorem sI62 (s : St) {t x : Int32} (h0 : ¬ t < 0) (h1 : t.toNatClampNeg < (cS (md s 44)).length) : sI (H s) 62 t x = some (H (wM s 44 (uC (md s 44) ((cS (md s 44)).set t.toNatClampNeg x)))) := by
  rw [show sI (H s) 62 t x = (st32 (cS (md s 44)) t x).map (fun l => H (sa s 62 l)) from sI_of rfl, st_wr h0 h1, Option.map_some]
  exact congrArg (fun z => some (H z)) (sa_m18 s 44 _)
theorem sI61 (s : St) {t x : Int32} (h0 : ¬ t < 0) (h1 : t.toNatClampNeg < (kS (md s 44)).length) : sI (H s) 61 t x = some (H (wM s 44 (uK (md s 44) ((kS (md s 44)).set t.toNatClampNeg x)))) := by
  rw [show sI (H s) 61 t x = (st32 (kS (md s 44)) t x).map (fun l => H (sa s 61 l)) from sI_of rfl, st_wr h0 h1, Option.map_some]
  exact congrArg (fun z => some (H z)) (sa_m17 s 44 _)
/-- a tree is moved, something is counted, and it is moved back -/
theorem tryM (h : ok (md s 44)) (z : Sz s) {t c : Int32} (ht : isT (md s 44) t) {P : tH → Option (Int32 × tH)} {V : Gd → Int32} (hg : ok (mvT (md s 44) t c)) (hP : ∀ s1, ok (md s1 44) → Sz s1 → ∃ s', P (H s1) = some (V (md s1 44), H s') ∧ eF s1 s') : ∃ s2 s3, sI (H s) 62 t c = some (H (wM s 44 (mvT (md s 44) t c))) ∧ P (H (wM s 44 (mvT (md s 44) t c))) = some (V (mvT (md s 44) t c), H s2) ∧ sI (H s2) 62 t (cA (md s 44) t) = some (H s3) ∧ eF s s3 := by
  have hl := h.tl ht
  have hn := h.n_le
  have hL : t.toNatClampNeg < (cS (md s 44)).length := by rw [h.2.2.2.1.2.1]; omega
  have em := md_wM s 44 (mvT (md s 44) t c)
  obtain ⟨s2, e2, c2⟩ := hP (wM s 44 (mvT (md s 44) t c)) (by rw [em]; exact hg) (Sz_wM z)
  rw [em] at e2
  have m2 : md s2 44 = mvT (md s 44) t c := (c2.1.m (Or.inl rfl)).trans em
  refine ⟨s2, wM s2 44 (md s 44), sI62 s ht.1 hL, e2, ?_, sc_back c2.1, fun o k hk => ?_⟩
  · have hL2 : t.toNatClampNeg < (cS (md s2 44)).length := by
      rw [m2]
      show _ < ((cS (md s 44)).set _ _).length
      rw [List.length_set]; exact hL
    rw [sI62 s2 ht.1 hL2, m2]
    have eb : uC (mvT (md s 44) t c) ((cS (mvT (md s 44) t c)).set t.toNatClampNeg (cA (md s 44) t)) = md s 44 := by
      have e1 : (cS (mvT (md s 44) t c)).set t.toNatClampNeg (cA (md s 44) t) = cS (md s 44) := set_back hL c
      rw [e1]
      rfl
    rw [eb]
  · rw [fi_wM]
    have e := c2.2 o k hk
    rw [fi_wM] at e
    split
    · rename_i q; rw [q.1, q.2]; rfl
    split
    · rename_i q; rw [q.1, q.2]; rfl
    split
    · rename_i q; rw [q.1, q.2]; rfl
    split
    · rename_i q; rw [q.1, q.2]; rfl
    rename_i q1 q2 q3 q4
    rw [if_neg q1, if_neg q2, if_neg q3, if_neg q4] at e
    exact e
/-- the best of all moves by a count -/
noncomputable def fcF (g : Gd) (V : Gd → Int32) (t : Int32) (k : Nat) (a : Mv) : Mv := if tIn g (i3 (k : Int)) = i3 (-1) then if V (mvT g t (i3 (k : Int))) ≤ a.2.2 then a else (t, i3 (k : Int), V (mvT g t (i3 (k : Int)))) else a
noncomputable def fbF (g : Gd) (V : Gd → Int32) (k : Nat) (a : Mv) : Mv := if kOf (kA g (i3 (k : Int))) (i3 1) then a else itr (fcF g V (i3 (k : Int))) (dn g * dn g) a
noncomputable def fb (g : Gd) (V : Gd → Int32) : Mv := itr (fbF g V) (nn g) (i3 (-1), i3 (-1), i3 (-1))
noncomputable def bmv (s : St) : Mv := (fi s 44 28, fi s 44 29, fi s 44 30)
noncomputable def V3 (g : Gd) : Int32 := t3 (RL g)
theorem q_262 (h : ok (md s 44)) (z : Sz s) {w : Int32} {V : Gd → Int32} (hw : (w = 0 ∧ V = V3) ∨ (¬ w = 0 ∧ V = mmM)) : ∃ s', m_262 44 w (H s) = some (H s') ∧ sc s s' ∧ bmv s' = fb (md s 44) V := by
  suffices T (m_262 44 w (H s)) (fun th => ∃ s', th = H s' ∧ sc s s' ∧ bmv s' = fb (md s 44) V) by
    obtain ⟨_, e, s', rfl, c⟩ := this
    exact ⟨s', e, c⟩
  have hn := h.n_le
  have hcc := h.cc_le
  have F : ∀ k, 19 ≤ k → sF 44 k := fun k hk => Or.inr (Or.inr (Or.inr (Or.inr ⟨rfl, hk⟩)))
  have p28 : ∀ (t : St) x, pI (H t) 8 44 28 x = some (H (sf t 44 28 x)) := fun _ _ => rfl
  have p29 : ∀ (t : St) x, pI (H t) 8 44 29 x = some (H (sf t 44 29 x)) := fun _ _ => rfl
  have p30 : ∀ (t : St) x, pI (H t) 8 44 30 x = some (H (sf t 44 30 x)) := fun _ _ => rfl
  have g30 : ∀ t : St, gI (H t) 8 44 30 = some (fi t 44 30) := fun _ => rfl
  -- the count
  have hP : ∀ s1, ok (md s1 44) → Sz s1 → ∃ s', (fun th => if w = 0 then m_243 44 th else m_261 44 th) (H s1) = some (V (md s1 44), H s') ∧ eF s1 s' := fun s1 h1 z1 => by
    rcases hw with ⟨e, rfl⟩ | ⟨e, rfl⟩
    · dsimp only
      rw [if_pos e]
      exact q_243 h1 z1
    · dsimp only
      rw [if_neg e]
      exact q_261 h1 z1
  unfold m_262
  rw [(r_m s).1, Option.bind_some, p28, Option.bind_some, p29, Option.bind_some, p30, Option.bind_some]
  refine lpH (nn (md s 44)) (fun k q => ∃ s', q = (i3 (k : Int), H s') ∧ sc s s' ∧ bmv s' = itr (fbF (md s 44) V) k (i3 (-1), i3 (-1), i3 (-1))) (fun th => ∃ s', th = H s' ∧ sc s s' ∧ bmv s' = fb (md s 44) V) ?_ ?_ ?_ ?_ (by omega)
  · rintro k _ hk ⟨s1, rfl, c1, b1⟩ nx ex hnx hex
    have m1 := c1.m (Or.inl rfl)
    have hT := h.T hk
    have hFk : itr (fbF (md s 44) V) (k + 1) (i3 (-1), i3 (-1), i3 (-1)) = fbF (md s 44) V k (bmv s1) := by rw [b1]; rfl
    dsimp only
    rw [(r_g s1).2.2.1, Option.bind_some, m1, if_neg hT.2]
    by_cases fr : kOf (kA (md s 44) (i3 (k : Int))) (i3 1)
    · -- a firm one: no cell is looked at
      rw [show (4096 : Nat) = 4095 + 1 from rfl, lp_s]
      dsimp only
      rw [q_192, Option.bind_some, m1, if_neg (show ¬ cc (md s 44) ≤ Int32.ofInt 0 from (h.C (k := 0) (by have h1 := h.d_ge; have h3 : 9 ≤ dn (md s 44) * dn (md s 44) := Nat.mul_le_mul h1 h1; omega)).2), q_197 (by rw [m1]; exact h) (by rw [m1]; exact hT), Option.bind_some, bP_if, m1, if_pos fr, i3_nat_add]
      refine hnx _ ⟨s1, rfl, c1, ?_⟩
      rw [hFk]
      exact (if_pos fr).symm
    · have hFk2 : itr (fbF (md s 44) V) (k + 1) (i3 (-1), i3 (-1), i3 (-1)) = itr (fcF (md s 44) V (i3 (k : Int))) (dn (md s 44) * dn (md s 44)) (bmv s1) := by
        rw [hFk]
        exact if_neg fr
      refine lpH (dn (md s 44) * dn (md s 44)) (fun c q => ∃ s', q = (i3 (c : Int), H s') ∧ sc s s' ∧ bmv s' = itr (fcF (md s 44) V (i3 (k : Int))) c (bmv s1)) (fun th => ∃ s', th = H s' ∧ sc s s' ∧ bmv s' = itr (fbF (md s 44) V) (k + 1) (i3 (-1), i3 (-1), i3 (-1))) ?_ ?_ ?_ ?_ (by omega)
      · rintro c _ hc ⟨s2, rfl, c2, b2⟩ nx2 ex2 hnx2 hex2
        have m2 := c2.m (Or.inl rfl)
        have h2 : ok (md s2 44) := by rw [m2]; exact h
        have hT2 : isT (md s2 44) (i3 (k : Int)) := by rw [m2]; exact hT
        have hC := h.C hc
        have hFc : itr (fcF (md s 44) V (i3 (k : Int))) (c + 1) (bmv s1) = fcF (md s 44) V (i3 (k : Int)) c (bmv s2) := by rw [b2]; rfl
        dsimp only
        rw [q_192, Option.bind_some, m2, if_neg hC.2, q_197 h2 hT2, Option.bind_some, bP_if, m2, if_neg fr, q_194 h2, Option.bind_some, m2]
        unfold jn
        dsimp only
        rw [i3_nat_add]
        by_cases f1 : tIn (md s 44) (i3 (c : Int)) = i3 (-1)
        · rw [if_pos f1]
          obtain ⟨s3, s4, e3, e4, e5, c5⟩ := tryM h2 (c2.z z) hT2 (c := i3 (c : Int)) (P := fun th => if w = 0 then m_243 44 th else m_261 44 th) (V := V) (by rw [m2]; exact ok_mvT h hT hC f1) hP
          rw [m2] at e3 e4 e5
          have b4 : bmv s4 = bmv s2 := by
            unfold bmv
            rw [c5.2 44 28 (by omega), c5.2 44 29 (by omega), c5.2 44 30 (by omega)]
          have rest : T ((gN (H s3) 8 44 12).bind fun o24 => (sI (H s3) o24 (i3 (k : Int)) (cA (md s 44) (i3 (k : Int)))).bind fun th25 => (gI th25 8 44 30).bind fun x26 => if V (mvT (md s 44) (i3 (k : Int)) (i3 (c : Int))) ≤ x26 then nx2 (i3 ((c + 1 : Nat) : Int), th25) else (pI th25 8 44 28 (i3 (k : Int))).bind fun th27 => (pI th27 8 44 29 (i3 (c : Int))).bind fun th28 => (pI th28 8 44 30 (V (mvT (md s 44) (i3 (k : Int)) (i3 (c : Int))))).bind fun th29 => nx2 (i3 ((c + 1 : Nat) : Int), th29)) (fun th => ∃ s', th = H s' ∧ sc s s' ∧ bmv s' = fb (md s 44) V) := by
            rw [(r_g s3).2.2.2.2.2.2.1, Option.bind_some, e5, Option.bind_some, g30, Option.bind_some]
            have x30 : fi s4 44 30 = (bmv s2).2.2 := congrArg (·.2.2) b4
            rw [x30]
            by_cases f2 : V (mvT (md s 44) (i3 (k : Int)) (i3 (c : Int))) ≤ (bmv s2).2.2
            · rw [if_pos f2]
              refine hnx2 _ ⟨s4, rfl, c2.trans c5.1, ?_⟩
              rw [b4, hFc]
              unfold fcF
              rw [if_pos f1, if_pos f2]
            · rw [if_neg f2, p28, Option.bind_some, p29, Option.bind_some, p30, Option.bind_some]
              refine hnx2 _ ⟨_, rfl, (((c2.trans c5.1).f (F 28 (by omega))).f (F 29 (by omega))).f (F 30 (by omega)), ?_⟩
              rw [hFc]
              unfold fcF
              rw [if_pos f1, if_neg f2]
              rfl
          rw [(r_g s2).2.2.2.2.2.2.1, Option.bind_some, (r_g s2).2.2.2.2.2.2.2.2.2.2.1, m2, h.at_c hT, Option.bind_some, Option.bind_some, e3, Option.bind_some]
          rcases hw with ⟨ew, rfl⟩ | ⟨ew, rfl⟩
          · skip
            rw [if_pos ew] at e4
            rw [if_pos ew, e4, Option.bind_some]
            exact rest
          · skip
            rw [if_neg ew] at e4
            rw [if_neg ew, e4, Option.bind_some]
            exact rest
        · rw [if_neg f1]
          refine hnx2 _ ⟨s2, rfl, c2, ?_⟩
          rw [hFc]
          unfold fcF
          rw [if_neg f1]
      · rintro _ ⟨s2, rfl, c2, b2⟩ nx2 ex2 hex2
        have m2 := c2.m (Or.inl rfl)
        dsimp only
        rw [q_192, Option.bind_some, m2, if_pos (h.Ce (Nat.le_refl _) (by have := h.cc_le; omega))]
        exact hex2 _ ⟨s2, rfl, c2, by rw [b2, hFk2]⟩
      · rintro _ ⟨s2, rfl, c2, b2⟩
        rw [i3_nat_add]
        exact hnx _ ⟨s2, rfl, c2, b2⟩
      · exact ⟨s1, rfl, c1, rfl⟩
  · rintro _ ⟨s1, rfl, c1, b1⟩ nx ex hex
    have m1 := c1.m (Or.inl rfl)
    dsimp only
    rw [(r_g s1).2.2.1, Option.bind_some, m1, if_pos (h.Te (Nat.le_refl _) (by have := h.n_le; omega))]
    exact hex _ ⟨s1, rfl, c1, b1⟩
  · intro x hx
    exact T_some hx
  · exact ⟨_, rfl, (((sc.refl s).f (F 28 (by omega))).f (F 29 (by omega))).f (F 30 (by omega)), rfl⟩
end MB
