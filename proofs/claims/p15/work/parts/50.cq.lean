/-! ===== the class's answers ===== -/
noncomputable def Cq (s : St) : Prop := ok (gd s 1) ∧ Sz s ∧ (ia s 27).length = 5
theorem qq.c {s s' : St} (h : qq s s') (c : Cq s) : Cq s' := ⟨by rw [h.g (Or.inl rfl)]; exact c.1, h.z c.2.1, by rw [h.ln]; exact c.2.2⟩
theorem g1 : isG 1 := Or.inl rfl
theorem Ans.rows {β : Type} {s : St} {f : Nat × tH → Option (β × tH)} {w : β} (c : Cq s) (k : ∀ s', Cq s' → gd s' 1 = gd s 1 → rowsOK s' (RL (gd s 1)) → Ans s' (f (16, H s')) w) : Ans s ((m_63 0 (H s)).bind f) w := by
  obtain ⟨s1, e1, q1, r1⟩ := q_63 c.1 c.2.1
  obtain ⟨s2, e2, q2⟩ := k s1 (q1.q.c c) (q1.g g1) r1
  rw [e1]
  exact ⟨s2, e2, q1.q.trans q2⟩
theorem Ans.scr {β : Type} {s s' : St} {m : Option (β × tH)} {w : β} (h : sc s s') (k : Ans s' m w) : Ans s m w := by
  obtain ⟨s2, e2, q2⟩ := k
  exact ⟨s2, e2, h.q.trans q2⟩
theorem five {w : Int32} (h : ¬ w < 0) (h4 : w ≤ i3 4) : w = 0 ∨ w = 1 ∨ w = 2 ∨ w = 3 ∨ w = 4 := by
  have a : ¬ w.toInt < 0 := fun e => h (Int32.lt_iff_toInt_lt.mpr e)
  have b : w.toInt ≤ 4 := Int32.le_iff_toInt_le.mp h4
  have c : w.toInt = 0 ∨ w.toInt = 1 ∨ w.toInt = 2 ∨ w.toInt = 3 ∨ w.toInt = 4 := by omega
  rcases c with c | c | c | c | c
  · exact Or.inl (Int32.toInt_inj.mp c)
  · exact Or.inr (Or.inl (Int32.toInt_inj.mp c))
  · exact Or.inr (Or.inr (Or.inl (Int32.toInt_inj.mp c)))
  · exact Or.inr (Or.inr (Or.inr (Or.inl (Int32.toInt_inj.mp c))))
  · exact Or.inr (Or.inr (Or.inr (Or.inr (Int32.toInt_inj.mp c))))
noncomputable def vTreeOf (g : Gd) (t w : Int32) : Int32 := if isT g t then if w < 0 then i3 (-2) else if w ≤ i3 4 then if w = 0 then kA g t else if w = 1 then cA g t else if w = 2 then vA g t else if w = 3 then cw (RL g) t (i3 2) else cw (RL g) t (i3 3) else i3 (-2) else i3 (-2)
noncomputable def vTreeAt (g : Gd) (c : Int32) : Int32 := if isCl g c then tIn g c else i3 (-2)
noncomputable def vMany (g : Gd) (k : Int32) : Int32 := if ¬ k < i3 2 ∧ k ≤ i3 12 then co (RL g) k else i3 (-2)
noncomputable def nT (L : List Int32) : Int32 := i3 (L.length : Int) - co L (i3 2)
noncomputable def vRowAt (g : Gd) (k i : Int32) : Int32 := if ¬ k < i3 2 ∧ k ≤ i3 12 then if 0 ≤ i then if pk (RL g) k i = 0 then i3 (-5) else pk (RL g) k i else i3 (-2) else i3 (-2)
noncomputable def vLong (g : Gd) : Int32 := if fl (RL g) = 0 then i3 (-5) else fl (RL g)
noncomputable def vAlone (g : Gd) : Int32 := all g &&& (ti (RL g) ^^^ i3 (-1))
noncomputable def vThrough (g : Gd) (t u : Int32) : Int32 := if isT g t then if isT g u then if t = u then i3 (-2) else if kOf (kA g t) (i3 4) then i3 (-5) else if kOf (kA g u) (i3 4) then i3 (-5) else rowS g t u else i3 (-2) else i3 (-2)
noncomputable def vInLine (g : Gd) (m : Int32) : Int32 := if st3 g m then if inR g m then i3 1 else i3 0 else i3 (-2)
noncomputable def vMissed (g : Gd) (t : Int32) : Int32 := if isT g t then cw (RL g) t (i3 3) - cw (RL g) t (i3 4) else i3 (-2)
noncomputable def lsF (L : List Int32) (k : Nat) (m : Int32) : Int32 := if cw L m (i3 3) - cw L m (i3 4) ≤ cw L (i3 (k : Int)) (i3 3) - cw L (i3 (k : Int)) (i3 4) then m else i3 (k : Int)
noncomputable def vLeast (g : Gd) : Int32 := if tN g = 0 then i3 (-5) else fB 1 (nn g) (lsF (RL g)) (i3 0)
noncomputable def vBest (g : Gd) (w : Int32) : Int32 := if w < 0 then i3 (-2) else if w ≤ i3 2 then tel (mT g (RL g)) w else i3 (-2)
noncomputable def vBestFor (g : Gd) (w : Int32) : Int32 := if w < 0 then i3 (-2) else if w ≤ i3 2 then tel (mW g) w else i3 (-2)
noncomputable def nomv (g : Gd) (t c : Int32) : Int32 := if isT g t then if isCl g c then if kOf (kA g t) (i3 1) then i3 (-5) else if tIn g c = i3 (-1) then i3 0 else i3 (-5) else i3 (-2) else i3 (-2)
noncomputable def vMoved (g : Gd) (t c : Int32) : Int32 := if nomv g t c = 0 then (wT g (RL g) t).1 + rd (wT g (RL g) t).2 c else nomv g t c
noncomputable def mayF (g : Gd) (k : Nat) (m : Int64) : Int64 := if tIn g (i3 (k : Int)) = i3 (-1) then if rd (cr g (RL g) (i3 2)) (i3 (k : Int)) = 0 then m ||| ((Int64.ofNat 1) <<< ((Int32.toInt64 (i3 (k : Int))) &&& 63)) else m else m
noncomputable def vMay (g : Gd) : Int64 := itr (mayF g) (dn g * dn g) (Int64.ofNat 0)
noncomputable def vMost (m : Int32) : Int32 := if m < i3 1 then i3 (-2) else if m ≤ i3 5 then if m = i3 1 then i3 1 else i3 2 * m else i3 (-2)
noncomputable def vView (g : Gd) (c : Int32) : Int32 := if isCl g c then vw g c else i3 (-2)
noncomputable def ovF (g : Gd) (k : Nat) (m : Int64) : Int64 := if tIn g (i3 (k : Int)) = i3 (-1) then if als g (i3 (k : Int)) then m ||| ((Int64.ofNat 1) <<< ((Int32.toInt64 (i3 (k : Int))) &&& 63)) else m else m
noncomputable def vOver (g : Gd) : Int64 := itr (ovF g) (dn g * dn g) (Int64.ofNat 0)
noncomputable def vBehind (g : Gd) (t c : Int32) : Int32 := if isT g t then if isCl g c then if cA g t = c then i3 (-2) else hid g t c else i3 (-2) else i3 (-2)
noncomputable def vPaths (g : Gd) (w : Int32) : Int32 := if w < 0 then i3 (-2) else if w ≤ i3 3 then frl g w else i3 (-2)
noncomputable def vWishOf (g : Gd) (i : Int32) : Int32 := if isW g i then wA g i else i3 (-2)
noncomputable def vMet (g : Gd) (i : Int32) : Int32 := if i = i3 (-1) then wm g else if isW g i then if inR g (wA g i) then i3 1 else i3 0 else i3 (-2)
noncomputable def vMiddle (g : Gd) : Int32 := if tN g = 0 then i3 (-5) else mid g
noncomputable def vNearest (g : Gd) : Int32 := if i3 2 ≤ tN g then (npr g).2 else i3 (-5)
noncomputable def crnF (g : Gd) (k : Nat) (m : Int32) : Int32 := if crn g (i3 (k : Int)) then m ||| bit (i3 (k : Int)) else m
noncomputable def vCorners (g : Gd) : Int32 := itr (crnF g) (nn g) (i3 0)
noncomputable def vPointed (g : Gd) (c : Int32) : Int32 := if isCl g c then rd (cr g (RL g) (i3 3)) c else i3 (-2)
noncomputable def vGap (g : Gd) (a : Gp) (w : Int32) : Int32 := if w < 0 then i3 (-2) else if w ≤ i3 1 then if (gpA g (RL g) a).2.1 = i3 (-1) then i3 (-5) else if w = 0 then (gpA g (RL g) a).1 else (gpA g (RL g) a).2.1 else i3 (-2)
section CQ
variable {s : St}
theorem a_18 (c : Cq s) (t w : Int32) : Ans s (m_18 0 t w (H s)) (vTreeOf (gd s 1) t w) := by
  unfold m_18 vTreeOf
  simp only [r_0, q_81 g1, Option.bind_some, jn, cst, bP_if, rB_0, rB_1, z00, z10, ↓reduceIte]
  by_cases c1 : isT (gd s 1) t
  · rw [if_pos c1, if_pos c1]
    by_cases c2 : w < 0
    · rw [if_pos c2, if_pos c2]
      exact Ans.cf c.2.2 isB2
    · rw [if_neg c2, if_neg c2]
      by_cases c3 : w ≤ i3 4
      · rw [if_pos c3, if_pos c3]
        have e1 : at32 (kS (gd s 1)) t = some (kA (gd s 1) t) := c.1.at_k c1
        have e2 : at32 (cS (gd s 1)) t = some (cA (gd s 1) t) := c.1.at_c c1
        have e3 : at32 (vS (gd s 1)) t = some (vA (gd s 1) t) := c.1.at_v c1
        have R : ∀ q, Ans s ((m_63 0 (H s)).bind fun q7 => (m_107 q7.1 t q q7.2).bind fun x8 => some (x8, q7.2)) (cw (RL (gd s 1)) t q) := fun q => Ans.rows c (fun s' _ _ r => by
          simp only [q_107 r, Option.bind_some, jn, cst, bP_if, rB_0, rB_1, z00, z10, ↓reduceIte]
          exact Ans.id)
        rcases five c2 c3 with rfl | rfl | rfl | rfl | rfl
        · rw [if_neg (by decide +kernel), if_pos rfl, if_pos rfl]
          simp only [r_G g1, show (1 : Nat) + 1 = 2 from rfl, e1, Option.bind_some, jn, cst, bP_if, rB_0, rB_1, z00, z10, ↓reduceIte]
          exact Ans.id
        · rw [if_neg (by decide +kernel), if_neg (by decide +kernel), if_pos rfl, if_neg (by decide +kernel), if_pos rfl]
          simp only [r_G g1, e2, Option.bind_some, jn, cst, bP_if, rB_0, rB_1, z00, z10, ↓reduceIte]
          exact Ans.id
        · rw [if_neg (by decide +kernel), if_neg (by decide +kernel), if_neg (by decide +kernel), if_pos rfl, if_neg (by decide +kernel), if_neg (by decide +kernel), if_pos rfl]
          simp only [r_G g1, e3, Option.bind_some, jn, cst, bP_if, rB_0, rB_1, z00, z10, ↓reduceIte]
          exact Ans.id
        · rw [if_neg (by decide +kernel), if_neg (by decide +kernel), if_neg (by decide +kernel), if_neg (by decide +kernel), if_pos rfl, if_neg (by decide +kernel), if_neg (by decide +kernel), if_neg (by decide +kernel), if_pos rfl]
          exact R _
        · rw [if_pos (by decide +kernel), if_neg (by decide +kernel), if_neg (by decide +kernel), if_neg (by decide +kernel), if_neg (by decide +kernel)]
          exact R _
      · rw [if_neg c3, if_neg c3]
        exact Ans.cf c.2.2 isB2
  · rw [if_neg c1, if_neg c1]
    exact Ans.cf c.2.2 isB2
theorem a_19 (c : Cq s) (x : Int32) : Ans s (m_19 0 x (H s)) (vTreeAt (gd s 1) x) := by
  unfold m_19 vTreeAt
  simp only [r_0, q_71 g1, q_83 g1 c.1, Option.bind_some, jn, cst, bP_if, rB_0, rB_1, z00, z10, ↓reduceIte]
  by_cases c1 : isCl (gd s 1) x
  · rw [if_pos c1, if_pos c1]
    exact Ans.id
  · rw [if_neg c1, if_neg c1]
    exact Ans.cf c.2.2 isB2
theorem a_20 (c : Cq s) (k : Int32) : Ans s (m_20 0 k (H s)) (vMany (gd s 1) k) := by
  unfold m_20 vMany
  simp only [r_0, q_64, Option.bind_some, jn, cst, bP_if, rB_0, rB_1, z00, z10, ↓reduceIte]
  by_cases c1 : ¬ k < i3 2 ∧ k ≤ i3 12
  · rw [if_pos c1, if_pos c1]
    refine Ans.rows c (fun s' _ _ r => ?_)
    simp only [q_105 r, Option.bind_some, jn, cst, bP_if, rB_0, rB_1, z00, z10, ↓reduceIte]
    exact Ans.id
  · rw [if_neg c1, if_neg c1]
    exact Ans.cf c.2.2 isB2
theorem a_21 (c : Cq s) : Ans s (m_21 0 (H s)) (nT (RL (gd s 1))) := by
  unfold m_21 nT
  simp only [r_0, Option.bind_some, jn, cst, bP_if, rB_0, rB_1, z00, z10, ↓reduceIte]
  refine Ans.rows c (fun s' _ _ r => ?_)
  simp only [q_106 r, Option.bind_some, jn, cst, bP_if, rB_0, rB_1, z00, z10, ↓reduceIte]
  exact Ans.id
theorem a_22 (c : Cq s) (k i : Int32) : Ans s (m_22 0 k i (H s)) (vRowAt (gd s 1) k i) := by
  unfold m_22 vRowAt
  simp only [r_0, q_64, Option.bind_some, jn, cst, bP_if, rB_0, rB_1, z00, z10, ↓reduceIte]
  by_cases c1 : ¬ k < i3 2 ∧ k ≤ i3 12
  · rw [if_pos c1, if_pos c1]
    by_cases c2 : 0 ≤ i
    · rw [if_pos c2, if_pos c2]
      refine Ans.rows c (fun s' cc _ r => ?_)
      simp only [q_110 r, Option.bind_some, jn, cst, bP_if, rB_0, rB_1, z00, z10, ↓reduceIte]
      by_cases c3 : pk (RL (gd s 1)) k i = 0
      · rw [if_pos c3, if_pos c3]
        exact Ans.cf cc.2.2 isB5
      · rw [if_neg c3, if_neg c3]
        exact Ans.id
    · rw [if_neg c2, if_neg c2]
      exact Ans.cf c.2.2 isB2
  · rw [if_neg c1, if_neg c1]
    exact Ans.cf c.2.2 isB2
theorem a_23 (c : Cq s) : Ans s (m_23 0 (H s)) (vLong (gd s 1)) := by
  unfold m_23 vLong
  simp only [r_0, Option.bind_some, jn, cst, bP_if, rB_0, rB_1, z00, z10, ↓reduceIte]
  refine Ans.rows c (fun s' cc _ r => ?_)
  simp only [q_111 r, Option.bind_some, jn, cst, bP_if, rB_0, rB_1, z00, z10, ↓reduceIte]
  by_cases c3 : fl (RL (gd s 1)) = 0
  · rw [if_pos c3, if_pos c3]
    exact Ans.cf cc.2.2 isB5
  · rw [if_neg c3, if_neg c3]
    exact Ans.id
theorem a_24 (c : Cq s) : Ans s (m_24 0 (H s)) (vAlone (gd s 1)) := by
  unfold m_24 vAlone
  simp only [r_0, q_82 g1, Option.bind_some, jn, cst, bP_if, rB_0, rB_1, z00, z10, ↓reduceIte]
  refine Ans.rows c (fun s' cc _ r => ?_)
  simp only [q_109 r, Option.bind_some, jn, cst, bP_if, rB_0, rB_1, z00, z10, ↓reduceIte]
  exact Ans.id
theorem a_25 (c : Cq s) (t u : Int32) : Ans s (m_25 0 t u (H s)) (vThrough (gd s 1) t u) := by
  unfold m_25 vThrough
  simp only [r_0, q_81 g1, Option.bind_some, jn, cst, bP_if, rB_0, rB_1, z00, z10, ↓reduceIte]
  by_cases c1 : isT (gd s 1) t
  · rw [if_pos c1, if_pos c1]
    by_cases c2 : isT (gd s 1) u
    · rw [if_pos c2, if_pos c2]
      by_cases c3 : t = u
      · rw [if_pos c3, if_pos c3]
        exact Ans.cf c.2.2 isB2
      · rw [if_neg c3, if_neg c3]
        simp only [q_85 g1 c.1 c1, q_85 g1 c.1 c2, q_92 g1 c.1 c1 c2, Option.bind_some, jn, cst, bP_if, rB_0, rB_1, z00, z10, ↓reduceIte]
        by_cases c4 : kOf (kA (gd s 1) t) (i3 4)
        · rw [if_pos c4, if_pos c4]
          exact Ans.cf c.2.2 isB5
        · rw [if_neg c4, if_neg c4]
          by_cases c5 : kOf (kA (gd s 1) u) (i3 4)
          · rw [if_pos c5, if_pos c5]
            exact Ans.cf c.2.2 isB5
          · rw [if_neg c5, if_neg c5]
            exact Ans.id
    · rw [if_neg c2, if_neg c2]
      exact Ans.cf c.2.2 isB2
  · rw [if_neg c1, if_neg c1]
    exact Ans.cf c.2.2 isB2
theorem a_26 (c : Cq s) (m : Int32) : Ans s (m_26 0 m (H s)) (vInLine (gd s 1) m) := by
  unfold m_26 vInLine
  simp only [r_0, q_93 g1, q_94 g1 c.1, Option.bind_some, jn, cst, bP_if, rB_0, rB_1, z00, z10, ↓reduceIte]
  by_cases c1 : st3 (gd s 1) m
  · rw [if_pos c1, if_pos c1]
    by_cases c2 : inR (gd s 1) m
    · rw [if_pos c2, if_pos c2]
      exact Ans.id
    · rw [if_neg c2, if_neg c2]
      exact Ans.id
  · rw [if_neg c1, if_neg c1]
    exact Ans.cf c.2.2 isB2
theorem a_30 (c : Cq s) (w : Int32) : ∃ a b d, Ans s (m_30 0 w (H s)) (vGap (gd s 1) (a, i3 (-1), b, d) w) := by
  unfold m_30 vGap
  simp only [r_0, Option.bind_some, jn, cst, bP_if, rB_0, rB_1, z00, z10, ↓reduceIte]
  by_cases c1 : w < 0
  · refine ⟨0, 0, 0, ?_⟩
    rw [if_pos c1, if_pos c1]
    exact Ans.cf c.2.2 isB2
  rw [if_neg c1]
  by_cases c2 : w ≤ i3 1
  · rw [if_pos c2]
    obtain ⟨s1, e1, q1, r1⟩ := q_63 c.1 c.2.1
    have cc := q1.q.c c
    obtain ⟨_, e2, s2, rfl, q2, p2⟩ := q_126 cc.1 r1
    rw [q1.g g1] at p2
    refine ⟨fi s1 23 0, fi s1 23 2, fi s1 23 3, ?_⟩
    rw [if_neg c1, if_pos c2, e1]
    simp only [Option.bind_some, jn, cst, bP_if, rB_0, rB_1, z00, z10, ↓reduceIte]
    rw [e2]
    simp only [r_0, r_P, Option.bind_some, jn, cst, bP_if, rB_0, rB_1, z00, z10, ↓reduceIte]
    refine Ans.scr (q1.trans q2) ?_
    rw [← p2]
    show Ans s2 (if fi s2 23 1 = _ then _ else _) (if fi s2 23 1 = _ then _ else if w = 0 then fi s2 23 0 else fi s2 23 1)
    by_cases c3 : fi s2 23 1 = i3 (-1)
    · rw [if_pos c3, if_pos c3]
      exact Ans.cf (q2.q.c cc).2.2 isB5
    · rw [if_neg c3, if_neg c3]
      by_cases c4 : w = 0
      · rw [if_pos c4, if_pos c4]
        exact Ans.id
      · rw [if_neg c4, if_neg c4]
        exact Ans.id
  · refine ⟨0, 0, 0, ?_⟩
    rw [if_neg c2, if_neg c1, if_neg c2]
    exact Ans.cf c.2.2 isB2
theorem a_31 (c : Cq s) (t : Int32) : Ans s (m_31 0 t (H s)) (vMissed (gd s 1) t) := by
  unfold m_31 vMissed
  simp only [r_0, q_81 g1, Option.bind_some, jn, cst, bP_if, rB_0, rB_1, z00, z10, ↓reduceIte]
  by_cases c1 : isT (gd s 1) t
  · rw [if_pos c1, if_pos c1]
    refine Ans.rows c (fun s' cc _ r => ?_)
    simp only [q_108 r, Option.bind_some, jn, cst, bP_if, rB_0, rB_1, z00, z10, ↓reduceIte]
    exact Ans.id
  · rw [if_neg c1, if_neg c1]
    exact Ans.cf c.2.2 isB2
theorem a_32 (c : Cq s) : Ans s (m_32 0 (H s)) (vLeast (gd s 1)) := by
  have h := c.1
  have hn := h.n_le
  unfold m_32 vLeast
  simp only [r_0, r_G g1, Option.bind_some, jn, cst, bP_if, rB_0, rB_1, z00, z10, ↓reduceIte]
  by_cases c1 : tN (gd s 1) = 0
  · rw [if_pos c1, if_pos c1]
    exact Ans.cf c.2.2 isB5
  · rw [if_neg c1, if_neg c1]
    refine Ans.rows c (fun s' cc e r => ?_)
    simp only [r_0, r_G g1, e, q_108 r, Option.bind_some, jn, cst, bP_if, rB_0, rB_1, z00, z10, ↓reduceIte]
    refine ⟨s', ?_, qq.refl s'⟩
    refine (lpB 1 (nn (gd s 1)) (by omega) (by omega) (fun t a => (a, t)) (fun a => a) (lsF (RL (gd s 1))) (fun _ => True) (i3 0) ?_ (fun _ _ _ _ _ => trivial) ?_ trivial).trans rfl
    · intro k m nx ex _ hk _
      simp only [(h.T hk).2, Option.bind_some, jn, cst, bP_if, rB_0, rB_1, z00, z10, ↓reduceIte]
      unfold lsF
      ((repeat' split) <;> (first | rfl | (exfalso; simp_all only [isT, isCl, isW, st3, btw, kOf, not_true_eq_false, not_false_eq_true, and_true, true_and, and_self, and_false, false_and, or_true, true_or, or_false, false_or, not_and]; done) | grind))
    · intro k a nx ex hk hk2 _
      simp only [h.Te hk hk2, Option.bind_some, jn, cst, bP_if, rB_0, rB_1, z00, z10, ↓reduceIte]
theorem a_33 (c : Cq s) (w : Int32) : Ans s (m_33 0 w (H s)) (vBest (gd s 1) w) := by
  unfold m_33 vBest
  simp only [r_0, Option.bind_some, jn, cst, bP_if, rB_0, rB_1, z00, z10, ↓reduceIte]
  by_cases c1 : w < 0
  · rw [if_pos c1, if_pos c1]
    exact Ans.cf c.2.2 isB2
  rw [if_neg c1, if_neg c1]
  by_cases c2 : w ≤ i3 2
  · rw [if_pos c2, if_pos c2]
    refine Ans.rows c (fun s' cc e r => ?_)
    obtain ⟨_, e2, s2, rfl, q2, p2, -⟩ := q_117 cc.1 cc.2.1 r
    simp only [Option.bind_some, jn, cst, bP_if, rB_0, rB_1, z00, z10, ↓reduceIte]
    rw [e2]
    simp only [r_0, q_124, Option.bind_some, jn, cst, bP_if, rB_0, rB_1, z00, z10, ↓reduceIte, p2, e]
    exact ⟨s2, rfl, q2.q⟩
  · rw [if_neg c2, if_neg c2]
    exact Ans.cf c.2.2 isB2
theorem q_67 (c : Cq s) (t x : Int32) : m_67 0 t x (H s) = some (nomv (gd s 1) t x) := by
  unfold m_67 nomv
  simp only [r_0, q_81 g1, q_71 g1, q_84 g1 c.1, Option.bind_some, jn, cst, bP_if, rB_0, rB_1, z00, z10, ↓reduceIte]
  by_cases c1 : isT (gd s 1) t
  · simp only [if_pos c1, q_87 g1 c.1 c1, Option.bind_some, jn, cst, bP_if, rB_0, rB_1, z00, z10, ↓reduceIte]
    ((repeat' split) <;> (first | rfl | (exfalso; simp_all only [isT, isCl, isW, st3, btw, kOf, not_true_eq_false, not_false_eq_true, and_true, true_and, and_self, and_false, false_and, or_true, true_or, or_false, false_or, not_and]; done) | grind))
  · simp only [if_neg c1]
theorem nomv_B {g : Gd} {t x : Int32} (h : ¬ nomv g t x = 0) : isB (nomv g t x) := by
  unfold nomv at h ⊢
  by_cases c1 : isT g t
  · rw [if_pos c1] at h ⊢
    by_cases c2 : isCl g x
    · rw [if_pos c2] at h ⊢
      by_cases c3 : kOf (kA g t) (i3 1)
      · rw [if_pos c3]; exact isB5
      · rw [if_neg c3] at h ⊢
        by_cases c4 : tIn g x = i3 (-1)
        · rw [if_pos c4] at h
          exact absurd rfl h
        · rw [if_neg c4]; exact isB5
    · rw [if_neg c2]; exact isB2
  · rw [if_neg c1]; exact isB2
theorem nomv_0 {g : Gd} {t x : Int32} (h : nomv g t x = 0) : isT g t ∧ isCl g x ∧ ¬ kOf (kA g t) (i3 1) ∧ tIn g x = i3 (-1) := by
  unfold nomv at h
  have n5 : ¬ i3 (-5) = 0 := by decide +kernel
  have n2 : ¬ i3 (-2) = 0 := by decide +kernel
  by_cases c1 : isT g t
  · rw [if_pos c1] at h
    by_cases c2 : isCl g x
    · rw [if_pos c2] at h
      by_cases c3 : kOf (kA g t) (i3 1)
      · rw [if_pos c3] at h; exact absurd h n5
      · rw [if_neg c3] at h
        by_cases c4 : tIn g x = i3 (-1)
        · exact ⟨c1, c2, c3, c4⟩
        · rw [if_neg c4] at h; exact absurd h n5
    · rw [if_neg c2] at h; exact absurd h n2
  · rw [if_neg c1] at h; exact absurd h n2
theorem a_34 (c : Cq s) (t x : Int32) : Ans s (m_34 0 t x (H s)) (vMoved (gd s 1) t x) := by
  unfold m_34 vMoved
  simp only [r_0, q_67 c, Option.bind_some, jn, cst, bP_if, rB_0, rB_1, z00, z10, ↓reduceIte]
  by_cases c1 : nomv (gd s 1) t x = 0
  · rw [if_pos c1, if_pos c1]
    obtain ⟨h1, h2, h3, h4⟩ := nomv_0 c1
    refine Ans.rows c (fun s' cc e r => ?_)
    rw [← e] at h1 h2 r ⊢
    simp only [q_119 cc.1 cc.2.1 r h1 h2, Option.bind_some, jn, cst, bP_if, rB_0, rB_1, z00, z10, ↓reduceIte]
    exact ⟨_, rfl, (sc_wst cc.2.1 (wT_len _ _ _)).q⟩
  · rw [if_neg c1, if_neg c1]
    exact Ans.cf c.2.2 (nomv_B c1)
theorem a_35 (c : Cq s) : Ans s (m_35 0 (H s)) (vMay (gd s 1)) := by
  unfold m_35 vMay
  simp only [r_0, Option.bind_some, jn, cst, bP_if, rB_0, rB_1, z00, z10, ↓reduceIte]
  refine Ans.rows c (fun s' cc e r => ?_)
  have h := cc.1
  have hcc := h.cc_le
  simp only [q_114 cc.1 cc.2.1 r, Option.bind_some, jn, cst, bP_if, rB_0, rB_1, z00, z10, ↓reduceIte]
  have eg : gd (sa s' 19 (cr (gd s' 1) (RL (gd s 1)) (Int32.ofInt 2))) 1 = gd s' 1 := gd1_sa (by omega)
  have hl := cr_len (gd s' 1) (RL (gd s 1)) (Int32.ofInt 2)
  have h' : ok (gd (sa s' 19 (cr (gd s' 1) (RL (gd s 1)) (Int32.ofInt 2))) 1) := by rw [eg]; exact h
  have ei : ia (sa s' 19 (cr (gd s' 1) (RL (gd s 1)) (Int32.ofInt 2))) 19 = cr (gd s' 1) (RL (gd s 1)) (Int32.ofInt 2) := rfl
  refine ⟨sa s' 19 (cr (gd s' 1) (RL (gd s 1)) (Int32.ofInt 2)), ?_, (qq.refl s').a (Or.inl (Or.inr (Or.inl rfl))) (by rw [hl, cc.2.1.2.1])⟩
  simp only [r_0, q_70 g1, q_84 g1 h', r_C (Or.inl rfl : isC 18), show (18 : Nat) + 1 = 19 from rfl, eg, ei, Option.bind_some, jn, cst, bP_if, rB_0, rB_1, z00, z10, ↓reduceIte]
  rw [← e]
  refine (lp0 (dn (gd s' 1) * dn (gd s' 1)) (by have := h.cc_le; omega) (fun t (a : Int64) => (a, t)) (fun a => a) (mayF (gd s' 1)) (fun _ => True) (Int64.ofNat 0) ?_ (fun _ _ _ _ => trivial) ?_ trivial).trans rfl
  · intro k m nx ex hk _
    have hr : at32 (cr (gd s' 1) (RL (gd s' 1)) (Int32.ofInt 2)) (i3 (k : Int)) = some (rd (cr (gd s' 1) (RL (gd s' 1)) (Int32.ofInt 2)) (i3 (k : Int))) := at_rd (h.C hk).1 (by rw [cl_i3 (by omega), cr_len]; omega)
    simp only [(h.C hk).2, hr, Option.bind_some, jn, cst, bP_if, rB_0, rB_1, z00, z10, ↓reduceIte]
    unfold mayF
    ((repeat' split) <;> (first | rfl | (exfalso; simp_all only [isT, isCl, isW, st3, btw, kOf, not_true_eq_false, not_false_eq_true, and_true, true_and, and_self, and_false, false_and, or_true, true_or, or_false, false_or, not_and]; done) | grind))
  · intro a nx ex _
    simp only [h.Ce (Nat.le_refl _) (by have := h.cc_le; omega), Option.bind_some, jn, cst, bP_if, rB_0, rB_1, z00, z10, ↓reduceIte]
theorem a_36 (c : Cq s) (m : Int32) : Ans s (m_36 0 m (H s)) (vMost m) := by
  unfold m_36 vMost
  simp only [r_0, Option.bind_some, jn, cst, bP_if, rB_0, rB_1, z00, z10, ↓reduceIte]
  by_cases c1 : m < i3 1
  · rw [if_pos c1, if_pos c1]
    exact Ans.cf c.2.2 isB2
  rw [if_neg c1, if_neg c1]
  by_cases c2 : m ≤ i3 5
  · rw [if_pos c2, if_pos c2]
    by_cases c3 : m = i3 1
    · rw [if_pos c3, if_pos c3]
      exact Ans.id
    · rw [if_neg c3, if_neg c3]
      exact Ans.id
  · rw [if_neg c2, if_neg c2]
    exact Ans.cf c.2.2 isB2
theorem a_37 (c : Cq s) (x : Int32) : Ans s (m_37 0 x (H s)) (vView (gd s 1) x) := by
  unfold m_37 vView
  simp only [r_0, q_71 g1, q_146 g1 c.1, Option.bind_some, jn, cst, bP_if, rB_0, rB_1, z00, z10, ↓reduceIte]
  by_cases c1 : isCl (gd s 1) x
  · rw [if_pos c1, if_pos c1]
    exact Ans.id
  · rw [if_neg c1, if_neg c1]
    exact Ans.cf c.2.2 isB2
theorem a_38 (c : Cq s) : m_38 0 (H s) = some (vOver (gd s 1)) := by
  have h := c.1
  unfold m_38 vOver
  simp only [r_0, q_70 g1, q_84 g1 h, q_147 g1 h, Option.bind_some, jn, cst, bP_if, rB_0, rB_1, z00, z10, ↓reduceIte]
  refine (lp0 (dn (gd s 1) * dn (gd s 1)) (by have := h.cc_le; omega) (fun t (a : Int64) => (a, t)) (fun a => a) (ovF (gd s 1)) (fun _ => True) (Int64.ofNat 0) ?_ (fun _ _ _ _ => trivial) ?_ trivial).trans rfl
  · intro k m nx ex hk _
    simp only [(h.C hk).2, Option.bind_some, jn, cst, bP_if, rB_0, rB_1, z00, z10, ↓reduceIte]
    unfold ovF
    ((repeat' split) <;> (first | rfl | (exfalso; simp_all only [isT, isCl, isW, st3, btw, kOf, not_true_eq_false, not_false_eq_true, and_true, true_and, and_self, and_false, false_and, or_true, true_or, or_false, false_or, not_and]; done) | grind))
  · intro a nx ex _
    simp only [h.Ce (Nat.le_refl _) (by have := h.cc_le; omega), Option.bind_some, jn, cst, bP_if, rB_0, rB_1, z00, z10, ↓reduceIte]
theorem a_39 (c : Cq s) (t x : Int32) : Ans s (m_39 0 t x (H s)) (vBehind (gd s 1) t x) := by
  unfold m_39 vBehind
  simp only [r_0, q_81 g1, q_71 g1, Option.bind_some, jn, cst, bP_if, rB_0, rB_1, z00, z10, ↓reduceIte]
  by_cases c1 : isT (gd s 1) t
  · rw [if_pos c1, if_pos c1]
    by_cases c2 : isCl (gd s 1) x
    · rw [if_pos c2, if_pos c2]
      simp only [r_G g1, c.1.at_c c1, q_143 g1 c.1 c1, Option.bind_some, jn, cst, bP_if, rB_0, rB_1, z00, z10, ↓reduceIte]
      by_cases c3 : cA (gd s 1) t = x
      · rw [if_pos c3, if_pos c3]
        exact Ans.cf c.2.2 isB2
      · rw [if_neg c3, if_neg c3]
        exact Ans.id
    · rw [if_neg c2, if_neg c2]
      exact Ans.cf c.2.2 isB2
  · rw [if_neg c1, if_neg c1]
    exact Ans.cf c.2.2 isB2
theorem a_40 (c : Cq s) (w : Int32) : Ans s (m_40 0 w (H s)) (vPaths (gd s 1) w) := by
  unfold m_40 vPaths
  simp only [r_0, q_132 g1 c.1, Option.bind_some, jn, cst, bP_if, rB_0, rB_1, z00, z10, ↓reduceIte]
  by_cases c1 : w < 0
  · rw [if_pos c1, if_pos c1]
    exact Ans.cf c.2.2 isB2
  rw [if_neg c1, if_neg c1]
  by_cases c2 : w ≤ i3 3
  · rw [if_pos c2, if_pos c2]
    exact Ans.id
  · rw [if_neg c2, if_neg c2]
    exact Ans.cf c.2.2 isB2
theorem a_41 (c : Cq s) (i : Int32) : Ans s (m_41 0 i (H s)) (vWishOf (gd s 1) i) := by
  unfold m_41 vWishOf
  simp only [r_0, q_95 g1, Option.bind_some, jn, cst, bP_if, rB_0, rB_1, z00, z10, ↓reduceIte]
  by_cases c1 : isW (gd s 1) i
  · rw [if_pos c1, if_pos c1]
    simp only [r_G g1, c.1.at_w c1, Option.bind_some, jn, cst, bP_if, rB_0, rB_1, z00, z10, ↓reduceIte]
    exact Ans.id
  · rw [if_neg c1, if_neg c1]
    exact Ans.cf c.2.2 isB2
theorem a_42a (c : Cq s) : Ans s (m_42 0 (i3 (-1)) (H s)) (wm (gd s 1)) := by
  unfold m_42
  rw [(r_0 s).1, Option.bind_some, if_pos rfl, (r_0 s).2.1, Option.bind_some, q_98 g1 c.1]
  exact Ans.id
theorem a_42b (c : Cq s) {i : Int32} (c0 : ¬ i = i3 (-1)) : Ans s (m_42 0 i (H s)) (if isW (gd s 1) i then if inR (gd s 1) (wA (gd s 1) i) then i3 1 else i3 0 else i3 (-2)) := by
  unfold m_42
  rw [(r_0 s).1, Option.bind_some, if_neg c0]
  by_cases c1 : isW (gd s 1) i
  · rw [if_pos c1]
    have ew := c.1.at_w c1
    generalize wA (gd s 1) i = w at ew ⊢
    simp only [r_0, q_95 g1, Option.bind_some, jn, cst, bP_if, rB_0, rB_1, z00, z10, ↓reduceIte, if_pos c1, r_G g1, ew, q_94 g1 c.1]
    by_cases c2 : inR (gd s 1) w
    · rw [if_pos c2, if_pos c2]
      exact Ans.id
    · rw [if_neg c2, if_neg c2]
      exact Ans.id
  · rw [if_neg c1, (r_0 s).2.1, Option.bind_some, q_95 g1, Option.bind_some, bP_if, if_neg c1, cst.1]
    exact Ans.cf c.2.2 isB2
theorem a_42 (c : Cq s) (i : Int32) : Ans s (m_42 0 i (H s)) (vMet (gd s 1) i) := by
  unfold vMet
  by_cases c0 : i = i3 (-1)
  · rw [if_pos c0, c0]
    exact a_42a c
  · rw [if_neg c0]
    exact a_42b c c0
theorem a_43 (c : Cq s) (w : Int32) : Ans s (m_43 0 w (H s)) (vBestFor (gd s 1) w) := by
  unfold m_43 vBestFor
  simp only [r_0, Option.bind_some, jn, cst, bP_if, rB_0, rB_1, z00, z10, ↓reduceIte]
  by_cases c1 : w < 0
  · rw [if_pos c1, if_pos c1]
    exact Ans.cf c.2.2 isB2
  rw [if_neg c1, if_neg c1]
  by_cases c2 : w ≤ i3 2
  · rw [if_pos c2, if_pos c2]
    obtain ⟨_, e2, s2, rfl, q2, p2⟩ := q_118 c.1 c.2.1
    rw [e2]
    simp only [r_0, q_124, Option.bind_some, jn, cst, bP_if, rB_0, rB_1, z00, z10, ↓reduceIte, p2]
    exact ⟨s2, rfl, q2.q⟩
  · rw [if_neg c2, if_neg c2]
    exact Ans.cf c.2.2 isB2
theorem a_44 (c : Cq s) : m_44 0 (H s) = some (owns (gd s 1)) := by
  unfold m_44
  simp only [r_0, q_134 g1 c.1, Option.bind_some, jn, cst, bP_if, rB_0, rB_1, z00, z10, ↓reduceIte]
theorem a_45 (c : Cq s) : Ans s (m_45 0 (H s)) (vMiddle (gd s 1)) := by
  unfold m_45 vMiddle
  simp only [r_0, r_G g1, q_130 g1 c.1, Option.bind_some, jn, cst, bP_if, rB_0, rB_1, z00, z10, ↓reduceIte]
  by_cases c1 : tN (gd s 1) = 0
  · rw [if_pos c1, if_pos c1]
    exact Ans.cf c.2.2 isB5
  · rw [if_neg c1, if_neg c1]
    exact Ans.id
theorem a_46 (c : Cq s) : Ans s (m_46 0 (H s)) (vNearest (gd s 1)) := by
  unfold m_46 vNearest
  simp only [r_0, r_G g1, q_129 g1 c.1, Option.bind_some, jn, cst, bP_if, rB_0, rB_1, z00, z10, ↓reduceIte]
  by_cases c1 : i3 2 ≤ tN (gd s 1)
  · rw [if_pos c1, if_pos c1]
    exact Ans.id
  · rw [if_neg c1, if_neg c1]
    exact Ans.cf c.2.2 isB5
theorem a_47 (c : Cq s) : m_47 0 (H s) = some (gar (gd s 1)) := by
  unfold m_47
  simp only [r_0, q_136 g1 c.1, Option.bind_some, jn, cst, bP_if, rB_0, rB_1, z00, z10, ↓reduceIte]
theorem a_48 (c : Cq s) : m_48 0 (H s) = some (csq (gd s 1) / i3 4) := by
  unfold m_48
  simp only [r_0, q_137 g1 c.1, Option.bind_some, jn, cst, bP_if, rB_0, rB_1, z00, z10, ↓reduceIte]
theorem a_49 (c : Cq s) : m_49 0 (H s) = some (vCorners (gd s 1)) := by
  have h := c.1
  unfold m_49 vCorners
  simp only [r_0, r_G g1, Option.bind_some, jn, cst, bP_if, rB_0, rB_1, z00, z10, ↓reduceIte]
  refine (lp0 (nn (gd s 1)) (by have := h.n_le; omega) (fun t a => (a, t)) (fun a => a) (crnF (gd s 1)) (fun _ => True) (i3 0) ?_ (fun _ _ _ _ => trivial) ?_ trivial).trans rfl
  · intro k m nx ex hk _
    simp only [(h.T hk).2, q_140 g1 h (h.T hk), Option.bind_some, jn, cst, bP_if, rB_0, rB_1, z00, z10, ↓reduceIte]
    unfold crnF bit
    ((repeat' split) <;> (first | rfl | (exfalso; simp_all only [isT, isCl, isW, st3, btw, kOf, not_true_eq_false, not_false_eq_true, and_true, true_and, and_self, and_false, false_and, or_true, true_or, or_false, false_or, not_and]; done) | grind))
  · intro a nx ex _
    simp only [h.Te (Nat.le_refl _) (by have := h.n_le; omega), Option.bind_some, jn, cst, bP_if, rB_0, rB_1, z00, z10, ↓reduceIte]
theorem a_50 (c : Cq s) (x : Int32) : Ans s (m_50 0 x (H s)) (vPointed (gd s 1) x) := by
  unfold m_50 vPointed
  simp only [r_0, q_71 g1, Option.bind_some, jn, cst, bP_if, rB_0, rB_1, z00, z10, ↓reduceIte]
  by_cases c1 : isCl (gd s 1) x
  · rw [if_pos c1, if_pos c1]
    refine Ans.rows c (fun s' cc e r => ?_)
    rw [← e] at r c1 ⊢
    have hb := cc.1.cl c1
    have hb2 := cc.1.cc_le
    have hl := cr_len (gd s' 1) (RL (gd s' 1)) (Int32.ofInt 3)
    have ei : ia (sa s' 19 (cr (gd s' 1) (RL (gd s' 1)) (Int32.ofInt 3))) 19 = cr (gd s' 1) (RL (gd s' 1)) (Int32.ofInt 3) := rfl
    simp only [q_114 cc.1 cc.2.1 r, r_0, r_C (Or.inl rfl : isC 18), show (18 : Nat) + 1 = 19 from rfl, ei, at_rd c1.1 (show _ < (cr (gd s' 1) (RL (gd s' 1)) (Int32.ofInt 3)).length by omega), Option.bind_some, jn, cst, bP_if, rB_0, rB_1, z00, z10, ↓reduceIte]
    exact ⟨_, rfl, (qq.refl s').a (Or.inl (Or.inr (Or.inl rfl))) (by rw [hl, cc.2.1.2.1])⟩
  · rw [if_neg c1, if_neg c1]
    exact Ans.cf c.2.2 isB2
end CQ
