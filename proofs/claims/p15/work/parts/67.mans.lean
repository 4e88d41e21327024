/-! ===== the reference's answers, I ===== -/
section MA
variable {s : St}
theorem eF.ans {α : Type} {s s' : St} {v : α} (h : eF s s') : Ans s (some (v, H s')) v := ⟨s', rfl, h.1.q⟩
theorem d_19 (c : Mq s) (x : Int32) : Ans s (m_245 44 x (H s)) (vTreeAt (md s 44) x) := by
  unfold m_245 vTreeAt
  rw [(r_m s).1, Option.bind_some, q_193 c.1, Option.bind_some]
  unfold jn
  dsimp only
  rw [bP_if]
  by_cases c1 : isCl (md s 44) x
  · rw [if_pos c1, if_pos c1, q_194 c.1, Option.bind_some]
    exact Ans.id
  · rw [if_neg c1, if_neg c1, cst.1]
    exact Ans.mf c.2.2 isB2
theorem fiveM {w : Int32} (h : ¬ (w < 0 ∨ 4 < w)) : w = 0 ∨ w = 1 ∨ w = 2 ∨ w = 3 ∨ w = 4 := five (fun e => h (Or.inl e)) (Int32.not_lt.mp (fun e => h (Or.inr e)))
theorem d_18 (c : Mq s) (t w : Int32) : Ans s (m_244 44 t w (H s)) (vTreeOf (md s 44) t w) := by
  unfold m_244 vTreeOf
  rw [(r_m s).1, Option.bind_some, q_191 c.1, Option.bind_some, bP_if]
  by_cases c1 : isT (md s 44) t
  · rw [if_pos c1, if_pos c1]
    by_cases c2 : w < 0 ∨ 4 < w
    · rw [if_pos c2, cst.1]
      have e : (if w < 0 then i3 (-2) else if w ≤ i3 4 then if w = 0 then kA (md s 44) t else if w = 1 then cA (md s 44) t else if w = 2 then vA (md s 44) t else if w = 3 then cw (RL (md s 44)) t (i3 2) else cw (RL (md s 44)) t (i3 3) else i3 (-2)) = i3 (-2) := by
        by_cases c3 : w < 0
        · rw [if_pos c3]
        · rw [if_neg c3, if_neg (fun (e : w ≤ i3 4) => absurd (show i3 4 < w from c2.elim (fun e' => absurd e' c3) id) (Int32.not_lt.mpr e))]
      rw [e]
      exact Ans.mf c.2.2 isB2
    · rw [if_neg c2]
      have R : ∀ q, Ans s ((m_242 44 t q (H s)).bind fun q14 => some (q14.1, q14.2)) (cw (RL (md s 44)) t q) := fun q => by
        obtain ⟨s1, e1, f1⟩ := q_242 c.1 c.2.1 c1 q
        rw [e1]
        exact f1.ans
      have e1 := c.1.at_k c1
      have e2 := c.1.at_c c1
      have e3 := c.1.at_v c1
      have n11 : gN (H s) 8 44 11 = some 61 := rfl
      have n12 : gN (H s) 8 44 12 = some 62 := rfl
      have n13 : gN (H s) 8 44 13 = some 63 := rfl
      have a61 : aI (H s) 61 t = at32 (kS (md s 44)) t := aI_of rfl
      have a62 : aI (H s) 62 t = at32 (cS (md s 44)) t := aI_of rfl
      have a63 : aI (H s) 63 t = at32 (vS (md s 44)) t := aI_of rfl
      rw [if_neg (fun e => c2 (Or.inl e)), if_pos (show w ≤ i3 4 from Int32.not_lt.mp (fun e => c2 (Or.inr e)))]
      rcases fiveM c2 with rfl | rfl | rfl | rfl | rfl
      · rw [if_pos rfl, if_pos rfl, n11, Option.bind_some, a61, e1, Option.bind_some]
        exact Ans.id
      · rw [if_neg (by decide +kernel), if_pos rfl, if_neg (by decide +kernel), if_pos rfl, n12, Option.bind_some, a62, e2, Option.bind_some]
        exact Ans.id
      · rw [if_neg (by decide +kernel), if_neg (by decide +kernel), if_pos rfl, if_neg (by decide +kernel), if_neg (by decide +kernel), if_pos rfl, n13, Option.bind_some, a63, e3, Option.bind_some]
        exact Ans.id
      · rw [if_neg (by decide +kernel), if_neg (by decide +kernel), if_neg (by decide +kernel), if_pos rfl, if_neg (by decide +kernel), if_neg (by decide +kernel), if_neg (by decide +kernel), if_pos rfl]
        exact R _
      · rw [if_neg (by decide +kernel), if_neg (by decide +kernel), if_neg (by decide +kernel), if_neg (by decide +kernel), if_pos rfl, if_neg (by decide +kernel), if_neg (by decide +kernel), if_neg (by decide +kernel), if_neg (by decide +kernel)]
        exact R _
  · rw [if_neg c1, if_neg c1, cst.1]
    exact Ans.mf c.2.2 isB2
/-- rows are found, then -/
theorem Ans.rwM {β : Type} {f : tH → Option (β × tH)} {w : β} (c : Mq s) (k : ∀ s', Mq s' → md s' 44 = md s 44 → rowsM s' (RL (md s 44)) → Ans s' (f (H s')) w) : Ans s ((m_240 44 (H s)).bind f) w := by
  obtain ⟨s1, e1, q1, r1, -⟩ := q_240 c.1 c.2.1
  obtain ⟨s2, e2, q2⟩ := k s1 (q1.q.mq c) (q1.m (Or.inl rfl)) r1
  rw [e1]
  exact ⟨s2, e2, q1.q.trans q2⟩
theorem rowB {k : Int32} : (¬ k < i3 2 ∧ ¬ i3 12 < k) ↔ (¬ k < i3 2 ∧ k ≤ i3 12) := ⟨fun e => ⟨e.1, Int32.not_lt.mp e.2⟩, fun e => ⟨e.1, Int32.not_lt.mpr e.2⟩⟩
theorem d_20 (c : Mq s) (k : Int32) : Ans s (m_246 44 k (H s)) (vMany (md s 44) k) := by
  unfold m_246 vMany
  rw [(r_m s).1, Option.bind_some, jc.2.2.1, jc.2.2.2.2.2.2.2.2.2.1, q_190, Option.bind_some, bP_if]
  by_cases c1 : ¬ k < i3 2 ∧ k ≤ i3 12
  · rw [if_pos (rowB.mpr c1), if_pos c1]
    refine Ans.rwM c (fun s1 c1 m1 r1 => ?_)
    have hl := RL_len c.1
    refine ⟨s1, ?_, qq.refl s1⟩
    refine (lp0 (RL (md s 44)).length (by omega) (fun t a => (a, t)) (fun a => a) (coF (RL (md s 44)) k) (fun _ => True) (i3 0) ?_ (fun _ _ _ _ => trivial) ?_ trivial).trans rfl
    · intro j m nx ex hj _
      simp only [r_f, Option.bind_some, if_neg (r1.lt hj), r1.at hj, q_196, RL_bs c.1 hj, jn, add0]
      unfold coF
      split <;> rfl
    · intro a nx ex _
      simp only [r_f, Option.bind_some, if_pos (r1.ge (Nat.le_refl _) (show (RL (md s 44)).length ≤ 1000 by omega))]
  · rw [if_neg (fun e => c1 (rowB.mp e)), if_neg c1, cst.1]
    exact Ans.mf c.2.2 isB2
theorem d_21 (c : Mq s) : Ans s (m_247 44 (H s)) (t3 (RL (md s 44))) := by
  obtain ⟨s1, e1, f1⟩ := q_243 c.1 c.2.1
  unfold m_247
  rw [(r_m s).1, Option.bind_some, e1]
  exact f1.ans
noncomputable def pkM (L : List Int32) (q : Int32) : Nat → Nat → Int32 → Option Int32
  | 0, _, _ => none
  | n + 1, k, a => if bct (lg L k) = q then if a = 0 then some (lg L k) else pkM L q n (k + 1) (a + i3 (-1)) else pkM L q n (k + 1) a
noncomputable def xRowAt (g : Gd) (k i : Int32) : Int32 := if ¬ k < i3 2 ∧ k ≤ i3 12 then if 0 ≤ i then (pkM (RL g) k (RL g).length 0 i).getD (i3 (-5)) else i3 (-2) else i3 (-2)
theorem d_22 (c : Mq s) (k i : Int32) : Ans s (m_248 44 k i (H s)) (xRowAt (md s 44) k i) := by
  unfold m_248 xRowAt
  rw [(r_m s).1, Option.bind_some, jc.2.2.1, jc.2.2.2.2.2.2.2.2.2.1, q_190, Option.bind_some]
  unfold jn
  dsimp only
  rw [bP_if]
  by_cases c1 : ¬ k < i3 2 ∧ k ≤ i3 12
  · rw [if_pos (rowB.mpr c1), if_pos c1]
    by_cases c2 : 0 ≤ i
    · rw [if_pos c2, if_pos c2]
      refine Ans.rwM c (fun s1 c1 m1 r1 => ?_)
      have hl := RL_len c.1
      obtain ⟨s2, e2, q2⟩ := Ans.mf c1.2.2 isB5
      have L := lpP (R := Int32 × tH) (X := Unit) (K := fun _ => (m_189 44 (Int8.ofInt (-5)).toInt32 (H s1)).bind fun q10 => some (q10.1, q10.2)) (F := fun (s6 : Int32 × Int32) nx7 ex8 => (gI (H s1) 8 44 27).bind fun x11 => if x11 ≤ s6.2 then ex8 () else (gN (H s1) 8 44 26).bind fun o12 => (aI (H s1) o12 s6.2).bind fun x13 => (m_196 x13 (H s1)).bind fun x14 => if x14 = k then if s6.1 = 0 then (gN (H s1) 8 44 26).bind fun o17 => (aI (H s1) o17 s6.2).bind fun x18 => some (x18, H s1) else nx7 (s6.1 + Int32.ofInt (-1), (s6.2 + Int32.ofInt 1)) else nx7 (s6.1, (s6.2 + Int32.ofInt 1))) (RL (md s 44)).length (by omega) (fun t a => (a, t)) () (fun j a => if bct (lg (RL (md s 44)) j) = k then if a = 0 then some (lg (RL (md s 44)) j, H s1) else none else none) (fun j a => if bct (lg (RL (md s 44)) j) = k then a + i3 (-1) else a) (some (i3 (-5), H s2)) ?_ ?_ ?_ (fun n j a => match pkM (RL (md s 44)) k n j a with | some r => some (r, H s1) | none => some (i3 (-5), H s2)) (fun _ _ => rfl) ?_ i
      · rw [L]
        cases pkM (RL (md s 44)) k (RL (md s 44)).length 0 i with
        | none => exact ⟨s2, rfl, q2⟩
        | some r => exact ⟨s1, rfl, qq.refl s1⟩
      · intro j m nx ex hj
        simp only [r_f, Option.bind_some, if_neg (r1.lt hj), r1.at hj, q_196, RL_bs c.1 hj]
        by_cases d1 : bct (lg (RL (md s 44)) j) = k
        · simp only [if_pos d1]
          by_cases d2 : m = 0
          · simp only [if_pos d2]
          · simp only [if_neg d2]
        · simp only [if_neg d1]
      · intro a nx ex
        simp only [r_f, Option.bind_some, if_pos (r1.ge (Nat.le_refl _) (show (RL (md s 44)).length ≤ 1000 by omega))]
      · rw [cst.2.2.2.1]
        exact e2
      · intro n j a hj
        show (match (if bct (lg (RL (md s 44)) j) = k then if a = 0 then some (lg (RL (md s 44)) j) else pkM (RL (md s 44)) k n (j + 1) (a + i3 (-1)) else pkM (RL (md s 44)) k n (j + 1) a) with | some r => some (r, H s1) | none => some (i3 (-5), H s2)) = _
        by_cases d1 : bct (lg (RL (md s 44)) j) = k
        · simp only [if_pos d1]
          by_cases d2 : a = 0
          · simp only [if_pos d2]
          · simp only [if_neg d2]
        · simp only [if_neg d1]
    · rw [if_neg c2, if_neg c2, cst.1]
      exact Ans.mf c.2.2 isB2
  · rw [if_neg (fun e => c1 (rowB.mp e)), if_neg c1, cst.1]
    exact Ans.mf c.2.2 isB2
noncomputable def lgF (L : List Int32) (k j : Nat) : Nat := if bct (lg L k) ≤ bct (lg L j) then j else k
noncomputable def xLong (g : Gd) : Int32 := if (RL g).length = 0 then i3 (-5) else lg (RL g) (fB 1 (RL g).length (lgF (RL g)) 0)
theorem fB_lt {n : Nat} {f : Nat → Nat → Nat} (hf : ∀ k j, k < n → j < n → f k j < n) (h0 : 0 < n) : fB 1 n f 0 < n := by
  unfold fB
  refine itr_inv (P := fun j => j < n) _ _ h0 (fun k b hk hb => hf _ _ (by omega) hb)
theorem d_23 (c : Mq s) : Ans s (m_249 44 (H s)) (xLong (md s 44)) := by
  unfold m_249 xLong
  rw [(r_m s).1, Option.bind_some]
  refine Ans.rwM c (fun s1 c1 m1 r1 => ?_)
  have hl := RL_len c.1
  rw [(r_f s1).2.1, Option.bind_some]
  have e0 : (fi s1 44 27 = 0) ↔ (RL (md s 44)).length = 0 := by rw [r1.1]; exact i3n_inj (b := 0) (by omega) (by omega)
  by_cases c2 : (RL (md s 44)).length = 0
  · rw [if_pos (e0.mpr c2), if_pos c2, cst.2.2.2.1]
    exact Ans.mf c1.2.2 isB5
  · rw [if_neg (fun e => c2 (e0.mp e)), if_neg c2]
    refine ⟨s1, ?_, qq.refl s1⟩
    refine (lpB 1 (RL (md s 44)).length (by omega) (by omega) (fun t (j : Nat) => (i3 (j : Int), t)) (fun j => i3 (j : Int)) (lgF (RL (md s 44))) (fun j => j < (RL (md s 44)).length) 0 ?_ ?_ ?_ (by omega)).trans ?_
    · intro k j nx ex _ hk hj
      simp only [r_f, Option.bind_some, if_neg (r1.lt hk), r1.at hk, r1.at hj, q_196, RL_bs c.1 hk, RL_bs c.1 hj, jn]
      unfold lgF
      by_cases d1 : bct (lg (RL (md s 44)) k) ≤ bct (lg (RL (md s 44)) j)
      · simp only [if_pos d1]
      · simp only [if_neg d1]
    · intro k j _ hk hj
      unfold lgF
      split
      · exact hj
      · exact hk
    · intro k j nx ex hk hk2 _
      simp only [r_f, Option.bind_some, if_pos (r1.ge hk hk2)]
    · have hb := fB_lt (n := (RL (md s 44)).length) (f := lgF (RL (md s 44))) (fun k j hk hj => by
        unfold lgF
        split
        · exact hj
        · exact hk) (by omega)
      simp only [r_f, Option.bind_some, r1.at hb]
noncomputable def anF (g : Gd) (k : Nat) (m : Int32) : Int32 := if cw (RL g) (i3 (k : Int)) (i3 3) = 0 then m ||| bit (i3 (k : Int)) else m
noncomputable def xAlone (g : Gd) : Int32 := itr (anF g) (nn g) (i3 0)
theorem d_24 (c : Mq s) : Ans s (m_250 44 (H s)) (xAlone (md s 44)) := by
  have h := c.1
  suffices T (m_250 44 (H s)) (fun r => ∃ s', r = (xAlone (md s 44), H s') ∧ eF s s') by
    obtain ⟨_, e, s', rfl, f⟩ := this
    rw [e]
    exact f.ans
  have hn := h.n_le
  unfold m_250
  rw [(r_m s).1, Option.bind_some]
  refine lpH (nn (md s 44)) (fun k q => ∃ s', q = (itr (anF (md s 44)) k (i3 0), i3 (k : Int), H s') ∧ eF s s') (fun x => ∃ s', x = (xAlone (md s 44), H s') ∧ eF s s') ?_ ?_ ?_ ?_ (by omega)
  · rintro k _ hk ⟨s1, rfl, c1⟩ nx ex hnx hex
    have m1 := c1.1.m (Or.inl rfl)
    have h1 : ok (md s1 44) := by rw [m1]; exact h
    obtain ⟨s2, e2, c2⟩ := q_242 h1 (c1.1.z c.2.1) (t := i3 (k : Int)) (by rw [m1]; exact h.T hk) (i3 3)
    rw [m1] at e2
    dsimp only
    rw [(r_g s1).2.2.1, Option.bind_some, m1, if_neg (h.T hk).2, e2, Option.bind_some]
    unfold jn
    dsimp only
    rw [i3_nat_add, or0]
    have hF : itr (anF (md s 44)) (k + 1) (i3 0) = anF (md s 44) k (itr (anF (md s 44)) k (i3 0)) := rfl
    by_cases d : cw (RL (md s 44)) (i3 (k : Int)) (i3 3) = 0
    · rw [if_pos d]
      refine hnx _ ⟨s2, ?_, c1.trans c2⟩
      rw [hF, show anF (md s 44) k _ = _ from if_pos d]
      rfl
    · rw [if_neg d]
      refine hnx _ ⟨s2, ?_, c1.trans c2⟩
      rw [hF, show anF (md s 44) k _ = _ from if_neg d]
  · rintro _ ⟨s1, rfl, c1⟩ nx ex hex
    have m1 := c1.1.m (Or.inl rfl)
    dsimp only
    rw [(r_g s1).2.2.1, Option.bind_some, m1, if_pos (h.Te (Nat.le_refl _) (by have := h.n_le; omega))]
    exact hex _ ⟨s1, rfl, c1⟩
  · rintro _ ⟨s1, rfl, c1⟩
    exact T_some ⟨s1, rfl, c1⟩
  · exact ⟨s, rfl, eF.refl s⟩
theorem d_25 (c : Mq s) (t u : Int32) : Ans s (m_251 44 t u (H s)) (vThrough (md s 44) t u) := by
  unfold m_251 vThrough
  rw [(r_m s).1, Option.bind_some, q_191 c.1, Option.bind_some]
  unfold jn
  dsimp only
  rw [bP_if]
  by_cases c1 : isT (md s 44) t
  · rw [if_pos c1, if_pos c1, q_191 c.1, Option.bind_some, bP_if]
    by_cases c2 : isT (md s 44) u
    · rw [if_pos c2, if_pos c2]
      by_cases c3 : t = u
      · rw [if_pos c3, if_pos c3, cst.1]
        exact Ans.mf c.2.2 isB2
      · rw [if_neg c3, if_neg c3, (r_g s).2.2.2.2.2.1, Option.bind_some, (r_g s).2.2.2.2.2.2.2.2.2.1, c.1.at_k c1, Option.bind_some]
        by_cases c4 : kA (md s 44) t = i3 4
        · rw [if_pos c4, if_pos ((k4 _).mpr c4), cst.2.2.2.1]
          exact Ans.mf c.2.2 isB5
        · rw [if_neg c4, if_neg (fun e => c4 ((k4 _).mp e)), Option.bind_some, (r_g s).2.2.2.2.2.2.2.2.2.1, c.1.at_k c2, Option.bind_some]
          by_cases c5 : kA (md s 44) u = i3 4
          · rw [if_pos c5, if_pos ((k4 _).mpr c5), cst.2.2.2.1]
            exact Ans.mf c.2.2 isB5
          · rw [if_neg c5, if_neg (fun e => c5 ((k4 _).mp e)), q_239 c.1 c1 c2, Option.bind_some]
            exact Ans.id
    · rw [if_neg c2, if_neg c2, cst.1]
      exact Ans.mf c.2.2 isB2
  · rw [if_neg c1, if_neg c1, cst.1]
    exact Ans.mf c.2.2 isB2
abbrev st3M (g : Gd) (m : Int32) : Prop := ¬ m < 0 ∧ (m >>> (tN g &&& 31)) = 0 ∧ i3 3 ≤ bs m
noncomputable def xInLine (g : Gd) (m : Int32) : Int32 := if st3M g m then if siL (RL g) m then i3 1 else i3 0 else i3 (-2)
theorem d_26 (c : Mq s) (m : Int32) : Ans s (m_253 44 m (H s)) (xInLine (md s 44) m) := by
  unfold m_253 xInLine
  rw [(r_m s).1, Option.bind_some]
  unfold jn
  dsimp only
  by_cases c1 : m < 0
  · rw [if_pos c1, if_neg (fun e => e.1 c1), cst.1]
    exact Ans.mf c.2.2 isB2
  rw [if_neg c1, (r_g s).2.2.1, Option.bind_some]
  by_cases c2 : (m >>> (tN (md s 44) &&& 31)) = 0
  · rw [if_pos c2, q_196, Option.bind_some]
    by_cases c3 : i3 3 ≤ bs m
    · rw [if_pos (show Int32.ofInt 3 ≤ bs m from c3), if_pos ⟨c1, c2, c3⟩]
      obtain ⟨s1, e1, f1⟩ := q_252 c.1 c.2.1 m
      rw [e1, Option.bind_some]
      dsimp only
      rw [bP_if]
      by_cases c4 : siL (RL (md s 44)) m
      · rw [if_pos c4, if_pos c4]
        exact f1.ans
      · rw [if_neg c4, if_neg c4]
        exact f1.ans
    · rw [if_neg (show ¬ Int32.ofInt 3 ≤ bs m from c3), if_neg (fun e => c3 e.2.2), cst.1]
      exact Ans.mf c.2.2 isB2
  · rw [if_neg c2, if_neg (fun e => c2 e.2.1), cst.1]
    exact Ans.mf c.2.2 isB2
theorem d_36 (c : Mq s) (m : Int32) : Ans s (m_270 44 m (H s)) (vMost m) := by
  unfold m_270 vMost
  rw [(r_m s).1, Option.bind_some, jc.2.1, jc.2.2.2.2.2.1, q_190, Option.bind_some, bP_if]
  by_cases c1 : m < i3 1
  · rw [if_neg (fun e => e.1 c1), if_pos c1, cst.1]
    exact Ans.mf c.2.2 isB2
  rw [if_neg c1]
  by_cases c2 : m ≤ i3 5
  · rw [if_pos ⟨c1, Int32.not_lt.mpr c2⟩, if_pos c2]
    unfold jn
    dsimp only
    by_cases c3 : m = i3 1
    · rw [if_pos (show m = Int32.ofInt 1 from c3), if_pos c3]
      exact Ans.id
    · rw [if_neg (show ¬ m = Int32.ofInt 1 from c3), if_neg c3]
      exact Ans.id
  · rw [if_neg (fun e => e.2 (Int32.not_le.mp c2)), if_neg c2, cst.1]
    exact Ans.mf c.2.2 isB2
theorem d_41 (c : Mq s) (i : Int32) : Ans s (m_279 44 i (H s)) (vWishOf (md s 44) i) := by
  unfold m_279 vWishOf
  rw [(r_m s).1, Option.bind_some, (r_g s).2.2.2.1, Option.bind_some, jc.1, q_190, Option.bind_some]
  unfold jn
  dsimp only
  rw [bP_if]
  have e := pred_iff (x := i) c.1.wk
  by_cases c1 : isW (md s 44) i
  · rw [if_pos (e.mpr c1), if_pos c1, (r_g s).2.2.2.2.2.2.2.2.1, Option.bind_some, (r_g s).2.2.2.2.2.2.2.2.2.2.2.2, c.1.at_w c1, Option.bind_some]
    exact Ans.id
  · rw [if_neg (fun e' => c1 (e.mp e')), if_neg c1, cst.1]
    exact Ans.mf c.2.2 isB2
noncomputable def xMet (g : Gd) (i : Int32) : Int32 := if i = i3 (-1) then mmM g else if isW g i then if siL (RL g) (wA g i) then i3 1 else i3 0 else i3 (-2)
theorem m1_or {x : Int32} (h : ¬ x < i3 (-1)) (h1 : ¬ x = i3 (-1)) : ¬ x < 0 := by
  intro e
  rw [Int32.lt_iff_toInt_lt] at e h
  have a : (0 : Int32).toInt = 0 := by decide +kernel
  have b : (i3 (-1)).toInt = -1 := by decide +kernel
  exact h1 (Int32.toInt_inj.mp (by omega))
theorem d_42 (c : Mq s) (i : Int32) : Ans s (m_280 44 i (H s)) (xMet (md s 44) i) := by
  have hw := c.1.w_le
  unfold m_280 xMet
  rw [(r_m s).1, Option.bind_some, (r_g s).2.2.2.1, Option.bind_some, jc.2.2.2.2.2.2.2.2.2.2.2.2.2, q_190, Option.bind_some, bP_if]
  by_cases c0 : i = i3 (-1)
  · have a1 : ¬ i < i3 (-1) ∧ ¬ wN (md s 44) - Int32.ofInt 1 < i := by
      rw [c0]
      refine ⟨by decide +kernel, ?_⟩
      have e : wN (md s 44) - Int32.ofInt 1 = i3 ((wn (md s 44) : Int) - 1) := by
        rw [c.1.w_eq]; exact i3_sub _ _
      rw [e, i3_lt ⟨by omega, by omega⟩ ⟨by omega, by omega⟩]
      omega
    rw [if_pos a1, if_pos c0]
    unfold jn
    dsimp only
    obtain ⟨s1, e1, f1⟩ := q_261 c.1 c.2.1
    rw [if_pos (show i = Int32.ofInt (-1) from c0), e1, Option.bind_some]
    exact f1.ans
  · rw [if_neg c0]
    have e := pred_iff (x := i) c.1.wk
    by_cases c1 : isW (md s 44) i
    · have a1 : ¬ i < i3 (-1) ∧ ¬ wN (md s 44) - Int32.ofInt 1 < i := by
        refine ⟨fun e' => c1.1 ?_, (e.mpr c1).2⟩
        rw [Int32.lt_iff_toInt_lt] at e' ⊢
        have a : (0 : Int32).toInt = 0 := by decide +kernel
        have b : (i3 (-1)).toInt = -1 := by decide +kernel
        omega
      rw [if_pos a1, if_pos c1]
      unfold jn
      dsimp only
      obtain ⟨s1, e1, f1⟩ := q_252 c.1 c.2.1 (wA (md s 44) i)
      rw [if_neg (show ¬ i = Int32.ofInt (-1) from c0), (r_g s).2.2.2.2.2.2.2.2.1, Option.bind_some, (r_g s).2.2.2.2.2.2.2.2.2.2.2.2, c.1.at_w c1, Option.bind_some, e1, Option.bind_some, bP_if]
      by_cases c4 : siL (RL (md s 44)) (wA (md s 44) i)
      · rw [if_pos c4, if_pos c4]
        exact f1.ans
      · rw [if_neg c4, if_neg c4]
        exact f1.ans
    · have a1 : ¬ (¬ i < i3 (-1) ∧ ¬ wN (md s 44) - Int32.ofInt 1 < i) := fun h => c1 (e.mp ⟨m1_or h.1 c0, h.2⟩)
      rw [if_neg a1, if_neg c1, cst.1]
      exact Ans.mf c.2.2 isB2
theorem two01 {w : Int32} : (¬ w < i3 0 ∧ ¬ i3 2 < w) ↔ (¬ w < 0 ∧ w ≤ i3 2) := ⟨fun e => ⟨e.1, Int32.not_lt.mp e.2⟩, fun e => ⟨e.1, Int32.not_lt.mpr e.2⟩⟩
noncomputable def xBest (g : Gd) (V : Gd → Int32) (w : Int32) : Int32 := if w < 0 then i3 (-2) else if w ≤ i3 2 then tel (fb g V) w else i3 (-2)
theorem q_263 (c : Mq s) {b : Int32} {V : Gd → Int32} (hw : (b = 0 ∧ V = V3) ∨ (¬ b = 0 ∧ V = mmM)) (w : Int32) : Ans s (m_263 44 b w (H s)) (xBest (md s 44) V w) := by
  unfold m_263 xBest
  rw [(r_m s).1, Option.bind_some, jc.1, jc.2.2.1, q_190, Option.bind_some, bP_if]
  by_cases c1 : w < 0
  · rw [if_neg (fun e => (two01.mp e).1 c1), if_pos c1, cst.1]
    exact Ans.mf c.2.2 isB2
  rw [if_neg c1]
  by_cases c2 : w ≤ i3 2
  · rw [if_pos (two01.mpr ⟨c1, c2⟩), if_pos c2]
    obtain ⟨s1, e1, q1, b1⟩ := q_262 c.1 c.2.1 hw
    have g28 : gI (H s1) 8 44 28 = some (fi s1 44 28) := rfl
    have g29 : gI (H s1) 8 44 29 = some (fi s1 44 29) := rfl
    have g30 : gI (H s1) 8 44 30 = some (fi s1 44 30) := rfl
    rw [e1, Option.bind_some]
    unfold jn
    dsimp only
    rw [g28, g29, g30, Option.bind_some, Option.bind_some, Option.bind_some, ← b1]
    unfold tel
    by_cases c3 : w = 0
    · rw [if_pos c3, if_pos c3]
      exact ⟨s1, rfl, q1.q⟩
    · rw [if_neg c3, if_neg c3]
      by_cases c4 : w = i3 1
      · rw [if_pos (show w = Int32.ofInt 1 from c4), if_pos c4]
        exact ⟨s1, rfl, q1.q⟩
      · rw [if_neg (show ¬ w = Int32.ofInt 1 from c4), if_neg c4]
        exact ⟨s1, rfl, q1.q⟩
  · rw [if_neg (fun e => c2 (two01.mp e).2), if_neg c2, cst.1]
    exact Ans.mf c.2.2 isB2
theorem d_33 (c : Mq s) (w : Int32) : Ans s (m_264 44 w (H s)) (xBest (md s 44) V3 w) := by
  unfold m_264
  rw [(r_m s).1, Option.bind_some]
  obtain ⟨s1, e, q⟩ := q_263 c (b := Int32.ofInt 0) (Or.inl ⟨rfl, rfl⟩) w
  rw [e]
  exact ⟨s1, rfl, q⟩
theorem d_43 (c : Mq s) (w : Int32) : Ans s (m_265 44 w (H s)) (xBest (md s 44) mmM w) := by
  unfold m_265
  rw [(r_m s).1, Option.bind_some]
  obtain ⟨s1, e, q⟩ := q_263 c (b := Int32.ofInt 1) (Or.inr ⟨e1_0, rfl⟩) w
  rw [e]
  exact ⟨s1, rfl, q⟩
theorem q_216 (c : Mq s) (t x : Int32) : ∃ s', m_216 44 t x (H s) = some (nomv (md s 44) t x, H s') ∧ qq s s' ∧ (nomv (md s 44) t x = 0 → s' = s) := by
  have n5 : ¬ i3 (-5) = 0 := by decide +kernel
  have n2 : ¬ i3 (-2) = 0 := by decide +kernel
  unfold m_216 nomv
  rw [(r_m s).1, Option.bind_some, q_191 c.1, Option.bind_some]
  unfold jn
  dsimp only
  rw [bP_if]
  by_cases c1 : isT (md s 44) t
  · rw [if_pos c1, if_pos c1, q_193 c.1, Option.bind_some, bP_if]
    by_cases c2 : isCl (md s 44) x
    · rw [if_pos c2, if_pos c2, q_197 c.1 c1, Option.bind_some, bP_if]
      by_cases c3 : kOf (kA (md s 44) t) (i3 1)
      · obtain ⟨s1, e1, q1⟩ := Ans.mf c.2.2 isB5
        rw [if_pos c3, if_pos c3, cst.2.2.2.1]
        exact ⟨s1, e1, q1, fun e => absurd e n5⟩
      · rw [if_neg c3, if_neg c3, q_194 c.1, Option.bind_some]
        by_cases c4 : tIn (md s 44) x = i3 (-1)
        · rw [if_pos (show tIn (md s 44) x = Int32.ofInt (-1) from c4), if_pos c4]
          exact ⟨s, rfl, qq.refl s, fun _ => rfl⟩
        · obtain ⟨s1, e1, q1⟩ := Ans.mf c.2.2 isB5
          rw [if_neg (show ¬ tIn (md s 44) x = Int32.ofInt (-1) from c4), if_neg c4, cst.2.2.2.1]
          exact ⟨s1, e1, q1, fun e => absurd e n5⟩
    · obtain ⟨s1, e1, q1⟩ := Ans.mf c.2.2 isB2
      rw [if_neg c2, if_neg c2, cst.1]
      exact ⟨s1, e1, q1, fun e => absurd e n2⟩
  · obtain ⟨s1, e1, q1⟩ := Ans.mf c.2.2 isB2
    rw [if_neg c1, if_neg c1, cst.1]
    exact ⟨s1, e1, q1, fun e => absurd e n2⟩
noncomputable def xMoved (g : Gd) (t x : Int32) : Int32 := if nomv g t x = 0 then V3 (mvT g t x) else nomv g t x
theorem d_34 (c : Mq s) (t x : Int32) : Ans s (m_266 44 t x (H s)) (xMoved (md s 44) t x) := by
  obtain ⟨s1, e1, q1, k1⟩ := q_216 c t x
  unfold m_266 xMoved
  rw [(r_m s).1, Option.bind_some, e1, Option.bind_some]
  dsimp only
  by_cases c1 : nomv (md s 44) t x = 0
  · obtain rfl := k1 c1
    obtain ⟨h1, h2, h3, h4⟩ := nomv_0 c1
    obtain ⟨s3, s4, e3, e4, e5, c5⟩ := tryM c.1 c.2.1 h1 (c := x) (P := fun th => m_243 44 th) (V := V3) (ok_mvT c.1 h1 h2 h4) (fun s1 h1 z1 => q_243 h1 z1)
    rw [if_pos c1, if_pos c1, (r_g s1).2.2.2.2.2.2.1, Option.bind_some, (r_g s1).2.2.2.2.2.2.2.2.2.2.1, c.1.at_c h1, Option.bind_some, Option.bind_some, e3, Option.bind_some, e4, Option.bind_some]
    dsimp only
    rw [(r_g s3).2.2.2.2.2.2.1, Option.bind_some, e5, Option.bind_some]
    exact c5.ans
  · rw [if_neg c1, if_neg c1]
    exact ⟨s1, rfl, q1⟩
end MA
