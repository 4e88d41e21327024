/-! ===== the best of all moves (class) ===== -/
abbrev Wt : Type := Int32 × List Int32
abbrev Mv : Type := Int32 × Int32 × Int32
noncomputable def mv (s : St) : Mv := (fi s 20 2, fi s 20 3, fi s 20 4)
noncomputable def but (m t : Int32) : Int32 := m &&& (bit t ^^^ i3 (-1))
noncomputable def wtF (g : Gd) (L : List Int32) (t : Int32) (k : Nat) (a : Wt) : Wt := if bct (but (lg L k) t) < i3 3 then if bct (but (lg L k) t) = i3 2 then if kOf (kA g t) (i3 4) then a else (a.1, lnA g (but (lg L k) t) a.2) else a else (a.1 + i3 1, a.2)
noncomputable def wT (g : Gd) (L : List Int32) (t : Int32) : Wt := itr (wtF g L t) L.length (i3 0, zer)
noncomputable def wvF (g : Gd) (t : Int32) (k : Nat) (a : Wt) : Wt := if inR g (but (wA g (i3 (k : Int))) t) then if but (wA g (i3 (k : Int))) t = wA g (i3 (k : Int)) then (a.1 + i3 1, a.2) else if kOf (kA g t) (i3 4) then a else (a.1, lnA g (but (wA g (i3 (k : Int))) t) a.2) else a
noncomputable def wV (g : Gd) (t : Int32) : Wt := itr (wvF g t) (wn g) (i3 0, zer)
noncomputable def ocF (g : Gd) (w : Wt) (t : Int32) (k : Nat) (a : Mv) : Mv := if w.1 + rd w.2 (i3 (k : Int)) ≤ a.2.2 then a else if tIn g (i3 (k : Int)) = i3 (-1) then (t, i3 (k : Int), w.1 + rd w.2 (i3 (k : Int))) else a
noncomputable def oc (g : Gd) (w : Wt) (t : Int32) (a : Mv) : Mv := itr (ocF g w t) (dn g * dn g) a
noncomputable def mtF (g : Gd) (L : List Int32) (k : Nat) (a : Mv) : Mv := if kOf (kA g (i3 (k : Int))) (i3 1) then a else oc g (wT g L (i3 (k : Int))) (i3 (k : Int)) a
noncomputable def mT (g : Gd) (L : List Int32) : Mv := itr (mtF g L) (nn g) (i3 (-1), i3 (-1), i3 (-1))
noncomputable def mwF (g : Gd) (k : Nat) (a : Mv) : Mv := if kOf (kA g (i3 (k : Int))) (i3 1) then a else oc g (wV g (i3 (k : Int))) (i3 (k : Int)) a
noncomputable def mW (g : Gd) : Mv := itr (mwF g) (nn g) (i3 (-1), i3 (-1), i3 (-1))
theorem wtF_len (g : Gd) (L : List Int32) (t : Int32) (k : Nat) (a : Wt) : (wtF g L t k a).2.length = a.2.length := by
  unfold wtF
  repeat' split
  · rfl
  · exact lnA_len _ _ _
  · rfl
  · rfl
theorem wvF_len (g : Gd) (t : Int32) (k : Nat) (a : Wt) : (wvF g t k a).2.length = a.2.length := by
  unfold wvF
  repeat' split
  · rfl
  · rfl
  · exact lnA_len _ _ _
  · rfl
theorem wT_len (g : Gd) (L : List Int32) (t : Int32) : (wT g L t).2.length = 64 := by
  unfold wT
  generalize L.length = n
  induction n with
  | zero => rfl
  | succ n ih => exact (wtF_len _ _ _ _ _).trans ih
theorem wV_len (g : Gd) (t : Int32) : (wV g t).2.length = 64 := by
  unfold wV
  generalize wn g = n
  induction n with
  | zero => rfl
  | succ n ih => exact (wvF_len _ _ _ _).trans ih
theorem sa_sf (s : St) (p o k : Nat) (l : List Int32) (x : Int32) : sa (sf s o k x) p l = sf (sa s p l) o k x := rfl
/-- the state of the scales -/
noncomputable def wst (s : St) (a : Wt) : St := sf (sa s 22 a.2) 20 1 a.1
theorem wst_sf (s : St) (a : Wt) (x : Int32) : sf (wst s a) 20 1 x = wst s (x, a.2) := sf_sf _ _ _ _ _
theorem wst_sa (s : St) (a : Wt) (l : List Int32) : sa (wst s a) 22 l = wst s (a.1, l) := by
  unfold wst
  rw [sa_sf, sa_sa]
theorem gd1_wst (s : St) (a : Wt) : gd (wst s a) 1 = gd s 1 := rfl
section MO
variable {s : St} {L : List Int32}
theorem q_122 : m_122 20 (H s) = some (H (sf (sf (sf s 20 2 (i3 (-1))) 20 3 (i3 (-1))) 20 4 (i3 (-1)))) := by
  unfold m_122
  simp only [r_M, Option.bind_some, jn, cst, bP_if, rB_0, rB_1, z00, z10, ↓reduceIte]
theorem q_115w (h : ok (gd s 1)) {a : Wt} (hl : a.2.length = 64) (m : Int32) : m_115 21 1 m (H (wst s a)) = some (H (wst s (a.1, lnA (gd s 1) m a.2))) := by
  have e := q_115 (s := wst s a) (o := 21) (Or.inr rfl) h hl m
  rw [e]
  show some (H (sa (wst s a) 22 (lnA (gd s 1) m a.2))) = _
  rw [wst_sa]
theorem q_120 (h : ok (gd s 1)) (z : Sz s) (r : rowsOK s L) {t : Int32} (ht : isT (gd s 1) t) : m_120 20 1 16 t (H s) = some (H (wst s (wT (gd s 1) L t))) := by
  have hg : isG 1 := Or.inl rfl
  have hc : isC 21 := Or.inr rfl
  have hl := r.2.1
  have e0 : m_113 21 (H (sf s 20 1 (Int32.ofInt 0))) = some (H (wst s (i3 0, zer))) := by
    rw [q_113 (s := sf s 20 1 (Int32.ofInt 0)) hc z.2.2.1]
    rfl
  unfold m_120
  simp only [r_M, e0, Option.bind_some, jn, cst, bP_if, rB_0, rB_1, z00, z10, ↓reduceIte]
  refine (lp0 L.length (by omega) (fun t (a : Wt) => (t, H (wst s a))) (fun a => H (wst s a)) (wtF (gd s 1) L t) (fun a => a.2.length = 64) (i3 0, zer) ?_ ?_ ?_ rfl).trans rfl
  · intro k a nx ex hk hll
    have r' : rowsOK (wst s a) L := r
    have h' : ok (gd (wst s a) 1) := h
    have ht' : isT (gd (wst s a) 1) t := ht
    have e1 : fi (wst s a) 20 1 = a.1 := rfl
    have e85 : m_85 1 t (Int32.ofInt 4) (H (wst s a)) = some (bP (kOf (kA (gd s 1) t) (i3 4))) := q_85 hg h' ht' _
    simp only [r_R, r_M, r'.lt hk, r'.at hk, q_173, Option.bind_some, jn, cst, bP_if, rB_0, rB_1, z00, z10, ↓reduceIte, e85, q_115w h hll, wst_sf, e1]
    unfold wtF but bit
    ((repeat' split) <;> (first | rfl | (exfalso; simp_all only [isT, isCl, isW, st3, btw, kOf, not_true_eq_false, not_false_eq_true, and_true, true_and, and_self, and_false, false_and, or_true, true_or, or_false, false_or, not_and]; done) | grind))
  · intro k a hk hll
    exact (wtF_len _ _ _ _ _).trans hll
  · intro a nx ex _
    have r' : rowsOK (wst s a) L := r
    simp only [r_R, r'.ge, Option.bind_some, jn, cst, bP_if, rB_0, rB_1, z00, z10, ↓reduceIte]
theorem q_121 (h : ok (gd s 1)) (z : Sz s) {t : Int32} (ht : isT (gd s 1) t) : m_121 20 1 t (H s) = some (H (wst s (wV (gd s 1) t))) := by
  have hg : isG 1 := Or.inl rfl
  have hc : isC 21 := Or.inr rfl
  have e0 : m_113 21 (H (sf s 20 1 (Int32.ofInt 0))) = some (H (wst s (i3 0, zer))) := by
    rw [q_113 (s := sf s 20 1 (Int32.ofInt 0)) hc z.2.2.1]
    rfl
  unfold m_121
  simp only [r_M, e0, Option.bind_some, jn, cst, bP_if, rB_0, rB_1, z00, z10, ↓reduceIte]
  refine (lp0 (wn (gd s 1)) (by have := h.w_le; omega) (fun t (a : Wt) => (t, H (wst s a))) (fun a => H (wst s a)) (wvF (gd s 1) t) (fun a => a.2.length = 64) (i3 0, zer) ?_ ?_ ?_ rfl).trans rfl
  · intro k a nx ex hk hll
    have h' : ok (gd (wst s a) 1) := h
    have ht' : isT (gd (wst s a) 1) t := ht
    have e1 : fi (wst s a) 20 1 = a.1 := rfl
    have e85 : m_85 1 t (Int32.ofInt 4) (H (wst s a)) = some (bP (kOf (kA (gd s 1) t) (i3 4))) := q_85 hg h' ht' _
    have e94 : ∀ m, m_94 1 m (H (wst s a)) = some (bP (inR (gd s 1) m)) := fun m => q_94 hg h' m
    have eW : ¬ wN (gd (wst s a) 1) ≤ i3 (k : Int) := (h.W hk).2
    have eA : at32 (wS (gd (wst s a) 1)) (i3 (k : Int)) = some (wA (gd s 1) (i3 (k : Int))) := h.at_w (h.W hk)
    simp only [r_G hg, r_M, eW, eA, Option.bind_some, jn, cst, bP_if, rB_0, rB_1, z00, z10, ↓reduceIte, e94, e85, q_115w h hll, wst_sf, e1]
    unfold wvF but bit
    ((repeat' split) <;> (first | rfl | (exfalso; simp_all only [isT, isCl, isW, st3, btw, kOf, not_true_eq_false, not_false_eq_true, and_true, true_and, and_self, and_false, false_and, or_true, true_or, or_false, false_or, not_and]; done) | grind))
  · intro k a hk hll
    exact (wvF_len _ _ _ _).trans hll
  · intro a nx ex _
    simp only [r_G hg, gd1_wst, h.We (Nat.le_refl _) (by have := h.w_le; omega), Option.bind_some, jn, cst, bP_if, rB_0, rB_1, z00, z10, ↓reduceIte]
theorem q_123 (h : ok (gd s 1)) {w : Wt} (hw : w.2.length = 64) (e1 : fi s 20 1 = w.1) (e2 : ia s 22 = w.2) (t : Int32) : T (m_123 20 1 t (H s)) (fun th => ∃ s', th = H s' ∧ sc s s' ∧ mv s' = oc (gd s 1) w t (mv s) ∧ s'.1 = s.1 ∧ fi s' 16 1 = fi s 16 1) := by
  have hg : isG 1 := Or.inl rfl
  have hc : isC 21 := Or.inr rfl
  have hcc := h.cc_le
  have b : ∀ k, sF 20 k := fun k => Or.inr (Or.inl rfl)
  unfold m_123
  simp only [r_M, Option.bind_some, jn, cst, bP_if, rB_0, rB_1, z00, z10, ↓reduceIte]
  refine lpH (dn (gd s 1) * dn (gd s 1)) (fun k q => ∃ s', q = (i3 (k : Int), H s') ∧ sc s s' ∧ mv s' = itr (ocF (gd s 1) w t) k (mv s) ∧ s'.1 = s.1 ∧ fi s' 16 1 = fi s 16 1 ∧ fi s' 20 1 = w.1) (fun th => ∃ s', th = H s' ∧ sc s s' ∧ mv s' = oc (gd s 1) w t (mv s) ∧ s'.1 = s.1 ∧ fi s' 16 1 = fi s 16 1) ?_ ?_ ?_ ?_ (by omega)
  · rintro k _ hk ⟨s1, rfl, c1, m1, a1, f1, w1⟩ nx ex hnx hex
    have g1 := c1.g hg
    have h1 : ok (gd s1 1) := by rw [g1]; exact h
    have hC := h.C hk
    have e3 : ia s1 22 = w.2 := by
      show s1.1 22 = _
      rw [a1]; exact e2
    have hr : at32 w.2 (i3 (k : Int)) = some (rd w.2 (i3 (k : Int))) := at_rd hC.1 (by rw [cl_i3 (by omega)]; omega)
    have em : mv s1 = (fi s1 20 2, fi s1 20 3, fi s1 20 4) := rfl
    have hF : itr (ocF (gd s 1) w t) (k + 1) (mv s) = ocF (gd s 1) w t k (mv s1) := by rw [m1]; rfl
    simp only [q_70 hg, r_M, r_C hc, Option.bind_some, jn, cst, bP_if, rB_0, rB_1, z00, z10, ↓reduceIte, g1, hC.2, w1, show (21 : Nat) + 1 = 22 from rfl, e3, hr, q_84 hg h1, i3_nat_add]
    have no : ocF (gd s 1) w t k (mv s1) = mv s1 → T (nx (i3 ((k + 1 : Nat) : Int), H s1)) (fun th => ∃ s', th = H s' ∧ sc s s' ∧ mv s' = oc (gd s 1) w t (mv s) ∧ s'.1 = s.1 ∧ fi s' 16 1 = fi s 16 1) := fun e => hnx _ ⟨s1, rfl, c1, by rw [hF, e], a1, f1, w1⟩
    unfold ocF at no hF
    by_cases c : w.1 + rd w.2 (i3 (k : Int)) ≤ fi s1 20 4
    · rw [if_pos c]
      exact no (if_pos c)
    · rw [if_neg c]
      by_cases d : tIn (gd s 1) (i3 (k : Int)) = i3 (-1)
      · rw [if_pos d]
        have x1 : fi (sf (sf s1 20 2 t) 20 3 (i3 (k : Int))) 20 1 = w.1 := w1
        have x2 : ia (sf (sf s1 20 2 t) 20 3 (i3 (k : Int))) 22 = w.2 := e3
        simp only [r_M, Option.bind_some, jn, cst, bP_if, rB_0, rB_1, z00, z10, ↓reduceIte, x1, x2, hr]
        refine hnx _ ⟨_, rfl, ((c1.f (b 2)).f (b 3)).f (b 4), ?_, a1, f1, w1⟩
        refine Eq.trans ?_ hF.symm
        rw [if_neg (show ¬ w.1 + rd w.2 (i3 (k : Int)) ≤ (mv s1).2.2 from c), if_pos d]
        rfl
      · rw [if_neg d]
        refine no ?_
        rw [if_neg (show ¬ w.1 + rd w.2 (i3 (k : Int)) ≤ (mv s1).2.2 from c), if_neg d]
  · rintro _ ⟨s1, rfl, c1, m1, a1, f1, w1⟩ nx ex hex
    have g1 := c1.g hg
    simp only [q_70 hg, Option.bind_some, jn, cst, bP_if, rB_0, rB_1, z00, z10, ↓reduceIte, g1, h.Ce (Nat.le_refl _) (by have := h.cc_le; omega)]
    exact hex _ ⟨s1, rfl, c1, m1, a1, f1⟩
  · intro x hx
    exact T_some hx
  · exact ⟨s, rfl, sc.refl s, rfl, rfl, rfl, e1⟩
theorem sc_wst (z : Sz s) {a : Wt} (ha : a.2.length = 64) : sc s (wst s a) := ((sc.refl s).a (Or.inr (Or.inr (Or.inl rfl))) (by rw [z.2.2.1]; exact ha)).f (Or.inr (Or.inl rfl))
theorem q_117 (h : ok (gd s 1)) (z : Sz s) (r : rowsOK s L) : T (m_117 20 1 16 (H s)) (fun th => ∃ s', th = H s' ∧ sc s s' ∧ mv s' = mT (gd s 1) L ∧ rowsOK s' L) := by
  have hg : isG 1 := Or.inl rfl
  have b : ∀ k, sF 20 k := fun k => Or.inr (Or.inl rfl)
  unfold m_117
  simp only [r_M, q_122, Option.bind_some, jn, cst, bP_if, rB_0, rB_1, z00, z10, ↓reduceIte]
  refine lpH (nn (gd s 1)) (fun k q => ∃ s', q = (i3 (k : Int), H s') ∧ sc s s' ∧ mv s' = itr (mtF (gd s 1) L) k (i3 (-1), i3 (-1), i3 (-1)) ∧ rowsOK s' L) (fun th => ∃ s', th = H s' ∧ sc s s' ∧ mv s' = mT (gd s 1) L ∧ rowsOK s' L) ?_ ?_ ?_ ?_ (by have := h.n_le; omega)
  · rintro k _ hk ⟨s1, rfl, c1, m1, r1⟩ nx ex hnx hex
    have g1 := c1.g hg
    have h1 : ok (gd s1 1) := by rw [g1]; exact h
    have z1 := c1.z z
    have ht : isT (gd s1 1) (i3 (k : Int)) := by rw [g1]; exact h.T hk
    have hF : itr (mtF (gd s 1) L) (k + 1) (i3 (-1), i3 (-1), i3 (-1)) = mtF (gd s 1) L k (mv s1) := by rw [m1]; rfl
    simp only [r_G hg, Option.bind_some, jn, cst, bP_if, rB_0, rB_1, z00, z10, ↓reduceIte, ht.2, q_87 hg h1 ht, i3_nat_add]
    by_cases c : kOf (kA (gd s1 1) (i3 (k : Int))) (i3 1)
    · rw [if_neg (fun e => e c)]
      refine hnx _ ⟨s1, rfl, c1, ?_, r1⟩
      rw [hF]
      unfold mtF
      rw [if_pos (by rw [← g1]; exact c)]
    · rw [if_pos c]
      simp only [q_120 h1 z1 r1 ht, Option.bind_some, jn, cst, bP_if, rB_0, rB_1, z00, z10, ↓reduceIte]
      have hw := wT_len (gd s1 1) L (i3 (k : Int))
      obtain ⟨_, e2, s2, rfl, c2, m2, a2, f2⟩ := q_123 (s := wst s1 (wT (gd s1 1) L (i3 (k : Int)))) h1 hw rfl rfl (i3 (k : Int))
      rw [e2]
      simp only [Option.bind_some, jn, cst, bP_if, rB_0, rB_1, z00, z10, ↓reduceIte]
      refine hnx _ ⟨s2, rfl, (c1.trans (sc_wst z1 hw)).trans c2, ?_, ?_⟩
      · rw [hF, m2]
        unfold mtF
        rw [if_neg (by rw [← g1]; exact c), ← g1]
        rfl
      · refine ⟨by rw [f2]; exact r1.1, r1.2.1, ?_⟩
        show pre L (s2.1 17)
        rw [a2]
        exact r1.2.2
  · rintro _ ⟨s1, rfl, c1, m1, r1⟩ nx ex hex
    have g1 := c1.g hg
    simp only [r_G hg, Option.bind_some, jn, cst, bP_if, rB_0, rB_1, z00, z10, ↓reduceIte, g1, h.Te (Nat.le_refl _) (by have := h.n_le; omega)]
    exact hex _ ⟨s1, rfl, c1, m1, r1⟩
  · intro x hx
    exact T_some hx
  · exact ⟨_, rfl, (((sc.refl s).f (b 2)).f (b 3)).f (b 4), rfl, r⟩
theorem q_118 (h : ok (gd s 1)) (z : Sz s) : T (m_118 20 1 (H s)) (fun th => ∃ s', th = H s' ∧ sc s s' ∧ mv s' = mW (gd s 1)) := by
  have hg : isG 1 := Or.inl rfl
  have b : ∀ k, sF 20 k := fun k => Or.inr (Or.inl rfl)
  unfold m_118
  simp only [r_M, q_122, Option.bind_some, jn, cst, bP_if, rB_0, rB_1, z00, z10, ↓reduceIte]
  refine lpH (nn (gd s 1)) (fun k q => ∃ s', q = (i3 (k : Int), H s') ∧ sc s s' ∧ mv s' = itr (mwF (gd s 1)) k (i3 (-1), i3 (-1), i3 (-1))) (fun th => ∃ s', th = H s' ∧ sc s s' ∧ mv s' = mW (gd s 1)) ?_ ?_ ?_ ?_ (by have := h.n_le; omega)
  · rintro k _ hk ⟨s1, rfl, c1, m1⟩ nx ex hnx hex
    have g1 := c1.g hg
    have h1 : ok (gd s1 1) := by rw [g1]; exact h
    have z1 := c1.z z
    have ht : isT (gd s1 1) (i3 (k : Int)) := by rw [g1]; exact h.T hk
    have hF : itr (mwF (gd s 1)) (k + 1) (i3 (-1), i3 (-1), i3 (-1)) = mwF (gd s 1) k (mv s1) := by rw [m1]; rfl
    simp only [r_G hg, Option.bind_some, jn, cst, bP_if, rB_0, rB_1, z00, z10, ↓reduceIte, ht.2, q_87 hg h1 ht, i3_nat_add]
    by_cases c : kOf (kA (gd s1 1) (i3 (k : Int))) (i3 1)
    · rw [if_neg (fun e => e c)]
      refine hnx _ ⟨s1, rfl, c1, ?_⟩
      rw [hF]
      unfold mwF
      rw [if_pos (by rw [← g1]; exact c)]
    · rw [if_pos c]
      simp only [q_121 h1 z1 ht, Option.bind_some, jn, cst, bP_if, rB_0, rB_1, z00, z10, ↓reduceIte]
      have hw := wV_len (gd s1 1) (i3 (k : Int))
      obtain ⟨_, e2, s2, rfl, c2, m2, a2, f2⟩ := q_123 (s := wst s1 (wV (gd s1 1) (i3 (k : Int)))) h1 hw rfl rfl (i3 (k : Int))
      rw [e2]
      simp only [Option.bind_some, jn, cst, bP_if, rB_0, rB_1, z00, z10, ↓reduceIte]
      refine hnx _ ⟨s2, rfl, (c1.trans (sc_wst z1 hw)).trans c2, ?_⟩
      rw [hF, m2]
      unfold mwF
      rw [if_neg (by rw [← g1]; exact c), ← g1]
      rfl
  · rintro _ ⟨s1, rfl, c1, m1⟩ nx ex hex
    have g1 := c1.g hg
    simp only [r_G hg, Option.bind_some, jn, cst, bP_if, rB_0, rB_1, z00, z10, ↓reduceIte, g1, h.Te (Nat.le_refl _) (by have := h.n_le; omega)]
    exact hex _ ⟨s1, rfl, c1, m1⟩
  · intro x hx
    exact T_some hx
  · exact ⟨_, rfl, (((sc.refl s).f (b 2)).f (b 3)).f (b 4), rfl⟩
noncomputable def tel (a : Mv) (w : Int32) : Int32 := if w = 0 then a.1 else if w = i3 1 then a.2.1 else a.2.2
theorem q_124 (w : Int32) : m_124 20 w (H s) = some (tel (mv s) w) := by
  unfold m_124
  simp only [r_M, Option.bind_some, jn, cst, bP_if, rB_0, rB_1, z00, z10, ↓reduceIte]
  unfold tel mv
  ((repeat' split) <;> (first | rfl | (exfalso; simp_all only [isT, isCl, isW, st3, btw, kOf, not_true_eq_false, not_false_eq_true, and_true, true_and, and_self, and_false, false_and, or_true, true_or, or_false, false_or, not_and]; done) | grind))
theorem q_119 (h : ok (gd s 1)) (z : Sz s) (r : rowsOK s L) {t c : Int32} (ht : isT (gd s 1) t) (hc : isCl (gd s 1) c) : m_119 20 1 16 t c (H s) = some ((wT (gd s 1) L t).1 + rd (wT (gd s 1) L t).2 c, H (wst s (wT (gd s 1) L t))) := by
  have h1 := h.cl hc
  have h2 := h.cc_le
  have h3 := wT_len (gd s 1) L t
  unfold m_119
  have x1 : fi (wst s (wT (gd s 1) L t)) 20 1 = (wT (gd s 1) L t).1 := rfl
  have x2 : ia (wst s (wT (gd s 1) L t)) 22 = (wT (gd s 1) L t).2 := rfl
  simp only [r_M, r_C (Or.inr rfl : isC 21), q_120 h z r ht, x1, x2, show (21 : Nat) + 1 = 22 from rfl, at_rd hc.1 (show _ < (wT (gd s 1) L t).2.length by omega), Option.bind_some, jn, cst, bP_if, rB_0, rB_1, z00, z10, ↓reduceIte]
end MO
