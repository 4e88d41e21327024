/-! ===== what is told of the rows (class) ===== -/
noncomputable def lg (L : List Int32) (k : Nat) : Int32 := L.getD k 0
noncomputable def coF (L : List Int32) (q : Int32) (k : Nat) (m : Int32) : Int32 := if bct (lg L k) = q then m + i3 1 else m
noncomputable def co (L : List Int32) (q : Int32) : Int32 := itr (coF L q) L.length (i3 0)
noncomputable def cwF (L : List Int32) (t q : Int32) (k : Nat) (m : Int32) : Int32 := if (lg L k &&& bit t) = 0 then m else if bct (lg L k) < q then m else m + i3 1
noncomputable def cw (L : List Int32) (t q : Int32) : Int32 := itr (cwF L t q) L.length (i3 0)
noncomputable def tiF (L : List Int32) (k : Nat) (m : Int32) : Int32 := if bct (lg L k) < i3 3 then m else m ||| lg L k
noncomputable def ti (L : List Int32) : Int32 := itr (tiF L) L.length (i3 0)
noncomputable def flF (L : List Int32) (k : Nat) (m : Int32) : Int32 := if bct (lg L k) ≤ bct m then m else lg L k
noncomputable def fl (L : List Int32) : Int32 := itr (flF L) L.length (i3 0)
/-- the i-th of so many -/
noncomputable def pkF (L : List Int32) (q i : Int32) : Nat → Nat → Int32 → Int32
  | 0, _, _ => i3 0
  | n + 1, k, a => if bct (lg L k) = q then if a = i then lg L k else pkF L q i n (k + 1) (a + i3 1) else pkF L q i n (k + 1) a
noncomputable def pk (L : List Int32) (q i : Int32) : Int32 := pkF L q i L.length 0 (i3 0)
theorem rowsOK.at {s : St} {L : List Int32} (r : rowsOK s L) {k : Nat} (hk : k < L.length) : at32 (ia s 17) (i3 (k : Int)) = some (lg L k) := r.2.2.at hk (by have := r.2.1; omega)
theorem rowsOK.lt {s : St} {L : List Int32} (r : rowsOK s L) {k : Nat} (hk : k < L.length) : ¬ fi s 16 1 ≤ i3 (k : Int) := by
  have := r.2.1
  rw [r.1, i3n_le (by omega) (by omega)]; omega
theorem rowsOK.ge {s : St} {L : List Int32} (r : rowsOK s L) : fi s 16 1 ≤ i3 (L.length : Int) := by
  have := r.2.1
  rw [r.1, i3n_le (by omega) (by omega)]; omega
section RQ
variable {s : St} {L : List Int32}
theorem q_64 (k : Int32) (th : tH) : m_64 k th = some (bP (¬ k < i3 2 ∧ k ≤ i3 12)) := by
  unfold m_64
  simp only [Option.bind_some, jn, cst, bP_if, rB_0, rB_1, z00, z10, ↓reduceIte]
  unfold bP
  ((repeat' split) <;> (first | rfl | (exfalso; simp_all only [isT, isCl, isW, st3, btw, kOf, not_true_eq_false, not_false_eq_true, and_true, true_and, and_self, and_false, false_and, or_true, true_or, or_false, false_or, not_and]; done) | grind))
theorem q_105 (r : rowsOK s L) (q : Int32) : m_105 16 q (H s) = some (co L q) := by
  have hl := r.2.1
  unfold m_105
  simp only [r_R, Option.bind_some, jn, cst, bP_if, rB_0, rB_1, z00, z10, ↓reduceIte]
  refine (lp0 L.length (by omega) (fun t a => (a, t)) (fun a => a) (coF L q) (fun _ => True) (i3 0) ?_ (fun _ _ _ _ => trivial) ?_ trivial).trans rfl
  · intro k m nx ex hk _
    simp only [r.lt hk, r.at hk, q_173, Option.bind_some, jn, cst, bP_if, rB_0, rB_1, z00, z10, ↓reduceIte]
    unfold coF
    ((repeat' split) <;> (first | rfl | (exfalso; simp_all only [isT, isCl, isW, st3, btw, kOf, not_true_eq_false, not_false_eq_true, and_true, true_and, and_self, and_false, false_and, or_true, true_or, or_false, false_or, not_and]; done) | grind))
  · intro a nx ex _
    simp only [r.ge, Option.bind_some, jn, cst, bP_if, rB_0, rB_1, z00, z10, ↓reduceIte]
theorem q_106 (r : rowsOK s L) : m_106 16 (H s) = some (i3 (L.length : Int) - co L (i3 2)) := by
  unfold m_106
  simp only [r_R, Option.bind_some, jn, cst, bP_if, rB_0, rB_1, z00, z10, ↓reduceIte, q_105 r, r.1]
theorem q_107 (r : rowsOK s L) (t q : Int32) : m_107 16 t q (H s) = some (cw L t q) := by
  have hl := r.2.1
  unfold m_107
  simp only [r_R, Option.bind_some, jn, cst, bP_if, rB_0, rB_1, z00, z10, ↓reduceIte]
  refine (lp0 L.length (by omega) (fun t a => (a, t)) (fun a => a) (cwF L t q) (fun _ => True) (i3 0) ?_ (fun _ _ _ _ => trivial) ?_ trivial).trans rfl
  · intro k m nx ex hk _
    simp only [r.lt hk, r.at hk, q_173, Option.bind_some, jn, cst, bP_if, rB_0, rB_1, z00, z10, ↓reduceIte]
    unfold cwF bit
    ((repeat' split) <;> (first | rfl | (exfalso; simp_all only [isT, isCl, isW, st3, btw, kOf, not_true_eq_false, not_false_eq_true, and_true, true_and, and_self, and_false, false_and, or_true, true_or, or_false, false_or, not_and]; done) | grind))
  · intro a nx ex _
    simp only [r.ge, Option.bind_some, jn, cst, bP_if, rB_0, rB_1, z00, z10, ↓reduceIte]
theorem q_108 (r : rowsOK s L) (t : Int32) : m_108 16 t (H s) = some (cw L t (i3 3) - cw L t (i3 4)) := by
  unfold m_108
  simp only [r_R, Option.bind_some, jn, cst, bP_if, rB_0, rB_1, z00, z10, ↓reduceIte, q_107 r]
theorem q_109 (r : rowsOK s L) : m_109 16 (H s) = some (ti L) := by
  have hl := r.2.1
  unfold m_109
  simp only [r_R, Option.bind_some, jn, cst, bP_if, rB_0, rB_1, z00, z10, ↓reduceIte]
  refine (lp0 L.length (by omega) (fun t a => (a, t)) (fun a => a) (tiF L) (fun _ => True) (i3 0) ?_ (fun _ _ _ _ => trivial) ?_ trivial).trans rfl
  · intro k m nx ex hk _
    simp only [r.lt hk, r.at hk, q_173, Option.bind_some, jn, cst, bP_if, rB_0, rB_1, z00, z10, ↓reduceIte]
    unfold tiF
    ((repeat' split) <;> (first | rfl | (exfalso; simp_all only [isT, isCl, isW, st3, btw, kOf, not_true_eq_false, not_false_eq_true, and_true, true_and, and_self, and_false, false_and, or_true, true_or, or_false, false_or, not_and]; done) | grind))
  · intro a nx ex _
    simp only [r.ge, Option.bind_some, jn, cst, bP_if, rB_0, rB_1, z00, z10, ↓reduceIte]
theorem q_111 (r : rowsOK s L) : m_111 16 (H s) = some (fl L) := by
  have hl := r.2.1
  unfold m_111
  simp only [r_R, Option.bind_some, jn, cst, bP_if, rB_0, rB_1, z00, z10, ↓reduceIte]
  refine (lp0 L.length (by omega) (fun t a => (a, t)) (fun a => a) (flF L) (fun _ => True) (i3 0) ?_ (fun _ _ _ _ => trivial) ?_ trivial).trans rfl
  · intro k m nx ex hk _
    simp only [r.lt hk, r.at hk, q_173, Option.bind_some, jn, cst, bP_if, rB_0, rB_1, z00, z10, ↓reduceIte]
    unfold flF
    ((repeat' split) <;> (first | rfl | (exfalso; simp_all only [isT, isCl, isW, st3, btw, kOf, not_true_eq_false, not_false_eq_true, and_true, true_and, and_self, and_false, false_and, or_true, true_or, or_false, false_or, not_and]; done) | grind))
  · intro a nx ex _
    simp only [r.ge, Option.bind_some, jn, cst, bP_if, rB_0, rB_1, z00, z10, ↓reduceIte]
/-- a loop with a count, that may end ahead -/
theorem lpP {σ X R α : Type} {F : σ → (σ → Option R) → (X → Option R) → Option R} {K : X → Option R} (N : Nat) (hN : N ≤ 1000) (en : Int32 → α → σ) (x : X) (p : Nat → α → Option R) (f : Nat → α → α) (d : Option R)
    (hs : ∀ k a nx ex, k < N → F (en (i3 (k : Int)) a) nx ex = match p k a with | some r => some r | none => nx (en (i3 (k : Int) + Int32.ofInt 1) (f k a))) (he : ∀ a nx ex, F (en (i3 (N : Int)) a) nx ex = ex x) (hK : K x = d) (g : Nat → Nat → α → Option R) (g0 : ∀ k a, g 0 k a = d) (gs : ∀ n k a, k < N → g (n + 1) k a = match p k a with | some r => some r | none => g n (k + 1) (f k a)) (a0 : α) : lp F 4096 (en (Int32.ofInt 0) a0) K = g N 0 a0 := by
  have key : ∀ m fuel a, m ≤ N → m < fuel → lp F fuel (en (i3 ((N - m : Nat) : Int)) a) K = g m (N - m) a := by
    intro m
    induction m with
    | zero =>
      intro fuel a _ hf
      obtain ⟨q, rfl⟩ : ∃ q, fuel = q + 1 := ⟨fuel - 1, by omega⟩
      rw [lp_s, Nat.sub_zero, he, g0, hK]
    | succ m ih =>
      intro fuel a hm hf
      obtain ⟨q, rfl⟩ : ∃ q, fuel = q + 1 := ⟨fuel - 1, by omega⟩
      rw [lp_s, hs _ _ _ _ (by omega), gs _ _ _ (by omega)]
      cases p (N - (m + 1)) a with
      | some r => rfl
      | none =>
        dsimp only
        rw [i3_nat_add, show N - (m + 1) + 1 = N - m by omega]
        exact ih q _ (by omega) (by omega)
  have := key N 4096 a0 (Nat.le_refl _) (by omega)
  rw [Nat.sub_self] at this
  exact this
theorem q_110 (r : rowsOK s L) (q i : Int32) : m_110 16 q i (H s) = some (pk L q i) := by
  have hl := r.2.1
  unfold m_110
  simp only [r_R, Option.bind_some, jn, cst, bP_if, rB_0, rB_1, z00, z10, ↓reduceIte]
  refine (lpP L.length (by omega) (fun t a => (a, t)) () (fun k a => if bct (lg L k) = q then if a = i then some (lg L k) else none else none) (fun k a => if bct (lg L k) = q then a + i3 1 else a) (some (i3 0)) ?_ ?_ rfl (fun n k a => some (pkF L q i n k a)) (fun _ _ => rfl) ?_ (i3 0)).trans rfl
  · intro k m nx ex hk
    simp only [r.lt hk, r.at hk, q_173, Option.bind_some, jn, cst, bP_if, rB_0, rB_1, z00, z10, ↓reduceIte]
    ((repeat' split) <;> (first | rfl | (exfalso; simp_all only [isT, isCl, isW, st3, btw, kOf, not_true_eq_false, not_false_eq_true, and_true, true_and, and_self, and_false, false_and, or_true, true_or, or_false, false_or, not_and]; done) | grind))
  · intro a nx ex
    simp only [r.ge, Option.bind_some, jn, cst, bP_if, rB_0, rB_1, z00, z10, ↓reduceIte]
  · intro n k a hk
    show some (if bct (lg L k) = q then if a = i then lg L k else pkF L q i n (k + 1) (a + i3 1) else pkF L q i n (k + 1) a) = _
    ((repeat' split) <;> (first | rfl | (exfalso; simp_all only [isT, isCl, isW, st3, btw, kOf, not_true_eq_false, not_false_eq_true, and_true, true_and, and_self, and_false, false_and, or_true, true_or, or_false, false_or, not_and]; done) | grind))
end RQ
/-! ===== the smallest gap (class) ===== -/
abbrev Gp : Type := Int32 × Int32 × Int32 × Int32
noncomputable def gp (s : St) : Gp := (fi s 23 0, fi s 23 1, fi s 23 2, fi s 23 3)
noncomputable def ofr (g : Gd) (m t : Int32) (a : Gp) : Gp := if isT g (ntz m) ∧ isT g (ntz (m &&& (m - i3 1))) then if a.2.1 = i3 (-1) ∨ dar g (cA g (ntz m)) (cA g (ntz (m &&& (m - i3 1)))) (cA g t) * dar g (cA g (ntz m)) (cA g (ntz (m &&& (m - i3 1)))) (cA g t) * a.2.2.2 < a.2.2.1 * sqr g (cA g (ntz m)) (cA g (ntz (m &&& (m - i3 1)))) then (m, t, dar g (cA g (ntz m)) (cA g (ntz (m &&& (m - i3 1)))) (cA g t) * dar g (cA g (ntz m)) (cA g (ntz (m &&& (m - i3 1)))) (cA g t), sqr g (cA g (ntz m)) (cA g (ntz (m &&& (m - i3 1))))) else a else a
noncomputable def gpF (g : Gd) (m : Int32) (t : Nat) (a : Gp) : Gp := if (m &&& bit (i3 (t : Int))) = 0 ∧ ¬ kOf (kA g (i3 (t : Int))) (i3 4) then ofr g m (i3 (t : Int)) a else a
noncomputable def gpI (g : Gd) (L : List Int32) (i : Nat) (a : Gp) : Gp := itr (gpF g (lg L i)) (nn g) a
noncomputable def gpA (g : Gd) (L : List Int32) (a : Gp) : Gp := itr (gpI g L) L.length a
section GP
variable {s : St}
theorem q_127 (h : ok (gd s 1)) {m t : Int32} (ht : isT (gd s 1) t) : ∃ s', m_127 23 1 m t (H s) = some (H s') ∧ sc s s' ∧ gp s' = ofr (gd s 1) m t (gp s) ∧ s'.1 = s.1 ∧ fi s' 16 1 = fi s 16 1 := by
  have ho : isG 1 := Or.inl rfl
  have b : ∀ k, sF 23 k := fun k => Or.inr (Or.inr (Or.inl rfl))
  unfold m_127
  simp only [r_P, Option.bind_some, jn, cst, bP_if, rB_0, rB_1, z00, z10, ↓reduceIte, q_65, q_66, q_81 ho]
  unfold ofr
  by_cases c1 : isT (gd s 1) (ntz m)
  · by_cases c2 : isT (gd s 1) (ntz (m &&& (m - i3 1)))
    · simp only [if_pos c1, if_pos c2, if_pos (And.intro c1 c2), r_G ho, h.at_c c1, h.at_c c2, h.at_c ht, q_79 ho h, q_78 ho h, r_P, Option.bind_some, jn, cst, bP_if, rB_0, rB_1, z00, z10, ↓reduceIte]
      have e : gp s = (fi s 23 0, fi s 23 1, fi s 23 2, fi s 23 3) := rfl
      by_cases c3 : fi s 23 1 = i3 (-1)
      · rw [if_pos c3, if_pos (show (gp s).2.1 = i3 (-1) ∨ _ from Or.inl c3)]
        exact ⟨_, rfl, ((((sc.refl s).f (b 0)).f (b 1)).f (b 2)).f (b 3), rfl, rfl, rfl⟩
      · rw [if_neg c3]
        by_cases c4 : fi s 23 2 * sqr (gd s 1) (cA (gd s 1) (ntz m)) (cA (gd s 1) (ntz (m &&& (m - i3 1)))) ≤ dar (gd s 1) (cA (gd s 1) (ntz m)) (cA (gd s 1) (ntz (m &&& (m - i3 1)))) (cA (gd s 1) t) * dar (gd s 1) (cA (gd s 1) (ntz m)) (cA (gd s 1) (ntz (m &&& (m - i3 1)))) (cA (gd s 1) t) * fi s 23 3
        · rw [if_pos c4, if_neg (fun e => e.elim (fun e => c3 e) (fun e => absurd c4 (Int32.not_le.mpr e)))]
          exact ⟨_, rfl, sc.refl s, rfl, rfl, rfl⟩
        · rw [if_neg c4, if_pos (show _ ∨ _ * (gp s).2.2.2 < (gp s).2.2.1 * _ from Or.inr (Int32.not_le.mp c4))]
          exact ⟨_, rfl, ((((sc.refl s).f (b 0)).f (b 1)).f (b 2)).f (b 3), rfl, rfl, rfl⟩
    · simp only [if_pos c1, if_neg c2, if_neg (fun e : _ ∧ _ => c2 e.2), Option.bind_some, jn, cst, bP_if, rB_0, rB_1, z00, z10, ↓reduceIte]
      exact ⟨_, rfl, sc.refl s, rfl, rfl, rfl⟩
  · simp only [if_neg c1, if_neg (fun e : _ ∧ _ => c1 e.1), Option.bind_some, jn, cst, bP_if, rB_0, rB_1, z00, z10, ↓reduceIte]
    exact ⟨_, rfl, sc.refl s, rfl, rfl, rfl⟩
theorem q_126 {L : List Int32} (h : ok (gd s 1)) (r : rowsOK s L) : T (m_126 23 1 16 (H s)) (fun th => ∃ s', th = H s' ∧ sc s s' ∧ gp s' = gpA (gd s 1) L (fi s 23 0, i3 (-1), fi s 23 2, fi s 23 3)) := by
  have ho : isG 1 := Or.inl rfl
  have hl := r.2.1
  unfold m_126
  simp only [r_P, Option.bind_some, jn, cst, bP_if, rB_0, rB_1, z00, z10, ↓reduceIte]
  refine lpH L.length (fun k q => ∃ s', q = (i3 (k : Int), H s') ∧ sc s s' ∧ gp s' = itr (gpI (gd s 1) L) k (fi s 23 0, i3 (-1), fi s 23 2, fi s 23 3) ∧ rowsOK s' L) (fun th => ∃ s', th = H s' ∧ sc s s' ∧ gp s' = gpA (gd s 1) L (fi s 23 0, i3 (-1), fi s 23 2, fi s 23 3)) ?_ ?_ ?_ ?_ (by omega)
  · rintro k _ hk ⟨s1, rfl, c1, e1, r1⟩ nx ex hnx hex
    have g1 := c1.g ho
    simp only [r_R, Option.bind_some, jn, cst, bP_if, rB_0, rB_1, z00, z10, ↓reduceIte, r1.lt hk]
    refine lpH (nn (gd s 1)) (fun m q => ∃ s', q = (i3 (m : Int), H s') ∧ sc s s' ∧ gp s' = itr (gpF (gd s 1) (lg L k)) m (itr (gpI (gd s 1) L) k (fi s 23 0, i3 (-1), fi s 23 2, fi s 23 3)) ∧ rowsOK s' L) (fun th => ∃ s', th = H s' ∧ sc s s' ∧ gp s' = itr (gpI (gd s 1) L) (k + 1) (fi s 23 0, i3 (-1), fi s 23 2, fi s 23 3) ∧ rowsOK s' L) ?_ ?_ ?_ ?_ (by have := h.n_le; omega)
    · rintro m _ hm ⟨s2, rfl, c2, e2, r2⟩ nx2 ex2 hnx2 hex2
      have g2 := c2.g ho
      have h2 : ok (gd s2 1) := by rw [g2]; exact h
      have hm2 : isT (gd s2 1) (i3 (m : Int)) := by rw [g2]; exact h.T hm
      simp only [r_G ho, r_R, Option.bind_some, jn, cst, bP_if, rB_0, rB_1, z00, z10, ↓reduceIte, hm2.2, r2.at hk, q_85 ho h2 hm2, i3_nat_add]
      have hF : ∀ A, itr (gpF (gd s 1) (lg L k)) (m + 1) A = gpF (gd s 1) (lg L k) m (itr (gpF (gd s 1) (lg L k)) m A) := fun A => rfl
      obtain ⟨s3, e3, c3, p3, a3, f3⟩ := q_127 h2 (m := lg L k) hm2
      have no : ¬ ((lg L k &&& bit (i3 (m : Int))) = 0 ∧ ¬ kOf (kA (gd s2 1) (i3 (m : Int))) (i3 4)) → T (nx2 (i3 ((m + 1 : Nat) : Int), H s2)) (fun th => ∃ s', th = H s' ∧ sc s s' ∧ gp s' = gpA (gd s 1) L (fi s 23 0, i3 (-1), fi s 23 2, fi s 23 3)) := fun c => hnx2 _ ⟨s2, rfl, c2, by
        rw [hF, ← e2]
        unfold gpF
        rw [if_neg (by rw [← g2]; exact c)], r2⟩
      by_cases c : (lg L k &&& bit (i3 (m : Int))) = 0
      · have c' : (lg L k &&& Int32.ofInt 1 <<< (i3 (m : Int) &&& 31)) = 0 := c
        rw [if_pos c']
        by_cases d : kOf (kA (gd s2 1) (i3 (m : Int))) (i3 4)
        · rw [if_pos d]
          exact no (fun e => e.2 d)
        · rw [if_neg d]
          simp only [r2.at hk, Option.bind_some, jn, cst, bP_if, rB_0, rB_1, z00, z10, ↓reduceIte, e3]
          refine hnx2 _ ⟨s3, rfl, c2.trans c3, ?_, ?_⟩
          · rw [hF, ← e2, p3, g2]
            unfold gpF
            rw [if_pos ⟨c, by rw [← g2]; exact d⟩]
          · refine ⟨by rw [f3]; exact r2.1, r2.2.1, ?_⟩
            show pre L (s3.1 17)
            rw [a3]
            exact r2.2.2
      · have c' : ¬ (lg L k &&& Int32.ofInt 1 <<< (i3 (m : Int) &&& 31)) = 0 := c
        rw [if_neg c']
        exact no (fun e => c e.1)
    · rintro _ ⟨s2, rfl, c2, e2, r2⟩ nx2 ex2 hex2
      have g2 := c2.g ho
      simp only [r_G ho, Option.bind_some, jn, cst, bP_if, rB_0, rB_1, z00, z10, ↓reduceIte, g2, h.Te (Nat.le_refl _) (by have := h.n_le; omega)]
      exact hex2 _ ⟨s2, rfl, c2, e2, r2⟩
    · rintro _ ⟨s2, rfl, c2, e2, r2⟩
      simp only [i3_nat_add]
      exact hnx _ ⟨s2, rfl, c2, e2, r2⟩
    · exact ⟨s1, rfl, c1, e1, r1⟩
  · rintro _ ⟨s1, rfl, c1, e1, r1⟩ nx ex hex
    simp only [r_R, Option.bind_some, jn, cst, bP_if, rB_0, rB_1, z00, z10, ↓reduceIte, r1.ge]
    exact hex _ ⟨s1, rfl, c1, e1⟩
  · intro x hx
    exact T_some hx
  · exact ⟨sf s 23 1 (Int32.ofInt (-1)), rfl, (sc.refl s).f (Or.inr (Or.inr (Or.inl rfl))), rfl, r⟩
end GP
