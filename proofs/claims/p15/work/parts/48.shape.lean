/-! ===== what is seen, shapes (class) ===== -/
theorem lpL {σ X R : Type} {F : σ → (σ → Option R) → (X → Option R) → Option R} {K : X → Option R} (l n : Nat) (hl : l ≤ 1000) (hn : n ≤ 1000) (en : Int32 → σ) (x : X) (p : Nat → Bool) (r : Nat → Option R)
    (hs : ∀ k nx ex, l ≤ k → k < n → F (en (i3 (k : Int))) nx ex = if p k = true then r k else nx (en (i3 (k : Int) + Int32.ofInt 1))) (he : ∀ k nx ex, n ≤ k → k ≤ 1000 → F (en (i3 (k : Int))) nx ex = ex x) : lp F 4096 (en (i3 (l : Int))) K = match fst? p (n - l) l with | some k => r k | none => K x := by
  have key : ∀ m fuel, m ≤ n - l → m < fuel → lp F fuel (en (i3 ((l + (n - l - m) : Nat) : Int))) K = match fst? p m (l + (n - l - m)) with | some k => r k | none => K x := by
    intro m
    induction m with
    | zero =>
      intro fuel _ hf
      obtain ⟨q, rfl⟩ : ∃ q, fuel = q + 1 := ⟨fuel - 1, by omega⟩
      rw [lp_s, he _ _ _ (by omega) (by omega)]
      rfl
    | succ m ih =>
      intro fuel hm hf
      obtain ⟨q, rfl⟩ : ∃ q, fuel = q + 1 := ⟨fuel - 1, by omega⟩
      rw [lp_s, hs _ _ _ (by omega) (by omega)]
      unfold fst?
      by_cases c : p (l + (n - l - (m + 1))) = true
      · rw [if_pos c, if_pos c]
      · rw [if_neg c, if_neg c, i3_nat_add, show l + (n - l - (m + 1)) + 1 = l + (n - l - m) by omega]
        exact ih q (by omega) (by omega)
  have := key (n - l) 4096 (Nat.le_refl _) (by omega)
  rw [Nat.sub_self] at this
  exact this
noncomputable def hidF (g : Gd) (t c : Int32) (k : Nat) (m : Int32) : Int32 := if kOf (kA g (i3 (k : Int))) (i3 2) then m else if btw g (cA g (i3 (k : Int))) (cA g t) c then if m = i3 (-1) then i3 (k : Int) else if dst g (cA g m) c ≤ dst g (cA g (i3 (k : Int))) c then m else i3 (k : Int) else m
noncomputable def hid (g : Gd) (t c : Int32) : Int32 := itr (hidF g t c) (nn g) (i3 (-1))
abbrev sen (g : Gd) (t c : Int32) : Prop := ¬ cA g t = c ∧ hid g t c = i3 (-1)
noncomputable def vwF (g : Gd) (c : Int32) (k : Nat) (m : Int32) : Int32 := if sen g (i3 (k : Int)) c then m ||| bit (i3 (k : Int)) else m
noncomputable def vw (g : Gd) (c : Int32) : Int32 := itr (vwF g c) (nn g) (i3 0)
abbrev als (g : Gd) (c : Int32) : Prop := fst? (fun k => decide (¬ sen g (i3 (k : Int)) c)) (nn g) 0 = none
noncomputable def seeF (g : Gd) (t : Int32) (k : Nat) (m : Int32) : Int32 := if sen g t (cA g (i3 (k : Int))) then m + i3 1 else m
noncomputable def see (g : Gd) (t : Int32) : Int32 := itr (seeF g t) (nn g) (i3 0)
noncomputable def ntoF (g : Gd) (t : Int32) (k : Nat) (m : Int32) : Int32 := if i3 (k : Int) = t then m else if m = 0 then dst g (cA g (i3 (k : Int))) (cA g t) else if m ≤ dst g (cA g (i3 (k : Int))) (cA g t) then m else dst g (cA g (i3 (k : Int))) (cA g t)
noncomputable def nto (g : Gd) (t : Int32) : Int32 := itr (ntoF g t) (nn g) (i3 0)
noncomputable def lno (g : Gd) (c w : Int32) : Int32 := if w < 0 ∨ 2 < w then rO g c + cO g c else if w = 0 then rO g c else if w = 1 then cO g c else rO g c - cO g c + sD g - i3 1
noncomputable def frlF (g : Gd) (w : Int32) (k : Nat) (m : Int32) : Int32 := m ||| (i3 1 <<< (lno g (cA g (i3 (k : Int))) w &&& 31))
noncomputable def frl (g : Gd) (w : Int32) : Int32 := (if i3 2 ≤ w then i3 2 * sD g - i3 1 else sD g) - bct (itr (frlF g w) (nn g) (i3 0))
noncomputable def img (g : Gd) (n : Nat) (b : Int32) (c : Int32) : Int32 := if b = 0 then itr (fun _ => trn g) n c else mir g (itr (fun _ => trn g) n c)
abbrev own (g : Gd) (n : Nat) (b : Int32) : Prop := fst? (fun k => decide (tIn g (img g n b (cA g (i3 (k : Int)))) = i3 (-1))) (nn g) 0 = none
noncomputable def ownF (g : Gd) (n : Nat) (m : Int32) : Int32 := if own g n (i3 0) then if own g n (i3 1) then m + i3 1 + i3 1 else m + i3 1 else if own g n (i3 1) then m + i3 1 else m
noncomputable def owns (g : Gd) : Int32 := itr (ownF g) 4 (i3 0)
noncomputable def sodF (g : Gd) (c : Int32) (k : Nat) (m : Int32) : Int32 := m + dst g (cA g (i3 (k : Int))) c
noncomputable def sod (g : Gd) (c : Int32) : Int32 := itr (sodF g c) (nn g) (i3 0)
noncomputable def midF (g : Gd) (k : Nat) (m : Int32) : Int32 := if sod g m ≤ sod g (i3 (k : Int)) then m else i3 (k : Int)
noncomputable def mid (g : Gd) : Int32 := fB 1 (dn g * dn g) (midF g) (i3 0)
noncomputable def nprF (g : Gd) (i j : Nat) (a : Int32 × Int32) : Int32 × Int32 := if a.1 = i3 (-1) then (dst g (cA g (i3 (i : Int))) (cA g (i3 (j : Int))), i3 100 * i3 (i : Int) + i3 (j : Int)) else if a.1 ≤ dst g (cA g (i3 (i : Int))) (cA g (i3 (j : Int))) then a else (dst g (cA g (i3 (i : Int))) (cA g (i3 (j : Int))), i3 100 * i3 (i : Int) + i3 (j : Int))
noncomputable def nprI (g : Gd) (i : Nat) (a : Int32 × Int32) : Int32 × Int32 := fB (i + 1) (nn g) (nprF g i) a
noncomputable def npr (g : Gd) : Int32 × Int32 := itr (nprI g) (nn g) (i3 (-1), i3 (-1))
noncomputable def garF (g : Gd) (i j k : Nat) (m : Int32) : Int32 := mxI m (abI (dar g (cA g (i3 (i : Int))) (cA g (i3 (j : Int))) (cA g (i3 (k : Int)))))
noncomputable def garJ (g : Gd) (i j : Nat) (m : Int32) : Int32 := fB (j + 1) (nn g) (garF g i j) m
noncomputable def garI (g : Gd) (i : Nat) (m : Int32) : Int32 := fB (i + 1) (nn g) (garJ g i) m
noncomputable def gar (g : Gd) : Int32 := itr (garI g) (nn g) (i3 0)
abbrev tkn (g : Gd) (r c : Int32) : Prop := ¬ cellO g r c = i3 (-1) ∧ ¬ tIn g (cellO g r c) = i3 (-1)
abbrev eos (g : Gd) (a b : Int32) : Prop := tkn g (rO g a - (cO g b - cO g a)) (cO g a + (rO g b - rO g a)) ∧ tkn g (rO g b - (cO g b - cO g a)) (cO g b + (rO g b - rO g a))
noncomputable def csqF (g : Gd) (i j : Nat) (m : Int32) : Int32 := if i3 (i : Int) = i3 (j : Int) then m else if eos g (cA g (i3 (i : Int))) (cA g (i3 (j : Int))) then m + i3 1 else m
noncomputable def csqI (g : Gd) (i : Nat) (m : Int32) : Int32 := itr (csqF g i) (nn g) m
noncomputable def csq (g : Gd) : Int32 := itr (csqI g) (nn g) (i3 0)
abbrev ooh (g : Gd) (x a b c : Int32) : Prop := (¬ dar g a b x < 0 ∧ ¬ dar g b c x < 0 ∧ ¬ dar g c a x < 0) ∨ (¬ 0 < dar g a b x ∧ ¬ 0 < dar g b c x ∧ ¬ 0 < dar g c a x)
abbrev itq (g : Gd) (t a b : Int32) (k : Nat) : Prop := ¬ i3 (k : Int) = t ∧ ¬ dar g (cA g a) (cA g b) (cA g (i3 (k : Int))) = 0 ∧ ooh g (cA g t) (cA g a) (cA g b) (cA g (i3 (k : Int)))
abbrev ito (g : Gd) (t a : Int32) (b : Nat) : Prop := ¬ t = a ∧ ¬ t = i3 (b : Int) ∧ ¬ fst? (fun k => decide (itq g t a (i3 (b : Int)) k)) (nn g - (b + 1)) (b + 1) = none
abbrev icq (g : Gd) (t : Int32) (a b : Nat) : Prop := btw g (cA g t) (cA g (i3 (a : Int))) (cA g (i3 (b : Int))) ∨ ito g t (i3 (a : Int)) b
abbrev icr (g : Gd) (t : Int32) (a : Nat) : Prop := ¬ fst? (fun b => decide (icq g t a b)) (nn g - (a + 1)) (a + 1) = none
abbrev crn (g : Gd) (t : Int32) : Prop := fst? (fun a => decide (icr g t a)) (nn g) 0 = none
theorem mat_bP {p : Nat → Bool} {n l : Nat} : (match fst? p n l with | some _ => some (i3 0) | none => some (i3 1)) = some (bP (fst? p n l = none)) := by
  unfold bP
  cases fst? p n l <;> simp
theorem mat_bN {p : Nat → Bool} {n l : Nat} : (match fst? p n l with | some _ => some (i3 1) | none => some (i3 0)) = some (bP (¬ fst? p n l = none)) := by
  unfold bP
  cases fst? p n l <;> simp
section SI
variable {s : St} {o : Nat}
theorem q_144 (ho : isG o) (h : ok (gd s o)) {a b : Int32} (ha : isT (gd s o) a) (hb : isT (gd s o) b) (c : Int32) : m_144 o a b c (H s) = some (bP (¬ dst (gd s o) (cA (gd s o) b) c ≤ dst (gd s o) (cA (gd s o) a) c)) := by
  unfold m_144
  simp only [r_G ho, h.at_c ha, h.at_c hb, q_77 ho h, Option.bind_some, jn, cst, bP_if, rB_0, rB_1, z00, z10, ↓reduceIte]
  unfold bP
  ((repeat' split) <;> (first | rfl | (exfalso; simp_all only [isT, isCl, isW, st3, btw, kOf, not_true_eq_false, not_false_eq_true, and_true, true_and, and_self, and_false, false_and, or_true, true_or, or_false, false_or, not_and]; done) | grind))
theorem hidF_T {g : Gd} (h : ok g) {t c : Int32} {k : Nat} (hk : k < nn g) {m : Int32} (hm : m = i3 (-1) ∨ isT g m) : hidF g t c k m = i3 (-1) ∨ isT g (hidF g t c k m) := by
  unfold hidF
  repeat' split
  all_goals first | exact hm | exact Or.inr (h.T hk)
theorem q_143 (ho : isG o) (h : ok (gd s o)) {t : Int32} (ht : isT (gd s o) t) (c : Int32) : m_143 o t c (H s) = some (hid (gd s o) t c) := by
  unfold m_143
  simp only [r_G ho, Option.bind_some, jn, cst, bP_if, rB_0, rB_1, z00, z10, ↓reduceIte]
  refine (lp0 (nn (gd s o)) (by have := h.n_le; omega) (fun t a => (a, t)) (fun a => a) (hidF (gd s o) t c) (fun m => m = i3 (-1) ∨ isT (gd s o) m) (i3 (-1)) ?_ (fun k m hk hm => hidF_T h hk hm) ?_ (Or.inl rfl)).trans rfl
  · intro k m nx ex hk hm
    simp only [(h.T hk).2, q_85 ho h (h.T hk), h.at_c (h.T hk), h.at_c ht, q_80 ho h, Option.bind_some, jn, cst, bP_if, rB_0, rB_1, z00, z10, ↓reduceIte]
    unfold hidF
    by_cases c1 : kOf (kA (gd s o) (i3 (k : Int))) (i3 2)
    · rw [if_pos c1, if_pos c1]
    rw [if_neg c1, if_neg c1]
    by_cases c2 : btw (gd s o) (cA (gd s o) (i3 (k : Int))) (cA (gd s o) t) c
    · rw [if_pos c2, if_pos c2]
      by_cases c3 : m = i3 (-1)
      · rw [if_pos c3, if_pos c3]
      · rw [if_neg c3, if_neg c3]
        have hm' : isT (gd s o) m := hm.elim (fun e => absurd e c3) id
        simp only [q_144 ho h (h.T hk) hm' c, Option.bind_some, jn, cst, bP_if, rB_0, rB_1, z00, z10, ↓reduceIte]
        ((repeat' split) <;> (first | rfl | (exfalso; simp_all only [isT, isCl, isW, st3, btw, kOf, not_true_eq_false, not_false_eq_true, and_true, true_and, and_self, and_false, false_and, or_true, true_or, or_false, false_or, not_and]; done) | grind))
    · rw [if_neg c2, if_neg c2]
  · intro a nx ex _
    simp only [h.Te (Nat.le_refl _) (by have := h.n_le; omega), Option.bind_some, jn, cst, bP_if, rB_0, rB_1, z00, z10, ↓reduceIte]
theorem q_145 (ho : isG o) (h : ok (gd s o)) {t : Int32} (ht : isT (gd s o) t) (c : Int32) : m_145 o t c (H s) = some (bP (sen (gd s o) t c)) := by
  unfold m_145
  simp only [r_G ho, h.at_c ht, q_143 ho h ht, Option.bind_some, jn, cst, bP_if, rB_0, rB_1, z00, z10, ↓reduceIte]
  unfold bP sen
  ((repeat' split) <;> (first | rfl | (exfalso; simp_all only [isT, isCl, isW, st3, btw, kOf, not_true_eq_false, not_false_eq_true, and_true, true_and, and_self, and_false, false_and, or_true, true_or, or_false, false_or, not_and]; done) | grind))
theorem q_146 (ho : isG o) (h : ok (gd s o)) (c : Int32) : m_146 o c (H s) = some (vw (gd s o) c) := by
  unfold m_146
  simp only [r_G ho, Option.bind_some, jn, cst, bP_if, rB_0, rB_1, z00, z10, ↓reduceIte]
  refine (lp0 (nn (gd s o)) (by have := h.n_le; omega) (fun t a => (a, t)) (fun a => a) (vwF (gd s o) c) (fun _ => True) (i3 0) ?_ (fun _ _ _ _ => trivial) ?_ trivial).trans rfl
  · intro k m nx ex hk _
    simp only [(h.T hk).2, q_145 ho h (h.T hk), Option.bind_some, jn, cst, bP_if, rB_0, rB_1, z00, z10, ↓reduceIte]
    unfold vwF bit
    ((repeat' split) <;> (first | rfl | (exfalso; simp_all only [isT, isCl, isW, st3, btw, kOf, not_true_eq_false, not_false_eq_true, and_true, true_and, and_self, and_false, false_and, or_true, true_or, or_false, false_or, not_and]; done) | grind))
  · intro a nx ex _
    simp only [h.Te (Nat.le_refl _) (by have := h.n_le; omega), Option.bind_some, jn, cst, bP_if, rB_0, rB_1, z00, z10, ↓reduceIte]
theorem q_147 (ho : isG o) (h : ok (gd s o)) (c : Int32) : m_147 o c (H s) = some (bP (als (gd s o) c)) := by
  unfold m_147
  simp only [r_G ho, Option.bind_some, jn, cst, bP_if, rB_0, rB_1, z00, z10, ↓reduceIte]
  refine (lpS (nn (gd s o)) (by have := h.n_le; omega) (fun t => t) () (fun k => decide (¬ sen (gd s o) (i3 (k : Int)) c)) (fun _ => some (i3 0)) ?_ ?_).trans mat_bP
  · intro k nx ex hk
    simp only [(h.T hk).2, q_145 ho h (h.T hk), Option.bind_some, jn, cst, bP_if, rB_0, rB_1, z00, z10, ↓reduceIte, decide_eq_true_eq]
    ((repeat' split) <;> (first | rfl | (exfalso; simp_all only [isT, isCl, isW, st3, btw, kOf, not_true_eq_false, not_false_eq_true, and_true, true_and, and_self, and_false, false_and, or_true, true_or, or_false, false_or, not_and]; done) | grind))
  · intro nx ex
    simp only [h.Te (Nat.le_refl _) (by have := h.n_le; omega), Option.bind_some, jn, cst, bP_if, rB_0, rB_1, z00, z10, ↓reduceIte]
theorem q_148 (ho : isG o) (h : ok (gd s o)) {t : Int32} (ht : isT (gd s o) t) : m_148 o t (H s) = some (see (gd s o) t) := by
  unfold m_148
  simp only [r_G ho, Option.bind_some, jn, cst, bP_if, rB_0, rB_1, z00, z10, ↓reduceIte]
  refine (lp0 (nn (gd s o)) (by have := h.n_le; omega) (fun t a => (a, t)) (fun a => a) (seeF (gd s o) t) (fun _ => True) (i3 0) ?_ (fun _ _ _ _ => trivial) ?_ trivial).trans rfl
  · intro k m nx ex hk _
    simp only [(h.T hk).2, h.at_c (h.T hk), q_145 ho h ht, Option.bind_some, jn, cst, bP_if, rB_0, rB_1, z00, z10, ↓reduceIte]
    unfold seeF
    ((repeat' split) <;> (first | rfl | (exfalso; simp_all only [isT, isCl, isW, st3, btw, kOf, not_true_eq_false, not_false_eq_true, and_true, true_and, and_self, and_false, false_and, or_true, true_or, or_false, false_or, not_and]; done) | grind))
  · intro a nx ex _
    simp only [h.Te (Nat.le_refl _) (by have := h.n_le; omega), Option.bind_some, jn, cst, bP_if, rB_0, rB_1, z00, z10, ↓reduceIte]
theorem q_128 (ho : isG o) (h : ok (gd s o)) {t : Int32} (ht : isT (gd s o) t) : m_128 o t (H s) = some (nto (gd s o) t) := by
  unfold m_128
  simp only [r_G ho, Option.bind_some, jn, cst, bP_if, rB_0, rB_1, z00, z10, ↓reduceIte]
  refine (lp0 (nn (gd s o)) (by have := h.n_le; omega) (fun t a => (a, t)) (fun a => a) (ntoF (gd s o) t) (fun _ => True) (i3 0) ?_ (fun _ _ _ _ => trivial) ?_ trivial).trans rfl
  · intro k m nx ex hk _
    simp only [(h.T hk).2, h.at_c (h.T hk), h.at_c ht, q_77 ho h, Option.bind_some, jn, cst, bP_if, rB_0, rB_1, z00, z10, ↓reduceIte]
    unfold ntoF
    ((repeat' split) <;> (first | rfl | (exfalso; simp_all only [isT, isCl, isW, st3, btw, kOf, not_true_eq_false, not_false_eq_true, and_true, true_and, and_self, and_false, false_and, or_true, true_or, or_false, false_or, not_and]; done) | grind))
  · intro a nx ex _
    simp only [h.Te (Nat.le_refl _) (by have := h.n_le; omega), Option.bind_some, jn, cst, bP_if, rB_0, rB_1, z00, z10, ↓reduceIte]
theorem three {w : Int32} (h : ¬ (w < 0 ∨ 2 < w)) (h0 : ¬ w = 0) (h1 : ¬ w = 1) : w = 2 := by
  have a : ¬ w.toInt < 0 := fun e => h (Or.inl (Int32.lt_iff_toInt_lt.mpr e))
  have b : ¬ 2 < w.toInt := fun e => h (Or.inr (Int32.lt_iff_toInt_lt.mpr e))
  have c : ¬ w.toInt = 0 := fun e => h0 (Int32.toInt_inj.mp e)
  have d : ¬ w.toInt = 1 := fun e => h1 (Int32.toInt_inj.mp e)
  exact Int32.toInt_inj.mp (show w.toInt = 2 by omega)
theorem q_133 (ho : isG o) (h : ok (gd s o)) (c w : Int32) : m_133 o c w (H s) = some (lno (gd s o) c w) := by
  unfold m_133
  simp only [r_G ho, q_72 ho h, q_73 ho h, Option.bind_some, jn, cst, bP_if, rB_0, rB_1, z00, z10, ↓reduceIte]
  unfold lno
  by_cases c1 : w < 0 ∨ 2 < w
  · rw [if_pos c1, if_pos c1]
  rw [if_neg c1, if_neg c1]
  by_cases c2 : w = 0
  · rw [if_pos c2, if_pos c2]
  rw [if_neg c2, if_neg c2]
  by_cases c3 : w = 1
  · rw [if_pos c3, if_pos c3]
  rw [if_neg c3, if_neg c3, if_pos (three c1 c2 c3)]
theorem q_132 (ho : isG o) (h : ok (gd s o)) (w : Int32) : m_132 o w (H s) = some (frl (gd s o) w) := by
  unfold m_132
  simp only [r_G ho, Option.bind_some, jn, cst, bP_if, rB_0, rB_1, z00, z10, ↓reduceIte]
  refine (lp0 (nn (gd s o)) (by have := h.n_le; omega) (fun t a => (a, t)) (fun a => a) (frlF (gd s o) w) (fun _ => True) (i3 0) ?_ (fun _ _ _ _ => trivial) ?_ trivial).trans ?_
  · intro k m nx ex hk _
    simp only [(h.T hk).2, h.at_c (h.T hk), q_133 ho h, Option.bind_some, jn, cst, bP_if, rB_0, rB_1, z00, z10, ↓reduceIte]
    rfl
  · intro a nx ex _
    simp only [h.Te (Nat.le_refl _) (by have := h.n_le; omega), Option.bind_some, jn, cst, bP_if, rB_0, rB_1, z00, z10, ↓reduceIte]
  · simp only [q_173, Option.bind_some, jn, cst, bP_if, rB_0, rB_1, z00, z10, ↓reduceIte]
    unfold frl
    ((repeat' split) <;> (first | rfl | (exfalso; simp_all only [isT, isCl, isW, st3, btw, kOf, not_true_eq_false, not_false_eq_true, and_true, true_and, and_self, and_false, false_and, or_true, true_or, or_false, false_or, not_and]; done) | grind))
theorem q_135 (ho : isG o) (h : ok (gd s o)) {n : Nat} (hn : n < 4) (b : Int32) : m_135 o (i3 (n : Int)) b (H s) = some (bP (own (gd s o) n b)) := by
  unfold m_135
  simp only [r_G ho, Option.bind_some, jn, cst, bP_if, rB_0, rB_1, z00, z10, ↓reduceIte]
  refine (lpS (nn (gd s o)) (by have := h.n_le; omega) (fun t => t) () (fun k => decide (tIn (gd s o) (img (gd s o) n b (cA (gd s o) (i3 (k : Int)))) = i3 (-1))) (fun _ => some (i3 0)) ?_ ?_).trans mat_bP
  · intro k nx ex hk
    simp only [(h.T hk).2, h.at_c (h.T hk), Option.bind_some, jn, cst, bP_if, rB_0, rB_1, z00, z10, ↓reduceIte, decide_eq_true_eq]
    refine (lp0 n (by omega) (fun t c => (c, t)) (fun c => c) (fun _ => trn (gd s o)) (fun _ => True) _ ?_ (fun _ _ _ _ => trivial) ?_ trivial).trans ?_
    · intro j c nx2 ex2 hj _
      have e : ¬ i3 (n : Int) ≤ i3 (j : Int) := by rw [i3n_le (by omega) (by omega)]; omega
      simp only [e, q_75 ho h, Option.bind_some, jn, cst, bP_if, rB_0, rB_1, z00, z10, ↓reduceIte]
    · intro c nx2 ex2 _
      have e : i3 (n : Int) ≤ i3 (n : Int) := by rw [i3n_le (by omega) (by omega)]; omega
      simp only [e, Option.bind_some, jn, cst, bP_if, rB_0, rB_1, z00, z10, ↓reduceIte]
    · simp only [q_84 ho h, q_76 ho h, Option.bind_some, jn, cst, bP_if, rB_0, rB_1, z00, z10, ↓reduceIte]
      unfold img
      ((repeat' split) <;> (first | rfl | (exfalso; simp_all only [isT, isCl, isW, st3, btw, kOf, not_true_eq_false, not_false_eq_true, and_true, true_and, and_self, and_false, false_and, or_true, true_or, or_false, false_or, not_and]; done) | grind))
  · intro nx ex
    simp only [h.Te (Nat.le_refl _) (by have := h.n_le; omega), Option.bind_some, jn, cst, bP_if, rB_0, rB_1, z00, z10, ↓reduceIte]
theorem q_134 (ho : isG o) (h : ok (gd s o)) : m_134 o (H s) = some (owns (gd s o)) := by
  unfold m_134
  simp only [Option.bind_some, jn, cst, bP_if, rB_0, rB_1, z00, z10, ↓reduceIte]
  refine (lp0 4 (by omega) (fun t a => (a, t)) (fun a => a) (ownF (gd s o)) (fun _ => True) (i3 0) ?_ (fun _ _ _ _ => trivial) ?_ trivial).trans rfl
  · intro k m nx ex hk _
    have e : ¬ Int32.ofInt 4 ≤ i3 (k : Int) := by
      show ¬ i3 ((4 : Nat) : Int) ≤ i3 (k : Int)
      rw [i3n_le (by omega) (by omega)]; omega
    simp only [e, q_135 ho h hk, Option.bind_some, jn, cst, bP_if, rB_0, rB_1, z00, z10, ↓reduceIte]
    unfold ownF
    ((repeat' split) <;> (first | rfl | (exfalso; simp_all only [isT, isCl, isW, st3, btw, kOf, not_true_eq_false, not_false_eq_true, and_true, true_and, and_self, and_false, false_and, or_true, true_or, or_false, false_or, not_and]; done) | grind))
  · intro a nx ex _
    have e : Int32.ofInt 4 ≤ i3 ((4 : Nat) : Int) := by decide +kernel
    simp only [e, Option.bind_some, jn, cst, bP_if, rB_0, rB_1, z00, z10, ↓reduceIte]
theorem q_131 (ho : isG o) (h : ok (gd s o)) (c : Int32) : m_131 o c (H s) = some (sod (gd s o) c) := by
  unfold m_131
  simp only [r_G ho, Option.bind_some, jn, cst, bP_if, rB_0, rB_1, z00, z10, ↓reduceIte]
  refine (lp0 (nn (gd s o)) (by have := h.n_le; omega) (fun t a => (a, t)) (fun a => a) (sodF (gd s o) c) (fun _ => True) (i3 0) ?_ (fun _ _ _ _ => trivial) ?_ trivial).trans rfl
  · intro k m nx ex hk _
    simp only [(h.T hk).2, h.at_c (h.T hk), q_77 ho h, Option.bind_some, jn, cst, bP_if, rB_0, rB_1, z00, z10, ↓reduceIte]
    rfl
  · intro a nx ex _
    simp only [h.Te (Nat.le_refl _) (by have := h.n_le; omega), Option.bind_some, jn, cst, bP_if, rB_0, rB_1, z00, z10, ↓reduceIte]
theorem q_130 (ho : isG o) (h : ok (gd s o)) : m_130 o (H s) = some (mid (gd s o)) := by
  have hcc := h.cc_le
  unfold m_130
  simp only [q_70 ho, q_131 ho h, Option.bind_some, jn, cst, bP_if, rB_0, rB_1, z00, z10, ↓reduceIte]
  refine (lpB 1 (dn (gd s o) * dn (gd s o)) (by omega) (by omega) (fun t a => (a, t)) (fun a => a) (midF (gd s o)) (fun _ => True) (i3 0) ?_ (fun _ _ _ _ _ => trivial) ?_ trivial).trans rfl
  · intro k m nx ex _ hk _
    simp only [(h.C hk).2, Option.bind_some, jn, cst, bP_if, rB_0, rB_1, z00, z10, ↓reduceIte]
    unfold midF
    ((repeat' split) <;> (first | rfl | (exfalso; simp_all only [isT, isCl, isW, st3, btw, kOf, not_true_eq_false, not_false_eq_true, and_true, true_and, and_self, and_false, false_and, or_true, true_or, or_false, false_or, not_and]; done) | grind))
  · intro k a nx ex hk hk2 _
    simp only [h.Ce hk hk2, Option.bind_some, jn, cst, bP_if, rB_0, rB_1, z00, z10, ↓reduceIte]
theorem q_129 (ho : isG o) (h : ok (gd s o)) : m_129 o (H s) = some (npr (gd s o)).2 := by
  have hn := h.n_le
  unfold m_129
  simp only [r_G ho, Option.bind_some, jn, cst, bP_if, rB_0, rB_1, z00, z10, ↓reduceIte]
  refine (lp0 (nn (gd s o)) (by have := h.n_le; omega) (fun t (a : Int32 × Int32) => (a.1, a.2, t)) (fun a => a.2) (nprI (gd s o)) (fun _ => True) (i3 (-1), i3 (-1)) ?_ (fun _ _ _ _ => trivial) ?_ trivial).trans rfl
  · intro k m nx ex hk _
    simp only [(h.T hk).2, h.at_c (h.T hk), i3_nat_add, Option.bind_some, jn, cst, bP_if, rB_0, rB_1, z00, z10, ↓reduceIte]
    refine (lpB (k + 1) (nn (gd s o)) (by omega) (by omega) (fun t (a : Int32 × Int32) => (a.1, a.2, t)) (fun a => a) (nprF (gd s o) k) (fun _ => True) m ?_ (fun _ _ _ _ _ => trivial) ?_ trivial).trans rfl
    · intro j a nx2 ex2 _ hj _
      simp only [(h.T hj).2, h.at_c (h.T hj), q_77 ho h, Option.bind_some, jn, cst, bP_if, rB_0, rB_1, z00, z10, ↓reduceIte]
      unfold nprF
      ((repeat' split) <;> (first | rfl | (exfalso; simp_all only [isT, isCl, isW, st3, btw, kOf, not_true_eq_false, not_false_eq_true, and_true, true_and, and_self, and_false, false_and, or_true, true_or, or_false, false_or, not_and]; done) | grind))
    · intro j a nx2 ex2 hj hj2 _
      simp only [h.Te hj hj2, Option.bind_some, jn, cst, bP_if, rB_0, rB_1, z00, z10, ↓reduceIte]
  · intro a nx ex _
    simp only [h.Te (Nat.le_refl _) (by have := h.n_le; omega), Option.bind_some, jn, cst, bP_if, rB_0, rB_1, z00, z10, ↓reduceIte]
theorem q_136 (ho : isG o) (h : ok (gd s o)) : m_136 o (H s) = some (gar (gd s o)) := by
  have hn := h.n_le
  unfold m_136
  simp only [r_G ho, Option.bind_some, jn, cst, bP_if, rB_0, rB_1, z00, z10, ↓reduceIte]
  refine (lp0 (nn (gd s o)) (by have := h.n_le; omega) (fun t a => (a, t)) (fun a => a) (garI (gd s o)) (fun _ => True) (i3 0) ?_ (fun _ _ _ _ => trivial) ?_ trivial).trans rfl
  · intro k m nx ex hk _
    simp only [(h.T hk).2, h.at_c (h.T hk), i3_nat_add, Option.bind_some, jn, cst, bP_if, rB_0, rB_1, z00, z10, ↓reduceIte]
    refine (lpB (k + 1) (nn (gd s o)) (by omega) (by omega) (fun t a => (a, t)) (fun a => a) (garJ (gd s o) k) (fun _ => True) m ?_ (fun _ _ _ _ _ => trivial) ?_ trivial).trans rfl
    · intro j a nx2 ex2 _ hj _
      simp only [(h.T hj).2, h.at_c (h.T hj), i3_nat_add, Option.bind_some, jn, cst, bP_if, rB_0, rB_1, z00, z10, ↓reduceIte]
      refine (lpB (j + 1) (nn (gd s o)) (by omega) (by omega) (fun t a => (a, t)) (fun a => a) (garF (gd s o) k j) (fun _ => True) a ?_ (fun _ _ _ _ _ => trivial) ?_ trivial).trans rfl
      · intro i b nx3 ex3 _ hi _
        simp only [(h.T hi).2, h.at_c (h.T hi), q_79 ho h, Option.bind_some, jn, cst, bP_if, rB_0, rB_1, z00, z10, ↓reduceIte]
        rfl
      · intro i b nx3 ex3 hi hi2 _
        simp only [h.Te hi hi2, Option.bind_some, jn, cst, bP_if, rB_0, rB_1, z00, z10, ↓reduceIte]
    · intro j a nx2 ex2 hj hj2 _
      simp only [h.Te hj hj2, Option.bind_some, jn, cst, bP_if, rB_0, rB_1, z00, z10, ↓reduceIte]
  · intro a nx ex _
    simp only [h.Te (Nat.le_refl _) (by have := h.n_le; omega), Option.bind_some, jn, cst, bP_if, rB_0, rB_1, z00, z10, ↓reduceIte]
theorem q_139 (ho : isG o) (h : ok (gd s o)) (r c : Int32) : m_139 o r c (H s) = some (bP (tkn (gd s o) r c)) := by
  unfold m_139
  simp only [q_74 ho, q_84 ho h, Option.bind_some, jn, cst, bP_if, rB_0, rB_1, z00, z10, ↓reduceIte]
  unfold bP tkn
  ((repeat' split) <;> (first | rfl | (exfalso; simp_all only [isT, isCl, isW, st3, btw, kOf, not_true_eq_false, not_false_eq_true, and_true, true_and, and_self, and_false, false_and, or_true, true_or, or_false, false_or, not_and]; done) | grind))
theorem q_138 (ho : isG o) (h : ok (gd s o)) (a b : Int32) : m_138 o a b (H s) = some (bP (eos (gd s o) a b)) := by
  unfold m_138
  simp only [q_72 ho h, q_73 ho h, q_139 ho h, Option.bind_some, jn, cst, bP_if, rB_0, rB_1, z00, z10, ↓reduceIte]
  unfold bP eos
  by_cases c1 : tkn (gd s o) (rO (gd s o) a - (cO (gd s o) b - cO (gd s o) a)) (cO (gd s o) a + (rO (gd s o) b - rO (gd s o) a))
  · rw [if_pos c1]
    by_cases c2 : tkn (gd s o) (rO (gd s o) b - (cO (gd s o) b - cO (gd s o) a)) (cO (gd s o) b + (rO (gd s o) b - rO (gd s o) a))
    · rw [if_pos c2, if_pos ⟨c1, c2⟩]
    · rw [if_neg c2, if_neg (fun e => c2 e.2)]
  · rw [if_neg c1, if_neg (fun e => c1 e.1)]
theorem q_137 (ho : isG o) (h : ok (gd s o)) : m_137 o (H s) = some (csq (gd s o) / i3 4) := by
  unfold m_137
  simp only [r_G ho, Option.bind_some, jn, cst, bP_if, rB_0, rB_1, z00, z10, ↓reduceIte]
  refine (lp0 (nn (gd s o)) (by have := h.n_le; omega) (fun t a => (a, t)) (fun a => a) (csqI (gd s o)) (fun _ => True) (i3 0) ?_ (fun _ _ _ _ => trivial) ?_ trivial).trans ?_
  · intro k m nx ex hk _
    simp only [(h.T hk).2, h.at_c (h.T hk), Option.bind_some, jn, cst, bP_if, rB_0, rB_1, z00, z10, ↓reduceIte]
    refine (lp0 (nn (gd s o)) (by have := h.n_le; omega) (fun t a => (a, t)) (fun a => a) (csqF (gd s o) k) (fun _ => True) m ?_ (fun _ _ _ _ => trivial) ?_ trivial).trans rfl
    · intro j a nx2 ex2 hj _
      simp only [(h.T hj).2, h.at_c (h.T hj), q_138 ho h, Option.bind_some, jn, cst, bP_if, rB_0, rB_1, z00, z10, ↓reduceIte]
      unfold csqF
      ((repeat' split) <;> (first | rfl | (exfalso; simp_all only [isT, isCl, isW, st3, btw, kOf, not_true_eq_false, not_false_eq_true, and_true, true_and, and_self, and_false, false_and, or_true, true_or, or_false, false_or, not_and]; done) | grind))
    · intro a nx2 ex2 _
      simp only [h.Te (Nat.le_refl _) (by have := h.n_le; omega), Option.bind_some, jn, cst, bP_if, rB_0, rB_1, z00, z10, ↓reduceIte]
  · intro a nx ex _
    simp only [h.Te (Nat.le_refl _) (by have := h.n_le; omega), Option.bind_some, jn, cst, bP_if, rB_0, rB_1, z00, z10, ↓reduceIte]
  · have e : ¬ Int32.ofInt 4 = 0 := by decide +kernel
    simp only [dvI, e, Option.bind_some, jn, cst, bP_if, rB_0, rB_1, z00, z10, ↓reduceIte]
    rfl
theorem q_142 (ho : isG o) (h : ok (gd s o)) (x a b c : Int32) : m_142 o x a b c (H s) = some (bP (ooh (gd s o) x a b c)) := by
  unfold m_142
  simp only [q_79 ho h, Option.bind_some, jn, cst, bP_if, rB_0, rB_1, z00, z10, ↓reduceIte]
  unfold bP ooh
  by_cases c1 : dar (gd s o) a b x < 0 <;> by_cases c2 : dar (gd s o) b c x < 0 <;> by_cases c3 : dar (gd s o) c a x < 0 <;> by_cases d1 : 0 < dar (gd s o) a b x <;> by_cases d2 : 0 < dar (gd s o) b c x <;> by_cases d3 : 0 < dar (gd s o) c a x <;> simp only [c1, c2, c3, d1, d2, d3, z00, z10, ↓reduceIte, not_true_eq_false, not_false_eq_true, and_true, true_and, and_self, and_false, false_and, or_true, true_or, or_false, false_or, rB_0, rB_1]
theorem q_141 (ho : isG o) (h : ok (gd s o)) {t a : Int32} {b : Nat} (ht : isT (gd s o) t) (ha : isT (gd s o) a) (hb : b < nn (gd s o)) : m_141 o t a (i3 (b : Int)) (H s) = some (bP (ito (gd s o) t a b)) := by
  have hn := h.n_le
  unfold m_141
  simp only [r_G ho, Option.bind_some, jn, cst, bP_if, rB_0, rB_1, z00, z10, ↓reduceIte]
  by_cases c1 : t = a
  · rw [if_pos c1, bP_f (fun e => e.1 c1)]
  rw [if_neg c1]
  by_cases c2 : t = i3 (b : Int)
  · rw [if_pos c2, bP_f (fun e => e.2.1 c2)]
  rw [if_neg c2]
  simp only [i3_nat_add]
  refine (lpL (b + 1) (nn (gd s o)) (by omega) (by omega) (fun t => t) () (fun k => decide (itq (gd s o) t a (i3 (b : Int)) k)) (fun _ => some (i3 1)) ?_ ?_).trans ?_
  · intro k nx ex _ hk
    simp only [(h.T hk).2, h.at_c (h.T hk), h.at_c (h.T hb), h.at_c ht, h.at_c ha, q_79 ho h, q_142 ho h, Option.bind_some, jn, cst, bP_if, rB_0, rB_1, z00, z10, ↓reduceIte, decide_eq_true_eq]
    unfold itq
    by_cases d1 : i3 (k : Int) = t
    · rw [if_pos d1, if_neg (fun e => e.1 d1)]
    rw [if_neg d1]
    by_cases d2 : dar (gd s o) (cA (gd s o) a) (cA (gd s o) (i3 (b : Int))) (cA (gd s o) (i3 (k : Int))) = 0
    · rw [if_pos d2, if_neg (fun e => e.2.1 d2)]
    rw [if_neg d2]
    by_cases d3 : ooh (gd s o) (cA (gd s o) t) (cA (gd s o) a) (cA (gd s o) (i3 (b : Int))) (cA (gd s o) (i3 (k : Int)))
    · rw [if_pos d3, if_pos ⟨d1, d2, d3⟩]
    · rw [if_neg d3, if_neg (fun e => d3 e.2.2)]
  · intro k nx ex hk hk2
    simp only [h.Te hk hk2, Option.bind_some, jn, cst, bP_if, rB_0, rB_1, z00, z10, ↓reduceIte]
  · refine mat_bN.trans ?_
    unfold bP ito
    simp only [c1, c2, not_false_eq_true, true_and]
theorem q_140 (ho : isG o) (h : ok (gd s o)) {t : Int32} (ht : isT (gd s o) t) : m_140 o t (H s) = some (bP (crn (gd s o) t)) := by
  have hn := h.n_le
  unfold m_140
  simp only [r_G ho, h.at_c ht, Option.bind_some, jn, cst, bP_if, rB_0, rB_1, z00, z10, ↓reduceIte]
  refine (lpS (nn (gd s o)) (by have := h.n_le; omega) (fun t => t) () (fun a => decide (icr (gd s o) t a)) (fun _ => some (i3 0)) ?_ ?_).trans mat_bP
  · intro a nx ex ha
    simp only [(h.T ha).2, h.at_c (h.T ha), i3_nat_add, Option.bind_some, jn, cst, bP_if, rB_0, rB_1, z00, z10, ↓reduceIte, decide_eq_true_eq]
    refine (lpL (a + 1) (nn (gd s o)) (by omega) (by omega) (fun t => t) () (fun b => decide (icq (gd s o) t a b)) (fun _ => some (i3 0)) ?_ ?_).trans ?_
    · intro b nx2 ex2 _ hb
      simp only [(h.T hb).2, h.at_c (h.T hb), q_80 ho h, q_141 ho h ht (h.T ha) hb, Option.bind_some, jn, cst, bP_if, rB_0, rB_1, z00, z10, ↓reduceIte, decide_eq_true_eq]
      unfold icq
      by_cases d1 : btw (gd s o) (cA (gd s o) t) (cA (gd s o) (i3 (a : Int))) (cA (gd s o) (i3 (b : Int)))
      · rw [if_pos d1, if_pos (Or.inl d1)]
      rw [if_neg d1]
      by_cases d2 : ito (gd s o) t (i3 (a : Int)) b
      · rw [if_pos d2, if_pos (Or.inr d2)]
      · rw [if_neg d2, if_neg (fun e => e.elim d1 d2)]
    · intro b nx2 ex2 hb hb2
      simp only [h.Te hb hb2, Option.bind_some, jn, cst, bP_if, rB_0, rB_1, z00, z10, ↓reduceIte]
    · unfold icr
      cases fst? (fun b => decide (icq (gd s o) t a b)) (nn (gd s o) - (a + 1)) (a + 1) <;> simp
  · intro nx ex
    simp only [h.Te (Nat.le_refl _) (by have := h.n_le; omega), Option.bind_some, jn, cst, bP_if, rB_0, rB_1, z00, z10, ↓reduceIte]
end SI
