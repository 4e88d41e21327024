/-! ===== the class's garden ===== -/
theorem z00 : (Int32.ofInt 0 = 0) = True := eq_true (by decide +kernel)
theorem z10 : (Int32.ofInt 1 = 0) = False := eq_false (by decide +kernel)
theorem bP2 {A B : Prop} [Decidable A] [Decidable B] : (if A then some (i3 0) else if B then some (i3 0) else some (i3 1)) = some (bP (¬ A ∧ ¬ B)) := by
  unfold bP
  by_cases a : A <;> by_cases b : B <;> simp [a, b]
noncomputable def rO (g : Gd) (c : Int32) : Int32 := c / sD g
noncomputable def cO (g : Gd) (c : Int32) : Int32 := c - c / sD g * sD g
noncomputable def cellO (g : Gd) (r c : Int32) : Int32 := if r < 0 then i3 (-1) else if sD g ≤ r then i3 (-1) else if c < 0 then i3 (-1) else if sD g ≤ c then i3 (-1) else r * sD g + c
noncomputable def trn (g : Gd) (c : Int32) : Int32 := cellO g (cO g c) (sD g - i3 1 - rO g c)
noncomputable def mir (g : Gd) (c : Int32) : Int32 := cellO g (rO g c) (sD g - i3 1 - cO g c)
noncomputable def dst (g : Gd) (a b : Int32) : Int32 := abI (rO g a - rO g b) + abI (cO g a - cO g b)
noncomputable def sqr (g : Gd) (a b : Int32) : Int32 := (rO g a - rO g b) * (rO g a - rO g b) + (cO g a - cO g b) * (cO g a - cO g b)
noncomputable def dar (g : Gd) (a b c : Int32) : Int32 := (rO g b - rO g a) * (cO g c - cO g a) - (cO g b - cO g a) * (rO g c - rO g a)
abbrev btw (g : Gd) (x a b : Int32) : Prop := dar g x a b = 0 ∧ ¬ 0 ≤ (rO g a - rO g x) * (rO g b - rO g x) + (cO g a - cO g x) * (cO g b - cO g x)
noncomputable def oI (x : Option Nat) : Int32 := match x with
  | some t => i3 (t : Int)
  | none => i3 (-1)
noncomputable def tIn (g : Gd) (c : Int32) : Int32 := oI (fst? (fun k => decide (cA g (i3 (k : Int)) = c)) (nn g) 0)
abbrev kOf (own k : Int32) : Prop := own = k ∨ k = 0 ∨ (own = i3 3 ∧ k = i3 1) ∨ (own = i3 5 ∧ k = i3 2)
noncomputable def bit (t : Int32) : Int32 := i3 1 <<< (t &&& 31)
noncomputable def rowF (g : Gd) (a b : Int32) (k : Nat) (m : Int32) : Int32 := if kOf (kA g (i3 (k : Int))) (i3 4) then m else if dar g (cA g a) (cA g b) (cA g (i3 (k : Int))) = 0 then m ||| bit (i3 (k : Int)) else m
noncomputable def rowS (g : Gd) (a b : Int32) : Int32 := itr (rowF g a b) (nn g) (i3 0)
abbrev inR (g : Gd) (m : Int32) : Prop := isT g (ntz m) ∧ isT g (ntz (m &&& (m - i3 1))) ∧ (m &&& (rowS g (ntz m) (ntz (m &&& (m - i3 1))) ^^^ i3 (-1))) = 0
noncomputable def cntF (g : Gd) (q : Int32) (k : Nat) (m : Int32) : Int32 := if kOf (kA g (i3 (k : Int))) q then m + i3 1 else m
noncomputable def cnt (g : Gd) (q : Int32) : Int32 := itr (cntF g q) (nn g) (i3 0)
noncomputable def wwF (g : Gd) (t : Int32) (k : Nat) (m : Int32) : Int32 := if (wA g (i3 (k : Int)) &&& bit t) = 0 then m else m + i3 1
noncomputable def ww (g : Gd) (t : Int32) : Int32 := itr (wwF g t) (wn g) (i3 0)
noncomputable def wmF (g : Gd) (k : Nat) (m : Int32) : Int32 := if inR g (wA g (i3 (k : Int))) then m + i3 1 else m
noncomputable def wm (g : Gd) : Int32 := itr (wmF g) (wn g) (i3 0)
section CG
variable {s : St} {o : Nat}
theorem q_65 (x : Int32) (th : tH) : m_65 x th = some (ntz x) := by
  unfold m_65
  rw [q_172]; rfl
theorem q_66 (x : Int32) (th : tH) : m_66 x th = some (ntz (x &&& (x - i3 1))) := by
  unfold m_66
  rw [q_172]; rfl
theorem q_70 (ho : isG o) : m_70 o (H s) = some (cc (gd s o)) := by
  unfold m_70
  simp only [r_G ho, Option.bind_some, jn, cst, bP_if, rB_0, rB_1, z00, z10, ↓reduceIte]
  rfl
theorem q_71 (ho : isG o) (c : Int32) : m_71 o c (H s) = some (bP (isCl (gd s o) c)) := by
  unfold m_71
  simp only [r_G ho, Option.bind_some, jn, cst, bP_if, rB_0, rB_1, z00, z10, ↓reduceIte, q_70 ho]
  exact bP2
theorem q_72 (ho : isG o) (h : ok (gd s o)) (c : Int32) : m_72 o c (H s) = some (rO (gd s o) c) := by
  unfold m_72
  simp only [r_G ho, Option.bind_some, jn, cst, bP_if, rB_0, rB_1, z00, z10, ↓reduceIte, dvI, h.d_1, h.d_0]
  rfl
theorem q_73 (ho : isG o) (h : ok (gd s o)) (c : Int32) : m_73 o c (H s) = some (cO (gd s o) c) := by
  unfold m_73
  simp only [r_G ho, Option.bind_some, jn, cst, bP_if, rB_0, rB_1, z00, z10, ↓reduceIte, rmI, h.d_1, h.d_0]
  rfl
theorem q_74 (ho : isG o) (r c : Int32) : m_74 o r c (H s) = some (cellO (gd s o) r c) := by
  unfold m_74
  simp only [r_G ho, Option.bind_some, jn, cst, bP_if, rB_0, rB_1, z00, z10, ↓reduceIte]
  unfold cellO
  ((repeat' split) <;> (first | rfl | (exfalso; simp_all only [isT, isCl, isW, st3, btw, kOf, not_true_eq_false, not_false_eq_true, and_true, true_and, and_self, and_false, false_and, or_true, true_or, or_false, false_or, not_and]; done) | grind))
theorem q_75 (ho : isG o) (h : ok (gd s o)) (c : Int32) : m_75 o c (H s) = some (trn (gd s o) c) := by
  unfold m_75
  simp only [r_G ho, Option.bind_some, jn, cst, bP_if, rB_0, rB_1, z00, z10, ↓reduceIte, q_72 ho h, q_73 ho h, q_74 ho]
  rfl
theorem q_76 (ho : isG o) (h : ok (gd s o)) (c : Int32) : m_76 o c (H s) = some (mir (gd s o) c) := by
  unfold m_76
  simp only [r_G ho, Option.bind_some, jn, cst, bP_if, rB_0, rB_1, z00, z10, ↓reduceIte, q_72 ho h, q_73 ho h, q_74 ho]
  rfl
theorem q_77 (ho : isG o) (h : ok (gd s o)) (a b : Int32) : m_77 o a b (H s) = some (dst (gd s o) a b) := by
  unfold m_77
  simp only [r_G ho, Option.bind_some, jn, cst, bP_if, rB_0, rB_1, z00, z10, ↓reduceIte, q_72 ho h, q_73 ho h]
  rfl
theorem q_78 (ho : isG o) (h : ok (gd s o)) (a b : Int32) : m_78 o a b (H s) = some (sqr (gd s o) a b) := by
  unfold m_78
  simp only [r_G ho, Option.bind_some, jn, cst, bP_if, rB_0, rB_1, z00, z10, ↓reduceIte, q_72 ho h, q_73 ho h]
  rfl
theorem q_79 (ho : isG o) (h : ok (gd s o)) (a b c : Int32) : m_79 o a b c (H s) = some (dar (gd s o) a b c) := by
  unfold m_79
  simp only [r_G ho, Option.bind_some, jn, cst, bP_if, rB_0, rB_1, z00, z10, ↓reduceIte, q_72 ho h, q_73 ho h]
  rfl
theorem q_80 (ho : isG o) (h : ok (gd s o)) (a b c : Int32) : m_80 o a b c (H s) = some (bP (btw (gd s o) a b c)) := by
  unfold m_80
  simp only [r_G ho, Option.bind_some, jn, cst, bP_if, rB_0, rB_1, z00, z10, ↓reduceIte, q_72 ho h, q_73 ho h, q_79 ho h]
  unfold bP
  ((repeat' split) <;> (first | rfl | (exfalso; simp_all only [isT, isCl, isW, st3, btw, kOf, not_true_eq_false, not_false_eq_true, and_true, true_and, and_self, and_false, false_and, or_true, true_or, or_false, false_or, not_and]; done) | grind))
theorem q_81 (ho : isG o) (t : Int32) : m_81 o t (H s) = some (bP (isT (gd s o) t)) := by
  unfold m_81
  simp only [r_G ho, Option.bind_some, jn, cst, bP_if, rB_0, rB_1, z00, z10, ↓reduceIte]
  exact bP2
theorem q_82 (ho : isG o) : m_82 o (H s) = some (all (gd s o)) := by
  unfold m_82
  simp only [r_G ho, Option.bind_some, jn, cst, bP_if, rB_0, rB_1, z00, z10, ↓reduceIte]
  rfl
theorem q_83 (ho : isG o) (h : ok (gd s o)) (c : Int32) : m_83 o c (H s) = some (tIn (gd s o) c) := by
  unfold m_83
  simp only [r_G ho, Option.bind_some, jn, cst, bP_if, rB_0, rB_1, z00, z10, ↓reduceIte]
  refine (lpS (nn (gd s o)) (by have := h.n_le; omega) (fun t => t) () (fun k => decide (cA (gd s o) (i3 (k : Int)) = c)) (fun k => some (i3 (k : Int))) ?_ ?_).trans ?_
  · intro k nx ex hk
    simp only [(h.T hk).2, h.at_c (h.T hk), Option.bind_some, jn, cst, bP_if, rB_0, rB_1, z00, z10, ↓reduceIte, decide_eq_true_eq]
  · intro nx ex
    simp only [h.Te (Nat.le_refl _) (by have := h.n_le; omega), Option.bind_some, jn, cst, bP_if, rB_0, rB_1, z00, z10, ↓reduceIte]
  · unfold tIn oI
    cases fst? (fun k => decide (cA (gd s o) (i3 (k : Int)) = c)) (nn (gd s o)) 0 <;> rfl
theorem q_84 (ho : isG o) (h : ok (gd s o)) (c : Int32) : m_84 o c (H s) = some (bP (tIn (gd s o) c = i3 (-1))) := by
  unfold m_84
  simp only [r_G ho, Option.bind_some, jn, cst, bP_if, rB_0, rB_1, z00, z10, ↓reduceIte, q_83 ho h]
  unfold bP
  ((repeat' split) <;> (first | rfl | (exfalso; simp_all only [isT, isCl, isW, st3, btw, kOf, not_true_eq_false, not_false_eq_true, and_true, true_and, and_self, and_false, false_and, or_true, true_or, or_false, false_or, not_and]; done) | grind))
theorem q_85 (ho : isG o) (h : ok (gd s o)) {t : Int32} (ht : isT (gd s o) t) (k : Int32) : m_85 o t k (H s) = some (bP (kOf (kA (gd s o) t) k)) := by
  unfold m_85
  simp only [r_G ho, Option.bind_some, jn, cst, bP_if, rB_0, rB_1, z00, z10, ↓reduceIte, h.at_k ht]
  unfold bP
  ((repeat' split) <;> (first | rfl | (exfalso; simp_all only [isT, isCl, isW, st3, btw, kOf, not_true_eq_false, not_false_eq_true, and_true, true_and, and_self, and_false, false_and, or_true, true_or, or_false, false_or, not_and]; done) | grind))
theorem q_86 (ho : isG o) (h : ok (gd s o)) (k : Int32) : m_86 o k (H s) = some (cnt (gd s o) k) := by
  unfold m_86
  simp only [r_G ho, Option.bind_some, jn, cst, bP_if, rB_0, rB_1, z00, z10, ↓reduceIte]
  refine (lp0 (nn (gd s o)) (by have := h.n_le; omega) (fun t a => (a, t)) (fun a => a) (cntF (gd s o) k) (fun _ => True) (i3 0) ?_ (fun _ _ _ _ => trivial) ?_ trivial).trans rfl
  · intro j a nx ex hk _
    simp only [(h.T hk).2, q_85 ho h (h.T hk), Option.bind_some, jn, cst, bP_if, rB_0, rB_1, z00, z10, ↓reduceIte]
    unfold cntF
    ((repeat' split) <;> (first | rfl | (exfalso; simp_all only [isT, isCl, isW, st3, btw, kOf, not_true_eq_false, not_false_eq_true, and_true, true_and, and_self, and_false, false_and, or_true, true_or, or_false, false_or, not_and]; done) | grind))
  · intro a nx ex _
    simp only [h.Te (Nat.le_refl _) (by have := h.n_le; omega), Option.bind_some, jn, cst, bP_if, rB_0, rB_1, z00, z10, ↓reduceIte]
theorem q_87 (ho : isG o) (h : ok (gd s o)) {t : Int32} (ht : isT (gd s o) t) : m_87 o t (H s) = some (bP (¬ kOf (kA (gd s o) t) (i3 1))) := by
  unfold m_87
  simp only [r_G ho, Option.bind_some, jn, cst, bP_if, rB_0, rB_1, z00, z10, ↓reduceIte, q_85 ho h ht]
  unfold bP
  ((repeat' split) <;> (first | rfl | (exfalso; simp_all only [isT, isCl, isW, st3, btw, kOf, not_true_eq_false, not_false_eq_true, and_true, true_and, and_self, and_false, false_and, or_true, true_or, or_false, false_or, not_and]; done) | grind))
theorem q_88 (ho : isG o) : m_88 o (H s) = some (bP (¬ i3 12 ≤ tN (gd s o) ∧ ¬ cc (gd s o) ≤ tN (gd s o))) := by
  unfold m_88
  simp only [r_G ho, Option.bind_some, jn, cst, bP_if, rB_0, rB_1, z00, z10, ↓reduceIte, q_70 ho]
  exact bP2
theorem q_92 (ho : isG o) (h : ok (gd s o)) {a b : Int32} (ha : isT (gd s o) a) (hb : isT (gd s o) b) : m_92 o a b (H s) = some (rowS (gd s o) a b) := by
  unfold m_92
  simp only [r_G ho, Option.bind_some, jn, cst, bP_if, rB_0, rB_1, z00, z10, ↓reduceIte]
  refine (lp0 (nn (gd s o)) (by have := h.n_le; omega) (fun t a => (a, t)) (fun a => a) (rowF (gd s o) a b) (fun _ => True) (i3 0) ?_ (fun _ _ _ _ => trivial) ?_ trivial).trans rfl
  · intro k m nx ex hk _
    simp only [(h.T hk).2, q_85 ho h (h.T hk), h.at_c (h.T hk), h.at_c ha, h.at_c hb, q_79 ho h, Option.bind_some, jn, cst, bP_if, rB_0, rB_1, z00, z10, ↓reduceIte]
    unfold rowF bit
    ((repeat' split) <;> (first | rfl | (exfalso; simp_all only [isT, isCl, isW, st3, btw, kOf, not_true_eq_false, not_false_eq_true, and_true, true_and, and_self, and_false, false_and, or_true, true_or, or_false, false_or, not_and]; done) | grind))
  · intro a nx ex _
    simp only [h.Te (Nat.le_refl _) (by have := h.n_le; omega), Option.bind_some, jn, cst, bP_if, rB_0, rB_1, z00, z10, ↓reduceIte]
theorem q_93 (ho : isG o) (m : Int32) : m_93 o m (H s) = some (bP (st3 (gd s o) m)) := by
  unfold m_93
  simp only [r_G ho, Option.bind_some, jn, cst, bP_if, rB_0, rB_1, z00, z10, ↓reduceIte, q_82 ho, q_173]
  unfold bP
  ((repeat' split) <;> (first | rfl | (exfalso; simp_all only [isT, isCl, isW, st3, btw, kOf, not_true_eq_false, not_false_eq_true, and_true, true_and, and_self, and_false, false_and, or_true, true_or, or_false, false_or, not_and]; done) | grind))
theorem q_94 (ho : isG o) (h : ok (gd s o)) (m : Int32) : m_94 o m (H s) = some (bP (inR (gd s o) m)) := by
  unfold m_94
  simp only [r_G ho, Option.bind_some, jn, cst, bP_if, rB_0, rB_1, z00, z10, ↓reduceIte, q_65, q_66, q_81 ho]
  unfold bP
  by_cases c1 : isT (gd s o) (ntz m)
  · by_cases c2 : isT (gd s o) (ntz (m &&& (m - i3 1)))
    · simp only [if_pos c1, if_pos c2, q_92 ho h c1 c2, Option.bind_some, jn, cst, bP_if, rB_0, rB_1, z00, z10, ↓reduceIte]
      unfold inR
      by_cases c3 : (m &&& (rowS (gd s o) (ntz m) (ntz (m &&& (m - i3 1))) ^^^ i3 (-1))) = 0
      · rw [if_pos c3, if_pos ⟨c1, c2, c3⟩]
      · rw [if_neg c3, if_neg (fun e => c3 e.2.2)]
    · simp only [if_pos c1, if_neg c2, Option.bind_some, jn, cst, bP_if, rB_0, rB_1, z00, z10, ↓reduceIte]
      rw [if_neg (fun e => c2 e.2.1)]
  · simp only [if_neg c1, Option.bind_some, jn, cst, bP_if, rB_0, rB_1, z00, z10, ↓reduceIte]
    rw [if_neg (fun e => c1 e.1)]
theorem q_95 (ho : isG o) (t : Int32) : m_95 o t (H s) = some (bP (isW (gd s o) t)) := by
  unfold m_95
  simp only [r_G ho, Option.bind_some, jn, cst, bP_if, rB_0, rB_1, z00, z10, ↓reduceIte]
  exact bP2
theorem q_97 (ho : isG o) (h : ok (gd s o)) (t : Int32) : m_97 o t (H s) = some (ww (gd s o) t) := by
  unfold m_97
  simp only [r_G ho, Option.bind_some, jn, cst, bP_if, rB_0, rB_1, z00, z10, ↓reduceIte]
  refine (lp0 (wn (gd s o)) (by have := h.w_le; omega) (fun t a => (a, t)) (fun a => a) (wwF (gd s o) t) (fun _ => True) (i3 0) ?_ (fun _ _ _ _ => trivial) ?_ trivial).trans rfl
  · intro k m nx ex hk _
    simp only [(h.W hk).2, h.at_w (h.W hk), Option.bind_some, jn, cst, bP_if, rB_0, rB_1, z00, z10, ↓reduceIte]
    unfold wwF bit
    ((repeat' split) <;> (first | rfl | (exfalso; simp_all only [isT, isCl, isW, st3, btw, kOf, not_true_eq_false, not_false_eq_true, and_true, true_and, and_self, and_false, false_and, or_true, true_or, or_false, false_or, not_and]; done) | grind))
  · intro a nx ex _
    simp only [h.We (Nat.le_refl _) (by have := h.w_le; omega), Option.bind_some, jn, cst, bP_if, rB_0, rB_1, z00, z10, ↓reduceIte]
theorem q_98 (ho : isG o) (h : ok (gd s o)) : m_98 o (H s) = some (wm (gd s o)) := by
  unfold m_98
  simp only [r_G ho, Option.bind_some, jn, cst, bP_if, rB_0, rB_1, z00, z10, ↓reduceIte]
  refine (lp0 (wn (gd s o)) (by have := h.w_le; omega) (fun t a => (a, t)) (fun a => a) (wmF (gd s o)) (fun _ => True) (i3 0) ?_ (fun _ _ _ _ => trivial) ?_ trivial).trans rfl
  · intro k m nx ex hk _
    simp only [(h.W hk).2, h.at_w (h.W hk), q_94 ho h, Option.bind_some, jn, cst, bP_if, rB_0, rB_1, z00, z10, ↓reduceIte]
    unfold wmF
    ((repeat' split) <;> (first | rfl | (exfalso; simp_all only [isT, isCl, isW, st3, btw, kOf, not_true_eq_false, not_false_eq_true, and_true, true_and, and_self, and_false, false_and, or_true, true_or, or_false, false_or, not_and]; done) | grind))
  · intro a nx ex _
    simp only [h.We (Nat.le_refl _) (by have := h.w_le; omega), Option.bind_some, jn, cst, bP_if, rB_0, rB_1, z00, z10, ↓reduceIte]
abbrev fel (g : Gd) : Prop := ¬ tN g ≤ 0 ∧ ww g (tN g - i3 1) = 0
theorem q_90 (ho : isG o) (h : ok (gd s o)) : m_90 o (H s) = some (bP (fel (gd s o))) := by
  unfold m_90
  simp only [r_G ho, Option.bind_some, jn, cst, bP_if, rB_0, rB_1, z00, z10, ↓reduceIte, q_97 ho h]
  unfold bP
  ((repeat' split) <;> (first | rfl | (exfalso; simp_all only [isT, isCl, isW, st3, btw, kOf, not_true_eq_false, not_false_eq_true, and_true, true_and, and_self, and_false, false_and, or_true, true_or, or_false, false_or, not_and]; done) | grind))
noncomputable def nfF (g : Gd) : Nat → Int32 → Int32
  | 0, c => c
  | n + 1, c => if tIn g c = i3 (-1) then c else nfF g n (if cc g ≤ c + i3 1 then i3 0 else c + i3 1)
noncomputable def nxf (g : Gd) (c : Int32) : Int32 := nfF g (dn g * dn g) c
theorem q_100 (ho : isG o) (h : ok (gd s o)) (c : Int32) : m_100 o c (H s) = some (nxf (gd s o) c) := by
  unfold m_100
  simp only [r_G ho, Option.bind_some, jn, cst, bP_if, rB_0, rB_1, z00, z10, ↓reduceIte, q_70 ho, q_84 ho h]
  have key : ∀ (n : Nat) (fuel : Nat) (c : Int32), n ≤ dn (gd s o) * dn (gd s o) → n < fuel → lp (fun (s1 : Int32 × Int32) (nx2 : Int32 × Int32 → Option Int32) (ex3 : Int32 → Option Int32) => if cc (gd s o) ≤ s1.2 then ex3 s1.1 else if tIn (gd s o) s1.1 = i3 (-1) then ex3 s1.1 else if cc (gd s o) ≤ s1.1 + i3 1 then nx2 (i3 0, s1.2 + i3 1) else nx2 (s1.1 + i3 1, s1.2 + i3 1)) fuel (c, i3 ((dn (gd s o) * dn (gd s o) - n : Nat) : Int)) (fun x4 => some x4) = some (nfF (gd s o) n c) := by
    intro n
    induction n with
    | zero =>
      intro fuel c _ hf
      obtain ⟨q, rfl⟩ : ∃ q, fuel = q + 1 := ⟨fuel - 1, by omega⟩
      rw [lp_s]
      simp only [Nat.sub_zero, h.Ce (Nat.le_refl _) (by have := h.cc_le; omega), Option.bind_some, jn, cst, bP_if, rB_0, rB_1, z00, z10, ↓reduceIte]
      rfl
    | succ n ih =>
      intro fuel c hn hf
      obtain ⟨q, rfl⟩ : ∃ q, fuel = q + 1 := ⟨fuel - 1, by omega⟩
      rw [lp_s]
      have hc := (h.C (k := dn (gd s o) * dn (gd s o) - (n + 1)) (by omega)).2
      have e : i3 ((dn (gd s o) * dn (gd s o) - (n + 1) : Nat) : Int) + i3 1 = i3 ((dn (gd s o) * dn (gd s o) - n : Nat) : Int) := by
        rw [i3_nat_add]; congr 2; omega
      simp only [hc, e, ih q _ (show n ≤ dn (gd s o) * dn (gd s o) by omega) (show n < q by omega), Option.bind_some, jn, cst, bP_if, rB_0, rB_1, z00, z10, ↓reduceIte]
      show _ = some (if tIn (gd s o) c = i3 (-1) then c else nfF (gd s o) n (if cc (gd s o) ≤ c + i3 1 then i3 0 else c + i3 1))
      ((repeat' split) <;> (first | rfl | (exfalso; simp_all only [isT, isCl, isW, st3, btw, kOf, not_true_eq_false, not_false_eq_true, and_true, true_and, and_self, and_false, false_and, or_true, true_or, or_false, false_or, not_and]; done) | grind))
  have := key (dn (gd s o) * dn (gd s o)) 4096 c (Nat.le_refl _) (by have := h.cc_le; omega)
  rw [Nat.sub_self] at this
  exact this
end CG
