/-! ===== shelves: what calls do to them (class) ===== -/
noncomputable def upR (f : Nat → Rw) (k : Nat) (r : Rw) : Nat → Rw := fun j => if j = k then r else f j
noncomputable def wSh (s : St) (k : Nat) (so n t : Int32) (l : List Int64) : St := sf (sf (sf (sl s (29 + 2 * k) l) (28 + 2 * k) 1 so) (28 + 2 * k) 2 n) (28 + 2 * k) 3 t
section SHF
variable {s : St}
theorem r_Sk {k : Nat} (hk : k < 8) (s : St) : gN (H s) 5 (28 + 2 * k) 0 = some (29 + 2 * k) ∧ (∀ i, aJ (H s) (29 + 2 * k) i = at64 (la s (29 + 2 * k)) i) ∧ aL (H s) (29 + 2 * k) = some (Int32.ofNat (la s (29 + 2 * k)).length) ∧ (∀ i x, sJ (H s) (29 + 2 * k) i x = (st64 (la s (29 + 2 * k)) i x).map (fun l => H (sl s (29 + 2 * k) l))) := by
  have h := r_S (isS_k hk) s
  rw [show (28 + 2 * k) + 1 = 29 + 2 * k by omega] at h
  exact ⟨h.2.1, h.2.2.2.2.2.2.2.2.1, h.2.2.2.2.2.2.2.2.2.1, h.2.2.2.2.2.2.2.2.2.2⟩
theorem r_Sf {k : Nat} (hk : k < 8) (s : St) : gC (H s) 5 (28 + 2 * k) = some () ∧ gI (H s) 5 (28 + 2 * k) 1 = some (fi s (28 + 2 * k) 1) ∧ (∀ x, pI (H s) 5 (28 + 2 * k) 1 x = some (H (sf s (28 + 2 * k) 1 x))) ∧ gI (H s) 5 (28 + 2 * k) 2 = some (fi s (28 + 2 * k) 2) ∧ (∀ x, pI (H s) 5 (28 + 2 * k) 2 x = some (H (sf s (28 + 2 * k) 2 x))) ∧ gI (H s) 5 (28 + 2 * k) 3 = some (fi s (28 + 2 * k) 3) ∧ (∀ x, pI (H s) 5 (28 + 2 * k) 3 x = some (H (sf s (28 + 2 * k) 3 x))) := by
  have h := r_S (isS_k hk) s
  exact ⟨h.1, h.2.2.1, h.2.2.2.1, h.2.2.2.2.1, h.2.2.2.2.2.1, h.2.2.2.2.2.2.1, h.2.2.2.2.2.2.2.1⟩
theorem sl_id (s : St) (p : Nat) : sl s p (la s p) = s := by
  refine Prod.ext rfl (Prod.ext (funext fun q => ?_) rfl)
  show (if q = p then s.2.1 p else s.2.1 q) = s.2.1 q
  split
  · rename_i h; rw [h]
  · rfl
theorem wSh_sl (k : Nat) (l : List Int64) : sl s (29 + 2 * k) l = wSh s k (fi s (28 + 2 * k) 1) (fi s (28 + 2 * k) 2) (fi s (28 + 2 * k) 3) l := by
  unfold wSh
  have e : ∀ j, fi s (28 + 2 * k) j = fi (sl s (29 + 2 * k) l) (28 + 2 * k) j := fun _ => rfl
  rw [e 1, sf_id, e 2, sf_id, e 3, sf_id]
theorem fi_wSh {k : Nat} {so n t : Int32} {l : List Int64} (o j : Nat) : fi (wSh s k so n t l) o j = if o = 28 + 2 * k ∧ j = 3 then t else if o = 28 + 2 * k ∧ j = 2 then n else if o = 28 + 2 * k ∧ j = 1 then so else fi s o j := rfl
theorem la_wSh {k : Nat} {so n t : Int32} {l : List Int64} (p : Nat) : la (wSh s k so n t l) p = if p = 29 + 2 * k then l else la s p := rfl
theorem CC.shelf {α : Type} (c : CI s) {k : Nat} (hk : k < 8) {so n t : Int32} {l : List Int64} (h1 : l.length = 40) (h2 : so = i3 (-1) ∨ (¬ so < 0 ∧ so ≤ i3 4)) (h3 : ¬ n < 0 ∧ n ≤ i3 40) (h4 : so = i3 (-1) → n = 0) (h5 : t = i3 (-1) ∨ (isT (gd s 1) t ∧ so = i3 (-1))) (v : α) : CC s (some (v, H (wSh s k so n t l))) v ((abC s).1, (abC s).2.1, (abC s).2.2.1, upR (abC s).2.2.2 k (if so = i3 (-1) then none else some (so, n, l))) := by
  have f1 : ∀ o, (o < 28 ∨ 43 < o) → ∀ j, fi (wSh s k so n t l) o j = fi s o j := fun o ho j => by
    rw [fi_wSh, if_neg (by omega), if_neg (by omega), if_neg (by omega)]
  have f2 : ∀ i, i ≠ k → ∀ j, fi (wSh s k so n t l) (28 + 2 * i) j = fi s (28 + 2 * i) j := fun i hi j => by
    rw [fi_wSh, if_neg (by omega), if_neg (by omega), if_neg (by omega)]
  have k1 : fi (wSh s k so n t l) (28 + 2 * k) 1 = so := by
    rw [fi_wSh, if_neg (by omega), if_neg (by omega), if_pos (by omega)]
  have k2 : fi (wSh s k so n t l) (28 + 2 * k) 2 = n := by
    rw [fi_wSh, if_neg (by omega), if_pos (by omega)]
  have k3 : fi (wSh s k so n t l) (28 + 2 * k) 3 = t := by
    rw [fi_wSh, if_pos (by omega)]
  have kl : la (wSh s k so n t l) (29 + 2 * k) = l := by rw [la_wSh, if_pos rfl]
  have l2 : ∀ i, i ≠ k → la (wSh s k so n t l) (29 + 2 * i) = la s (29 + 2 * i) := fun i hi => by
    rw [la_wSh, if_neg (by omega)]
  have em : eM s (wSh s k so n t l) := (((eM.refl s).l (by omega) (by rw [h1, (c.2.2.2.2.2 k hk).1])).f (by omega)).f (by omega) |>.f (by omega)
  have G : ∀ o, isG o → gd (wSh s k so n t l) o = gd s o := fun o ho => by
    have f : ∀ j, fi (wSh s k so n t l) o j = fi s o j := fun j => f1 o (by rcases ho with rfl | rfl | rfl <;> omega) j
    unfold gd
    rw [f, f, f, f]
    rfl
  refine ⟨_, rfl, ?_, em, ?_⟩
  · obtain ⟨⟨c1, z, l27⟩, c2, c3, c4, c5, c6⟩ := c
    have zl : la (wSh s k so n t l) 57 = la s 57 := by rw [la_wSh, if_neg (by omega)]
    refine ⟨⟨by rw [G 1 g1]; exact c1, ?_, l27⟩, by rw [G 6 (Or.inr (Or.inl rfl))]; exact c2, by rw [G 11 (Or.inr (Or.inr rfl))]; exact c3, by rw [f1 24 (by omega)]; exact c4, by rw [f1 0 (by omega), G 11 (Or.inr (Or.inr rfl))]; exact c5, fun i hi => ?_⟩
    · unfold Sz
      rw [zl]
      exact z
    · unfold shO
      rw [G 1 g1]
      by_cases e : i = k
      · subst e
        rw [k1, k2, k3, kl]
        exact ⟨h1, h2, h3, h4, h5⟩
      · rw [f2 i e, f2 i e, f2 i e, l2 i e]
        exact c6 i hi
  · unfold abC
    rw [G 1 g1, G 11 (Or.inr (Or.inr rfl)), f1 0 (by omega), f1 24 (by omega)]
    refine Prod.ext rfl (Prod.ext rfl (Prod.ext rfl (funext fun i => ?_)))
    show (if i < 8 then shC (wSh s k so n t l) i else none) = if i = k then (if so = i3 (-1) then none else some (so, n, l)) else if i < 8 then shC s i else none
    by_cases e : i = k
    · subst e
      rw [if_pos hk, if_pos rfl]
      unfold shC
      rw [k1, k2, kl]
    · rw [if_neg e]
      unfold shC
      rw [f2 i e, f2 i e, l2 i e]
theorem q_150 {o : Nat} (ho : isS o) : m_150 o (H s) = some (bP (¬ fi s o 1 = i3 (-1))) := by
  unfold m_150
  simp only [r_S ho, Option.bind_some, jn, cst, bP_if, rB_0, rB_1, z00, z10, ↓reduceIte]
  unfold bP
  ((repeat' split) <;> (first | rfl | (exfalso; simp_all only [isT, isCl, isW, st3, btw, kOf, not_true_eq_false, not_false_eq_true, and_true, true_and, and_self, and_false, false_and, or_true, true_or, or_false, false_or, not_and]; done) | grind))
theorem q_151 {o : Nat} (ho : isS o) : m_151 o (H s) = some (bP (¬ fi s o 3 = i3 (-1))) := by
  unfold m_151
  simp only [r_S ho, Option.bind_some, jn, cst, bP_if, rB_0, rB_1, z00, z10, ↓reduceIte]
  unfold bP
  ((repeat' split) <;> (first | rfl | (exfalso; simp_all only [isT, isCl, isW, st3, btw, kOf, not_true_eq_false, not_false_eq_true, and_true, true_and, and_self, and_false, false_and, or_true, true_or, or_false, false_or, not_and]; done) | grind))
noncomputable def whyR (s : St) (o : Nat) : Int32 := if fi s o 3 = i3 (-1) then i3 (-4) else i3 (-3)
theorem q_152 {o : Nat} (ho : isS o) : m_152 o (H s) = some (whyR s o) := by
  unfold m_152 whyR
  simp only [r_S ho, Option.bind_some, jn, cst, bP_if, rB_0, rB_1, z00, z10, ↓reduceIte, q_151 ho]
  ((repeat' split) <;> (first | rfl | (exfalso; simp_all only [isT, isCl, isW, st3, btw, kOf, not_true_eq_false, not_false_eq_true, and_true, true_and, and_self, and_false, false_and, or_true, true_or, or_false, false_or, not_and]; done) | grind))
theorem whyR_B {o : Nat} : isB (whyR s o) := by
  unfold whyR
  split
  · exact isB4
  · exact isB3
theorem q_153 {o : Nat} (ho : isS o) (i : Int32) : m_153 o i (H s) = some (bP (¬ i < 0 ∧ ¬ fi s o 2 ≤ i)) := by
  unfold m_153
  simp only [r_S ho, Option.bind_some, jn, cst, bP_if, rB_0, rB_1, z00, z10, ↓reduceIte]
  exact bP2
abbrev strt (z f n : Int32) : Prop := ¬ f < 0 ∧ ¬ n < 0 ∧ ¬ z - n < f
theorem q_154 {o : Nat} (ho : isS o) (f n : Int32) : m_154 o f n (H s) = some (bP (strt (fi s o 2) f n)) := by
  unfold m_154
  simp only [r_S ho, Option.bind_some, jn, cst, bP_if, rB_0, rB_1, z00, z10, ↓reduceIte]
  unfold bP strt
  by_cases c1 : f < 0
  · rw [if_pos c1, if_neg (fun e => e.1 c1)]
  · rw [if_neg c1]
    by_cases c2 : n < 0
    · rw [if_pos c2, if_neg (fun e => e.2.1 c2)]
    · rw [if_neg c2]
      by_cases c3 : fi s o 2 - n < f
      · rw [if_pos c3, if_neg (fun e => e.2.2 c3)]
      · rw [if_neg c3, if_pos ⟨c1, c2, c3⟩]
noncomputable def fitJ (so : Int32) (v : Int64) : Int64 := if so < 0 ∨ 3 < so then (if lg_cmp v (Int64.ofNat 0) = 0 then Int64.ofNat 0 else Int64.ofNat 1) else if so = 0 then Int32.toInt64 (Int32.toInt8 (Int64.toInt32 v)).toInt32 else if so = 1 then Int32.toInt64 (Int32.toInt16 (Int64.toInt32 v)).toInt32 else if so = 2 then Int32.toInt64 (Int64.toInt32 v) else v
theorem four {w : Int32} (h : ¬ (w < 0 ∨ 3 < w)) (h0 : ¬ w = 0) (h1 : ¬ w = 1) (h2 : ¬ w = 2) : w = 3 := by
  have a : ¬ w.toInt < 0 := fun e => h (Or.inl (Int32.lt_iff_toInt_lt.mpr e))
  have b : ¬ 3 < w.toInt := fun e => h (Or.inr (Int32.lt_iff_toInt_lt.mpr e))
  have c : ¬ w.toInt = 0 := fun e => h0 (Int32.toInt_inj.mp e)
  have d : ¬ w.toInt = 1 := fun e => h1 (Int32.toInt_inj.mp e)
  have f : ¬ w.toInt = 2 := fun e => h2 (Int32.toInt_inj.mp e)
  exact Int32.toInt_inj.mp (show w.toInt = 3 by omega)
theorem fit_ifs (so : Int32) (v : Int64) : (if so < 0 ∨ 3 < so then (if lg_cmp v (Int64.ofNat 0) = 0 then some (Int64.ofNat 0) else some (Int64.ofNat 1)) else if so = 0 then some (Int32.toInt64 (Int32.toInt8 (Int64.toInt32 v)).toInt32) else if so = 1 then some (Int32.toInt64 (Int32.toInt16 (Int64.toInt32 v)).toInt32) else if so = 2 then some (Int32.toInt64 (Int64.toInt32 v)) else if so = 3 then some v else none) = some (fitJ so v) := by
  unfold fitJ
  by_cases c1 : so < 0 ∨ 3 < so
  · rw [if_pos c1, if_pos c1]
    split <;> rfl
  rw [if_neg c1, if_neg c1]
  by_cases c2 : so = 0
  · rw [if_pos c2, if_pos c2]
  rw [if_neg c2, if_neg c2]
  by_cases c3 : so = 1
  · rw [if_pos c3, if_pos c3]
  rw [if_neg c3, if_neg c3]
  by_cases c4 : so = 2
  · rw [if_pos c4, if_pos c4]
  rw [if_neg c4, if_neg c4, if_pos (four c1 c2 c3 c4)]
theorem q_157 {o : Nat} (ho : isS o) (v : Int64) : m_157 o v (H s) = some (fitJ (fi s o 1) v) := by
  unfold m_157
  simp only [r_S ho, Option.bind_some, jn, cst, bP_if, rB_0, rB_1, z00, z10, ↓reduceIte]
  exact fit_ifs _ _
noncomputable def zJ : List Int64 := List.replicate 40 (Int64.ofNat 0)
theorem itr_zJ : ∀ (n : Nat) (l : List Int64), n ≤ l.length → itr (fun k (l : List Int64) => l.set k (Int64.ofNat 0)) n l = List.replicate n (Int64.ofNat 0) ++ l.drop n
  | 0, l, _ => rfl
  | n + 1, l, h => by
    show (itr (fun k (l : List Int64) => l.set k (Int64.ofNat 0)) n l).set n (Int64.ofNat 0) = _
    rw [itr_zJ n l (by omega), List.set_append_right _ _ (by rw [List.length_replicate]; exact Nat.le_refl _), List.length_replicate, Nat.sub_self, List.drop_eq_getElem_cons (by omega), List.set_cons_zero, List.replicate_succ', List.append_assoc]
    rfl
theorem sl_sf (s : St) (p o k : Nat) (l : List Int64) (x : Int32) : sl (sf s o k x) p l = sf (sl s p l) o k x := rfl
theorem q_155 {k : Nat} (hk : k < 8) (hl : (la s (29 + 2 * k)).length = 40) (so n : Int32) : m_155 (28 + 2 * k) so n (H s) = some (H (wSh s k so n (i3 (-1)) zJ)) := by
  have hS := isS_k hk
  unfold m_155
  simp only [r_Sf hk, Option.bind_some, jn, cst, bP_if, rB_0, rB_1, z00, z10, ↓reduceIte]
  have h := lp_acc (R := tH) (X := tH) (K := fun x7 => some x7) (F := fun (s4 : Int32 × tH) nx5 ex6 => (gN s4.2 5 (28 + 2 * k) 0).bind fun o8 => (aL s4.2 o8).bind fun x9 => if x9 ≤ s4.1 then ex6 s4.2 else (gN s4.2 5 (28 + 2 * k) 0).bind fun o10 => (sJ s4.2 o10 s4.1 (Int64.ofNat 0)).bind fun th11 => nx5 ((s4.1 + Int32.ofInt 1), th11)) 40 (fun i (l : List Int64) => (i3 (i : Int), H (wSh s k so n (i3 (-1)) l))) (fun l => H (wSh s k so n (i3 (-1)) l)) (fun k l => l.set k (Int64.ofNat 0)) (fun _ l => l.length = 40) (la s (29 + 2 * k)) ?_ ?_ ?_ hl (fuel := 4096) (by omega)
  · have e0 : wSh s k so n (i3 (-1)) (la s (29 + 2 * k)) = sf (sf (sf s (28 + 2 * k) 1 so) (28 + 2 * k) 2 n) (28 + 2 * k) 3 (Int32.ofInt (-1)) := by
      unfold wSh
      rw [sl_id]
    rw [e0] at h
    refine h.trans ?_
    rw [itr_zJ 40 _ (by omega), List.drop_eq_nil_of_le (by omega), List.append_nil]
    rfl
  · intro i l nx ex hi hll
    have el : la (wSh s k so n (i3 (-1)) l) (29 + 2 * k) = l := by rw [la_wSh, if_pos rfl]
    have e : ∀ y, st64 l (i3 (i : Int)) y = some (l.set i y) := fun y => st64_nat (by omega) (by omega)
    have e2 : ¬ i3 ((40 : Nat) : Int) ≤ i3 (i : Int) := by rw [i3n_le (by omega) (by omega)]; omega
    have e3 : ∀ l', sl (wSh s k so n (i3 (-1)) l) (29 + 2 * k) l' = wSh s k so n (i3 (-1)) l' := fun l' => by
      unfold wSh
      rw [sl_sf, sl_sf, sl_sf, sl_sl]
    simp only [r_Sk hk, Option.bind_some, jn, cst, bP_if, rB_0, rB_1, z00, z10, ↓reduceIte, el, hll, i3_nat, e2, e, Option.map_some, e3, i3_nat_add]
  · intro i l hi hll
    exact (List.length_set).trans hll
  · intro l nx ex hll
    have el : la (wSh s k so n (i3 (-1)) l) (29 + 2 * k) = l := by rw [la_wSh, if_pos rfl]
    have e2 : i3 ((40 : Nat) : Int) ≤ i3 ((40 : Nat) : Int) := by rw [i3n_le (by omega) (by omega)]; omega
    simp only [r_Sk hk, Option.bind_some, jn, cst, bP_if, rB_0, rB_1, z00, z10, ↓reduceIte, el, hll, i3_nat, e2]
noncomputable def vRow (x so n : Int32) : Int32 := if x < 0 then i3 (-2) else if x < i3 8 then if so < 0 then i3 (-2) else if i3 4 < so then i3 (-2) else if n < 0 then i3 (-2) else if n ≤ i3 40 then i3 1 else i3 (-2) else i3 (-2)
noncomputable def sRow (f : Nat → Rw) (x so n : Int32) : Nat → Rw := if x < 0 then f else if x < i3 8 then if so < 0 then f else if i3 4 < so then f else if n < 0 then f else if n ≤ i3 40 then upR f x.toNatClampNeg (some (so, n, zJ)) else f else f
theorem b_2 (c : CI s) (x so n : Int32) : CC s (m_2 0 x so n (H s)) (vRow x so n) ((abC s).1, (abC s).2.1, (abC s).2.2.1, sRow (abC s).2.2.2 x so n) := by
  unfold m_2 vRow sRow
  simp only [r_0, q_60, Option.bind_some, jn, cst, bP_if, rB_0, rB_1, z00, z10, ↓reduceIte]
  by_cases c1 : x < 0
  · simp only [if_pos c1]
    exact CC.ref c isB2
  simp only [if_neg c1]
  by_cases c2 : x < i3 8
  · simp only [if_pos c2]
    by_cases c3 : so < 0
    · simp only [if_pos c3]
      exact CC.ref c isB2
    simp only [if_neg c3]
    by_cases c4 : i3 4 < so
    · simp only [if_pos c4]
      exact CC.ref c isB2
    simp only [if_neg c4]
    by_cases c5 : n < 0
    · simp only [if_pos c5]
      exact CC.ref c isB2
    simp only [if_neg c5]
    by_cases c6 : n ≤ i3 40
    · have hk := sh_nat c1 c2
      simp only [if_pos c6, q_155 hk (c.2.2.2.2.2 _ hk).1, Option.bind_some, jn, cst, bP_if, rB_0, rB_1, z00, z10, ↓reduceIte]
      have hso : ¬ so = i3 (-1) := fun e => c3 (by rw [e]; decide +kernel)
      have := CC.shelf c hk (so := so) (n := n) (t := i3 (-1)) (l := zJ) rfl (Or.inr ⟨c3, Int32.not_lt.mp c4⟩) ⟨c5, c6⟩ (fun e => absurd e hso) (Or.inl rfl) (i3 1)
      rw [if_neg hso] at this
      exact this
    · simp only [if_neg c6]
      exact CC.ref c isB2
  · simp only [if_neg c2]
    exact CC.ref c isB2
noncomputable def vShow (g : Gd) (x t : Int32) : Int32 := if x < 0 then i3 (-2) else if x < i3 8 then if t = i3 (-1) then i3 1 else if isT g t then i3 1 else i3 (-2) else i3 (-2)
noncomputable def sShow (g : Gd) (f : Nat → Rw) (x t : Int32) : Nat → Rw := if x < 0 then f else if x < i3 8 then if t = i3 (-1) then upR f x.toNatClampNeg none else if isT g t then upR f x.toNatClampNeg none else f else f
theorem CC.tree (c : CI s) {k : Nat} (hk : k < 8) {t : Int32} (ht : t = i3 (-1) ∨ isT (gd s 1) t) : CC s (some (i3 1, H (sf (sf (sf s (28 + 2 * k) 1 (i3 (-1))) (28 + 2 * k) 2 (i3 0)) (28 + 2 * k) 3 t))) (i3 1) ((abC s).1, (abC s).2.1, (abC s).2.2.1, upR (abC s).2.2.2 k none) := by
  have e0 : sf (sf (sf s (28 + 2 * k) 1 (i3 (-1))) (28 + 2 * k) 2 (i3 0)) (28 + 2 * k) 3 t = wSh s k (i3 (-1)) (i3 0) t (la s (29 + 2 * k)) := by
    unfold wSh
    rw [sl_id]
  rw [e0]
  have := CC.shelf c hk (so := i3 (-1)) (n := i3 0) (t := t) (l := la s (29 + 2 * k)) (c.2.2.2.2.2 _ hk).1 (Or.inl rfl) ⟨by decide +kernel, by decide +kernel⟩ (fun _ => rfl) (ht.elim Or.inl (fun e => Or.inr ⟨e, rfl⟩)) (i3 1)
  rw [if_pos rfl] at this
  exact this
theorem b_7 (c : CI s) (x t : Int32) : CC s (m_7 0 x t (H s)) (vShow (gd s 1) x t) ((abC s).1, (abC s).2.1, (abC s).2.2.1, sShow (gd s 1) (abC s).2.2.2 x t) := by
  unfold m_7 vShow sShow
  simp only [r_0, q_60, q_81 g1, Option.bind_some, jn, cst, bP_if, rB_0, rB_1, z00, z10, ↓reduceIte]
  by_cases c1 : x < 0
  · simp only [if_pos c1]
    exact CC.ref c isB2
  simp only [if_neg c1]
  by_cases c2 : x < i3 8
  · have hk := sh_nat c1 c2
    simp only [if_pos c2, q_156 (isS_k hk), Option.bind_some, jn, cst, bP_if, rB_0, rB_1, z00, z10, ↓reduceIte]
    by_cases c3 : t = i3 (-1)
    · simp only [if_pos c3]
      exact CC.tree c hk (Or.inl c3)
    simp only [if_neg c3]
    by_cases c4 : isT (gd s 1) t
    · simp only [if_pos c4]
      exact CC.tree c hk (Or.inr c4)
    · simp only [if_neg c4]
      exact CC.ref c isB2
  · simp only [if_neg c2]
    exact CC.ref c isB2
noncomputable def sSet (f : Nat → Rw) (x i : Int32) (v : Int64) : Nat → Rw := if x < 0 then f else if x < i3 8 then (match f x.toNatClampNeg with | none => f | some r => if ¬ i < 0 ∧ ¬ r.2.1 ≤ i then upR f x.toNatClampNeg (some (r.1, r.2.1, r.2.2.set i.toNatClampNeg (fitJ r.1 v))) else f) else f
theorem CC.refE (c : CI s) {x : Int32} (hx : isB x) : CC s ((m_59 0 x (H s)).bind fun q => some (q.1, q.2)) x ((abC s).1, (abC s).2.1, (abC s).2.2.1, (abC s).2.2.2) := CC.ref c hx
theorem abC_sh {k : Nat} (hk : k < 8) : (abC s).2.2.2 k = shC s k := if_pos hk
theorem e0_0 : (i3 0 : Int32) = 0 := rfl
theorem e1_0 : ¬ (i3 1 : Int32) = 0 := by decide +kernel
theorem m3_a (c : CI s) {x : Int32} (i : Int32) (v : Int64) (c1 : ¬ x < 0) (c2 : x < i3 8) (c3 : fi s (28 + 2 * x.toNatClampNeg) 1 = i3 (-1)) : m_3 0 x i v (H s) = (m_59 0 (whyR s (28 + 2 * x.toNatClampNeg)) (H s)).bind fun q => some (q.1, q.2) := by
  have hS := isS_k (sh_nat c1 c2)
  unfold m_3
  rw [(r_0 s).1, Option.bind_some, q_60, Option.bind_some, if_neg c1, if_pos c2]
  dsimp only
  rw [q_150 hS, Option.bind_some, bP_f (fun e => e c3), if_pos e0_0, q_152 hS, Option.bind_some]
theorem m3_b (c : CI s) {x : Int32} {i : Int32} (v : Int64) (c1 : ¬ x < 0) (c2 : x < i3 8) (c3 : ¬ fi s (28 + 2 * x.toNatClampNeg) 1 = i3 (-1)) (c4 : ¬ (¬ i < 0 ∧ ¬ fi s (28 + 2 * x.toNatClampNeg) 2 ≤ i)) : m_3 0 x i v (H s) = (m_59 0 (i3 (-2)) (H s)).bind fun q => some (q.1, q.2) := by
  have hS := isS_k (sh_nat c1 c2)
  unfold m_3
  rw [(r_0 s).1, Option.bind_some, q_60, Option.bind_some, if_neg c1, if_pos c2]
  dsimp only
  rw [q_150 hS, Option.bind_some, bP_t c3, if_neg e1_0, q_153 hS, Option.bind_some, bP_f c4, if_pos e0_0, cst.1]
theorem m3_c (c : CI s) {x : Int32} {i : Int32} (v : Int64) (c1 : ¬ x < 0) (c2 : x < i3 8) (c3 : ¬ fi s (28 + 2 * x.toNatClampNeg) 1 = i3 (-1)) (c4 : ¬ i < 0 ∧ ¬ fi s (28 + 2 * x.toNatClampNeg) 2 ≤ i) (hb : i.toNatClampNeg < (la s (29 + 2 * x.toNatClampNeg)).length) : m_3 0 x i v (H s) = some (i3 1, H (wSh s x.toNatClampNeg (fi s (28 + 2 * x.toNatClampNeg) 1) (fi s (28 + 2 * x.toNatClampNeg) 2) (fi s (28 + 2 * x.toNatClampNeg) 3) ((la s (29 + 2 * x.toNatClampNeg)).set i.toNatClampNeg (fitJ (fi s (28 + 2 * x.toNatClampNeg) 1) v)))) := by
  have hk := sh_nat c1 c2
  have hS := isS_k hk
  unfold m_3
  rw [(r_0 s).1, Option.bind_some, q_60, Option.bind_some, if_neg c1, if_pos c2]
  dsimp only
  rw [q_150 hS, Option.bind_some, bP_t c3, if_neg e1_0, q_153 hS, Option.bind_some, bP_t c4, if_neg e1_0, (r_Sk hk s).1, Option.bind_some, q_157 hS, Option.bind_some, (r_Sk hk s).2.2.2, stJ_wr c4.1 hb, Option.map_some, Option.bind_some, wSh_sl]
theorem b_3 (c : CI s) (x i : Int32) (v : Int64) : ∃ w, CC s (m_3 0 x i v (H s)) w ((abC s).1, (abC s).2.1, (abC s).2.2.1, sSet (abC s).2.2.2 x i v) := by
  unfold sSet
  by_cases c1 : x < 0
  · rw [if_pos c1]
    refine ⟨i3 (-2), ?_⟩
    unfold m_3
    rw [(r_0 s).1, Option.bind_some, q_60, Option.bind_some, if_pos c1]
    dsimp only
    rw [cst.1]
    exact CC.refE c isB2
  rw [if_neg c1]
  by_cases c2 : x < i3 8
  · have hk := sh_nat c1 c2
    rw [if_pos c2, abC_sh hk]
    by_cases c3 : fi s (28 + 2 * x.toNatClampNeg) 1 = i3 (-1)
    · refine ⟨whyR s (28 + 2 * x.toNatClampNeg), ?_⟩
      rw [m3_a c i v c1 c2 c3, show shC s x.toNatClampNeg = none from if_pos c3]
      exact CC.refE c whyR_B
    · rw [show shC s x.toNatClampNeg = some _ from if_neg c3]
      dsimp only
      obtain ⟨d1, d2, d3, d4, d5⟩ := c.2.2.2.2.2 _ hk
      by_cases c4 : ¬ i < 0 ∧ ¬ fi s (28 + 2 * x.toNatClampNeg) 2 ≤ i
      · rw [if_pos c4]
        have hb : i.toNatClampNeg < 40 := by
          have a := c4.1
          have b := c4.2
          have b2 := d3.2
          rw [Int32.lt_iff_toInt_lt] at a
          rw [Int32.le_iff_toInt_le] at b b2
          have e : (0 : Int32).toInt = 0 := by decide +kernel
          have e2 : (i3 40).toInt = 40 := by decide +kernel
          show i.toInt.toNat < 40
          omega
        rw [m3_c c v c1 c2 c3 c4 (by rw [d1]; exact hb)]
        have := CC.shelf c hk (so := fi s (28 + 2 * x.toNatClampNeg) 1) (n := fi s (28 + 2 * x.toNatClampNeg) 2) (t := fi s (28 + 2 * x.toNatClampNeg) 3) (l := (la s (29 + 2 * x.toNatClampNeg)).set i.toNatClampNeg (fitJ (fi s (28 + 2 * x.toNatClampNeg) 1) v)) ((List.length_set).trans d1) d2 d3 d4 d5 (i3 1)
        rw [if_neg c3] at this
        exact ⟨_, this⟩
      · rw [if_neg c4, m3_b c v c1 c2 c3 c4]
        exact ⟨_, CC.refE c isB2⟩
  · rw [if_neg c2]
    refine ⟨i3 (-2), ?_⟩
    unfold m_3
    rw [(r_0 s).1, Option.bind_some, q_60, Option.bind_some, if_neg c1, if_neg c2]
    dsimp only
    rw [cst.1]
    exact CC.refE c isB2
noncomputable def elV (f : Nat → Rw) (x i : Int32) : Int64 := if x < 0 then Int64.ofNat 0 else if x < i3 8 then (match f x.toNatClampNeg with | none => Int64.ofNat 0 | some r => if ¬ i < 0 ∧ ¬ r.2.1 ≤ i then rdJ r.2.2 i else Int64.ofNat 0) else Int64.ofNat 0
theorem b_5 (c : CI s) (x i : Int32) : m_5 0 x i (H s) = some (elV (abC s).2.2.2 x i) := by
  unfold m_5 elV
  simp only [r_0, q_60, Option.bind_some, jn, cst, bP_if, rB_0, rB_1, z00, z10, ↓reduceIte]
  by_cases c1 : x < 0
  · simp only [if_pos c1]
  simp only [if_neg c1]
  by_cases c2 : x < i3 8
  · have hk := sh_nat c1 c2
    have hS := isS_k hk
    obtain ⟨d1, d2, d3, d4, d5⟩ := c.2.2.2.2.2 _ hk
    simp only [if_pos c2, q_153 hS, r_Sk hk, Option.bind_some, jn, cst, bP_if, rB_0, rB_1, z00, z10, ↓reduceIte, abC_sh hk]
    unfold shC
    by_cases c4 : ¬ i < 0 ∧ ¬ fi s (28 + 2 * x.toNatClampNeg) 2 ≤ i
    · have c3 : ¬ fi s (28 + 2 * x.toNatClampNeg) 1 = i3 (-1) := fun e => by
        have a := c4.1
        have b := c4.2
        rw [d4 e] at b
        exact b (Int32.not_lt.mp a)
      rw [if_pos c4, if_neg c3]
      dsimp only
      rw [if_pos c4]
      have hb : i.toNatClampNeg < 40 := by
        have a := c4.1
        have b := c4.2
        have b2 := d3.2
        rw [Int32.lt_iff_toInt_lt] at a
        rw [Int32.le_iff_toInt_le] at b b2
        have e : (0 : Int32).toInt = 0 := by decide +kernel
        have e2 : (i3 40).toInt = 40 := by decide +kernel
        show i.toInt.toNat < 40
        omega
      simp only [atJ_rd c4.1 (show _ < (la s (29 + 2 * x.toNatClampNeg)).length by omega), Option.bind_some, jn, cst, bP_if, rB_0, rB_1, z00, z10, ↓reduceIte]
    · rw [if_neg c4]
      split
      · rfl
      · rename_i r hr
        split at hr
        · cases hr
        · cases hr
          rw [if_neg c4]
  · simp only [if_neg c2]
theorem b_6 (c : CI s) (x : Int32) : ∃ w, m_6 0 x (H s) = some w := by
  unfold m_6
  simp only [r_0, q_60, Option.bind_some, jn, cst, bP_if, rB_0, rB_1, z00, z10, ↓reduceIte]
  by_cases c1 : x < 0
  · simp only [if_pos c1]
    exact ⟨_, rfl⟩
  simp only [if_neg c1]
  by_cases c2 : x < i3 8
  · have hk := sh_nat c1 c2
    have hS := isS_k hk
    simp only [if_pos c2, q_151 hS, r_Sf hk, Option.bind_some, jn, cst, bP_if, rB_0, rB_1, z00, z10, ↓reduceIte]
    split <;> exact ⟨_, rfl⟩
  · simp only [if_neg c2]
    exact ⟨_, rfl⟩
end SHF
