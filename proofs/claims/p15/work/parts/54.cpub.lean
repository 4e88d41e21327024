/-! ===== shelves (class) ===== -/
theorem isS_k {k : Nat} (hk : k < 8) : isS (28 + 2 * k) := by unfold isS; omega
theorem sh_at (s : St) {k : Nat} (hk : k < 8) : aN (H s) 26 (i3 (k : Int)) = some (28 + 2 * k) := (r_sh s k hk).1
noncomputable def isSh (x : Int32) : Prop := ¬ x < 0 ∧ x < i3 8
theorem sh_nat {x : Int32} (h0 : ¬ x < 0) (h1 : x < i3 8) : x.toNatClampNeg < 8 := lt_cl (b := 8) (by omega) h0 (fun e => absurd h1 (by
  have := Int32.not_lt.mpr e
  exact this))
theorem q_60 {s : St} (x : Int32) : m_60 0 x (H s) = some (if x < 0 then none else if x < i3 8 then some (28 + 2 * x.toNatClampNeg) else none) := by
  unfold m_60
  simp only [r_0, Option.bind_some, jn, cst, bP_if, rB_0, rB_1, z00, z10, ↓reduceIte, i3_nat]
  by_cases c1 : x < 0
  · rw [if_pos c1, if_pos c1]
  rw [if_neg c1, if_neg c1]
  by_cases c2 : x < i3 8
  · have c2' : x < i3 ((8 : Nat) : Int) := c2
    rw [if_pos c2', if_pos c2]
    have := sh_at s (sh_nat c1 c2)
    rw [← i3_cl c1] at this
    rw [this]
    rfl
  · have c2' : ¬ x < i3 ((8 : Nat) : Int) := c2
    rw [if_neg c2', if_neg c2]
noncomputable def shN (s : St) (k : Nat) : Prop := (la s (29 + 2 * k)).length = 40 ∧ (fi s (28 + 2 * k) 1 = i3 (-1) ∨ (¬ fi s (28 + 2 * k) 1 < 0 ∧ fi s (28 + 2 * k) 1 ≤ i3 4)) ∧ (¬ fi s (28 + 2 * k) 2 < 0 ∧ fi s (28 + 2 * k) 2 ≤ i3 40) ∧ (fi s (28 + 2 * k) 1 = i3 (-1) → fi s (28 + 2 * k) 2 = 0) ∧ (fi s (28 + 2 * k) 3 = i3 (-1) ∨ (¬ fi s (28 + 2 * k) 3 < 0 ∧ fi s (28 + 2 * k) 1 = i3 (-1)))
/-- but for trees on shelves that are gone -/
noncomputable def CJ (s : St) : Prop := Cq s ∧ sh (gd s 6) ∧ sh (gd s 11) ∧ ((ia s 25).length = 250 ∧ ¬ fi s 24 1 < 0 ∧ fi s 24 1 ≤ i3 250) ∧ (fi s 0 10 = 0 ∨ (fi s 0 10 = 1 ∧ ok (gd s 11))) ∧ ∀ k, k < 8 → shN s k
theorem CI.cj {s : St} (c : CI s) : CJ s := ⟨c.1, c.2.1, c.2.2.1, c.2.2.2.1, c.2.2.2.2.1, fun k hk => by
  obtain ⟨d1, d2, d3, d4, d5⟩ := c.2.2.2.2.2 k hk
  exact ⟨d1, d2, d3, d4, d5.elim Or.inl (fun e => Or.inr ⟨e.1.1, e.2⟩)⟩⟩
theorem CJ_wG {s : St} (c : CJ s) {g : Gd} (h : ok g) : CJ (wG s 1 g) := by
  obtain ⟨⟨c1, z, l27⟩, c2, c3, c4, c5, c6⟩ := c
  have g1' : gd (wG s 1 g) 1 = g := gd_wG s 1 g
  refine ⟨⟨by rw [g1']; exact h, z, l27⟩, c2, c3, c4, c5, fun k hk => ?_⟩
  have f1 : ∀ j, fi (wG s 1 g) (28 + 2 * k) j = fi s (28 + 2 * k) j := fun j => by
    rw [fi_wG, if_neg (by omega), if_neg (by omega), if_neg (by omega), if_neg (by omega)]
  unfold shN
  rw [f1, f1, f1]
  exact c6 k hk
/-- only shelves' fields -/
noncomputable def eS (s s' : St) : Prop := s'.1 = s.1 ∧ s'.2.1 = s.2.1 ∧ (∀ o k, (o < 28 ∨ 43 < o) → fi s' o k = fi s o k) ∧ s'.2.2.2 = s.2.2.2
theorem eS.refl (s : St) : eS s s := ⟨rfl, rfl, fun _ _ _ => rfl, rfl⟩
theorem eS.f {s s' : St} (h : eS s s') {o k : Nat} {x : Int32} (ho : 28 ≤ o ∧ o ≤ 43) : eS s (sf s' o k x) := ⟨h.1, h.2.1, fun o' k' h' => by rw [fi_sf, if_neg (by omega)]; exact h.2.2.1 o' k' h', h.2.2.2⟩
theorem eS.eM {s s' : St} (h : eS s s') : eM s s' := by
  have a : ∀ p, ia s' p = ia s p := fun p => congrFun h.1 p
  have b : ∀ p, la s' p = la s p := fun p => congrFun h.2.1 p
  exact ⟨fun p _ _ => a p, fun p _ _ => b p, fun o k ho _ => h.2.2.1 o k (by omega), h.2.2.2, fun p _ => by rw [a], fun p _ => by rw [b]⟩
theorem eS_gd {s s' : St} (h : eS s s') {o : Nat} (ho : isG o) : gd s' o = gd s o := by
  have a : ∀ p, ia s' p = ia s p := fun p => congrFun h.1 p
  have f : ∀ k, fi s' o k = fi s o k := fun k => h.2.2.1 o k (by rcases ho with rfl | rfl | rfl <;> omega)
  unfold gd
  rw [f, f, f, f, a, a, a, a]
theorem q_156 {s : St} {o : Nat} (ho : isS o) (x : Int32) : m_156 o x (H s) = some (H (sf (sf (sf s o 1 (i3 (-1))) o 2 (i3 0)) o 3 x)) := by
  unfold m_156
  simp only [r_S ho, Option.bind_some, jn, cst, bP_if, rB_0, rB_1, z00, z10, ↓reduceIte]
/-- a shelf is as it was, or cleared of a tree -/
noncomputable def clr (s s' : St) (t : Int32) (k : Nat) : Prop := (fi s (28 + 2 * k) 3 < t ∧ ∀ j, fi s' (28 + 2 * k) j = fi s (28 + 2 * k) j) ∨ (¬ fi s (28 + 2 * k) 3 < t ∧ fi s' (28 + 2 * k) 1 = i3 (-1) ∧ fi s' (28 + 2 * k) 2 = i3 0 ∧ fi s' (28 + 2 * k) 3 = i3 (-1))
theorem q_62' {s : St} (t : Int32) : T (m_62 0 t (H s)) (fun th => ∃ s', th = H s' ∧ eS s s' ∧ ∀ k, k < 8 → clr s s' t k) := by
  unfold m_62
  simp only [r_0, Option.bind_some, jn, cst, bP_if, rB_0, rB_1, z00, z10, ↓reduceIte]
  refine lpH 8 (fun k q => ∃ s', q = (i3 (k : Int), H s') ∧ eS s s' ∧ (∀ j, j < 8 → j < k → clr s s' t j) ∧ (∀ j, j < 8 → k ≤ j → ∀ i, fi s' (28 + 2 * j) i = fi s (28 + 2 * j) i)) (fun th => ∃ s', th = H s' ∧ eS s s' ∧ ∀ k, k < 8 → clr s s' t k) ?_ ?_ ?_ ?_ (by omega)
  · rintro k _ hk ⟨s1, rfl, c1, a1, b1⟩ nx ex hnx hex
    have e8 : ¬ Int32.ofNat 8 ≤ i3 (k : Int) := by
      rw [i3_nat, i3n_le (by omega) (by omega)]; omega
    have e1 : ¬ i3 (k : Int) < 0 := i3n_nneg (by omega)
    have e2 : i3 (k : Int) < i3 8 := by
      show i3 (k : Int) < i3 ((8 : Nat) : Int)
      rw [i3n_lt (by omega) (by omega)]; exact hk
    have hS := isS_k hk
    have e3 := b1 k hk (Nat.le_refl _) 3
    simp only [r_0, Option.bind_some, jn, cst, bP_if, rB_0, rB_1, z00, z10, ↓reduceIte, e8, q_60, e1, e2, cl_i3 (show k < 2147483648 by omega), r_S hS, i3_nat_add, e3, q_156 hS]
    by_cases c : fi s (28 + 2 * k) 3 < t
    · rw [if_pos c]
      refine hnx _ ⟨s1, rfl, c1, fun j hj hjk => ?_, fun j hj hjk => b1 j hj (by omega)⟩
      by_cases e : j = k
      · subst e
        exact Or.inl ⟨c, fun i => b1 j hj (Nat.le_refl _) i⟩
      · exact a1 j hj (by omega)
    · rw [if_neg c]
      refine hnx _ ⟨_, rfl, ((c1.f (by omega)).f (by omega)).f (by omega), fun j hj hjk => ?_, fun j hj hjk i => ?_⟩
      · by_cases e : j = k
        · subst e
          right
          refine ⟨c, ?_, ?_, ?_⟩ <;> simp only [fi_sf] <;> simp
        · have n : ∀ i, fi (sf (sf (sf s1 (28 + 2 * k) 1 (i3 (-1))) (28 + 2 * k) 2 (i3 0)) (28 + 2 * k) 3 (i3 (-1))) (28 + 2 * j) i = fi s1 (28 + 2 * j) i := fun i => by
            rw [fi_sf, if_neg (by omega), fi_sf, if_neg (by omega), fi_sf, if_neg (by omega)]
          unfold clr
          have := a1 j hj (by omega)
          unfold clr at this
          rcases this with h | h
          · exact Or.inl ⟨h.1, fun i => (n i).trans (h.2 i)⟩
          · exact Or.inr ⟨h.1, (n 1).trans h.2.1, (n 2).trans h.2.2.1, (n 3).trans h.2.2.2⟩
      · rw [fi_sf, if_neg (by omega), fi_sf, if_neg (by omega), fi_sf, if_neg (by omega)]
        exact b1 j hj (by omega) i
  · rintro _ ⟨s1, rfl, c1, a1, b1⟩ nx ex hex
    have e8 : Int32.ofNat 8 ≤ i3 ((8 : Nat) : Int) := by decide +kernel
    simp only [r_0, Option.bind_some, jn, cst, bP_if, rB_0, rB_1, z00, z10, ↓reduceIte, e8]
    exact hex _ ⟨s1, rfl, c1, fun j hj => a1 j hj hj⟩
  · intro x hx
    exact T_some hx
  · exact ⟨s, rfl, eS.refl s, fun j _ hj => absurd hj (Nat.not_lt_zero _), fun _ _ _ _ => rfl⟩
theorem m1_lt {t : Int32} (ht : ¬ t < 0) : i3 (-1) < t := by
  rw [Int32.lt_iff_toInt_lt] at ht ⊢
  have e : (0 : Int32).toInt = 0 := by decide +kernel
  have e2 : (i3 (-1)).toInt = -1 := by decide +kernel
  omega
theorem q_62 {s : St} (c : CJ s) {t : Int32} (ht : ¬ t < 0) (hn : t ≤ tN (gd s 1)) : ∃ s', m_62 0 t (H s) = some (H s') ∧ CI s' ∧ eM s s' ∧ abC s' = abC s ∧ eS s s' := by
  obtain ⟨_, e, s1, rfl, es, hc⟩ := q_62' (s := s) t
  refine ⟨s1, e, ?_, es.eM, ?_, es⟩
  · obtain ⟨⟨c1, z, l27⟩, c2, c3, c4, c5, c6⟩ := c
    have ea : ∀ p, ia s1 p = ia s p := fun p => congrFun es.1 p
    have el : ∀ p, la s1 p = la s p := fun p => congrFun es.2.1 p
    have ef : ∀ o k, (o < 28 ∨ 43 < o) → fi s1 o k = fi s o k := es.2.2.1
    refine ⟨⟨by rw [eS_gd es g1]; exact c1, ?_, by rw [ea]; exact l27⟩, by rw [eS_gd es (Or.inr (Or.inl rfl))]; exact c2, by rw [eS_gd es (Or.inr (Or.inr rfl))]; exact c3, by rw [ea, ef 24 1 (by omega)]; exact c4, by rw [ef 0 10 (by omega), eS_gd es (Or.inr (Or.inr rfl))]; exact c5, fun k hk => ?_⟩
    · unfold Sz
      rw [ea, ea, ea, ea, ea, el]
      exact z
    · obtain ⟨d1, d2, d3, d4, d5⟩ := c6 k hk
      unfold shO
      rw [el, eS_gd es g1]
      rcases hc k hk with ⟨h1, h2⟩ | ⟨h1, h2, h3, h4⟩
      · rw [h2, h2, h2]
        refine ⟨d1, d2, d3, d4, d5.elim Or.inl (fun e => Or.inr ⟨⟨e.1, fun hle => ?_⟩, e.2⟩)⟩
        rw [Int32.le_iff_toInt_le] at hn hle
        rw [Int32.lt_iff_toInt_lt] at h1
        omega
      · rw [h2, h3, h4]
        exact ⟨d1, Or.inl rfl, ⟨by decide +kernel, by decide +kernel⟩, fun _ => rfl, Or.inl rfl⟩
  · unfold abC
    have ea : ∀ p, ia s1 p = ia s p := fun p => congrFun es.1 p
    have el : ∀ p, la s1 p = la s p := fun p => congrFun es.2.1 p
    rw [eS_gd es g1, eS_gd es (Or.inr (Or.inr rfl)), es.2.2.1 0 10 (by omega), es.2.2.1 24 1 (by omega), ea]
    refine congrArg _ (congrArg _ (congrArg _ (funext fun k => ?_)))
    by_cases hk : k < 8
    · rw [if_pos hk, if_pos hk]
      unfold shC
      rw [el]
      rcases hc k hk with ⟨h1, h2⟩ | ⟨h1, h2, h3, h4⟩
      · rw [h2, h2]
      · rw [h2, if_pos rfl]
        obtain ⟨d1, d2, d3, d4, d5⟩ := c.2.2.2.2.2 k hk
        rcases d5 with d5 | d5
        · rw [d5] at h1
          exact absurd (m1_lt ht) h1
        · rw [if_pos d5.2]
    · rw [if_neg hk, if_neg hk]
/-! ===== what calls do to the garden ===== -/
theorem CC.ref {s : St} (c : CI s) {x : Int32} (hx : isB x) : CC s ((m_59 0 x (H s)).bind fun q => some (q.1, q.2)) x (gd s 1, (abC s).2) := (Ans.cf c.1.2.2 hx).cc c
theorem CC.id {α : Type} {s : St} (c : CI s) (v : α) : CC s (some (v, H s)) v (gd s 1, (abC s).2) := ⟨s, rfl, c, eM.refl s, rfl⟩
noncomputable def vSide (g : Gd) (n : Int32) : Int32 := if n < i3 3 then i3 (-2) else if n ≤ i3 8 then if tN g ≤ 0 then sD g else i3 (-5) else i3 (-2)
noncomputable def gSide (g : Gd) (n : Int32) : Gd := if n < i3 3 then g else if n ≤ i3 8 then if tN g ≤ 0 then uD g n else g else g
noncomputable def vTree (g : Gd) (k c a : Int32) : Int32 := if k < 0 then i3 (-2) else if i3 5 < k then i3 (-2) else if isCl g c then if a < 0 then i3 (-2) else if a ≤ i3 9 then if tIn g c = i3 (-1) then if tN g < i3 12 then tN g + i3 1 - i3 1 else i3 (-6) else i3 (-5) else i3 (-2) else i3 (-2)
noncomputable def gTree (g : Gd) (k c a : Int32) : Gd := if k < 0 then g else if i3 5 < k then g else if isCl g c then if a < 0 then g else if a ≤ i3 9 then if tIn g c = i3 (-1) then if tN g < i3 12 then addT g k c a else g else g else g else g
noncomputable def vWish (g : Gd) (m : Int32) : Int32 := if st3 g m then if wN g < i3 8 then wN g + i3 1 - i3 1 else i3 (-6) else i3 (-2)
noncomputable def gWish (g : Gd) (m : Int32) : Gd := if st3 g m then if wN g < i3 8 then addW g m else g else g
noncomputable def vMove (g : Gd) (t c : Int32) : Int32 := if nomv g t c = 0 then cA g t else nomv g t c
noncomputable def gMove (g : Gd) (t c : Int32) : Gd := if nomv g t c = 0 then mvT g t c else g
noncomputable def vFell (g : Gd) : Int32 := if fel g then tN g - i3 1 else i3 (-5)
noncomputable def gFell (g : Gd) : Gd := if fel g then uT g (tN g - i3 1) else g
theorem not12 {x : Int32} (h : x < i3 12) : ¬ i3 12 ≤ x := Int32.not_le.mpr h
theorem not8 {x : Int32} (h : x < i3 8) : ¬ i3 8 ≤ x := Int32.not_le.mpr h
theorem ge3 {x : Int32} (h : ¬ x < i3 3) : i3 3 ≤ x := Int32.not_lt.mp h
theorem le5 {x : Int32} (h : ¬ i3 5 < x) : x ≤ i3 5 := Int32.not_lt.mp h
theorem addT_T {g : Gd} (h : ok g) (hn : ¬ i3 12 ≤ tN g) (k c a : Int32) {t : Int32} (ht : isT g t) : isT (addT g k c a) t := by
  have n1 := h.n_le
  have e1 : tN (addT g k c a) = i3 ((nn g + 1 : Nat) : Int) := by
    show tN g + i3 1 = _
    rw [h.n_eq]; exact i3_nat_add _
  have b := h.tl ht
  refine ⟨ht.1, ?_⟩
  rw [e1, i3_cl ht.1, i3n_le (by omega) (by omega)]
  omega
section PB
variable {s : St}
theorem b_9 (c : CI s) (n : Int32) : CC s (m_9 0 n (H s)) (vSide (gd s 1) n) (gSide (gd s 1) n, (abC s).2) := by
  unfold m_9 vSide gSide
  simp only [r_0, r_G g1, Option.bind_some, jn, cst, bP_if, rB_0, rB_1, z00, z10, ↓reduceIte, sf_g4]
  by_cases c1 : n < i3 3
  · simp only [if_pos c1]
    exact CC.ref c isB2
  simp only [if_neg c1]
  by_cases c2 : n ≤ i3 8
  · simp only [if_pos c2]
    by_cases c3 : tN (gd s 1) ≤ 0
    · simp only [if_pos c3]
      refine CC.set c (ok_uD c.1.1 c3 (ge3 c1) c2) (fun t ht => ?_) _
      have a := ht.1
      have b := ht.2
      rw [Int32.lt_iff_toInt_lt] at a
      rw [Int32.le_iff_toInt_le] at b c3
      have e : (0 : Int32).toInt = 0 := by decide +kernel
      omega
    · simp only [if_neg c3]
      exact CC.ref c isB5
  · simp only [if_neg c2]
    exact CC.ref c isB2
theorem b_10 (c : CI s) (k x a : Int32) : CC s (m_10 0 k x a (H s)) (vTree (gd s 1) k x a) (gTree (gd s 1) k x a, (abC s).2) := by
  unfold m_10 vTree gTree
  simp only [r_0, r_G g1, Option.bind_some, jn, cst, bP_if, rB_0, rB_1, z00, z10, ↓reduceIte, q_71 g1, q_84 g1 c.1.1]
  by_cases c1 : k < 0
  · simp only [if_pos c1]
    exact CC.ref c isB2
  simp only [if_neg c1]
  by_cases c2 : i3 5 < k
  · simp only [if_pos c2]
    exact CC.ref c isB2
  simp only [if_neg c2]
  by_cases c3 : isCl (gd s 1) x
  · simp only [if_pos c3]
    by_cases c4 : a < 0
    · simp only [if_pos c4]
      exact CC.ref c isB2
    simp only [if_neg c4]
    by_cases c5 : a ≤ i3 9
    · simp only [if_pos c5]
      by_cases c6 : tIn (gd s 1) x = i3 (-1)
      · simp only [if_pos c6]
        by_cases c7 : tN (gd s 1) < i3 12
        · have c8 := not12 c7
          simp only [if_pos c7, q_89 g1 c.1.1 c8, Option.bind_some, jn, cst, bP_if, rB_0, rB_1, z00, z10, ↓reduceIte, r_0, r_G g1, gd_wG]
          exact CC.set c (ok_addT c.1.1 c8 ⟨c1, le5 c2⟩ c3 c6) (fun t ht => addT_T c.1.1 c8 _ _ _ ht) _
        · simp only [if_neg c7]
          exact CC.ref c isB6
      · simp only [if_neg c6]
        exact CC.ref c isB5
    · simp only [if_neg c5]
      exact CC.ref c isB2
  · simp only [if_neg c3]
    exact CC.ref c isB2
theorem b_11 (c : CI s) (m : Int32) : CC s (m_11 0 m (H s)) (vWish (gd s 1) m) (gWish (gd s 1) m, (abC s).2) := by
  unfold m_11 vWish gWish
  simp only [r_0, r_G g1, Option.bind_some, jn, cst, bP_if, rB_0, rB_1, z00, z10, ↓reduceIte, q_93 g1]
  by_cases c1 : st3 (gd s 1) m
  · simp only [if_pos c1]
    by_cases c2 : wN (gd s 1) < i3 8
    · have c3 := not8 c2
      simp only [if_pos c2, q_96 g1 c.1.1 c3, Option.bind_some, jn, cst, bP_if, rB_0, rB_1, z00, z10, ↓reduceIte, r_0, r_G g1, gd_wG]
      exact CC.set c (ok_addW c.1.1 c3 c1) (fun t ht => ht) _
    · simp only [if_neg c2]
      exact CC.ref c isB6
  · simp only [if_neg c1]
    exact CC.ref c isB2
theorem b_12 (c : CI s) : CC s (m_12 0 (H s)) (wN (gd s 1)) (uW (gd s 1) (i3 0), (abC s).2) := by
  unfold m_12
  simp only [r_0, r_G g1, Option.bind_some, jn, cst, bP_if, rB_0, rB_1, z00, z10, ↓reduceIte, sf_g6]
  exact CC.set c (ok_uW0 c.1.1) (fun t ht => ht) _
theorem sa_mv {t x : Int32} (h : ok (gd s 1)) (ht : isT (gd s 1) t) : (st32 (cS (gd s 1)) t x).map (fun l => H (sa s 3 l)) = some (H (wG s 1 (mvT (gd s 1) t x))) := by
  have h1 := h.tl ht
  have h2 := h.n_le
  rw [st_wr ht.1 (by rw [h.2.2.2.1.2.1]; omega), Option.map_some]
  exact congrArg (fun z => some (H z)) (sa_g2 s 1 _)
theorem b_13 (c : CI s) (t x : Int32) : CC s (m_13 0 t x (H s)) (vMove (gd s 1) t x) (gMove (gd s 1) t x, (abC s).2) := by
  unfold m_13 vMove gMove
  simp only [r_0, Option.bind_some, jn, cst, bP_if, rB_0, rB_1, z00, z10, ↓reduceIte, q_67 c.1]
  by_cases c1 : nomv (gd s 1) t x = 0
  · obtain ⟨h1, h2, h3, h4⟩ := nomv_0 c1
    simp only [if_pos c1, r_G g1, c.1.1.at_c h1, Option.bind_some, jn, cst, bP_if, rB_0, rB_1, z00, z10, ↓reduceIte]
    rw [sa_mv c.1.1 h1]
    exact CC.set c (ok_mvT c.1.1 h1 h2 h4) (fun t ht => ht) _
  · simp only [if_neg c1]
    exact CC.ref c (nomv_B c1)
theorem b_14 (c : CI s) : CC s (m_14 0 (H s)) (vFell (gd s 1)) (gFell (gd s 1), (abC s).2) := by
  unfold m_14 vFell gFell
  simp only [r_0, r_G g1, Option.bind_some, jn, cst, bP_if, rB_0, rB_1, z00, z10, ↓reduceIte, q_90 g1 c.1.1]
  by_cases c1 : fel (gd s 1)
  · have h := ok_fell c.1.1 c1
    have cj := CJ_wG c.cj h
    obtain ⟨s1, e1, i1, m1, a1, es⟩ := q_62 cj (t := tN (gd s 1) - i3 1) h.2.1.1 (by rw [gd_wG]; exact Int32.le_refl _)
    simp only [if_pos c1, q_91 g1 c1.1, Option.bind_some, jn, cst, bP_if, rB_0, rB_1, z00, z10, ↓reduceIte, r_0, r_G g1, gd_wG]
    rw [show tN (uT (gd s 1) (tN (gd s 1) - i3 1)) = tN (gd s 1) - i3 1 from rfl, e1]
    simp only [Option.bind_some, jn, cst, bP_if, rB_0, rB_1, z00, z10, ↓reduceIte, r_0, r_G g1, eS_gd es g1, gd_wG]
    refine ⟨s1, rfl, i1, (eM_wG g1 h.sh c.1.1.sh).trans m1, ?_⟩
    rw [a1, ab_wG]
  · simp only [if_neg c1]
    exact CC.ref c isB5
theorem b_55 (c : CI s) (v : Int32) : CC s (m_55 0 v (H s)) (sE (gd s 1)) (uE (gd s 1) v, (abC s).2) := by
  unfold m_55
  simp only [r_0, r_G g1, Option.bind_some, jn, cst, bP_if, rB_0, rB_1, z00, z10, ↓reduceIte, sf_g7]
  exact CC.set c (ok_uE c.1.1 v) (fun t ht => ht) _
end PB
