/-! ===== points and lines ===== -/
noncomputable def px (D q : Nat) : Int := ((q / D : Nat) : Int)
noncomputable def py (D q : Nat) : Int := ((q % D : Nat) : Int)
noncomputable def dt (D a b c : Nat) : Int := (px D b - px D a) * (py D c - py D a) - (py D b - py D a) * (px D c - px D a)
theorem mul7 {x y : Int} (h1 : -7 ≤ x ∧ x ≤ 7) (h2 : -7 ≤ y ∧ y ≤ 7) : -49 ≤ x * y ∧ x * y ≤ 49 := by
  have key : ∀ a : Fin 15, ∀ b : Fin 15, -49 ≤ ((a.1 : Int) - 7) * ((b.1 : Int) - 7) ∧ ((a.1 : Int) - 7) * ((b.1 : Int) - 7) ≤ 49 := by decide +kernel
  have := key ⟨(x + 7).toNat, by omega⟩ ⟨(y + 7).toNat, by omega⟩
  dsimp only at this
  rw [show (((x + 7).toNat : Nat) : Int) - 7 = x by omega, show (((y + 7).toNat : Nat) : Int) - 7 = y by omega] at this
  exact this
theorem cr0 {a b x y z w : Int} (h : a ≠ 0 ∨ b ≠ 0) (h1 : a * y = b * x) (h2 : a * w = b * z) : x * w = y * z := by
  rcases h with h | h
  · refine Int.eq_of_mul_eq_mul_left h ?_
    have e1 : a * (x * w) = x * (a * w) := by ac_rfl
    have e2 : x * (b * z) = (b * x) * z := by ac_rfl
    have e3 : (a * y) * z = a * (y * z) := by ac_rfl
    rw [e1, h2, e2, ← h1, e3]
  · refine Int.eq_of_mul_eq_mul_left h ?_
    have e1 : b * (x * w) = (b * x) * w := by ac_rfl
    have e2 : (a * y) * w = y * (a * w) := by ac_rfl
    have e3 : y * (b * z) = b * (y * z) := by ac_rfl
    rw [e1, ← h1, e2, h2, e3]
theorem pt_ne {D p q : Nat} (h : p ≠ q) : px D q - px D p ≠ 0 ∨ py D q - py D p ≠ 0 := by
  by_cases e : px D q - px D p = 0
  · right
    intro e2
    apply h
    have a : p / D = q / D := by
      unfold px at e
      omega
    have b : p % D = q % D := by
      unfold py at e2
      omega
    exact rc_inj a b
  · exact Or.inl e
theorem dt_l (D a b : Nat) : dt D a b a = 0 := by
  unfold dt
  rw [Int.sub_self, Int.sub_self, Int.mul_zero, Int.mul_zero]
  rfl
theorem dt_r (D a b : Nat) : dt D a b b = 0 := by
  unfold dt
  rw [Int.mul_comm, Int.sub_self]
theorem tri0 {D p q x y z : Nat} (hne : p ≠ q) (h1 : dt D p q x = 0) (h2 : dt D p q y = 0) (h3 : dt D p q z = 0) : dt D x y z = 0 := by
  have hu := pt_ne (D := D) hne
  unfold dt at *
  generalize px D q - px D p = a at *
  generalize py D q - py D p = b at *
  have k1 : a * (py D x - py D p) = b * (px D x - px D p) := by omega
  have k2 : a * (py D y - py D p) = b * (px D y - px D p) := by omega
  have k3 : a * (py D z - py D p) = b * (px D z - px D p) := by omega
  have c1 := cr0 hu k1 k2
  have c2 := cr0 hu k1 k3
  have c3 := cr0 hu k2 k3
  have e1 : px D y - px D x = (px D y - px D p) - (px D x - px D p) := by omega
  have e2 : py D z - py D x = (py D z - py D p) - (py D x - py D p) := by omega
  have e3 : py D y - py D x = (py D y - py D p) - (py D x - py D p) := by omega
  have e4 : px D z - px D x = (px D z - px D p) - (px D x - px D p) := by omega
  rw [e1, e2, e3, e4]
  generalize px D x - px D p = x1 at *
  generalize py D x - py D p = x2 at *
  generalize px D y - px D p = y1 at *
  generalize py D y - py D p = y2 at *
  generalize px D z - px D p = z1 at *
  generalize py D z - py D p = z2 at *
  rw [Int.sub_mul, Int.mul_sub, Int.mul_sub, Int.sub_mul, Int.mul_sub, Int.mul_sub, Int.mul_comm y1 x2, Int.mul_comm y2 x1, Int.mul_comm x2 x1]
  omega
theorem dt_LL {D a b k l : Nat} (hab : a ≠ b) (hkl : k ≠ l) (h1 : dt D a b k = 0) (h2 : dt D a b l = 0) (x : Nat) : dt D k l x = 0 ↔ dt D a b x = 0 := by
  constructor
  · intro h
    exact tri0 hkl (tri0 hab h1 h2 (dt_l D a b)) (tri0 hab h1 h2 (dt_r D a b)) h
  · intro h
    exact tri0 hab h1 h2 h
/-! ===== trees ===== -/
noncomputable def cN (g : Gd) (k : Nat) : Nat := (cA g (i3 (k : Int))).toNatClampNeg
abbrev Co (g : Gd) (a b k : Nat) : Prop := dt (dn g) (cN g a) (cN g b) (cN g k) = 0
abbrev ch (g : Gd) (k : Nat) : Prop := kA g (i3 (k : Int)) = i3 4
section GE
variable {g : Gd}
theorem p_bd {D q : Nat} (hD : D ≤ 8) (hq : q < D * D) : 0 ≤ px D q ∧ px D q ≤ 7 ∧ 0 ≤ py D q ∧ py D q ≤ 7 := by
  have h := cell_rc hq
  have a : (0 : Int) ≤ ((q / D : Nat) : Int) := Int.natCast_nonneg _
  have b : (0 : Int) ≤ ((q % D : Nat) : Int) := Int.natCast_nonneg _
  unfold px py
  omega
theorem dt_bd {D a b c : Nat} (hD : D ≤ 8) (ha : a < D * D) (hb : b < D * D) (hc : c < D * D) : -98 ≤ dt D a b c ∧ dt D a b c ≤ 98 := by
  have pa := p_bd hD ha
  have pb := p_bd hD hb
  have pc' := p_bd hD hc
  unfold dt
  have m1 := mul7 (x := px D b - px D a) (y := py D c - py D a) (by omega) (by omega)
  have m2 := mul7 (x := py D b - py D a) (y := px D c - px D a) (by omega) (by omega)
  omega
theorem dar_N (h : ok g) {a b c : Nat} (ha : a < dn g * dn g) (hb : b < dn g * dn g) (hc : c < dn g * dn g) : dar g (i3 (a : Int)) (i3 (b : Int)) (i3 (c : Int)) = i3 (dt (dn g) a b c) := by
  have := h.cc_le
  unfold dar dt px py
  rw [h.ro (by omega), h.ro (by omega), h.ro (by omega), h.co (by omega), h.co (by omega), h.co (by omega), i3_sub, i3_sub, i3_sub, i3_sub, i3_mul, i3_mul, i3_sub]
theorem dar_0 (h : ok g) {a b c : Nat} (ha : a < dn g * dn g) (hb : b < dn g * dn g) (hc : c < dn g * dn g) : dar g (i3 (a : Int)) (i3 (b : Int)) (i3 (c : Int)) = 0 ↔ dt (dn g) a b c = 0 := by
  have := dt_bd h.d_le ha hb hc
  rw [dar_N h ha hb hc]
  exact i3_inj (y := 0) ⟨by omega, by omega⟩ ⟨by omega, by omega⟩
theorem ok.cNe (h : ok g) {k : Nat} (hk : k < nn g) : cA g (i3 (k : Int)) = i3 (cN g k : Int) ∧ cN g k < dn g * dn g := ⟨i3_cl (h.2.2.2.2.2.1 _ (h.T hk)).1, h.cl (h.2.2.2.2.2.1 _ (h.T hk))⟩
theorem ok.cNi (h : ok g) {a b : Nat} (ha : a < nn g) (hb : b < nn g) (hne : a ≠ b) : cN g a ≠ cN g b := fun e => hne (by
  have hn := h.n_le
  have e2 : cA g (i3 (a : Int)) = cA g (i3 (b : Int)) := by rw [(h.cNe ha).1, (h.cNe hb).1, e]
  exact (i3n_inj (by omega) (by omega)).mp (h.2.2.2.2.2.2.1 _ _ (h.T ha) (h.T hb) e2))
theorem dar_T (h : ok g) {a b k : Nat} (ha : a < nn g) (hb : b < nn g) (hk : k < nn g) : dar g (cA g (i3 (a : Int))) (cA g (i3 (b : Int))) (cA g (i3 (k : Int))) = 0 ↔ Co g a b k := by
  rw [(h.cNe ha).1, (h.cNe hb).1, (h.cNe hk).1]
  exact dar_0 h (h.cNe ha).2 (h.cNe hb).2 (h.cNe hk).2
theorem rw_bit (h : ok g) {a b : Nat} (ha : a < nn g) (hb : b < nn g) (x : Nat) : (rwm g (i3 (a : Int)) (i3 (b : Int))).testBit x = true ↔ x < nn g ∧ ¬ ch g x ∧ Co g a b x := by
  unfold rwm
  rw [msk_bit, Bool.and_eq_true, decide_eq_true_eq]
  constructor
  · rintro ⟨h1, h2⟩
    have h3 := of_decide_eq_true h2
    exact ⟨h1, h3.1, (dar_T h ha hb h1).mp h3.2⟩
  · rintro ⟨h1, h2, h3⟩
    exact ⟨h1, decide_eq_true ⟨h2, (dar_T h ha hb h1).mpr h3⟩⟩
theorem bits_ext {m m' : Nat} (h : ∀ x, m.testBit x = true ↔ m'.testBit x = true) : m = m' := Nat.eq_of_testBit_eq (fun x => by
  have := h x
  cases h1 : m.testBit x <;> cases h2 : m'.testBit x <;> simp_all)
/-- two trees of a line make it -/
theorem rw_same (h : ok g) {a b k l : Nat} (ha : a < nn g) (hb : b < nn g) (hk : k < nn g) (hl : l < nn g) (hab : a ≠ b) (hkl : k ≠ l) (h1 : Co g a b k) (h2 : Co g a b l) : rwm g (i3 (k : Int)) (i3 (l : Int)) = rwm g (i3 (a : Int)) (i3 (b : Int)) := bits_ext (fun x => by
  rw [rw_bit h hk hl, rw_bit h ha hb]
  have e := dt_LL (D := dn g) (h.cNi ha hb hab) (h.cNi hk hl hkl) h1 h2 (cN g x)
  exact ⟨fun q => ⟨q.1, q.2.1, e.mp q.2.2⟩, fun q => ⟨q.1, q.2.1, e.mpr q.2.2⟩⟩)
noncomputable def isRow (g : Gd) (m : Nat) : Prop := ∃ a b, a < nn g ∧ b < nn g ∧ a ≠ b ∧ ¬ ch g a ∧ ¬ ch g b ∧ m = rwm g (i3 (a : Int)) (i3 (b : Int))
theorem row_two (h : ok g) {m : Nat} (r : isRow g m) {k l : Nat} (hkl : k ≠ l) (hk : m.testBit k = true) (hl : m.testBit l = true) : m = rwm g (i3 (k : Int)) (i3 (l : Int)) ∧ k < nn g ∧ l < nn g ∧ ¬ ch g k ∧ ¬ ch g l := by
  obtain ⟨a, b, ha, hb, hab, ca, cb', rfl⟩ := r
  have k1 := (rw_bit h ha hb k).mp hk
  have l1 := (rw_bit h ha hb l).mp hl
  exact ⟨(rw_same h ha hb k1.1 l1.1 hab hkl k1.2.2 l1.2.2).symm, k1.1, l1.1, k1.2.1, l1.2.1⟩
theorem row_ab (h : ok g) {a b : Nat} (ha : a < nn g) (hb : b < nn g) (ca : ¬ ch g a) (cb' : ¬ ch g b) : (rwm g (i3 (a : Int)) (i3 (b : Int))).testBit a = true ∧ (rwm g (i3 (a : Int)) (i3 (b : Int))).testBit b = true := ⟨(rw_bit h ha hb a).mpr ⟨ha, ca, dt_l _ _ _⟩, (rw_bit h ha hb b).mpr ⟨hb, cb', dt_r _ _ _⟩⟩
end GE
/-! ===== lists that are put in order ===== -/
theorem insA_perm (x : Int32) : ∀ (n : Nat) (a : List Int32), n < a.length → ((insA x n a).take (n + 1)).Perm (x :: a.take n)
  | 0, a, h => by
    cases a with
    | nil => exact absurd h (Nat.not_lt_zero _)
    | cons b t => exact List.Perm.refl _
  | n + 1, a, h => by
    have hn : a.take (n + 1) = a.take n ++ [a.getD n 0] := by
      rw [List.take_add_one, List.getElem?_eq_getElem (by omega), List.getD_eq_getElem?_getD, List.getElem?_eq_getElem (by omega)]
      rfl
    unfold insA
    split
    · rw [List.take_add_one, List.getElem?_set_self (by omega), List.take_set_of_le (by omega)]
      exact List.perm_append_comm
    · have ih := insA_perm x n (a.set (n + 1) (a.getD n 0)) (by rw [List.length_set]; omega)
      rw [List.take_add_one, insA_hi x n _ (n + 1) (by omega), List.getElem?_set_self (by omega), hn]
      rw [List.take_set_of_le (by omega)] at ih
      exact (ih.append_right _)
theorem insL_perm (x : Int32) (L : List Int32) : (insL x L).Perm (x :: L) := by
  have h := insA_perm x L.length (L ++ [0]) (by rw [List.length_append]; exact Nat.lt_succ_self _)
  rw [List.take_left', List.take_of_length_le] at h
  · exact h
  · rw [insA_len, List.length_append]
    exact Nat.le_refl _
  · rfl
/-- the rows, unsorted -/
noncomputable def rcF (g : Gd) (i j : Nat) (L : List Int32) : List Int32 := if rlC g i j then rowS g (i3 (i : Int)) (i3 (j : Int)) :: L else L
noncomputable def rcI (g : Gd) (i : Nat) (L : List Int32) : List Int32 := itr (fun k => rcF g i (i + 1 + k)) (nn g - (i + 1)) L
noncomputable def RC (g : Gd) : List Int32 := itr (rcI g) (nn g) []
theorem RL_perm (g : Gd) : (RL g).Perm (RC g) := by
  have inner : ∀ (i n : Nat) (L M : List Int32), L.Perm M → (itr (fun k => rlF g i (i + 1 + k)) n L).Perm (itr (fun k => rcF g i (i + 1 + k)) n M) := by
    intro i n
    induction n with
    | zero => intro L M h; exact h
    | succ n ih =>
      intro L M h
      show (rlF g i (i + 1 + n) _).Perm (rcF g i (i + 1 + n) _)
      unfold rlF rcF
      split
      · exact (insL_perm _ _).trans ((ih L M h).cons _)
      · exact ih L M h
  have outer : ∀ n, (itr (rlI g) n []).Perm (itr (rcI g) n []) := by
    intro n
    induction n with
    | zero => exact List.Perm.refl _
    | succ n ih => exact inner n _ _ _ ih
  exact outer (nn g)
theorem rcin_mem {g : Gd} {y : Int32} : ∀ (i n : Nat) (L : List Int32), y ∈ itr (fun k => rcF g i (i + 1 + k)) n L ↔ y ∈ L ∨ ∃ k, k < n ∧ rlC g i (i + 1 + k) ∧ y = rowS g (i3 (i : Int)) (i3 ((i + 1 + k : Nat) : Int)) := by
  intro i n
  induction n with
  | zero => intro L; exact ⟨Or.inl, fun h => h.elim id (fun ⟨k, hk, _⟩ => absurd hk (Nat.not_lt_zero _))⟩
  | succ n ih =>
    intro L
    have e : y ∈ itr (fun k => rcF g i (i + 1 + k)) (n + 1) L ↔ y ∈ rcF g i (i + 1 + n) (itr (fun k => rcF g i (i + 1 + k)) n L) := Iff.rfl
    rw [e]
    unfold rcF
    split
    · rename_i c
      rw [List.mem_cons]
      have := ih L
      unfold rcF at this
      rw [this]
      constructor
      · rintro (h | h | ⟨k, h1, h2⟩)
        · exact Or.inr ⟨n, by omega, c, h⟩
        · exact Or.inl h
        · exact Or.inr ⟨k, by omega, h2⟩
      · rintro (h | ⟨k, h1, h2⟩)
        · exact Or.inr (Or.inl h)
        · by_cases e : k = n
          · subst e; exact Or.inl h2.2
          · exact Or.inr (Or.inr ⟨k, by omega, h2⟩)
    · rename_i c
      have := ih L
      unfold rcF at this
      rw [this]
      constructor
      · rintro (h | ⟨k, h1, h2⟩)
        · exact Or.inl h
        · exact Or.inr ⟨k, by omega, h2⟩
      · rintro (h | ⟨k, h1, h2⟩)
        · exact Or.inl h
        · by_cases e : k = n
          · subst e; exact absurd h2.1 c
          · exact Or.inr ⟨k, by omega, h2⟩
theorem rcout_mem {g : Gd} {y : Int32} : ∀ n, n ≤ nn g → (y ∈ itr (rcI g) n [] ↔ ∃ i j, i < n ∧ i < j ∧ j < nn g ∧ rlC g i j ∧ y = rowS g (i3 (i : Int)) (i3 (j : Int))) := by
  intro n
  induction n with
  | zero => intro _; exact ⟨fun h => (by cases h), fun ⟨i, j, h, _⟩ => absurd h (Nat.not_lt_zero _)⟩
  | succ n ih =>
    intro hn
    have e : y ∈ itr (rcI g) (n + 1) [] ↔ y ∈ itr (fun k => rcF g n (n + 1 + k)) (nn g - (n + 1)) (itr (rcI g) n []) := Iff.rfl
    rw [e, rcin_mem, ih (by omega)]
    constructor
    · rintro (⟨i, j, h1, h2⟩ | ⟨k, h1, h2, h3⟩)
      · exact ⟨i, j, by omega, h2⟩
      · exact ⟨n, n + 1 + k, by omega, by omega, by omega, h2, h3⟩
    · rintro ⟨i, j, h1, h2, h3, h4, h5⟩
      by_cases e2 : i = n
      · subst e2
        right
        refine ⟨j - (i + 1), by omega, ?_⟩
        rw [show i + 1 + (j - (i + 1)) = j by omega]
        exact ⟨h4, h5⟩
      · exact Or.inl ⟨i, j, by omega, h2, h3, h4, h5⟩
theorem RC_mem {g : Gd} {y : Int32} : y ∈ RC g ↔ ∃ i j, i < j ∧ j < nn g ∧ rlC g i j ∧ y = rowS g (i3 (i : Int)) (i3 (j : Int)) := by
  have := rcout_mem (g := g) (y := y) (nn g) (Nat.le_refl _)
  refine this.trans ⟨?_, ?_⟩
  · rintro ⟨i, j, -, h⟩; exact ⟨i, j, h⟩
  · rintro ⟨i, j, h1, h2, h3⟩; exact ⟨i, j, by omega, h1, h2, h3⟩
