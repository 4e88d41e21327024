section
/-! ===== the reference's garden ===== -/
theorem j_lt {x y : Int32} : lg_cmp (Int32.toInt64 x) (Int32.toInt64 y) < 0 ↔ x < y := by
  have e1 : (Int32.toInt64 x).toInt = x.toInt := Int32.toInt_toInt64 x
  have e2 : (Int32.toInt64 y).toInt = y.toInt := Int32.toInt_toInt64 y
  unfold lg_cmp
  by_cases c1 : Int32.toInt64 x > Int32.toInt64 y
  · rw [if_pos c1]
    have := Int64.lt_iff_toInt_lt.mp c1
    rw [e1, e2] at this
    refine ⟨fun e => absurd e (by decide +kernel), fun e => ?_⟩
    have := Int32.lt_iff_toInt_lt.mp e
    omega
  · rw [if_neg c1]
    have n1 : ¬ y.toInt < x.toInt := fun e => c1 (Int64.lt_iff_toInt_lt.mpr (by rw [e1, e2]; exact e))
    by_cases c2 : Int32.toInt64 x = Int32.toInt64 y
    · rw [if_pos c2]
      have : x.toInt = y.toInt := by rw [← e1, ← e2, c2]
      refine ⟨fun e => absurd e (by decide +kernel), fun e => ?_⟩
      have := Int32.lt_iff_toInt_lt.mp e
      omega
    · rw [if_neg c2]
      have n2 : x.toInt ≠ y.toInt := fun e => c2 (Int64.toInt_inj.mp (by rw [e1, e2]; exact e))
      exact ⟨fun _ => Int32.lt_iff_toInt_lt.mpr (by omega), fun _ => by decide +kernel⟩
theorem j_gt {x y : Int32} : 0 < lg_cmp (Int32.toInt64 x) (Int32.toInt64 y) ↔ y < x := by
  have e1 : (Int32.toInt64 x).toInt = x.toInt := Int32.toInt_toInt64 x
  have e2 : (Int32.toInt64 y).toInt = y.toInt := Int32.toInt_toInt64 y
  unfold lg_cmp
  by_cases c1 : Int32.toInt64 x > Int32.toInt64 y
  · rw [if_pos c1]
    have := Int64.lt_iff_toInt_lt.mp c1
    rw [e1, e2] at this
    exact ⟨fun _ => Int32.lt_iff_toInt_lt.mpr this, fun _ => by decide +kernel⟩
  · rw [if_neg c1]
    have n1 : ¬ y.toInt < x.toInt := fun e => c1 (Int64.lt_iff_toInt_lt.mpr (by rw [e1, e2]; exact e))
    refine ⟨fun e => ?_, fun e => absurd (Int32.lt_iff_toInt_lt.mp e) n1⟩
    by_cases c2 : Int32.toInt64 x = Int32.toInt64 y
    · rw [if_pos c2] at e
      exact absurd e (by decide +kernel)
    · rw [if_neg c2] at e
      exact absurd e (by decide +kernel)
theorem q_190 (x l u : Int32) (th : tH) : m_190 (Int32.toInt64 x) (Int32.toInt64 l) (Int32.toInt64 u) th = some (bP (¬ x < l ∧ ¬ u < x)) := by
  unfold m_190 jn
  dsimp only
  by_cases c1 : x < l
  · rw [if_pos (j_lt.mpr c1), bP_f (fun e => e.1 c1)]; rfl
  · rw [if_neg (fun e => c1 (j_lt.mp e))]
    by_cases c2 : u < x
    · rw [if_pos (j_gt.mpr c2), bP_f (fun e => e.2 c2)]; rfl
    · rw [if_neg (fun e => c2 (j_gt.mp e)), bP_t ⟨c1, c2⟩]; rfl
theorem jc : Int64.ofNat 0 = Int32.toInt64 (i3 0) ∧ Int64.ofNat 1 = Int32.toInt64 (i3 1) ∧ Int64.ofNat 2 = Int32.toInt64 (i3 2) ∧ Int64.ofNat 3 = Int32.toInt64 (i3 3) ∧ Int64.ofNat 4 = Int32.toInt64 (i3 4) ∧ Int64.ofNat 5 = Int32.toInt64 (i3 5) ∧ Int64.ofNat 7 = Int32.toInt64 (i3 7) ∧ Int64.ofNat 8 = Int32.toInt64 (i3 8) ∧ Int64.ofNat 9 = Int32.toInt64 (i3 9) ∧ Int64.ofNat 12 = Int32.toInt64 (i3 12) ∧ Int64.ofNat 16 = Int32.toInt64 (i3 16) ∧ Int64.ofNat 40 = Int32.toInt64 (i3 40) ∧ Int64.ofNat 255 = Int32.toInt64 (i3 255) ∧ Int64.ofNat 18446744073709551615 = Int32.toInt64 (i3 (-1)) := by decide +kernel
theorem pred_lt {x y : Int32} (hy : ∃ k : Nat, k < 1000 ∧ y = i3 (k : Int)) (h0 : ¬ x < 0) : (y - i3 1 < x) ↔ y ≤ x := by
  obtain ⟨k, hk, rfl⟩ := hy
  have e : i3 (k : Int) - i3 1 = i3 ((k : Int) - 1) := i3_sub _ _
  rw [e, Int32.lt_iff_toInt_lt, Int32.le_iff_toInt_le, i3_toInt ⟨by omega, by omega⟩, i3_toInt ⟨by omega, by omega⟩]
  omega
theorem pred_iff {x y : Int32} (hy : ∃ k : Nat, k < 1000 ∧ y = i3 (k : Int)) : (¬ x < i3 0 ∧ ¬ y - i3 1 < x) ↔ (¬ x < 0 ∧ ¬ y ≤ x) := ⟨fun e => ⟨e.1, fun h => e.2 ((pred_lt hy e.1).mpr h)⟩, fun e => ⟨e.1, fun h => e.2 ((pred_lt hy e.1).mp h)⟩⟩
theorem bP_congr {P Q : Prop} {i : Decidable P} {j : Decidable Q} (h : P ↔ Q) : @bP P i = @bP Q j := by
  unfold bP
  by_cases c : Q
  · rw [if_pos c, if_pos (h.mpr c)]
  · rw [if_neg c, if_neg (fun e => c (h.mp e))]
theorem ok.nk {g : Gd} (h : ok g) : ∃ k : Nat, k < 1000 ∧ tN g = i3 (k : Int) := ⟨nn g, by have := h.n_le; omega, h.n_eq⟩
theorem ok.wk {g : Gd} (h : ok g) : ∃ k : Nat, k < 1000 ∧ wN g = i3 (k : Int) := ⟨wn g, by have := h.w_le; omega, h.w_eq⟩
theorem ok.ck {g : Gd} (h : ok g) : ∃ k : Nat, k < 1000 ∧ cc g = i3 (k : Int) := ⟨dn g * dn g, by have := h.cc_le; omega, h.cc_eq⟩
abbrev hs (x t : Int32) : Prop := ¬ ((x >>> (t &&& 31)) &&& i3 1) = 0
section MG
variable {s : St}
theorem q_191 (h : ok (md s 44)) (x : Int32) : m_191 44 x (H s) = some (bP (isT (md s 44) x)) := by
  have gt : gI (H s) 8 44 10 = some (tN (md s 44)) := rfl
  unfold m_191
  rw [(r_m s).1, Option.bind_some, gt, Option.bind_some, jc.1, q_190, Option.bind_some, rB_bP]
  exact congrArg some (bP_congr (pred_iff h.nk))
theorem q_192 : m_192 44 (H s) = some (cc (md s 44)) := rfl
theorem q_193 (h : ok (md s 44)) (x : Int32) : m_193 44 x (H s) = some (bP (isCl (md s 44) x)) := by
  unfold m_193
  rw [(r_m s).1, Option.bind_some, q_192, Option.bind_some, jc.1, q_190, Option.bind_some, rB_bP]
  exact congrArg some (bP_congr (pred_iff h.ck))
theorem q_194 (h : ok (md s 44)) (c : Int32) : m_194 44 c (H s) = some (tIn (md s 44) c) := by
  unfold m_194
  simp only [r_m, Option.bind_some, jn, cst, bP_if, rB_0, rB_1, z00, z10, ↓reduceIte]
  refine (lpS (nn (md s 44)) (by have := h.n_le; omega) (fun t => t) () (fun k => decide (cA (md s 44) (i3 (k : Int)) = c)) (fun k => some (i3 (k : Int))) ?_ ?_).trans ?_
  · intro k nx ex hk
    simp only [(h.T hk).2, h.at_c (h.T hk), Option.bind_some, jn, cst, bP_if, rB_0, rB_1, z00, z10, ↓reduceIte, decide_eq_true_eq]
  · intro nx ex
    simp only [h.Te (Nat.le_refl _) (by have := h.n_le; omega), Option.bind_some, jn, cst, bP_if, rB_0, rB_1, z00, z10, ↓reduceIte]
  · unfold tIn oI
    cases fst? (fun k => decide (cA (md s 44) (i3 (k : Int)) = c)) (nn (md s 44)) 0 <;> rfl
theorem q_195 (x t : Int32) (th : tH) : m_195 x t th = some (bP (hs x t)) := by
  unfold m_195 jn
  dsimp only
  unfold bP
  by_cases c : ((x >>> (t &&& 31)) &&& i3 1) = 0
  · rw [if_pos c, if_neg (fun e => e c)]; rfl
  · rw [if_neg c, if_pos c]; rfl
noncomputable def bsF (x : Int32) (k : Nat) (m : Int32) : Int32 := m + ((x >>> (i3 (k : Int) &&& 31)) &&& i3 1)
noncomputable def bs (x : Int32) : Int32 := itr (bsF x) 12 (i3 0)
theorem q_196 (x : Int32) (th : tH) : m_196 x th = some (bs x) := by
  unfold m_196
  simp only [Option.bind_some, jn, cst, bP_if, rB_0, rB_1, z00, z10, ↓reduceIte]
  refine (lp0 12 (by omega) (fun t a => (a, t)) (fun a => a) (bsF x) (fun _ => True) (i3 0) ?_ (fun _ _ _ _ => trivial) ?_ trivial).trans rfl
  · intro k m nx ex hk _
    have e : ¬ i3 12 ≤ i3 (k : Int) := by
      show ¬ i3 ((12 : Nat) : Int) ≤ i3 (k : Int)
      rw [i3n_le (by omega) (by omega)]; omega
    simp only [e, Option.bind_some, jn, cst, bP_if, rB_0, rB_1, z00, z10, ↓reduceIte]
    rfl
  · intro a nx ex _
    have e : i3 12 ≤ i3 ((12 : Nat) : Int) := by decide +kernel
    simp only [e, Option.bind_some, jn, cst, bP_if, rB_0, rB_1, z00, z10, ↓reduceIte]
theorem q_197 (h : ok (md s 44)) {t : Int32} (ht : isT (md s 44) t) : m_197 44 t (H s) = some (bP (kOf (kA (md s 44) t) (i3 1))) := by
  unfold m_197
  simp only [r_m, Option.bind_some, jn, cst, bP_if, rB_0, rB_1, z00, z10, ↓reduceIte, h.at_k ht]
  generalize kA (md s 44) t = x
  by_cases c1 : x = i3 1
  · rw [if_pos c1, bP_t (Or.inl c1)]
  · rw [if_neg c1]
    by_cases c2 : x = i3 3
    · rw [if_pos c2, bP_t (Or.inr (Or.inr (Or.inl ⟨c2, rfl⟩)))]
    · rw [if_neg c2, bP_f]
      rintro (e | e | ⟨e, -⟩ | ⟨-, e⟩)
      · exact c1 e
      · exact absurd e (by decide +kernel)
      · exact c2 e
      · exact absurd e (by decide +kernel)
theorem q_198 (h : ok (md s 44)) {t : Int32} (ht : isT (md s 44) t) : m_198 44 t (H s) = some (bP (kOf (kA (md s 44) t) (i3 2))) := by
  unfold m_198
  simp only [r_m, Option.bind_some, jn, cst, bP_if, rB_0, rB_1, z00, z10, ↓reduceIte, h.at_k ht]
  generalize kA (md s 44) t = x
  by_cases c1 : x = i3 2
  · rw [if_pos c1, bP_t (Or.inl c1)]
  · rw [if_neg c1]
    by_cases c2 : x = i3 5
    · rw [if_pos c2, bP_t (Or.inr (Or.inr (Or.inr ⟨c2, rfl⟩)))]
    · rw [if_neg c2, bP_f]
      rintro (e | e | ⟨-, e⟩ | ⟨e, -⟩)
      · exact c1 e
      · exact absurd e (by decide +kernel)
      · exact absurd e (by decide +kernel)
      · exact c2 e
theorem k4 (x : Int32) : kOf x (i3 4) ↔ x = i3 4 := by
  constructor
  · rintro (e | e | ⟨-, e⟩ | ⟨-, e⟩)
    · exact e
    · exact absurd e (by decide +kernel)
    · exact absurd e (by decide +kernel)
    · exact absurd e (by decide +kernel)
  · exact Or.inl
theorem ok.dv {g : Gd} (h : ok g) (a : Int32) : dvI a (sD g) = some (rO g a) := if_neg h.d_0
theorem ok.rm {g : Gd} (h : ok g) (a : Int32) : rmI a (sD g) = some (cO g a) := if_neg h.d_0
theorem r_md (s : St) : gC (H s) 8 44 = some () ∧ gI (H s) 8 44 9 = some (sD (md s 44)) := ⟨rfl, rfl⟩
theorem q_235 (h : ok (md s 44)) (a b c : Int32) : m_235 44 a b c (H s) = some (dar (md s 44) a b c) := by
  unfold m_235
  simp only [r_md, h.dv, h.rm, Option.bind_some]
  rfl
theorem q_236 (h : ok (md s 44)) (a b c : Int32) : m_236 44 a b c (H s) = some (bP (dar (md s 44) a b c = 0)) := by
  unfold m_236 jn
  dsimp only
  rw [(r_m s).1, Option.bind_some, q_235 h, Option.bind_some]
  unfold bP
  split <;> rfl
theorem abI_neg (x : Int32) : (if 0 ≤ x then x else -x) = abI x := by
  unfold abI
  split
  · rfl
  · exact (Int32.zero_sub x).symm
theorem q_237 (h : ok (md s 44)) (a b : Int32) : m_237 44 a b (H s) = some (dst (md s 44) a b) := by
  unfold m_237 jn dst
  simp only [r_md, h.dv, h.rm, Option.bind_some]
  generalize rO (md s 44) a - rO (md s 44) b = x
  generalize cO (md s 44) a - cO (md s 44) b = y
  rw [← abI_neg x, ← abI_neg y]
  by_cases c1 : 0 ≤ x
  · rw [if_pos c1, if_pos c1]
    by_cases c2 : 0 ≤ y
    · rw [if_pos c2, if_pos c2]
    · rw [if_neg c2, if_neg c2]
  · rw [if_neg c1, if_neg c1]
    by_cases c2 : 0 ≤ y
    · rw [if_pos c2, if_pos c2]
    · rw [if_neg c2, if_neg c2]
theorem q_238 (h : ok (md s 44)) (a b : Int32) : m_238 44 a b (H s) = some (sqr (md s 44) a b) := by
  unfold m_238
  simp only [r_md, h.dv, h.rm, Option.bind_some]
  rfl
end MG
/-! ===== rows: the same ===== -/
theorem mul_sub_self (a b : Int32) : (a - a) * b = 0 ∧ b * (a - a) = 0 := by
  rw [Int32.sub_self]
  exact ⟨Int32.zero_mul, Int32.mul_zero⟩
theorem dar_l (g : Gd) (a b : Int32) : dar g a b a = 0 := by
  unfold dar
  rw [Int32.sub_self, Int32.sub_self, Int32.mul_zero, Int32.mul_zero]
  rfl
theorem dar_r (g : Gd) (a b : Int32) : dar g a b b = 0 := by
  unfold dar
  rw [Int32.mul_comm, Int32.sub_self]
noncomputable def rmF (g : Gd) (a b : Int32) (k : Nat) (m : Int32) : Int32 := if (i3 (k : Int) = a ∨ i3 (k : Int) = b ∨ dar g (cA g a) (cA g b) (cA g (i3 (k : Int))) = 0) ∧ ¬ kA g (i3 (k : Int)) = i3 4 then m ||| bit (i3 (k : Int)) else m
theorem rmF_eq (g : Gd) (a b : Int32) (k : Nat) (m : Int32) : rmF g a b k m = rowF g a b k m := by
  unfold rmF rowF
  by_cases c1 : kA g (i3 (k : Int)) = i3 4
  · rw [if_neg (fun e => e.2 c1), if_pos ((k4 _).mpr c1)]
  · rw [if_neg (fun e => c1 ((k4 _).mp e))]
    by_cases c2 : dar g (cA g a) (cA g b) (cA g (i3 (k : Int))) = 0
    · rw [if_pos ⟨Or.inr (Or.inr c2), c1⟩, if_pos c2]
    · rw [if_neg c2, if_neg]
      rintro ⟨e | e | e, -⟩
      · rw [e] at c2; exact c2 (dar_l g _ _)
      · rw [e] at c2; exact c2 (dar_r g _ _)
      · exact c2 e
section MR
variable {s : St}
theorem q_239 (h : ok (md s 44)) {a b : Int32} (ha : isT (md s 44) a) (hb : isT (md s 44) b) : m_239 44 a b (H s) = some (rowS (md s 44) a b) := by
  have e0 : rowS (md s 44) a b = itr (rmF (md s 44) a b) (nn (md s 44)) (i3 0) := itr_congr (fun k m _ => (rmF_eq _ _ _ k m).symm)
  rw [e0]
  unfold m_239
  simp only [r_m, jn, Option.bind_some]
  refine (lp0 (nn (md s 44)) (by have := h.n_le; omega) (fun t a => (a, t)) (fun a => a) (rmF (md s 44) a b) (fun _ => True) (i3 0) ?_ (fun _ _ _ _ => trivial) ?_ trivial).trans rfl
  · intro k m nx ex hk _
    have z0 : ∀ m : Int32, m ||| Int32.ofInt 0 = m := fun m => Int32.or_zero
    have hT := h.T hk
    have q6 := q_236 h (cA (md s 44) a) (cA (md s 44) b) (cA (md s 44) (i3 (k : Int)))
    dsimp only
    rw [if_neg hT.2]
    have two : ((if Int32.ofInt 1 = 0 then nx (m ||| Int32.ofInt 0, i3 (k : Int) + Int32.ofInt 1) else (at32 (kS (md s 44)) (i3 (k : Int))).bind fun x13 => if x13 = Int32.ofInt 4 then nx (m ||| Int32.ofInt 0, i3 (k : Int) + Int32.ofInt 1) else nx (m ||| Int32.ofInt 1 <<< (i3 (k : Int) &&& 31), i3 (k : Int) + Int32.ofInt 1))) = nx (if ¬ kA (md s 44) (i3 (k : Int)) = i3 4 then m ||| bit (i3 (k : Int)) else m, i3 (k : Int) + Int32.ofInt 1) := by
      rw [if_neg e1_0, h.at_k hT, Option.bind_some, z0]
      by_cases c : kA (md s 44) (i3 (k : Int)) = i3 4
      · rw [if_pos c, if_neg (fun e => e c)]
      · rw [if_neg c, if_pos c]
        rfl
    have fin : (i3 (k : Int) = a ∨ i3 (k : Int) = b ∨ dar (md s 44) (cA (md s 44) a) (cA (md s 44) b) (cA (md s 44) (i3 (k : Int))) = 0) → rmF (md s 44) a b k m = if ¬ kA (md s 44) (i3 (k : Int)) = i3 4 then m ||| bit (i3 (k : Int)) else m := fun hp => by
      unfold rmF
      by_cases c : kA (md s 44) (i3 (k : Int)) = i3 4
      · rw [if_neg (fun e => e.2 c), if_neg (fun e => e c)]
      · rw [if_pos ⟨hp, c⟩, if_pos c]
    by_cases c1 : i3 (k : Int) = a
    · rw [if_pos c1, fin (Or.inl c1)]
      exact two
    rw [if_neg c1]
    by_cases c2 : i3 (k : Int) = b
    · rw [if_pos c2, fin (Or.inr (Or.inl c2))]
      exact two
    rw [if_neg c2, h.at_c ha, Option.bind_some, h.at_c hb, Option.bind_some, h.at_c hT, Option.bind_some, q6, Option.bind_some, bP_if]
    by_cases c3 : dar (md s 44) (cA (md s 44) a) (cA (md s 44) b) (cA (md s 44) (i3 (k : Int))) = 0
    · rw [if_pos c3, fin (Or.inr (Or.inr c3))]
      exact two
    · rw [if_neg c3, if_pos e0_0, z0]
      have : rmF (md s 44) a b k m = m := by
        unfold rmF
        exact if_neg (fun e => e.1.elim c1 (fun e => e.elim c2 c3))
      rw [this]
  · intro a nx ex _
    simp only [h.Te (Nat.le_refl _) (by have := h.n_le; omega), Option.bind_some, jn, cst, bP_if, rB_0, rB_1, z00, z10, ↓reduceIte]
end MR
end
section
/-! ===== rows as masks ===== -/
noncomputable def msk (p : Nat → Bool) : Nat → Nat
  | 0 => 0
  | n + 1 => if p n = true then msk p n ||| 2 ^ n else msk p n
theorem msk_bit (p : Nat → Bool) : ∀ (n j : Nat), (msk p n).testBit j = (decide (j < n) && p j)
  | 0, j => by
    show Nat.testBit 0 j = _
    simp
  | n + 1, j => by
    have ih := msk_bit p n j
    show (if p n = true then msk p n ||| 2 ^ n else msk p n).testBit j = _
    by_cases c : p n = true
    · rw [if_pos c, Nat.testBit_or, ih, Nat.testBit_two_pow]
      by_cases e : n = j
      · subst e; simp [c]
      · have e2 : decide (j < n + 1) = decide (j < n) := by
          apply decide_eq_decide.mpr; omega
        rw [e2]; simp [e]
    · rw [if_neg c, ih]
      by_cases e : n = j
      · subst e; simp [c]
      · have e2 : decide (j < n + 1) = decide (j < n) := by
          apply decide_eq_decide.mpr; omega
        rw [e2]
theorem msk_lt (p : Nat → Bool) (n : Nat) : msk p n < 2 ^ n := Nat.lt_pow_two_of_testBit _ (fun j hj => by rw [msk_bit, decide_eq_false (by omega), Bool.false_and])
theorem msk_congr {p q : Nat → Bool} : ∀ {n : Nat}, (∀ k, k < n → p k = q k) → msk p n = msk q n
  | 0, _ => rfl
  | n + 1, h => by
    show (if p n = true then msk p n ||| 2 ^ n else msk p n) = (if q n = true then msk q n ||| 2 ^ n else msk q n)
    rw [msk_congr (fun k hk => h k (by omega)), h n (by omega)]
/-- a fold that gathers bits -/
theorem itr_msk {p : Nat → Bool} {f : Nat → Int32 → Int32} (hf : ∀ k m, f k m = if p k = true then m ||| bit (i3 (k : Int)) else m) : ∀ n, n ≤ 12 → itr f n (i3 0) = i3 (msk p n : Int)
  | 0, _ => rfl
  | n + 1, hn => by
    show f n (itr f n (i3 0)) = _
    rw [itr_msk hf n (by omega), hf, bit_eq (by omega), i3_or]
    show _ = i3 ((if p n = true then msk p n ||| 2 ^ n else msk p n : Nat) : Int)
    split <;> rfl
noncomputable def rP (g : Gd) (a b : Int32) (k : Nat) : Bool := decide (¬ kA g (i3 (k : Int)) = i3 4 ∧ dar g (cA g a) (cA g b) (cA g (i3 (k : Int))) = 0)
noncomputable def rwm (g : Gd) (a b : Int32) : Nat := msk (rP g a b) (nn g)
theorem rowS_eq {g : Gd} (h : ok g) (a b : Int32) : rowS g a b = i3 (rwm g a b : Int) := by
  refine itr_msk (fun k m => ?_) _ h.n_le
  unfold rowF rP
  by_cases c1 : kA g (i3 (k : Int)) = i3 4
  · rw [if_pos ((k4 _).mpr c1), decide_eq_false (fun e => e.1 c1), if_neg (by decide)]
  · rw [if_neg (fun e => c1 ((k4 _).mp e))]
    by_cases c2 : dar g (cA g a) (cA g b) (cA g (i3 (k : Int))) = 0
    · rw [if_pos c2, decide_eq_true ⟨c1, c2⟩, if_pos rfl]
    · rw [if_neg c2, decide_eq_false (fun e => c2 e.2), if_neg (by decide)]
theorem rwm_lt (g : Gd) (a b : Int32) : rwm g a b < 2 ^ nn g := msk_lt _ _
theorem rwm_4096 {g : Gd} (h : ok g) (a b : Int32) : rwm g a b < 4096 := Nat.lt_of_lt_of_le (rwm_lt g a b) (p12 h.n_le)
theorem rwm_bit {g : Gd} (a b : Int32) {k : Nat} (hk : k < nn g) : (rwm g a b).testBit k = rP g a b k := by
  unfold rwm
  rw [msk_bit, decide_eq_true hk, Bool.true_and]
theorem lo2_eq {m : Nat} (hm : m < 4096) : lo2 m = (fst? (fun t => m.testBit t) (12 - (lo m + 1)) (lo m + 1)).getD 32 := lo2_all m
theorem fst?_is {p : Nat → Bool} {n l k : Nat} (h1 : l ≤ k) (h2 : k < l + n) (h3 : p k = true) (h4 : ∀ j, l ≤ j → j < k → p j = false) : fst? p n l = some k := by
  cases hf : fst? p n l with
  | none => rw [fst?_none hf k h1 h2] at h3; cases h3
  | some j =>
    obtain ⟨a, b, c, d⟩ := fst?_some hf
    by_cases e : j < k
    · rw [h4 j a e] at c; cases c
    · by_cases e2 : k < j
      · rw [d k h1 e2] at h3; cases h3
      · rw [show j = k by omega]
theorem two_iff {m i j : Nat} (hm : m < 4096) (hij : i < j) (hj : j < 12) : (lo m = i ∧ lo2 m = j) ↔ (m.testBit i = true ∧ m.testBit j = true ∧ ∀ k, k < j → k ≠ i → m.testBit k = false) := by
  constructor
  · rintro ⟨h1, h2⟩
    rw [lo2_eq hm, h1] at h2
    have a : fst? (fun t => m.testBit t) 12 0 = some i := by
      unfold lo at h1
      cases hf : fst? (fun t => m.testBit t) 12 0 with
      | none => rw [hf] at h1; simp at h1; omega
      | some k => rw [hf] at h1; simp at h1; rw [h1]
    have b : fst? (fun t => m.testBit t) (12 - (i + 1)) (i + 1) = some j := by
      cases hf : fst? (fun t => m.testBit t) (12 - (i + 1)) (i + 1) with
      | none => rw [hf] at h2; simp at h2; omega
      | some k => rw [hf] at h2; simp at h2; rw [h2]
    obtain ⟨a1, a2, a3, a4⟩ := fst?_some a
    obtain ⟨b1, b2, b3, b4⟩ := fst?_some b
    refine ⟨a3, b3, fun k hk hki => ?_⟩
    by_cases c : k < i
    · exact a4 k (Nat.zero_le _) c
    · exact b4 k (by omega) hk
  · rintro ⟨h1, h2, h3⟩
    have a : fst? (fun t => m.testBit t) 12 0 = some i := fst?_is (Nat.zero_le _) (by omega) h1 (fun k _ hk => h3 k (by omega) (by omega))
    have e1 : lo m = i := by unfold lo; rw [a]; rfl
    refine ⟨e1, ?_⟩
    rw [lo2_eq hm, e1, fst?_is (k := j) (by omega) (by omega) h2 (fun k hk hk2 => h3 k hk2 (by omega))]
    rfl
theorem low_iff {m i j : Nat} (hm : m < 4096) (hij : i < j) (hj : j < 12) : (i3 (m : Int) &&& (bit (i3 (j : Int)) - i3 1)) = bit (i3 (i : Int)) ↔ (m.testBit i = true ∧ ∀ k, k < j → k ≠ i → m.testBit k = false) := by
  have e1 : bit (i3 (j : Int)) - i3 1 = i3 ((2 ^ j - 1 : Nat) : Int) := by
    rw [bit_eq (by omega)]
    exact i3_nat_sub (Nat.two_pow_pos j)
  have b1 : m % 2 ^ j < 2147483648 := Nat.lt_of_le_of_lt (Nat.mod_le _ _) (by omega)
  have b2 : 2 ^ i < 2147483648 := Nat.lt_of_le_of_lt (Nat.pow_le_pow_right (by omega) (show i ≤ 12 by omega)) (by decide)
  rw [e1, bit_eq (by omega), i3_and, Nat.and_two_pow_sub_one_eq_mod, i3n_inj b1 b2]
  constructor
  · intro h
    have hb : ∀ k, (m % 2 ^ j).testBit k = (2 ^ i).testBit k := fun k => by rw [h]
    refine ⟨?_, fun k hk hki => ?_⟩
    · have := hb i
      rw [Nat.testBit_mod_two_pow, Nat.testBit_two_pow_self, decide_eq_true hij, Bool.true_and] at this
      exact this
    · have := hb k
      rw [Nat.testBit_mod_two_pow, Nat.testBit_two_pow, decide_eq_true hk, Bool.true_and, decide_eq_false (fun e => hki e.symm)] at this
      exact this
  · rintro ⟨h1, h2⟩
    apply Nat.eq_of_testBit_eq
    intro k
    rw [Nat.testBit_mod_two_pow, Nat.testBit_two_pow]
    by_cases c : k < j
    · rw [decide_eq_true c, Bool.true_and]
      by_cases e : i = k
      · subst e; rw [h1]; simp
      · rw [h2 k c (fun e' => e e'.symm), decide_eq_false e]
    · rw [decide_eq_false c, Bool.false_and, decide_eq_false (by omega)]
abbrev rmC (g : Gd) (i j : Nat) : Prop := ¬ kA g (i3 (i : Int)) = i3 4 ∧ ¬ kA g (i3 (j : Int)) = i3 4 ∧ (rowS g (i3 (i : Int)) (i3 (j : Int)) &&& (bit (i3 (j : Int)) - i3 1)) = bit (i3 (i : Int))
theorem rmC_iff {g : Gd} (h : ok g) {i j : Nat} (hij : i < j) (hj : j < nn g) : rlC g i j ↔ rmC g i j := by
  have hn := h.n_le
  have hm := rwm_4096 h (i3 (i : Int)) (i3 (j : Int))
  have bi : (rwm g (i3 (i : Int)) (i3 (j : Int))).testBit i = true ↔ ¬ kA g (i3 (i : Int)) = i3 4 := by
    rw [rwm_bit _ _ (by omega)]
    unfold rP
    rw [decide_eq_true_eq]
    exact ⟨fun e => e.1, fun e => ⟨e, dar_l g _ _⟩⟩
  have bj : (rwm g (i3 (i : Int)) (i3 (j : Int))).testBit j = true ↔ ¬ kA g (i3 (j : Int)) = i3 4 := by
    rw [rwm_bit _ _ hj]
    unfold rP
    rw [decide_eq_true_eq]
    exact ⟨fun e => e.1, fun e => ⟨e, dar_r g _ _⟩⟩
  unfold rlC rmC
  rw [rowS_eq h, ntz_eq hm, ntz2_eq hm, low_iff hm hij (by omega)]
  have L : ∀ m, lo m < 2147483648 := fun m => by
    unfold lo
    cases hf : fst? (fun t => m.testBit t) 12 0 with
    | none => simp
    | some k =>
      have := (fst?_some hf).2.1
      show k < _
      omega
  rw [i3n_inj (L _) (by omega), i3n_inj (show lo2 _ < _ from L _) (by omega), two_iff hm hij (by omega), bi, bj]
  constructor
  · rintro ⟨a, b, c⟩; exact ⟨a, b, a, c⟩
  · rintro ⟨a, b, -, c⟩; exact ⟨a, b, c⟩
/-! ===== the reference finds the same rows ===== -/
noncomputable def rowsM (s : St) (L : List Int32) : Prop := fi s 44 27 = i3 (L.length : Int) ∧ L.length ≤ 66 ∧ pre L (ia s 66)
section MW
variable {s : St}
theorem q_241 {n : Nat} {x : Int32} (hc : fi s 44 27 = i3 (n : Int)) (hn : n < 66) (hl : (ia s 66).length = 70) : m_241 44 x (H s) = some (H (sa (sf s 44 27 (i3 ((n + 1 : Nat) : Int))) 66 (insA x n (ia s 66)))) := by
  have g27 : ∀ t : St, gI (H t) 8 44 27 = some (fi t 44 27) := fun _ => rfl
  have p27 : ∀ (t : St) x, pI (H t) 8 44 27 x = some (H (sf t 44 27 x)) := fun _ _ => rfl
  have g26 : ∀ t : St, gN (H t) 8 44 26 = some 66 := fun _ => rfl
  have a66 : ∀ (t : St) i, aI (H t) 66 i = at32 (ia t 66) i := fun _ _ => aI_of rfl
  have s66 : ∀ (t : St) i x, sI (H t) 66 i x = (st32 (ia t 66) i x).map (fun l => H (sa t 66 l)) := fun _ _ _ => sI_of rfl
  unfold m_241
  rw [(r_m s).1, Option.bind_some, g27, Option.bind_some, p27, Option.bind_some, hc, i3_nat_add]
  generalize hs0 : sf s 44 27 (i3 ((n + 1 : Nat) : Int)) = s0
  have hia : ia s0 66 = ia s 66 := by rw [← hs0]; rfl
  rw [← hia]
  have hl0 : (ia s0 66).length = 70 := by rw [hia]; exact hl
  have key : ∀ (F : Int32 × tH → (Int32 × tH → Option tH) → (Int32 × tH → Option tH) → Option tH) (K : Int32 × tH → Option tH), (∀ p nx ex (b : List Int32), p = 0 → b.length = 70 → F (i3 (p : Nat), H (sa s0 66 b)) nx ex = ex (i3 (p : Nat), H (sa s0 66 b))) → (∀ (p : Nat) nx ex (b : List Int32), 0 < p → p < 70 → b.length = 70 → F (i3 (p : Nat), H (sa s0 66 b)) nx ex = if b.getD (p - 1) 0 ≤ x then ex (i3 (p : Nat), H (sa s0 66 b)) else nx (i3 ((p - 1 : Nat) : Int), H (sa s0 66 (b.set p (b.getD (p - 1) 0))))) → (∀ (p : Nat) (b : List Int32), p < 70 → b.length = 70 → K (i3 (p : Nat), H (sa s0 66 b)) = some (H (sa s0 66 (b.set p x)))) → ∀ (m fuel : Nat) (b : List Int32), m < 70 → m < fuel → b.length = 70 → lp F fuel (i3 (m : Int), H (sa s0 66 b)) K = some (H (sa s0 66 (insA x m b))) := by
    intro F K h0 h1 h2 m
    induction m with
    | zero =>
      intro fuel b _ hf hb
      obtain ⟨q, rfl⟩ : ∃ q, fuel = q + 1 := ⟨fuel - 1, by omega⟩
      rw [lp_s, h0 0 _ _ b rfl hb, h2 0 b (by omega) hb]
      rfl
    | succ m ih =>
      intro fuel b hm hf hb
      obtain ⟨q, rfl⟩ : ∃ q, fuel = q + 1 := ⟨fuel - 1, by omega⟩
      rw [lp_s, h1 (m + 1) _ _ b (by omega) hm hb]
      show (if b.getD m 0 ≤ x then _ else _) = _
      unfold insA
      split
      · rw [h2 (m + 1) b hm hb]
      · exact ih q _ (by omega) (by omega) (by rw [List.length_set]; exact hb)
  rw [show H s0 = H (sa s0 66 (ia s0 66)) by rw [sa_id]]
  refine key _ _ ?_ ?_ ?_ n 4096 (ia s0 66) (by omega) (by omega) hl0
  · intro p nx ex b hp hb
    subst hp
    have e : i3 ((0 : Nat) : Int) ≤ 0 := by decide +kernel
    dsimp only
    rw [if_pos e]
  · intro p nx ex b hp hp2 hb
    have hp3 : ¬ i3 (p : Int) ≤ 0 := by
      rw [show (0 : Int32) = i3 ((0 : Nat) : Int) from rfl, i3n_le (by omega) (by omega)]; omega
    have e2 : ∀ y, st32 b (i3 (p : Int)) y = some (b.set p y) := fun y => st32_nat (by omega) (by omega)
    have e1 : at32 b (i3 ((p - 1 : Nat) : Int)) = some (b.getD (p - 1) 0) := by
      rw [at32_nat (by omega), List.getD_eq_getElem?_getD, List.getElem?_eq_getElem (by omega)]; rfl
    dsimp only
    rw [if_neg hp3, i3_nat_sub hp, i3_nat_dec hp]
    simp only [g26, a66, s66, Option.bind_some, ia_sa, ↓reduceIte, e1, e2, Option.map_some, sa_sa]
  · intro p b hp hb
    dsimp only
    simp only [g26, s66, Option.bind_some, ia_sa, ↓reduceIte]
    rw [st32_nat (by omega) (by omega)]
    simp only [Option.bind_some, Option.map_some, sa_sa]
theorem q_240 (h : ok (md s 44)) (z : Sz s) : ∃ s', m_240 44 (H s) = some (H s') ∧ sc s s' ∧ rowsM s' (RL (md s 44)) ∧ (∀ o k, ¬ (o = 44 ∧ k = 27) → fi s' o k = fi s o k) := by
  suffices T (m_240 44 (H s)) (fun th => ∃ s', th = H s' ∧ sc s s' ∧ rowsM s' (RL (md s 44)) ∧ (∀ o k, ¬ (o = 44 ∧ k = 27) → fi s' o k = fi s o k)) by
    obtain ⟨_, e, s', rfl, c, r, f⟩ := this
    exact ⟨s', e, c, r, f⟩
  have p27 : ∀ (t : St) x, pI (H t) 8 44 27 x = some (H (sf t 44 27 x)) := fun _ _ => rfl
  have g10 : ∀ t : St, gI (H t) 8 44 10 = some (tN (md t 44)) := fun _ => rfl
  have g11 : ∀ t : St, gN (H t) 8 44 11 = some 61 := fun _ => rfl
  have a61 : ∀ (t : St) i, aI (H t) 61 i = at32 (kS (md t 44)) i := fun _ _ => aI_of rfl
  have hn := h.n_le
  have f27 : sF 44 27 := Or.inr (Or.inr (Or.inr (Or.inr ⟨rfl, by omega⟩)))
  unfold m_240
  rw [(r_m s).1, Option.bind_some, p27, Option.bind_some]
  refine lpH (nn (md s 44)) (fun k q => ∃ s', q = (i3 (k : Int), H s') ∧ sc s s' ∧ rowsM s' (itr (rlI (md s 44)) k []) ∧ (∀ o k, ¬ (o = 44 ∧ k = 27) → fi s' o k = fi s o k)) (fun th => ∃ s', th = H s' ∧ sc s s' ∧ rowsM s' (RL (md s 44)) ∧ (∀ o k, ¬ (o = 44 ∧ k = 27) → fi s' o k = fi s o k)) ?_ ?_ ?_ ?_ (by omega)
  · rintro k _ hk ⟨s1, rfl, c1, r1, w1⟩ nx ex hnx hex
    have m1 := c1.m (Or.inl rfl)
    dsimp only
    rw [g10, Option.bind_some, m1, if_neg (h.T hk).2, i3_nat_add]
    refine lpH (nn (md s 44) - (k + 1)) (fun m q => ∃ s', q = (i3 ((k + 1 + m : Nat) : Int), H s') ∧ sc s s' ∧ rowsM s' (itr (fun m => rlF (md s 44) k (k + 1 + m)) m (itr (rlI (md s 44)) k [])) ∧ (∀ o k, ¬ (o = 44 ∧ k = 27) → fi s' o k = fi s o k)) (fun th => ∃ s', th = H s' ∧ sc s s' ∧ rowsM s' (itr (rlI (md s 44)) (k + 1) []) ∧ (∀ o k, ¬ (o = 44 ∧ k = 27) → fi s' o k = fi s o k)) ?_ ?_ ?_ ?_ (by omega)
    · rintro m _ hm ⟨s2, rfl, c2, r2, w2⟩ nx2 ex2 hnx2 hex2
      have m2 := c2.m (Or.inl rfl)
      have h2 : ok (md s2 44) := by rw [m2]; exact h
      have hkT := h.T hk
      have hmT := h.T (show k + 1 + m < nn (md s 44) by omega)
      have hlen := rlJ_len (md s 44) k (k + 1) (itr (rlI (md s 44)) k []) m
      have hlen2 := rlI_len (md s 44) k
      have ht := tri_le (n := nn (md s 44)) (i := k + 1) (by omega) (by omega)
      have ht2 : tri (nn (md s 44)) (k + 1) = tri (nn (md s 44)) k + (nn (md s 44) - (k + 1)) := rfl
      have hF : itr (fun m => rlF (md s 44) k (k + 1 + m)) (m + 1) (itr (rlI (md s 44)) k []) = rlF (md s 44) k (k + 1 + m) (itr (fun m => rlF (md s 44) k (k + 1 + m)) m (itr (rlI (md s 44)) k [])) := rfl
      have iff := rmC_iff h (show k < k + 1 + m by omega) (show k + 1 + m < nn (md s 44) by omega)
      have no : ¬ rmC (md s 44) k (k + 1 + m) → T (nx2 (i3 ((k + 1 + m + 1 : Nat) : Int), H s2)) (fun th => ∃ s', th = H s' ∧ sc s s' ∧ rowsM s' (RL (md s 44)) ∧ (∀ o k, ¬ (o = 44 ∧ k = 27) → fi s' o k = fi s o k)) := fun c => hnx2 _ ⟨s2, rfl, c2, by
        rw [hF, show rlF (md s 44) k (k + 1 + m) _ = _ from if_neg (fun e => c (iff.mp e))]
        exact r2, w2⟩
      have q9 : m_239 44 (i3 (k : Int)) (i3 ((k + 1 + m : Nat) : Int)) (H s2) = some (rowS (md s 44) (i3 (k : Int)) (i3 ((k + 1 + m : Nat) : Int))) := by
        rw [q_239 h2 (by rw [m2]; exact hkT) (by rw [m2]; exact hmT), m2]
      dsimp only
      rw [g10, Option.bind_some, m2, if_neg hmT.2, g11, Option.bind_some, a61, m2, h.at_k hkT, Option.bind_some]
      unfold jn
      dsimp only
      rw [i3_nat_add]
      by_cases c3 : kA (md s 44) (i3 (k : Int)) = i3 4
      · rw [if_pos c3]
        exact no (fun e => e.1 c3)
      rw [if_neg c3, Option.bind_some, a61, m2, h.at_k hmT, Option.bind_some]
      by_cases c4 : kA (md s 44) (i3 ((k + 1 + m : Nat) : Int)) = i3 4
      · rw [if_pos c4]
        exact no (fun e => e.2.1 c4)
      rw [if_neg c4, q9, Option.bind_some]
      by_cases c5 : (rowS (md s 44) (i3 (k : Int)) (i3 ((k + 1 + m : Nat) : Int)) &&& (bit (i3 ((k + 1 + m : Nat) : Int)) - i3 1)) = bit (i3 (k : Int))
      · have c5' : (rowS (md s 44) (i3 (k : Int)) (i3 ((k + 1 + m : Nat) : Int)) &&& ((Int32.ofInt 1 <<< (i3 ((k + 1 + m : Nat) : Int) &&& 31)) - Int32.ofInt 1)) = Int32.ofInt 1 <<< (i3 (k : Int) &&& 31) := c5
        rw [if_pos c5', q_241 r2.1 (by omega) (by rw [c2.ln]; exact z.2.2.2.2.1), Option.bind_some]
        refine hnx2 _ ⟨_, rfl, (c2.f f27).a (Or.inr (Or.inr (Or.inr (Or.inr rfl)))) (insA_len _ _ _), ?_, fun o q hq => ?_⟩
        · rw [hF, show rlF (md s 44) k (k + 1 + m) _ = insL _ _ from if_pos (iff.mpr ⟨c3, c4, c5⟩)]
          refine ⟨?_, ?_, ?_⟩
          · rw [insL_len]; rfl
          · rw [insL_len]; omega
          · show pre _ (ia (sa (sf s2 44 27 _) 66 _) 66)
            rw [ia_sa, if_pos rfl]
            exact r2.2.2.ins (by rw [c2.ln, z.2.2.2.2.1]; omega)
        · rw [fi_sa, fi_sf, if_neg hq]
          exact w2 o q hq
      · have c5' : ¬ (rowS (md s 44) (i3 (k : Int)) (i3 ((k + 1 + m : Nat) : Int)) &&& ((Int32.ofInt 1 <<< (i3 ((k + 1 + m : Nat) : Int) &&& 31)) - Int32.ofInt 1)) = Int32.ofInt 1 <<< (i3 (k : Int) &&& 31) := c5
        rw [if_neg c5']
        exact no (fun e => c5 e.2.2)
    · rintro _ ⟨s2, rfl, c2, r2, w2⟩ nx2 ex2 hex2
      have m2 := c2.m (Or.inl rfl)
      dsimp only
      rw [g10, Option.bind_some, m2, if_pos (h.Te (by omega) (by omega))]
      exact hex2 _ ⟨s2, rfl, c2, r2, w2⟩
    · rintro _ ⟨s2, rfl, c2, r2, w2⟩
      exact hnx _ ⟨s2, rfl, c2, r2, w2⟩
    · exact ⟨s1, rfl, c1, r1, w1⟩
  · rintro _ ⟨s1, rfl, c1, r1, w1⟩ nx ex hex
    have m1 := c1.m (Or.inl rfl)
    dsimp only
    rw [g10, Option.bind_some, m1, if_pos (h.Te (Nat.le_refl _) (by have := h.n_le; omega))]
    exact hex _ ⟨s1, rfl, c1, r1, w1⟩
  · intro x hx
    exact T_some hx
  · exact ⟨sf s 44 27 (Int32.ofInt 0), rfl, (sc.refl s).f f27, ⟨rfl, Nat.zero_le _, Nat.zero_le _, fun j hj => absurd hj (Nat.not_lt_zero _)⟩, fun o q hq => by rw [fi_sf, if_neg hq]⟩
end MW
end
section
/-! ===== bits of a set, as the reference reads them ===== -/
theorem bv_and1 (v : BitVec 32) : (v &&& 1#32 = 0#32) ↔ v.getLsbD 0 = false := by
  constructor
  · intro h
    have := congrArg (fun w : BitVec 32 => w.getLsbD 0) h
    simpa using this
  · intro h
    apply BitVec.eq_of_getLsbD_eq
    intro i hi
    by_cases e : i = 0
    · subst e; rw [BitVec.getLsbD_and, h]; rfl
    · rw [BitVec.getLsbD_and]
      have : (1#32).getLsbD i = false := by
        rw [BitVec.getLsbD_one]
        simp [e]
      rw [this]
      simp
theorem bit_bv {k : Nat} (hk : k < 31) : (bit (i3 (k : Int))).toBitVec = BitVec.twoPow 32 k := by
  rw [bit_eq hk, i3_bv]
  apply BitVec.eq_of_toNat_eq
  rw [BitVec.toNat_ofNat, BitVec.toNat_twoPow]
theorem and_bit_bv {x : Int32} {k : Nat} (hk : k < 31) : (x &&& bit (i3 (k : Int)) = 0) ↔ x.toBitVec.getLsbD k = false := by
  have e : (x &&& bit (i3 (k : Int)) = 0) ↔ x.toBitVec &&& BitVec.twoPow 32 k = 0#32 := by
    rw [← bit_bv hk, ← Int32.toBitVec_and]
    exact ⟨fun h => by rw [h]; rfl, fun h => Int32.toBitVec_inj.mp (h.trans rfl)⟩
  rw [e]
  constructor
  · intro h
    have := congrArg (fun w : BitVec 32 => w.getLsbD k) h
    simp only [BitVec.getLsbD_and, BitVec.getLsbD_twoPow, BitVec.getLsbD_zero, decide_true, Bool.and_true, show k < 32 by omega] at this
    exact this
  · intro h
    apply BitVec.eq_of_getLsbD_eq
    intro i hi
    rw [BitVec.getLsbD_and, BitVec.getLsbD_twoPow, BitVec.getLsbD_zero]
    by_cases e : k = i
    · subst e; rw [h]; rfl
    · simp [e]
theorem hs_bv {x : Int32} {k : Nat} (hk : k < 31) : hs x (i3 (k : Int)) ↔ x.toBitVec.getLsbD k = true := by
  have ek : (i3 (k : Int) &&& 31).toBitVec.toNat % 32 = k := by
    have : ∀ k : Nat, k < 31 → (i3 (k : Int) &&& 31).toBitVec.toNat % 32 = k := by decide +kernel
    exact this k hk
  have e : (((x >>> (i3 (k : Int) &&& 31)) &&& i3 1) = 0) ↔ (x >>> (i3 (k : Int) &&& 31)).toBitVec &&& 1#32 = 0#32 := by
    rw [show (1#32 : BitVec 32) = (i3 1).toBitVec from by decide +kernel, ← Int32.toBitVec_and]
    exact ⟨fun h => by rw [h]; rfl, fun h => Int32.toBitVec_inj.mp (h.trans rfl)⟩
  unfold hs
  rw [e, bv_and1, Int32.toBitVec_shiftRight]
  have e2 : (x.toBitVec.sshiftRight' ((i3 (k : Int) &&& 31).toBitVec.smod 32)).getLsbD 0 = x.toBitVec.getLsbD k := by
    have e3 : ((i3 (k : Int) &&& 31).toBitVec.smod 32).toNat = k := by
      have : ∀ k : Nat, k < 31 → ((i3 (k : Int) &&& 31).toBitVec.smod 32).toNat = k := by decide +kernel
      exact this k hk
    unfold BitVec.sshiftRight'
    rw [e3, BitVec.getLsbD_sshiftRight]
    simp
    intro h
    omega
  rw [e2]
  simp
theorem hs_iff {x : Int32} {k : Nat} (hk : k < 31) : hs x (i3 (k : Int)) ↔ ¬ (x &&& bit (i3 (k : Int)) = 0) := by
  rw [hs_bv hk, and_bit_bv hk]
  simp
theorem hs_T {g : Gd} (h : ok g) {t : Int32} (ht : isT g t) (x : Int32) : hs x t ↔ ¬ (x &&& bit t = 0) := by
  have b := h.tl ht
  have n := h.n_le
  rw [i3_cl ht.1]
  exact hs_iff (by omega)
theorem sh1 {m k : Nat} (hm : m < 4096) (hk : k < 31) : ((i3 (m : Int) >>> (i3 (k : Int) &&& 31)) &&& i3 1) = i3 (((m.testBit k).toNat : Nat) : Int) := by
  have h := hs_iff (x := i3 (m : Int)) hk
  have h2 := and_bit hm hk
  -- the value is 0 or 1
  have v01 : ∀ y : Int32, y &&& i3 1 = 0 ∨ y &&& i3 1 = i3 1 := fun y => by
    cases hb : y.toBitVec.getLsbD 0 with
    | false =>
      left
      apply Int32.toBitVec_inj.mp
      rw [Int32.toBitVec_and, show (i3 1).toBitVec = 1#32 from by decide +kernel]
      exact ((bv_and1 _).mpr hb).trans rfl
    | true =>
      right
      apply Int32.toBitVec_inj.mp
      rw [Int32.toBitVec_and, show (i3 1).toBitVec = 1#32 from by decide +kernel]
      apply BitVec.eq_of_getLsbD_eq
      intro i hi
      rw [BitVec.getLsbD_and, BitVec.getLsbD_one]
      by_cases e : i = 0
      · subst e; rw [hb]; rfl
      · simp [e]
  cases hb : m.testBit k with
  | false =>
    have : ¬ hs (i3 (m : Int)) (i3 (k : Int)) := fun e => (h.mp e) (h2.mpr hb)
    exact Decidable.not_not.mp this
  | true =>
    have : hs (i3 (m : Int)) (i3 (k : Int)) := h.mpr (fun e => by rw [h2.mp e] at hb; cases hb)
    exact (v01 _).elim (fun e => absurd e this) id
theorem bs_eq {m : Nat} (hm : m < 4096) : bs (i3 (m : Int)) = bct (i3 (m : Int)) := by
  rw [bct_eq hm]
  unfold bs pc
  have key : ∀ n, n ≤ 12 → itr (bsF (i3 (m : Int))) n (i3 0) = i3 (cb (fun t => m.testBit t) n : Int) := by
    intro n
    induction n with
    | zero => intro _; rfl
    | succ n ih =>
      intro hn
      show bsF (i3 (m : Int)) n (itr (bsF (i3 (m : Int))) n (i3 0)) = _
      rw [ih (by omega)]
      unfold bsF
      rw [sh1 hm (by omega), i3_add]
      rfl
  exact key 12 (Nat.le_refl _)
/-! ===== the rows, one by one ===== -/
theorem insA_mem (x : Int32) : ∀ (n : Nat) (a : List Int32) (j : Nat), j ≤ n → n < a.length → (insA x n a)[j]? = some x ∨ ∃ i, i < n ∧ (insA x n a)[j]? = a[i]?
  | 0, a, j, hj, hn => by
    obtain rfl : j = 0 := by omega
    left
    show (a.set 0 x)[0]? = some x
    rw [List.getElem?_set_self hn]
  | n + 1, a, j, hj, hn => by
    unfold insA
    split
    · by_cases e : j = n + 1
      · subst e
        left
        rw [List.getElem?_set_self hn]
      · right
        exact ⟨j, by omega, List.getElem?_set_ne (by omega)⟩
    · by_cases e : j = n + 1
      · subst e
        right
        refine ⟨n, by omega, ?_⟩
        rw [insA_hi x n _ _ (by omega), List.getElem?_set_self hn, List.getD_eq_getElem?_getD, List.getElem?_eq_getElem (by omega)]
        rfl
      · rcases insA_mem x n (a.set (n + 1) (a.getD n 0)) j (by omega) (by rw [List.length_set]; omega) with h | ⟨i, hi, h⟩
        · exact Or.inl h
        · right
          exact ⟨i, by omega, by rw [h, List.getElem?_set_ne (by omega)]⟩
theorem insL_mem {x y : Int32} {L : List Int32} (h : y ∈ insL x L) : y = x ∨ y ∈ L := by
  obtain ⟨j, hj⟩ := List.getElem?_of_mem h
  have hlt := (List.getElem?_eq_some_iff.mp hj).1
  rw [insL_len] at hlt
  unfold insL at hj
  rcases insA_mem x L.length (L ++ [0]) j (by omega) (by rw [List.length_append]; exact Nat.lt_succ_self _) with e | ⟨i, hi, e⟩
  · rw [e] at hj
    exact Or.inl (Option.some.inj hj).symm
  · right
    rw [e, List.getElem?_append_left hi] at hj
    exact List.mem_of_getElem? hj
/-- every row is that of its first two trees -/
theorem RL_mem {g : Gd} {y : Int32} (h : y ∈ RL g) : ∃ i j, i < j ∧ j < nn g ∧ rlC g i j ∧ y = rowS g (i3 (i : Int)) (i3 (j : Int)) := by
  have inner : ∀ (i : Nat) (L : List Int32) (y : Int32) (m : Nat), i + 1 + m ≤ nn g → y ∈ itr (fun m => rlF g i (i + 1 + m)) m L → y ∈ L ∨ ∃ j, i < j ∧ j < nn g ∧ rlC g i j ∧ y = rowS g (i3 (i : Int)) (i3 (j : Int)) := by
    intro i L y m
    induction m with
    | zero => intro _ hy; exact Or.inl hy
    | succ m ih =>
      intro hm hy
      have hy' : y ∈ rlF g i (i + 1 + m) (itr (fun m => rlF g i (i + 1 + m)) m L) := hy
      unfold rlF at hy'
      split at hy'
      · rename_i c
        rcases insL_mem hy' with e | e
        · exact Or.inr ⟨i + 1 + m, by omega, by omega, c, e⟩
        · exact ih (by omega) e
      · exact ih (by omega) hy'
  have outer : ∀ (k : Nat), k ≤ nn g → ∀ y, y ∈ itr (rlI g) k [] → ∃ i j, i < j ∧ j < nn g ∧ rlC g i j ∧ y = rowS g (i3 (i : Int)) (i3 (j : Int)) := by
    intro k
    induction k with
    | zero => intro _ y hy; cases hy
    | succ k ih =>
      intro hk y hy
      have hy' : y ∈ itr (fun m => rlF g k (k + 1 + m)) (nn g - (k + 1)) (itr (rlI g) k []) := hy
      rcases inner k _ y _ (by omega) hy' with e | ⟨j, h1, h2, h3, h4⟩
      · exact ih (by omega) y e
      · exact ⟨k, j, h1, h2, h3, h4⟩
  exact outer (nn g) (Nat.le_refl _) y h
theorem lg_mem {L : List Int32} {k : Nat} (hk : k < L.length) : lg L k ∈ L := by
  unfold lg
  rw [List.getD_eq_getElem?_getD, List.getElem?_eq_getElem hk]
  exact List.getElem_mem hk
theorem RL_mk {g : Gd} (h : ok g) {k : Nat} (hk : k < (RL g).length) : ∃ i j, i < j ∧ j < nn g ∧ lg (RL g) k = i3 (rwm g (i3 (i : Int)) (i3 (j : Int)) : Int) ∧ (rwm g (i3 (i : Int)) (i3 (j : Int))).testBit i = true ∧ (rwm g (i3 (i : Int)) (i3 (j : Int))).testBit j = true ∧ (∀ q, q < j → q ≠ i → (rwm g (i3 (i : Int)) (i3 (j : Int))).testBit q = false) := by
  have hn := h.n_le
  obtain ⟨i, j, h1, h2, h3, h4⟩ := RL_mem (lg_mem hk)
  have hm := rwm_4096 h (i3 (i : Int)) (i3 (j : Int))
  have h3' := (rmC_iff h h1 h2).mp h3
  rw [rmC, rowS_eq h, low_iff hm h1 (by omega)] at h3'
  refine ⟨i, j, h1, h2, h4.trans (rowS_eq h _ _), h3'.2.2.1, ?_, h3'.2.2.2⟩
  rw [rwm_bit _ _ h2]
  unfold rP
  rw [decide_eq_true_eq]
  exact ⟨h3'.2.1, dar_r g _ _⟩
theorem RL_bs {g : Gd} (h : ok g) {k : Nat} (hk : k < (RL g).length) : bs (lg (RL g) k) = bct (lg (RL g) k) := by
  obtain ⟨i, j, -, -, e, -⟩ := RL_mk h hk
  rw [e]
  exact bs_eq (rwm_4096 h _ _)
theorem rowsM.at {s : St} {L : List Int32} (r : rowsM s L) {k : Nat} (hk : k < L.length) : at32 (ia s 66) (i3 (k : Int)) = some (lg L k) := r.2.2.at hk (by have := r.2.1; omega)
theorem rowsM.lt {s : St} {L : List Int32} (r : rowsM s L) {k : Nat} (hk : k < L.length) : ¬ fi s 44 27 ≤ i3 (k : Int) := by
  have := r.2.1
  rw [r.1, i3n_le (by omega) (by omega)]; omega
theorem rowsM.ge {s : St} {L : List Int32} (r : rowsM s L) {k : Nat} (hk : L.length ≤ k) (hk2 : k ≤ 1000) : fi s 44 27 ≤ i3 (k : Int) := by
  have := r.2.1
  rw [r.1, i3n_le (by omega) (by omega)]; omega
theorem r_f (s : St) : gC (H s) 8 44 = some () ∧ gI (H s) 8 44 27 = some (fi s 44 27) ∧ gN (H s) 8 44 26 = some 66 ∧ (∀ i, aI (H s) 66 i = at32 (ia s 66) i) := ⟨rfl, rfl, rfl, fun _ => aI_of rfl⟩
theorem r_g (s : St) : gC (H s) 8 44 = some () ∧ gI (H s) 8 44 9 = some (sD (md s 44)) ∧ gI (H s) 8 44 10 = some (tN (md s 44)) ∧ gI (H s) 8 44 14 = some (wN (md s 44)) ∧ gI (H s) 8 44 16 = some (sE (md s 44)) ∧ gN (H s) 8 44 11 = some 61 ∧ gN (H s) 8 44 12 = some 62 ∧ gN (H s) 8 44 13 = some 63 ∧ gN (H s) 8 44 15 = some 64 ∧ (∀ i, aI (H s) 61 i = at32 (kS (md s 44)) i) ∧ (∀ i, aI (H s) 62 i = at32 (cS (md s 44)) i) ∧ (∀ i, aI (H s) 63 i = at32 (vS (md s 44)) i) ∧ (∀ i, aI (H s) 64 i = at32 (wS (md s 44)) i) := ⟨rfl, rfl, rfl, rfl, rfl, rfl, rfl, rfl, rfl, fun _ => aI_of rfl, fun _ => aI_of rfl, fun _ => aI_of rfl, fun _ => aI_of rfl⟩
theorem add0 (m : Int32) : m + Int32.ofInt 0 = m := Int32.add_zero m
theorem or0 (m : Int32) : m ||| Int32.ofInt 0 = m := Int32.or_zero
section ML
variable {s : St}
/-- only rows are found -/
noncomputable def eF (s s' : St) : Prop := sc s s' ∧ (∀ o k, ¬ (o = 44 ∧ k = 27) → fi s' o k = fi s o k)
theorem q_242 (h : ok (md s 44)) (z : Sz s) {t : Int32} (ht : isT (md s 44) t) (q : Int32) : ∃ s', m_242 44 t q (H s) = some (cw (RL (md s 44)) t q, H s') ∧ eF s s' := by
  obtain ⟨s1, e1, c1, r1, f1⟩ := q_240 h z
  refine ⟨s1, ?_, c1, f1⟩
  have hl := RL_len h
  unfold m_242
  rw [(r_m s).1, Option.bind_some, e1, Option.bind_some]
  refine (lp0 (RL (md s 44)).length (by omega) (fun t a => (a, t)) (fun a => a) (cwF (RL (md s 44)) t q) (fun _ => True) (i3 0) ?_ (fun _ _ _ _ => trivial) ?_ trivial).trans rfl
  · intro k m nx ex hk _
    have e := hs_T h ht (lg (RL (md s 44)) k)
    simp only [r_f, Option.bind_some, if_neg (r1.lt hk), r1.at hk, q_195, q_196, RL_bs h hk, jn, bP_if, add0]
    unfold cwF
    by_cases c : lg (RL (md s 44)) k &&& bit t = 0
    · rw [if_neg (fun e' => (e.mp e') c), if_pos c]
    · rw [if_pos (e.mpr c), if_neg c]
      by_cases c2 : bct (lg (RL (md s 44)) k) < q
      · rw [if_pos c2, if_pos c2]
      · rw [if_neg c2, if_neg c2]
  · intro a nx ex _
    simp only [r_f, Option.bind_some, if_pos (r1.ge (Nat.le_refl _) (show (RL (md s 44)).length ≤ 1000 by omega))]
noncomputable def t3F (L : List Int32) (k : Nat) (m : Int32) : Int32 := if bct (lg L k) < i3 3 then m else m + i3 1
noncomputable def t3 (L : List Int32) : Int32 := itr (t3F L) L.length (i3 0)
theorem q_243 (h : ok (md s 44)) (z : Sz s) : ∃ s', m_243 44 (H s) = some (t3 (RL (md s 44)), H s') ∧ eF s s' := by
  obtain ⟨s1, e1, c1, r1, f1⟩ := q_240 h z
  refine ⟨s1, ?_, c1, f1⟩
  have hl := RL_len h
  unfold m_243
  rw [(r_m s).1, Option.bind_some, e1, Option.bind_some]
  refine (lp0 (RL (md s 44)).length (by omega) (fun t a => (a, t)) (fun a => a) (t3F (RL (md s 44))) (fun _ => True) (i3 0) ?_ (fun _ _ _ _ => trivial) ?_ trivial).trans rfl
  · intro k m nx ex hk _
    simp only [r_f, Option.bind_some, if_neg (r1.lt hk), r1.at hk, q_196, RL_bs h hk, jn, add0]
    unfold t3F
    split <;> rfl
  · intro a nx ex _
    simp only [r_f, Option.bind_some, if_pos (r1.ge (Nat.le_refl _) (show (RL (md s 44)).length ≤ 1000 by omega))]
end ML
end
section
/-! ===== the reference: sets in line, moves tried and taken back ===== -/
noncomputable def Mq (s : St) : Prop := ok (md s 44) ∧ Sz s ∧ (ia s 60).length = 8
theorem qq.mq {s s' : St} (h : qq s s') (c : Mq s) : Mq s' := ⟨by rw [h.m (Or.inl rfl)]; exact c.1, h.z c.2.1, by rw [h.ln]; exact c.2.2⟩
theorem eF.refl (s : St) : eF s s := ⟨sc.refl s, fun _ _ _ => rfl⟩
theorem eF.trans {s s' s2 : St} (h : eF s s') (k : eF s' s2) : eF s s2 := ⟨h.1.trans k.1, fun o q hq => (k.2 o q hq).trans (h.2 o q hq)⟩
abbrev siL (L : List Int32) (m : Int32) : Prop := ¬ fst? (fun k => decide ((m &&& (lg L k ^^^ i3 (-1))) = 0)) L.length 0 = none
noncomputable def mmF (g : Gd) (k : Nat) (m : Int32) : Int32 := if siL (RL g) (wA g (i3 (k : Int))) then m + i3 1 else m
noncomputable def mmM (g : Gd) : Int32 := itr (mmF g) (wn g) (i3 0)
section MB
variable {s : St}
theorem q_252 (h : ok (md s 44)) (z : Sz s) (m : Int32) : ∃ s', m_252 44 m (H s) = some (bP (siL (RL (md s 44)) m), H s') ∧ eF s s' := by
  obtain ⟨s1, e1, c1, r1, f1⟩ := q_240 h z
  refine ⟨s1, ?_, c1, f1⟩
  have hl := RL_len h
  unfold m_252
  rw [(r_m s).1, Option.bind_some, e1, Option.bind_some]
  refine (lpS (RL (md s 44)).length (by omega) (fun t => t) () (fun k => decide ((m &&& (lg (RL (md s 44)) k ^^^ i3 (-1))) = 0)) (fun _ => some (i3 1, H s1)) ?_ ?_).trans ?_
  · intro k nx ex hk
    simp only [r_f, Option.bind_some, if_neg (r1.lt hk), r1.at hk, decide_eq_true_eq]
    split <;> rfl
  · intro nx ex
    simp only [r_f, Option.bind_some, if_pos (r1.ge (Nat.le_refl _) (show (RL (md s 44)).length ≤ 1000 by omega))]
  · unfold bP siL
    cases fst? (fun k => decide ((m &&& (lg (RL (md s 44)) k ^^^ i3 (-1))) = 0)) (RL (md s 44)).length 0 <;> simp <;> rfl
theorem q_261 (h : ok (md s 44)) (z : Sz s) : ∃ s', m_261 44 (H s) = some (mmM (md s 44), H s') ∧ eF s s' := by
  suffices T (m_261 44 (H s)) (fun r => ∃ s', r = (mmM (md s 44), H s') ∧ eF s s') by
    obtain ⟨_, e, s', rfl, c⟩ := this
    exact ⟨s', e, c⟩
  have hw := h.w_le
  unfold m_261
  rw [(r_m s).1, Option.bind_some]
  refine lpH (wn (md s 44)) (fun k q => ∃ s', q = (itr (mmF (md s 44)) k (i3 0), i3 (k : Int), H s') ∧ eF s s') (fun x => ∃ s', x = (mmM (md s 44), H s') ∧ eF s s') ?_ ?_ ?_ ?_ (by omega)
  · rintro k _ hk ⟨s1, rfl, c1⟩ nx ex hnx hex
    have m1 := c1.1.m (Or.inl rfl)
    have h1 : ok (md s1 44) := by rw [m1]; exact h
    obtain ⟨s2, e2, c2⟩ := q_252 h1 (c1.1.z z) (wA (md s 44) (i3 (k : Int)))
    rw [m1] at e2
    dsimp only
    rw [(r_g s1).2.2.2.1, Option.bind_some, m1, if_neg (h.W hk).2, (r_g s1).2.2.2.2.2.2.2.2.1, Option.bind_some, (r_g s1).2.2.2.2.2.2.2.2.2.2.2.2, m1, h.at_w (h.W hk), Option.bind_some, e2, Option.bind_some]
    unfold jn
    dsimp only
    rw [bP_if, i3_nat_add, add0]
    have hF : itr (mmF (md s 44)) (k + 1) (i3 0) = mmF (md s 44) k (itr (mmF (md s 44)) k (i3 0)) := rfl
    by_cases c : siL (RL (md s 44)) (wA (md s 44) (i3 (k : Int)))
    · rw [if_pos c]
      refine hnx _ ⟨s2, ?_, c1.trans c2⟩
      rw [hF, show mmF (md s 44) k _ = _ from if_pos c]
    · rw [if_neg c]
      refine hnx _ ⟨s2, ?_, c1.trans c2⟩
      rw [hF, show mmF (md s 44) k _ = _ from if_neg c]
  · rintro _ ⟨s1, rfl, c1⟩ nx ex hex
    have m1 := c1.1.m (Or.inl rfl)
    dsimp only
    rw [(r_g s1).2.2.2.1, Option.bind_some, m1, if_pos (h.We (Nat.le_refl _) (by have := h.w_le; omega))]
    exact hex _ ⟨s1, rfl, c1⟩
  · rintro _ ⟨s1, rfl, c1⟩
    exact T_some ⟨s1, rfl, c1⟩
  · exact ⟨s, rfl, eF.refl s⟩
/-- the garden is changed, looked at, and as it was -/
theorem sc_back {s2 : St} {g : Gd} (h : sc (wM s 44 g) s2) : sc s (wM s2 44 (md s 44)) := by
  refine ⟨fun p hp => ?_, fun p hp => h.2.1 p hp, fun o k hk => ?_, h.2.2.2.1, fun p => ?_, fun p => h.2.2.2.2.2 p⟩
  · rw [ia_wM]
    have e := h.1 p hp
    rw [ia_wM] at e
    split
    · rename_i q; rw [q]; rfl
    split
    · rename_i q; rw [q]; rfl
    split
    · rename_i q; rw [q]; rfl
    split
    · rename_i q; rw [q]; rfl
    rename_i q1 q2 q3 q4
    rw [if_neg q1, if_neg q2, if_neg q3, if_neg q4] at e
    exact e
  · rw [fi_wM]
    have e := h.2.2.1 o k hk
    rw [fi_wM] at e
    split
    · rename_i q; rw [q.1, q.2]; rfl
    split
    · rename_i q; rw [q.1, q.2]; rfl
    split
    · rename_i q; rw [q.1, q.2]; rfl
    split
    · rename_i q; rw [q.1, q.2]; rfl
    rename_i q1 q2 q3 q4
    rw [if_neg q1, if_neg q2, if_neg q3, if_neg q4] at e
    exact e
  · rw [ia_wM]
    have e := h.2.2.2.2.1 p
    rw [ia_wM] at e
    split
    · rename_i q; rw [q]; rfl
    split
    · rename_i q; rw [q]; rfl
    split
    · rename_i q; rw [q]; rfl
    split
    · rename_i q; rw [q]; rfl
    rename_i q1 q2 q3 q4
    rw [if_neg q1, if_neg q2, if_neg q3, if_neg q4] at e
    exact e
theorem Sz_wM {g : Gd} (z : Sz s) : Sz (wM s 44 g) := z
theorem set_back {l : List Int32} {t : Nat} (ht : t < l.length) (c : Int32) : (l.set t c).set t (l.getD t 0) = l := by
  rw [List.set_set]
  apply List.ext_getElem?
  intro i
  rw [List.getElem?_set]
  split
  · rename_i e
    subst e
    try rw [if_pos ht]
    rw [List.getD_eq_getElem?_getD, List.getElem?_eq_getElem ht]
    rfl
  · rfl
theorem sI62 (s : St) {t x : Int32} (h0 : ¬ t < 0) (h1 : t.toNatClampNeg < (cS (md s 44)).length) : sI (H s) 62 t x = some (H (wM s 44 (uC (md s 44) ((cS (md s 44)).set t.toNatClampNeg x)))) := by
  rw [show sI (H s) 62 t x = (st32 (cS (md s 44)) t x).map (fun l => H (sa s 62 l)) from sI_of rfl, st_wr h0 h1, Option.map_some]
  exact congrArg (fun z => some (H z)) (sa_m18 s 44 _)
theorem sI61 (s : St) {t x : Int32} (h0 : ¬ t < 0) (h1 : t.toNatClampNeg < (kS (md s 44)).length) : sI (H s) 61 t x = some (H (wM s 44 (uK (md s 44) ((kS (md s 44)).set t.toNatClampNeg x)))) := by
  rw [show sI (H s) 61 t x = (st32 (kS (md s 44)) t x).map (fun l => H (sa s 61 l)) from sI_of rfl, st_wr h0 h1, Option.map_some]
  exact congrArg (fun z => some (H z)) (sa_m17 s 44 _)
/-- a tree is moved, something is counted, and it is moved back -/
theorem tryM (h : ok (md s 44)) (z : Sz s) {t c : Int32} (ht : isT (md s 44) t) {P : tH → Option (Int32 × tH)} {V : Gd → Int32} (hg : ok (mvT (md s 44) t c)) (hP : ∀ s1, ok (md s1 44) → Sz s1 → ∃ s', P (H s1) = some (V (md s1 44), H s') ∧ eF s1 s') : ∃ s2 s3, sI (H s) 62 t c = some (H (wM s 44 (mvT (md s 44) t c))) ∧ P (H (wM s 44 (mvT (md s 44) t c))) = some (V (mvT (md s 44) t c), H s2) ∧ sI (H s2) 62 t (cA (md s 44) t) = some (H s3) ∧ eF s s3 := by
  have hl := h.tl ht
  have hn := h.n_le
  have hL : t.toNatClampNeg < (cS (md s 44)).length := by rw [h.2.2.2.1.2.1]; omega
  have em := md_wM s 44 (mvT (md s 44) t c)
  obtain ⟨s2, e2, c2⟩ := hP (wM s 44 (mvT (md s 44) t c)) (by rw [em]; exact hg) (Sz_wM z)
  rw [em] at e2
  have m2 : md s2 44 = mvT (md s 44) t c := (c2.1.m (Or.inl rfl)).trans em
  refine ⟨s2, wM s2 44 (md s 44), sI62 s ht.1 hL, e2, ?_, sc_back c2.1, fun o k hk => ?_⟩
  · have hL2 : t.toNatClampNeg < (cS (md s2 44)).length := by
      rw [m2]
      show _ < ((cS (md s 44)).set _ _).length
      rw [List.length_set]; exact hL
    rw [sI62 s2 ht.1 hL2, m2]
    have eb : uC (mvT (md s 44) t c) ((cS (mvT (md s 44) t c)).set t.toNatClampNeg (cA (md s 44) t)) = md s 44 := by
      have e1 : (cS (mvT (md s 44) t c)).set t.toNatClampNeg (cA (md s 44) t) = cS (md s 44) := set_back hL c
      rw [e1]
      rfl
    rw [eb]
  · rw [fi_wM]
    have e := c2.2 o k hk
    rw [fi_wM] at e
    split
    · rename_i q; rw [q.1, q.2]; rfl
    split
    · rename_i q; rw [q.1, q.2]; rfl
    split
    · rename_i q; rw [q.1, q.2]; rfl
    split
    · rename_i q; rw [q.1, q.2]; rfl
    rename_i q1 q2 q3 q4
    rw [if_neg q1, if_neg q2, if_neg q3, if_neg q4] at e
    exact e
/-- the best of all moves by a count -/
noncomputable def fcF (g : Gd) (V : Gd → Int32) (t : Int32) (k : Nat) (a : Mv) : Mv := if tIn g (i3 (k : Int)) = i3 (-1) then if V (mvT g t (i3 (k : Int))) ≤ a.2.2 then a else (t, i3 (k : Int), V (mvT g t (i3 (k : Int)))) else a
noncomputable def fbF (g : Gd) (V : Gd → Int32) (k : Nat) (a : Mv) : Mv := if kOf (kA g (i3 (k : Int))) (i3 1) then a else itr (fcF g V (i3 (k : Int))) (dn g * dn g) a
noncomputable def fb (g : Gd) (V : Gd → Int32) : Mv := itr (fbF g V) (nn g) (i3 (-1), i3 (-1), i3 (-1))
noncomputable def bmv (s : St) : Mv := (fi s 44 28, fi s 44 29, fi s 44 30)
noncomputable def V3 (g : Gd) : Int32 := t3 (RL g)
theorem q_262 (h : ok (md s 44)) (z : Sz s) {w : Int32} {V : Gd → Int32} (hw : (w = 0 ∧ V = V3) ∨ (¬ w = 0 ∧ V = mmM)) : ∃ s', m_262 44 w (H s) = some (H s') ∧ sc s s' ∧ bmv s' = fb (md s 44) V := by
  suffices T (m_262 44 w (H s)) (fun th => ∃ s', th = H s' ∧ sc s s' ∧ bmv s' = fb (md s 44) V) by
    obtain ⟨_, e, s', rfl, c⟩ := this
    exact ⟨s', e, c⟩
  have hn := h.n_le
  have hcc := h.cc_le
  have F : ∀ k, 19 ≤ k → sF 44 k := fun k hk => Or.inr (Or.inr (Or.inr (Or.inr ⟨rfl, hk⟩)))
  have p28 : ∀ (t : St) x, pI (H t) 8 44 28 x = some (H (sf t 44 28 x)) := fun _ _ => rfl
  have p29 : ∀ (t : St) x, pI (H t) 8 44 29 x = some (H (sf t 44 29 x)) := fun _ _ => rfl
  have p30 : ∀ (t : St) x, pI (H t) 8 44 30 x = some (H (sf t 44 30 x)) := fun _ _ => rfl
  have g30 : ∀ t : St, gI (H t) 8 44 30 = some (fi t 44 30) := fun _ => rfl
  -- the count
  have hP : ∀ s1, ok (md s1 44) → Sz s1 → ∃ s', (fun th => if w = 0 then m_243 44 th else m_261 44 th) (H s1) = some (V (md s1 44), H s') ∧ eF s1 s' := fun s1 h1 z1 => by
    rcases hw with ⟨e, rfl⟩ | ⟨e, rfl⟩
    · dsimp only
      rw [if_pos e]
      exact q_243 h1 z1
    · dsimp only
      rw [if_neg e]
      exact q_261 h1 z1
  unfold m_262
  rw [(r_m s).1, Option.bind_some, p28, Option.bind_some, p29, Option.bind_some, p30, Option.bind_some]
  refine lpH (nn (md s 44)) (fun k q => ∃ s', q = (i3 (k : Int), H s') ∧ sc s s' ∧ bmv s' = itr (fbF (md s 44) V) k (i3 (-1), i3 (-1), i3 (-1))) (fun th => ∃ s', th = H s' ∧ sc s s' ∧ bmv s' = fb (md s 44) V) ?_ ?_ ?_ ?_ (by omega)
  · rintro k _ hk ⟨s1, rfl, c1, b1⟩ nx ex hnx hex
    have m1 := c1.m (Or.inl rfl)
    have hT := h.T hk
    have hFk : itr (fbF (md s 44) V) (k + 1) (i3 (-1), i3 (-1), i3 (-1)) = fbF (md s 44) V k (bmv s1) := by rw [b1]; rfl
    dsimp only
    rw [(r_g s1).2.2.1, Option.bind_some, m1, if_neg hT.2]
    by_cases fr : kOf (kA (md s 44) (i3 (k : Int))) (i3 1)
    · -- a firm one: no cell is looked at
      rw [show (4096 : Nat) = 4095 + 1 from rfl, lp_s]
      dsimp only
      rw [q_192, Option.bind_some, m1, if_neg (show ¬ cc (md s 44) ≤ Int32.ofInt 0 from (h.C (k := 0) (by have h1 := h.d_ge; have h3 : 9 ≤ dn (md s 44) * dn (md s 44) := Nat.mul_le_mul h1 h1; omega)).2), q_197 (by rw [m1]; exact h) (by rw [m1]; exact hT), Option.bind_some, bP_if, m1, if_pos fr, i3_nat_add]
      refine hnx _ ⟨s1, rfl, c1, ?_⟩
      rw [hFk]
      exact (if_pos fr).symm
    · have hFk2 : itr (fbF (md s 44) V) (k + 1) (i3 (-1), i3 (-1), i3 (-1)) = itr (fcF (md s 44) V (i3 (k : Int))) (dn (md s 44) * dn (md s 44)) (bmv s1) := by
        rw [hFk]
        exact if_neg fr
      refine lpH (dn (md s 44) * dn (md s 44)) (fun c q => ∃ s', q = (i3 (c : Int), H s') ∧ sc s s' ∧ bmv s' = itr (fcF (md s 44) V (i3 (k : Int))) c (bmv s1)) (fun th => ∃ s', th = H s' ∧ sc s s' ∧ bmv s' = itr (fbF (md s 44) V) (k + 1) (i3 (-1), i3 (-1), i3 (-1))) ?_ ?_ ?_ ?_ (by omega)
      · rintro c _ hc ⟨s2, rfl, c2, b2⟩ nx2 ex2 hnx2 hex2
        have m2 := c2.m (Or.inl rfl)
        have h2 : ok (md s2 44) := by rw [m2]; exact h
        have hT2 : isT (md s2 44) (i3 (k : Int)) := by rw [m2]; exact hT
        have hC := h.C hc
        have hFc : itr (fcF (md s 44) V (i3 (k : Int))) (c + 1) (bmv s1) = fcF (md s 44) V (i3 (k : Int)) c (bmv s2) := by rw [b2]; rfl
        dsimp only
        rw [q_192, Option.bind_some, m2, if_neg hC.2, q_197 h2 hT2, Option.bind_some, bP_if, m2, if_neg fr, q_194 h2, Option.bind_some, m2]
        unfold jn
        dsimp only
        rw [i3_nat_add]
        by_cases f1 : tIn (md s 44) (i3 (c : Int)) = i3 (-1)
        · rw [if_pos f1]
          obtain ⟨s3, s4, e3, e4, e5, c5⟩ := tryM h2 (c2.z z) hT2 (c := i3 (c : Int)) (P := fun th => if w = 0 then m_243 44 th else m_261 44 th) (V := V) (by rw [m2]; exact ok_mvT h hT hC f1) hP
          rw [m2] at e3 e4 e5
          have b4 : bmv s4 = bmv s2 := by
            unfold bmv
            rw [c5.2 44 28 (by omega), c5.2 44 29 (by omega), c5.2 44 30 (by omega)]
          have rest : T ((gN (H s3) 8 44 12).bind fun o24 => (sI (H s3) o24 (i3 (k : Int)) (cA (md s 44) (i3 (k : Int)))).bind fun th25 => (gI th25 8 44 30).bind fun x26 => if V (mvT (md s 44) (i3 (k : Int)) (i3 (c : Int))) ≤ x26 then nx2 (i3 ((c + 1 : Nat) : Int), th25) else (pI th25 8 44 28 (i3 (k : Int))).bind fun th27 => (pI th27 8 44 29 (i3 (c : Int))).bind fun th28 => (pI th28 8 44 30 (V (mvT (md s 44) (i3 (k : Int)) (i3 (c : Int))))).bind fun th29 => nx2 (i3 ((c + 1 : Nat) : Int), th29)) (fun th => ∃ s', th = H s' ∧ sc s s' ∧ bmv s' = fb (md s 44) V) := by
            rw [(r_g s3).2.2.2.2.2.2.1, Option.bind_some, e5, Option.bind_some, g30, Option.bind_some]
            have x30 : fi s4 44 30 = (bmv s2).2.2 := congrArg (·.2.2) b4
            rw [x30]
            by_cases f2 : V (mvT (md s 44) (i3 (k : Int)) (i3 (c : Int))) ≤ (bmv s2).2.2
            · rw [if_pos f2]
              refine hnx2 _ ⟨s4, rfl, c2.trans c5.1, ?_⟩
              rw [b4, hFc]
              unfold fcF
              rw [if_pos f1, if_pos f2]
            · rw [if_neg f2, p28, Option.bind_some, p29, Option.bind_some, p30, Option.bind_some]
              refine hnx2 _ ⟨_, rfl, (((c2.trans c5.1).f (F 28 (by omega))).f (F 29 (by omega))).f (F 30 (by omega)), ?_⟩
              rw [hFc]
              unfold fcF
              rw [if_pos f1, if_neg f2]
              rfl
          rw [(r_g s2).2.2.2.2.2.2.1, Option.bind_some, (r_g s2).2.2.2.2.2.2.2.2.2.2.1, m2, h.at_c hT, Option.bind_some, Option.bind_some, e3, Option.bind_some]
          rcases hw with ⟨ew, rfl⟩ | ⟨ew, rfl⟩
          · skip
            rw [if_pos ew] at e4
            rw [if_pos ew, e4, Option.bind_some]
            exact rest
          · skip
            rw [if_neg ew] at e4
            rw [if_neg ew, e4, Option.bind_some]
            exact rest
        · rw [if_neg f1]
          refine hnx2 _ ⟨s2, rfl, c2, ?_⟩
          rw [hFc]
          unfold fcF
          rw [if_neg f1]
      · rintro _ ⟨s2, rfl, c2, b2⟩ nx2 ex2 hex2
        have m2 := c2.m (Or.inl rfl)
        dsimp only
        rw [q_192, Option.bind_some, m2, if_pos (h.Ce (Nat.le_refl _) (by have := h.cc_le; omega))]
        exact hex2 _ ⟨s2, rfl, c2, by rw [b2, hFk2]⟩
      · rintro _ ⟨s2, rfl, c2, b2⟩
        rw [i3_nat_add]
        exact hnx _ ⟨s2, rfl, c2, b2⟩
      · exact ⟨s1, rfl, c1, rfl⟩
  · rintro _ ⟨s1, rfl, c1, b1⟩ nx ex hex
    have m1 := c1.m (Or.inl rfl)
    dsimp only
    rw [(r_g s1).2.2.1, Option.bind_some, m1, if_pos (h.Te (Nat.le_refl _) (by have := h.n_le; omega))]
    exact hex _ ⟨s1, rfl, c1, b1⟩
  · intro x hx
    exact T_some hx
  · exact ⟨_, rfl, (((sc.refl s).f (F 28 (by omega))).f (F 29 (by omega))).f (F 30 (by omega)), rfl⟩
end MB
end
section
/-! ===== the reference's answers, I ===== -/
section MA
variable {s : St}
theorem eF.ans {α : Type} {s s' : St} {v : α} (h : eF s s') : Ans s (some (v, H s')) v := ⟨s', rfl, h.1.q⟩
theorem d_19 (c : Mq s) (x : Int32) : Ans s (m_245 44 x (H s)) (vTreeAt (md s 44) x) := by
  unfold m_245 vTreeAt
  rw [(r_m s).1, Option.bind_some, q_193 c.1, Option.bind_some]
  unfold jn
  dsimp only
  rw [bP_if]
  by_cases c1 : isCl (md s 44) x
  · rw [if_pos c1, if_pos c1, q_194 c.1, Option.bind_some]
    exact Ans.id
  · rw [if_neg c1, if_neg c1, cst.1]
    exact Ans.mf c.2.2 isB2
theorem fiveM {w : Int32} (h : ¬ (w < 0 ∨ 4 < w)) : w = 0 ∨ w = 1 ∨ w = 2 ∨ w = 3 ∨ w = 4 := five (fun e => h (Or.inl e)) (Int32.not_lt.mp (fun e => h (Or.inr e)))
theorem d_18 (c : Mq s) (t w : Int32) : Ans s (m_244 44 t w (H s)) (vTreeOf (md s 44) t w) := by
  unfold m_244 vTreeOf
  rw [(r_m s).1, Option.bind_some, q_191 c.1, Option.bind_some, bP_if]
  by_cases c1 : isT (md s 44) t
  · rw [if_pos c1, if_pos c1]
    by_cases c2 : w < 0 ∨ 4 < w
    · rw [if_pos c2, cst.1]
      have e : (if w < 0 then i3 (-2) else if w ≤ i3 4 then if w = 0 then kA (md s 44) t else if w = 1 then cA (md s 44) t else if w = 2 then vA (md s 44) t else if w = 3 then cw (RL (md s 44)) t (i3 2) else cw (RL (md s 44)) t (i3 3) else i3 (-2)) = i3 (-2) := by
        by_cases c3 : w < 0
        · rw [if_pos c3]
        · rw [if_neg c3, if_neg (fun (e : w ≤ i3 4) => absurd (show i3 4 < w from c2.elim (fun e' => absurd e' c3) id) (Int32.not_lt.mpr e))]
      rw [e]
      exact Ans.mf c.2.2 isB2
    · rw [if_neg c2]
      have R : ∀ q, Ans s ((m_242 44 t q (H s)).bind fun q14 => some (q14.1, q14.2)) (cw (RL (md s 44)) t q) := fun q => by
        obtain ⟨s1, e1, f1⟩ := q_242 c.1 c.2.1 c1 q
        rw [e1]
        exact f1.ans
      have e1 := c.1.at_k c1
      have e2 := c.1.at_c c1
      have e3 := c.1.at_v c1
      have n11 : gN (H s) 8 44 11 = some 61 := rfl
      have n12 : gN (H s) 8 44 12 = some 62 := rfl
      have n13 : gN (H s) 8 44 13 = some 63 := rfl
      have a61 : aI (H s) 61 t = at32 (kS (md s 44)) t := aI_of rfl
      have a62 : aI (H s) 62 t = at32 (cS (md s 44)) t := aI_of rfl
      have a63 : aI (H s) 63 t = at32 (vS (md s 44)) t := aI_of rfl
      rw [if_neg (fun e => c2 (Or.inl e)), if_pos (show w ≤ i3 4 from Int32.not_lt.mp (fun e => c2 (Or.inr e)))]
      rcases fiveM c2 with rfl | rfl | rfl | rfl | rfl
      · rw [if_pos rfl, if_pos rfl, n11, Option.bind_some, a61, e1, Option.bind_some]
        exact Ans.id
      · rw [if_neg (by decide +kernel), if_pos rfl, if_neg (by decide +kernel), if_pos rfl, n12, Option.bind_some, a62, e2, Option.bind_some]
        exact Ans.id
      · rw [if_neg (by decide +kernel), if_neg (by decide +kernel), if_pos rfl, if_neg (by decide +kernel), if_neg (by decide +kernel), if_pos rfl, n13, Option.bind_some, a63, e3, Option.bind_some]
        exact Ans.id
      · rw [if_neg (by decide +kernel), if_neg (by decide +kernel), if_neg (by decide +kernel), if_pos rfl, if_neg (by decide +kernel), if_neg (by decide +kernel), if_neg (by decide +kernel), if_pos rfl]
        exact R _
      · rw [if_neg (by decide +kernel), if_neg (by decide +kernel), if_neg (by decide +kernel), if_neg (by decide +kernel), if_pos rfl, if_neg (by decide +kernel), if_neg (by decide +kernel), if_neg (by decide +kernel), if_neg (by decide +kernel)]
        exact R _
  · rw [if_neg c1, if_neg c1, cst.1]
    exact Ans.mf c.2.2 isB2
/-- rows are found, then -/
theorem Ans.rwM {β : Type} {f : tH → Option (β × tH)} {w : β} (c : Mq s) (k : ∀ s', Mq s' → md s' 44 = md s 44 → rowsM s' (RL (md s 44)) → Ans s' (f (H s')) w) : Ans s ((m_240 44 (H s)).bind f) w := by
  obtain ⟨s1, e1, q1, r1, -⟩ := q_240 c.1 c.2.1
  obtain ⟨s2, e2, q2⟩ := k s1 (q1.q.mq c) (q1.m (Or.inl rfl)) r1
  rw [e1]
  exact ⟨s2, e2, q1.q.trans q2⟩
theorem rowB {k : Int32} : (¬ k < i3 2 ∧ ¬ i3 12 < k) ↔ (¬ k < i3 2 ∧ k ≤ i3 12) := ⟨fun e => ⟨e.1, Int32.not_lt.mp e.2⟩, fun e => ⟨e.1, Int32.not_lt.mpr e.2⟩⟩
theorem d_20 (c : Mq s) (k : Int32) : Ans s (m_246 44 k (H s)) (vMany (md s 44) k) := by
  unfold m_246 vMany
  rw [(r_m s).1, Option.bind_some, jc.2.2.1, jc.2.2.2.2.2.2.2.2.2.1, q_190, Option.bind_some, bP_if]
  by_cases c1 : ¬ k < i3 2 ∧ k ≤ i3 12
  · rw [if_pos (rowB.mpr c1), if_pos c1]
    refine Ans.rwM c (fun s1 c1 m1 r1 => ?_)
    have hl := RL_len c.1
    refine ⟨s1, ?_, qq.refl s1⟩
    refine (lp0 (RL (md s 44)).length (by omega) (fun t a => (a, t)) (fun a => a) (coF (RL (md s 44)) k) (fun _ => True) (i3 0) ?_ (fun _ _ _ _ => trivial) ?_ trivial).trans rfl
    · intro j m nx ex hj _
      simp only [r_f, Option.bind_some, if_neg (r1.lt hj), r1.at hj, q_196, RL_bs c.1 hj, jn, add0]
      unfold coF
      split <;> rfl
    · intro a nx ex _
      simp only [r_f, Option.bind_some, if_pos (r1.ge (Nat.le_refl _) (show (RL (md s 44)).length ≤ 1000 by omega))]
  · rw [if_neg (fun e => c1 (rowB.mp e)), if_neg c1, cst.1]
    exact Ans.mf c.2.2 isB2
theorem d_21 (c : Mq s) : Ans s (m_247 44 (H s)) (t3 (RL (md s 44))) := by
  obtain ⟨s1, e1, f1⟩ := q_243 c.1 c.2.1
  unfold m_247
  rw [(r_m s).1, Option.bind_some, e1]
  exact f1.ans
noncomputable def pkM (L : List Int32) (q : Int32) : Nat → Nat → Int32 → Option Int32
  | 0, _, _ => none
  | n + 1, k, a => if bct (lg L k) = q then if a = 0 then some (lg L k) else pkM L q n (k + 1) (a + i3 (-1)) else pkM L q n (k + 1) a
noncomputable def xRowAt (g : Gd) (k i : Int32) : Int32 := if ¬ k < i3 2 ∧ k ≤ i3 12 then if 0 ≤ i then (pkM (RL g) k (RL g).length 0 i).getD (i3 (-5)) else i3 (-2) else i3 (-2)
theorem d_22 (c : Mq s) (k i : Int32) : Ans s (m_248 44 k i (H s)) (xRowAt (md s 44) k i) := by
  unfold m_248 xRowAt
  rw [(r_m s).1, Option.bind_some, jc.2.2.1, jc.2.2.2.2.2.2.2.2.2.1, q_190, Option.bind_some]
  unfold jn
  dsimp only
  rw [bP_if]
  by_cases c1 : ¬ k < i3 2 ∧ k ≤ i3 12
  · rw [if_pos (rowB.mpr c1), if_pos c1]
    by_cases c2 : 0 ≤ i
    · rw [if_pos c2, if_pos c2]
      refine Ans.rwM c (fun s1 c1 m1 r1 => ?_)
      have hl := RL_len c.1
      obtain ⟨s2, e2, q2⟩ := Ans.mf c1.2.2 isB5
      have L := lpP (R := Int32 × tH) (X := Unit) (K := fun _ => (m_189 44 (Int8.ofInt (-5)).toInt32 (H s1)).bind fun q10 => some (q10.1, q10.2)) (F := fun (s6 : Int32 × Int32) nx7 ex8 => (gI (H s1) 8 44 27).bind fun x11 => if x11 ≤ s6.2 then ex8 () else (gN (H s1) 8 44 26).bind fun o12 => (aI (H s1) o12 s6.2).bind fun x13 => (m_196 x13 (H s1)).bind fun x14 => if x14 = k then if s6.1 = 0 then (gN (H s1) 8 44 26).bind fun o17 => (aI (H s1) o17 s6.2).bind fun x18 => some (x18, H s1) else nx7 (s6.1 + Int32.ofInt (-1), (s6.2 + Int32.ofInt 1)) else nx7 (s6.1, (s6.2 + Int32.ofInt 1))) (RL (md s 44)).length (by omega) (fun t a => (a, t)) () (fun j a => if bct (lg (RL (md s 44)) j) = k then if a = 0 then some (lg (RL (md s 44)) j, H s1) else none else none) (fun j a => if bct (lg (RL (md s 44)) j) = k then a + i3 (-1) else a) (some (i3 (-5), H s2)) ?_ ?_ ?_ (fun n j a => match pkM (RL (md s 44)) k n j a with | some r => some (r, H s1) | none => some (i3 (-5), H s2)) (fun _ _ => rfl) ?_ i
      · rw [L]
        cases pkM (RL (md s 44)) k (RL (md s 44)).length 0 i with
        | none => exact ⟨s2, rfl, q2⟩
        | some r => exact ⟨s1, rfl, qq.refl s1⟩
      · intro j m nx ex hj
        simp only [r_f, Option.bind_some, if_neg (r1.lt hj), r1.at hj, q_196, RL_bs c.1 hj]
        by_cases d1 : bct (lg (RL (md s 44)) j) = k
        · simp only [if_pos d1]
          by_cases d2 : m = 0
          · simp only [if_pos d2]
          · simp only [if_neg d2]
        · simp only [if_neg d1]
      · intro a nx ex
        simp only [r_f, Option.bind_some, if_pos (r1.ge (Nat.le_refl _) (show (RL (md s 44)).length ≤ 1000 by omega))]
      · rw [cst.2.2.2.1]
        exact e2
      · intro n j a hj
        show (match (if bct (lg (RL (md s 44)) j) = k then if a = 0 then some (lg (RL (md s 44)) j) else pkM (RL (md s 44)) k n (j + 1) (a + i3 (-1)) else pkM (RL (md s 44)) k n (j + 1) a) with | some r => some (r, H s1) | none => some (i3 (-5), H s2)) = _
        by_cases d1 : bct (lg (RL (md s 44)) j) = k
        · simp only [if_pos d1]
          by_cases d2 : a = 0
          · simp only [if_pos d2]
          · simp only [if_neg d2]
        · simp only [if_neg d1]
    · rw [if_neg c2, if_neg c2, cst.1]
      exact Ans.mf c.2.2 isB2
  · rw [if_neg (fun e => c1 (rowB.mp e)), if_neg c1, cst.1]
    exact Ans.mf c.2.2 isB2
noncomputable def lgF (L : List Int32) (k j : Nat) : Nat := if bct (lg L k) ≤ bct (lg L j) then j else k
noncomputable def xLong (g : Gd) : Int32 := if (RL g).length = 0 then i3 (-5) else lg (RL g) (fB 1 (RL g).length (lgF (RL g)) 0)
theorem fB_lt {n : Nat} {f : Nat → Nat → Nat} (hf : ∀ k j, k < n → j < n → f k j < n) (h0 : 0 < n) : fB 1 n f 0 < n := by
  unfold fB
  refine itr_inv (P := fun j => j < n) _ _ h0 (fun k b hk hb => hf _ _ (by omega) hb)
theorem d_23 (c : Mq s) : Ans s (m_249 44 (H s)) (xLong (md s 44)) := by
  unfold m_249 xLong
  rw [(r_m s).1, Option.bind_some]
  refine Ans.rwM c (fun s1 c1 m1 r1 => ?_)
  have hl := RL_len c.1
  rw [(r_f s1).2.1, Option.bind_some]
  have e0 : (fi s1 44 27 = 0) ↔ (RL (md s 44)).length = 0 := by rw [r1.1]; exact i3n_inj (b := 0) (by omega) (by omega)
  by_cases c2 : (RL (md s 44)).length = 0
  · rw [if_pos (e0.mpr c2), if_pos c2, cst.2.2.2.1]
    exact Ans.mf c1.2.2 isB5
  · rw [if_neg (fun e => c2 (e0.mp e)), if_neg c2]
    refine ⟨s1, ?_, qq.refl s1⟩
    refine (lpB 1 (RL (md s 44)).length (by omega) (by omega) (fun t (j : Nat) => (i3 (j : Int), t)) (fun j => i3 (j : Int)) (lgF (RL (md s 44))) (fun j => j < (RL (md s 44)).length) 0 ?_ ?_ ?_ (by omega)).trans ?_
    · intro k j nx ex _ hk hj
      simp only [r_f, Option.bind_some, if_neg (r1.lt hk), r1.at hk, r1.at hj, q_196, RL_bs c.1 hk, RL_bs c.1 hj, jn]
      unfold lgF
      by_cases d1 : bct (lg (RL (md s 44)) k) ≤ bct (lg (RL (md s 44)) j)
      · simp only [if_pos d1]
      · simp only [if_neg d1]
    · intro k j _ hk hj
      unfold lgF
      split
      · exact hj
      · exact hk
    · intro k j nx ex hk hk2 _
      simp only [r_f, Option.bind_some, if_pos (r1.ge hk hk2)]
    · have hb := fB_lt (n := (RL (md s 44)).length) (f := lgF (RL (md s 44))) (fun k j hk hj => by
        unfold lgF
        split
        · exact hj
        · exact hk) (by omega)
      simp only [r_f, Option.bind_some, r1.at hb]
noncomputable def anF (g : Gd) (k : Nat) (m : Int32) : Int32 := if cw (RL g) (i3 (k : Int)) (i3 3) = 0 then m ||| bit (i3 (k : Int)) else m
noncomputable def xAlone (g : Gd) : Int32 := itr (anF g) (nn g) (i3 0)
theorem d_24 (c : Mq s) : Ans s (m_250 44 (H s)) (xAlone (md s 44)) := by
  have h := c.1
  suffices T (m_250 44 (H s)) (fun r => ∃ s', r = (xAlone (md s 44), H s') ∧ eF s s') by
    obtain ⟨_, e, s', rfl, f⟩ := this
    rw [e]
    exact f.ans
  have hn := h.n_le
  unfold m_250
  rw [(r_m s).1, Option.bind_some]
  refine lpH (nn (md s 44)) (fun k q => ∃ s', q = (itr (anF (md s 44)) k (i3 0), i3 (k : Int), H s') ∧ eF s s') (fun x => ∃ s', x = (xAlone (md s 44), H s') ∧ eF s s') ?_ ?_ ?_ ?_ (by omega)
  · rintro k _ hk ⟨s1, rfl, c1⟩ nx ex hnx hex
    have m1 := c1.1.m (Or.inl rfl)
    have h1 : ok (md s1 44) := by rw [m1]; exact h
    obtain ⟨s2, e2, c2⟩ := q_242 h1 (c1.1.z c.2.1) (t := i3 (k : Int)) (by rw [m1]; exact h.T hk) (i3 3)
    rw [m1] at e2
    dsimp only
    rw [(r_g s1).2.2.1, Option.bind_some, m1, if_neg (h.T hk).2, e2, Option.bind_some]
    unfold jn
    dsimp only
    rw [i3_nat_add, or0]
    have hF : itr (anF (md s 44)) (k + 1) (i3 0) = anF (md s 44) k (itr (anF (md s 44)) k (i3 0)) := rfl
    by_cases d : cw (RL (md s 44)) (i3 (k : Int)) (i3 3) = 0
    · rw [if_pos d]
      refine hnx _ ⟨s2, ?_, c1.trans c2⟩
      rw [hF, show anF (md s 44) k _ = _ from if_pos d]
      rfl
    · rw [if_neg d]
      refine hnx _ ⟨s2, ?_, c1.trans c2⟩
      rw [hF, show anF (md s 44) k _ = _ from if_neg d]
  · rintro _ ⟨s1, rfl, c1⟩ nx ex hex
    have m1 := c1.1.m (Or.inl rfl)
    dsimp only
    rw [(r_g s1).2.2.1, Option.bind_some, m1, if_pos (h.Te (Nat.le_refl _) (by have := h.n_le; omega))]
    exact hex _ ⟨s1, rfl, c1⟩
  · rintro _ ⟨s1, rfl, c1⟩
    exact T_some ⟨s1, rfl, c1⟩
  · exact ⟨s, rfl, eF.refl s⟩
theorem d_25 (c : Mq s) (t u : Int32) : Ans s (m_251 44 t u (H s)) (vThrough (md s 44) t u) := by
  unfold m_251 vThrough
  rw [(r_m s).1, Option.bind_some, q_191 c.1, Option.bind_some]
  unfold jn
  dsimp only
  rw [bP_if]
  by_cases c1 : isT (md s 44) t
  · rw [if_pos c1, if_pos c1, q_191 c.1, Option.bind_some, bP_if]
    by_cases c2 : isT (md s 44) u
    · rw [if_pos c2, if_pos c2]
      by_cases c3 : t = u
      · rw [if_pos c3, if_pos c3, cst.1]
        exact Ans.mf c.2.2 isB2
      · rw [if_neg c3, if_neg c3, (r_g s).2.2.2.2.2.1, Option.bind_some, (r_g s).2.2.2.2.2.2.2.2.2.1, c.1.at_k c1, Option.bind_some]
        by_cases c4 : kA (md s 44) t = i3 4
        · rw [if_pos c4, if_pos ((k4 _).mpr c4), cst.2.2.2.1]
          exact Ans.mf c.2.2 isB5
        · rw [if_neg c4, if_neg (fun e => c4 ((k4 _).mp e)), Option.bind_some, (r_g s).2.2.2.2.2.2.2.2.2.1, c.1.at_k c2, Option.bind_some]
          by_cases c5 : kA (md s 44) u = i3 4
          · rw [if_pos c5, if_pos ((k4 _).mpr c5), cst.2.2.2.1]
            exact Ans.mf c.2.2 isB5
          · rw [if_neg c5, if_neg (fun e => c5 ((k4 _).mp e)), q_239 c.1 c1 c2, Option.bind_some]
            exact Ans.id
    · rw [if_neg c2, if_neg c2, cst.1]
      exact Ans.mf c.2.2 isB2
  · rw [if_neg c1, if_neg c1, cst.1]
    exact Ans.mf c.2.2 isB2
abbrev st3M (g : Gd) (m : Int32) : Prop := ¬ m < 0 ∧ (m >>> (tN g &&& 31)) = 0 ∧ i3 3 ≤ bs m
noncomputable def xInLine (g : Gd) (m : Int32) : Int32 := if st3M g m then if siL (RL g) m then i3 1 else i3 0 else i3 (-2)
theorem d_26 (c : Mq s) (m : Int32) : Ans s (m_253 44 m (H s)) (xInLine (md s 44) m) := by
  unfold m_253 xInLine
  rw [(r_m s).1, Option.bind_some]
  unfold jn
  dsimp only
  by_cases c1 : m < 0
  · rw [if_pos c1, if_neg (fun e => e.1 c1), cst.1]
    exact Ans.mf c.2.2 isB2
  rw [if_neg c1, (r_g s).2.2.1, Option.bind_some]
  by_cases c2 : (m >>> (tN (md s 44) &&& 31)) = 0
  · rw [if_pos c2, q_196, Option.bind_some]
    by_cases c3 : i3 3 ≤ bs m
    · rw [if_pos (show Int32.ofInt 3 ≤ bs m from c3), if_pos ⟨c1, c2, c3⟩]
      obtain ⟨s1, e1, f1⟩ := q_252 c.1 c.2.1 m
      rw [e1, Option.bind_some]
      dsimp only
      rw [bP_if]
      by_cases c4 : siL (RL (md s 44)) m
      · rw [if_pos c4, if_pos c4]
        exact f1.ans
      · rw [if_neg c4, if_neg c4]
        exact f1.ans
    · rw [if_neg (show ¬ Int32.ofInt 3 ≤ bs m from c3), if_neg (fun e => c3 e.2.2), cst.1]
      exact Ans.mf c.2.2 isB2
  · rw [if_neg c2, if_neg (fun e => c2 e.2.1), cst.1]
    exact Ans.mf c.2.2 isB2
theorem d_36 (c : Mq s) (m : Int32) : Ans s (m_270 44 m (H s)) (vMost m) := by
  unfold m_270 vMost
  rw [(r_m s).1, Option.bind_some, jc.2.1, jc.2.2.2.2.2.1, q_190, Option.bind_some, bP_if]
  by_cases c1 : m < i3 1
  · rw [if_neg (fun e => e.1 c1), if_pos c1, cst.1]
    exact Ans.mf c.2.2 isB2
  rw [if_neg c1]
  by_cases c2 : m ≤ i3 5
  · rw [if_pos ⟨c1, Int32.not_lt.mpr c2⟩, if_pos c2]
    unfold jn
    dsimp only
    by_cases c3 : m = i3 1
    · rw [if_pos (show m = Int32.ofInt 1 from c3), if_pos c3]
      exact Ans.id
    · rw [if_neg (show ¬ m = Int32.ofInt 1 from c3), if_neg c3]
      exact Ans.id
  · rw [if_neg (fun e => e.2 (Int32.not_le.mp c2)), if_neg c2, cst.1]
    exact Ans.mf c.2.2 isB2
theorem d_41 (c : Mq s) (i : Int32) : Ans s (m_279 44 i (H s)) (vWishOf (md s 44) i) := by
  unfold m_279 vWishOf
  rw [(r_m s).1, Option.bind_some, (r_g s).2.2.2.1, Option.bind_some, jc.1, q_190, Option.bind_some]
  unfold jn
  dsimp only
  rw [bP_if]
  have e := pred_iff (x := i) c.1.wk
  by_cases c1 : isW (md s 44) i
  · rw [if_pos (e.mpr c1), if_pos c1, (r_g s).2.2.2.2.2.2.2.2.1, Option.bind_some, (r_g s).2.2.2.2.2.2.2.2.2.2.2.2, c.1.at_w c1, Option.bind_some]
    exact Ans.id
  · rw [if_neg (fun e' => c1 (e.mp e')), if_neg c1, cst.1]
    exact Ans.mf c.2.2 isB2
noncomputable def xMet (g : Gd) (i : Int32) : Int32 := if i = i3 (-1) then mmM g else if isW g i then if siL (RL g) (wA g i) then i3 1 else i3 0 else i3 (-2)
theorem m1_or {x : Int32} (h : ¬ x < i3 (-1)) (h1 : ¬ x = i3 (-1)) : ¬ x < 0 := by
  intro e
  rw [Int32.lt_iff_toInt_lt] at e h
  have a : (0 : Int32).toInt = 0 := by decide +kernel
  have b : (i3 (-1)).toInt = -1 := by decide +kernel
  exact h1 (Int32.toInt_inj.mp (by omega))
theorem d_42 (c : Mq s) (i : Int32) : Ans s (m_280 44 i (H s)) (xMet (md s 44) i) := by
  have hw := c.1.w_le
  unfold m_280 xMet
  rw [(r_m s).1, Option.bind_some, (r_g s).2.2.2.1, Option.bind_some, jc.2.2.2.2.2.2.2.2.2.2.2.2.2, q_190, Option.bind_some, bP_if]
  by_cases c0 : i = i3 (-1)
  · have a1 : ¬ i < i3 (-1) ∧ ¬ wN (md s 44) - Int32.ofInt 1 < i := by
      rw [c0]
      refine ⟨by decide +kernel, ?_⟩
      have e : wN (md s 44) - Int32.ofInt 1 = i3 ((wn (md s 44) : Int) - 1) := by
        rw [c.1.w_eq]; exact i3_sub _ _
      rw [e, i3_lt ⟨by omega, by omega⟩ ⟨by omega, by omega⟩]
      omega
    rw [if_pos a1, if_pos c0]
    unfold jn
    dsimp only
    obtain ⟨s1, e1, f1⟩ := q_261 c.1 c.2.1
    rw [if_pos (show i = Int32.ofInt (-1) from c0), e1, Option.bind_some]
    exact f1.ans
  · rw [if_neg c0]
    have e := pred_iff (x := i) c.1.wk
    by_cases c1 : isW (md s 44) i
    · have a1 : ¬ i < i3 (-1) ∧ ¬ wN (md s 44) - Int32.ofInt 1 < i := by
        refine ⟨fun e' => c1.1 ?_, (e.mpr c1).2⟩
        rw [Int32.lt_iff_toInt_lt] at e' ⊢
        have a : (0 : Int32).toInt = 0 := by decide +kernel
        have b : (i3 (-1)).toInt = -1 := by decide +kernel
        omega
      rw [if_pos a1, if_pos c1]
      unfold jn
      dsimp only
      obtain ⟨s1, e1, f1⟩ := q_252 c.1 c.2.1 (wA (md s 44) i)
      rw [if_neg (show ¬ i = Int32.ofInt (-1) from c0), (r_g s).2.2.2.2.2.2.2.2.1, Option.bind_some, (r_g s).2.2.2.2.2.2.2.2.2.2.2.2, c.1.at_w c1, Option.bind_some, e1, Option.bind_some, bP_if]
      by_cases c4 : siL (RL (md s 44)) (wA (md s 44) i)
      · rw [if_pos c4, if_pos c4]
        exact f1.ans
      · rw [if_neg c4, if_neg c4]
        exact f1.ans
    · have a1 : ¬ (¬ i < i3 (-1) ∧ ¬ wN (md s 44) - Int32.ofInt 1 < i) := fun h => c1 (e.mp ⟨m1_or h.1 c0, h.2⟩)
      rw [if_neg a1, if_neg c1, cst.1]
      exact Ans.mf c.2.2 isB2
theorem two01 {w : Int32} : (¬ w < i3 0 ∧ ¬ i3 2 < w) ↔ (¬ w < 0 ∧ w ≤ i3 2) := ⟨fun e => ⟨e.1, Int32.not_lt.mp e.2⟩, fun e => ⟨e.1, Int32.not_lt.mpr e.2⟩⟩
noncomputable def xBest (g : Gd) (V : Gd → Int32) (w : Int32) : Int32 := if w < 0 then i3 (-2) else if w ≤ i3 2 then tel (fb g V) w else i3 (-2)
theorem q_263 (c : Mq s) {b : Int32} {V : Gd → Int32} (hw : (b = 0 ∧ V = V3) ∨ (¬ b = 0 ∧ V = mmM)) (w : Int32) : Ans s (m_263 44 b w (H s)) (xBest (md s 44) V w) := by
  unfold m_263 xBest
  rw [(r_m s).1, Option.bind_some, jc.1, jc.2.2.1, q_190, Option.bind_some, bP_if]
  by_cases c1 : w < 0
  · rw [if_neg (fun e => (two01.mp e).1 c1), if_pos c1, cst.1]
    exact Ans.mf c.2.2 isB2
  rw [if_neg c1]
  by_cases c2 : w ≤ i3 2
  · rw [if_pos (two01.mpr ⟨c1, c2⟩), if_pos c2]
    obtain ⟨s1, e1, q1, b1⟩ := q_262 c.1 c.2.1 hw
    have g28 : gI (H s1) 8 44 28 = some (fi s1 44 28) := rfl
    have g29 : gI (H s1) 8 44 29 = some (fi s1 44 29) := rfl
    have g30 : gI (H s1) 8 44 30 = some (fi s1 44 30) := rfl
    rw [e1, Option.bind_some]
    unfold jn
    dsimp only
    rw [g28, g29, g30, Option.bind_some, Option.bind_some, Option.bind_some, ← b1]
    unfold tel
    by_cases c3 : w = 0
    · rw [if_pos c3, if_pos c3]
      exact ⟨s1, rfl, q1.q⟩
    · rw [if_neg c3, if_neg c3]
      by_cases c4 : w = i3 1
      · rw [if_pos (show w = Int32.ofInt 1 from c4), if_pos c4]
        exact ⟨s1, rfl, q1.q⟩
      · rw [if_neg (show ¬ w = Int32.ofInt 1 from c4), if_neg c4]
        exact ⟨s1, rfl, q1.q⟩
  · rw [if_neg (fun e => c2 (two01.mp e).2), if_neg c2, cst.1]
    exact Ans.mf c.2.2 isB2
theorem d_33 (c : Mq s) (w : Int32) : Ans s (m_264 44 w (H s)) (xBest (md s 44) V3 w) := by
  unfold m_264
  rw [(r_m s).1, Option.bind_some]
  obtain ⟨s1, e, q⟩ := q_263 c (b := Int32.ofInt 0) (Or.inl ⟨rfl, rfl⟩) w
  rw [e]
  exact ⟨s1, rfl, q⟩
theorem d_43 (c : Mq s) (w : Int32) : Ans s (m_265 44 w (H s)) (xBest (md s 44) mmM w) := by
  unfold m_265
  rw [(r_m s).1, Option.bind_some]
  obtain ⟨s1, e, q⟩ := q_263 c (b := Int32.ofInt 1) (Or.inr ⟨e1_0, rfl⟩) w
  rw [e]
  exact ⟨s1, rfl, q⟩
theorem q_216 (c : Mq s) (t x : Int32) : ∃ s', m_216 44 t x (H s) = some (nomv (md s 44) t x, H s') ∧ qq s s' ∧ (nomv (md s 44) t x = 0 → s' = s) := by
  have n5 : ¬ i3 (-5) = 0 := by decide +kernel
  have n2 : ¬ i3 (-2) = 0 := by decide +kernel
  unfold m_216 nomv
  rw [(r_m s).1, Option.bind_some, q_191 c.1, Option.bind_some]
  unfold jn
  dsimp only
  rw [bP_if]
  by_cases c1 : isT (md s 44) t
  · rw [if_pos c1, if_pos c1, q_193 c.1, Option.bind_some, bP_if]
    by_cases c2 : isCl (md s 44) x
    · rw [if_pos c2, if_pos c2, q_197 c.1 c1, Option.bind_some, bP_if]
      by_cases c3 : kOf (kA (md s 44) t) (i3 1)
      · obtain ⟨s1, e1, q1⟩ := Ans.mf c.2.2 isB5
        rw [if_pos c3, if_pos c3, cst.2.2.2.1]
        exact ⟨s1, e1, q1, fun e => absurd e n5⟩
      · rw [if_neg c3, if_neg c3, q_194 c.1, Option.bind_some]
        by_cases c4 : tIn (md s 44) x = i3 (-1)
        · rw [if_pos (show tIn (md s 44) x = Int32.ofInt (-1) from c4), if_pos c4]
          exact ⟨s, rfl, qq.refl s, fun _ => rfl⟩
        · obtain ⟨s1, e1, q1⟩ := Ans.mf c.2.2 isB5
          rw [if_neg (show ¬ tIn (md s 44) x = Int32.ofInt (-1) from c4), if_neg c4, cst.2.2.2.1]
          exact ⟨s1, e1, q1, fun e => absurd e n5⟩
    · obtain ⟨s1, e1, q1⟩ := Ans.mf c.2.2 isB2
      rw [if_neg c2, if_neg c2, cst.1]
      exact ⟨s1, e1, q1, fun e => absurd e n2⟩
  · obtain ⟨s1, e1, q1⟩ := Ans.mf c.2.2 isB2
    rw [if_neg c1, if_neg c1, cst.1]
    exact ⟨s1, e1, q1, fun e => absurd e n2⟩
noncomputable def xMoved (g : Gd) (t x : Int32) : Int32 := if nomv g t x = 0 then V3 (mvT g t x) else nomv g t x
theorem d_34 (c : Mq s) (t x : Int32) : Ans s (m_266 44 t x (H s)) (xMoved (md s 44) t x) := by
  obtain ⟨s1, e1, q1, k1⟩ := q_216 c t x
  unfold m_266 xMoved
  rw [(r_m s).1, Option.bind_some, e1, Option.bind_some]
  dsimp only
  by_cases c1 : nomv (md s 44) t x = 0
  · obtain rfl := k1 c1
    obtain ⟨h1, h2, h3, h4⟩ := nomv_0 c1
    obtain ⟨s3, s4, e3, e4, e5, c5⟩ := tryM c.1 c.2.1 h1 (c := x) (P := fun th => m_243 44 th) (V := V3) (ok_mvT c.1 h1 h2 h4) (fun s1 h1 z1 => q_243 h1 z1)
    rw [if_pos c1, if_pos c1, (r_g s1).2.2.2.2.2.2.1, Option.bind_some, (r_g s1).2.2.2.2.2.2.2.2.2.2.1, c.1.at_c h1, Option.bind_some, Option.bind_some, e3, Option.bind_some, e4, Option.bind_some]
    dsimp only
    rw [(r_g s3).2.2.2.2.2.2.1, Option.bind_some, e5, Option.bind_some]
    exact c5.ans
  · rw [if_neg c1, if_neg c1]
    exact ⟨s1, rfl, q1⟩
end MA
end
section
/-! ===== the reference's shapes ===== -/
section MB
variable {s : St}
theorem nle {j k : Nat} (h : j < k) (hk : k ≤ 1000) : ¬ i3 (k : Int) ≤ i3 (j : Int) := fun e => by
  have := (i3n_le (by omega) (by omega)).mp e
  omega
theorem yle {j k : Nat} (h : k ≤ j) (hk : j ≤ 1000) : i3 (k : Int) ≤ i3 (j : Int) := (i3n_le (by omega) (by omega)).mpr h
noncomputable def trM (g : Gd) (c : Int32) : Int32 := cO g c * sD g + sD g - i3 1 - rO g c
noncomputable def miM (g : Gd) (c : Int32) : Int32 := rO g c * sD g + sD g - i3 1 - cO g c
theorem q_281 (h : ok (md s 44)) (c : Int32) : m_281 44 c (H s) = some (trM (md s 44) c) := by
  unfold m_281 trM
  simp only [r_g, Option.bind_some, h.dv, h.rm]
theorem q_282 (h : ok (md s 44)) (c : Int32) : m_282 44 c (H s) = some (miM (md s 44) c) := by
  unfold m_282 miM
  simp only [r_g, Option.bind_some, h.dv, h.rm]
noncomputable def abn (x : Int32) : Int32 := if 0 ≤ x then x else -x
noncomputable def glF (g : Gd) (i j k : Nat) (m : Int32) : Int32 := if abn (dar g (cA g (i3 (i : Int))) (cA g (i3 (j : Int))) (cA g (i3 (k : Int)))) ≤ m then m else abn (dar g (cA g (i3 (i : Int))) (cA g (i3 (j : Int))) (cA g (i3 (k : Int))))
noncomputable def glJ (g : Gd) (i j : Nat) (m : Int32) : Int32 := itr (glF g i j) j m
noncomputable def glI (g : Gd) (i : Nat) (m : Int32) : Int32 := itr (glJ g i) i m
noncomputable def gl (g : Gd) : Int32 := itr (glI g) (nn g) (i3 0)
theorem q_286 (h : ok (md s 44)) : m_286 44 (H s) = some (gl (md s 44)) := by
  have hn := h.n_le
  unfold m_286
  simp only [r_g, Option.bind_some, jn, cst, bP_if, rB_0, rB_1, z00, z10, ↓reduceIte]
  refine (lp0 (nn (md s 44)) (by have := h.n_le; omega) (fun t a => (a, t)) (fun a => a) (glI (md s 44)) (fun _ => True) (i3 0) ?_ (fun _ _ _ _ => trivial) ?_ trivial).trans rfl
  · intro k m nx ex hk _
    simp only [(h.T hk).2, h.at_c (h.T hk), Option.bind_some, jn, cst, bP_if, rB_0, rB_1, z00, z10, ↓reduceIte]
    refine (lp0 k (by omega) (fun t a => (a, t)) (fun a => a) (glJ (md s 44) k) (fun _ => True) m ?_ (fun _ _ _ _ => trivial) ?_ trivial).trans rfl
    · intro j a nx2 ex2 hj _
      have hj2 : j < nn (md s 44) := by omega
      simp only [nle hj (by omega), h.at_c (h.T hj2), Option.bind_some, jn, cst, bP_if, rB_0, rB_1, z00, z10, ↓reduceIte]
      refine (lp0 j (by omega) (fun t a => (a, t)) (fun a => a) (glF (md s 44) k j) (fun _ => True) a ?_ (fun _ _ _ _ => trivial) ?_ trivial).trans rfl
      · intro i b nx3 ex3 hi _
        have hi2 : i < nn (md s 44) := by omega
        simp only [nle hi (by omega), h.at_c (h.T hi2), q_235 h, Option.bind_some, jn, cst, bP_if, rB_0, rB_1, z00, z10, ↓reduceIte]
        unfold glF abn
        by_cases c1 : 0 ≤ dar (md s 44) (cA (md s 44) (i3 (k : Int))) (cA (md s 44) (i3 (j : Int))) (cA (md s 44) (i3 (i : Int)))
        · simp only [if_pos c1]
          split <;> rfl
        · simp only [if_neg c1]
          split <;> rfl
      · intro b nx3 ex3 _
        simp only [Int32.le_refl, Option.bind_some, jn, cst, bP_if, rB_0, rB_1, z00, z10, ↓reduceIte]
    · intro a nx2 ex2 _
      simp only [Int32.le_refl, Option.bind_some, jn, cst, bP_if, rB_0, rB_1, z00, z10, ↓reduceIte]
  · intro a nx ex _
    simp only [h.Te (Nat.le_refl _) (by have := h.n_le; omega), Option.bind_some, jn, cst, bP_if, rB_0, rB_1, z00, z10, ↓reduceIte]
noncomputable def smF (g : Gd) (c : Int32) (k : Nat) (m : Int32) : Int32 := m + dst g c (cA g (i3 (k : Int)))
noncomputable def sm' (g : Gd) (c : Int32) : Int32 := itr (smF g c) (nn g) (i3 0)
noncomputable def mdF (g : Gd) (k : Nat) (a : Int32 × Int32) : Int32 × Int32 := if a.1 = i3 (-1) then (i3 (k : Int), sm' g (i3 (k : Int))) else if a.2 ≤ sm' g (i3 (k : Int)) then a else (i3 (k : Int), sm' g (i3 (k : Int)))
noncomputable def xMiddle (g : Gd) : Int32 := if tN g = 0 then i3 (-5) else (itr (mdF g) (dn g * dn g) (i3 (-1), i3 0)).1
theorem d_45 (c : Mq s) : Ans s (m_284 44 (H s)) (xMiddle (md s 44)) := by
  have h := c.1
  have hcc := h.cc_le
  unfold m_284 xMiddle
  rw [(r_m s).1, Option.bind_some, (r_g s).2.2.1, Option.bind_some]
  by_cases c1 : tN (md s 44) = 0
  · rw [if_pos c1, if_pos c1, cst.2.2.2.1]
    exact Ans.mf c.2.2 isB5
  rw [if_neg c1, if_neg c1]
  refine ⟨s, ?_, qq.refl s⟩
  refine (lp0 (dn (md s 44) * dn (md s 44)) (by omega) (fun t (a : Int32 × Int32) => (a.1, a.2, t)) (fun a => a.1) (mdF (md s 44)) (fun _ => True) (i3 (-1), i3 0) ?_ (fun _ _ _ _ => trivial) ?_ trivial).trans rfl
  · intro k m nx ex hk _
    simp only [q_192, (h.C hk).2, r_g, Option.bind_some, jn, cst, bP_if, rB_0, rB_1, z00, z10, ↓reduceIte]
    refine (lp0 (nn (md s 44)) (by have := h.n_le; omega) (fun t a => (a, t)) (fun a => a) (smF (md s 44) (i3 (k : Int))) (fun _ => True) (i3 0) ?_ (fun _ _ _ _ => trivial) ?_ trivial).trans ?_
    · intro j a nx2 ex2 hj _
      simp only [(h.T hj).2, h.at_c (h.T hj), q_237 h, Option.bind_some, jn, cst, bP_if, rB_0, rB_1, z00, z10, ↓reduceIte]
      rfl
    · intro a nx2 ex2 _
      simp only [h.Te (Nat.le_refl _) (by have := h.n_le; omega), Option.bind_some, jn, cst, bP_if, rB_0, rB_1, z00, z10, ↓reduceIte]
    · unfold mdF
      show (if m.1 = i3 (-1) then _ else _) = _
      by_cases d1 : m.1 = i3 (-1)
      · simp only [if_pos d1]
        rfl
      · simp only [if_neg d1]
        by_cases d2 : m.2 ≤ sm' (md s 44) (i3 (k : Int))
        · simp only [if_pos d2]
          rw [if_pos (show m.2 ≤ itr (smF (md s 44) (i3 (k : Int))) (nn (md s 44)) (i3 0) from d2)]
        · simp only [if_neg d2]
          rw [if_neg (show ¬ m.2 ≤ itr (smF (md s 44) (i3 (k : Int))) (nn (md s 44)) (i3 0) from d2)]
          rfl
  · intro a nx ex _
    simp only [q_192, h.Ce (Nat.le_refl _) (by have := h.cc_le; omega), Option.bind_some, jn, cst, bP_if, rB_0, rB_1, z00, z10, ↓reduceIte]
theorem ok.dk {g : Gd} (h : ok g) : ∃ k : Nat, k < 1000 ∧ sD g = i3 (k : Int) := ⟨dn g, by have := h.d_le; omega, h.d_eq⟩
abbrev inS (g : Gd) (x : Int32) : Prop := ¬ x < 0 ∧ ¬ sD g ≤ x
noncomputable def atM (g : Gd) (r c : Int32) : Int32 := if inS g r then if inS g c then tIn g (r * sD g + c) else i3 (-1) else i3 (-1)
theorem q_287 (h : ok (md s 44)) (r c : Int32) : m_287 44 r c (H s) = some (atM (md s 44) r c) := by
  have er := pred_iff (x := r) h.dk
  have ec := pred_iff (x := c) h.dk
  unfold m_287 atM
  rw [(r_m s).1, Option.bind_some, (r_g s).2.1, Option.bind_some, jc.1, q_190, Option.bind_some]
  unfold jn
  dsimp only
  rw [bP_if, Option.bind_some, q_190, Option.bind_some, bP_if, Option.bind_some, q_194 h, Option.bind_some]
  by_cases c1 : inS (md s 44) r
  · rw [if_pos (er.mpr c1), if_pos c1]
    by_cases c2 : inS (md s 44) c
    · rw [if_pos (ec.mpr c2), if_pos c2]
    · rw [if_neg (fun e => c2 (ec.mp e)), if_neg c2]
  · rw [if_neg (fun e => c1 (er.mp e)), if_neg c1]
/-- rows and columns of the far corners of a square on the side from i to j -/
noncomputable def qR (g : Gd) (i j : Int32) : Int32 := cO g (cA g j) - cO g (cA g i)
noncomputable def qC (g : Gd) (i j : Int32) : Int32 := rO g (cA g j) - rO g (cA g i)
abbrev qsq (g : Gd) (i j : Int32) : Prop := ¬ atM g (rO g (cA g j) + qR g i j) (cO g (cA g j) - qC g i j) = i3 (-1) ∧ ¬ atM g (rO g (cA g i) + qR g i j) (cO g (cA g i) - qC g i j) = i3 (-1)
noncomputable def sqF (g : Gd) (i j : Nat) (m : Int32) : Int32 := if i3 (i : Int) = i3 (j : Int) then m else if qsq g (i3 (i : Int)) (i3 (j : Int)) then m + i3 1 else m
noncomputable def sqI (g : Gd) (i : Nat) (m : Int32) : Int32 := itr (sqF g i) (nn g) m
noncomputable def sqs (g : Gd) : Int32 := itr (sqI g) (nn g) (i3 0)
theorem q_288 (h : ok (md s 44)) : m_288 44 (H s) = some (sqs (md s 44) / i3 4) := by
  unfold m_288
  simp only [r_g, Option.bind_some]
  refine (lp0 (nn (md s 44)) (by have := h.n_le; omega) (fun t a => (a, t)) (fun a => a) (sqI (md s 44)) (fun _ => True) (i3 0) ?_ (fun _ _ _ _ => trivial) ?_ trivial).trans ?_
  · intro k m nx ex hk _
    simp only [(h.T hk).2, h.at_c (h.T hk), Option.bind_some, ↓reduceIte]
    refine (lp0 (nn (md s 44)) (by have := h.n_le; omega) (fun t a => (a, t)) (fun a => a) (sqF (md s 44) k) (fun _ => True) m ?_ (fun _ _ _ _ => trivial) ?_ trivial).trans rfl
    · intro j a nx2 ex2 hj _
      simp only [(h.T hj).2, h.at_c (h.T hj), Option.bind_some, ↓reduceIte, h.dv, h.rm, q_287 h, jn]
      unfold sqF
      by_cases c1 : i3 (k : Int) = i3 (j : Int)
      · rw [if_pos c1, if_pos c1]
      rw [if_neg c1, if_neg c1]
      by_cases c2 : atM (md s 44) (rO (md s 44) (cA (md s 44) (i3 (j : Int))) + qR (md s 44) (i3 (k : Int)) (i3 (j : Int))) (cO (md s 44) (cA (md s 44) (i3 (j : Int))) - qC (md s 44) (i3 (k : Int)) (i3 (j : Int))) = i3 (-1)
      · rw [if_neg (show ¬ qsq (md s 44) (i3 (k : Int)) (i3 (j : Int)) from fun e => e.1 c2)]
        refine (if_pos c2).trans ?_
        rw [if_pos (show Int32.ofInt 0 = 0 from rfl), add0]
      · refine (if_neg c2).trans ?_
        rw [if_neg e1_0]
        by_cases c3 : atM (md s 44) (rO (md s 44) (cA (md s 44) (i3 (k : Int))) + qR (md s 44) (i3 (k : Int)) (i3 (j : Int))) (cO (md s 44) (cA (md s 44) (i3 (k : Int))) - qC (md s 44) (i3 (k : Int)) (i3 (j : Int))) = i3 (-1)
        · rw [if_neg (show ¬ qsq (md s 44) (i3 (k : Int)) (i3 (j : Int)) from fun e => e.2 c3)]
          refine (if_pos c3).trans ?_
          rw [add0]
        · rw [if_pos (show qsq (md s 44) (i3 (k : Int)) (i3 (j : Int)) from ⟨c2, c3⟩)]
          exact if_neg c3
    · intro a nx2 ex2 _
      simp only [h.Te (Nat.le_refl _) (by have := h.n_le; omega), Option.bind_some, ↓reduceIte]
  · intro a nx ex _
    simp only [h.Te (Nat.le_refl _) (by have := h.n_le; omega), Option.bind_some, ↓reduceIte]
  · have e : ¬ Int32.ofInt 4 = 0 := by decide +kernel
    simp only [dvI, e, ↓reduceIte, Option.bind_some]
    rfl
/-- the nearest pair -/
noncomputable def p100 (a : Nat × Nat) : Int32 := i3 ((100 * a.1 + a.2 : Nat) : Int)
noncomputable def neF (g : Gd) (i j : Nat) (a : Nat × Nat) : Nat × Nat := if dst g (cA g (i3 (a.1 : Int))) (cA g (i3 (a.2 : Int))) ≤ dst g (cA g (i3 (i : Int))) (cA g (i3 (j : Int))) then a else (i, j)
noncomputable def neI (g : Gd) (i : Nat) (a : Nat × Nat) : Nat × Nat := fB (i + 1) (nn g) (neF g i) a
noncomputable def ne' (g : Gd) : Nat × Nat := itr (neI g) (nn g) (0, 1)
noncomputable def xNearest (g : Gd) : Int32 := if i3 2 ≤ tN g then p100 (ne' g) else i3 (-5)
abbrev pOk (g : Gd) (a : Nat × Nat) : Prop := a.1 < nn g ∧ a.2 < nn g
theorem c100 : (Int8.ofInt 100).toInt32 = i3 ((100 : Nat) : Int) := by decide +kernel
theorem p100_d {a : Nat × Nat} (h1 : a.1 < 13) (h2 : a.2 < 13) : dvI (p100 a) (Int8.ofInt 100).toInt32 = some (i3 (a.1 : Int)) ∧ rmI (p100 a) (Int8.ofInt 100).toInt32 = some (i3 (a.2 : Int)) := by
  rw [c100]
  obtain ⟨x, y⟩ := a
  have n0 : ¬ i3 ((100 : Nat) : Int) = 0 := by decide +kernel
  have e : p100 (x, y) / i3 ((100 : Nat) : Int) = i3 (x : Int) := by
    have e1 : p100 (x, y) = i3 ((100 * x + y : Nat) : Int) := rfl
    rw [e1]
    have h1' : x < 13 := h1
    have h2' : y < 13 := h2
    have k : ∀ x : Fin 13, ∀ y : Fin 13, i3 ((100 * x.1 + y.1 : Nat) : Int) / i3 ((100 : Nat) : Int) = i3 (x.1 : Int) := by decide +kernel
    exact k ⟨x, h1'⟩ ⟨y, h2'⟩
  constructor
  · unfold dvI
    rw [if_neg n0, e]
  · unfold rmI
    rw [if_neg n0]
    have h1' : x < 13 := h1
    have h2' : y < 13 := h2
    have k : ∀ x : Fin 13, ∀ y : Fin 13, i3 ((100 * x.1 + y.1 : Nat) : Int) - i3 ((100 * x.1 + y.1 : Nat) : Int) / i3 ((100 : Nat) : Int) * i3 ((100 : Nat) : Int) = i3 (y.1 : Int) := by decide +kernel
    exact congrArg some (k ⟨x, h1'⟩ ⟨y, h2'⟩)
theorem p100_e (k j : Nat) : (Int8.ofInt 100).toInt32 * i3 (k : Int) + i3 (j : Int) = p100 (k, j) := by
  rw [c100]
  rw [i3_mul, i3_add]
  unfold p100
  rw [Int.natCast_add, Int.natCast_mul]
theorem p100_0 : ((Int32.ofInt 1, Int32.ofInt 0) : Int32 × Int32) = (p100 (0, 1), Int32.ofInt 0) := by
  have e : Int32.ofInt 1 = p100 (0, 1) := by
    unfold p100
    decide +kernel
  rw [e]
theorem n2_le {g : Gd} (h : ok g) (c : i3 2 ≤ tN g) : 2 ≤ nn g := by
  have hn := h.n_le
  rw [h.n_eq, i3_le ⟨by omega, by omega⟩ ⟨by omega, by omega⟩] at c
  omega
theorem neF_ok {g : Gd} {i j : Nat} {a : Nat × Nat} (hi : i < nn g) (hj : j < nn g) (h : pOk g a) : pOk g (neF g i j a) := by
  unfold neF
  split
  · exact h
  · exact ⟨hi, hj⟩
theorem neI_ok {g : Gd} {i : Nat} {a : Nat × Nat} (hi : i < nn g) (h : pOk g a) : pOk g (neI g i a) := by
  unfold neI fB
  exact itr_inv (P := pOk g) _ _ h (fun k b hk hb => neF_ok hi (by omega) hb)
theorem d_46 (c : Mq s) : Ans s (m_285 44 (H s)) (xNearest (md s 44)) := by
  have h := c.1
  have hn := h.n_le
  unfold m_285 xNearest
  rw [(r_m s).1, Option.bind_some, (r_g s).2.2.1, Option.bind_some]
  by_cases c1 : i3 2 ≤ tN (md s 44)
  · rw [if_pos (show Int32.ofInt 2 ≤ tN (md s 44) from c1), if_pos c1]
    have hn2 : 2 ≤ nn (md s 44) := by
      exact n2_le h c1
    refine ⟨s, ?_, qq.refl s⟩
    rw [p100_0]
    generalize hC : (Int8.ofInt 100).toInt32 = C
    refine (lp0 (nn (md s 44)) (by have := h.n_le; omega) (fun t (a : Nat × Nat) => (p100 a, t)) p100 (neI (md s 44)) (pOk (md s 44)) (0, 1) ?_ (fun k a hk ha => neI_ok hk ha) ?_ ⟨by show 0 < _; omega, by show 1 < _; omega⟩).trans rfl
    · intro k m nx ex hk hm
      dsimp only
      rw [Option.bind_some, if_neg (h.T hk).2, i3_nat_add]
      refine (lpB (k + 1) (nn (md s 44)) (by omega) (by omega) (fun t (a : Nat × Nat) => (p100 a, t)) p100 (neF (md s 44) k) (pOk (md s 44)) m ?_ (fun j a hj1 hj2 ha => neF_ok hk hj2 ha) ?_ hm).trans ?_
      · intro j a nx2 ex2 _ hj ha
        have e := p100_d (a := a) (by have := ha.1; omega) (by have := ha.2; omega)
        rw [hC] at e
        simp only [r_g, h.at_c (h.T hk), (h.T hj).2, h.at_c (h.T hj), e.1, e.2, h.at_c (h.T ha.1), h.at_c (h.T ha.2), q_237 h, Option.bind_some, ↓reduceIte, jn]
        unfold neF
        by_cases d1 : dst (md s 44) (cA (md s 44) (i3 (a.1 : Int))) (cA (md s 44) (i3 (a.2 : Int))) ≤ dst (md s 44) (cA (md s 44) (i3 (k : Int))) (cA (md s 44) (i3 (j : Int)))
        · simp only [if_pos d1]
        · simp only [if_neg d1]
          rw [← hC, p100_e]
      · intro j a nx2 ex2 hj hj2 _
        simp only [h.Te hj hj2, Option.bind_some, ↓reduceIte]
      · rfl
    · intro a nx ex _
      dsimp only
      rw [Option.bind_some]
      exact if_pos (h.Te (Nat.le_refl _) (by have := h.n_le; omega))
  · rw [if_neg (show ¬ Int32.ofInt 2 ≤ tN (md s 44) from c1), if_neg c1, cst.2.2.2.1]
    exact Ans.mf c.2.2 isB5
end MB
end
section
/-! ===== the reference's missed trees, free cells, paths and symmetries ===== -/
section MC
variable {s : St}
/-- a tree is blighted for a while, something is counted, and it is itself again -/
noncomputable def blT (g : Gd) (t : Int32) : Gd := uK g ((kS g).set t.toNatClampNeg (i3 4))
theorem tryK (h : ok (md s 44)) (z : Sz s) {t : Int32} (ht : isT (md s 44) t) {P : tH → Option (Int32 × tH)} {V : Gd → Int32} (hg : ok (blT (md s 44) t)) (hP : ∀ s1, ok (md s1 44) → Sz s1 → ∃ s', P (H s1) = some (V (md s1 44), H s') ∧ eF s1 s') : ∃ s2 s3, sI (H s) 61 t (i3 4) = some (H (wM s 44 (blT (md s 44) t))) ∧ P (H (wM s 44 (blT (md s 44) t))) = some (V (blT (md s 44) t), H s2) ∧ sI (H s2) 61 t (kA (md s 44) t) = some (H s3) ∧ eF s s3 := by
  have hl := h.tl ht
  have hn := h.n_le
  have hL : t.toNatClampNeg < (kS (md s 44)).length := by rw [h.2.2.2.1.1]; omega
  have em := md_wM s 44 (blT (md s 44) t)
  obtain ⟨s2, e2, c2⟩ := hP (wM s 44 (blT (md s 44) t)) (by rw [em]; exact hg) (Sz_wM z)
  rw [em] at e2
  have m2 : md s2 44 = blT (md s 44) t := (c2.1.m (Or.inl rfl)).trans em
  refine ⟨s2, wM s2 44 (md s 44), sI61 s ht.1 hL, e2, ?_, sc_back c2.1, fun o k hk => ?_⟩
  · have hL2 : t.toNatClampNeg < (kS (md s2 44)).length := by
      rw [m2]
      show _ < ((kS (md s 44)).set _ _).length
      rw [List.length_set]; exact hL
    rw [sI61 s2 ht.1 hL2, m2]
    have eb : uK (blT (md s 44) t) ((kS (blT (md s 44) t)).set t.toNatClampNeg (kA (md s 44) t)) = md s 44 := by
      have e1 : (kS (blT (md s 44) t)).set t.toNatClampNeg (kA (md s 44) t) = kS (md s 44) := set_back hL (i3 4)
      rw [e1]
      rfl
    rw [eb]
  · rw [fi_wM]
    have e := c2.2 o k hk
    rw [fi_wM] at e
    split
    · rename_i q; rw [q.1, q.2]; rfl
    split
    · rename_i q; rw [q.1, q.2]; rfl
    split
    · rename_i q; rw [q.1, q.2]; rfl
    split
    · rename_i q; rw [q.1, q.2]; rfl
    rename_i q1 q2 q3 q4
    rw [if_neg q1, if_neg q2, if_neg q3, if_neg q4] at e
    exact e
theorem ok_blT {g : Gd} (h : ok g) {t : Int32} (ht : isT g t) : ok (blT g t) := by
  have h1 := h.tl ht
  have h2 := h.n_le
  refine ⟨h.1, h.2.1, h.2.2.1, ⟨(List.length_set).trans h.2.2.2.1.1, h.2.2.2.1.2⟩, fun u hu => ?_, h.2.2.2.2.2⟩
  have e : kA (blT g t) u = if u = t then i3 4 else kA g u := rd_set ht.1 hu.1 (by rw [h.2.2.2.1.1]; omega)
  rw [e]
  split
  · exact ⟨by decide +kernel, by decide +kernel⟩
  · exact h.2.2.2.2.1 u hu
noncomputable def msO (g : Gd) (t : Int32) : Int32 := V3 g - V3 (blT g t)
theorem q_258 (h : ok (md s 44)) (z : Sz s) {t : Int32} (ht : isT (md s 44) t) : ∃ s', m_258 44 t (H s) = some (msO (md s 44) t, H s') ∧ eF s s' := by
  obtain ⟨s1, e1, f1⟩ := q_243 h z
  have m1 := f1.1.m (Or.inl rfl)
  have h1 : ok (md s1 44) := by rw [m1]; exact h
  have t1 : isT (md s1 44) t := by rw [m1]; exact ht
  obtain ⟨s3, s4, e3, e4, e5, c5⟩ := tryK h1 (f1.1.z z) t1 (P := fun th => m_243 44 th) (V := V3) (ok_blT h1 t1) (fun s1 h1 z1 => q_243 h1 z1)
  refine ⟨s4, ?_, f1.trans c5⟩
  unfold m_258
  rw [(r_m s).1, Option.bind_some, e1, Option.bind_some]
  dsimp only
  unfold m_257
  rw [(r_m s1).1, Option.bind_some, (r_g s1).2.2.2.2.2.1, Option.bind_some, (r_g s1).2.2.2.2.2.2.2.2.2.1, h1.at_k t1, Option.bind_some, Option.bind_some, e3, Option.bind_some, e4, Option.bind_some]
  dsimp only
  rw [(r_g s3).2.2.2.2.2.1, Option.bind_some, e5, Option.bind_some, Option.bind_some, m1]
  rfl
noncomputable def xMissed (g : Gd) (t : Int32) : Int32 := if isT g t then msO g t else i3 (-2)
theorem d_31 (c : Mq s) (t : Int32) : Ans s (m_259 44 t (H s)) (xMissed (md s 44) t) := by
  unfold m_259 xMissed
  rw [(r_m s).1, Option.bind_some, q_191 c.1, Option.bind_some]
  unfold jn
  dsimp only
  rw [bP_if]
  by_cases c1 : isT (md s 44) t
  · rw [if_pos c1, if_pos c1]
    obtain ⟨s1, e1, f1⟩ := q_258 c.1 c.2.1 c1
    rw [e1]
    exact f1.ans
  · rw [if_neg c1, if_neg c1, cst.1]
    exact Ans.mf c.2.2 isB2
noncomputable def leF (g : Gd) (k m : Nat) : Nat := if msO g (i3 (m : Int)) ≤ msO g (i3 (k : Int)) then m else k
noncomputable def xLeast (g : Gd) : Int32 := if tN g = 0 then i3 (-5) else i3 ((fB 1 (nn g) (leF g) 0 : Nat) : Int)
theorem leF_lt {g : Gd} {k m : Nat} (hk : k < nn g) (hm : m < nn g) : leF g k m < nn g := by
  unfold leF
  split
  · exact hm
  · exact hk
theorem d_32 (c : Mq s) : Ans s (m_260 44 (H s)) (xLeast (md s 44)) := by
  have h := c.1
  have hn := h.n_le
  unfold m_260 xLeast
  rw [(r_m s).1, Option.bind_some, (r_g s).2.2.1, Option.bind_some]
  by_cases c1 : tN (md s 44) = 0
  · rw [if_pos c1, if_pos c1, cst.2.2.2.1]
    exact Ans.mf c.2.2 isB5
  rw [if_neg c1, if_neg c1]
  have hn1 : 1 ≤ nn (md s 44) := by
    rcases Nat.eq_zero_or_pos (nn (md s 44)) with e | e
    · exact absurd (h.n_eq.trans (by rw [e]; rfl)) c1
    · exact e
  suffices T (lp (fun (s2 : Int32 × Int32 × tH) nx3 ex4 => (gI s2.2.2 8 44 10).bind fun x6 => if x6 ≤ s2.2.1 then ex4 (s2.1, s2.2.2) else (m_258 44 s2.2.1 s2.2.2).bind fun q7 => (m_258 44 s2.1 q7.2).bind fun q8 => jn (fun (v9 : Int32) => nx3 (v9, (s2.2.1 + Int32.ofInt 1), q8.2)) (fun j10 => if q8.1 ≤ q7.1 then j10 s2.1 else j10 s2.2.1)) 4096 ((Int32.ofInt 0), (Int32.ofInt 1), H s) (fun (x5 : Int32 × tH) => some (x5.1, x5.2))) (fun r => ∃ s', r = (i3 ((fB 1 (nn (md s 44)) (leF (md s 44)) 0 : Nat) : Int), H s') ∧ eF s s') by
    obtain ⟨_, e, s', rfl, f⟩ := this
    rw [e]
    exact f.ans
  have hm : ∀ k, k ≤ nn (md s 44) - 1 → itr (fun i => leF (md s 44) (1 + i)) k 0 < nn (md s 44) := fun k hk => itr_inv (P := fun j => j < nn (md s 44)) _ _ (by omega) (fun i b hi hb => leF_lt (by omega) hb)
  refine lpH (nn (md s 44) - 1) (fun k q => ∃ s', q = (i3 ((itr (fun i => leF (md s 44) (1 + i)) k 0 : Nat) : Int), i3 ((1 + k : Nat) : Int), H s') ∧ eF s s') (fun x => ∃ s', x = (i3 ((fB 1 (nn (md s 44)) (leF (md s 44)) 0 : Nat) : Int), H s') ∧ eF s s') ?_ ?_ ?_ ?_ (by omega)
  · rintro k _ hk ⟨s1, rfl, f1⟩ nx ex hnx hex
    have m1 := f1.1.m (Or.inl rfl)
    have h1 : ok (md s1 44) := by rw [m1]; exact h
    have hk1 : 1 + k < nn (md s 44) := by omega
    obtain ⟨s2, e2, f2⟩ := q_258 h1 (f1.1.z c.2.1) (t := i3 ((1 + k : Nat) : Int)) (by rw [m1]; exact h.T hk1)
    have m2 := f2.1.m (Or.inl rfl)
    have h2 : ok (md s2 44) := by rw [m2]; exact h1
    obtain ⟨s3, e3, f3⟩ := q_258 h2 (f2.1.z (f1.1.z c.2.1)) (t := i3 ((itr (fun i => leF (md s 44) (1 + i)) k 0 : Nat) : Int)) (by rw [m2, m1]; exact h.T (hm k (by omega)))
    rw [m2, m1] at e3
    rw [m1] at e2
    dsimp only
    rw [(r_g s1).2.2.1, Option.bind_some, m1, if_neg (h.T hk1).2, e2, Option.bind_some]
    dsimp only
    rw [e3, Option.bind_some]
    unfold jn
    dsimp only
    rw [i3_nat_add]
    have hF : itr (fun i => leF (md s 44) (1 + i)) (k + 1) 0 = leF (md s 44) (1 + k) (itr (fun i => leF (md s 44) (1 + i)) k 0) := rfl
    by_cases d : msO (md s 44) (i3 ((itr (fun i => leF (md s 44) (1 + i)) k 0 : Nat) : Int)) ≤ msO (md s 44) (i3 ((1 + k : Nat) : Int))
    · rw [if_pos d]
      refine hnx _ ⟨s3, ?_, (f1.trans f2).trans f3⟩
      rw [hF, show leF (md s 44) (1 + k) _ = _ from if_pos d]
      rfl
    · rw [if_neg d]
      refine hnx _ ⟨s3, ?_, (f1.trans f2).trans f3⟩
      rw [hF, show leF (md s 44) (1 + k) _ = _ from if_neg d]
      rfl
  · rintro _ ⟨s1, rfl, f1⟩ nx ex hex
    have m1 := f1.1.m (Or.inl rfl)
    dsimp only
    rw [(r_g s1).2.2.1, Option.bind_some, m1, if_pos (h.Te (by omega) (by omega))]
    exact hex _ ⟨s1, rfl, f1⟩
  · rintro _ ⟨s1, rfl, f1⟩
    exact T_some ⟨s1, rfl, f1⟩
  · exact ⟨s, rfl, eF.refl s⟩
theorem mS {R : Type} (x : Option Nat) (a b : R) [i : Decidable (¬ x = none)] : (match x with | some _ => a | none => b) = @ite _ (¬ x = none) i a b := by
  cases x with
  | none => exact (if_neg (fun q => q rfl)).symm
  | some j => exact (if_pos (fun q => by cases q)).symm
/-- where nothing may stand -/
abbrev noP (g : Gd) (c : Int32) (i j : Nat) : Prop := ¬ kA g (i3 (i : Int)) = i3 4 ∧ ¬ kA g (i3 (j : Int)) = i3 4 ∧ dar g (cA g (i3 (i : Int))) (cA g (i3 (j : Int))) c = 0
abbrev noI (g : Gd) (c : Int32) (i : Nat) : Prop := ¬ fst? (fun j => decide (noP g c i j)) i 0 = none
abbrev mst (g : Gd) (c : Int32) : Prop := tIn g c = i3 (-1) ∧ fst? (fun i => decide (noI g c i)) (nn g) 0 = none
theorem q_268 (h : ok (md s 44)) (c : Int32) : m_268 44 c (H s) = some (bP (mst (md s 44) c)) := by
  have hn := h.n_le
  unfold m_268
  rw [(r_m s).1, Option.bind_some, q_194 h, Option.bind_some]
  by_cases c0 : tIn (md s 44) c = i3 (-1)
  · rw [if_pos (show tIn (md s 44) c = Int32.ofInt (-1) from c0)]
    refine (lpS (nn (md s 44)) (by have := h.n_le; omega) (fun t => t) () (fun i => decide (noI (md s 44) c i)) (fun _ => some (i3 0)) ?_ ?_).trans ?_
    · intro k nx ex hk
      simp only [r_g, Option.bind_some, (h.T hk).2, ↓reduceIte, h.at_k (h.T hk), h.at_c (h.T hk)]
      refine (lpS k (by omega) (fun t => t) () (fun j => decide (noP (md s 44) c k j)) (fun _ => some (i3 0)) ?_ ?_).trans ?_
      · intro j nx2 ex2 hj
        have hj2 : j < nn (md s 44) := by omega
        simp only [nle hj (by omega), Option.bind_some, ↓reduceIte, h.at_k (h.T hj2), h.at_c (h.T hj2), q_236 h, jn, bP_if, decide_eq_true_eq]
        by_cases d1 : kA (md s 44) (i3 (k : Int)) = i3 4
        · rw [if_pos (show _ = Int32.ofInt 4 from d1), if_neg (fun e => e.1 d1)]
        rw [if_neg (show ¬ _ = Int32.ofInt 4 from d1)]
        by_cases d2 : kA (md s 44) (i3 (j : Int)) = i3 4
        · rw [if_pos (show _ = Int32.ofInt 4 from d2), if_neg (fun e => e.2.1 d2)]
        rw [if_neg (show ¬ _ = Int32.ofInt 4 from d2)]
        by_cases d3 : dar (md s 44) (cA (md s 44) (i3 (k : Int))) (cA (md s 44) (i3 (j : Int))) c = 0
        · rw [if_pos d3, if_pos ⟨d1, d2, d3⟩]
          rfl
        · rw [if_neg d3, if_neg (fun e => d3 e.2.2)]
      · intro nx2 ex2
        simp only [Int32.le_refl, ↓reduceIte]
      · simp only [decide_eq_true_eq]
        exact mS _ _ _
    · intro nx ex
      simp only [r_g, Option.bind_some, h.Te (Nat.le_refl _) (by have := h.n_le; omega), ↓reduceIte]
    · refine (mS _ _ _).trans ?_
      by_cases e : fst? (fun i => decide (noI (md s 44) c i)) (nn (md s 44)) 0 = none
      · rw [if_neg (fun q => q e), show bP (mst (md s 44) c) = i3 1 from if_pos ⟨c0, e⟩]
        rfl
      · rw [if_pos e, show bP (mst (md s 44) c) = i3 0 from if_neg (fun q => e q.2)]
  · rw [if_neg (show ¬ tIn (md s 44) c = Int32.ofInt (-1) from c0), show bP (mst (md s 44) c) = i3 0 from if_neg (fun q => c0 q.1)]
    rfl
abbrev b64 (k : Nat) : Int64 := (Int64.ofNat 1) <<< ((Int32.toInt64 (i3 (k : Int))) &&& 63)
noncomputable def maF (g : Gd) (k : Nat) (m : Int64) : Int64 := if mst g (i3 (k : Int)) then m ||| b64 k else m
noncomputable def xMay (g : Gd) : Int64 := itr (maF g) (dn g * dn g) (Int64.ofNat 0)
theorem lor0 (m : Int64) : m ||| Int64.ofNat 0 = m := Int64.or_zero
theorem q_269 (h : ok (md s 44)) : m_269 44 (H s) = some (xMay (md s 44)) := by
  have hcc := h.cc_le
  unfold m_269
  rw [(r_m s).1, Option.bind_some]
  refine (lp0 (dn (md s 44) * dn (md s 44)) (by omega) (fun t (a : Int64) => (a, t)) (fun a => a) (maF (md s 44)) (fun _ => True) (Int64.ofNat 0) ?_ (fun _ _ _ _ => trivial) ?_ trivial).trans rfl
  · intro k m nx ex hk _
    dsimp only
    rw [q_192, Option.bind_some, if_neg (h.C hk).2, q_268 h, Option.bind_some]
    unfold jn
    dsimp only
    rw [bP_if]
    unfold maF
    by_cases d : mst (md s 44) (i3 (k : Int))
    · rw [if_pos d, if_pos d]
    · rw [if_neg d, if_neg d, lor0]
  · intro a nx ex _
    dsimp only
    rw [q_192, Option.bind_some, if_pos (h.Ce (Nat.le_refl _) (by have := h.cc_le; omega))]
end MC
end
section
/-! ===== the reference's paths, symmetries and sight ===== -/
section MD
variable {s : St}
theorem jnE {α β : Type} (f : α → β) (g : (α → β) → β) : jn f g = g f := rfl
noncomputable def lnM (g : Gd) (w c : Int32) : Int32 := if w = 0 then rO g c else if w = i3 1 then cO g c else if w = i3 2 then rO g c - cO g c + sD g - i3 1 else rO g c + cO g c
theorem q_277 (h : ok (md s 44)) (w c : Int32) : m_277 44 w c (H s) = some (lnM (md s 44) w c) := by
  unfold m_277 lnM
  rw [(r_m s).1, Option.bind_some, (r_g s).2.1, Option.bind_some, h.dv, Option.bind_some, Option.bind_some, h.rm, Option.bind_some]
  unfold jn
  dsimp only
  by_cases c1 : w = 0
  · rw [if_pos c1, if_pos c1]
  rw [if_neg c1, if_neg c1]
  by_cases c2 : w = i3 1
  · rw [if_pos (show w = Int32.ofInt 1 from c2), if_pos c2]
  rw [if_neg (show ¬ w = Int32.ofInt 1 from c2), if_neg c2]
  by_cases c3 : w = i3 2
  · rw [if_pos (show w = Int32.ofInt 2 from c3), if_pos c3]
    rfl
  · rw [if_neg (show ¬ w = Int32.ofInt 2 from c3), if_neg c3]
noncomputable def bnM (g : Gd) (w : Int32) : Nat := if i3 2 ≤ w then 2 * dn g - 1 else dn g
noncomputable def poF (g : Gd) (w : Int32) (k j : Nat) (m : Int32) : Int32 := if lnM g w (cA g (i3 (j : Int))) = i3 (k : Int) then m &&& i3 0 else m &&& i3 1
noncomputable def po (g : Gd) (w : Int32) (k : Nat) : Int32 := itr (poF g w k) (nn g) (i3 1)
noncomputable def paF (g : Gd) (w : Int32) (k : Nat) (m : Int32) : Int32 := if po g w k = 0 then m + i3 0 else m + i3 1
noncomputable def pas (g : Gd) (w : Int32) : Int32 := itr (paF g w) (bnM g w) (i3 0)
noncomputable def xPaths (g : Gd) (w : Int32) : Int32 := if w < 0 then i3 (-2) else if w ≤ i3 3 then pas g w else i3 (-2)
theorem three03 {w : Int32} : (¬ w < i3 0 ∧ ¬ i3 3 < w) ↔ (¬ w < 0 ∧ w ≤ i3 3) := ⟨fun e => ⟨e.1, Int32.not_lt.mp e.2⟩, fun e => ⟨e.1, Int32.not_lt.mpr e.2⟩⟩
theorem pasL (h : ok (md s 44)) (w b : Int32) (hb : b = i3 (bnM (md s 44) w : Int)) : lp (fun (s4 : Int32 × Int32) nx5 ex6 => if b ≤ s4.2 then ex6 s4.1 else lp (fun (s8 : Int32 × Int32) nx9 ex10 => (gI (H s) 8 44 10).bind fun x15 => if x15 ≤ s8.2 then ex10 s8.1 else (gN (H s) 8 44 12).bind fun o16 => (aI (H s) o16 s8.2).bind fun x17 => (m_277 44 w x17 (H s)).bind fun x18 => jn (fun (v19 : Int32 × Int32) => nx9 ((v19.2 &&& v19.1), (s8.2 + Int32.ofInt 1))) (fun j20 => if x18 = s4.2 then j20 ((Int32.ofInt 0), s8.1) else j20 ((Int32.ofInt 1), s8.1))) 4096 ((Int32.ofInt 1), (Int32.ofInt 0)) (fun (x11 : Int32) => jn (fun (v12 : Int32 × Int32) => nx5 ((v12.2 + v12.1), (s4.2 + Int32.ofInt 1))) (fun j13 => if x11 = 0 then j13 ((Int32.ofInt 0), s4.1) else j13 ((Int32.ofInt 1), s4.1)))) 4096 ((Int32.ofInt 0), (Int32.ofInt 0)) (fun (x7 : Int32) => some (x7, H s)) = some (pas (md s 44) w, H s) := by
  have hd := h.d_le
  have hB : bnM (md s 44) w ≤ 16 := by
    unfold bnM
    split <;> omega
  rw [hb]
  refine (lp0 (bnM (md s 44) w) (by omega) (fun t a => (a, t)) (fun a => a) (paF (md s 44) w) (fun _ => True) (i3 0) ?_ (fun _ _ _ _ => trivial) ?_ trivial).trans rfl
  · intro k m nx ex hk _
    dsimp only
    rw [if_neg (nle hk (by omega))]
    refine (lp0 (nn (md s 44)) (by have := h.n_le; omega) (fun t a => (a, t)) (fun a => a) (poF (md s 44) w k) (fun _ => True) (i3 1) ?_ (fun _ _ _ _ => trivial) ?_ trivial).trans ?_
    · intro j a nx2 ex2 hj _
      dsimp only
      rw [(r_g s).2.2.1, Option.bind_some, if_neg (h.T hj).2, (r_g s).2.2.2.2.2.2.1, Option.bind_some, (r_g s).2.2.2.2.2.2.2.2.2.2.1, h.at_c (h.T hj), Option.bind_some, q_277 h, Option.bind_some]
      unfold jn poF
      dsimp only
      by_cases d : lnM (md s 44) w (cA (md s 44) (i3 (j : Int))) = i3 (k : Int)
      · rw [if_pos d, if_pos d]
      · rw [if_neg d, if_neg d]
    · intro a nx2 ex2 _
      dsimp only
      rw [(r_g s).2.2.1, Option.bind_some, if_pos (h.Te (Nat.le_refl _) (by have := h.n_le; omega))]
    · unfold jn paF
      dsimp only
      by_cases d : po (md s 44) w k = 0
      · rw [if_pos d]
        exact if_pos d
      · rw [if_neg d]
        exact if_neg d
  · intro a nx ex _
    dsimp only
    rw [if_pos (Int32.le_refl _)]
theorem d_39 (c : Mq s) (w : Int32) : Ans s (m_278 44 w (H s)) (xPaths (md s 44) w) := by
  have h := c.1
  have hd := h.d_le
  have hd3 := h.d_ge
  unfold m_278 xPaths
  rw [(r_m s).1, Option.bind_some, jc.1, jc.2.2.2.1, q_190, Option.bind_some, bP_if]
  by_cases c1 : w < 0
  · rw [if_neg (fun e => (three03.mp e).1 c1), if_pos c1, cst.1]
    exact Ans.mf c.2.2 isB2
  rw [if_neg c1]
  by_cases c2 : w ≤ i3 3
  · rw [if_pos (three03.mpr ⟨c1, c2⟩), if_pos c2]
    refine ⟨s, ?_, qq.refl s⟩
    rw [(r_g s).2.1, jnE]
    by_cases c3 : i3 2 ≤ w
    · rw [if_pos (show Int32.ofInt 2 ≤ w from c3), Option.bind_some]
      refine pasL h w _ ?_
      rw [h.d_eq, show Int32.ofInt 2 = i3 2 from rfl, i3_mul, show Int32.ofInt 1 = i3 1 from rfl, i3_sub]
      unfold bnM
      rw [if_pos c3]
      congr 1
      omega
    · rw [if_neg (show ¬ Int32.ofInt 2 ≤ w from c3), Option.bind_some]
      refine pasL h w _ ?_
      rw [h.d_eq]
      unfold bnM
      rw [if_neg c3]
  · rw [if_neg (fun e => c2 (three03.mp e).2), if_neg c2, cst.1]
    exact Ans.mf c.2.2 isB2
/-- symmetries -/
noncomputable def imM (g : Gd) (k j : Nat) : Int32 := itr (fun _ => trM g) (k % 4) (if 4 ≤ k then miM g (cA g (i3 (j : Int))) else cA g (i3 (j : Int)))
noncomputable def alF (g : Gd) (k j : Nat) (m : Int32) : Int32 := if tIn g (imM g k j) = i3 (-1) then m &&& i3 0 else m &&& i3 1
noncomputable def al' (g : Gd) (k : Nat) : Int32 := itr (alF g k) (nn g) (i3 1)
noncomputable def akF (g : Gd) (k : Nat) (m : Int32) : Int32 := if al' g k = 0 then m + i3 0 else m + i3 1
noncomputable def xAlike (g : Gd) : Int32 := itr (akF g) 8 (i3 0)
theorem c8e : (Int8.ofInt 8).toInt32 = i3 ((8 : Nat) : Int) := by decide +kernel
theorem rm4 {k : Nat} (hk : k < 8) : rmI (i3 (k : Int)) (Int32.ofInt 4) = some (i3 ((k % 4 : Nat) : Int)) := by
  have : ∀ k : Fin 8, rmI (i3 (k.1 : Int)) (Int32.ofInt 4) = some (i3 ((k.1 % 4 : Nat) : Int)) := by decide +kernel
  exact this ⟨k, hk⟩
theorem trL (h : ok (md s 44)) {R : Type} {k : Nat} (hk : k < 8) (c : Int32) (K : Int32 → Option R) : lp (fun (s15 : Int32 × Int32) nx16 ex17 => (rmI (i3 (k : Int)) (Int32.ofInt 4)).bind fun x23 => if x23 ≤ s15.2 then ex17 s15.1 else (m_281 44 s15.1 (H s)).bind fun x24 => nx16 (x24, (s15.2 + Int32.ofInt 1))) 4096 (c, (Int32.ofInt 0)) K = K (itr (fun _ => trM (md s 44)) (k % 4) c) := by
  refine (lp0 (k % 4) (by omega) (fun t a => (a, t)) (fun a => a) (fun _ => trM (md s 44)) (fun _ => True) c ?_ (fun _ _ _ _ => trivial) ?_ trivial).trans rfl
  · intro j a nx ex hj _
    dsimp only
    rw [rm4 hk, Option.bind_some, if_neg (nle hj (by omega)), q_281 h, Option.bind_some]
  · intro a nx ex _
    dsimp only
    rw [rm4 hk, Option.bind_some, if_pos (Int32.le_refl _)]
theorem q_283 (h : ok (md s 44)) : m_283 44 (H s) = some (xAlike (md s 44)) := by
  unfold m_283
  rw [(r_m s).1, Option.bind_some, c8e]
  refine (lp0 8 (by omega) (fun t a => (a, t)) (fun a => a) (akF (md s 44)) (fun _ => True) (i3 0) ?_ (fun _ _ _ _ => trivial) ?_ trivial).trans rfl
  · intro k m nx ex hk _
    dsimp only
    rw [if_neg (nle hk (by omega))]
    refine (lp0 (nn (md s 44)) (by have := h.n_le; omega) (fun t a => (a, t)) (fun a => a) (alF (md s 44) k) (fun _ => True) (i3 1) ?_ (fun _ _ _ _ => trivial) ?_ trivial).trans ?_
    · intro j a nx2 ex2 hj _
      dsimp only
      rw [(r_g s).2.2.1, Option.bind_some, if_neg (h.T hj).2, (r_g s).2.2.2.2.2.2.1, jnE]
      have e4 : (Int32.ofInt 4 ≤ i3 (k : Int)) ↔ 4 ≤ k := i3n_le (a := 4) (by omega) (by omega)
      have key : ∀ c, imM (md s 44) k j = itr (fun _ => trM (md s 44)) (k % 4) c → ((m_194 44 (itr (fun _ => trM (md s 44)) (k % 4) c) (H s)).bind fun x19 => jn (fun (v20 : Int32 × Int32) => nx2 ((v20.2 &&& v20.1), (i3 (j : Int) + Int32.ofInt 1))) (fun j21 => if x19 = (Int32.ofInt (-1)) then j21 ((Int32.ofInt 0), a) else j21 ((Int32.ofInt 1), a))) = nx2 (alF (md s 44) k j a, i3 (j : Int) + Int32.ofInt 1) := by
        intro c e
        rw [← e, q_194 h, Option.bind_some]
        unfold jn alF
        dsimp only
        by_cases d : tIn (md s 44) (imM (md s 44) k j) = i3 (-1)
        · rw [if_pos d, if_pos d]
        · rw [if_neg d, if_neg d]
      by_cases c4 : 4 ≤ k
      · rw [if_pos (e4.mpr c4), Option.bind_some, (r_g s).2.2.2.2.2.2.2.2.2.2.1, h.at_c (h.T hj), Option.bind_some, q_282 h, Option.bind_some]
        refine (trL h hk _ _).trans (key _ ?_)
        unfold imM
        rw [if_pos c4]
      · rw [if_neg (fun e => c4 (e4.mp e)), Option.bind_some, (r_g s).2.2.2.2.2.2.2.2.2.2.1, h.at_c (h.T hj), Option.bind_some]
        refine (trL h hk _ _).trans (key _ ?_)
        unfold imM
        rw [if_neg c4]
    · intro a nx2 ex2 _
      dsimp only
      rw [(r_g s).2.2.1, Option.bind_some, if_pos (h.Te (Nat.le_refl _) (by have := h.n_le; omega))]
    · unfold jn akF
      dsimp only
      by_cases d : al' (md s 44) k = 0
      · rw [if_pos d]
        exact if_pos d
      · rw [if_neg d]
        exact if_neg d
  · intro a nx ex _
    dsimp only
    rw [if_pos (Int32.le_refl _)]
/-- what stands between -/
abbrev hC1 (g : Gd) (t c : Int32) (k : Nat) : Prop := ¬ i3 (k : Int) = t ∧ ¬ cA g (i3 (k : Int)) = c ∧ ¬ kOf (kA g (i3 (k : Int))) (i3 2) ∧ dar g (cA g t) c (cA g (i3 (k : Int))) = 0
abbrev hC2 (g : Gd) (t c : Int32) (k : Nat) : Prop := ¬ sqr g (cA g t) c ≤ sqr g (cA g t) (cA g (i3 (k : Int))) ∧ ¬ sqr g (cA g t) c ≤ sqr g c (cA g (i3 (k : Int)))
noncomputable def hmF (g : Gd) (t c : Int32) (k : Nat) (m : Int32) : Int32 := if hC1 g t c k ∧ hC2 g t c k then if m = i3 (-1) then i3 (k : Int) else if sqr g c (cA g m) ≤ sqr g c (cA g (i3 (k : Int))) then m else i3 (k : Int) else m
noncomputable def hidM (g : Gd) (t c : Int32) : Int32 := itr (hmF g t c) (nn g) (i3 (-1))
theorem bwL (h : ok (md s 44)) {t : Int32} (ht : isT (md s 44) t) (c : Int32) {k : Nat} (hk : k < nn (md s 44)) {R : Type} (J : Int32 → Option R) : jn J (fun j7 => jn (fun (v43 : Unit) => j7 (Int32.ofInt 0)) (fun j44 => if i3 (k : Int) = t then j44 () else (gN (H s) 8 44 12).bind fun o45 => (aI (H s) o45 (i3 (k : Int))).bind fun x46 => if x46 = c then j44 () else (m_198 44 (i3 (k : Int)) (H s)).bind fun x47 => if x47 = 0 then (gN (H s) 8 44 12).bind fun o48 => (aI (H s) o48 t).bind fun x49 => (gN (H s) 8 44 12).bind fun o50 => (aI (H s) o50 (i3 (k : Int))).bind fun x51 => (m_236 44 x49 c x51 (H s)).bind fun x52 => if x52 = 0 then j44 () else j7 (Int32.ofInt 1) else j44 ())) = J (bP (hC1 (md s 44) t c k)) := by
  rw [jnE, jnE]
  by_cases d1 : i3 (k : Int) = t
  · rw [if_pos d1, show bP (hC1 (md s 44) t c k) = i3 0 from if_neg (fun e => e.1 d1)]
  rw [if_neg d1, (r_g s).2.2.2.2.2.2.1, Option.bind_some, (r_g s).2.2.2.2.2.2.2.2.2.2.1, h.at_c (h.T hk), Option.bind_some]
  by_cases d2 : cA (md s 44) (i3 (k : Int)) = c
  · rw [if_pos d2, show bP (hC1 (md s 44) t c k) = i3 0 from if_neg (fun e => e.2.1 d2)]
  rw [if_neg d2, q_198 h (h.T hk), Option.bind_some, bP_if]
  by_cases d3 : kOf (kA (md s 44) (i3 (k : Int))) (i3 2)
  · rw [if_pos d3, show bP (hC1 (md s 44) t c k) = i3 0 from if_neg (fun e => e.2.2.1 d3)]
  rw [if_neg d3, Option.bind_some, (r_g s).2.2.2.2.2.2.2.2.2.2.1, h.at_c ht, Option.bind_some, Option.bind_some, (r_g s).2.2.2.2.2.2.2.2.2.2.1, h.at_c (h.T hk), Option.bind_some, q_236 h, Option.bind_some, bP_if]
  by_cases d4 : dar (md s 44) (cA (md s 44) t) c (cA (md s 44) (i3 (k : Int))) = 0
  · rw [if_pos d4, show bP (hC1 (md s 44) t c k) = i3 1 from if_pos ⟨d1, d2, d3, d4⟩]
  · rw [if_neg d4, show bP (hC1 (md s 44) t c k) = i3 0 from if_neg (fun e => d4 e.2.2.2)]
theorem bwJ (h : ok (md s 44)) {t : Int32} (ht : isT (md s 44) t) (c v : Int32) {k : Nat} (hk : k < nn (md s 44)) {R : Type} (J : Int32 × Int32 → Option R) : jn J (fun j17 => jn (fun (v33 : Int32) => j17 ((Int32.ofInt 0), v33)) (fun j34 => if sqr (md s 44) (cA (md s 44) t) c ≤ sqr (md s 44) (cA (md s 44) t) (cA (md s 44) (i3 (k : Int))) then j34 v else (gN (H s) 8 44 12).bind fun o35 => (aI (H s) o35 (i3 (k : Int))).bind fun x36 => (m_238 44 c x36 (H s)).bind fun x37 => (gN (H s) 8 44 12).bind fun o38 => (aI (H s) o38 t).bind fun x39 => (m_238 44 x39 c (H s)).bind fun x40 => if x40 ≤ x37 then j34 v else j17 ((Int32.ofInt 1), v))) = J (bP (hC2 (md s 44) t c k), v) := by
  rw [jnE, jnE]
  by_cases d1 : sqr (md s 44) (cA (md s 44) t) c ≤ sqr (md s 44) (cA (md s 44) t) (cA (md s 44) (i3 (k : Int)))
  · rw [if_pos d1, show bP (hC2 (md s 44) t c k) = i3 0 from if_neg (fun e => e.1 d1)]
  rw [if_neg d1, (r_g s).2.2.2.2.2.2.1, Option.bind_some, (r_g s).2.2.2.2.2.2.2.2.2.2.1, h.at_c (h.T hk), Option.bind_some, q_238 h, Option.bind_some, Option.bind_some, (r_g s).2.2.2.2.2.2.2.2.2.2.1, h.at_c ht, Option.bind_some, q_238 h, Option.bind_some]
  by_cases d2 : sqr (md s 44) (cA (md s 44) t) c ≤ sqr (md s 44) c (cA (md s 44) (i3 (k : Int)))
  · rw [if_pos d2, show bP (hC2 (md s 44) t c k) = i3 0 from if_neg (fun e => e.2 d2)]
  · rw [if_neg d2, show bP (hC2 (md s 44) t c k) = i3 1 from if_pos ⟨d1, d2⟩]
theorem bP_and {P Q : Prop} {i : Decidable P} {j : Decidable Q} : (@bP P i &&& @bP Q j) = 0 ↔ ¬ (P ∧ Q) := by
  unfold bP
  by_cases p : P
  · by_cases q : Q
    · rw [if_pos p, if_pos q]
      exact ⟨fun e => absurd e (by decide +kernel), fun e => absurd ⟨p, q⟩ e⟩
    · rw [if_pos p, if_neg q]
      exact ⟨fun _ e => q e.2, fun _ => by decide +kernel⟩
  · by_cases q : Q
    · rw [if_neg p, if_pos q]
      exact ⟨fun _ e => p e.1, fun _ => by decide +kernel⟩
    · rw [if_neg p, if_neg q]
      exact ⟨fun _ e => p e.1, fun _ => by decide +kernel⟩
theorem hmF_ok {g : Gd} (h : ok g) {t c : Int32} {k : Nat} {m : Int32} (hk : k < nn g) (hm : m = i3 (-1) ∨ isT g m) : hmF g t c k m = i3 (-1) ∨ isT g (hmF g t c k m) := by
  unfold hmF
  split
  · split
    · exact Or.inr (h.T hk)
    · split
      · exact hm
      · exact Or.inr (h.T hk)
  · exact hm
theorem q_272 (h : ok (md s 44)) {t : Int32} (ht : isT (md s 44) t) (c : Int32) : m_272 44 t c (H s) = some (hidM (md s 44) t c) := by
  unfold m_272
  rw [(r_m s).1, Option.bind_some]
  refine (lp0 (nn (md s 44)) (by have := h.n_le; omega) (fun t a => (a, t)) (fun a => a) (hmF (md s 44) t c) (fun m => m = i3 (-1) ∨ isT (md s 44) m) (i3 (-1)) ?_ (fun k m hk hm => hmF_ok h hk hm) ?_ (Or.inl rfl)).trans rfl
  · intro k m nx ex hk hm
    dsimp only
    rw [(r_g s).2.2.1, Option.bind_some, if_neg (h.T hk).2]
    refine (bwL h ht c hk _).trans ?_
    rw [(r_g s).2.2.2.2.2.2.1, Option.bind_some, (r_g s).2.2.2.2.2.2.2.2.2.2.1, h.at_c ht, Option.bind_some, Option.bind_some, (r_g s).2.2.2.2.2.2.2.2.2.2.1, h.at_c (h.T hk), Option.bind_some, q_238 h, Option.bind_some, Option.bind_some, (r_g s).2.2.2.2.2.2.2.2.2.2.1, h.at_c ht, Option.bind_some, q_238 h, Option.bind_some]
    refine (bwJ h ht c _ hk _).trans ?_
    rw [jnE, jnE]
    dsimp only
    unfold hmF
    by_cases d1 : hC1 (md s 44) t c k ∧ hC2 (md s 44) t c k
    · rw [if_neg (fun e => bP_and.mp e d1), if_pos d1, jnE]
      by_cases d2 : m = i3 (-1)
      · rw [if_pos (show m = Int32.ofInt (-1) from d2), if_pos d2]
      · have tm : isT (md s 44) m := hm.resolve_left d2
        rw [if_neg (show ¬ m = Int32.ofInt (-1) from d2), if_neg d2, Option.bind_some, (r_g s).2.2.2.2.2.2.2.2.2.2.1, h.at_c (h.T hk), Option.bind_some, q_238 h, Option.bind_some, Option.bind_some, (r_g s).2.2.2.2.2.2.2.2.2.2.1, h.at_c tm, Option.bind_some, q_238 h, Option.bind_some]
        by_cases d3 : sqr (md s 44) c (cA (md s 44) m) ≤ sqr (md s 44) c (cA (md s 44) (i3 (k : Int)))
        · rw [if_pos d3, if_pos d3]
        · rw [if_neg d3, if_neg d3]
    · rw [if_pos (bP_and.mpr d1), if_neg d1]
  · intro a nx ex _
    dsimp only
    rw [(r_g s).2.2.1, Option.bind_some, if_pos (h.Te (Nat.le_refl _) (by have := h.n_le; omega))]
end MD
end
section
/-! ===== the reference's views and corners ===== -/
section ME
variable {s : St}
abbrev seM (g : Gd) (c : Int32) (k : Nat) : Prop := ¬ cA g (i3 (k : Int)) = c ∧ hidM g (i3 (k : Int)) c = i3 (-1)
noncomputable def vmF (g : Gd) (c : Int32) (k : Nat) (m : Int32) : Int32 := if seM g c k then m ||| bit (i3 (k : Int)) else m
noncomputable def vwM (g : Gd) (c : Int32) : Int32 := itr (vmF g c) (nn g) (i3 0)
theorem q_273 (h : ok (md s 44)) (c : Int32) : m_273 44 c (H s) = some (vwM (md s 44) c) := by
  unfold m_273
  rw [(r_m s).1, Option.bind_some]
  refine (lp0 (nn (md s 44)) (by have := h.n_le; omega) (fun t a => (a, t)) (fun a => a) (vmF (md s 44) c) (fun _ => True) (i3 0) ?_ (fun _ _ _ _ => trivial) ?_ trivial).trans rfl
  · intro k m nx ex hk _
    dsimp only
    rw [(r_g s).2.2.1, Option.bind_some, if_neg (h.T hk).2, (r_g s).2.2.2.2.2.2.1, Option.bind_some, (r_g s).2.2.2.2.2.2.2.2.2.2.1, h.at_c (h.T hk), Option.bind_some, jnE, jnE]
    dsimp only
    unfold vmF
    by_cases d1 : cA (md s 44) (i3 (k : Int)) = c
    · rw [if_pos d1, if_neg (fun e => e.1 d1), or0]
    rw [if_neg d1, q_272 h (h.T hk), Option.bind_some]
    by_cases d2 : hidM (md s 44) (i3 (k : Int)) c = i3 (-1)
    · rw [if_pos (show _ = Int32.ofInt (-1) from d2), if_pos ⟨d1, d2⟩]
      rfl
    · rw [if_neg (show ¬ _ = Int32.ofInt (-1) from d2), if_neg (fun e => d2 e.2), or0]
  · intro a nx ex _
    dsimp only
    rw [(r_g s).2.2.1, Option.bind_some, if_pos (h.Te (Nat.le_refl _) (by have := h.n_le; omega))]
noncomputable def xView (g : Gd) (c : Int32) : Int32 := if isCl g c then vwM g c else i3 (-2)
theorem d_35 (c : Mq s) (x : Int32) : Ans s (m_274 44 x (H s)) (xView (md s 44) x) := by
  unfold m_274 xView
  rw [(r_m s).1, Option.bind_some, q_193 c.1, Option.bind_some]
  unfold jn
  dsimp only
  rw [bP_if]
  by_cases c1 : isCl (md s 44) x
  · rw [if_pos c1, if_pos c1, q_273 c.1, Option.bind_some]
    exact Ans.id
  · rw [if_neg c1, if_neg c1, cst.1]
    exact Ans.mf c.2.2 isB2
noncomputable def ovM (g : Gd) (k : Nat) (m : Int64) : Int64 := if tIn g (i3 (k : Int)) = i3 (-1) ∧ vwM g (i3 (k : Int)) = all g then m ||| b64 k else m
noncomputable def xOver (g : Gd) : Int64 := itr (ovM g) (dn g * dn g) (Int64.ofNat 0)
theorem q_275 (h : ok (md s 44)) : m_275 44 (H s) = some (xOver (md s 44)) := by
  have hcc := h.cc_le
  unfold m_275
  rw [(r_m s).1, Option.bind_some]
  refine (lp0 (dn (md s 44) * dn (md s 44)) (by omega) (fun t (a : Int64) => (a, t)) (fun a => a) (ovM (md s 44)) (fun _ => True) (Int64.ofNat 0) ?_ (fun _ _ _ _ => trivial) ?_ trivial).trans rfl
  · intro k m nx ex hk _
    dsimp only
    rw [q_192, Option.bind_some, if_neg (h.C hk).2, q_194 h, Option.bind_some, jnE, jnE]
    dsimp only
    unfold ovM
    by_cases d1 : tIn (md s 44) (i3 (k : Int)) = i3 (-1)
    · rw [if_pos (show _ = Int32.ofInt (-1) from d1), q_273 h, Option.bind_some, (r_g s).2.2.1, Option.bind_some]
      by_cases d2 : vwM (md s 44) (i3 (k : Int)) = all (md s 44)
      · rw [if_pos (show _ = Int32.ofInt 1 <<< (tN (md s 44) &&& 31) - Int32.ofInt 1 from d2), if_pos ⟨d1, d2⟩]
      · rw [if_neg (show ¬ _ = Int32.ofInt 1 <<< (tN (md s 44) &&& 31) - Int32.ofInt 1 from d2), if_neg (fun e => d2 e.2), lor0]
    · rw [if_neg (show ¬ _ = Int32.ofInt (-1) from d1), if_neg (fun e => d1 e.1), lor0]
  · intro a nx ex _
    dsimp only
    rw [q_192, Option.bind_some, if_pos (h.Ce (Nat.le_refl _) (by have := h.cc_le; omega))]
noncomputable def xBehind (g : Gd) (t c : Int32) : Int32 := if isT g t then if isCl g c then if cA g t = c then i3 (-2) else hidM g t c else i3 (-2) else i3 (-2)
theorem d_38 (c : Mq s) (t x : Int32) : Ans s (m_276 44 t x (H s)) (xBehind (md s 44) t x) := by
  unfold m_276 xBehind
  rw [(r_m s).1, Option.bind_some, q_191 c.1, Option.bind_some]
  unfold jn
  dsimp only
  rw [bP_if]
  by_cases c1 : isT (md s 44) t
  · rw [if_pos c1, if_pos c1, q_193 c.1, Option.bind_some, bP_if]
    by_cases c2 : isCl (md s 44) x
    · rw [if_pos c2, if_pos c2, (r_g s).2.2.2.2.2.2.1, Option.bind_some, (r_g s).2.2.2.2.2.2.2.2.2.2.1, c.1.at_c c1, Option.bind_some]
      by_cases c3 : cA (md s 44) t = x
      · rw [if_pos c3, if_pos c3, cst.1]
        exact Ans.mf c.2.2 isB2
      · rw [if_neg c3, if_neg c3, q_272 c.1 c1, Option.bind_some]
        exact Ans.id
    · rw [if_neg c2, if_neg c2, cst.1]
      exact Ans.mf c.2.2 isB2
  · rw [if_neg c1, if_neg c1, cst.1]
    exact Ans.mf c.2.2 isB2
/-- in a triangle -/
abbrev inT (g : Gd) (a b c x : Int32) : Prop := (¬ dar g a b x < 0 ∧ ¬ dar g b c x < 0 ∧ ¬ dar g c a x < 0) ∨ (¬ 0 < dar g a b x ∧ ¬ 0 < dar g b c x ∧ ¬ 0 < dar g c a x)
theorem inTL (p q r : Int32) : (jn (fun (v4 : Int32) => jn (fun (v6 : Int32) => rB v6) (fun j7 => jn (fun (v8 : Unit) => j7 (Int32.ofInt 1)) (fun j9 => if v4 = 0 then jn (fun (v10 : Unit) => j7 (Int32.ofInt 0)) (fun j11 => if 0 < p then j11 () else if 0 < q then j11 () else if 0 < r then j11 () else j9 ()) else j9 ()))) (fun j5 => jn (fun (v16 : Unit) => j5 (Int32.ofInt 0)) (fun j17 => if p < 0 then j17 () else if q < 0 then j17 () else if r < 0 then j17 () else j5 (Int32.ofInt 1)))) = some (bP ((¬ p < 0 ∧ ¬ q < 0 ∧ ¬ r < 0) ∨ (¬ 0 < p ∧ ¬ 0 < q ∧ ¬ 0 < r))) := by
  by_cases a1 : p < 0 <;> by_cases a2 : q < 0 <;> by_cases a3 : r < 0 <;> by_cases b1 : 0 < p <;> by_cases b2 : 0 < q <;> by_cases b3 : 0 < r <;> simp only [a1, a2, a3, b1, b2, b3, bP, Option.bind_some, jn, cst, bP_if, rB_0, rB_1, z00, z10, ↓reduceIte, not_true_eq_false, not_false_eq_true, and_self, and_true, and_false, or_false, or_true, or_self]
theorem q_289 (h : ok (md s 44)) (a b c x : Int32) : m_289 44 a b c x (H s) = some (bP (inT (md s 44) a b c x)) := by
  unfold m_289
  rw [(r_m s).1, Option.bind_some, q_235 h, Option.bind_some, q_235 h, Option.bind_some, q_235 h, Option.bind_some]
  exact inTL _ _ _
/-- corners -/
abbrev cqM (g : Gd) (t : Int32) (i j k : Nat) : Prop := ¬ i3 (k : Int) = t ∧ ¬ dar g (cA g (i3 (i : Int))) (cA g (i3 (j : Int))) (cA g (i3 (k : Int))) = 0 ∧ inT g (cA g (i3 (i : Int))) (cA g (i3 (j : Int))) (cA g (i3 (k : Int))) (cA g t)
abbrev cbM (g : Gd) (t : Int32) (i j : Nat) : Prop := dar g (cA g (i3 (i : Int))) (cA g (i3 (j : Int))) (cA g t) = 0 ∧ ¬ sqr g (cA g (i3 (i : Int))) (cA g (i3 (j : Int))) ≤ sqr g (cA g (i3 (i : Int))) (cA g t) ∧ ¬ sqr g (cA g (i3 (i : Int))) (cA g (i3 (j : Int))) ≤ sqr g (cA g (i3 (j : Int))) (cA g t)
abbrev cpM (g : Gd) (t : Int32) (i j : Nat) : Prop := ¬ i3 (i : Int) = t ∧ ¬ i3 (j : Int) = t ∧ (cbM g t i j ∨ ¬ fst? (fun k => decide (cqM g t i j k)) j 0 = none)
abbrev ciM (g : Gd) (t : Int32) (i : Nat) : Prop := ¬ fst? (fun j => decide (cpM g t i j)) i 0 = none
abbrev crM (g : Gd) (t : Int32) : Prop := fst? (fun i => decide (ciM g t i)) (nn g) 0 = none
theorem cqL (h : ok (md s 44)) {t : Int32} (ht : isT (md s 44) t) {i j : Nat} (hi : i < nn (md s 44)) (hj : j < nn (md s 44)) (K : Unit → Option Int32) : lp (fun (s26 : Int32) nx27 ex28 => if i3 (j : Int) ≤ s26 then ex28 () else jn (fun (v30 : Int32) => jn (fun (v32 : Unit) => nx27 (s26 + Int32.ofInt 1)) (fun j33 => if v30 = 0 then j33 () else (gN (H s) 8 44 12).bind fun o34 => (aI (H s) o34 (i3 (i : Int))).bind fun x35 => (gN (H s) 8 44 12).bind fun o36 => (aI (H s) o36 (i3 (j : Int))).bind fun x37 => (gN (H s) 8 44 12).bind fun o38 => (aI (H s) o38 s26).bind fun x39 => (gN (H s) 8 44 12).bind fun o40 => (aI (H s) o40 t).bind fun x41 => (m_289 44 x35 x37 x39 x41 (H s)).bind fun x42 => if x42 = 0 then j33 () else rB (Int32.ofInt 0))) (fun j31 => jn (fun (v45 : Unit) => j31 (Int32.ofInt 0)) (fun j46 => if s26 = t then j46 () else (gN (H s) 8 44 12).bind fun o47 => (aI (H s) o47 (i3 (i : Int))).bind fun x48 => (gN (H s) 8 44 12).bind fun o49 => (aI (H s) o49 (i3 (j : Int))).bind fun x50 => (gN (H s) 8 44 12).bind fun o51 => (aI (H s) o51 s26).bind fun x52 => (m_236 44 x48 x50 x52 (H s)).bind fun x53 => if x53 = 0 then j31 (Int32.ofInt 1) else j46 ()))) 4096 (Int32.ofInt 0) K = if ¬ fst? (fun k => decide (cqM (md s 44) t i j k)) j 0 = none then some (i3 0) else K () := by
  have hn := h.n_le
  refine (lpS j (by omega) (fun t => t) () (fun k => decide (cqM (md s 44) t i j k)) (fun _ => some (i3 0)) ?_ ?_).trans (mS _ _ _)
  · intro k nx ex hk
    have hk2 : k < nn (md s 44) := by omega
    simp only [decide_eq_true_eq]
    rw [if_neg (nle hk (by omega)), jnE, jnE]
    by_cases d1 : i3 (k : Int) = t
    · rw [if_pos d1]
      dsimp only
      rw [jnE, if_pos (show Int32.ofInt 0 = 0 from rfl), if_neg (fun e => e.1 d1)]
    rw [if_neg d1]
    simp only [r_g, Option.bind_some, h.at_c (h.T hi), h.at_c (h.T hj), h.at_c (h.T hk2), h.at_c ht, q_236 h, q_289 h, bP_if, jnE]
    by_cases d2 : dar (md s 44) (cA (md s 44) (i3 (i : Int))) (cA (md s 44) (i3 (j : Int))) (cA (md s 44) (i3 (k : Int))) = 0
    · rw [if_pos d2, if_pos (show Int32.ofInt 0 = 0 from rfl), if_neg (fun e => e.2.1 d2)]
    rw [if_neg d2, if_neg e1_0]
    by_cases d3 : inT (md s 44) (cA (md s 44) (i3 (i : Int))) (cA (md s 44) (i3 (j : Int))) (cA (md s 44) (i3 (k : Int))) (cA (md s 44) t)
    · rw [if_pos d3, if_pos ⟨d1, d2, d3⟩]
      rfl
    · rw [if_neg d3, if_neg (fun e => d3 e.2.2)]
  · intro nx ex
    rw [if_pos (Int32.le_refl _)]
end ME
end
section
/-! ===== the reference's corners; rows' first two trees; pointed ===== -/
section MF
variable {s : St}
theorem q_290 (h : ok (md s 44)) {t : Int32} (ht : isT (md s 44) t) : m_290 44 t (H s) = some (bP (crM (md s 44) t)) := by
  have hn := h.n_le
  unfold m_290
  rw [(r_m s).1, Option.bind_some]
  refine (lpS (nn (md s 44)) (by have := h.n_le; omega) (fun t => t) () (fun i => decide (ciM (md s 44) t i)) (fun _ => some (i3 0)) ?_ ?_).trans mat_bP
  · intro i nx ex hi
    skip
    rw [(r_g s).2.2.1, Option.bind_some, if_neg (h.T hi).2]
    refine (lpS i (by omega) (fun t => t) () (fun j => decide (cpM (md s 44) t i j)) (fun _ => some (i3 0)) ?_ ?_).trans ?_
    · intro j nx2 ex2 hj
      have hj2 : j < nn (md s 44) := by omega
      simp only [decide_eq_true_eq]
      rw [if_neg (nle hj (by omega)), jnE]
      by_cases d1 : i3 (i : Int) = t
      · rw [if_pos d1, if_neg (fun e => e.1 d1)]
      rw [if_neg d1]
      by_cases d2 : i3 (j : Int) = t
      · rw [if_pos d2, if_neg (fun e => e.2.1 d2)]
      rw [if_neg d2, (r_g s).2.2.2.2.2.2.1, Option.bind_some, (r_g s).2.2.2.2.2.2.2.2.2.2.1, h.at_c (h.T hi), Option.bind_some, Option.bind_some, (r_g s).2.2.2.2.2.2.2.2.2.2.1, h.at_c (h.T hj2), Option.bind_some, q_238 h, Option.bind_some, Option.bind_some, (r_g s).2.2.2.2.2.2.2.2.2.2.1, h.at_c (h.T hi), Option.bind_some, Option.bind_some, (r_g s).2.2.2.2.2.2.2.2.2.2.1, h.at_c (h.T hj2), Option.bind_some, Option.bind_some, (r_g s).2.2.2.2.2.2.2.2.2.2.1, h.at_c ht, Option.bind_some, q_236 h, Option.bind_some, jnE, bP_if]
      have L := cqL h ht hi hj2 (fun _ => nx2 (i3 (j : Int) + Int32.ofInt 1))
      rw [(r_g s).2.2.2.2.2.2.1] at L
      have two : ¬ cbM (md s 44) t i j → (if ¬ fst? (fun k => decide (cqM (md s 44) t i j k)) j 0 = none then some (i3 0) else nx2 (i3 (j : Int) + Int32.ofInt 1)) = if cpM (md s 44) t i j then some (i3 0) else nx2 (i3 (j : Int) + Int32.ofInt 1) := fun n => by
        by_cases q : ¬ fst? (fun k => decide (cqM (md s 44) t i j k)) j 0 = none
        · rw [if_pos q, if_pos (show cpM (md s 44) t i j from ⟨d1, d2, Or.inr q⟩)]
        · rw [if_neg q, if_neg (show ¬ cpM (md s 44) t i j from fun e => e.2.2.elim n q)]
      by_cases d3 : dar (md s 44) (cA (md s 44) (i3 (i : Int))) (cA (md s 44) (i3 (j : Int))) (cA (md s 44) t) = 0
      · rw [if_pos d3, Option.bind_some, (r_g s).2.2.2.2.2.2.2.2.2.2.1, h.at_c (h.T hi), Option.bind_some, Option.bind_some, (r_g s).2.2.2.2.2.2.2.2.2.2.1, h.at_c ht, Option.bind_some, q_238 h, Option.bind_some]
        by_cases d4 : sqr (md s 44) (cA (md s 44) (i3 (i : Int))) (cA (md s 44) (i3 (j : Int))) ≤ sqr (md s 44) (cA (md s 44) (i3 (i : Int))) (cA (md s 44) t)
        · rw [if_pos d4]
          refine L.trans (two (fun e => e.2.1 d4))
        rw [if_neg d4, Option.bind_some, (r_g s).2.2.2.2.2.2.2.2.2.2.1, h.at_c (h.T hj2), Option.bind_some, Option.bind_some, (r_g s).2.2.2.2.2.2.2.2.2.2.1, h.at_c ht, Option.bind_some, q_238 h, Option.bind_some]
        by_cases d5 : sqr (md s 44) (cA (md s 44) (i3 (i : Int))) (cA (md s 44) (i3 (j : Int))) ≤ sqr (md s 44) (cA (md s 44) (i3 (j : Int))) (cA (md s 44) t)
        · rw [if_pos d5]
          refine L.trans (two (fun e => e.2.2 d5))
        · rw [if_neg d5, if_pos (show cpM (md s 44) t i j from ⟨d1, d2, Or.inl ⟨d3, d4, d5⟩⟩)]
          rfl
      · rw [if_neg d3]
        refine L.trans (two (fun e => d3 e.1))
    · intro nx2 ex2
      rw [if_pos (Int32.le_refl _)]
    · simp only [decide_eq_true_eq]
      exact mS _ _ _
  · intro nx ex
    skip
    rw [(r_g s).2.2.1, Option.bind_some, if_pos (h.Te (Nat.le_refl _) (by have := h.n_le; omega))]
noncomputable def cmF (g : Gd) (k : Nat) (m : Int32) : Int32 := if crM g (i3 (k : Int)) then m ||| bit (i3 (k : Int)) else m
noncomputable def xCorners (g : Gd) : Int32 := itr (cmF g) (nn g) (i3 0)
theorem q_291 (h : ok (md s 44)) : m_291 44 (H s) = some (xCorners (md s 44)) := by
  unfold m_291
  rw [(r_m s).1, Option.bind_some]
  refine (lp0 (nn (md s 44)) (by have := h.n_le; omega) (fun t a => (a, t)) (fun a => a) (cmF (md s 44)) (fun _ => True) (i3 0) ?_ (fun _ _ _ _ => trivial) ?_ trivial).trans rfl
  · intro k m nx ex hk _
    dsimp only
    rw [(r_g s).2.2.1, Option.bind_some, if_neg (h.T hk).2, q_290 h (h.T hk), Option.bind_some, jnE, bP_if]
    dsimp only
    unfold cmF
    by_cases d1 : crM (md s 44) (i3 (k : Int))
    · rw [if_pos d1, if_pos d1]
      rfl
    · rw [if_neg d1, if_neg d1, or0]
  · intro a nx ex _
    dsimp only
    rw [(r_g s).2.2.1, Option.bind_some, if_pos (h.Te (Nat.le_refl _) (by have := h.n_le; omega))]
/-- the first tree of a set from a place on -/
theorem q_255 {x : Int32} {a b : Nat} (hab : a ≤ b) (hb : b < 31) (h1 : hs x (i3 (b : Int))) (h2 : ∀ q, a ≤ q → q < b → ¬ hs x (i3 (q : Int))) (th : tH) : m_255 x (i3 (a : Int)) th = some (i3 (b : Int)) := by
  unfold m_255
  have key : ∀ m fuel, m ≤ b - a → m < fuel → lp (fun (s1 : Int32) nx2 ex3 => (m_195 x s1 th).bind fun x5 => if x5 = 0 then nx2 (s1 + Int32.ofInt 1) else ex3 s1) fuel (i3 ((b - m : Nat) : Int)) (fun (x4 : Int32) => some x4) = some (i3 (b : Int)) := by
    intro m
    induction m with
    | zero =>
      intro fuel _ hf
      obtain ⟨q, rfl⟩ : ∃ q, fuel = q + 1 := ⟨fuel - 1, by omega⟩
      rw [lp_s, Nat.sub_zero, q_195, Option.bind_some, bP_if, if_pos h1]
    | succ m ih =>
      intro fuel hm hf
      obtain ⟨q, rfl⟩ : ∃ q, fuel = q + 1 := ⟨fuel - 1, by omega⟩
      rw [lp_s, q_195, Option.bind_some, bP_if, if_neg (h2 (b - (m + 1)) (by omega) (by omega)), i3_nat_add, show b - (m + 1) + 1 = b - m by omega]
      exact ih q (by omega) (by omega)
  have := key (b - a) 4096 (Nat.le_refl _) (by omega)
  rw [show b - (b - a) = a by omega] at this
  exact this
/-- the two first trees of a row -/
noncomputable def f1 (g : Gd) (k : Nat) : Int32 := ntz (lg (RL g) k)
noncomputable def f2 (g : Gd) (k : Nat) : Int32 := ntz (lg (RL g) k &&& (lg (RL g) k - i3 1))
theorem RL_two {g : Gd} (h : ok g) {k : Nat} (hk : k < (RL g).length) (th : tH) : isT g (f1 g k) ∧ isT g (f2 g k) ∧ m_255 (lg (RL g) k) (Int32.ofInt 0) th = some (f1 g k) ∧ m_255 (lg (RL g) k) (f1 g k + Int32.ofInt 1) th = some (f2 g k) := by
  have hn := h.n_le
  obtain ⟨i, j, h1, h2, h3, h4⟩ := RL_mem (lg_mem hk)
  obtain ⟨i', j', h1', h2', e, b1, b2, b3⟩ := RL_mk h hk
  have hm := rwm_4096 h (i3 (i' : Int)) (i3 (j' : Int))
  have hsI : ∀ q : Nat, q < 31 → (hs (lg (RL g) k) (i3 (q : Int)) ↔ (rwm g (i3 (i' : Int)) (i3 (j' : Int))).testBit q = true) := fun q hq => by
    rw [hs_iff hq, e, and_bit hm hq]
    simp
  have ei : f1 g k = i3 (i : Int) := by unfold f1; rw [h4]; exact h3.1
  have ej : f2 g k = i3 (j : Int) := by unfold f2; rw [h4]; exact h3.2
  -- i, j are the first two
  have hlo : ntz (lg (RL g) k) = i3 (i' : Int) ∧ ntz (lg (RL g) k &&& (lg (RL g) k - i3 1)) = i3 (j' : Int) := by
    have hc : rmC g i' j' := by
      rw [rmC, rowS_eq h, low_iff hm h1' (by omega)]
      exact ⟨by
        have := b1
        rw [rwm_bit _ _ (by omega)] at this
        unfold rP at this
        rw [decide_eq_true_eq] at this
        exact this.1, by
        have := b2
        rw [rwm_bit _ _ h2'] at this
        unfold rP at this
        rw [decide_eq_true_eq] at this
        exact this.1, b1, b3⟩
    have := (rmC_iff h h1' h2').mpr hc
    rw [e, ← rowS_eq h]
    exact this
  have ii : i = i' := by
    have := ei.symm.trans hlo.1
    exact (i3n_inj (by omega) (by omega)).mp this
  have jj : j = j' := by
    have := ej.symm.trans hlo.2
    exact (i3n_inj (by omega) (by omega)).mp this
  subst ii jj
  refine ⟨by rw [ei]; exact h.T (by omega), by rw [ej]; exact h.T h2, ?_, ?_⟩
  · rw [ei]
    exact q_255 (a := 0) (b := i) (Nat.zero_le _) (by omega) ((hsI i (by omega)).mpr b1) (fun q _ hq e' => by
      have := (hsI q (by omega)).mp e'
      rw [b3 q (by omega) (by omega)] at this
      cases this) th
  · rw [ei, ej, i3_nat_add]
    exact q_255 (a := i + 1) (b := j) (by omega) (by omega) ((hsI j (by omega)).mpr b2) (fun q hq hq2 e' => by
      have := (hsI q (by omega)).mp e'
      rw [b3 q (by omega) (by omega)] at this
      cases this) th
noncomputable def ptF (g : Gd) (c : Int32) (k : Nat) (m : Int32) : Int32 := if bct (lg (RL g) k) < i3 3 then m else if dar g (cA g (f1 g k)) (cA g (f2 g k)) c = 0 then m + i3 1 else m
noncomputable def xPointed (g : Gd) (c : Int32) : Int32 := if isCl g c then itr (ptF g c) (RL g).length (i3 0) else i3 (-2)
theorem d_50 (c : Mq s) (x : Int32) : Ans s (m_271 44 x (H s)) (xPointed (md s 44) x) := by
  unfold m_271 xPointed
  rw [(r_m s).1, Option.bind_some, q_193 c.1, Option.bind_some, bP_if]
  by_cases c1 : isCl (md s 44) x
  · rw [if_pos c1, if_pos c1]
    refine Ans.rwM c (fun s1 c1 m1 r1 => ?_)
    have hl := RL_len c.1
    refine ⟨s1, ?_, qq.refl s1⟩
    refine (lp0 (RL (md s 44)).length (by omega) (fun t a => (a, t)) (fun a => a) (ptF (md s 44) x) (fun _ => True) (i3 0) ?_ (fun _ _ _ _ => trivial) ?_ trivial).trans rfl
    · intro k m nx ex hk _
      obtain ⟨t1, t2, e1, e2⟩ := RL_two c.1 hk (H s1)
      have h1 : ok (md s1 44) := c1.1
      have t1' : isT (md s1 44) (f1 (md s 44) k) := by rw [m1]; exact t1
      have t2' : isT (md s1 44) (f2 (md s 44) k) := by rw [m1]; exact t2
      dsimp only
      rw [(r_f s1).2.1, Option.bind_some, if_neg (r1.lt hk), (r_f s1).2.2.1, Option.bind_some, (r_f s1).2.2.2, r1.at hk, Option.bind_some, e1, Option.bind_some, Option.bind_some, (r_f s1).2.2.2, r1.at hk, Option.bind_some, e2, Option.bind_some, Option.bind_some, (r_f s1).2.2.2, r1.at hk, Option.bind_some, q_196, Option.bind_some, RL_bs c.1 hk, jnE, jnE]
      dsimp only
      unfold ptF
      by_cases d1 : bct (lg (RL (md s 44)) k) < i3 3
      · rw [if_pos (show _ < Int32.ofInt 3 from d1), if_pos d1, add0]
      rw [if_neg (show ¬ _ < Int32.ofInt 3 from d1), if_neg d1, (r_g s1).2.2.2.2.2.2.1, Option.bind_some, (r_g s1).2.2.2.2.2.2.2.2.2.2.1, h1.at_c t1', Option.bind_some, Option.bind_some, (r_g s1).2.2.2.2.2.2.2.2.2.2.1, h1.at_c t2', Option.bind_some, q_236 h1, Option.bind_some, bP_if, m1]
      by_cases d2 : dar (md s 44) (cA (md s 44) (f1 (md s 44) k)) (cA (md s 44) (f2 (md s 44) k)) x = 0
      · rw [if_pos d2, if_pos d2]
      · rw [if_neg d2, if_neg d2, add0]
    · intro a nx ex _
      dsimp only
      rw [(r_f s1).2.1, Option.bind_some, if_pos (r1.ge (Nat.le_refl _) (show (RL (md s 44)).length ≤ 1000 by omega))]
  · rw [if_neg c1, if_neg c1, cst.1]
    exact Ans.mf c.2.2 isB2
end MF
end
section
/-! ===== the reference's gap ===== -/
section MGP
variable {s : St}
abbrev Gq : Type := Int32 × Int32 × Int64 × Int64
noncomputable def wd (g : Gd) (i t : Nat) : Int64 := Int32.toInt64 (dar g (cA g (f1 g i)) (cA g (f2 g i)) (cA g (i3 (t : Int))))
noncomputable def ln2 (g : Gd) (i : Nat) : Int64 := Int32.toInt64 (sqr g (cA g (f1 g i)) (cA g (f2 g i)))
abbrev gmM (g : Gd) (i t : Nat) : Prop := ¬ kA g (i3 (t : Int)) = i3 4 ∧ ¬ hs (lg (RL g) i) (i3 (t : Int))
noncomputable def gmF (g : Gd) (i t : Nat) (a : Gq) : Gq := if gmM g i t then if a.1 = i3 (-1) then (lg (RL g) i, i3 (t : Int), wd g i t * wd g i t, ln2 g i) else if 0 ≤ lg_cmp (wd g i t * wd g i t * a.2.2.2) (a.2.2.1 * ln2 g i) then a else (lg (RL g) i, i3 (t : Int), wd g i t * wd g i t, ln2 g i) else a
noncomputable def gmI (g : Gd) (i : Nat) (a : Gq) : Gq := itr (gmF g i) (nn g) a
noncomputable def gmA (g : Gd) : Gq := itr (gmI g) (RL g).length (i3 (-1), i3 (-1), Int64.ofNat 0, Int64.ofNat 1)
noncomputable def xGap (g : Gd) (w : Int32) : Int32 := if w < 0 then i3 (-2) else if w ≤ i3 1 then if (gmA g).1 = i3 (-1) then i3 (-5) else if w = 0 then (gmA g).1 else (gmA g).2.1 else i3 (-2)
theorem in01 {w : Int32} : (¬ w < i3 0 ∧ ¬ i3 1 < w) ↔ (¬ w < 0 ∧ w ≤ i3 1) := ⟨fun e => ⟨e.1, Int32.not_lt.mp e.2⟩, fun e => ⟨e.1, Int32.not_lt.mpr e.2⟩⟩
theorem d_30 (c : Mq s) (w : Int32) : Ans s (m_256 44 w (H s)) (xGap (md s 44) w) := by
  unfold m_256 xGap
  have j01 : m_190 (Int32.toInt64 w) (Int64.ofNat 0) (Int64.ofNat 1) (H s) = some (bP (¬ w < i3 0 ∧ ¬ i3 1 < w)) := by
    rw [jc.1, jc.2.1]
    exact q_190 _ _ _ _
  rw [(r_m s).1, Option.bind_some, j01, Option.bind_some, bP_if]
  by_cases c1 : w < 0
  · rw [if_neg (fun e => (in01.mp e).1 c1), if_pos c1, cst.1]
    exact Ans.mf c.2.2 isB2
  rw [if_neg c1]
  by_cases c2 : w ≤ i3 1
  · rw [if_pos (in01.mpr ⟨c1, c2⟩), if_pos c2]
    refine Ans.rwM c (fun s1 c1 m1 r1 => ?_)
    have hl := RL_len c.1
    have h1 : ok (md s1 44) := c1.1
    have hn := c.1.n_le
    have L := lp0 (R := Int32 × tH) (X := Int32 × Int32) (K := fun (x6 : Int32 × Int32) => if x6.1 = (Int32.ofInt (-1)) then (m_189 44 (Int8.ofInt (-5)).toInt32 (H s1)).bind fun q10 => some (q10.1, q10.2) else jn (fun (v7 : Int32) => some (v7, H s1)) (fun j8 => if w = 0 then j8 x6.1 else j8 x6.2)) (RL (md s 44)).length (by omega) (fun t (a : Gq) => (a.1, a.2.1, a.2.2.1, a.2.2.2, t)) (fun a => (a.1, a.2.1)) (gmI (md s 44)) (fun _ => True) (i3 (-1), i3 (-1), Int64.ofNat 0, Int64.ofNat 1) (F := fun (s3 : Int32 × Int32 × Int64 × Int64 × Int32) nx4 ex5 => (gI (H s1) 8 44 27).bind fun x12 => if x12 ≤ s3.2.2.2.2 then ex5 (s3.1, s3.2.1) else (gN (H s1) 8 44 26).bind fun o13 => (aI (H s1) o13 s3.2.2.2.2).bind fun x14 => (m_255 x14 (Int32.ofInt 0) (H s1)).bind fun x15 => (gN (H s1) 8 44 26).bind fun o16 => (aI (H s1) o16 s3.2.2.2.2).bind fun x17 => (m_255 x17 (x15 + (Int32.ofInt 1)) (H s1)).bind fun x18 => (gN (H s1) 8 44 12).bind fun o19 => (aI (H s1) o19 x15).bind fun x20 => (gN (H s1) 8 44 12).bind fun o21 => (aI (H s1) o21 x18).bind fun x22 => (m_238 44 x20 x22 (H s1)).bind fun x23 => lp (fun (s24 : Int32 × Int32 × Int64 × Int64 × Int32) nx25 ex26 => (gI (H s1) 8 44 10).bind fun x28 => if x28 ≤ s24.2.2.2.2 then ex26 (s24.1, s24.2.1, s24.2.2.1, s24.2.2.2.1) else (gN (H s1) 8 44 12).bind fun o29 => (aI (H s1) o29 x15).bind fun x30 => (gN (H s1) 8 44 12).bind fun o31 => (aI (H s1) o31 x18).bind fun x32 => (gN (H s1) 8 44 12).bind fun o33 => (aI (H s1) o33 s24.2.2.2.2).bind fun x34 => (m_235 44 x30 x32 x34 (H s1)).bind fun x35 => (gN (H s1) 8 44 11).bind fun o36 => (aI (H s1) o36 s24.2.2.2.2).bind fun x37 => jn (fun (v38 : Int32) => jn (fun (v40 : Int32 × Int32 × Int64 × Int64) => nx25 (v40.1, v40.2.1, v40.2.2.1, v40.2.2.2, (s24.2.2.2.2 + Int32.ofInt 1))) (fun j41 => if v38 = 0 then j41 (s24.1, s24.2.1, s24.2.2.1, s24.2.2.2.1) else jn (fun (v42 : Unit) => (gN (H s1) 8 44 26).bind fun o44 => (aI (H s1) o44 s3.2.2.2.2).bind fun x45 => j41 (x45, s24.2.2.2.2, ((Int32.toInt64 x35) * (Int32.toInt64 x35)), (Int32.toInt64 x23))) (fun j43 => if s24.1 = (Int32.ofInt (-1)) then j43 () else if 0 ≤ (lg_cmp (((Int32.toInt64 x35) * (Int32.toInt64 x35)) * s24.2.2.2.1) (s24.2.2.1 * (Int32.toInt64 x23))) then j41 (s24.1, s24.2.1, s24.2.2.1, s24.2.2.2.1) else j43 ()))) (fun j39 => jn (fun (v49 : Unit) => j39 (Int32.ofInt 0)) (fun j50 => if x37 = (Int32.ofInt 4) then j50 () else (gN (H s1) 8 44 26).bind fun o51 => (aI (H s1) o51 s3.2.2.2.2).bind fun x52 => (m_195 x52 s24.2.2.2.2 (H s1)).bind fun x53 => if x53 = 0 then j39 (Int32.ofInt 1) else j50 ()))) 4096 (s3.1, s3.2.1, s3.2.2.1, s3.2.2.2.1, (Int32.ofInt 0)) (fun (x27 : Int32 × Int32 × Int64 × Int64) => nx4 (x27.1, x27.2.1, x27.2.2.1, x27.2.2.2, (s3.2.2.2.2 + Int32.ofInt 1)))) ?_ (fun _ _ _ _ => trivial) ?_ trivial
    · refine Eq.mp (congrArg (fun z => Ans s1 z _) L.symm) ?_
      show Ans s1 (if (gmA (md s 44)).1 = i3 (-1) then (m_189 44 (Int8.ofInt (-5)).toInt32 (H s1)).bind fun q10 => some (q10.1, q10.2) else if w = 0 then some ((gmA (md s 44)).1, H s1) else some ((gmA (md s 44)).2.1, H s1)) _
      by_cases d1 : (gmA (md s 44)).1 = i3 (-1)
      · rw [if_pos d1, if_pos d1, cst.2.2.2.1]
        exact Ans.mf c1.2.2 isB5
      · rw [if_neg d1, if_neg d1]
        by_cases d2 : w = 0
        · rw [if_pos d2, if_pos d2]
          exact Ans.id
        · rw [if_neg d2, if_neg d2]
          exact Ans.id
    · intro i a nx ex hi _
      obtain ⟨t1, t2, e1, e2⟩ := RL_two c.1 hi (H s1)
      have t1' : isT (md s1 44) (f1 (md s 44) i) := by rw [m1]; exact t1
      have t2' : isT (md s1 44) (f2 (md s 44) i) := by rw [m1]; exact t2
      have h0 := c.1
      dsimp only
      rw [(r_f s1).2.1, Option.bind_some, if_neg (r1.lt hi), (r_f s1).2.2.1, Option.bind_some, (r_f s1).2.2.2, r1.at hi, Option.bind_some, e1, Option.bind_some, Option.bind_some, (r_f s1).2.2.2, r1.at hi, Option.bind_some, e2, Option.bind_some, (r_g s1).2.2.2.2.2.2.1, Option.bind_some, (r_g s1).2.2.2.2.2.2.2.2.2.2.1, h1.at_c t1', Option.bind_some, Option.bind_some, (r_g s1).2.2.2.2.2.2.2.2.2.2.1, h1.at_c t2', Option.bind_some, q_238 h1, Option.bind_some, m1]
      refine (lp0 (nn (md s 44)) (by omega) (fun t (a : Gq) => (a.1, a.2.1, a.2.2.1, a.2.2.2, t)) (fun a => (a.1, a.2.1, a.2.2.1, a.2.2.2)) (gmF (md s 44) i) (fun _ => True) a ?_ (fun _ _ _ _ => trivial) ?_ trivial).trans rfl
      · intro t b nx2 ex2 ht _
        have hT := h0.T ht
        have hT' : isT (md s1 44) (i3 (t : Int)) := by rw [m1]; exact hT
        dsimp only
        rw [(r_g s1).2.2.1, Option.bind_some, m1, if_neg hT.2, Option.bind_some, (r_g s1).2.2.2.2.2.2.2.2.2.2.1, m1, h0.at_c t1, Option.bind_some, Option.bind_some, (r_g s1).2.2.2.2.2.2.2.2.2.2.1, m1, h0.at_c t2, Option.bind_some, Option.bind_some, (r_g s1).2.2.2.2.2.2.2.2.2.2.1, m1, h0.at_c hT, Option.bind_some, q_235 h1, Option.bind_some, (r_g s1).2.2.2.2.2.1, Option.bind_some, (r_g s1).2.2.2.2.2.2.2.2.2.1, m1, h0.at_k hT, Option.bind_some, jnE, jnE]
        dsimp only
        unfold gmF wd ln2
        by_cases d1 : kA (md s 44) (i3 (t : Int)) = i3 4
        · rw [if_pos (show _ = Int32.ofInt 4 from d1), jnE, if_pos (show Int32.ofInt 0 = 0 from rfl), if_neg (show ¬ gmM (md s 44) i t from fun e => e.1 d1)]
        rw [if_neg (show ¬ _ = Int32.ofInt 4 from d1), Option.bind_some, (r_f s1).2.2.2, r1.at hi, Option.bind_some, q_195, Option.bind_some, bP_if]
        by_cases d2 : hs (lg (RL (md s 44)) i) (i3 (t : Int))
        · rw [if_pos d2, jnE, if_pos (show Int32.ofInt 0 = 0 from rfl), if_neg (show ¬ gmM (md s 44) i t from fun e => e.2 d2)]
        rw [if_neg d2, jnE, if_neg e1_0, if_pos (show gmM (md s 44) i t from ⟨d1, d2⟩), jnE]
        by_cases d3 : b.1 = i3 (-1)
        · rw [if_pos (show b.1 = Int32.ofInt (-1) from d3), if_pos d3, Option.bind_some, (r_f s1).2.2.2, r1.at hi, Option.bind_some]
        rw [if_neg (show ¬ b.1 = Int32.ofInt (-1) from d3), if_neg d3]
        split
        · rfl
        · rw [Option.bind_some, (r_f s1).2.2.2, r1.at hi, Option.bind_some]
      · intro a nx2 ex2 _
        dsimp only
        rw [(r_g s1).2.2.1, Option.bind_some, m1, if_pos (h0.Te (Nat.le_refl _) (by omega))]
    · intro a nx ex _
      dsimp only
      rw [(r_f s1).2.1, Option.bind_some, if_pos (r1.ge (Nat.le_refl _) (show (RL (md s 44)).length ≤ 1000 by omega))]
  · rw [if_neg (fun e => c2 (in01.mp e).2), if_neg c2, cst.1]
    exact Ans.mf c.2.2 isB2
end MGP
end
