/-! ===== the reference's garden ===== -/
theorem j_lt {x y : Int32} : lg_cmp (Int32.toInt64 x) (Int32.toInt64 y) < 0 ↔ x < y := by
  have e1 : (Int32.toInt64 x).toInt = x.toInt := Int32.toInt_toInt64 x
  have e2 : (Int32.toInt64 y).toInt = y.toInt := Int32.toInt_toInt64 y
  unfold lg_cmp
  by_cases c1 : Int32.toInt64 x > Int32.toInt64 y
  · rw [if_pos c1]
    have := Int64.lt_iff_toInt_lt.mp c1
    rw [e1, e2] at this
    refine ⟨fun e => absurd e (by decide +kernel), fun e => ?_⟩
    have := Int32.lt_iff_toInt_lt.mp e
    omega
  · rw [if_neg c1]
    have n1 : ¬ y.toInt < x.toInt := fun e => c1 (Int64.lt_iff_toInt_lt.mpr (by rw [e1, e2]; exact e))
    by_cases c2 : Int32.toInt64 x = Int32.toInt64 y
    · rw [if_pos c2]
      have : x.toInt = y.toInt := by rw [← e1, ← e2, c2]
      refine ⟨fun e => absurd e (by decide +kernel), fun e => ?_⟩
      have := Int32.lt_iff_toInt_lt.mp e
      omega
    · rw [if_neg c2]
      have n2 : x.toInt ≠ y.toInt := fun e => c2 (Int64.toInt_inj.mp (by rw [e1, e2]; exact e))
      exact ⟨fun _ => Int32.lt_iff_toInt_lt.mpr (by omega), fun _ => by decide +kernel⟩
theorem j_gt {x y : Int32} : 0 < lg_cmp (Int32.toInt64 x) (Int32.toInt64 y) ↔ y < x := by
  have e1 : (Int32.toInt64 x).toInt = x.toInt := Int32.toInt_toInt64 x
  have e2 : (Int32.toInt64 y).toInt = y.toInt := Int32.toInt_toInt64 y
  unfold lg_cmp
  by_cases c1 : Int32.toInt64 x > Int32.toInt64 y
  · rw [if_pos c1]
    have := Int64.lt_iff_toInt_lt.mp c1
    rw [e1, e2] at this
    exact ⟨fun _ => Int32.lt_iff_toInt_lt.mpr this, fun _ => by decide +kernel⟩
  · rw [if_neg c1]
    have n1 : ¬ y.toInt < x.toInt := fun e => c1 (Int64.lt_iff_toInt_lt.mpr (by rw [e1, e2]; exact e))
    refine ⟨fun e => ?_, fun e => absurd (Int32.lt_iff_toInt_lt.mp e) n1⟩
    by_cases c2 : Int32.toInt64 x = Int32.toInt64 y
    · rw [if_pos c2] at e
      exact absurd e (by decide +kernel)
    · rw [if_neg c2] at e
      exact absurd e (by decide +kernel)
theorem q_190 (x l u : Int32) (th : tH) : m_190 (Int32.toInt64 x) (Int32.toInt64 l) (Int32.toInt64 u) th = some (bP (¬ x < l ∧ ¬ u < x)) := by
  unfold m_190 jn
  dsimp only
  by_cases c1 : x < l
  · rw [if_pos (j_lt.mpr c1), bP_f (fun e => e.1 c1)]; rfl
  · rw [if_neg (fun e => c1 (j_lt.mp e))]
    by_cases c2 : u < x
    · rw [if_pos (j_gt.mpr c2), bP_f (fun e => e.2 c2)]; rfl
    · rw [if_neg (fun e => c2 (j_gt.mp e)), bP_t ⟨c1, c2⟩]; rfl
theorem jc : Int64.ofNat 0 = Int32.toInt64 (i3 0) ∧ Int64.ofNat 1 = Int32.toInt64 (i3 1) ∧ Int64.ofNat 2 = Int32.toInt64 (i3 2) ∧ Int64.ofNat 3 = Int32.toInt64 (i3 3) ∧ Int64.ofNat 4 = Int32.toInt64 (i3 4) ∧ Int64.ofNat 5 = Int32.toInt64 (i3 5) ∧ Int64.ofNat 7 = Int32.toInt64 (i3 7) ∧ Int64.ofNat 8 = Int32.toInt64 (i3 8) ∧ Int64.ofNat 9 = Int32.toInt64 (i3 9) ∧ Int64.ofNat 12 = Int32.toInt64 (i3 12) ∧ Int64.ofNat 16 = Int32.toInt64 (i3 16) ∧ Int64.ofNat 40 = Int32.toInt64 (i3 40) ∧ Int64.ofNat 255 = Int32.toInt64 (i3 255) ∧ Int64.ofNat 18446744073709551615 = Int32.toInt64 (i3 (-1)) := by decide +kernel
theorem pred_lt {x y : Int32} (hy : ∃ k : Nat, k < 1000 ∧ y = i3 (k : Int)) (h0 : ¬ x < 0) : (y - i3 1 < x) ↔ y ≤ x := by
  obtain ⟨k, hk, rfl⟩ := hy
  have e : i3 (k : Int) - i3 1 = i3 ((k : Int) - 1) := i3_sub _ _
  rw [e, Int32.lt_iff_toInt_lt, Int32.le_iff_toInt_le, i3_toInt ⟨by omega, by omega⟩, i3_toInt ⟨by omega, by omega⟩]
  omega
theorem pred_iff {x y : Int32} (hy : ∃ k : Nat, k < 1000 ∧ y = i3 (k : Int)) : (¬ x < i3 0 ∧ ¬ y - i3 1 < x) ↔ (¬ x < 0 ∧ ¬ y ≤ x) := ⟨fun e => ⟨e.1, fun h => e.2 ((pred_lt hy e.1).mpr h)⟩, fun e => ⟨e.1, fun h => e.2 ((pred_lt hy e.1).mp h)⟩⟩
theorem bP_congr {P Q : Prop} {i : Decidable P} {j : Decidable Q} (h : P ↔ Q) : @bP P i = @bP Q j := by
  unfold bP
  by_cases c : Q
  · rw [if_pos c, if_pos (h.mpr c)]
  · rw [if_neg c, if_neg (fun e => c (h.mp e))]
theorem ok.nk {g : Gd} (h : ok g) : ∃ k : Nat, k < 1000 ∧ tN g = i3 (k : Int) := ⟨nn g, by have := h.n_le; omega, h.n_eq⟩
theorem ok.wk {g : Gd} (h : ok g) : ∃ k : Nat, k < 1000 ∧ wN g = i3 (k : Int) := ⟨wn g, by have := h.w_le; omega, h.w_eq⟩
theorem ok.ck {g : Gd} (h : ok g) : ∃ k : Nat, k < 1000 ∧ cc g = i3 (k : Int) := ⟨dn g * dn g, by have := h.cc_le; omega, h.cc_eq⟩
abbrev hs (x t : Int32) : Prop := ¬ ((x >>> (t &&& 31)) &&& i3 1) = 0
section MG
variable {s : St}
theorem q_191 (h : ok (md s 44)) (x : Int32) : m_191 44 x (H s) = some (bP (isT (md s 44) x)) := by
  have gt : gI (H s) 8 44 10 = some (tN (md s 44)) := rfl
  unfold m_191
  rw [(r_m s).1, Option.bind_some, gt, Option.bind_some, jc.1, q_190, Option.bind_some, rB_bP]
  exact congrArg some (bP_congr (pred_iff h.nk))
theorem q_192 : m_192 44 (H s) = some (cc (md s 44)) := rfl
theorem q_193 (h : ok (md s 44)) (x : Int32) : m_193 44 x (H s) = some (bP (isCl (md s 44) x)) := by
  unfold m_193
  rw [(r_m s).1, Option.bind_some, q_192, Option.bind_some, jc.1, q_190, Option.bind_some, rB_bP]
  exact congrArg some (bP_congr (pred_iff h.ck))
theorem q_194 (h : ok (md s 44)) (c : Int32) : m_194 44 c (H s) = some (tIn (md s 44) c) := by
  unfold m_194
  simp only [r_m, Option.bind_some, jn, cst, bP_if, rB_0, rB_1, z00, z10, ↓reduceIte]
  refine (lpS (nn (md s 44)) (by have := h.n_le; omega) (fun t => t) () (fun k => decide (cA (md s 44) (i3 (k : Int)) = c)) (fun k => some (i3 (k : Int))) ?_ ?_).trans ?_
  · intro k nx ex hk
    simp only [(h.T hk).2, h.at_c (h.T hk), Option.bind_some, jn, cst, bP_if, rB_0, rB_1, z00, z10, ↓reduceIte, decide_eq_true_eq]
  · intro nx ex
    simp only [h.Te (Nat.le_refl _) (by have := h.n_le; omega), Option.bind_some, jn, cst, bP_if, rB_0, rB_1, z00, z10, ↓reduceIte]
  · unfold tIn oI
    cases fst? (fun k => decide (cA (md s 44) (i3 (k : Int)) = c)) (nn (md s 44)) 0 <;> rfl
theorem q_195 (x t : Int32) (th : tH) : m_195 x t th = some (bP (hs x t)) := by
  unfold m_195 jn
  dsimp only
  unfold bP
  by_cases c : ((x >>> (t &&& 31)) &&& i3 1) = 0
  · rw [if_pos c, if_neg (fun e => e c)]; rfl
  · rw [if_neg c, if_pos c]; rfl
noncomputable def bsF (x : Int32) (k : Nat) (m : Int32) : Int32 := m + ((x >>> (i3 (k : Int) &&& 31)) &&& i3 1)
noncomputable def bs (x : Int32) : Int32 := itr (bsF x) 12 (i3 0)
theorem q_196 (x : Int32) (th : tH) : m_196 x th = some (bs x) := by
  unfold m_196
  simp only [Option.bind_some, jn, cst, bP_if, rB_0, rB_1, z00, z10, ↓reduceIte]
  refine (lp0 12 (by omega) (fun t a => (a, t)) (fun a => a) (bsF x) (fun _ => True) (i3 0) ?_ (fun _ _ _ _ => trivial) ?_ trivial).trans rfl
  · intro k m nx ex hk _
    have e : ¬ i3 12 ≤ i3 (k : Int) := by
      show ¬ i3 ((12 : Nat) : Int) ≤ i3 (k : Int)
      rw [i3n_le (by omega) (by omega)]; omega
    simp only [e, Option.bind_some, jn, cst, bP_if, rB_0, rB_1, z00, z10, ↓reduceIte]
    rfl
  · intro a nx ex _
    have e : i3 12 ≤ i3 ((12 : Nat) : Int) := by decide +kernel
    simp only [e, Option.bind_some, jn, cst, bP_if, rB_0, rB_1, z00, z10, ↓reduceIte]
theorem q_197 (h : ok (md s 44)) {t : Int32} (ht : isT (md s 44) t) : m_197 44 t (H s) = some (bP (kOf (kA (md s 44) t) (i3 1))) := by
  unfold m_197
  simp only [r_m, Option.bind_some, jn, cst, bP_if, rB_0, rB_1, z00, z10, ↓reduceIte, h.at_k ht]
  generalize kA (md s 44) t = x
  by_cases c1 : x = i3 1
  · rw [if_pos c1, bP_t (Or.inl c1)]
  · rw [if_neg c1]
    by_cases c2 : x = i3 3
    · rw [if_pos c2, bP_t (Or.inr (Or.inr (Or.inl ⟨c2, rfl⟩)))]
    · rw [if_neg c2, bP_f]
      rintro (e | e | ⟨e, -⟩ | ⟨-, e⟩)
      · exact c1 e
      · exact absurd e (by decide +kernel)
      · exact c2 e
      · exact absurd e (by decide +kernel)
theorem q_198 (h : ok (md s 44)) {t : Int32} (ht : isT (md s 44) t) : m_198 44 t (H s) = some (bP (kOf (kA (md s 44) t) (i3 2))) := by
  unfold m_198
  simp only [r_m, Option.bind_some, jn, cst, bP_if, rB_0, rB_1, z00, z10, ↓reduceIte, h.at_k ht]
  generalize kA (md s 44) t = x
  by_cases c1 : x = i3 2
  · rw [if_pos c1, bP_t (Or.inl c1)]
  · rw [if_neg c1]
    by_cases c2 : x = i3 5
    · rw [if_pos c2, bP_t (Or.inr (Or.inr (Or.inr ⟨c2, rfl⟩)))]
    · rw [if_neg c2, bP_f]
      rintro (e | e | ⟨-, e⟩ | ⟨e, -⟩)
      · exact c1 e
      · exact absurd e (by decide +kernel)
      · exact absurd e (by decide +kernel)
      · exact c2 e
theorem k4 (x : Int32) : kOf x (i3 4) ↔ x = i3 4 := by
  constructor
  · rintro (e | e | ⟨-, e⟩ | ⟨-, e⟩)
    · exact e
    · exact absurd e (by decide +kernel)
    · exact absurd e (by decide +kernel)
    · exact absurd e (by decide +kernel)
  · exact Or.inl
theorem ok.dv {g : Gd} (h : ok g) (a : Int32) : dvI a (sD g) = some (rO g a) := if_neg h.d_0
theorem ok.rm {g : Gd} (h : ok g) (a : Int32) : rmI a (sD g) = some (cO g a) := if_neg h.d_0
theorem r_md (s : St) : gC (H s) 8 44 = some () ∧ gI (H s) 8 44 9 = some (sD (md s 44)) := ⟨rfl, rfl⟩
theorem q_235 (h : ok (md s 44)) (a b c : Int32) : m_235 44 a b c (H s) = some (dar (md s 44) a b c) := by
  unfold m_235
  simp only [r_md, h.dv, h.rm, Option.bind_some]
  rfl
theorem q_236 (h : ok (md s 44)) (a b c : Int32) : m_236 44 a b c (H s) = some (bP (dar (md s 44) a b c = 0)) := by
  unfold m_236 jn
  dsimp only
  rw [(r_m s).1, Option.bind_some, q_235 h, Option.bind_some]
  unfold bP
  split <;> rfl
theorem abI_neg (x : Int32) : (if 0 ≤ x then x else -x) = abI x := by
  unfold abI
  split
  · rfl
  · exact (Int32.zero_sub x).symm
theorem q_237 (h : ok (md s 44)) (a b : Int32) : m_237 44 a b (H s) = some (dst (md s 44) a b) := by
  unfold m_237 jn dst
  simp only [r_md, h.dv, h.rm, Option.bind_some]
  generalize rO (md s 44) a - rO (md s 44) b = x
  generalize cO (md s 44) a - cO (md s 44) b = y
  rw [← abI_neg x, ← abI_neg y]
  by_cases c1 : 0 ≤ x
  · rw [if_pos c1, if_pos c1]
    by_cases c2 : 0 ≤ y
    · rw [if_pos c2, if_pos c2]
    · rw [if_neg c2, if_neg c2]
  · rw [if_neg c1, if_neg c1]
    by_cases c2 : 0 ≤ y
    · rw [if_pos c2, if_pos c2]
    · rw [if_neg c2, if_neg c2]
theorem q_238 (h : ok (md s 44)) (a b : Int32) : m_238 44 a b (H s) = some (sqr (md s 44) a b) := by
  unfold m_238
  simp only [r_md, h.dv, h.rm, Option.bind_some]
  rfl
end MG
/-! ===== rows: the same ===== -/
theorem mul_sub_self (a b : Int32) : (a - a) * b = 0 ∧ b * (a - a) = 0 := by
  rw [Int32.sub_self]
  exact ⟨Int32.zero_mul, Int32.mul_zero⟩
theorem dar_l (g : Gd) (a b : Int32) : dar g a b a = 0 := by
  unfold dar
  rw [Int32.sub_self, Int32.sub_self, Int32.mul_zero, Int32.mul_zero]
  rfl
theorem dar_r (g : Gd) (a b : Int32) : dar g a b b = 0 := by
  unfold dar
  rw [Int32.mul_comm, Int32.sub_self]
noncomputable def rmF (g : Gd) (a b : Int32) (k : Nat) (m : Int32) : Int32 := if (i3 (k : Int) = a ∨ i3 (k : Int) = b ∨ dar g (cA g a) (cA g b) (cA g (i3 (k : Int))) = 0) ∧ ¬ kA g (i3 (k : Int)) = i3 4 then m ||| bit (i3 (k : Int)) else m
theorem rmF_eq (g : Gd) (a b : Int32) (k : Nat) (m : Int32) : rmF g a b k m = rowF g a b k m := by
  unfold rmF rowF
  by_cases c1 : kA g (i3 (k : Int)) = i3 4
  · rw [if_neg (fun e => e.2 c1), if_pos ((k4 _).mpr c1)]
  · rw [if_neg (fun e => c1 ((k4 _).mp e))]
    by_cases c2 : dar g (cA g a) (cA g b) (cA g (i3 (k : Int))) = 0
    · rw [if_pos ⟨Or.inr (Or.inr c2), c1⟩, if_pos c2]
    · rw [if_neg c2, if_neg]
      rintro ⟨e | e | e, -⟩
      · rw [e] at c2; exact c2 (dar_l g _ _)
      · rw [e] at c2; exact c2 (dar_r g _ _)
      · exact c2 e
section MR
variable {s : St}
theorem q_239 (h : ok (md s 44)) {a b : Int32} (ha : isT (md s 44) a) (hb : isT (md s 44) b) : m_239 44 a b (H s) = some (rowS (md s 44) a b) := by
  have e0 : rowS (md s 44) a b = itr (rmF (md s 44) a b) (nn (md s 44)) (i3 0) := itr_congr (fun k m _ => (rmF_eq _ _ _ k m).symm)
  rw [e0]
  unfold m_239
  simp only [r_m, jn, Option.bind_some]
  refine (lp0 (nn (md s 44)) (by have := h.n_le; omega) (fun t a => (a, t)) (fun a => a) (rmF (md s 44) a b) (fun _ => True) (i3 0) ?_ (fun _ _ _ _ => trivial) ?_ trivial).trans rfl
  · intro k m nx ex hk _
    have z0 : ∀ m : Int32, m ||| Int32.ofInt 0 = m := fun m => Int32.or_zero
    have hT := h.T hk
    have q6 := q_236 h (cA (md s 44) a) (cA (md s 44) b) (cA (md s 44) (i3 (k : Int)))
    dsimp only
    rw [if_neg hT.2]
    have two : ((if Int32.ofInt 1 = 0 then nx (m ||| Int32.ofInt 0, i3 (k : Int) + Int32.ofInt 1) else (at32 (kS (md s 44)) (i3 (k : Int))).bind fun x13 => if x13 = Int32.ofInt 4 then nx (m ||| Int32.ofInt 0, i3 (k : Int) + Int32.ofInt 1) else nx (m ||| Int32.ofInt 1 <<< (i3 (k : Int) &&& 31), i3 (k : Int) + Int32.ofInt 1))) = nx (if ¬ kA (md s 44) (i3 (k : Int)) = i3 4 then m ||| bit (i3 (k : Int)) else m, i3 (k : Int) + Int32.ofInt 1) := by
      rw [if_neg e1_0, h.at_k hT, Option.bind_some, z0]
      by_cases c : kA (md s 44) (i3 (k : Int)) = i3 4
      · rw [if_pos c, if_neg (fun e => e c)]
      · rw [if_neg c, if_pos c]
        rfl
    have fin : (i3 (k : Int) = a ∨ i3 (k : Int) = b ∨ dar (md s 44) (cA (md s 44) a) (cA (md s 44) b) (cA (md s 44) (i3 (k : Int))) = 0) → rmF (md s 44) a b k m = if ¬ kA (md s 44) (i3 (k : Int)) = i3 4 then m ||| bit (i3 (k : Int)) else m := fun hp => by
      unfold rmF
      by_cases c : kA (md s 44) (i3 (k : Int)) = i3 4
      · rw [if_neg (fun e => e.2 c), if_neg (fun e => e c)]
      · rw [if_pos ⟨hp, c⟩, if_pos c]
    by_cases c1 : i3 (k : Int) = a
    · rw [if_pos c1, fin (Or.inl c1)]
      exact two
    rw [if_neg c1]
    by_cases c2 : i3 (k : Int) = b
    · rw [if_pos c2, fin (Or.inr (Or.inl c2))]
      exact two
    rw [if_neg c2, h.at_c ha, Option.bind_some, h.at_c hb, Option.bind_some, h.at_c hT, Option.bind_some, q6, Option.bind_some, bP_if]
    by_cases c3 : dar (md s 44) (cA (md s 44) a) (cA (md s 44) b) (cA (md s 44) (i3 (k : Int))) = 0
    · rw [if_pos c3, fin (Or.inr (Or.inr c3))]
      exact two
    · rw [if_neg c3, if_pos e0_0, z0]
      have : rmF (md s 44) a b k m = m := by
        unfold rmF
        exact if_neg (fun e => e.1.elim c1 (fun e => e.elim c2 c3))
      rw [this]
  · intro a nx ex _
    simp only [h.Te (Nat.le_refl _) (by have := h.n_le; omega), Option.bind_some, jn, cst, bP_if, rB_0, rB_1, z00, z10, ↓reduceIte]
end MR
