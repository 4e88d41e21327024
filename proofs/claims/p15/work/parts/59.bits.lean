/-! ===== sets as bits ===== -/
theorem i3_bv (a : Nat) : (i3 (a : Int)).toBitVec = BitVec.ofNat 32 a := by
  rw [Int32.toBitVec_ofInt]; rfl
theorem i3_or (a b : Nat) : i3 (a : Int) ||| i3 (b : Int) = i3 ((a ||| b : Nat) : Int) := by
  apply Int32.toBitVec_inj.mp
  rw [Int32.toBitVec_or, i3_bv, i3_bv, i3_bv, BitVec.ofNat_or]
theorem i3_and (a b : Nat) : i3 (a : Int) &&& i3 (b : Int) = i3 ((a &&& b : Nat) : Int) := by
  apply Int32.toBitVec_inj.mp
  rw [Int32.toBitVec_and, i3_bv, i3_bv, i3_bv, BitVec.ofNat_and]
theorem allN {n : Nat} {p : Nat → Bool} (h : (List.range n).all p = true) {m : Nat} (hm : m < n) : p m = true := List.all_eq_true.mp h m (List.mem_range.mpr hm)
theorem bit_eq {t : Nat} (h : t < 31) : bit (i3 (t : Int)) = i3 ((2 ^ t : Nat) : Int) :=
  of_decide_eq_true (allN (n := 31) (p := fun t => decide (Int32.ofInt 1 <<< (i3 (t : Int) &&& 31) = i3 ((2 ^ t : Nat) : Int))) (by decide +kernel) h)
/-- how many of the first n -/
noncomputable def cb (p : Nat → Bool) : Nat → Nat
  | 0 => 0
  | n + 1 => cb p n + (p n).toNat
theorem cb_le (p : Nat → Bool) : ∀ n, cb p n ≤ n
  | 0 => Nat.le_refl _
  | n + 1 => by
    have := cb_le p n
    show cb p n + (p n).toNat ≤ n + 1
    cases p n <;> simp <;> omega
theorem cb_congr {p q : Nat → Bool} : ∀ {n : Nat}, (∀ k, k < n → p k = q k) → cb p n = cb q n
  | 0, _ => rfl
  | n + 1, h => by
    show cb p n + (p n).toNat = cb q n + (q n).toNat
    rw [cb_congr (fun k hk => h k (by omega)), h n (by omega)]
theorem cb_add {p q : Nat → Bool} {k : Nat} (h1 : ∀ j, j ≠ k → q j = p j) (h2 : p k = false) (h3 : q k = true) : ∀ {n : Nat}, k < n → cb q n = cb p n + 1
  | 0, h => absurd h (Nat.not_lt_zero _)
  | n + 1, h => by
    show cb q n + (q n).toNat = cb p n + (p n).toNat + 1
    by_cases e : k = n
    · subst e
      rw [h2, h3, cb_congr (p := q) (q := p) (fun j hj => h1 j (by omega))]
      rfl
    · rw [cb_add h1 h2 h3 (show k < n by omega), h1 n (fun e' => e e'.symm)]
      omega
/-- how many bits; the first bit, the second -/
noncomputable def pc (m : Nat) : Nat := cb (fun t => m.testBit t) 12
noncomputable def lo (m : Nat) : Nat := (fst? (fun t => m.testBit t) 12 0).getD 32
noncomputable def lo2 (m : Nat) : Nat := lo (m &&& (m - 1))
noncomputable def z4 (f : Nat → Bool) (k : Nat) : Bool := (List.range 512).all (fun m => f (512 * k + m))
theorem z4_of {f : Nat → Bool} (h : ∀ k, k < 8 → z4 f k = true) {m : Nat} (hm : m < 4096) : f m = true := by
  have h0 := h (m / 512) (by omega)
  unfold z4 at h0
  have h1 : f (512 * (m / 512) + m % 512) = true := List.all_eq_true.mp h0 (m % 512) (List.mem_range.mpr (by omega))
  rw [show 512 * (m / 512) + m % 512 = m by omega] at h1
  exact h1
noncomputable def b_172 (m : Nat) : Bool := decide (m_172 (i3 (m : Int)) [] = some (i3 (lo m : Int)))
noncomputable def b_66 (m : Nat) : Bool := decide (m_66 (i3 (m : Int)) [] = some (i3 (lo2 m : Int)))
noncomputable def b_173 (m : Nat) : Bool := decide (m_173 (i3 (m : Int)) [] = some (i3 (pc m : Int)))
theorem ntz_eq {m : Nat} (hm : m < 4096) : ntz (i3 (m : Int)) = i3 (lo m : Int) := by
  have h := of_decide_eq_true (z4_of (f := b_172) (by decide +kernel) hm)
  rw [q_172] at h
  exact Option.some.inj h
theorem ntz2_eq {m : Nat} (hm : m < 4096) : ntz (i3 (m : Int) &&& (i3 (m : Int) - i3 1)) = i3 (lo2 m : Int) := by
  have h := of_decide_eq_true (z4_of (f := b_66) (by decide +kernel) hm)
  rw [q_66] at h
  exact Option.some.inj h
theorem bct_eq {m : Nat} (hm : m < 4096) : bct (i3 (m : Int)) = i3 (pc m : Int) := by
  have h := of_decide_eq_true (z4_of (f := b_173) (by decide +kernel) hm)
  rw [q_173] at h
  exact Option.some.inj h
theorem pc_le (m : Nat) : pc m ≤ 12 := cb_le _ 12
theorem pc_or {m k : Nat} (hk : k < 12) (h : m.testBit k = false) : pc (m ||| 2 ^ k) = pc m + 1 := by
  refine cb_add (k := k) (fun j hj => ?_) h ?_ hk
  · rw [Nat.testBit_or, Nat.testBit_two_pow]
    simp [Ne.symm hj]
  · rw [Nat.testBit_or, Nat.testBit_two_pow]
    simp
theorem or_lt {m k n : Nat} (hm : m < 2 ^ n) (hk : k < n) : m ||| 2 ^ k < 2 ^ n := Nat.or_lt_two_pow hm (Nat.pow_lt_pow_right (by omega) hk)
/-- a bit that is there -/
theorem and_bit {m k : Nat} (hm : m < 4096) (hk : k < 31) : (i3 (m : Int) &&& bit (i3 (k : Int)) = 0) ↔ m.testBit k = false := by
  rw [bit_eq hk, i3_and, show (0 : Int32) = i3 ((0 : Nat) : Int) from rfl, i3n_inj (Nat.lt_of_le_of_lt Nat.and_le_left (by omega)) (by omega)]
  constructor
  · intro h
    have := congrArg (fun x => x.testBit k) h
    simp only [Nat.testBit_and, Nat.testBit_two_pow_self, Nat.zero_testBit, Bool.and_true] at this
    exact this
  · intro h
    apply Nat.eq_of_testBit_eq
    intro j
    rw [Nat.testBit_and, Nat.testBit_two_pow, Nat.zero_testBit]
    by_cases e : k = j
    · subst e; rw [h]; rfl
    · simp [e]
theorem p12 {n : Nat} (h : n ≤ 12) : 2 ^ n ≤ 4096 := Nat.pow_le_pow_right (by omega) h
/-- a set of trees that there are, three or more -/
theorem st3_iff {g : Gd} (h : ok g) (x : Int32) : st3 g x ↔ ∃ m : Nat, m < 2 ^ nn g ∧ x = i3 (m : Int) ∧ 3 ≤ pc m := by
  have hn := h.n_le
  have hp := p12 hn
  have pb : ∀ m, pc m ≤ 12 := pc_le
  constructor
  · rintro ⟨h1, h2⟩
    rw [all_eq h] at h1
    -- the bits above are not there
    have hb : x.toBitVec &&& ~~~ (BitVec.ofNat 32 (2 ^ nn g - 1)) = 0 := by
      have := congrArg Int32.toBitVec h1
      rw [Int32.toBitVec_and, Int32.toBitVec_xor, i3_bv] at this
      have e : (i3 (-1)).toBitVec = BitVec.allOnes 32 := by decide +kernel
      rw [e, BitVec.xor_allOnes] at this
      exact this
    have hx : x.toBitVec.toNat < 2 ^ nn g := by
      refine Nat.lt_pow_two_of_testBit _ (fun j hj => ?_)
      by_cases hj2 : j < 32
      · have := congrArg (fun v : BitVec 32 => v.getLsbD j) hb
        simp only [BitVec.getLsbD_and, BitVec.getLsbD_not, BitVec.getLsbD_ofNat, hj2, decide_true, Bool.true_and, Nat.testBit_two_pow_sub_one] at this
        rw [decide_eq_false (show ¬ j < nn g by omega)] at this
        have t2 : x.toBitVec.getLsbD j = false := by simpa using this
        exact t2
      · exact Nat.testBit_lt_two_pow (Nat.lt_of_lt_of_le x.toBitVec.isLt (Nat.pow_le_pow_right (by omega) (by omega)))
    have ex : x = i3 (x.toBitVec.toNat : Int) := by
      apply Int32.toBitVec_inj.mp
      rw [i3_bv, BitVec.ofNat_toNat, BitVec.setWidth_eq]
    refine ⟨x.toBitVec.toNat, hx, ex, ?_⟩
    have hb2 := pb x.toBitVec.toNat
    have e3 := bct_eq (m := x.toBitVec.toNat) (by omega)
    rw [← ex] at e3
    rw [e3, show i3 3 = i3 ((3 : Nat) : Int) from rfl, i3n_lt (by omega) (by omega)] at h2
    omega
  · rintro ⟨m, h1, rfl, h3⟩
    have hb2 := pb m
    refine ⟨?_, ?_⟩
    · rw [all_eq h]
      have e : i3 ((2 ^ nn g - 1 : Nat) : Int) ^^^ i3 (-1) = i3 ((4294967295 - (2 ^ nn g - 1) : Nat) : Int) := by
        have : ∀ n : Nat, n < 13 → i3 ((2 ^ n - 1 : Nat) : Int) ^^^ i3 (-1) = i3 ((4294967295 - (2 ^ n - 1) : Nat) : Int) := by decide +kernel
        exact this _ (by omega)
      rw [e, i3_and]
      have z : m &&& (4294967295 - (2 ^ nn g - 1)) = 0 := by
        apply Nat.eq_of_testBit_eq
        intro j
        rw [Nat.testBit_and, Nat.zero_testBit]
        by_cases hj : j < nn g
        · have : ∀ n : Nat, n < 13 → ∀ j, j < 13 → j < n → (4294967295 - (2 ^ n - 1)).testBit j = false := by decide +kernel
          rw [this _ (by omega) j (by omega) hj, Bool.and_false]
        · rw [Nat.testBit_lt_two_pow (Nat.lt_of_lt_of_le h1 (Nat.pow_le_pow_right (by omega) (by omega))), Bool.false_and]
      rw [z]
      rfl
    · rw [bct_eq (by omega), show i3 3 = i3 ((3 : Nat) : Int) from rfl, i3n_lt (by omega) (by omega)]
      omega
