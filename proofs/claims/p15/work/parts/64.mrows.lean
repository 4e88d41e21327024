/-! ===== rows as masks ===== -/
noncomputable def msk (p : Nat → Bool) : Nat → Nat
  | 0 => 0
  | n + 1 => if p n = true then msk p n ||| 2 ^ n else msk p n
theorem msk_bit (p : Nat → Bool) : ∀ (n j : Nat), (msk p n).testBit j = (decide (j < n) && p j)
  | 0, j => by
    show Nat.testBit 0 j = _
    simp
  | n + 1, j => by
    have ih := msk_bit p n j
    show (if p n = true then msk p n ||| 2 ^ n else msk p n).testBit j = _
    by_cases c : p n = true
    · rw [if_pos c, Nat.testBit_or, ih, Nat.testBit_two_pow]
      by_cases e : n = j
      · subst e; simp [c]
      · have e2 : decide (j < n + 1) = decide (j < n) := by
          apply decide_eq_decide.mpr; omega
        rw [e2]; simp [e]
    · rw [if_neg c, ih]
      by_cases e : n = j
      · subst e; simp [c]
      · have e2 : decide (j < n + 1) = decide (j < n) := by
          apply decide_eq_decide.mpr; omega
        rw [e2]
theorem msk_lt (p : Nat → Bool) (n : Nat) : msk p n < 2 ^ n := Nat.lt_pow_two_of_testBit _ (fun j hj => by rw [msk_bit, decide_eq_false (by omega), Bool.false_and])
theorem msk_congr {p q : Nat → Bool} : ∀ {n : Nat}, (∀ k, k < n → p k = q k) → msk p n = msk q n
  | 0, _ => rfl
  | n + 1, h => by
    show (if p n = true then msk p n ||| 2 ^ n else msk p n) = (if q n = true then msk q n ||| 2 ^ n else msk q n)
    rw [msk_congr (fun k hk => h k (by omega)), h n (by omega)]
/-- a fold that gathers bits -/
theorem itr_msk {p : Nat → Bool} {f : Nat → Int32 → Int32} (hf : ∀ k m, f k m = if p k = true then m ||| bit (i3 (k : Int)) else m) : ∀ n, n ≤ 12 → itr f n (i3 0) = i3 (msk p n : Int)
  | 0, _ => rfl
  | n + 1, hn => by
    show f n (itr f n (i3 0)) = _
    rw [itr_msk hf n (by omega), hf, bit_eq (by omega), i3_or]
    show _ = i3 ((if p n = true then msk p n ||| 2 ^ n else msk p n : Nat) : Int)
    split <;> rfl
noncomputable def rP (g : Gd) (a b : Int32) (k : Nat) : Bool := decide (¬ kA g (i3 (k : Int)) = i3 4 ∧ dar g (cA g a) (cA g b) (cA g (i3 (k : Int))) = 0)
noncomputable def rwm (g : Gd) (a b : Int32) : Nat := msk (rP g a b) (nn g)
theorem rowS_eq {g : Gd} (h : ok g) (a b : Int32) : rowS g a b = i3 (rwm g a b : Int) := by
  refine itr_msk (fun k m => ?_) _ h.n_le
  unfold rowF rP
  by_cases c1 : kA g (i3 (k : Int)) = i3 4
  · rw [if_pos ((k4 _).mpr c1), decide_eq_false (fun e => e.1 c1), if_neg (by decide)]
  · rw [if_neg (fun e => c1 ((k4 _).mp e))]
    by_cases c2 : dar g (cA g a) (cA g b) (cA g (i3 (k : Int))) = 0
    · rw [if_pos c2, decide_eq_true ⟨c1, c2⟩, if_pos rfl]
    · rw [if_neg c2, decide_eq_false (fun e => c2 e.2), if_neg (by decide)]
theorem rwm_lt (g : Gd) (a b : Int32) : rwm g a b < 2 ^ nn g := msk_lt _ _
theorem rwm_4096 {g : Gd} (h : ok g) (a b : Int32) : rwm g a b < 4096 := Nat.lt_of_lt_of_le (rwm_lt g a b) (p12 h.n_le)
theorem rwm_bit {g : Gd} (a b : Int32) {k : Nat} (hk : k < nn g) : (rwm g a b).testBit k = rP g a b k := by
  unfold rwm
  rw [msk_bit, decide_eq_true hk, Bool.true_and]
noncomputable def b_lo2 (m : Nat) : Bool := decide (lo2 m = (fst? (fun t => m.testBit t) (12 - (lo m + 1)) (lo m + 1)).getD 32)
theorem lo2_eq {m : Nat} (hm : m < 4096) : lo2 m = (fst? (fun t => m.testBit t) (12 - (lo m + 1)) (lo m + 1)).getD 32 := of_decide_eq_true (z4_of (f := b_lo2) (by decide +kernel) hm)
theorem fst?_is {p : Nat → Bool} {n l k : Nat} (h1 : l ≤ k) (h2 : k < l + n) (h3 : p k = true) (h4 : ∀ j, l ≤ j → j < k → p j = false) : fst? p n l = some k := by
  cases hf : fst? p n l with
  | none => rw [fst?_none hf k h1 h2] at h3; cases h3
  | some j =>
    obtain ⟨a, b, c, d⟩ := fst?_some hf
    by_cases e : j < k
    · rw [h4 j a e] at c; cases c
    · by_cases e2 : k < j
      · rw [d k h1 e2] at h3; cases h3
      · rw [show j = k by omega]
theorem two_iff {m i j : Nat} (hm : m < 4096) (hij : i < j) (hj : j < 12) : (lo m = i ∧ lo2 m = j) ↔ (m.testBit i = true ∧ m.testBit j = true ∧ ∀ k, k < j → k ≠ i → m.testBit k = false) := by
  constructor
  · rintro ⟨h1, h2⟩
    rw [lo2_eq hm, h1] at h2
    have a : fst? (fun t => m.testBit t) 12 0 = some i := by
      unfold lo at h1
      cases hf : fst? (fun t => m.testBit t) 12 0 with
      | none => rw [hf] at h1; simp at h1; omega
      | some k => rw [hf] at h1; simp at h1; rw [h1]
    have b : fst? (fun t => m.testBit t) (12 - (i + 1)) (i + 1) = some j := by
      cases hf : fst? (fun t => m.testBit t) (12 - (i + 1)) (i + 1) with
      | none => rw [hf] at h2; simp at h2; omega
      | some k => rw [hf] at h2; simp at h2; rw [h2]
    obtain ⟨a1, a2, a3, a4⟩ := fst?_some a
    obtain ⟨b1, b2, b3, b4⟩ := fst?_some b
    refine ⟨a3, b3, fun k hk hki => ?_⟩
    by_cases c : k < i
    · exact a4 k (Nat.zero_le _) c
    · exact b4 k (by omega) hk
  · rintro ⟨h1, h2, h3⟩
    have a : fst? (fun t => m.testBit t) 12 0 = some i := fst?_is (Nat.zero_le _) (by omega) h1 (fun k _ hk => h3 k (by omega) (by omega))
    have e1 : lo m = i := by unfold lo; rw [a]; rfl
    refine ⟨e1, ?_⟩
    rw [lo2_eq hm, e1, fst?_is (k := j) (by omega) (by omega) h2 (fun k hk hk2 => h3 k hk2 (by omega))]
    rfl
theorem low_iff {m i j : Nat} (hm : m < 4096) (hij : i < j) (hj : j < 12) : (i3 (m : Int) &&& (bit (i3 (j : Int)) - i3 1)) = bit (i3 (i : Int)) ↔ (m.testBit i = true ∧ ∀ k, k < j → k ≠ i → m.testBit k = false) := by
  have e1 : bit (i3 (j : Int)) - i3 1 = i3 ((2 ^ j - 1 : Nat) : Int) := by
    rw [bit_eq (by omega)]
    exact i3_nat_sub (Nat.two_pow_pos j)
  have b1 : m % 2 ^ j < 2147483648 := Nat.lt_of_le_of_lt (Nat.mod_le _ _) (by omega)
  have b2 : 2 ^ i < 2147483648 := Nat.lt_of_le_of_lt (Nat.pow_le_pow_right (by omega) (show i ≤ 12 by omega)) (by decide)
  rw [e1, bit_eq (by omega), i3_and, Nat.and_two_pow_sub_one_eq_mod, i3n_inj b1 b2]
  constructor
  · intro h
    have hb : ∀ k, (m % 2 ^ j).testBit k = (2 ^ i).testBit k := fun k => by rw [h]
    refine ⟨?_, fun k hk hki => ?_⟩
    · have := hb i
      rw [Nat.testBit_mod_two_pow, Nat.testBit_two_pow_self, decide_eq_true hij, Bool.true_and] at this
      exact this
    · have := hb k
      rw [Nat.testBit_mod_two_pow, Nat.testBit_two_pow, decide_eq_true hk, Bool.true_and, decide_eq_false (fun e => hki e.symm)] at this
      exact this
  · rintro ⟨h1, h2⟩
    apply Nat.eq_of_testBit_eq
    intro k
    rw [Nat.testBit_mod_two_pow, Nat.testBit_two_pow]
    by_cases c : k < j
    · rw [decide_eq_true c, Bool.true_and]
      by_cases e : i = k
      · subst e; rw [h1]; simp
      · rw [h2 k c (fun e' => e e'.symm), decide_eq_false e]
    · rw [decide_eq_false c, Bool.false_and, decide_eq_false (by omega)]
abbrev rmC (g : Gd) (i j : Nat) : Prop := ¬ kA g (i3 (i : Int)) = i3 4 ∧ ¬ kA g (i3 (j : Int)) = i3 4 ∧ (rowS g (i3 (i : Int)) (i3 (j : Int)) &&& (bit (i3 (j : Int)) - i3 1)) = bit (i3 (i : Int))
theorem rmC_iff {g : Gd} (h : ok g) {i j : Nat} (hij : i < j) (hj : j < nn g) : rlC g i j ↔ rmC g i j := by
  have hn := h.n_le
  have hm := rwm_4096 h (i3 (i : Int)) (i3 (j : Int))
  have bi : (rwm g (i3 (i : Int)) (i3 (j : Int))).testBit i = true ↔ ¬ kA g (i3 (i : Int)) = i3 4 := by
    rw [rwm_bit _ _ (by omega)]
    unfold rP
    rw [decide_eq_true_eq]
    exact ⟨fun e => e.1, fun e => ⟨e, dar_l g _ _⟩⟩
  have bj : (rwm g (i3 (i : Int)) (i3 (j : Int))).testBit j = true ↔ ¬ kA g (i3 (j : Int)) = i3 4 := by
    rw [rwm_bit _ _ hj]
    unfold rP
    rw [decide_eq_true_eq]
    exact ⟨fun e => e.1, fun e => ⟨e, dar_r g _ _⟩⟩
  unfold rlC rmC
  rw [rowS_eq h, ntz_eq hm, ntz2_eq hm, low_iff hm hij (by omega)]
  have L : ∀ m, lo m < 2147483648 := fun m => by
    unfold lo
    cases hf : fst? (fun t => m.testBit t) 12 0 with
    | none => simp
    | some k =>
      have := (fst?_some hf).2.1
      show k < _
      omega
  rw [i3n_inj (L _) (by omega), i3n_inj (show lo2 _ < _ from L _) (by omega), two_iff hm hij (by omega), bi, bj]
  constructor
  · rintro ⟨a, b, c⟩; exact ⟨a, b, a, c⟩
  · rintro ⟨a, b, -, c⟩; exact ⟨a, b, c⟩
/-! ===== the reference finds the same rows ===== -/
noncomputable def rowsM (s : St) (L : List Int32) : Prop := fi s 44 27 = i3 (L.length : Int) ∧ L.length ≤ 66 ∧ pre L (ia s 66)
section MW
variable {s : St}
theorem q_241 {n : Nat} {x : Int32} (hc : fi s 44 27 = i3 (n : Int)) (hn : n < 66) (hl : (ia s 66).length = 70) : m_241 44 x (H s) = some (H (sa (sf s 44 27 (i3 ((n + 1 : Nat) : Int))) 66 (insA x n (ia s 66)))) := by
  have g27 : ∀ t : St, gI (H t) 8 44 27 = some (fi t 44 27) := fun _ => rfl
  have p27 : ∀ (t : St) x, pI (H t) 8 44 27 x = some (H (sf t 44 27 x)) := fun _ _ => rfl
  have g26 : ∀ t : St, gN (H t) 8 44 26 = some 66 := fun _ => rfl
  have a66 : ∀ (t : St) i, aI (H t) 66 i = at32 (ia t 66) i := fun _ _ => aI_of rfl
  have s66 : ∀ (t : St) i x, sI (H t) 66 i x = (st32 (ia t 66) i x).map (fun l => H (sa t 66 l)) := fun _ _ _ => sI_of rfl
  unfold m_241
  rw [(r_m s).1, Option.bind_some, g27, Option.bind_some, p27, Option.bind_some, hc, i3_nat_add]
  generalize hs0 : sf s 44 27 (i3 ((n + 1 : Nat) : Int)) = s0
  have hia : ia s0 66 = ia s 66 := by rw [← hs0]; rfl
  rw [← hia]
  have hl0 : (ia s0 66).length = 70 := by rw [hia]; exact hl
  have key : ∀ (F : Int32 × tH → (Int32 × tH → Option tH) → (Int32 × tH → Option tH) → Option tH) (K : Int32 × tH → Option tH), (∀ p nx ex (b : List Int32), p = 0 → b.length = 70 → F (i3 (p : Nat), H (sa s0 66 b)) nx ex = ex (i3 (p : Nat), H (sa s0 66 b))) → (∀ (p : Nat) nx ex (b : List Int32), 0 < p → p < 70 → b.length = 70 → F (i3 (p : Nat), H (sa s0 66 b)) nx ex = if b.getD (p - 1) 0 ≤ x then ex (i3 (p : Nat), H (sa s0 66 b)) else nx (i3 ((p - 1 : Nat) : Int), H (sa s0 66 (b.set p (b.getD (p - 1) 0))))) → (∀ (p : Nat) (b : List Int32), p < 70 → b.length = 70 → K (i3 (p : Nat), H (sa s0 66 b)) = some (H (sa s0 66 (b.set p x)))) → ∀ (m fuel : Nat) (b : List Int32), m < 70 → m < fuel → b.length = 70 → lp F fuel (i3 (m : Int), H (sa s0 66 b)) K = some (H (sa s0 66 (insA x m b))) := by
    intro F K h0 h1 h2 m
    induction m with
    | zero =>
      intro fuel b _ hf hb
      obtain ⟨q, rfl⟩ : ∃ q, fuel = q + 1 := ⟨fuel - 1, by omega⟩
      rw [lp_s, h0 0 _ _ b rfl hb, h2 0 b (by omega) hb]
      rfl
    | succ m ih =>
      intro fuel b hm hf hb
      obtain ⟨q, rfl⟩ : ∃ q, fuel = q + 1 := ⟨fuel - 1, by omega⟩
      rw [lp_s, h1 (m + 1) _ _ b (by omega) hm hb]
      show (if b.getD m 0 ≤ x then _ else _) = _
      unfold insA
      split
      · rw [h2 (m + 1) b hm hb]
      · exact ih q _ (by omega) (by omega) (by rw [List.length_set]; exact hb)
  rw [show H s0 = H (sa s0 66 (ia s0 66)) by rw [sa_id]]
  refine key _ _ ?_ ?_ ?_ n 4096 (ia s0 66) (by omega) (by omega) hl0
  · intro p nx ex b hp hb
    subst hp
    have e : i3 ((0 : Nat) : Int) ≤ 0 := by decide +kernel
    dsimp only
    rw [if_pos e]
  · intro p nx ex b hp hp2 hb
    have hp3 : ¬ i3 (p : Int) ≤ 0 := by
      rw [show (0 : Int32) = i3 ((0 : Nat) : Int) from rfl, i3n_le (by omega) (by omega)]; omega
    have e2 : ∀ y, st32 b (i3 (p : Int)) y = some (b.set p y) := fun y => st32_nat (by omega) (by omega)
    have e1 : at32 b (i3 ((p - 1 : Nat) : Int)) = some (b.getD (p - 1) 0) := by
      rw [at32_nat (by omega), List.getD_eq_getElem?_getD, List.getElem?_eq_getElem (by omega)]; rfl
    dsimp only
    rw [if_neg hp3, i3_nat_sub hp, i3_nat_dec hp]
    simp only [g26, a66, s66, Option.bind_some, ia_sa, ↓reduceIte, e1, e2, Option.map_some, sa_sa]
  · intro p b hp hb
    dsimp only
    simp only [g26, s66, Option.bind_some, ia_sa, ↓reduceIte]
    rw [st32_nat (by omega) (by omega)]
    simp only [Option.bind_some, Option.map_some, sa_sa]
theorem q_240 (h : ok (md s 44)) (z : Sz s) : ∃ s', m_240 44 (H s) = some (H s') ∧ sc s s' ∧ rowsM s' (RL (md s 44)) ∧ (∀ o k, ¬ (o = 44 ∧ k = 27) → fi s' o k = fi s o k) := by
  suffices T (m_240 44 (H s)) (fun th => ∃ s', th = H s' ∧ sc s s' ∧ rowsM s' (RL (md s 44)) ∧ (∀ o k, ¬ (o = 44 ∧ k = 27) → fi s' o k = fi s o k)) by
    obtain ⟨_, e, s', rfl, c, r, f⟩ := this
    exact ⟨s', e, c, r, f⟩
  have p27 : ∀ (t : St) x, pI (H t) 8 44 27 x = some (H (sf t 44 27 x)) := fun _ _ => rfl
  have g10 : ∀ t : St, gI (H t) 8 44 10 = some (tN (md t 44)) := fun _ => rfl
  have g11 : ∀ t : St, gN (H t) 8 44 11 = some 61 := fun _ => rfl
  have a61 : ∀ (t : St) i, aI (H t) 61 i = at32 (kS (md t 44)) i := fun _ _ => aI_of rfl
  have hn := h.n_le
  have f27 : sF 44 27 := Or.inr (Or.inr (Or.inr (Or.inr ⟨rfl, by omega⟩)))
  unfold m_240
  rw [(r_m s).1, Option.bind_some, p27, Option.bind_some]
  refine lpH (nn (md s 44)) (fun k q => ∃ s', q = (i3 (k : Int), H s') ∧ sc s s' ∧ rowsM s' (itr (rlI (md s 44)) k []) ∧ (∀ o k, ¬ (o = 44 ∧ k = 27) → fi s' o k = fi s o k)) (fun th => ∃ s', th = H s' ∧ sc s s' ∧ rowsM s' (RL (md s 44)) ∧ (∀ o k, ¬ (o = 44 ∧ k = 27) → fi s' o k = fi s o k)) ?_ ?_ ?_ ?_ (by omega)
  · rintro k _ hk ⟨s1, rfl, c1, r1, w1⟩ nx ex hnx hex
    have m1 := c1.m (Or.inl rfl)
    dsimp only
    rw [g10, Option.bind_some, m1, if_neg (h.T hk).2, i3_nat_add]
    refine lpH (nn (md s 44) - (k + 1)) (fun m q => ∃ s', q = (i3 ((k + 1 + m : Nat) : Int), H s') ∧ sc s s' ∧ rowsM s' (itr (fun m => rlF (md s 44) k (k + 1 + m)) m (itr (rlI (md s 44)) k [])) ∧ (∀ o k, ¬ (o = 44 ∧ k = 27) → fi s' o k = fi s o k)) (fun th => ∃ s', th = H s' ∧ sc s s' ∧ rowsM s' (itr (rlI (md s 44)) (k + 1) []) ∧ (∀ o k, ¬ (o = 44 ∧ k = 27) → fi s' o k = fi s o k)) ?_ ?_ ?_ ?_ (by omega)
    · rintro m _ hm ⟨s2, rfl, c2, r2, w2⟩ nx2 ex2 hnx2 hex2
      have m2 := c2.m (Or.inl rfl)
      have h2 : ok (md s2 44) := by rw [m2]; exact h
      have hkT := h.T hk
      have hmT := h.T (show k + 1 + m < nn (md s 44) by omega)
      have hlen := rlJ_len (md s 44) k (k + 1) (itr (rlI (md s 44)) k []) m
      have hlen2 := rlI_len (md s 44) k
      have ht := tri_le (n := nn (md s 44)) (i := k + 1) (by omega) (by omega)
      have ht2 : tri (nn (md s 44)) (k + 1) = tri (nn (md s 44)) k + (nn (md s 44) - (k + 1)) := rfl
      have hF : itr (fun m => rlF (md s 44) k (k + 1 + m)) (m + 1) (itr (rlI (md s 44)) k []) = rlF (md s 44) k (k + 1 + m) (itr (fun m => rlF (md s 44) k (k + 1 + m)) m (itr (rlI (md s 44)) k [])) := rfl
      have iff := rmC_iff h (show k < k + 1 + m by omega) (show k + 1 + m < nn (md s 44) by omega)
      have no : ¬ rmC (md s 44) k (k + 1 + m) → T (nx2 (i3 ((k + 1 + m + 1 : Nat) : Int), H s2)) (fun th => ∃ s', th = H s' ∧ sc s s' ∧ rowsM s' (RL (md s 44)) ∧ (∀ o k, ¬ (o = 44 ∧ k = 27) → fi s' o k = fi s o k)) := fun c => hnx2 _ ⟨s2, rfl, c2, by
        rw [hF, show rlF (md s 44) k (k + 1 + m) _ = _ from if_neg (fun e => c (iff.mp e))]
        exact r2, w2⟩
      have q9 : m_239 44 (i3 (k : Int)) (i3 ((k + 1 + m : Nat) : Int)) (H s2) = some (rowS (md s 44) (i3 (k : Int)) (i3 ((k + 1 + m : Nat) : Int))) := by
        rw [q_239 h2 (by rw [m2]; exact hkT) (by rw [m2]; exact hmT), m2]
      dsimp only
      rw [g10, Option.bind_some, m2, if_neg hmT.2, g11, Option.bind_some, a61, m2, h.at_k hkT, Option.bind_some]
      unfold jn
      dsimp only
      rw [i3_nat_add]
      by_cases c3 : kA (md s 44) (i3 (k : Int)) = i3 4
      · rw [if_pos c3]
        exact no (fun e => e.1 c3)
      rw [if_neg c3, Option.bind_some, a61, m2, h.at_k hmT, Option.bind_some]
      by_cases c4 : kA (md s 44) (i3 ((k + 1 + m : Nat) : Int)) = i3 4
      · rw [if_pos c4]
        exact no (fun e => e.2.1 c4)
      rw [if_neg c4, q9, Option.bind_some]
      by_cases c5 : (rowS (md s 44) (i3 (k : Int)) (i3 ((k + 1 + m : Nat) : Int)) &&& (bit (i3 ((k + 1 + m : Nat) : Int)) - i3 1)) = bit (i3 (k : Int))
      · have c5' : (rowS (md s 44) (i3 (k : Int)) (i3 ((k + 1 + m : Nat) : Int)) &&& ((Int32.ofInt 1 <<< (i3 ((k + 1 + m : Nat) : Int) &&& 31)) - Int32.ofInt 1)) = Int32.ofInt 1 <<< (i3 (k : Int) &&& 31) := c5
        rw [if_pos c5', q_241 r2.1 (by omega) (by rw [c2.ln]; exact z.2.2.2.2.1), Option.bind_some]
        refine hnx2 _ ⟨_, rfl, (c2.f f27).a (Or.inr (Or.inr (Or.inr (Or.inr rfl)))) (insA_len _ _ _), ?_, fun o q hq => ?_⟩
        · rw [hF, show rlF (md s 44) k (k + 1 + m) _ = insL _ _ from if_pos (iff.mpr ⟨c3, c4, c5⟩)]
          refine ⟨?_, ?_, ?_⟩
          · rw [insL_len]; rfl
          · rw [insL_len]; omega
          · show pre _ (ia (sa (sf s2 44 27 _) 66 _) 66)
            rw [ia_sa, if_pos rfl]
            exact r2.2.2.ins (by rw [c2.ln, z.2.2.2.2.1]; omega)
        · rw [fi_sa, fi_sf, if_neg hq]
          exact w2 o q hq
      · have c5' : ¬ (rowS (md s 44) (i3 (k : Int)) (i3 ((k + 1 + m : Nat) : Int)) &&& ((Int32.ofInt 1 <<< (i3 ((k + 1 + m : Nat) : Int) &&& 31)) - Int32.ofInt 1)) = Int32.ofInt 1 <<< (i3 (k : Int) &&& 31) := c5
        rw [if_neg c5']
        exact no (fun e => c5 e.2.2)
    · rintro _ ⟨s2, rfl, c2, r2, w2⟩ nx2 ex2 hex2
      have m2 := c2.m (Or.inl rfl)
      dsimp only
      rw [g10, Option.bind_some, m2, if_pos (h.Te (by omega) (by omega))]
      exact hex2 _ ⟨s2, rfl, c2, r2, w2⟩
    · rintro _ ⟨s2, rfl, c2, r2, w2⟩
      exact hnx _ ⟨s2, rfl, c2, r2, w2⟩
    · exact ⟨s1, rfl, c1, r1, w1⟩
  · rintro _ ⟨s1, rfl, c1, r1, w1⟩ nx ex hex
    have m1 := c1.m (Or.inl rfl)
    dsimp only
    rw [g10, Option.bind_some, m1, if_pos (h.Te (Nat.le_refl _) (by have := h.n_le; omega))]
    exact hex _ ⟨s1, rfl, c1, r1, w1⟩
  · intro x hx
    exact T_some hx
  · exact ⟨sf s 44 27 (Int32.ofInt 0), rfl, (sc.refl s).f f27, ⟨rfl, Nat.zero_le _, Nat.zero_le _, fun j hj => absurd hj (Nat.not_lt_zero _)⟩, fun o q hq => by rw [fi_sf, if_neg hq]⟩
end MW
