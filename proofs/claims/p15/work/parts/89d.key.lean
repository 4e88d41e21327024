/-! ===== moves: what the class counts is what the garden would have ===== -/
noncomputable def mb (m t : Nat) : Nat := msk (fun k => m.testBit k && decide (k ≠ t)) 12
theorem mb_bit {m t k : Nat} (hm : m < 4096) : (mb m t).testBit k = (m.testBit k && decide (k ≠ t)) := by
  unfold mb
  rw [msk_bit]
  by_cases e : k < 12
  · rw [decide_eq_true e, Bool.true_and]
  · have : m.testBit k = false := Nat.testBit_lt_two_pow (Nat.lt_of_lt_of_le hm (Nat.pow_le_pow_right (n := 2) (by omega) (show 12 ≤ k by omega)))
    rw [decide_eq_false e, this]
    rfl
theorem mb_iff {m t k : Nat} (hm : m < 4096) : (mb m t).testBit k = true ↔ m.testBit k = true ∧ k ≠ t := by
  rw [mb_bit hm, Bool.and_eq_true, decide_eq_true_eq]
theorem mb_lt (m t : Nat) : mb m t < 4096 := msk_lt _ 12
theorem but_eq {m t : Nat} (hm : m < 4096) (ht : t < 12) : but (i3 (m : Int)) (i3 (t : Int)) = i3 (mb m t : Int) := by
  unfold but
  apply Int32.toBitVec_inj.mp
  rw [Int32.toBitVec_and, Int32.toBitVec_xor, bit_bv (by omega), i3_bv, i3_bv, show (i3 (-1)).toBitVec = BitVec.allOnes 32 from rfl]
  apply BitVec.eq_of_getLsbD_eq
  intro i hi
  rw [BitVec.getLsbD_and, BitVec.getLsbD_xor, BitVec.getLsbD_twoPow, BitVec.getLsbD_allOnes, BitVec.getLsbD_ofNat, BitVec.getLsbD_ofNat, mb_bit hm]
  simp only [hi, show t < 32 by omega, decide_true, Bool.true_and, Bool.xor_true]
  by_cases e : i = t
  · subst e
    simp
  · rw [decide_eq_false (fun q : t = i => e q.symm), decide_eq_true e]
    rfl
noncomputable def b_two (m : Nat) : Bool := decide (2 ≤ pc m → lo m < lo2 m ∧ lo2 m < 12 ∧ m.testBit (lo m) = true ∧ m.testBit (lo2 m) = true)
theorem lo_two {m : Nat} (hm : m < 4096) (h : 2 ≤ pc m) : lo m < lo2 m ∧ lo2 m < 12 ∧ m.testBit (lo m) = true ∧ m.testBit (lo2 m) = true := of_decide_eq_true (z4_of (f := b_two) (by decide +kernel) hm) h
theorem pc_mb {m t : Nat} (hm : m < 4096) (ht : t < 12) : pc m = pc (mb m t) + (m.testBit t).toNat := by
  unfold pc
  cases e : m.testBit t with
  | true =>
    refine cb_add (p := fun q => (mb m t).testBit q) (q := fun q => m.testBit q) (n := 12) (k := t) (fun j hj => ?_) ?_ e ht
    · show m.testBit j = (mb m t).testBit j
      rw [mb_bit hm, decide_eq_true hj, Bool.and_true]
    · show (mb m t).testBit t = false
      rw [mb_bit hm, decide_eq_false (fun q => q rfl), Bool.and_false]
  | false =>
    refine cb_congr (p := fun q => m.testBit q) (q := fun q => (mb m t).testBit q) (n := 12) (fun j _ => ?_)
    show m.testBit j = (mb m t).testBit j
    rw [mb_bit hm]
    by_cases e2 : j = t
    · subst e2
      rw [e]
      rfl
    · rw [decide_eq_true e2, Bool.and_true]
section KK
variable {g : Gd}
theorem cN_mv (h : ok g) {t c k : Nat} (ht : t < nn g) (hc : c < dn g * dn g) (hk : k < nn g) : cN (mvT g (i3 (t : Int)) (i3 (c : Int))) k = if k = t then c else cN g k := by
  have hn := h.n_le
  have hcc := h.cc_le
  unfold cN
  rw [cA_mvT h (h.T ht) _ (h.T hk)]
  by_cases e : k = t
  · subst e
    rw [if_pos rfl, if_pos rfl, cl_i3 (by omega)]
  · rw [if_neg (fun q => e ((i3n_inj (by omega) (by omega)).mp q)), if_neg e]
/-- the row of two that stay -/
theorem mv_row (h : ok g) {t c : Nat} (ht : t < nn g) (hc : c < dn g * dn g) (hf : tIn g (i3 (c : Int)) = i3 (-1)) {a b : Nat} (ha : a < nn g) (hb : b < nn g) (hat : a ≠ t) (hbt : b ≠ t) : mb (rwm (mvT g (i3 (t : Int)) (i3 (c : Int))) (i3 (a : Int)) (i3 (b : Int))) t = mb (rwm g (i3 (a : Int)) (i3 (b : Int))) t ∧ ((rwm (mvT g (i3 (t : Int)) (i3 (c : Int))) (i3 (a : Int)) (i3 (b : Int))).testBit t = true ↔ ¬ ch g t ∧ dt (dn g) (cN g a) (cN g b) c = 0) := by
  have ok' := ok_mvT h (h.T ht) (h.C hc) hf
  have m1 := rwm_4096 h (i3 (a : Int)) (i3 (b : Int))
  have m2 := rwm_4096 ok' (i3 (a : Int)) (i3 (b : Int))
  have ka := cN_mv h ht hc ha
  have kb := cN_mv h ht hc hb
  rw [if_neg hat] at ka
  rw [if_neg hbt] at kb
  constructor
  · refine bits_ext (fun x => ?_)
    rw [mb_iff m1, mb_iff m2, rw_bit h ha hb, rw_bit ok' (show a < nn (mvT g _ _) from ha) (show b < nn (mvT g _ _) from hb)]
    refine and_congr_left (fun hx => ?_)
    refine and_congr_right (fun hn => ?_)
    refine and_congr_right (fun _ => ?_)
    have kx := cN_mv h ht hc (show x < nn g from hn)
    rw [if_neg hx] at kx
    show dt (dn g) (cN (mvT g _ _) a) (cN (mvT g _ _) b) (cN (mvT g _ _) x) = 0 ↔ _
    rw [ka, kb, kx]
  · rw [rw_bit ok' (show a < nn (mvT g _ _) from ha) (show b < nn (mvT g _ _) from hb)]
    have kt := cN_mv h ht hc ht
    rw [if_pos rfl] at kt
    show (t < nn g ∧ ¬ ch g t ∧ dt (dn g) (cN (mvT g _ _) a) (cN (mvT g _ _) b) (cN (mvT g _ _) t) = 0) ↔ _
    rw [ka, kb, kt]
    exact ⟨fun q => q.2, fun q => ⟨ht, q⟩⟩
/-- what a row brings -/
abbrev kQ (g : Gd) (t c m : Nat) : Prop := 3 ≤ pc (mb m t) ∨ (pc (mb m t) = 2 ∧ ¬ ch g t ∧ dt (dn g) (cN g (lo (mb m t))) (cN g (lo2 (mb m t))) c = 0)
noncomputable def kP (g : Gd) (t c : Nat) (y : Int32) : Bool := decide (kQ g t c y.toNatClampNeg)
/-- two that stay -/
theorem stay2 (h : ok g) {m t : Nat} (r : isRow g m) (hp : 2 ≤ pc (mb m t)) : lo (mb m t) < nn g ∧ lo2 (mb m t) < nn g ∧ lo (mb m t) ≠ lo2 (mb m t) ∧ lo (mb m t) ≠ t ∧ lo2 (mb m t) ≠ t ∧ ¬ ch g (lo (mb m t)) ∧ ¬ ch g (lo2 (mb m t)) ∧ m = rwm g (i3 (lo (mb m t) : Int)) (i3 (lo2 (mb m t) : Int)) := by
  have hm := (row_lt h r).1
  obtain ⟨q1, q2, q3, q4⟩ := lo_two (mb_lt m t) hp
  have q3' := (mb_iff hm).mp q3
  have q4' := (mb_iff hm).mp q4
  obtain ⟨e1, e2, e3, e4, e5⟩ := row_two h r (by omega) q3'.1 q4'.1
  exact ⟨e2, e3, by omega, q3'.2, q4'.2, e4, e5, e1⟩
theorem wT_cnt (h : ok g) {t c : Nat} (ht : t < nn g) (hc : c < dn g * dn g) : ∀ n, n ≤ (RL g).length → (itr (wtF g (RL g) (i3 (t : Int))) n (i3 0, zer)).1 + rd (itr (wtF g (RL g) (i3 (t : Int))) n (i3 0, zer)).2 (i3 (c : Int)) = i3 (((RL g).take n).countP (kP g t c) : Int) ∧ (itr (wtF g (RL g) (i3 (t : Int))) n (i3 0, zer)).2.length = 64 := by
  have hn := h.n_le
  have hcc := h.cc_le
  intro n
  induction n with
  | zero =>
    intro _
    refine ⟨?_, by show zer.length = 64; unfold zer; exact List.length_replicate⟩
    show i3 0 + rd zer (i3 (c : Int)) = i3 0
    rw [rd_i3 (by omega)]
    unfold zer
    rw [List.getD_eq_getElem?_getD, List.getElem?_replicate, if_pos (by omega)]
    rfl
  | succ n ih =>
    intro hl
    obtain ⟨ih1, ih2⟩ := ih (by omega)
    have e : (RL g).take (n + 1) = (RL g).take n ++ [lg (RL g) n] := by
      rw [List.take_add_one, List.getElem?_eq_getElem (by omega)]
      unfold lg
      rw [List.getD_eq_getElem?_getD, List.getElem?_eq_getElem (by omega)]
      rfl
    show (wtF g (RL g) (i3 (t : Int)) n (itr (wtF g (RL g) (i3 (t : Int))) n (i3 0, zer))).1 + rd (wtF g (RL g) (i3 (t : Int)) n (itr (wtF g (RL g) (i3 (t : Int))) n (i3 0, zer))).2 (i3 (c : Int)) = _ ∧ (wtF g (RL g) (i3 (t : Int)) n (itr (wtF g (RL g) (i3 (t : Int))) n (i3 0, zer))).2.length = 64
    rw [e, List.countP_append, List.countP_singleton]
    generalize itr (wtF g (RL g) (i3 (t : Int))) n (i3 0, zer) = A at *
    generalize ((RL g).take n).countP (kP g t c) = N at *
    refine ⟨?_, (wtF_len _ _ _ _ _).trans ih2⟩
    obtain ⟨m, r, hy⟩ := (RL_iff h).mp (lg_mem (L := RL g) (k := n) (by omega))
    have hm := (row_lt h r).1
    have hp12 := pc_le (mb m t)
    have kp : kP g t c (lg (RL g) n) = decide (kQ g t c m) := by
      unfold kP
      rw [hy, cl_i3 (by omega)]
    rw [kp]
    unfold wtF
    rw [hy, but_eq hm (by omega), bct_eq (mb_lt m t)]
    have q3 : (i3 (pc (mb m t) : Int) < i3 3) ↔ pc (mb m t) < 3 := i3n_lt (b := 3) (by omega) (by omega)
    have q2 : (i3 (pc (mb m t) : Int) = i3 2) ↔ pc (mb m t) = 2 := i3n_inj (b := 2) (by omega) (by omega)
    by_cases c3 : pc (mb m t) < 3
    · rw [if_pos (q3.mpr c3)]
      by_cases c2 : pc (mb m t) = 2
      · rw [if_pos (q2.mpr c2)]
        by_cases c4 : ch g t
        · have nk : ¬ kQ g t c m := by rintro (q | q); (· omega); (· exact q.2.1 c4)
          rw [if_pos ((k4 _).mpr c4), decide_eq_false nk, if_neg (by decide)]
          exact ih1
        · rw [if_neg (fun q => c4 ((k4 _).mp q))]
          dsimp only
          obtain ⟨s1, s2, s3, -⟩ := stay2 h (t := t) r (by omega)
          rw [lnA_rd h (mb_lt m t) s1 s2 s3 rfl rfl hc ih2, ← Int32.add_assoc, ih1, i3_add]
          have ek : kQ g t c m ↔ dt (dn g) (cN g (lo (mb m t))) (cN g (lo2 (mb m t))) c = 0 := ⟨fun q => q.elim (fun q => absurd q (by omega)) (fun q => q.2.2), fun q => Or.inr ⟨c2, c4, q⟩⟩
          rw [show decide (kQ g t c m) = decide (dt (dn g) (cN g (lo (mb m t))) (cN g (lo2 (mb m t))) c = 0) from decide_eq_decide.mpr ek]
          cases decide (dt (dn g) (cN g (lo (mb m t))) (cN g (lo2 (mb m t))) c = 0) <;> rfl
      · have nk : ¬ kQ g t c m := by rintro (q | q); (· omega); (· exact c2 q.1)
        rw [if_neg (fun q => c2 (q2.mp q)), decide_eq_false nk, if_neg (by decide)]
        exact ih1
    · have yk : kQ g t c m := Or.inl (by omega)
      rw [if_neg (fun q => c3 (q3.mp q)), decide_eq_true yk, if_pos rfl]
      dsimp only
      rw [Int32.add_assoc, Int32.add_comm (i3 1), ← Int32.add_assoc, ih1]
      exact i3_nat_add _
/-- THE KEY -/
theorem key (h : ok g) {t c : Nat} (ht : t < nn g) (hc : c < dn g * dn g) (hf : tIn g (i3 (c : Int)) = i3 (-1)) : (wT g (RL g) (i3 (t : Int))).1 + rd (wT g (RL g) (i3 (t : Int))).2 (i3 (c : Int)) = V3 (mvT g (i3 (t : Int)) (i3 (c : Int))) := by
  have hn := h.n_le
  have ok' := ok_mvT h (h.T ht) (h.C hc) hf
  have w := (wT_cnt h ht hc (RL g).length (Nat.le_refl _)).1
  rw [List.take_length] at w
  unfold V3
  rw [t3_eq]
  refine w.trans (congrArg (fun n : Nat => i3 (n : Int)) ?_)
  have mrow : ∀ a b, a < nn g → b < nn g → a ≠ t → b ≠ t → _ := fun a b ha hb hat hbt => mv_row h ht hc hf (a := a) (b := b) ha hb hat hbt
  have nr : ∀ a b, rwm (mvT g (i3 (t : Int)) (i3 (c : Int))) a b < 4096 := fun a b => rwm_4096 ok' a b
  have g3 : ∀ M : Nat, M < 4096 → (decide (¬ bct (i3 (M : Int)) < i3 3) = true ↔ 3 ≤ pc M) := fun M hM => by
    have := pc_le M
    have q3 : (i3 (pc M : Int) < i3 3) ↔ pc M < 3 := i3n_lt (b := 3) (by omega) (by omega)
    rw [bct_eq hM, decide_eq_true_eq, q3]
    omega
  have two : ∀ m, kQ g t c m → 2 ≤ pc (mb m t) := fun m q => q.elim (fun q => by omega) (fun q => by omega)
  refine cnt_inj (fun y => rowS (mvT g (i3 (t : Int)) (i3 (c : Int))) (i3 (lo (mb y.toNatClampNeg t) : Int)) (i3 (lo2 (mb y.toNatClampNeg t) : Int))) (RL_nodup h) (RL_nodup ok') ?_ ?_ ?_
  · intro y hy hp
    obtain ⟨m, r, rfl⟩ := (RL_iff h).mp hy
    have hm := (row_lt h r).1
    have hq : kQ g t c m := by
      have := of_decide_eq_true hp
      rw [cl_i3 (by omega)] at this
      exact this
    rw [cl_i3 (by omega)]
    obtain ⟨s1, s2, s3, s4, s5, s6, s7, s8⟩ := stay2 h r (two m hq)
    obtain ⟨w1, w2⟩ := mrow _ _ s1 s2 s4 s5
    rw [rowS_eq ok']
    refine ⟨(RL_iff ok').mpr ⟨_, ⟨_, _, s1, s2, s3, s6, s7, rfl⟩, rfl⟩, ?_⟩
    rw [g3 _ (nr _ _), pc_mb (nr _ _) (show t < 12 by omega), w1, ← s8]
    rcases hq with q | ⟨q1, q2, q3⟩
    · omega
    · rw [w2.mpr ⟨q2, q3⟩, q1]
      exact Nat.le_refl 3
  · intro y hy y' hy' hp hp' e
    obtain ⟨m, r, rfl⟩ := (RL_iff h).mp hy
    obtain ⟨m', r', rfl⟩ := (RL_iff h).mp hy'
    have hm := (row_lt h r).1
    have hm' := (row_lt h r').1
    have hq : kQ g t c m := by
      have := of_decide_eq_true hp
      rw [cl_i3 (by omega)] at this
      exact this
    have hq' : kQ g t c m' := by
      have := of_decide_eq_true hp'
      rw [cl_i3 (by omega)] at this
      exact this
    rw [cl_i3 (by omega), cl_i3 (by omega), rowS_eq ok', rowS_eq ok', i3n_inj (Nat.lt_trans (nr _ _) (by omega)) (Nat.lt_trans (nr _ _) (by omega))] at e
    obtain ⟨s1, s2, s3, s4, s5, s6, s7, s8⟩ := stay2 h r (two m hq)
    obtain ⟨z1, z2, z3, z4', z5, z6, z7, z8⟩ := stay2 h r' (two m' hq')
    have w1 := (mrow _ _ s1 s2 s4 s5).1
    have w2 := (mrow _ _ z1 z2 z4' z5).1
    rw [← s8] at w1
    rw [← z8] at w2
    have em : mb m t = mb m' t := by rw [← w1, ← w2, e]
    rw [s8, z8, em]
  · intro y hy hq
    obtain ⟨M, R, rfl⟩ := (RL_iff ok').mp hy
    have hM := (row_lt ok' R).1
    have p3 := (g3 M hM).mp hq
    have pm := pc_mb hM (show t < 12 by omega)
    have p2 : 2 ≤ pc (mb M t) := by
      have : (M.testBit t).toNat ≤ 1 := by cases M.testBit t <;> decide
      omega
    obtain ⟨s1, s2, s3, s4, s5, s6, s7, s8⟩ := stay2 ok' R p2
    obtain ⟨w1, w2⟩ := mrow _ _ s1 s2 s4 s5
    rw [← s8] at w1 w2
    have hm := rwm_4096 h (i3 (lo (mb M t) : Int)) (i3 (lo2 (mb M t) : Int))
    refine ⟨i3 (rwm g (i3 (lo (mb M t) : Int)) (i3 (lo2 (mb M t) : Int)) : Int), (RL_iff h).mpr ⟨_, ⟨_, _, s1, s2, s3, s6, s7, rfl⟩, rfl⟩, ?_, ?_⟩
    · unfold kP
      rw [cl_i3 (by omega)]
      refine decide_eq_true ?_
      unfold kQ
      rw [← w1]
      cases bt : M.testBit t with
      | true =>
        rw [bt] at pm
        have pm' : pc M = pc (mb M t) + 1 := pm
        by_cases e : pc (mb M t) = 2
        · exact Or.inr ⟨e, (w2.mp bt).1, (w2.mp bt).2⟩
        · exact Or.inl (by omega)
      | false =>
        rw [bt] at pm
        have pm' : pc M = pc (mb M t) := pm
        exact Or.inl (by omega)
    · rw [cl_i3 (by omega), ← w1, rowS_eq ok', ← s8]
/-! ===== improve ===== -/
theorem mT_fb (h : ok g) : mT g (RL g) = fb g V3 := by
  unfold mT fb
  refine itr_congr (fun k a hk => ?_)
  unfold mtF fbF
  by_cases c1 : kOf (kA g (i3 (k : Int))) (i3 1)
  · rw [if_pos c1, if_pos c1]
  rw [if_neg c1, if_neg c1]
  unfold oc
  refine itr_congr (fun q b hq => ?_)
  unfold ocF fcF
  by_cases c2 : tIn g (i3 (q : Int)) = i3 (-1)
  · rw [key h hk hq c2, if_pos c2, if_pos c2]
  · rw [if_neg c2, if_neg c2]
    split <;> rfl
theorem t3_nn (h : ok g) : ¬ t3 (RL g) < i3 (-1) := by
  have hl := RL_len h
  have := List.countP_le_length (p := fun y => decide (¬ bct y < i3 3)) (l := RL g)
  rw [t3_eq, i3_lt ⟨by omega, by omega⟩ ⟨by omega, by omega⟩]
  omega
theorem imp_x (h : ok g) : vImp g = xImp g ∧ gImp g = gxImp g := by
  have hm := fb_P h V3
  have t0 := t3_nn h
  unfold vImp xImp gImp gxImp
  rw [mT_fb h, nT_eq h]
  generalize t3 (RL g) = x at t0
  generalize fb g V3 = a at hm
  by_cases c : a.1 = i3 (-1)
  · rcases hm with e | e
    · rw [if_pos c, if_pos c]
      rw [e]
      dsimp only
      rw [if_neg t0, if_neg t0]
      exact ⟨rfl, rfl⟩
    · exfalso
      have := e.1.1
      rw [c] at this
      exact this (by decide +kernel)
  · rw [if_neg c, if_neg c]
    exact ⟨rfl, rfl⟩
end KK
