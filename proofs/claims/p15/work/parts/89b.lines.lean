/-! ===== the rows, each once; counted ===== -/
section LI
variable {g : Gd}
theorem pair_inj (h : ok g) {i j i' j' : Nat} (hj : j < nn g) (hij : i < j) (hj' : j' < nn g) (hij' : i' < j') (c : rlC g i j) (c' : rlC g i' j') (e : rowS g (i3 (i : Int)) (i3 (j : Int)) = rowS g (i3 (i' : Int)) (i3 (j' : Int))) : i = i' ∧ j = j' := by
  have hn := h.n_le
  have a := c.1
  have b := c.2
  rw [e] at a b
  have a2 := a.symm.trans c'.1
  have b2 := b.symm.trans c'.2
  exact ⟨(i3n_inj (by omega) (by omega)).mp a2, (i3n_inj (by omega) (by omega)).mp b2⟩
theorem RC_nodup (h : ok g) : (RC g).Nodup := by
  have inner : ∀ (i n : Nat), i + 1 + n ≤ nn g → ∀ (L : List Int32), L.Nodup → (∀ y ∈ L, ∃ i' j', i' < i ∧ i' < j' ∧ j' < nn g ∧ rlC g i' j' ∧ y = rowS g (i3 (i' : Int)) (i3 (j' : Int))) → (itr (fun k => rcF g i (i + 1 + k)) n L).Nodup := by
    intro i n
    induction n with
    | zero => intro _ L hL _; exact hL
    | succ n ih =>
      intro hn L hL hm
      have ih' := ih (by omega) L hL hm
      have key : rlC g i (i + 1 + n) → rowS g (i3 (i : Int)) (i3 ((i + 1 + n : Nat) : Int)) ∉ itr (fun k => rcF g i (i + 1 + k)) n L := fun c hin => by
        rcases (rcin_mem i n L).mp hin with h1 | ⟨k, h1, h2, h3⟩
        · obtain ⟨i', j', q1, q2, q3, q4, q5⟩ := hm _ h1
          have := pair_inj h (by omega) (by omega) q3 q2 c q4 q5
          omega
        · have := pair_inj h (by omega) (by omega) (by omega) (by omega) c h2 h3
          omega
      show (rcF g i (i + 1 + n) (itr (fun k => rcF g i (i + 1 + k)) n L)).Nodup
      generalize itr (fun k => rcF g i (i + 1 + k)) n L = M at ih' key
      unfold rcF
      split
      · rename_i c
        exact List.nodup_cons.mpr ⟨key c, ih'⟩
      · exact ih'
  have outer : ∀ n, n ≤ nn g → (itr (rcI g) n []).Nodup := by
    intro n
    induction n with
    | zero => intro _; exact List.nodup_nil
    | succ n ih =>
      intro hn
      exact inner n (nn g - (n + 1)) (by omega) _ (ih (by omega)) (fun y hy => (rcout_mem n (by omega)).mp hy)
  exact outer (nn g) (Nat.le_refl _)
theorem RL_nodup (h : ok g) : (RL g).Nodup := (RL_perm g).nodup_iff.mpr (RC_nodup h)
theorem RL_mem' {y : Int32} : y ∈ RL g ↔ ∃ i j, i < j ∧ j < nn g ∧ rlC g i j ∧ y = rowS g (i3 (i : Int)) (i3 (j : Int)) := (RL_perm g).mem_iff.trans RC_mem
/-- the first of a set, and the second -/
theorem two_of {m a b : Nat} (hab : a ≠ b) (ha : a < 12) (hb : b < 12) (h1 : m.testBit a = true) (h2 : m.testBit b = true) : ∃ i j, i < j ∧ j < 12 ∧ m.testBit i = true ∧ m.testBit j = true ∧ ∀ q, q < j → q ≠ i → m.testBit q = false := by
  obtain ⟨i, hi⟩ : ∃ i, fst? (fun t => m.testBit t) 12 0 = some i := by
    cases hf : fst? (fun t => m.testBit t) 12 0 with
    | none => have := fst?_none hf a (Nat.zero_le _) (by omega); rw [h1] at this; cases this
    | some i => exact ⟨i, rfl⟩
  obtain ⟨-, i2, i3', i4⟩ := fst?_some hi
  have i3'' : m.testBit i = true := i3'
  have lo' : ∀ c, c < 12 → m.testBit c = true → i ≤ c := fun c _ hc => by
    refine Classical.byContradiction fun hn => ?_
    have := i4 c (Nat.zero_le _) (by omega)
    rw [hc] at this; cases this
  obtain ⟨c, c1, c2, c3⟩ : ∃ c, i < c ∧ c < 12 ∧ m.testBit c = true := by
    have a1 := lo' a ha h1
    have b1 := lo' b hb h2
    by_cases e : i = a
    · exact ⟨b, by omega, hb, h2⟩
    · exact ⟨a, by omega, ha, h1⟩
  obtain ⟨j, hj⟩ : ∃ j, fst? (fun t => m.testBit t) (12 - (i + 1)) (i + 1) = some j := by
    cases hf : fst? (fun t => m.testBit t) (12 - (i + 1)) (i + 1) with
    | none => have := fst?_none hf c (by omega) (by omega); rw [c3] at this; cases this
    | some j => exact ⟨j, rfl⟩
  obtain ⟨j1, j2, j3, j4⟩ := fst?_some hj
  refine ⟨i, j, by omega, by omega, i3', j3, fun q hq hqi => ?_⟩
  by_cases e : q < i
  · exact i4 q (Nat.zero_le _) e
  · exact j4 q (by omega) hq
theorem RL_iff (h : ok g) {y : Int32} : y ∈ RL g ↔ ∃ m, isRow g m ∧ y = i3 (m : Int) := by
  have hn := h.n_le
  rw [RL_mem']
  constructor
  · rintro ⟨i, j, h1, h2, h3, h4⟩
    have h3' := (rmC_iff h h1 h2).mp h3
    exact ⟨rwm g (i3 (i : Int)) (i3 (j : Int)), ⟨i, j, by omega, h2, by omega, h3'.1, h3'.2.1, rfl⟩, by rw [h4, rowS_eq h]⟩
  · rintro ⟨m, r, rfl⟩
    obtain ⟨a, b, ha, hb, hab, ca, cb', hm⟩ := id r
    have ab := row_ab h ha hb ca cb'
    rw [← hm] at ab
    obtain ⟨i, j, h1, h2, h3, h4, h5⟩ := two_of hab (by omega) (by omega) ab.1 ab.2
    obtain ⟨e, ki, kj, c1, c2⟩ := row_two h r (k := i) (l := j) (by omega) h3 h4
    refine ⟨i, j, h1, kj, (rmC_iff h h1 kj).mpr ⟨c1, c2, ?_⟩, by rw [e, rowS_eq h]⟩
    rw [rowS_eq h, ← e, low_iff (by rw [e]; exact rwm_4096 h _ _) h1 h2]
    exact ⟨h3, h5⟩
theorem row_lt (h : ok g) {m : Nat} (r : isRow g m) : m < 4096 ∧ m < 2 ^ nn g := by
  obtain ⟨a, b, -, -, -, -, -, rfl⟩ := r
  exact ⟨rwm_4096 h _ _, rwm_lt _ _ _⟩
/-- rows counted: by sets of trees -/
noncomputable def cR (g : Gd) (P : Int32 → Bool) : Nat := (RL g).countP P
theorem itr_cnt {L : List Int32} {P : Int32 → Bool} {F : Nat → Int32 → Int32} (hF : ∀ k m, F k m = if P (lg L k) = true then m + i3 1 else m) : ∀ n, n ≤ L.length → itr F n (i3 0) = i3 ((L.take n).countP P : Int)
  | 0, _ => rfl
  | n + 1, hn => by
    show F n (itr F n (i3 0)) = _
    have e : L.take (n + 1) = L.take n ++ [lg L n] := by
      rw [List.take_add_one, List.getElem?_eq_getElem (by omega)]
      unfold lg
      rw [List.getD_eq_getElem?_getD, List.getElem?_eq_getElem (by omega)]
      rfl
    rw [itr_cnt hF n (by omega), hF, e, List.countP_append, List.countP_singleton]
    by_cases c : P (lg L n) = true
    · rw [if_pos c, if_pos c]
      exact i3_nat_add _
    · rw [if_neg c, if_neg c]
      rfl
theorem itr_cntL {L : List Int32} {P : Int32 → Bool} {F : Nat → Int32 → Int32} (hF : ∀ k m, F k m = if P (lg L k) = true then m + i3 1 else m) : itr F L.length (i3 0) = i3 (L.countP P : Int) := by
  rw [itr_cnt hF L.length (Nat.le_refl _), List.take_length]
theorem t3_eq (L : List Int32) : t3 L = i3 (L.countP (fun y => decide (¬ bct y < i3 3)) : Int) := itr_cntL (fun k m => by
  unfold t3F
  by_cases c : bct (lg L k) < i3 3
  · rw [if_pos c, if_neg (by simp [c])]
  · rw [if_neg c, if_pos (by simp [c])])
theorem co_eq (L : List Int32) (q : Int32) : co L q = i3 (L.countP (fun y => decide (bct y = q)) : Int) := itr_cntL (fun k m => by
  unfold coF
  by_cases c : bct (lg L k) = q
  · rw [if_pos c, if_pos (by simp [c])]
  · rw [if_neg c, if_neg (by simp [c])])
/-- counted by another list -/
theorem cnt_inj {L1 L2 : List Int32} (f : Int32 → Int32) (n1 : L1.Nodup) (n2 : L2.Nodup) {P Q : Int32 → Bool} (h1 : ∀ a ∈ L1, P a = true → f a ∈ L2 ∧ Q (f a) = true) (inj : ∀ a ∈ L1, ∀ b ∈ L1, P a = true → P b = true → f a = f b → a = b) (h2 : ∀ b ∈ L2, Q b = true → ∃ a ∈ L1, P a = true ∧ f a = b) : L1.countP P = L2.countP Q := by
  rw [List.countP_eq_length_filter, List.countP_eq_length_filter]
  have m : ((L1.filter P).map f).Nodup := by
    rw [List.nodup_iff_pairwise_ne, List.pairwise_map]
    refine List.Pairwise.imp_of_mem ?_ (List.nodup_iff_pairwise_ne.mp (n1.filter P))
    intro a b ha hb hne e
    rw [List.mem_filter] at ha hb
    exact hne (inj a ha.1 b hb.1 ha.2 hb.2 e)
  have k := (List.perm_ext_iff_of_nodup m (n2.filter Q)).mpr (fun y => by
    rw [List.mem_map, List.mem_filter]
    constructor
    · rintro ⟨a, ha, rfl⟩
      rw [List.mem_filter] at ha
      exact h1 a ha.1 ha.2
    · rintro ⟨hy, hq⟩
      obtain ⟨a, ha, hp, e⟩ := h2 y hy hq
      exact ⟨a, List.mem_filter.mpr ⟨ha, hp⟩, e⟩)
  have := k.length_eq
  rw [List.length_map] at this
  exact this
/-- every row has two trees -/
theorem pc_two {m a b : Nat} (hab : a ≠ b) (ha : a < 12) (hb : b < 12) (h1 : m.testBit a = true) (h2 : m.testBit b = true) : 2 ≤ pc m := by
  have key : ∀ n, a < n → b < n → 2 ≤ cb (fun t => m.testBit t) n := by
    intro n
    induction n with
    | zero => intro h; omega
    | succ n ih =>
      intro ha hb
      show 2 ≤ cb (fun t => m.testBit t) n + (m.testBit n).toNat
      have one : ∀ c k, c < k → m.testBit c = true → 1 ≤ cb (fun t => m.testBit t) k := by
        intro c k
        induction k with
        | zero => intro h; omega
        | succ k ihk =>
          intro hc h
          show 1 ≤ cb (fun t => m.testBit t) k + (m.testBit k).toNat
          by_cases e : c = k
          · subst e; rw [h]; show 1 ≤ _ + 1; omega
          · have := ihk (by omega) h; omega
      by_cases ea : a = n
      · subst ea
        have := one b a (by omega) h2
        rw [h1]; show 2 ≤ _ + 1; omega
      · by_cases eb : b = n
        · subst eb
          have := one a b (by omega) h1
          rw [h2]; show 2 ≤ _ + 1; omega
        · have := ih (by omega) (by omega); omega
  exact key 12 ha hb
theorem row_pc (h : ok g) {m : Nat} (r : isRow g m) : 2 ≤ pc m := by
  have hn := h.n_le
  obtain ⟨a, b, ha, hb, hab, ca, cb', hm⟩ := r
  have ab := row_ab h ha hb ca cb'
  rw [← hm] at ab
  exact pc_two hab (by omega) (by omega) ab.1 ab.2
/-- how many rows of three or more there are -/
theorem nT_eq (h : ok g) : nT (RL g) = t3 (RL g) := by
  have hl := RL_len h
  unfold nT
  rw [co_eq, t3_eq, i3_sub]
  congr 1
  have e : (RL g).countP (fun y => decide (¬ bct y < i3 3)) = (RL g).countP (fun y => !decide (bct y = i3 2)) := List.countP_congr (fun y hy => by
    obtain ⟨m, r, rfl⟩ := (RL_iff h).mp hy
    have h2 := row_pc h r
    have h3 := pc_le m
    rw [bct_eq (row_lt h r).1]
    have a : (i3 (pc m : Int) < i3 3) ↔ pc m < 3 := i3n_lt (b := 3) (by omega) (by omega)
    have b : (i3 (pc m : Int) = i3 2) ↔ pc m = 2 := i3n_inj (b := 2) (by omega) (by omega)
    simp only [a, b, decide_eq_true_eq, Bool.not_eq_true', decide_eq_false_iff_not]
    omega)
  have k := List.length_eq_countP_add_countP (fun y => decide (bct y = i3 2)) (l := RL g)
  have k2 : (RL g).length = (RL g).countP (fun y => decide (bct y = i3 2)) + (RL g).countP (fun y => !decide (bct y = i3 2)) := by
    rw [k]
    congr 1
    exact List.countP_congr (fun y _ => by simp)
  rw [e, k2]
  omega
end LI
