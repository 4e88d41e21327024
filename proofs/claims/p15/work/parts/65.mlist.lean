/-! ===== bits of a set, as the reference reads them ===== -/
theorem bv_and1 (v : BitVec 32) : (v &&& 1#32 = 0#32) ↔ v.getLsbD 0 = false := by
  constructor
  · intro h
    have := congrArg (fun w : BitVec 32 => w.getLsbD 0) h
    simpa using this
  · intro h
    apply BitVec.eq_of_getLsbD_eq
    intro i hi
    by_cases e : i = 0
    · subst e; rw [BitVec.getLsbD_and, h]; rfl
    · rw [BitVec.getLsbD_and]
      have : (1#32).getLsbD i = false := by
        rw [BitVec.getLsbD_one]
        simp [e]
      rw [this]
      simp
theorem bit_bv {k : Nat} (hk : k < 31) : (bit (i3 (k : Int))).toBitVec = BitVec.twoPow 32 k := by
  rw [bit_eq hk, i3_bv]
  apply BitVec.eq_of_toNat_eq
  rw [BitVec.toNat_ofNat, BitVec.toNat_twoPow]
theorem and_bit_bv {x : Int32} {k : Nat} (hk : k < 31) : (x &&& bit (i3 (k : Int)) = 0) ↔ x.toBitVec.getLsbD k = false := by
  have e : (x &&& bit (i3 (k : Int)) = 0) ↔ x.toBitVec &&& BitVec.twoPow 32 k = 0#32 := by
    rw [← bit_bv hk, ← Int32.toBitVec_and]
    exact ⟨fun h => by rw [h]; rfl, fun h => Int32.toBitVec_inj.mp (h.trans rfl)⟩
  rw [e]
  constructor
  · intro h
    have := congrArg (fun w : BitVec 32 => w.getLsbD k) h
    simp only [BitVec.getLsbD_and, BitVec.getLsbD_twoPow, BitVec.getLsbD_zero, decide_true, Bool.and_true, show k < 32 by omega] at this
    exact this
  · intro h
    apply BitVec.eq_of_getLsbD_eq
    intro i hi
    rw [BitVec.getLsbD_and, BitVec.getLsbD_twoPow, BitVec.getLsbD_zero]
    by_cases e : k = i
    · subst e; rw [h]; rfl
    · simp [e]
theorem hs_bv {x : Int32} {k : Nat} (hk : k < 31) : hs x (i3 (k : Int)) ↔ x.toBitVec.getLsbD k = true := by
  have ek : (i3 (k : Int) &&& 31).toBitVec.toNat % 32 = k := by
    have : ∀ k : Nat, k < 31 → (i3 (k : Int) &&& 31).toBitVec.toNat % 32 = k := by decide +kernel
    exact this k hk
  have e : (((x >>> (i3 (k : Int) &&& 31)) &&& i3 1) = 0) ↔ (x >>> (i3 (k : Int) &&& 31)).toBitVec &&& 1#32 = 0#32 := by
    rw [show (1#32 : BitVec 32) = (i3 1).toBitVec from by decide +kernel, ← Int32.toBitVec_and]
    exact ⟨fun h => by rw [h]; rfl, fun h => Int32.toBitVec_inj.mp (h.trans rfl)⟩
  unfold hs
  rw [e, bv_and1, Int32.toBitVec_shiftRight]
  have e2 : (x.toBitVec.sshiftRight' ((i3 (k : Int) &&& 31).toBitVec.smod 32)).getLsbD 0 = x.toBitVec.getLsbD k := by
    have e3 : ((i3 (k : Int) &&& 31).toBitVec.smod 32).toNat = k := by
      have : ∀ k : Nat, k < 31 → ((i3 (k : Int) &&& 31).toBitVec.smod 32).toNat = k := by decide +kernel
      exact this k hk
    unfold BitVec.sshiftRight'
    rw [e3, BitVec.getLsbD_sshiftRight]
    simp
    intro h
    omega
  rw [e2]
  simp
theorem hs_iff {x : Int32} {k : Nat} (hk : k < 31) : hs x (i3 (k : Int)) ↔ ¬ (x &&& bit (i3 (k : Int)) = 0) := by
  rw [hs_bv hk, and_bit_bv hk]
  simp
theorem hs_T {g : Gd} (h : ok g) {t : Int32} (ht : isT g t) (x : Int32) : hs x t ↔ ¬ (x &&& bit t = 0) := by
  have b := h.tl ht
  have n := h.n_le
  rw [i3_cl ht.1]
  exact hs_iff (by omega)
theorem sh1 {m k : Nat} (hm : m < 4096) (hk : k < 31) : ((i3 (m : Int) >>> (i3 (k : Int) &&& 31)) &&& i3 1) = i3 (((m.testBit k).toNat : Nat) : Int) := by
  have h := hs_iff (x := i3 (m : Int)) hk
  have h2 := and_bit hm hk
  -- the value is 0 or 1
  have v01 : ∀ y : Int32, y &&& i3 1 = 0 ∨ y &&& i3 1 = i3 1 := fun y => by
    cases hb : y.toBitVec.getLsbD 0 with
    | false =>
      left
      apply Int32.toBitVec_inj.mp
      rw [Int32.toBitVec_and, show (i3 1).toBitVec = 1#32 from by decide +kernel]
      exact ((bv_and1 _).mpr hb).trans rfl
    | true =>
      right
      apply Int32.toBitVec_inj.mp
      rw [Int32.toBitVec_and, show (i3 1).toBitVec = 1#32 from by decide +kernel]
      apply BitVec.eq_of_getLsbD_eq
      intro i hi
      rw [BitVec.getLsbD_and, BitVec.getLsbD_one]
      by_cases e : i = 0
      · subst e; rw [hb]; rfl
      · simp [e]
  cases hb : m.testBit k with
  | false =>
    have : ¬ hs (i3 (m : Int)) (i3 (k : Int)) := fun e => (h.mp e) (h2.mpr hb)
    exact Decidable.not_not.mp this
  | true =>
    have : hs (i3 (m : Int)) (i3 (k : Int)) := h.mpr (fun e => by rw [h2.mp e] at hb; cases hb)
    exact (v01 _).elim (fun e => absurd e this) id
theorem bs_eq {m : Nat} (hm : m < 4096) : bs (i3 (m : Int)) = bct (i3 (m : Int)) := by
  rw [bct_eq hm]
  unfold bs pc
  have key : ∀ n, n ≤ 12 → itr (bsF (i3 (m : Int))) n (i3 0) = i3 (cb (fun t => m.testBit t) n : Int) := by
    intro n
    induction n with
    | zero => intro _; rfl
    | succ n ih =>
      intro hn
      show bsF (i3 (m : Int)) n (itr (bsF (i3 (m : Int))) n (i3 0)) = _
      rw [ih (by omega)]
      unfold bsF
      rw [sh1 hm (by omega), i3_add]
      rfl
  exact key 12 (Nat.le_refl _)
/-! ===== the rows, one by one ===== -/
theorem insA_mem (x : Int32) : ∀ (n : Nat) (a : List Int32) (j : Nat), j ≤ n → n < a.length → (insA x n a)[j]? = some x ∨ ∃ i, i < n ∧ (insA x n a)[j]? = a[i]?
  | 0, a, j, hj, hn => by
    obtain rfl : j = 0 := by omega
    left
    show (a.set 0 x)[0]? = some x
    rw [List.getElem?_set_self hn]
  | n + 1, a, j, hj, hn => by
    unfold insA
    split
    · by_cases e : j = n + 1
      · subst e
        left
        rw [List.getElem?_set_self hn]
      · right
        exact ⟨j, by omega, List.getElem?_set_ne (by omega)⟩
    · by_cases e : j = n + 1
      · subst e
        right
        refine ⟨n, by omega, ?_⟩
        rw [insA_hi x n _ _ (by omega), List.getElem?_set_self hn, List.getD_eq_getElem?_getD, List.getElem?_eq_getElem (by omega)]
        rfl
      · rcases insA_mem x n (a.set (n + 1) (a.getD n 0)) j (by omega) (by rw [List.length_set]; omega) with h | ⟨i, hi, h⟩
        · exact Or.inl h
        · right
          exact ⟨i, by omega, by rw [h, List.getElem?_set_ne (by omega)]⟩
theorem insL_mem {x y : Int32} {L : List Int32} (h : y ∈ insL x L) : y = x ∨ y ∈ L := by
  obtain ⟨j, hj⟩ := List.getElem?_of_mem h
  have hlt := (List.getElem?_eq_some_iff.mp hj).1
  rw [insL_len] at hlt
  unfold insL at hj
  rcases insA_mem x L.length (L ++ [0]) j (by omega) (by rw [List.length_append]; exact Nat.lt_succ_self _) with e | ⟨i, hi, e⟩
  · rw [e] at hj
    exact Or.inl (Option.some.inj hj).symm
  · right
    rw [e, List.getElem?_append_left hi] at hj
    exact List.mem_of_getElem? hj
/-- every row is that of its first two trees -/
theorem RL_mem {g : Gd} {y : Int32} (h : y ∈ RL g) : ∃ i j, i < j ∧ j < nn g ∧ rlC g i j ∧ y = rowS g (i3 (i : Int)) (i3 (j : Int)) := by
  have inner : ∀ (i : Nat) (L : List Int32) (y : Int32) (m : Nat), i + 1 + m ≤ nn g → y ∈ itr (fun m => rlF g i (i + 1 + m)) m L → y ∈ L ∨ ∃ j, i < j ∧ j < nn g ∧ rlC g i j ∧ y = rowS g (i3 (i : Int)) (i3 (j : Int)) := by
    intro i L y m
    induction m with
    | zero => intro _ hy; exact Or.inl hy
    | succ m ih =>
      intro hm hy
      have hy' : y ∈ rlF g i (i + 1 + m) (itr (fun m => rlF g i (i + 1 + m)) m L) := hy
      unfold rlF at hy'
      split at hy'
      · rename_i c
        rcases insL_mem hy' with e | e
        · exact Or.inr ⟨i + 1 + m, by omega, by omega, c, e⟩
        · exact ih (by omega) e
      · exact ih (by omega) hy'
  have outer : ∀ (k : Nat), k ≤ nn g → ∀ y, y ∈ itr (rlI g) k [] → ∃ i j, i < j ∧ j < nn g ∧ rlC g i j ∧ y = rowS g (i3 (i : Int)) (i3 (j : Int)) := by
    intro k
    induction k with
    | zero => intro _ y hy; cases hy
    | succ k ih =>
      intro hk y hy
      have hy' : y ∈ itr (fun m => rlF g k (k + 1 + m)) (nn g - (k + 1)) (itr (rlI g) k []) := hy
      rcases inner k _ y _ (by omega) hy' with e | ⟨j, h1, h2, h3, h4⟩
      · exact ih (by omega) y e
      · exact ⟨k, j, h1, h2, h3, h4⟩
  exact outer (nn g) (Nat.le_refl _) y h
theorem lg_mem {L : List Int32} {k : Nat} (hk : k < L.length) : lg L k ∈ L := by
  unfold lg
  rw [List.getD_eq_getElem?_getD, List.getElem?_eq_getElem hk]
  exact List.getElem_mem hk
theorem RL_mk {g : Gd} (h : ok g) {k : Nat} (hk : k < (RL g).length) : ∃ i j, i < j ∧ j < nn g ∧ lg (RL g) k = i3 (rwm g (i3 (i : Int)) (i3 (j : Int)) : Int) ∧ (rwm g (i3 (i : Int)) (i3 (j : Int))).testBit i = true ∧ (rwm g (i3 (i : Int)) (i3 (j : Int))).testBit j = true ∧ (∀ q, q < j → q ≠ i → (rwm g (i3 (i : Int)) (i3 (j : Int))).testBit q = false) := by
  have hn := h.n_le
  obtain ⟨i, j, h1, h2, h3, h4⟩ := RL_mem (lg_mem hk)
  have hm := rwm_4096 h (i3 (i : Int)) (i3 (j : Int))
  have h3' := (rmC_iff h h1 h2).mp h3
  rw [rmC, rowS_eq h, low_iff hm h1 (by omega)] at h3'
  refine ⟨i, j, h1, h2, h4.trans (rowS_eq h _ _), h3'.2.2.1, ?_, h3'.2.2.2⟩
  rw [rwm_bit _ _ h2]
  unfold rP
  rw [decide_eq_true_eq]
  exact ⟨h3'.2.1, dar_r g _ _⟩
theorem RL_bs {g : Gd} (h : ok g) {k : Nat} (hk : k < (RL g).length) : bs (lg (RL g) k) = bct (lg (RL g) k) := by
  obtain ⟨i, j, -, -, e, -⟩ := RL_mk h hk
  rw [e]
  exact bs_eq (rwm_4096 h _ _)
theorem rowsM.at {s : St} {L : List Int32} (r : rowsM s L) {k : Nat} (hk : k < L.length) : at32 (ia s 66) (i3 (k : Int)) = some (lg L k) := r.2.2.at hk (by have := r.2.1; omega)
theorem rowsM.lt {s : St} {L : List Int32} (r : rowsM s L) {k : Nat} (hk : k < L.length) : ¬ fi s 44 27 ≤ i3 (k : Int) := by
  have := r.2.1
  rw [r.1, i3n_le (by omega) (by omega)]; omega
theorem rowsM.ge {s : St} {L : List Int32} (r : rowsM s L) {k : Nat} (hk : L.length ≤ k) (hk2 : k ≤ 1000) : fi s 44 27 ≤ i3 (k : Int) := by
  have := r.2.1
  rw [r.1, i3n_le (by omega) (by omega)]; omega
theorem r_f (s : St) : gC (H s) 8 44 = some () ∧ gI (H s) 8 44 27 = some (fi s 44 27) ∧ gN (H s) 8 44 26 = some 66 ∧ (∀ i, aI (H s) 66 i = at32 (ia s 66) i) := ⟨rfl, rfl, rfl, fun _ => aI_of rfl⟩
theorem r_g (s : St) : gC (H s) 8 44 = some () ∧ gI (H s) 8 44 9 = some (sD (md s 44)) ∧ gI (H s) 8 44 10 = some (tN (md s 44)) ∧ gI (H s) 8 44 14 = some (wN (md s 44)) ∧ gI (H s) 8 44 16 = some (sE (md s 44)) ∧ gN (H s) 8 44 11 = some 61 ∧ gN (H s) 8 44 12 = some 62 ∧ gN (H s) 8 44 13 = some 63 ∧ gN (H s) 8 44 15 = some 64 ∧ (∀ i, aI (H s) 61 i = at32 (kS (md s 44)) i) ∧ (∀ i, aI (H s) 62 i = at32 (cS (md s 44)) i) ∧ (∀ i, aI (H s) 63 i = at32 (vS (md s 44)) i) ∧ (∀ i, aI (H s) 64 i = at32 (wS (md s 44)) i) := ⟨rfl, rfl, rfl, rfl, rfl, rfl, rfl, rfl, rfl, fun _ => aI_of rfl, fun _ => aI_of rfl, fun _ => aI_of rfl, fun _ => aI_of rfl⟩
theorem add0 (m : Int32) : m + Int32.ofInt 0 = m := Int32.add_zero m
theorem or0 (m : Int32) : m ||| Int32.ofInt 0 = m := Int32.or_zero
section ML
variable {s : St}
/-- only rows are found -/
noncomputable def eF (s s' : St) : Prop := sc s s' ∧ (∀ o k, ¬ (o = 44 ∧ k = 27) → fi s' o k = fi s o k)
theorem q_242 (h : ok (md s 44)) (z : Sz s) {t : Int32} (ht : isT (md s 44) t) (q : Int32) : ∃ s', m_242 44 t q (H s) = some (cw (RL (md s 44)) t q, H s') ∧ eF s s' := by
  obtain ⟨s1, e1, c1, r1, f1⟩ := q_240 h z
  refine ⟨s1, ?_, c1, f1⟩
  have hl := RL_len h
  unfold m_242
  rw [(r_m s).1, Option.bind_some, e1, Option.bind_some]
  refine (lp0 (RL (md s 44)).length (by omega) (fun t a => (a, t)) (fun a => a) (cwF (RL (md s 44)) t q) (fun _ => True) (i3 0) ?_ (fun _ _ _ _ => trivial) ?_ trivial).trans rfl
  · intro k m nx ex hk _
    have e := hs_T h ht (lg (RL (md s 44)) k)
    simp only [r_f, Option.bind_some, if_neg (r1.lt hk), r1.at hk, q_195, q_196, RL_bs h hk, jn, bP_if, add0]
    unfold cwF
    by_cases c : lg (RL (md s 44)) k &&& bit t = 0
    · rw [if_neg (fun e' => (e.mp e') c), if_pos c]
    · rw [if_pos (e.mpr c), if_neg c]
      by_cases c2 : bct (lg (RL (md s 44)) k) < q
      · rw [if_pos c2, if_pos c2]
      · rw [if_neg c2, if_neg c2]
  · intro a nx ex _
    simp only [r_f, Option.bind_some, if_pos (r1.ge (Nat.le_refl _) (show (RL (md s 44)).length ≤ 1000 by omega))]
noncomputable def t3F (L : List Int32) (k : Nat) (m : Int32) : Int32 := if bct (lg L k) < i3 3 then m else m + i3 1
noncomputable def t3 (L : List Int32) : Int32 := itr (t3F L) L.length (i3 0)
theorem q_243 (h : ok (md s 44)) (z : Sz s) : ∃ s', m_243 44 (H s) = some (t3 (RL (md s 44)), H s') ∧ eF s s' := by
  obtain ⟨s1, e1, c1, r1, f1⟩ := q_240 h z
  refine ⟨s1, ?_, c1, f1⟩
  have hl := RL_len h
  unfold m_243
  rw [(r_m s).1, Option.bind_some, e1, Option.bind_some]
  refine (lp0 (RL (md s 44)).length (by omega) (fun t a => (a, t)) (fun a => a) (t3F (RL (md s 44))) (fun _ => True) (i3 0) ?_ (fun _ _ _ _ => trivial) ?_ trivial).trans rfl
  · intro k m nx ex hk _
    simp only [r_f, Option.bind_some, if_neg (r1.lt hk), r1.at hk, q_196, RL_bs h hk, jn, add0]
    unfold t3F
    split <;> rfl
  · intro a nx ex _
    simp only [r_f, Option.bind_some, if_pos (r1.ge (Nat.le_refl _) (show (RL (md s 44)).length ≤ 1000 by omega))]
end ML
