/-- the numbers lie in the box -/
def oIn (cell : List (Int32 × Int32)) (v : Nat → Int32) : Prop := ∀ (k : Nat) (q : Int32 × Int32), cell[k]? = some q → q.1 ≤ v k ∧ v k ≤ q.2
theorem oB_of {cell : List (Int32 × Int32)} {v : Nat → Int32} {w : Int64} (hv : oIn cell v) {x : Value} {p : Int32 × Int32} (h : oB cell x = some p) : ∃ a, oV v w x = .int a ∧ p.1 ≤ a ∧ a ≤ p.2 := by
  cases x with
  | int a => cases h; exact ⟨a, rfl, Int32.le_refl _, Int32.le_refl _⟩
  | float b => exact ⟨_, rfl, hv _ _ h⟩
  | _ => cases h
theorem oCmp_of {c : Jvm.ClassFile.Cond} {p q : Int32 × Int32} {a b : Int32} {z : Bool} (h : oCmp c p q = some z) (h1 : p.1 ≤ a) (h2 : a ≤ p.2) (h3 : q.1 ≤ b) (h4 : b ≤ q.2) : t_icmp c a b = z := by
  rw [Int32.le_iff_toInt_le] at h1 h2 h3 h4
  cases c
  · simp only [oCmp] at h
    split at h
    · rename_i g
      cases h
      simp only [t_icmp, decide_eq_false_iff_not]
      intro e
      subst e
      rw [Int32.lt_iff_toInt_lt, Int32.lt_iff_toInt_lt] at g
      omega
    · split at h
      · rename_i g
        cases h
        simp only [t_icmp, decide_eq_true_eq]
        apply Int32.toInt_inj.mp
        obtain ⟨g1, g2, g3⟩ := g
        rw [← g1] at h2
        rw [← g2] at h4
        rw [g3] at h1 h2
        omega
      · cases h
  · simp only [oCmp] at h
    split at h
    · rename_i g
      cases h
      simp only [t_icmp, Bool.not_eq_true', decide_eq_false_iff_not]
      intro e
      subst e
      rw [Int32.lt_iff_toInt_lt, Int32.lt_iff_toInt_lt] at g
      omega
    · split at h
      · rename_i g
        cases h
        simp only [t_icmp, Bool.not_eq_false', decide_eq_true_eq]
        apply Int32.toInt_inj.mp
        obtain ⟨g1, g2, g3⟩ := g
        rw [← g1] at h2
        rw [← g2] at h4
        rw [g3] at h1 h2
        omega
      · cases h
  all_goals
    simp only [oCmp] at h
    split at h
    · rename_i g
      cases h
      simp only [t_icmp, decide_eq_true_eq]
      first
        | (rw [Int32.lt_iff_toInt_lt] at g ⊢; omega)
        | (rw [Int32.le_iff_toInt_le] at g ⊢; omega)
    · split at h
      · rename_i g
        cases h
        simp only [t_icmp, decide_eq_false_iff_not]
        first
          | (rw [Int32.lt_iff_toInt_lt] at g; rw [Int32.le_iff_toInt_le]; omega)
          | (rw [Int32.le_iff_toInt_le] at g; rw [Int32.lt_iff_toInt_lt]; omega)
      · cases h
theorem oJ_of {cell : List (Int32 × Int32)} {v : Nat → Int32} {w : Int64} (hv : oIn cell v) {x : Value} {p : Int64 × Int64} (h : oJ cell x = some p) : ∃ a, oV v w x = .long a ∧ p.1 ≤ a ∧ a ≤ p.2 := by
  cases x with
  | long a => cases h; exact ⟨a, rfl, Int64.le_refl _, Int64.le_refl _⟩
  | double b =>
    simp only [oJ] at h
    split at h
    · rename_i hb
      cases hc : cell[b.toNat]? with
      | none => rw [hc] at h; cases h
      | some q =>
        rw [hc] at h
        cases h
        have := hv _ _ hc
        refine ⟨(v b.toNat).toInt64, ?_, ?_, ?_⟩
        · show (if b.toNat < 100 then Value.long (v b.toNat).toInt64 else Value.long w) = _
          rw [if_pos hb]
        · rw [Int64.le_iff_toInt_le, Int32.toInt_toInt64, Int32.toInt_toInt64]
          exact Int32.le_iff_toInt_le.mp this.1
        · rw [Int64.le_iff_toInt_le, Int32.toInt_toInt64, Int32.toInt_toInt64]
          exact Int32.le_iff_toInt_le.mp this.2
    · cases h
  | _ => cases h
theorem oLcmp_of {p q : Int64 × Int64} {a b : Int64} {z : Int32} (h : oLcmp p q = some z) (h1 : p.1 ≤ a) (h2 : a ≤ p.2) (h3 : q.1 ≤ b) (h4 : b ≤ q.2) : lg_cmp a b = z := by
  rw [Int64.le_iff_toInt_le] at h1 h2 h3 h4
  unfold lg_cmp
  unfold oLcmp at h
  split at h
  · rename_i g
    cases h
    rw [Int64.lt_iff_toInt_lt] at g
    rw [if_neg (by show ¬ b < a; rw [Int64.lt_iff_toInt_lt]; omega), if_neg (fun e => by subst e; omega)]
  · split at h
    · rename_i g
      cases h
      rw [Int64.lt_iff_toInt_lt] at g
      rw [if_pos (by show b < a; rw [Int64.lt_iff_toInt_lt]; omega)]
    · split at h
      · rename_i g
        cases h
        obtain ⟨g1, g2, g3⟩ := g
        rw [← g1] at h2
        rw [← g2] at h4
        rw [g3] at h1 h2
        have e : a = b := Int64.toInt_inj.mp (by omega)
        rw [if_neg (by show ¬ b < a; rw [Int64.lt_iff_toInt_lt]; omega), if_pos e]
      · cases h
section OS
variable {cell : List (Int32 × Int32)} {v : Nat → Int32} {w : Int64} {pc a1 a2 nL pc' cat : Nat} {lv lv' : tL} {st st' : List Value} {ins : Instr} {th th' : tH}
theorem oV_fl (v : Nat → Int32) (w : Int64) (b : UInt32) : oV v w (.float b) = .int (v b.toNat) := rfl
set_option maxHeartbeats 4000000 in
theorem oS_of (hv : oIn cell v) (hs : oS cell ins pc a1 nL lv st = some (pc', lv', st')) : t_P ins pc a1 nL (oL v w lv) (st.map (oV v w)) = some (pc', oL v w lv', st'.map (oV v w)) := by
  cases ins
  case iload_n n =>
    simp only [oS] at hs
    split at hs
    · rename_i b hg
      cases hs
      simp only [t_P, t_gI]
      rw [oL_get hg]
      rfl
    · cases hs
  case iload n =>
    simp only [oS] at hs
    split at hs
    · rename_i b hg
      cases hs
      simp only [t_P, t_gI]
      rw [oL_get hg]
      rfl
    · cases hs
  case istore_n n =>
    simp only [oS] at hs
    split at hs
    · rename_i b r
      obtain ⟨h0, hs3⟩ := t_if_of hs
      cases hs3
      show (if n.val < nL then some (pc + 1, t_set1 (oL v w lv) n.val (.int (v b.toNat)), st'.map (oV v w)) else none) = _
      rw [if_pos h0, ← oL_set1]
      rfl
    · cases hs
  case istore n =>
    simp only [oS] at hs
    split at hs
    · rename_i b r
      obtain ⟨h0, hs3⟩ := t_if_of hs
      cases hs3
      show (if n < nL then some (pc + 2, t_set1 (oL v w lv) n (.int (v b.toNat)), st'.map (oV v w)) else none) = _
      rw [if_pos h0, ← oL_set1]
      rfl
    · cases hs
  case lload_n n =>
    simp only [oS] at hs
    split at hs
    · rename_i b hg
      cases hs
      simp only [t_P, t_gJ]
      rw [oL_get hg]
      unfold oV
      dsimp only
      by_cases hb : b.toNat < 100
      · simp [hb, oV]
      · simp [hb, oV]
    · cases hs
  case lload n =>
    simp only [oS] at hs
    split at hs
    · rename_i b hg
      cases hs
      simp only [t_P, t_gJ]
      rw [oL_get hg]
      unfold oV
      dsimp only
      by_cases hb : b.toNat < 100
      · simp [hb, oV]
      · simp [hb, oV]
    · cases hs
  case i2l =>
    simp only [oS] at hs
    split at hs
    · rename_i b r
      obtain ⟨h0, hs3⟩ := t_if_of hs
      cases hs3
      have e0 : ∀ j, j < 100 → (UInt64.ofNat j).toNat = j := by decide +kernel
      have e := e0 b.toNat h0
      show some (pc + 1, oL v w lv, Value.long (v b.toNat).toInt64 :: r.map (oV v w)) = some (pc + 1, oL v w lv, (oV v w (.double (UInt64.ofNat b.toNat))) :: r.map (oV v w))
      simp only [oV, e, h0, if_true]
    · cases hs
  case iand =>
    simp only [oS] at hs
    split at hs
    · rename_i y b r
      obtain ⟨h0, hs3⟩ := t_if_of hs
      cases hs3
      subst h0
      show some (pc + 1, oL v w lv, Value.int (v b.toNat &&& -1) :: r.map (oV v w)) = some (pc + 1, oL v w lv, Value.int (v b.toNat) :: r.map (oV v w))
      rw [Int32.and_neg_one]
    · cases hs
  case ishr =>
    simp only [oS] at hs
    split at hs
    · rename_i y b r
      obtain ⟨h0, hs3⟩ := t_if_of hs
      cases hs3
      subst h0
      show some (pc + 1, oL v w lv, Value.int (v b.toNat >>> ((0 : Int32) &&& 31)) :: r.map (oV v w)) = some (pc + 1, oL v w lv, Value.int (v b.toNat) :: r.map (oV v w))
      rw [Int32.zero_and, Int32.shiftRight_zero]
    · cases hs
  case lcmp =>
    simp only [oS] at hs
    split at hs
    · rename_i y x r
      split at hs
      · rename_i p hp
        split at hs
        · rename_i q hq
          cases hz : oLcmp p q with
          | none => rw [hz] at hs; cases hs
          | some z =>
            rw [hz] at hs
            cases hs
            obtain ⟨a, e1, e2, e3⟩ := oJ_of (w := w) hv hp
            obtain ⟨b, f1, f2, f3⟩ := oJ_of (w := w) hv hq
            show t_j2 (oV v w y :: oV v w x :: r.map (oV v w)) _ = _
            rw [e1, f1]
            show some (pc + 1, oL v w lv, Value.int (lg_cmp a b) :: r.map (oV v w)) = _
            rw [oLcmp_of hz e2 e3 f2 f3]
            rfl
        · cases hs
      · cases hs
    · cases hs
  case if_icmp c o =>
    simp only [oS] at hs
    split at hs
    · rename_i y x r
      split at hs
      · rename_i p hp
        split at hs
        · rename_i q hq
          cases hz : oCmp c p q with
          | none => rw [hz] at hs; cases hs
          | some z =>
            rw [hz] at hs
            cases hs
            obtain ⟨a, e1, e2, e3⟩ := oB_of (w := w) hv hp
            obtain ⟨b, f1, f2, f3⟩ := oB_of (w := w) hv hq
            show t_i2 (oV v w y :: oV v w x :: st'.map (oV v w)) _ = _
            rw [e1, f1]
            show some (if t_icmp c a b = true then a1 else pc + 3, oL v w lv, st'.map (oV v w)) = _
            rw [oCmp_of hz e2 e3 f2 f3]
        · cases hs
      · cases hs
    · cases hs
  case ifCond c o =>
    simp only [oS] at hs
    split at hs
    · rename_i x r
      split at hs
      · rename_i p hp
        cases hz : oCmp c p (0, 0) with
        | none => rw [hz] at hs; cases hs
        | some z =>
          rw [hz] at hs
          cases hs
          obtain ⟨a, e1, e2, e3⟩ := oB_of (w := w) hv hp
          show t_i1 (oV v w x :: st'.map (oV v w)) _ = _
          rw [e1]
          show some (if t_icmp c a 0 = true then a1 else pc + 3, oL v w lv, st'.map (oV v w)) = _
          rw [oCmp_of hz e2 e3 (Int32.le_refl _) (Int32.le_refl _)]
      · cases hs
    · cases hs
  case tableswitch d lo hi offs =>
    simp only [oS] at hs
    split at hs
    · rename_i b r
      split at hs
      · rename_i q hq
        split at hs
        · rename_i hc
          obtain ⟨g1, g2⟩ := hv _ _ hq
          rw [Int32.le_iff_toInt_le] at g1 g2
          show (if (v b.toNat).toInt < lo ∨ hi < (v b.toNat).toInt then (t_go pc d).map (fun t => (t, oL v w lv, r.map (oV v w))) else _) = _
          rw [if_pos (by omega)]
          cases hg : t_go pc d with
          | none => rw [hg] at hs; cases hs
          | some t => rw [hg] at hs; cases hs; rfl
        · cases hs
      · cases hs
    · cases hs
  all_goals cases hs
theorem oP_of (hv : oIn cell v) (hs : oP cell ins pc a1 nL lv st = some (pc', lv', st')) : t_P ins pc a1 nL (oL v w lv) (st.map (oV v w)) = some (pc', oL v w lv', st'.map (oV v w)) := by
  unfold oP at hs
  split at hs
  · rename_i r hr
    cases hs
    exact t_P_map v w hr
  · exact oS_of hv hs
theorem oH_get {k : Nat} {e : tE} (h : th[k]? = some e) : (oH v w th)[k]? = some (oC v w e) := by
  unfold oH
  rw [List.getElem?_map, h]
  rfl
theorem oH_set (k : Nat) (e : tE) : (oH v w th).set k (oC v w e) = oH v w (th.set k e) := by
  unfold oH
  rw [List.map_set]
theorem oH_len : (oH v w th).length = th.length := List.length_map ..
theorem oE_T {k : Nat} (h : oU (oT k) = some k) : oE v (oT k) = v k := by
  unfold oE
  rw [h]
theorem oE_id {x : Int32} (h : oU x = none) : oE v x = x := by
  unfold oE
  rw [h]
theorem oU_lt {x : Int32} {j : Nat} (h : oU x = some j) : j < 6 := by
  unfold oU at h
  repeat' split at h
  all_goals (cases h; try omega)
theorem oE_rd (v : Nat → Int32) (w : Int64) (x : Int32) : oV v w (oRd x) = .int (oE v x) := by
  unfold oE oRd
  cases h : oU x with
  | none => rfl
  | some j =>
    have hj := oU_lt h
    have e : ∀ j, j < 6 → (UInt32.ofNat j).toNat = j := by decide
    show Value.int (v (UInt32.ofNat j).toNat) = Value.int (v j)
    rw [e j hj]
set_option maxHeartbeats 4000000 in
theorem oR_of (hs : oR cat ins pc a1 a2 st th = some (pc', st')) : t_R none cat ins pc a1 a2 (st.map (oV v w)) (oH v w th) = some (pc', st'.map (oV v w)) := by
  cases ins
  case iaload =>
    simp only [oR] at hs
    obtain ⟨k, i, r, e1, hs2⟩ := t_ri_of hs
    subst e1
    clear hs
    split at hs2
    · cases hs2
    rename_i hk
    split at hs2
    · rename_i d a hth
      split at hs2
      · rename_i hd
        cases hx : a[i.toNatClampNeg]? with
        | none => rw [hx] at hs2; cases hs2
        | some x =>
          rw [hx] at hs2
          cases hs2
          show (if k = 1000 then _ else match (oH v w th)[k]? with | some (.inl (d, .inl a)) => if d = 0 ∧ ¬ i < 0 then (a[i.toNatClampNeg]?).map (fun x => (pc + 1, Value.int x :: r.map (oV v w))) else none | _ => none) = _
          rw [if_neg hk, oH_get hth]
          show (if d = 0 ∧ ¬ i < 0 then ((a.map (oE v))[i.toNatClampNeg]?).map (fun x => (pc + 1, Value.int x :: r.map (oV v w))) else none) = _
          rw [if_pos hd, List.getElem?_map, hx, List.map_cons, oE_rd]
          rfl
      · cases hs2
    · cases hs2
  case getfield n =>
    simp only [oR, t_R] at hs
    obtain ⟨k, r, e1, hs2⟩ := t_r1_of hs
    subst e1
    clear hs
    show (if cat = 3 then match (oH v w th)[k]? with | some (.inr (c, fs)) => if c = a1 then (fs[a2]?).map (fun x => (pc + 3, x :: r.map (oV v w))) else none | _ => none else if 1001 ≤ k ∧ k < 1011 then some (pc + 3, (if a2 = 0 then Value.int 0 else Value.ref (k + 20)) :: r.map (oV v w)) else none) = _
    split at hs2
    · rename_i hc
      rw [if_pos hc]
      split at hs2
      · rename_i cx fs hth
        rw [oH_get hth]
        split at hs2
        · rename_i hca
          cases hx : fs[a2]? with
          | none => rw [hx] at hs2; cases hs2
          | some x =>
            rw [hx] at hs2
            cases hs2
            show (if cx = a1 then ((fs.map (oV v w))[a2]?).map (fun x => (pc + 3, x :: r.map (oV v w))) else none) = _
            rw [if_pos hca, List.getElem?_map, hx]
            rfl
        · cases hs2
      · cases hs2
    · rename_i hc
      rw [if_neg hc]
      obtain ⟨h0, hs3⟩ := t_if_of hs2
      cases hs3
      rw [if_pos h0]
      by_cases ha : a2 = 0
      · simp [ha, oV]
      · simp [ha, oV]
  case laload =>
    simp only [oR, t_R] at hs ⊢
    obtain ⟨k, i, r, e1, hs2⟩ := t_ri_of hs
    subst e1
    clear hs
    split at hs2
    · rename_i d a hth
      split at hs2
      · rename_i hd
        cases hx : a[i.toNatClampNeg]? with
        | none => rw [hx] at hs2; cases hs2
        | some x =>
          rw [hx] at hs2
          cases hs2
          show (match (oH v w th)[k]? with | some (.inl (d, .inr (.inl a))) => if d = 1 ∧ ¬ i < 0 then (a[i.toNatClampNeg]?).map (fun x => (pc + 1, Value.long x :: r.map (oV v w))) else none | _ => none) = _
          rw [oH_get hth]
          show (if d = 1 ∧ ¬ i < 0 then (a[i.toNatClampNeg]?).map (fun x => (pc + 1, Value.long x :: r.map (oV v w))) else none) = _
          rw [if_pos hd, hx]
          rfl
      · cases hs2
    · cases hs2
  case aaload =>
    simp only [oR, t_R] at hs ⊢
    obtain ⟨k, i, r, e1, hs2⟩ := t_ri_of hs
    subst e1
    clear hs
    split at hs2
    · rename_i d a hth
      split at hs2
      · rename_i hd
        cases hx : a[i.toNatClampNeg]? with
        | none => rw [hx] at hs2; cases hs2
        | some x =>
          rw [hx] at hs2
          cases hs2
          show (match (oH v w th)[k]? with | some (.inl (d, .inr (.inr a))) => if (d = 2 ∨ d = 3) ∧ ¬ i < 0 then (a[i.toNatClampNeg]?).map (fun x => (pc + 1, va_rf x :: r.map (oV v w))) else none | _ => none) = _
          rw [oH_get hth]
          show (if (d = 2 ∨ d = 3) ∧ ¬ i < 0 then (a[i.toNatClampNeg]?).map (fun x => (pc + 1, va_rf x :: r.map (oV v w))) else none) = _
          rw [if_pos hd, hx, List.map_cons, oV_rf]
          rfl
      · cases hs2
    · cases hs2
  case baload =>
    simp only [oR, t_R] at hs ⊢
    obtain ⟨k, i, r, e1, hs2⟩ := t_ri_of hs
    subst e1
    clear hs
    split at hs2
    · rename_i hd
      cases hx : (t_byt.getD (k - 1021) [])[i.toNatClampNeg]? with
      | none => rw [hx] at hs2; cases hs2
      | some x =>
        rw [hx] at hs2
        cases hs2
        show (if (1021 ≤ k ∧ k < 1031) ∧ ¬ i < 0 then ((t_byt.getD (k - 1021) [])[i.toNatClampNeg]?).map (fun x => (pc + 1, Value.int x :: r.map (oV v w))) else none) = _
        rw [if_pos hd, hx]
        rfl
    · cases hs2
  case arraylength =>
    simp only [oR, t_R] at hs ⊢
    obtain ⟨k, r, e1, hs2⟩ := t_r1_of hs
    subst e1
    clear hs
    split at hs2
    · cases hs2
    rename_i hk
    show (if k = 1000 then _ else if 1021 ≤ k ∧ k < 1031 then some (pc + 1, Value.int (Int32.ofNat 4) :: r.map (oV v w)) else match (oH v w th)[k]? with | some (.inl (d, .inl a)) => if d = 0 then some (pc + 1, Value.int (Int32.ofNat a.length) :: r.map (oV v w)) else none | some (.inl (d, .inr (.inl a))) => if d = 1 then some (pc + 1, Value.int (Int32.ofNat a.length) :: r.map (oV v w)) else none | some (.inl (d, .inr (.inr a))) => if d = 2 then some (pc + 1, Value.int (Int32.ofNat a.length) :: r.map (oV v w)) else none | _ => none) = _
    rw [if_neg hk]
    split at hs2
    · rename_i hg
      cases hs2
      rw [if_pos hg]
      rfl
    · rename_i hg
      rw [if_neg hg]
      split at hs2
      · rename_i d a hth
        obtain ⟨h0, hs3⟩ := t_if_of hs2
        cases hs3
        rw [oH_get hth]
        show (if d = 0 then some (pc + 1, Value.int (Int32.ofNat (a.map (oE v)).length) :: r.map (oV v w)) else none) = _
        rw [if_pos h0, List.length_map]
        rfl
      · rename_i d a hth
        obtain ⟨h0, hs3⟩ := t_if_of hs2
        cases hs3
        rw [oH_get hth]
        show (if d = 1 then some (pc + 1, Value.int (Int32.ofNat a.length) :: r.map (oV v w)) else none) = _
        rw [if_pos h0]
        rfl
      · rename_i d a hth
        obtain ⟨h0, hs3⟩ := t_if_of hs2
        cases hs3
        rw [oH_get hth]
        show (if d = 2 then some (pc + 1, Value.int (Int32.ofNat a.length) :: r.map (oV v w)) else none) = _
        rw [if_pos h0]
        rfl
      · cases hs2
  case getstatic n =>
    simp only [oR, t_R] at hs ⊢
    cases hs
    by_cases ha : a1 = 0
    · simp [ha, oV]
    · simp [ha, oV]
  case ldc n =>
    simp only [oR, t_R] at hs ⊢
    cases hs
    rfl
  all_goals cases hs
end OS
