/-! ===== runs over a box of ints: .float k stands for the k-th number of the box, .double k for the same as a long (.double 100: a long that nobody looks at); in rows of ints oT k stands for it ===== -/
def oT (k : Nat) : Int32 := 2120024064 + Int32.ofNat k
def oU (x : Int32) : Option Nat := if x = oT 1 then some 1 else if x = oT 2 then some 2 else if x = oT 3 then some 3 else if x = oT 4 then some 4 else if x = oT 5 then some 5 else none
def oE (v : Nat → Int32) (x : Int32) : Int32 := match oU x with
  | some k => v k
  | none => x
def oV (v : Nat → Int32) (w : Int64) : Value → Value
  | .float b => .int (v b.toNat)
  | .double b => if b.toNat < 100 then .long (v b.toNat).toInt64 else .long w
  | x => x
def oL (v : Nat → Int32) (w : Int64) (lv : tL) : tL := lv.map (fun q => (q.1, oV v w q.2))
def oC (v : Nat → Int32) (w : Int64) : tE → tE
  | .inl (k, .inl a) => .inl (k, .inl (a.map (oE v)))
  | .inl (k, .inr b) => .inl (k, .inr b)
  | .inr (c, fs) => .inr (c, fs.map (oV v w))
def oH (v : Nat → Int32) (w : Int64) (th : tH) : tH := th.map (oC v w)
/-- a comparison that has one answer all over a box: each side a number of its own, or of the box -/
def oB (cell : List (Int32 × Int32)) (x : Value) : Option (Int32 × Int32) := match x with
  | .int a => some (a, a)
  | .float b => cell[b.toNat]?
  | _ => none
def oCmp (c : Jvm.ClassFile.Cond) (a b : Int32 × Int32) : Option Bool := match c with
  | .lt => if a.2 < b.1 then some true else if b.2 ≤ a.1 then some false else none
  | .ge => if b.2 ≤ a.1 then some true else if a.2 < b.1 then some false else none
  | .gt => if b.2 < a.1 then some true else if a.2 ≤ b.1 then some false else none
  | .le => if a.2 ≤ b.1 then some true else if b.2 < a.1 then some false else none
  | .eq => if a.2 < b.1 ∨ b.2 < a.1 then some false else if a.1 = a.2 ∧ b.1 = b.2 ∧ a.1 = b.1 then some true else none
  | .ne => if a.2 < b.1 ∨ b.2 < a.1 then some true else if a.1 = a.2 ∧ b.1 = b.2 ∧ a.1 = b.1 then some false else none
def oJ (cell : List (Int32 × Int32)) (x : Value) : Option (Int64 × Int64) := match x with
  | .long a => some (a, a)
  | .double b => if b.toNat < 100 then (cell[b.toNat]?).map (fun q => (q.1.toInt64, q.2.toInt64)) else none
  | _ => none
def oLcmp (a b : Int64 × Int64) : Option Int32 := if a.2 < b.1 then some (-1) else if b.2 < a.1 then some 1 else if a.1 = a.2 ∧ b.1 = b.2 ∧ a.1 = b.1 then some 0 else none
def oS (cell : List (Int32 × Int32)) (ins : Instr) (pc a1 nL : Nat) (lv : tL) (st : List Value) : Option (Nat × tL × List Value) := match ins with
  | .iload_n k => match t_get lv k.val with
    | some (.float b) => some (pc + 1, lv, .float b :: st)
    | _ => none
  | .iload k => match t_get lv k with
    | some (.float b) => some (pc + 2, lv, .float b :: st)
    | _ => none
  | .istore_n k => match st with
    | .float b :: r => if k.val < nL then some (pc + 1, t_set1 lv k.val (.float b), r) else none
    | _ => none
  | .istore k => match st with
    | .float b :: r => if k < nL then some (pc + 2, t_set1 lv k (.float b), r) else none
    | _ => none
  | .lload_n k => match t_get lv k.val with
    | some (.double b) => some (pc + 1, lv, .double b :: st)
    | _ => none
  | .lload k => match t_get lv k with
    | some (.double b) => some (pc + 2, lv, .double b :: st)
    | _ => none
  | .i2l => match st with
    | .float b :: r => if b.toNat < 100 then some (pc + 1, lv, .double (UInt64.ofNat b.toNat) :: r) else none
    | _ => none
  | .iand => match st with
    | .int y :: .float b :: r => if y = -1 then some (pc + 1, lv, .float b :: r) else none
    | _ => none
  | .ishr => match st with
    | .int y :: .float b :: r => if y = 0 then some (pc + 1, lv, .float b :: r) else none
    | _ => none
  | .lcmp => match st with
    | y :: x :: r => match oJ cell x with
      | some p => match oJ cell y with
        | some q => (oLcmp p q).map (fun z => (pc + 1, lv, .int z :: r))
        | none => none
      | none => none
    | _ => none
  | .if_icmp c _ => match st with
    | y :: x :: r => match oB cell x with
      | some p => match oB cell y with
        | some q => (oCmp c p q).map (fun z => (if z = true then a1 else pc + 3, lv, r))
        | none => none
      | none => none
    | _ => none
  | .ifCond c _ => match st with
    | x :: r => match oB cell x with
      | some p => (oCmp c p (0, 0)).map (fun z => (if z = true then a1 else pc + 3, lv, r))
      | none => none
    | _ => none
  | .tableswitch d lo hi _ => match st with
    | .float b :: r => match cell[b.toNat]? with
      | some q => if q.2.toInt < lo ∨ hi < q.1.toInt then (t_go pc d).map (fun t => (t, lv, r)) else none
      | none => none
    | _ => none
  | _ => none
def oP (cell : List (Int32 × Int32)) (ins : Instr) (pc a1 nL : Nat) (lv : tL) (st : List Value) : Option (Nat × tL × List Value) := match t_P ins pc a1 nL lv st with
  | some r => some r
  | none => oS cell ins pc a1 nL lv st
def oRd (x : Int32) : Value := match oU x with
  | some j => .float (UInt32.ofNat j)
  | none => .int x
def oR (cat : Nat) (ins : Instr) (pc a1 a2 : Nat) (st : List Value) (th : tH) : Option (Nat × List Value) := match ins with
  | .iaload => t_ri st fun k i r => if k = 1000 then none else match th[k]? with
      | some (.inl (d, .inl a)) => if d = 0 ∧ ¬ i < 0 then (a[i.toNatClampNeg]?).map (fun x => (pc + 1, oRd x :: r)) else none
      | _ => none
  | _ => t_R none cat ins pc a1 a2 st th
def oF (v : Value) : Bool := match v with
  | .float _ => true
  | _ => false
def oW (cat : Nat) (ins : Instr) (pc a1 a2 : Nat) (st : List Value) (th : tH) : Option (Nat × List Value × tH) := match ins with
  | .putfield _ => match st with
    | v :: .ref k :: r => match th[k]? with
      | some (.inr (c, fs)) => if c = a1 ∧ a2 < fs.length ∧ (t_fit cat v || (cat == 8 && oF v)) = true then some (pc + 3, r, th.set k (.inr (c, fs.set a2 v))) else none
      | _ => none
    | _ => none
  | .iastore => match st with
    | .float b :: .int i :: .ref k :: r => match th[k]? with
      | some (.inl (d, .inl a)) => if d = 0 ∧ ¬ i < 0 ∧ i.toNatClampNeg < a.length ∧ oU (oT b.toNat) = some b.toNat then some (pc + 1, r, th.set k (.inl (0, .inl (a.set i.toNatClampNeg (oT b.toNat))))) else none
      | _ => none
    | .int x :: .int i :: .ref k :: r => match th[k]? with
      | some (.inl (d, .inl a)) => if d = 0 ∧ ¬ i < 0 ∧ i.toNatClampNeg < a.length ∧ oU x = none then some (pc + 1, r, th.set k (.inl (0, .inl (a.set i.toNatClampNeg x)))) else none
      | _ => none
    | _ => none
  | _ => t_W cat ins pc a1 a2 st th



/-- maps -/
theorem oV_cat (v : Nat → Int32) (w : Int64) (x : Value) : (oV v w x).category = x.category := by
  cases x <;> try rfl
  unfold oV
  dsimp only
  split <;> rfl
theorem oL_get {v : Nat → Int32} {w : Int64} {x : Value} {i : Nat} : ∀ {lv : tL}, t_get lv i = some x → t_get (oL v w lv) i = some (oV v w x)
  | [], h => by cases h
  | q :: t, h => by
    show (if q.1 = i then some (oV v w q.2) else t_get (oL v w t) i) = _
    unfold t_get at h
    split at h
    · rename_i e
      rw [if_pos e]
      cases h
      rfl
    · rename_i e
      rw [if_neg e]
      exact oL_get h
theorem oL_set1 (v : Nat → Int32) (w : Int64) (lv : tL) (i : Nat) (x : Value) : t_set1 (oL v w lv) i (oV v w x) = oL v w (t_set1 lv i x) := by
  simp [oL, t_set1, List.filter_map, Function.comp_def, oV_cat]
theorem oL_set2 (v : Nat → Int32) (w : Int64) (lv : tL) (i : Nat) (x : Value) : t_set2 (oL v w lv) i (oV v w x) = oL v w (t_set2 lv i x) := by
  simp [oL, t_set2, List.filter_map, Function.comp_def, oV_cat]
theorem oV_rf (v : Nat → Int32) (w : Int64) (x : Option Nat) : oV v w (va_rf x) = va_rf x := by cases x <;> rfl
section OP
variable {pc a1 nL pc' : Nat} {lv lv' : tL} {st st' : List Value} {ins : Instr}
set_option maxHeartbeats 4000000 in
theorem t_P_map (v : Nat → Int32) (w : Int64) (hs : t_P ins pc a1 nL lv st = some (pc', lv', st')) : t_P ins pc a1 nL (oL v w lv) (st.map (oV v w)) = some (pc', oL v w lv', st'.map (oV v w)) := by
  cases ins
  case iadd =>
    simp only [t_P] at hs ⊢
    obtain ⟨x, y, r, e1, hs2⟩ := t_i2_of hs
    subst e1
    clear hs
    cases hs2
    rfl
  case isub =>
    simp only [t_P] at hs ⊢
    obtain ⟨x, y, r, e1, hs2⟩ := t_i2_of hs
    subst e1
    clear hs
    cases hs2
    rfl
  case imul =>
    simp only [t_P] at hs ⊢
    obtain ⟨x, y, r, e1, hs2⟩ := t_i2_of hs
    subst e1
    clear hs
    cases hs2
    rfl
  case iand =>
    simp only [t_P] at hs ⊢
    obtain ⟨x, y, r, e1, hs2⟩ := t_i2_of hs
    subst e1
    clear hs
    cases hs2
    rfl
  case ior =>
    simp only [t_P] at hs ⊢
    obtain ⟨x, y, r, e1, hs2⟩ := t_i2_of hs
    subst e1
    clear hs
    cases hs2
    rfl
  case ixor =>
    simp only [t_P] at hs ⊢
    obtain ⟨x, y, r, e1, hs2⟩ := t_i2_of hs
    subst e1
    clear hs
    cases hs2
    rfl
  case ishl =>
    simp only [t_P] at hs ⊢
    obtain ⟨x, y, r, e1, hs2⟩ := t_i2_of hs
    subst e1
    clear hs
    cases hs2
    rfl
  case ishr =>
    simp only [t_P] at hs ⊢
    obtain ⟨x, y, r, e1, hs2⟩ := t_i2_of hs
    subst e1
    clear hs
    cases hs2
    rfl
  case iushr =>
    simp only [t_P] at hs ⊢
    obtain ⟨x, y, r, e1, hs2⟩ := t_i2_of hs
    subst e1
    clear hs
    cases hs2
    rfl
  case if_icmp cd o =>
    simp only [t_P] at hs ⊢
    obtain ⟨x, y, r, e1, hs2⟩ := t_i2_of hs
    subst e1
    clear hs
    cases hs2
    rfl
  case idiv =>
    simp only [t_P] at hs ⊢
    obtain ⟨x, y, r, e1, hs2⟩ := t_i2_of hs
    subst e1
    clear hs
    obtain ⟨h0, hs3⟩ := t_ifn_of hs2
    cases hs3
    show (if y = 0 then none else some _) = _
    rw [if_neg h0]
    rfl
  case irem =>
    simp only [t_P] at hs ⊢
    obtain ⟨x, y, r, e1, hs2⟩ := t_i2_of hs
    subst e1
    clear hs
    obtain ⟨h0, hs3⟩ := t_ifn_of hs2
    cases hs3
    show (if y = 0 then none else some _) = _
    rw [if_neg h0]
    rfl
  case ineg =>
    simp only [t_P] at hs ⊢
    obtain ⟨x, r, e1, hs2⟩ := t_i1_of hs
    subst e1
    clear hs
    cases hs2
    rfl
  case i2l =>
    simp only [t_P] at hs ⊢
    obtain ⟨x, r, e1, hs2⟩ := t_i1_of hs
    subst e1
    clear hs
    cases hs2
    rfl
  case i2b =>
    simp only [t_P] at hs ⊢
    obtain ⟨x, r, e1, hs2⟩ := t_i1_of hs
    subst e1
    clear hs
    cases hs2
    rfl
  case i2s =>
    simp only [t_P] at hs ⊢
    obtain ⟨x, r, e1, hs2⟩ := t_i1_of hs
    subst e1
    clear hs
    cases hs2
    rfl
  case i2c =>
    simp only [t_P] at hs ⊢
    obtain ⟨x, r, e1, hs2⟩ := t_i1_of hs
    subst e1
    clear hs
    cases hs2
    rfl
  case ifCond cd o =>
    simp only [t_P] at hs ⊢
    obtain ⟨x, r, e1, hs2⟩ := t_i1_of hs
    subst e1
    clear hs
    cases hs2
    rfl
  case l2i =>
    simp only [t_P] at hs ⊢
    obtain ⟨x, r, e1, hs2⟩ := t_j1_of hs
    subst e1
    clear hs
    cases hs2
    rfl
  case lmul =>
    simp only [t_P] at hs ⊢
    obtain ⟨x, y, r, e1, hs2⟩ := t_j2_of hs
    subst e1
    clear hs
    cases hs2
    rfl
  case land =>
    simp only [t_P] at hs ⊢
    obtain ⟨x, y, r, e1, hs2⟩ := t_j2_of hs
    subst e1
    clear hs
    cases hs2
    rfl
  case lor =>
    simp only [t_P] at hs ⊢
    obtain ⟨x, y, r, e1, hs2⟩ := t_j2_of hs
    subst e1
    clear hs
    cases hs2
    rfl
  case lcmp =>
    simp only [t_P] at hs ⊢
    obtain ⟨x, y, r, e1, hs2⟩ := t_j2_of hs
    subst e1
    clear hs
    cases hs2
    rfl
  case lshl =>
    simp only [t_P] at hs ⊢
    obtain ⟨x, y, r, e1, hs2⟩ := t_ji_of hs
    subst e1
    clear hs
    cases hs2
    rfl
  case iconst n =>
    simp only [t_P] at hs ⊢
    cases hs
    rfl
  case bipush n =>
    simp only [t_P] at hs ⊢
    cases hs
    rfl
  case sipush n =>
    simp only [t_P] at hs ⊢
    cases hs
    rfl
  case lconst n =>
    simp only [t_P] at hs ⊢
    cases hs
    rfl
  case ldc n =>
    simp only [t_P] at hs ⊢
    cases hs
    rfl
  case ldc_w n =>
    simp only [t_P] at hs ⊢
    cases hs
    rfl
  case ldc2_w n =>
    simp only [t_P] at hs ⊢
    cases hs
    rfl
  case goto n =>
    simp only [t_P] at hs ⊢
    cases hs
    rfl
  case aconst_null =>
    simp only [t_P] at hs ⊢
    cases hs
    rfl
  case iload n =>
    simp only [t_P] at hs ⊢
    obtain ⟨x, hg, hs2⟩ := t_gI_of hs
    cases hs2
    unfold t_gI
    rw [oL_get hg]
    rfl
  case lload n =>
    simp only [t_P] at hs ⊢
    obtain ⟨x, hg, hs2⟩ := t_gJ_of hs
    cases hs2
    unfold t_gJ
    rw [oL_get hg]
    rfl
  case iload_n n =>
    simp only [t_P] at hs ⊢
    obtain ⟨x, hg, hs2⟩ := t_gI_of hs
    cases hs2
    unfold t_gI
    rw [oL_get hg]
    rfl
  case lload_n n =>
    simp only [t_P] at hs ⊢
    obtain ⟨x, hg, hs2⟩ := t_gJ_of hs
    cases hs2
    unfold t_gJ
    rw [oL_get hg]
    rfl
  case aload n =>
    simp only [t_P] at hs ⊢
    obtain ⟨x, hg, hs2⟩ := t_gA_of hs
    cases hs2
    unfold t_gA
    rw [oL_get hg]
    cases x <;> rfl
  case aload_n n =>
    simp only [t_P] at hs ⊢
    obtain ⟨x, hg, hs2⟩ := t_gA_of hs
    cases hs2
    unfold t_gA
    rw [oL_get hg]
    cases x <;> rfl
  case istore n =>
    simp only [t_P] at hs ⊢
    obtain ⟨x, r, e1, hs2⟩ := t_i1_of hs
    subst e1
    clear hs
    obtain ⟨h0, hs3⟩ := t_if_of hs2
    cases hs3
    show (if _ then some _ else none) = _
    rw [if_pos h0, ← oL_set1]
    rfl
  case istore_n n =>
    simp only [t_P] at hs ⊢
    obtain ⟨x, r, e1, hs2⟩ := t_i1_of hs
    subst e1
    clear hs
    obtain ⟨h0, hs3⟩ := t_if_of hs2
    cases hs3
    show (if _ then some _ else none) = _
    rw [if_pos h0, ← oL_set1]
    rfl
  case lstore n =>
    simp only [t_P] at hs ⊢
    obtain ⟨x, r, e1, hs2⟩ := t_j1_of hs
    subst e1
    clear hs
    obtain ⟨h0, hs3⟩ := t_if_of hs2
    cases hs3
    show (if _ then some _ else none) = _
    rw [if_pos h0, ← oL_set2]
    rfl
  case lstore_n n =>
    simp only [t_P] at hs ⊢
    obtain ⟨x, r, e1, hs2⟩ := t_j1_of hs
    subst e1
    clear hs
    obtain ⟨h0, hs3⟩ := t_if_of hs2
    cases hs3
    show (if _ then some _ else none) = _
    rw [if_pos h0, ← oL_set2]
    rfl
  case astore n =>
    simp only [t_P] at hs ⊢
    obtain ⟨x, r, e1, hs2⟩ := t_a1_of hs
    subst e1
    clear hs
    obtain ⟨h0, hs3⟩ := t_if_of hs2
    cases hs3
    rw [← oL_set1, List.map_cons, oV_rf]
    cases x with
    | none => show (if _ then some _ else none) = _; rw [if_pos h0]
    | some x => show (if _ then some _ else none) = _; rw [if_pos h0]
  case astore_n n =>
    simp only [t_P] at hs ⊢
    obtain ⟨x, r, e1, hs2⟩ := t_a1_of hs
    subst e1
    clear hs
    obtain ⟨h0, hs3⟩ := t_if_of hs2
    cases hs3
    rw [← oL_set1, List.map_cons, oV_rf]
    cases x with
    | none => show (if _ then some _ else none) = _; rw [if_pos h0]
    | some x => show (if _ then some _ else none) = _; rw [if_pos h0]
  case iinc n z =>
    simp only [t_P] at hs ⊢
    obtain ⟨x, hg, hs2⟩ := t_gI_of hs
    obtain ⟨h0, hs3⟩ := t_if_of hs2
    cases hs3
    unfold t_gI
    rw [oL_get hg, ← oL_set1]
    show (if _ then some _ else none) = _
    rw [if_pos h0]
    try rfl
  case dup =>
    simp only [t_P] at hs ⊢
    rcases st with _ | ⟨x, r⟩
    · cases hs
    obtain ⟨h0, hs3⟩ := t_if_of hs
    cases hs3
    show (if (oV v w x).category = 1 then some _ else none) = _
    rw [if_pos ((oV_cat v w x).trans h0)]
    try rfl
  case pop =>
    simp only [t_P] at hs ⊢
    rcases st with _ | ⟨x, r⟩
    · cases hs
    obtain ⟨h0, hs3⟩ := t_if_of hs
    cases hs3
    show (if (oV v w x).category = 1 then some _ else none) = _
    rw [if_pos ((oV_cat v w x).trans h0)]
    try rfl
  case dup_x1 =>
    simp only [t_P] at hs ⊢
    rcases st with _ | ⟨x, _ | ⟨y, r⟩⟩
    · cases hs
    · cases hs
    obtain ⟨h0, hs3⟩ := t_if_of hs
    cases hs3
    show (if (oV v w x).category = 1 ∧ (oV v w y).category = 1 then some _ else none) = _
    rw [if_pos ⟨(oV_cat v w x).trans h0.1, (oV_cat v w y).trans h0.2⟩]
    rfl
  case dup2 =>
    simp only [t_P] at hs ⊢
    rcases st with _ | ⟨x, _ | ⟨y, r⟩⟩
    · cases hs
    · cases hs
    obtain ⟨h0, hs3⟩ := t_if_of hs
    cases hs3
    show (if (oV v w x).category = 1 ∧ (oV v w y).category = 1 then some _ else none) = _
    rw [if_pos ⟨(oV_cat v w x).trans h0.1, (oV_cat v w y).trans h0.2⟩]
    rfl
  case ifnull o =>
    simp only [t_P] at hs ⊢
    obtain ⟨x, r, e1, hs2⟩ := t_a1_of hs
    subst e1
    clear hs
    cases hs2
    rw [List.map_cons, oV_rf]
    cases x <;> rfl
  case ifnonnull o =>
    simp only [t_P] at hs ⊢
    obtain ⟨x, r, e1, hs2⟩ := t_a1_of hs
    subst e1
    clear hs
    cases hs2
    rw [List.map_cons, oV_rf]
    cases x <;> rfl
  case tableswitch d lo hi offs =>
    simp only [t_P] at hs ⊢
    obtain ⟨x, r, e1, hs2⟩ := t_i1_of hs
    subst e1
    clear hs
    show (if x.toInt < lo ∨ hi < x.toInt then _ else _) = _
    split at hs2
    · rename_i h
      rw [if_pos h]
      cases hg : t_go pc d with
      | none => rw [hg] at hs2; cases hs2
      | some t => rw [hg] at hs2; cases hs2; rfl
    · rename_i h
      rw [if_neg h]
      split at hs2
      · rename_i off ho
        cases hg : t_go pc off with
        | none => rw [hg] at hs2; cases hs2
        | some t => rw [hg] at hs2; cases hs2; rfl
      · cases hs2
  all_goals cases hs
end OP
