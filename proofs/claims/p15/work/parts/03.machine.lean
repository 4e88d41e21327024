/-! ===== THE SMALL MACHINE: the same bytecode over cells that are lists; a reference is a place in the list of cells. From 1000 on a reference names what the machine had before: 1000 the script, 1001.. the words, 1021.. their bytes ===== -/
abbrev tE : Type := (Nat × (List Int32 ⊕ List Int64 ⊕ List (Option Nat))) ⊕ (Nat × List Value)
abbrev tH : Type := List tE
abbrev tL : Type := List (Nat × Value)
abbrev tI : Type := Nat × Instr × Nat × Nat
def t_get : tL → Nat → Option Value
  | [], _ => none
  | q :: t, i => if q.1 = i then some q.2 else t_get t i
def t_set1 (lv : tL) (i : Nat) (v : Value) : tL := (i, v) :: lv.filter (fun q => !(q.1 == i) && !(q.1 + 1 == i && q.2.category == 2))
def t_set2 (lv : tL) (i : Nat) (v : Value) : tL := (i, v) :: lv.filter (fun q => !(q.1 == i) && (!(q.1 == i + 1) && !(q.1 + 1 == i && q.2.category == 2)))
def t_icmp (c : Jvm.ClassFile.Cond) (x y : Int32) : Bool := match c with
  | .eq => decide (x = y)
  | .ne => !decide (x = y)
  | .lt => decide (x < y)
  | .ge => decide (y ≤ x)
  | .gt => decide (y < x)
  | .le => decide (x ≤ y)
-- shapes of the stack
def t_i1 {α : Type} (st : List Value) (f : Int32 → List Value → Option α) : Option α := match st with
  | .int x :: r => f x r
  | _ => none
def t_i2 {α : Type} (st : List Value) (f : Int32 → Int32 → List Value → Option α) : Option α := match st with
  | .int y :: .int x :: r => f x y r
  | _ => none
def t_j1 {α : Type} (st : List Value) (f : Int64 → List Value → Option α) : Option α := match st with
  | .long x :: r => f x r
  | _ => none
def t_j2 {α : Type} (st : List Value) (f : Int64 → Int64 → List Value → Option α) : Option α := match st with
  | .long y :: .long x :: r => f x y r
  | _ => none
def t_ji {α : Type} (st : List Value) (f : Int64 → Int32 → List Value → Option α) : Option α := match st with
  | .int y :: .long x :: r => f x y r
  | _ => none
def t_r1 {α : Type} (st : List Value) (f : Nat → List Value → Option α) : Option α := match st with
  | .ref k :: r => f k r
  | _ => none
def t_a1 {α : Type} (st : List Value) (f : Option Nat → List Value → Option α) : Option α := match st with
  | .ref k :: r => f (some k) r
  | .null :: r => f none r
  | _ => none
def t_ri {α : Type} (st : List Value) (f : Nat → Int32 → List Value → Option α) : Option α := match st with
  | .int i :: .ref k :: r => f k i r
  | _ => none
def t_rii {α : Type} (st : List Value) (f : Nat → Int32 → Int32 → List Value → Option α) : Option α := match st with
  | .int x :: .int i :: .ref k :: r => f k i x r
  | _ => none
def t_rij {α : Type} (st : List Value) (f : Nat → Int32 → Int64 → List Value → Option α) : Option α := match st with
  | .long x :: .int i :: .ref k :: r => f k i x r
  | _ => none
def t_rir {α : Type} (st : List Value) (f : Nat → Int32 → Nat → List Value → Option α) : Option α := match st with
  | .ref x :: .int i :: .ref k :: r => f k i x r
  | _ => none
def t_gI {α : Type} (lv : tL) (i : Nat) (f : Int32 → Option α) : Option α := match t_get lv i with
  | some (.int x) => f x
  | _ => none
def t_gJ {α : Type} (lv : tL) (i : Nat) (f : Int64 → Option α) : Option α := match t_get lv i with
  | some (.long x) => f x
  | _ => none
def t_gA {α : Type} (lv : tL) (i : Nat) (f : Option Nat → Option α) : Option α := match t_get lv i with
  | some (.ref x) => f (some x)
  | some .null => f none
  | _ => none
def t_go (pc : Nat) (off : Int) : Option Nat := if (pc : Int) + off < 0 then none else some ((pc : Int) + off).toNat
/-- instructions that need no cell: what is next, the variables, the stack -/
def t_P (ins : Instr) (pc a1 nL : Nat) (lv : tL) (st : List Value) : Option (Nat × tL × List Value) := match ins with
  | .aload_n k => t_gA lv k.val fun x => some (pc + 1, lv, va_rf x :: st)
  | .aload k => t_gA lv k fun x => some (pc + 2, lv, va_rf x :: st)
  | .iload_n k => t_gI lv k.val fun x => some (pc + 1, lv, .int x :: st)
  | .iload k => t_gI lv k fun x => some (pc + 2, lv, .int x :: st)
  | .lload_n k => t_gJ lv k.val fun x => some (pc + 1, lv, .long x :: st)
  | .lload k => t_gJ lv k fun x => some (pc + 2, lv, .long x :: st)
  | .astore_n k => t_a1 st fun x r => if k.val < nL then some (pc + 1, t_set1 lv k.val (va_rf x), r) else none
  | .astore k => t_a1 st fun x r => if k < nL then some (pc + 2, t_set1 lv k (va_rf x), r) else none
  | .istore_n k => t_i1 st fun x r => if k.val < nL then some (pc + 1, t_set1 lv k.val (.int x), r) else none
  | .istore k => t_i1 st fun x r => if k < nL then some (pc + 2, t_set1 lv k (.int x), r) else none
  | .lstore_n k => t_j1 st fun x r => if k.val + 1 < nL then some (pc + 1, t_set2 lv k.val (.long x), r) else none
  | .lstore k => t_j1 st fun x r => if k + 1 < nL then some (pc + 2, t_set2 lv k (.long x), r) else none
  | .iinc k n => t_gI lv k fun x => if k < nL then some (pc + 3, t_set1 lv k (.int (x + Int32.ofInt n)), st) else none
  | .iconst n => some (pc + 1, lv, .int (Int32.ofInt n) :: st)
  | .bipush n => some (pc + 2, lv, .int (Int8.ofInt n).toInt32 :: st)
  | .sipush n => some (pc + 3, lv, .int (Int16.ofInt n).toInt32 :: st)
  | .lconst n => some (pc + 1, lv, .long (Int64.ofNat n.val) :: st)
  | .ldc _ => some (pc + 2, lv, .int (Int32.ofNat a1) :: st)
  | .ldc_w _ => some (pc + 3, lv, .int (Int32.ofNat a1) :: st)
  | .ldc2_w _ => some (pc + 3, lv, .long (Int64.ofNat a1) :: st)
  | .aconst_null => some (pc + 1, lv, .null :: st)
  | .dup => match st with
    | v :: r => if v.category = 1 then some (pc + 1, lv, v :: v :: r) else none
    | _ => none
  | .dup_x1 => match st with
    | v :: w :: r => if v.category = 1 ∧ w.category = 1 then some (pc + 1, lv, v :: w :: v :: r) else none
    | _ => none
  | .dup2 => match st with
    | v :: w :: r => if v.category = 1 ∧ w.category = 1 then some (pc + 1, lv, v :: w :: v :: w :: r) else none
    | _ => none
  | .pop => match st with
    | v :: r => if v.category = 1 then some (pc + 1, lv, r) else none
    | _ => none
  | .pop2 => t_j1 st fun _ r => some (pc + 1, lv, r)
  | .iadd => t_i2 st fun x y r => some (pc + 1, lv, .int (x + y) :: r)
  | .isub => t_i2 st fun x y r => some (pc + 1, lv, .int (x - y) :: r)
  | .imul => t_i2 st fun x y r => some (pc + 1, lv, .int (x * y) :: r)
  | .idiv => t_i2 st fun x y r => if y = 0 then none else some (pc + 1, lv, .int (x / y) :: r)
  | .irem => t_i2 st fun x y r => if y = 0 then none else some (pc + 1, lv, .int (x - x / y * y) :: r)
  | .ineg => t_i1 st fun x r => some (pc + 1, lv, .int (-x) :: r)
  | .iand => t_i2 st fun x y r => some (pc + 1, lv, .int (x &&& y) :: r)
  | .ior => t_i2 st fun x y r => some (pc + 1, lv, .int (x ||| y) :: r)
  | .ixor => t_i2 st fun x y r => some (pc + 1, lv, .int (x ^^^ y) :: r)
  | .ishl => t_i2 st fun x y r => some (pc + 1, lv, .int (x <<< (y &&& 31)) :: r)
  | .ishr => t_i2 st fun x y r => some (pc + 1, lv, .int (x >>> (y &&& 31)) :: r)
  | .iushr => t_i2 st fun x y r => some (pc + 1, lv, .int (x.toUInt32 >>> (y.toUInt32 &&& Int32.toUInt32 31)).toInt32 :: r)
  | .i2l => t_i1 st fun x r => some (pc + 1, lv, .long x.toInt64 :: r)
  | .l2i => t_j1 st fun x r => some (pc + 1, lv, .int x.toInt32 :: r)
  | .i2b => t_i1 st fun x r => some (pc + 1, lv, .int x.toInt8.toInt32 :: r)
  | .i2s => t_i1 st fun x r => some (pc + 1, lv, .int x.toInt16.toInt32 :: r)
  | .i2c => t_i1 st fun x r => some (pc + 1, lv, .int (x.toUInt32 % 65536).toInt32 :: r)
  | .lmul => t_j2 st fun x y r => some (pc + 1, lv, .long (x * y) :: r)
  | .land => t_j2 st fun x y r => some (pc + 1, lv, .long (x &&& y) :: r)
  | .lor => t_j2 st fun x y r => some (pc + 1, lv, .long (x ||| y) :: r)
  | .lshl => t_ji st fun x y r => some (pc + 1, lv, .long (x <<< (y.toInt64 &&& 63)) :: r)
  | .lcmp => t_j2 st fun x y r => some (pc + 1, lv, .int (lg_cmp x y) :: r)
  | .if_icmp c _ => t_i2 st fun x y r => some (if t_icmp c x y = true then a1 else pc + 3, lv, r)
  | .ifCond c _ => t_i1 st fun x r => some (if t_icmp c x 0 = true then a1 else pc + 3, lv, r)
  | .ifnull _ => t_a1 st fun x r => some (match x with | some _ => pc + 3 | none => a1, lv, r)
  | .ifnonnull _ => t_a1 st fun x r => some (match x with | some _ => a1 | none => pc + 3, lv, r)
  | .goto _ => some (a1, lv, st)
  | .tableswitch d lo hi offs => t_i1 st fun x r =>
      if x.toInt < lo ∨ hi < x.toInt then (t_go pc d).map (fun t => (t, lv, r))
      else match offs[(x.toInt - lo).toNat]? with
        | some off => (t_go pc off).map (fun t => (t, lv, r))
        | none => none
  | _ => none
/-- how long an instruction is; 0: as it says itself -/
def t_len (ins : Instr) : Nat := match ins with
  | .aload _ | .iload _ | .lload _ | .astore _ | .istore _ | .lstore _ | .bipush _ | .ldc _ | .newarray _ => 2
  | .iinc _ _ | .sipush _ | .ldc_w _ | .ldc2_w _ | .if_icmp _ _ | .ifCond _ _ | .ifnull _ | .ifnonnull _ | .goto _ | .getfield _ | .putfield _ | .getstatic _ | .invokevirtual _ | .invokestatic _ | .invokespecial _ | .new _ | .anewarray _ => 3
  | .multianewarray _ _ => 4
  | .tableswitch _ _ _ _ => 0
  | _ => 1
/-- where a branch goes, as the table of the code has it -/
def t_br (ins : Instr) (pc a1 : Nat) : Bool := match ins with
  | .if_icmp _ o | .ifCond _ o | .ifnull o | .ifnonnull o | .goto o => decide ((pc : Int) + o = (a1 : Int))
  | _ => true
/-- a reference by its place; the one static reference that is only carried is written .retAddr: σ 1040 says what it is, 0: null -/
def t_v (σ : Nat → Nat) : Value → Value
  | .ref k => .ref (σ k)
  | .retAddr _ => match σ 1040 with
    | 0 => .null
    | n + 1 => .ref n
  | v => v
def t_l (σ : Nat → Nat) (lv : tL) : tL := lv.map (fun q => (q.1, t_v σ q.2))
theorem t_v_cat (σ : Nat → Nat) (v : Value) : (t_v σ v).category = v.category := by
  cases v <;> try rfl
  show (match σ 1040 with | 0 => Value.null | n + 1 => Value.ref n).category = 1
  split <;> rfl
theorem t_l_set1 (σ : Nat → Nat) (lv : tL) (i : Nat) (v : Value) : (i, t_v σ v) :: (t_l σ lv).filter (fun q => !(q.1 == i) && !(q.1 + 1 == i && q.2.category == 2)) = t_l σ (t_set1 lv i v) := by
  simp [t_l, t_set1, List.filter_map, Function.comp_def, t_v_cat]
theorem t_l_set2 (σ : Nat → Nat) (lv : tL) (i : Nat) (v : Value) : (i, t_v σ v) :: (t_l σ lv).filter (fun q => !(q.1 == i) && (!(q.1 == i + 1) && !(q.1 + 1 == i && q.2.category == 2))) = t_l σ (t_set2 lv i v) := by
  simp [t_l, t_set2, List.filter_map, Function.comp_def, t_v_cat]
theorem t_get_mem {v : Value} {i : Nat} : ∀ {lv : tL}, t_get lv i = some v → (i, v) ∈ lv
  | [], h => by cases h
  | q :: t, h => by
    unfold t_get at h
    split at h
    · rename_i e
      cases h
      subst e
      exact List.mem_cons_self
    · exact List.mem_cons_of_mem _ (t_get_mem h)
theorem t_get_at {σ : Nat → Nat} {ls : Array Slot} {nL i : Nat} {lv : tL} {v : Value} (h : lv_has ls nL (t_l σ lv)) (hg : t_get lv i = some v) : ls[i]? = some (.val (t_v σ v)) :=
  h.2.2 (i, t_v σ v) (List.mem_map.mpr ⟨(i, v), t_get_mem hg, rfl⟩)
-- what a shape says
theorem t_i1_of {α : Type} {st : List Value} {f : Int32 → List Value → Option α} {z : α} (h : t_i1 st f = some z) : ∃ x r, st = .int x :: r ∧ f x r = some z := by
  unfold t_i1 at h
  split at h
  · exact ⟨_, _, rfl, h⟩
  · cases h
theorem t_i2_of {α : Type} {st : List Value} {f : Int32 → Int32 → List Value → Option α} {z : α} (h : t_i2 st f = some z) : ∃ x y r, st = .int y :: .int x :: r ∧ f x y r = some z := by
  unfold t_i2 at h
  split at h
  · exact ⟨_, _, _, rfl, h⟩
  · cases h
theorem t_j1_of {α : Type} {st : List Value} {f : Int64 → List Value → Option α} {z : α} (h : t_j1 st f = some z) : ∃ x r, st = .long x :: r ∧ f x r = some z := by
  unfold t_j1 at h
  split at h
  · exact ⟨_, _, rfl, h⟩
  · cases h
theorem t_j2_of {α : Type} {st : List Value} {f : Int64 → Int64 → List Value → Option α} {z : α} (h : t_j2 st f = some z) : ∃ x y r, st = .long y :: .long x :: r ∧ f x y r = some z := by
  unfold t_j2 at h
  split at h
  · exact ⟨_, _, _, rfl, h⟩
  · cases h
theorem t_ji_of {α : Type} {st : List Value} {f : Int64 → Int32 → List Value → Option α} {z : α} (h : t_ji st f = some z) : ∃ x y r, st = .int y :: .long x :: r ∧ f x y r = some z := by
  unfold t_ji at h
  split at h
  · exact ⟨_, _, _, rfl, h⟩
  · cases h
theorem t_r1_of {α : Type} {st : List Value} {f : Nat → List Value → Option α} {z : α} (h : t_r1 st f = some z) : ∃ (x : Nat) (r : List Value), st = .ref x :: r ∧ f x r = some z := by
  unfold t_r1 at h
  split at h
  · exact ⟨_, _, rfl, h⟩
  · cases h
theorem t_a1_of {α : Type} {st : List Value} {f : Option Nat → List Value → Option α} {z : α} (h : t_a1 st f = some z) : ∃ x r, st = va_rf x :: r ∧ f x r = some z := by
  unfold t_a1 at h
  split at h
  · exact ⟨some _, _, rfl, h⟩
  · exact ⟨none, _, rfl, h⟩
  · cases h
theorem t_ri_of {α : Type} {st : List Value} {f : Nat → Int32 → List Value → Option α} {z : α} (h : t_ri st f = some z) : ∃ (k : Nat) (i : Int32) (r : List Value), st = .int i :: .ref k :: r ∧ f k i r = some z := by
  unfold t_ri at h
  split at h
  · exact ⟨_, _, _, rfl, h⟩
  · cases h
theorem t_rii_of {α : Type} {st : List Value} {f : Nat → Int32 → Int32 → List Value → Option α} {z : α} (h : t_rii st f = some z) : ∃ (k : Nat) (i x : Int32) (r : List Value), st = .int x :: .int i :: .ref k :: r ∧ f k i x r = some z := by
  unfold t_rii at h
  split at h
  · exact ⟨_, _, _, _, rfl, h⟩
  · cases h
theorem t_rij_of {α : Type} {st : List Value} {f : Nat → Int32 → Int64 → List Value → Option α} {z : α} (h : t_rij st f = some z) : ∃ (k : Nat) (i : Int32) (x : Int64) (r : List Value), st = .long x :: .int i :: .ref k :: r ∧ f k i x r = some z := by
  unfold t_rij at h
  split at h
  · exact ⟨_, _, _, _, rfl, h⟩
  · cases h
theorem t_rir_of {α : Type} {st : List Value} {f : Nat → Int32 → Nat → List Value → Option α} {z : α} (h : t_rir st f = some z) : ∃ (k : Nat) (i : Int32) (x : Nat) (r : List Value), st = .ref x :: .int i :: .ref k :: r ∧ f k i x r = some z := by
  unfold t_rir at h
  split at h
  · exact ⟨_, _, _, _, rfl, h⟩
  · cases h
theorem t_gI_of {α : Type} {lv : tL} {i : Nat} {f : Int32 → Option α} {z : α} (h : t_gI lv i f = some z) : ∃ x, t_get lv i = some (.int x) ∧ f x = some z := by
  unfold t_gI at h
  split at h
  · rename_i e; exact ⟨_, e, h⟩
  · cases h
theorem t_gJ_of {α : Type} {lv : tL} {i : Nat} {f : Int64 → Option α} {z : α} (h : t_gJ lv i f = some z) : ∃ x, t_get lv i = some (.long x) ∧ f x = some z := by
  unfold t_gJ at h
  split at h
  · rename_i e; exact ⟨_, e, h⟩
  · cases h
theorem t_gA_of {α : Type} {lv : tL} {i : Nat} {f : Option Nat → Option α} {z : α} (h : t_gA lv i f = some z) : ∃ x, t_get lv i = some (va_rf x) ∧ f x = some z := by
  unfold t_gA at h
  split at h
  · rename_i e; exact ⟨some _, e, h⟩
  · rename_i e; exact ⟨none, e, h⟩
  · cases h
theorem t_if_of {α : Type} {c : Prop} [Decidable c] {a : α} {z : α} (h : (if c then some a else none) = some z) : c ∧ a = z := by
  split at h
  · exact ⟨by assumption, Option.some.inj h⟩
  · cases h
theorem t_ifn_of {α : Type} {c : Prop} [Decidable c] {a : α} {z : α} (h : (if c then none else some a) = some z) : ¬ c ∧ a = z := by
  split at h
  · cases h
  · exact ⟨by assumption, Option.some.inj h⟩
theorem t_go_of {pc t : Nat} {off : Int} (h : t_go pc off = some t) : (pc : Int) + off = (t : Int) := by
  unfold t_go at h
  split at h
  · cases h
  · cases h
    omega
