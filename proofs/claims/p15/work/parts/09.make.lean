/-! ===== instructions that make cells ===== -/
def t_okv (n : Nat) (v : Value) : Bool := match v with
  | .ref k => decide (k < n) || decide (1000 ≤ k)
  | _ => true
def t_oko (n : Nat) (v : Option Nat) : Bool := match v with
  | some k => decide (k < n) || decide (1000 ≤ k)
  | none => true
def t_oke (n : Nat) : tE → Bool
  | .inl (_, .inr (.inr a)) => a.all (t_oko n)
  | .inl _ => true
  | .inr (_, fs) => fs.all (t_okv n)
/-- the cells' references go to cells -/
def t_okh (n : Nat) (th : tH) : Bool := th.all (t_oke n)
def t_okl (n : Nat) (lv : tL) : Bool := lv.all (fun q => t_okv n q.2)
theorem t_okv_eq {n : Nat} {σ σ' : Nat → Nat} (h : ∀ k, k < n ∨ 1000 ≤ k → σ' k = σ k) {v : Value} (hv : t_okv n v = true) : t_v σ' v = t_v σ v := by
  cases v <;> try rfl
  · simp only [t_okv, Bool.or_eq_true, decide_eq_true_eq] at hv
    show Value.ref _ = Value.ref _
    rw [h _ hv]
  · show (match σ' 1040 with | 0 => Value.null | n + 1 => Value.ref n) = (match σ 1040 with | 0 => Value.null | n + 1 => Value.ref n)
    rw [h 1040 (Or.inr (by omega))]
theorem t_oko_eq {n : Nat} {σ σ' : Nat → Nat} (h : ∀ k, k < n ∨ 1000 ≤ k → σ' k = σ k) {v : Option Nat} (hv : t_oko n v = true) : v.map σ' = v.map σ := by
  cases v with
  | none => rfl
  | some k =>
    simp only [t_oko, Bool.or_eq_true, decide_eq_true_eq] at hv
    show some _ = some _
    rw [h _ hv]
theorem t_oks_eq {n : Nat} {σ σ' : Nat → Nat} (h : ∀ k, k < n ∨ 1000 ≤ k → σ' k = σ k) {st : List Value} (hv : st.all (t_okv n) = true) : st.map (t_v σ') = st.map (t_v σ) :=
  List.map_congr_left (fun v hm => t_okv_eq h (List.all_eq_true.mp hv v hm))
theorem t_okl_eq {n : Nat} {σ σ' : Nat → Nat} (h : ∀ k, k < n ∨ 1000 ≤ k → σ' k = σ k) {lv : tL} (hv : t_okl n lv = true) : t_l σ' lv = t_l σ lv := by
  unfold t_l
  refine List.map_congr_left (fun q hm => ?_)
  rw [t_okv_eq h (List.all_eq_true.mp hv q hm)]
theorem t_oke_eq {n : Nat} {σ σ' : Nat → Nat} (kd : Nat → ClassId) (h : ∀ k, k < n ∨ 1000 ≤ k → σ' k = σ k) {e : tE} (hv : t_oke n e = true) : t_e σ' kd e = t_e σ kd e := by
  rcases e with ⟨k, a | a | a⟩ | ⟨k, fs⟩
  · rfl
  · rfl
  · simp only [t_oke] at hv
    show Sum.inl _ = Sum.inl _
    have e1 : (fun i => (a.getD i none).map σ') = (fun i => (a.getD i none).map σ) := by
      funext i
      refine t_oko_eq h ?_
      rw [List.getD_eq_getElem?_getD]
      cases ha : a[i]? with
      | none => rfl
      | some x => exact List.all_eq_true.mp hv x (List.mem_of_getElem? ha)
    rw [e1]
  · simp only [t_oke] at hv
    show Sum.inr _ = Sum.inr _
    rw [t_oks_eq h hv]
theorem t_okh_eq {n : Nat} {σ σ' : Nat → Nat} (kd : Nat → ClassId) (h : ∀ k, k < n ∨ 1000 ≤ k → σ' k = σ k) {th : tH} (hn : th.length ≤ n) (hv : t_okh n th = true) : t_w σ' kd th = t_w σ kd th := by
  apply List.ext_getElem?
  intro j
  unfold t_w
  rw [List.getElem?_mapIdx, List.getElem?_mapIdx]
  cases hj : th[j]? with
  | none => rfl
  | some e =>
    show some (σ' j, t_e σ' kd e) = some (σ j, t_e σ kd e)
    have hl := (List.getElem?_eq_some_iff.mp hj).1
    rw [t_oke_eq kd h (List.all_eq_true.mp hv e (List.mem_of_getElem? hj)), h j (Or.inl (by omega))]
def t_dfl (a1 : Nat) : Option (List Value) := (vwCl[a1]?).map (fun q => (List.range q.2.2).map (fun k => defaultValue (t_ty a1 k)))
theorem t_dfl_v (σ : Nat → Nat) (ty : FieldType) : t_v σ (defaultValue ty) = defaultValue ty := by cases ty <;> rfl
def t_A (ins : Instr) (pc a1 : Nat) (st : List Value) (n : Nat) : Option (Nat × List Value × tH × Nat) := match ins with
  | .new _ => (t_dfl a1).map (fun fs => (pc + 3, .ref n :: st, [.inr (a1, fs)], fs.length))
  | .newarray ty => t_i1 st fun z r => if ¬ z < 0 ∧ z.toNatClampNeg ≤ 1000 then (match ty with
      | .int => some (pc + 2, .ref n :: r, [.inl (0, .inl (List.replicate z.toNatClampNeg 0))], z.toNatClampNeg)
      | .long => some (pc + 2, .ref n :: r, [.inl (1, .inr (.inl (List.replicate z.toNatClampNeg 0)))], z.toNatClampNeg)
      | _ => none) else none
  | .anewarray _ => t_i1 st fun z r => if ¬ z < 0 ∧ z.toNatClampNeg ≤ 1000 then some (pc + 3, .ref n :: r, [.inl (2, .inr (.inr (List.replicate z.toNatClampNeg none)))], z.toNatClampNeg) else none
  | .multianewarray _ d => t_i2 st fun z y r => if d = 2 ∧ ¬ z < 0 ∧ z.toNatClampNeg ≤ 1000 ∧ ¬ y < 0 ∧ y.toNatClampNeg ≤ 1000 then
      some (pc + 4, .ref n :: r, .inl (3, .inr (.inr ((List.range z.toNatClampNeg).map (fun i => some (n + 1 + i))))) :: List.replicate z.toNatClampNeg (.inl (1, .inr (.inl (List.replicate y.toNatClampNeg 0)))), z.toNatClampNeg + z.toNatClampNeg * y.toNatClampNeg) else none
  | _ => none
def t_needA (own : String) (ins : Instr) (a1 : Nat) : List Jvm.Cond := match ins with
  | .new k => match vwCl[a1]? with
    | some q => [.classLink own k q.1]
    | none => []
  | .newarray .int => [.arrayClass .int]
  | .newarray .long => [.arrayClass .long]
  | .anewarray k => [.classLink own k "NineTrees$Shelf"]
  | .multianewarray k _ => [.classLink own k "[[J", .arrayClass .long]
  | _ => []
section TA
variable {p : Program} {l : Launch} {e : Env} {R : Room} {s : State} {m : MethodId} {args : Array Value} {below : List Frame} {meth : Method} {c : Code} {H : Heap} {locs : List Loc} {cells slots : Nat} {Q : State → Prop}
variable {cc : ByteArray} {pc : Nat} {ls : Array Slot} {σ : Nat → Nat} {kd : Nat → ClassId} {a1 n1 : Nat} {st st' : List Value} {th add : tH} {pc' len : Nat} {own : String} {ins : Instr} {D : va_G} {A : Nat → Prop}
theorem t_one {q : Nat} {σ : Nat → Nat} {th : tH} {ec : tE} {ew : va_E} (kd : Nat → ClassId) (hl : th.length < 1000) (hw : t_okh th.length th = true) (he : ∀ σ', t_e σ' kd ec = ew) :
    (∀ k, k < th.length ∨ (th ++ [ec]).length ≤ k → (fun k => if k = th.length then q else σ k) k = σ k) ∧ t_w σ kd th ++ [(q, ew)] = t_w (fun k => if k = th.length then q else σ k) kd (th ++ [ec]) := by
  refine ⟨fun k hk => ?_, ?_⟩
  · have : k ≠ th.length := by
      rw [List.length_append] at hk
      simp at hk
      omega
    simp [this]
  · rw [t_w_app, he, t_okh_eq kd (σ := σ) (σ' := fun k => if k = th.length then q else σ k) (fun k hk => ?_) (Nat.le_refl _) hw]
    · simp
    · have : k ≠ th.length := by omega
      simp [this]
set_option maxHeartbeats 4000000 in
theorem t_A_ok (hx : p.tables.exec = Jvm.exec) (hb : c.code = cc) (hown : s.vm.findClass own = some m.cls) (hts : ∀ w ∈ gt, w.before args s = true) (hd : decode cc pc = .ok (ins, len)) (hlen : t_len ins = 0 ∨ t_len ins = len) (hn : ∀ w ∈ t_needA own ins a1, w ∈ gt)
    (hK : va_K D vwCl (t_tys kd) s) (hP : va_P D vwCl (t_w σ kd th) H) (hD : va_D A (t_w σ kd th)) (hS : va_S A s.heap H locs) (hA : ∀ q, s.heap.size ≤ q → A q) (hE : t_Ex σ A s s.heap) (hs : t_A ins pc a1 st th.length = some (pc', st', add, n1))
    (hw : t_okh th.length th = true) (hst : st.all (t_okv th.length) = true) (hl : th.length + add.length ≤ 1000) (hc1 : cells + add.length ≤ R.cells) (hc2 : slots + n1 ≤ R.slots)
    (k : ∀ (σ' : Nat → Nat) (H1 : Heap), (∀ k, k < th.length ∨ (th ++ add).length ≤ k → σ' k = σ k) → va_P D vwCl (t_w σ' kd (th ++ add)) H1 → va_D A (t_w σ' kd (th ++ add)) → va_S A s.heap H1 locs → W p l e R s m args below meth c H1 locs (cells + add.length) (slots + n1) Q (F0 m pc' ls (st'.map (t_v σ')))) : W p l e R s m args below meth c H locs cells slots Q (F0 m pc ls (st.map (t_v σ))) := by
  have ags : ∀ (q : Nat) (r : List Value), r.all (t_okv th.length) = true → th.length < 1000 → ((Value.ref th.length) :: r).map (t_v (fun k => if k = th.length then q else σ k)) = .ref q :: r.map (t_v σ) := by
    intro q r hr hl
    show t_v _ (.ref th.length) :: _ = _
    rw [t_oks_eq (σ := σ) (σ' := fun k => if k = th.length then q else σ k) (fun k hk => ?_) hr]
    · simp [t_v]
    · have : k ≠ th.length := by omega
      simp [this]
  cases ins
  case new n =>
    cases hlen.resolve_left (by simp [t_len])
    simp only [t_A, t_dfl] at hs
    cases hq : vwCl[a1]? with
    | none => rw [hq] at hs; cases hs
    | some q0 =>
      rw [hq] at hs
      simp only [Option.map_some, Option.some.injEq, Prod.mk.injEq] at hs
      obtain ⟨rfl, rfl, rfl, rfl⟩ := hs
      have hw1 : Cond.classLink own n q0.1 ∈ gt := hn _ (by simp [t_needA, hq])
      have hi := t_ci a1 q0 hq
      have elen : ((List.range q0.2.2).map (fun k => defaultValue (t_ty a1 k))).length = q0.2.2 := by simp
      simp only [List.length_singleton] at hl hc1 k
      rw [elen] at hc2
      refine va_new (Ts := gt) (cl := vwCl) (ci := a1) (C := q0.1) (T := q0.2.1) (N := q0.2.2) (fs := (List.range q0.2.2).map (fun k => defaultValue (t_ty a1 k))) hx hb hts (t_cw a1 q0 hq) (t_ty a1) (t_ct a1 q0 hq) hown (hts _ hw1) (hts _ (hi _ (by simp))) (hts _ (hi _ (by simp))) hK hP hD hS hA hq (fun j hj => ?_) hc1 hc2 hd (fun q H1 j1 j2 j3 => ?_)
      · show _ = ((List.range q0.2.2).map (fun k => defaultValue (t_ty a1 k))).getD j .null
        rw [List.getD_eq_getElem?_getD, List.getElem?_map, List.getElem?_range hj]
        rfl
      · obtain ⟨g1, g2⟩ := t_one (q := q) (σ := σ) (ec := .inr (a1, (List.range q0.2.2).map (fun k => defaultValue (t_ty a1 k)))) (ew := .inr (a1, (List.range q0.2.2).map (fun k => defaultValue (t_ty a1 k)))) kd (by omega) hw (fun σ' => by
          show Sum.inr _ = Sum.inr _
          rw [List.map_map]
          congr 2
          exact List.map_congr_left (fun x _ => t_dfl_v σ' _))
        rw [g2] at j1 j2
        have k2 := k _ H1 g1 j1 j2 j3
        rw [ags q st hst (by omega), elen] at k2
        exact k2
  case newarray ty =>
    cases hlen.resolve_left (by simp [t_len])
    simp only [t_A] at hs
    obtain ⟨z, r, e1, hs2⟩ := t_i1_of hs
    subst e1
    clear hs
    have hr : r.all (t_okv th.length) = true := by
      rw [List.all_cons, Bool.and_eq_true] at hst
      exact hst.2
    split at hs2
    · rename_i hz
      obtain ⟨hz1, hz2⟩ := hz
      split at hs2
      · simp only [Option.some.injEq, Prod.mk.injEq] at hs2
        obtain ⟨rfl, rfl, rfl, rfl⟩ := hs2
        simp only [List.length_singleton] at hl hc1 k
        have hw1 : Cond.arrayClass .int ∈ gt := hn _ (by simp [t_needA])
        have e0 : ∀ i, (List.replicate z.toNatClampNeg (0 : Int32)).getD i 0 = 0 := fun i => by
          rw [List.getD_eq_getElem?_getD, List.getElem?_replicate]
          split <;> rfl
        refine va_newa (atype := .int) (a0 := ((List.replicate z.toNatClampNeg (0 : Int32)).length, .inl (fun i => (List.replicate z.toNatClampNeg (0 : Int32)).getD i 0))) hx hb (hts _ hw1) rfl hK hP hD hS hA (fun cA => ?_) hz1 rfl (by show _ * 4 ≤ _; omega) hc1 hc2 hd (fun q cA H1 j0 j1 j2 j3 => ?_)
        · show arrV cA (List.replicate z.toNatClampNeg (0 : Int32)).length (fun j => .int ((List.replicate z.toNatClampNeg (0 : Int32)).getD j 0)) = _
          rw [List.length_replicate]
          congr 1
          funext j
          rw [e0]
          rfl
        · have ec : cA = kd 0 := by
            have h1 := (j0.2 4 (cA, .int) rfl).2
            have h2 := (hK.2 0 (kd 0, .int) rfl).2
            exact Option.some.inj (h1.symm.trans h2)
          subst ec
          obtain ⟨g1, g2⟩ := t_one (q := q) (σ := σ) (ec := .inl (0, .inl (List.replicate z.toNatClampNeg 0))) kd (by omega) hw (fun σ' => rfl)
          rw [g2] at j1 j2
          have k2 := k _ H1 g1 j1 j2 j3
          rw [ags q r hr (by omega)] at k2
          exact k2
      · simp only [Option.some.injEq, Prod.mk.injEq] at hs2
        obtain ⟨rfl, rfl, rfl, rfl⟩ := hs2
        simp only [List.length_singleton] at hl hc1 k
        have hw1 : Cond.arrayClass .long ∈ gt := hn _ (by simp [t_needA])
        have e0 : ∀ i, (List.replicate z.toNatClampNeg (0 : Int64)).getD i 0 = 0 := fun i => by
          rw [List.getD_eq_getElem?_getD, List.getElem?_replicate]
          split <;> rfl
        refine va_newa (atype := .long) (a0 := ((List.replicate z.toNatClampNeg (0 : Int64)).length, .inr (.inl (fun i => (List.replicate z.toNatClampNeg (0 : Int64)).getD i 0)))) hx hb (hts _ hw1) rfl hK hP hD hS hA (fun cA => ?_) hz1 rfl (by show _ * 8 ≤ _; omega) hc1 hc2 hd (fun q cA H1 j0 j1 j2 j3 => ?_)
        · show arrV cA (List.replicate z.toNatClampNeg (0 : Int64)).length (fun j => .long ((List.replicate z.toNatClampNeg (0 : Int64)).getD j 0)) = _
          rw [List.length_replicate]
          congr 1
          funext j
          rw [e0]
          rfl
        · have ec : cA = kd 1 := by
            have h1 := (j0.2 4 (cA, .long) rfl).2
            have h2 := (hK.2 1 (kd 1, .long) rfl).2
            exact Option.some.inj (h1.symm.trans h2)
          subst ec
          obtain ⟨g1, g2⟩ := t_one (q := q) (σ := σ) (ec := .inl (1, .inr (.inl (List.replicate z.toNatClampNeg 0)))) kd (by omega) hw (fun σ' => rfl)
          rw [g2] at j1 j2
          have k2 := k _ H1 g1 j1 j2 j3
          rw [ags q r hr (by omega)] at k2
          exact k2
      · cases hs2
    · cases hs2
  case anewarray n =>
    cases hlen.resolve_left (by simp [t_len])
    simp only [t_A] at hs
    obtain ⟨z, r, e1, hs2⟩ := t_i1_of hs
    subst e1
    clear hs
    have hr : r.all (t_okv th.length) = true := by
      rw [List.all_cons, Bool.and_eq_true] at hst
      exact hst.2
    split at hs2
    · rename_i hz
      obtain ⟨hz1, hz2⟩ := hz
      simp only [Option.some.injEq, Prod.mk.injEq] at hs2
      obtain ⟨rfl, rfl, rfl, rfl⟩ := hs2
      simp only [List.length_singleton] at hl hc1 k
      have hw1 : Cond.classLink own n "NineTrees$Shelf" ∈ gt := hn _ (by simp [t_needA])
      refine va_newq hx hb hown (hts _ hw1) hE.2.2.2.2.2.1 hK hP hD hS hA hz1 rfl (by omega) hc1 hc2 hd (fun q cA H1 j0 j1 j2 j3 => ?_)
      have ec : cA = kd 2 := by
        obtain ⟨kA, comp, -, -, -, h1⟩ := (j0.2 4 (cA, .object "NineTrees$Shelf") rfl).2
        obtain ⟨kB, comp2, -, -, -, h2⟩ := (hK.2 2 (kd 2, .object "NineTrees$Shelf") rfl).2
        exact Option.some.inj (h1.symm.trans h2)
      subst ec
      obtain ⟨g1, g2⟩ := t_one (q := q) (σ := σ) (ec := .inl (2, .inr (.inr (List.replicate z.toNatClampNeg none)))) (ew := .inl (kd 2, z.toNatClampNeg, .inr (.inr (.inr (.inr (fun _ => none)))))) kd (by omega) hw (fun σ' => by
        show Sum.inl (kd 2, (List.replicate z.toNatClampNeg (none : Option Nat)).length, Sum.inr (Sum.inr (Sum.inr (Sum.inr (fun i => ((List.replicate z.toNatClampNeg (none : Option Nat)).getD i none).map σ'))))) = _
        have ef : (fun i => ((List.replicate z.toNatClampNeg (none : Option Nat)).getD i none).map σ') = (fun _ => none) := by
          funext i
          rw [List.getD_eq_getElem?_getD, List.getElem?_replicate]
          split <;> rfl
        rw [List.length_replicate, ef])
      rw [g2] at j1 j2
      have k2 := k _ H1 g1 j1 j2 j3
      rw [ags q r hr (by omega)] at k2
      exact k2
    · cases hs2
  case multianewarray n d =>
    cases hlen.resolve_left (by simp [t_len])
    simp only [t_A] at hs
    obtain ⟨z, y, r, e1, hs2⟩ := t_i2_of hs
    subst e1
    clear hs
    have hr : r.all (t_okv th.length) = true := by
      rw [List.all_cons, Bool.and_eq_true, List.all_cons, Bool.and_eq_true] at hst
      exact hst.2.2
    split at hs2
    · rename_i hz
      obtain ⟨rfl, hz1, hz2, hy1, hy2⟩ := hz
      simp only [Option.some.injEq, Prod.mk.injEq] at hs2
      obtain ⟨rfl, rfl, rfl, rfl⟩ := hs2
      have hw1 : Cond.classLink own n "[[J" ∈ gt := hn _ (by simp [t_needA])
      have hw2 : Cond.arrayClass .long ∈ gt := hn _ (by simp [t_needA])
      have hcy : s.vm.findClass (FieldType.array .long).toString = some (kd 1) := (hK.2 1 (kd 1, .long) rfl).2
      simp only [List.length_cons, List.length_replicate] at hl hc1 k
      have hPX : va_P D vwCl (t_w σ kd th ++ va_pl [] (fun _ => .inr (0, []))) H := by
        show va_P D vwCl (t_w σ kd th ++ []) H
        rw [List.append_nil]
        exact hP
      have hDX : va_D A (t_w σ kd th ++ va_pl [] (fun _ => .inr (0, []))) := by
        show va_D A (t_w σ kd th ++ [])
        rw [List.append_nil]
        exact hD
      have hmul : z.toNatClampNeg * y.toNatClampNeg ≤ 1000 * 1000 := Nat.mul_le_mul hz2 hy2
      refine va_mna (ty := .long) (cy := kd 1) (z := (y.toNatClampNeg, .inr (.inl (fun _ => 0)))) hx hb hown (hts _ hw1) hE.2.2.2.2.2.2 (hts _ hw2) hcy hK hPX hDX hS hA hz1 hy1 rfl rfl (by omega) (by show _ * 8 ≤ _; omega) (by omega) rfl rfl (by omega) (by omega) (fun cA => ?_) hd (fun q rr cA H1 _ _ j0 j1 j2 j3 => ?_)
      · show _ = arrV cA y.toNatClampNeg (fun _ => .long 0)
        rw [← arrV_new]
        rfl
      · have ec : cA = kd 3 := by
          have h1 := (j0.2 4 (cA, .array .long) rfl).2
          have h2 := (hK.2 3 (kd 3, .array .long) rfl).2
          exact Option.some.inj (h1.symm.trans h2)
        subst ec
        have ein : va_pl ([] ++ (List.range z.toNatClampNeg).map rr) (vr_up (fun _ => .inr (0, [])) ((List.range z.toNatClampNeg).map rr) (.inl (kd 1, (y.toNatClampNeg, .inr (.inl (fun _ => 0)))))) = (List.range z.toNatClampNeg).map (fun i => ((rr i, .inl (kd 1, (y.toNatClampNeg, .inr (.inl (fun _ => 0))))) : Nat × va_E)) := by
          unfold va_pl
          rw [List.nil_append, List.map_map]
          refine List.map_congr_left (fun i hi => ?_)
          show (rr i, vr_up _ _ _ (rr i)) = _
          rw [vr_up_in (List.mem_map.mpr ⟨i, hi, rfl⟩)]
        rw [ein] at j1 j2
        have hsig : ∀ k, k < th.length ∨ th.length + (z.toNatClampNeg + 1) ≤ k → (fun k => if k = th.length then q else if th.length < k ∧ k < th.length + (z.toNatClampNeg + 1) then rr (k - th.length - 1) else σ k) k = σ k := by
          intro k hk
          have h1 : k ≠ th.length := by omega
          have h2 : ¬ (th.length < k ∧ k < th.length + (z.toNatClampNeg + 1)) := by omega
          simp [h1, h2]
        have hsig2 : ∀ k, k < th.length ∨ 1000 ≤ k → (fun k => if k = th.length then q else if th.length < k ∧ k < th.length + (z.toNatClampNeg + 1) then rr (k - th.length - 1) else σ k) k = σ k := fun k hk => hsig k (by omega)
        generalize hσ : (fun k => if k = th.length then q else if th.length < k ∧ k < th.length + (z.toNatClampNeg + 1) then rr (k - th.length - 1) else σ k) = σ' at hsig hsig2
        have eσ0 : σ' th.length = q := by rw [← hσ]; simp
        have eσ1 : ∀ i, i < z.toNatClampNeg → σ' (th.length + 1 + i) = rr i := fun i hi => by
          rw [← hσ]
          have h1 : th.length + 1 + i ≠ th.length := by omega
          have h2 : th.length < th.length + 1 + i ∧ th.length + 1 + i < th.length + (z.toNatClampNeg + 1) := by omega
          have h3 : th.length + 1 + i - th.length - 1 = i := by omega
          simp only [h1, if_false, h2, and_self, if_true, h3]
        have ew : (t_w σ kd th ++ [(q, .inl (kd 3, z.toNatClampNeg, .inr (.inr (.inr (.inr (fun i => if i < z.toNatClampNeg then some (rr i) else none))))))]) ++ (List.range z.toNatClampNeg).map (fun i => ((rr i, .inl (kd 1, (y.toNatClampNeg, .inr (.inl (fun _ => 0))))) : Nat × va_E)) = t_w σ' kd (th ++ (.inl (3, .inr (.inr ((List.range z.toNatClampNeg).map (fun i => some (th.length + 1 + i))))) :: List.replicate z.toNatClampNeg (.inl (1, .inr (.inl (List.replicate y.toNatClampNeg 0)))))) := by
          unfold t_w
          rw [List.mapIdx_append]
          have e1 : List.mapIdx (fun i e => (σ' i, t_e σ' kd e)) th = t_w σ kd th := t_okh_eq kd hsig2 (Nat.le_refl _) hw
          rw [e1]
          rw [List.append_assoc]
          show _ = t_w σ kd th ++ _
          congr 1
          rw [List.mapIdx_cons]
          show _ :: _ = _ :: _
          congr 1
          · rw [Nat.zero_add, eσ0]
            show (q, Sum.inl _) = (q, Sum.inl (kd 3, ((List.range z.toNatClampNeg).map (fun i => some (th.length + 1 + i))).length, Sum.inr (Sum.inr (Sum.inr (Sum.inr (fun i => (((List.range z.toNatClampNeg).map (fun i => some (th.length + 1 + i))).getD i none).map σ'))))))
            have ef : (fun i => (((List.range z.toNatClampNeg).map (fun i => some (th.length + 1 + i))).getD i none).map σ') = (fun i => if i < z.toNatClampNeg then some (rr i) else none) := by
              funext i
              rw [List.getD_eq_getElem?_getD, List.getElem?_map]
              by_cases hi : i < z.toNatClampNeg
              · rw [if_pos hi, List.getElem?_range hi]
                show some (σ' (th.length + 1 + i)) = _
                rw [eσ1 i hi]
              · rw [if_neg hi, List.getElem?_eq_none (by rw [List.length_range]; omega)]
                rfl
            rw [List.length_map, List.length_range, ef]
          · show List.map _ _ = _
            apply List.ext_getElem?
            intro j
            rw [List.getElem?_map, List.getElem?_mapIdx]
            by_cases hj : j < z.toNatClampNeg
            · rw [List.getElem?_range hj, List.getElem?_replicate, if_pos hj]
              show some (rr j, Sum.inl (kd 1, (y.toNatClampNeg, Sum.inr (Sum.inl (fun _ => 0))))) = some (σ' (j + 1 + th.length), Sum.inl (kd 1, (List.replicate y.toNatClampNeg (0 : Int64)).length, Sum.inr (Sum.inl (fun i => (List.replicate y.toNatClampNeg (0 : Int64)).getD i 0))))
              have ef : (fun i => (List.replicate y.toNatClampNeg (0 : Int64)).getD i 0) = (fun _ => 0) := by
                funext i
                rw [List.getD_eq_getElem?_getD, List.getElem?_replicate]
                split <;> rfl
              rw [show j + 1 + th.length = th.length + 1 + j by omega, eσ1 j hj, List.length_replicate, ef]
            · rw [List.getElem?_eq_none (by rw [List.length_range]; omega), List.getElem?_eq_none (by rw [List.length_replicate]; omega)]
              rfl
        rw [ew] at j1 j2
        have k2 := k σ' H1 (fun k hk => hsig k (by rw [List.length_append, List.length_cons, List.length_replicate] at hk; omega)) j1 j2 j3
        have est : ((Value.ref th.length) :: r).map (t_v σ') = .ref q :: r.map (t_v σ) := by
          show Value.ref (σ' th.length) :: _ = _
          rw [eσ0, t_oks_eq hsig2 hr]
        rw [est, show cells + (z.toNatClampNeg + 1) = cells + 1 + z.toNatClampNeg by omega, show slots + (z.toNatClampNeg + z.toNatClampNeg * y.toNatClampNeg) = slots + z.toNatClampNeg + z.toNatClampNeg * y.toNatClampNeg by omega] at k2
        exact k2
    · cases hs2
  all_goals cases hs
end TA
