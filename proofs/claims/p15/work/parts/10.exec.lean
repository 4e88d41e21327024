/-! ===== the small machine runs ===== -/
abbrev t_M : Type := MethodName × ByteArray × Nat × Option FieldType × Nat × Nat
abbrev t_Res : Type := Option Value × tH × Nat
abbrev t_Ty : Type := Option (List Int32) → Nat → Nat → Nat → Nat → tL → List Value → tH → Nat → Option t_Res
def t_sum (st : List Value) : Nat := (st.map fun v => v.category).sum
/-- the arguments of a call off the stack -/
def t_cut (cat na rc : Nat) (st : List Value) (th : tH) : Option (List Value × List Value) :=
  if st.length < na then none
  else if cat = 21 ∨ cat = 24 then some ((st.take na).reverse, st.drop na)
  else match st.drop na with
    | .ref b :: rest =>
      if cat = 22 ∨ cat = 25 then some (.ref b :: (st.take na).reverse, rest)
      else if cat = 20 then match th[b]? with
        | some (.inr (ci, _)) => if ci = rc then some (.ref b :: (st.take na).reverse, rest) else none
        | _ => none
      else if 1001 ≤ b ∧ b < 1011 then some (.ref b :: (st.take na).reverse, rest) else none
    | _ => none
def t_ret (cat : Nat) (st : List Value) : Option (Option Value) := match st with
  | [] => if cat = 34 then some none else none
  | [v] => match v with
    | .int x => if cat = 30 ∨ (cat = 31 ∧ (x = 0 ∨ x = 1)) ∨ (cat = 35 ∧ 0 ≤ x ∧ x ≤ 65535) ∨ (cat = 36 ∧ x = 0) then some (some (.int x)) else none
    | .long x => if cat = 32 then some (some (.long x)) else none
    | .ref x => if cat = 33 then some (some (.ref x)) else none
    | .null => if cat = 33 then some (some .null) else none
    | _ => none
  | _ => none
/-- Math.max, Math.min, Math.abs -/
def t_math (a2 : Nat) (st : List Value) : Option (List Value) :=
  if a2 = 0 then t_i2 st fun x y r => if t_sum r ≤ 8 then some (.int (if x < y then y else x) :: r) else none
  else if a2 = 1 then t_i2 st fun x y r => if t_sum r ≤ 8 then some (.int (if y < x then y else x) :: r) else none
  else t_i1 st fun x r => if t_sum r ≤ 8 then some (.int (if 0 ≤ x then x else 0 - x) :: r) else none
def t_step (ct : Nat → Nat → Option tI) (mi : Nat → Option (Nat × Nat × Nat)) (ih : t_Ty) : t_Ty := fun xo d i nL pc lv st th ns =>
  match ct i pc with
  | none => none
  | some (cat, ins, a1, a2) =>
    if cat < 3 then match t_P ins pc a1 nL lv st with
      | some (pc', lv', st') => ih xo d i nL pc' lv' st' th ns
      | none => none
    else if cat < 8 then match t_R xo cat ins pc a1 a2 st th with
      | some (pc', st') => ih xo d i nL pc' lv st' th ns
      | none => none
    else if cat < 15 then match d with
      | 0 => none
      | _ + 1 => match t_W cat ins pc a1 a2 st th with
        | some (pc', st', th') => ih xo d i nL pc' lv st' th' ns
        | none => none
    else if cat < 20 then match t_A ins pc a1 st th.length with
      | some (pc', st', add, n1) => if (t_okh th.length th && (st.all (t_okv th.length) && (t_okl th.length lv && decide (th.length + add.length ≤ 1000)))) = true then ih xo d i nL pc' lv st' (th ++ add) (ns + n1) else none
      | none => none
    else if cat < 30 then match d with
      | 0 => none
      | d' + 1 =>
        if cat = 26 then match st with
          | .ref _ :: r => if t_sum r ≤ 8 then ih xo d i nL (pc + 3) lv r th ns else none
          | _ => none
        else if cat = 28 then match t_math a2 st with
          | some st' => ih xo d i nL (pc + 3) lv st' th ns
          | none => none
        else match mi a1 with
          | none => none
          | some (nL', na, rc) => match t_cut cat na rc st th with
            | none => none
            | some (vs, rest) => if t_sum rest ≤ 8 ∧ (lg_sl vs).length ≤ nL' then
                match ih none d' a1 nL' 0 (lv_args 0 vs) [] th 0 with
                | none => none
                | some (r, th', n1) => if th'.length = th.length ∨ (t_okl th.length lv && rest.all (t_okv th.length)) = true then ih xo d i nL (pc + 3) lv (r.toList ++ rest) th' (ns + n1) else none
              else none
    else match t_ret cat st with
      | some r => some (r, th, ns)
      | none => none
noncomputable def t_exec (ct : Nat → Nat → Option tI) (mi : Nat → Option (Nat × Nat × Nat)) (n : Nat) : t_Ty := Nat.rec (fun _ _ _ _ _ _ _ _ _ => none) (fun _ ih => t_step ct mi ih) n
theorem t_exec_s (ct : Nat → Nat → Option tI) (mi : Nat → Option (Nat × Nat × Nat)) (n : Nat) : t_exec ct mi (n + 1) = t_step ct mi (t_exec ct mi n) := rfl
/-- the pool's words of a call -/
def t_needC (own : String) (cat : Nat) (ins : Instr) (y : MethodName) : List Jvm.Cond := match ins with
  | .invokevirtual k => [.methodLink own k y, .instanceMethod y, .selects y.cls y y]
  | .invokestatic k => if cat = 24 then [.static y] else [.methodLink own k y, .static y]
  | .invokespecial k => if cat = 26 then [.methodLink own k objectInit, .instanceMethod objectInit, .code objectInit ⟨#[0xb1]⟩ 1 none] else if cat = 25 then [.instanceMethod y] else [.methodLink own k y, .instanceMethod y]
  | _ => []
def t_okC (own : String) (cat : Nat) (ins : Instr) (y : MethodName) : Bool := match ins with
  | .invokevirtual _ => cat == 20 || (cat == 27 && y.cls == "java/lang/String")
  | .invokestatic k => cat == 21 || (cat == 24 && t_nst.any (fun q => q.1 == own && (q.2.1 == k && decide (q.2.2 = y))))
  | .invokespecial k => cat == 26 || ((cat == 22 || (cat == 25 && t_nst.any (fun q => q.1 == own && (q.2.1 == k && decide (q.2.2 = y))))) && y.name == "<init>")
  | _ => false
def t_needM (own : String) (ins : Instr) (a2 : Nat) : List Jvm.Cond := match ins with
  | .invokestatic k => if a2 = 0 then [.methodLink own k Lib.Math.max.name, .static Lib.Math.max.name, .initialized "java/lang/Math", .code Lib.Math.max.name Lib.Math.max.code 2 (some .int)] else if a2 = 1 then [.methodLink own k Lib.Math.min.name, .static Lib.Math.min.name, .initialized "java/lang/Math", .code Lib.Math.min.name Lib.Math.min.code 2 (some .int)]
    else [.methodLink own k Lib.Math.abs.name, .static Lib.Math.abs.name, .initialized "java/lang/Math", .code Lib.Math.abs.name Lib.Math.abs.code 1 (some .int)]
  | _ => []
def t_okM (ins : Instr) : Bool := match ins with
  | .invokestatic _ => true
  | _ => false
def t_okT (cat : Nat) (ins : Instr) (ret : Option FieldType) : Bool := match ret with
  | none => cat == 34 && decide (ins = .return_)
  | some .int => cat == 30 && decide (ins = .ireturn)
  | some .boolean => cat == 31 && decide (ins = .ireturn)
  | some .char => cat == 35 && decide (ins = .ireturn)
  | some .byte => cat == 36 && decide (ins = .ireturn)
  | some .long => cat == 32 && decide (ins = .lreturn)
  | some (.object _) => cat == 33 && decide (ins = .areturn)
  | some (.array _) => cat == 33 && decide (ins = .areturn)
  | _ => false
def t_nd (own : String) (ys : Nat → Option MethodName) (en : tI) : List Jvm.Cond :=
  if en.1 < 3 then t_kst own en.2.1 en.2.2.1 else if en.1 < 8 then t_needR own en.1 en.2.1 en.2.2.1 en.2.2.2 else if en.1 < 15 then t_needW own en.2.1 en.2.2.1 en.2.2.2 else if en.1 < 20 then t_needA own en.2.1 en.2.2.1
  else if en.1 < 30 then if en.1 = 28 then t_needM own en.2.1 en.2.2.2 else match ys en.2.2.1 with
    | some y => t_needC own en.1 en.2.1 y
    | none => []
  else []
def t_okI (own mn : String) (ret : Option FieldType) (ys : Nat → Option MethodName) (pc : Nat) (en : tI) : Bool :=
  if en.1 < 3 then t_br en.2.1 pc en.2.2.1 else if en.1 < 8 then t_okR own en.1 en.2.1 en.2.2.1 en.2.2.2 else if en.1 < 15 then t_okW own mn en.1 en.2.1 en.2.2.1 en.2.2.2 else if en.1 < 20 then true
  else if en.1 < 30 then if en.1 = 28 then t_okM en.2.1 else match ys en.2.2.1 with
    | some y => t_okC own en.1 en.2.1 y
    | none => false
  else t_okT en.1 en.2.1 ret
/-- the table of the code says what the bytes say, and the pool -/
def t_HC (ms : List t_M) (ct : Nat → Nat → Option tI) : Prop := ∀ (i pc : Nat) (en : tI), ct i pc = some en → ∃ q : t_M, ms[i]? = some q ∧ (∃ len, decode q.2.1 pc = .ok (en.2.1, len) ∧ (t_len en.2.1 = 0 ∨ t_len en.2.1 = len)) ∧ t_okI q.1.cls q.1.name q.2.2.2.1 (fun j => (ms[j]?).map (fun q => q.1)) pc en = true ∧ ∀ w ∈ t_nd q.1.cls (fun j => (ms[j]?).map (fun q => q.1)) en, w ∈ gt
/-- what a method that is called has -/
def t_mok (q : t_M) : Prop := Cond.code q.1 q.2.1 q.2.2.1 q.2.2.2.1 ∈ gt ∧ Cond.initialized q.1.cls ∈ gt ∧ plainName q.1.cls = true ∧ (q.1.cls ≠ "java/lang/invoke/MethodHandle" ∧ q.1.cls ≠ "java/lang/invoke/VarHandle") ∧ (parseMethodDescriptor q.1.desc).map (fun d => d.parameters.length) = some q.2.2.2.2.1 ∧ q.2.2.1 ≤ 19 ∧ (q.1.name = "<init>" → q.2.2.2.1 = none) ∧ ∀ z, vwCl[q.2.2.2.2.2]? = some z → z.1 = q.1.cls
def t_HM (ms : List t_M) (mi : Nat → Option (Nat × Nat × Nat)) : Prop := ∀ (j L na rc : Nat), mi j = some (L, na, rc) → ∃ q : t_M, ms[j]? = some q ∧ q.2.2.1 = L ∧ q.2.2.2.2.1 = na ∧ q.2.2.2.2.2 = rc ∧ rc ≤ 8 + 2 ∧ t_mok q
theorem t_W_len {cat pc a1 a2 pc' : Nat} {ins : Instr} {st st' : List Value} {th th' : tH} (h : t_W cat ins pc a1 a2 st th = some (pc', st', th')) : th'.length = th.length := by
  cases ins <;> simp only [t_W, t_rii, t_rij, t_rir] at h <;> (try cases h) <;> (repeat' split at h) <;> (first | (cases h; done) | (cases h; simp))
theorem t_lv_args (σ : Nat → Nat) : ∀ (vs : List Value) (i : Nat), lv_args i (vs.map (t_v σ)) = t_l σ (lv_args i vs)
  | [], _ => rfl
  | v :: vs, i => by
    show (i, t_v σ v) :: lv_args (if (t_v σ v).category = 2 then i + 2 else i + 1) (vs.map (t_v σ)) = (i, t_v σ v) :: t_l σ (lv_args (if v.category = 2 then i + 2 else i + 1) vs)
    rw [t_lv_args σ vs, t_v_cat]
theorem t_lg_sl (σ : Nat → Nat) : ∀ (vs : List Value), (lg_sl (vs.map (t_v σ))).length = (lg_sl vs).length
  | [] => rfl
  | v :: vs => by
    have ih := t_lg_sl σ vs
    unfold lg_sl at ih ⊢
    rw [List.map_cons, List.flatMap_cons, List.flatMap_cons, List.length_append, List.length_append, ih, t_v_cat]
    split <;> rfl
theorem t_sum_v (σ : Nat → Nat) (st : List Value) : ((st.map (t_v σ)).map fun v => v.category).sum = t_sum st := by
  unfold t_sum
  rw [List.map_map]
  exact congrArg List.sum (List.map_congr_left (fun v _ => t_v_cat σ v))
/-- a run of the small machine is a run of the machine: what this says of a frame, the frame's method being the i-th -/
def t_Good (ms : List t_M) (xo : Option (List Int32)) (d i nL pc : Nat) (lv : tL) (st : List Value) (th : tH) (ns : Nat) (r : Option Value) (th' : tH) (ns' : Nat) : Prop :=
  ∀ {p : Program} {l : Launch} {e : Env} {R : Room} {s : State} {m : MethodId} {args : Array Value} {below : List Frame} {meth : Method} {c : Code} {H : Heap} {locs : List Loc} {Q : State → Prop} {ls : Array Slot} {σ : Nat → Nat} {kd : Nat → ClassId} {D : va_G} {A : Nat → Prop} (n0 : Nat) (q : t_M), ms[i]? = some q →
    CallFix p m c q.2.1 nL s args gt q.1.cls → meth.name = q.1.name → d ≤ R.frames → 38 * d ≤ R.locals → n0 ≤ th.length → th'.length - n0 ≤ R.cells → ns' ≤ R.slots →
    va_K D vwCl (t_tys kd) s → (∀ q, s.heap.size ≤ q → A q) → t_Ex σ A s s.heap → t_Sc σ A xo s → va_P D vwCl (t_w σ kd th) H → va_D A (t_w σ kd th) → va_S A s.heap H locs → lv_has ls nL (t_l σ lv) →
    (∀ (σ' : Nat → Nat) (H' : Heap) (locs' : List Loc) (pc' : Nat) (ls' : Array Slot) (cat' : Nat) (ins' : Instr), (∀ k, k < th.length ∨ th'.length ≤ k → σ' k = σ k) → va_P D vwCl (t_w σ' kd th') H' → va_D A (t_w σ' kd th') → va_S A s.heap H' locs' → decode q.2.1 pc' = .ok (ins', 1) → t_okT cat' ins' q.2.2.2.1 = true → t_ret cat' r.toList = some r → W p l e R s m args below meth c H' locs' (th'.length - n0) ns' Q (F0 m pc' ls' (r.toList.map (t_v σ')))) →
    W p l e R s m args below meth c H locs (th.length - n0) ns Q (F0 m pc ls (st.map (t_v σ)))
def t_Pre (D : va_G) (kd : Nat → ClassId) (σ : Nat → Nat) (th : tH) (sz : Nat) : State → Prop := fun U => U.heap.size = sz ∧ va_P D vwCl (t_w σ kd th) U.heap ∧ va_K D vwCl (t_tys kd) U ∧ va_D (fun _ => True) (t_w σ kd th) ∧ t_Ex σ (va_A (t_w σ kd th) sz) U U.heap
def t_Q (D : va_G) (kd : Nat → ClassId) (σ : Nat → Nat) (th th' : tH) (r : Option Value) (sz : Nat) : Array Value → State → Outcome → State → Prop := fun _ st oc t =>
  (∃ σ' : Nat → Nat, oc = .returned (r.map (t_v σ')) ∧ (∀ k, k < th.length ∨ th'.length ≤ k → σ' k = σ k) ∧ va_P D vwCl (t_w σ' kd th') t.heap ∧ va_D (va_A (t_w σ kd th) sz) (t_w σ' kd th')) ∧ va_F (va_A (t_w σ kd th) sz) st t
abbrev t_mw (q : t_M) : List Jvm.Cond := Cond.code q.1 q.2.1 q.2.2.1 q.2.2.2.1 :: gt
abbrev t_rm (d mc ms : Nat) : Room := { frames := d, cells := mc, slots := ms, locals := 38 * d }
theorem t_char {x : Int32} (h1 : 0 ≤ x) (h2 : x ≤ 65535) : narrow .char (.int x) = .int x := by
  have h0 : ¬ x < 0 := Int32.not_lt.mpr h1
  obtain ⟨j, hj, rfl⟩ := nI_of2 (M := 65535) (n := 65535) rfl h0 h2
  exact (pk_charN (by omega)).1
set_option maxHeartbeats 4000000 in
theorem t_met {ms : List t_M} {d i : Nat} {q : t_M} {vs : List Value} {th th' : tH} {r : Option Value} {ns' : Nat} (hq : ms[i]? = some q) (hm : t_mok q) (hg : t_Good ms none d i q.2.2.1 0 (lv_args 0 vs) [] th 0 r th' ns') (hle : th.length ≤ th'.length) (hv : (lg_sl vs).length ≤ q.2.2.1) (l : Launch) (D : va_G) (kd : Nat → ClassId) (σ : Nat → Nat) (sz : Nat) :
    Met l q.1 (t_mw q) (t_rm d (th'.length - th.length) ns') (va_Pc (vs.map (t_v σ)) (t_Pre D kd σ th sz)) (t_Q D kd σ th th' r sz) (th'.length - th.length) ns' (va_A (t_w σ kd th) sz) := by
  refine Met.ofW (cc := q.2.1) (maxL := q.2.2.1) (ret := q.2.2.2.1) hm.2.2.1 rfl ?_
  intro p e s m args below meth c s₁ B hml hv0
  obtain ⟨rfl, hsz, hP, hK, hD0, hE⟩ := hv0
  have hts := atoms_spec (ws := t_mw q) B.pre
  have hown : s.vm.findClass q.1.cls = some m.cls := findClass_of_methodNamed B.named
  have hlocks := B.notSynchronized
  have hr := B.returns
  have hl := lv_entry (vs.map (t_v σ)) (n := q.2.2.1) (by rw [t_lg_sl]; exact hv)
  rw [t_lv_args] at hl
  rw [lg_entry_eq]
  generalize (lg_sl (vs.map (t_v σ)) ++ List.replicate (q.2.2.1 - (lg_sl (vs.map (t_v σ))).length) Slot.unset).toArray = ls at hl ⊢
  subst hsz
  have hD := hD0.self (sz := s.heap.size)
  have hA : ∀ q0 : Nat, s.heap.size ≤ q0 → va_A (t_w σ kd th) s.heap.size q0 := fun q0 h => Or.inr h
  have key := hg (p := p) (l := l) (e := e) (R := (headSpec (t_mw q) (t_rm d (th'.length - th.length) ns')).room) (s := s) (m := m) (args := (vs.map (t_v σ)).toArray) (below := below) (meth := meth) (c := c) (H := s.heap) (locs := []) (Q := MQ below (t_Q D kd σ th th' r s.heap.size) (vs.map (t_v σ)).toArray s (th'.length - th.length) ns' (va_A (t_w σ kd th) s.heap.size)) (ls := ls) (σ := σ) (kd := kd) (D := D) (A := va_A (t_w σ kd th) s.heap.size) th.length q hq
    ⟨B.exec, B.bytes, hml, hown, fun w hw => hts w (List.mem_cons_of_mem _ hw)⟩ (name_of_methodNamed B.named B.method).1 (Nat.le_refl _) (Nat.le_refl _) (Nat.le_refl _) (Nat.le_refl _) (Nat.le_refl _) hK hA hE (fun xs h => by cases h) hP hD va_S.rf hl ?_
  · rw [Nat.sub_self] at key
    exact key
  · intro σ' H' locs' pc' ls' cat' ins' e1 e2 e3 e4 e5 e6 e7
    have hqq : ∀ t : State, t.heap = H' → s.WarmedH t.vm → t_Q D kd σ th th' r s.heap.size (vs.map (t_v σ)).toArray s (.returned (r.map (t_v σ'))) t := fun t ht _ => ⟨⟨σ', rfl, e1, by rw [ht]; exact e2, e3⟩, e4.F ht⟩
    cases r with
    | none =>
      simp only [Option.toList_none, t_ret] at e7
      split at e7
      · rename_i hc
        subst hc
        have hret : q.2.2.2.1 = none ∧ ins' = .return_ := by
          revert e6
          cases q.2.2.2.1 with
          | none => intro e6; simp [t_okT] at e6; exact ⟨rfl, e6⟩
          | some ty => intro e6; cases ty <;> simp [t_okT] at e6
        rw [hret.2] at e5
        exact W.vret B.exec B.bytes (by rw [hr]; exact hret.1) hqq e4.2.2 e5
      · cases e7
    | some v =>
      simp only [Option.toList_some, t_ret] at e7
      cases v with
      | int x =>
        simp only at e7
        split at e7
        · rename_i hc
          have hret : (∃ ty, q.2.2.2.1 = some ty ∧ narrow ty (.int x) = .int x) ∧ ins' = .ireturn := by
            revert e6
            cases q.2.2.2.1 with
            | none => intro e6; simp [t_okT] at e6; omega
            | some ty =>
              intro e6
              cases ty <;> simp [t_okT] at e6
              case int => exact ⟨⟨_, rfl, rfl⟩, e6.2⟩
              case boolean =>
                refine ⟨⟨_, rfl, ?_⟩, e6.2⟩
                have h1 : x = 0 ∨ x = 1 := by
                  rcases hc with h | h | h | h
                  · omega
                  · exact h.2
                  · omega
                  · omega
                rcases h1 with rfl | rfl <;> decide
              case byte =>
                refine ⟨⟨_, rfl, ?_⟩, e6.2⟩
                have h1 : x = 0 := by
                  rcases hc with h | h | h | h
                  · omega
                  · omega
                  · omega
                  · exact h.2
                rw [h1]
                decide
              case char =>
                refine ⟨⟨_, rfl, ?_⟩, e6.2⟩
                have h1 : 0 ≤ x ∧ x ≤ 65535 := by
                  rcases hc with h | h | h | h
                  · omega
                  · omega
                  · exact h.2
                  · omega
                exact t_char h1.1 h1.2
              all_goals omega
          obtain ⟨⟨ty, h1, h2⟩, h3⟩ := hret
          rw [h3] at e5
          exact W.zret B.exec B.bytes (hr.trans h1) h2 hqq e4.2.2 e5
        · cases e7
      | long x =>
        simp only at e7
        split at e7
        · rename_i hc
          subst hc
          have hret : q.2.2.2.1 = some .long ∧ ins' = .lreturn := by
            revert e6
            cases q.2.2.2.1 with
            | none => intro e6; simp [t_okT] at e6
            | some ty => intro e6; cases ty <;> simp [t_okT] at e6; exact ⟨rfl, e6⟩
          rw [hret.2] at e5
          exact W.lret B.exec B.bytes (hr.trans hret.1) hqq e4.2.2 e5
        · cases e7
      | ref x =>
        simp only at e7
        split at e7
        · rename_i hc
          subst hc
          have hret : (∃ ty, q.2.2.2.1 = some ty ∧ ((∃ n, ty = .object n) ∨ ∃ t, ty = .array t)) ∧ ins' = .areturn := by
            revert e6
            cases q.2.2.2.1 with
            | none => intro e6; simp [t_okT] at e6
            | some ty =>
              intro e6
              cases ty <;> simp [t_okT] at e6
              case object n => exact ⟨⟨_, rfl, Or.inl ⟨_, rfl⟩⟩, e6⟩
              case array n => exact ⟨⟨_, rfl, Or.inr ⟨_, rfl⟩⟩, e6⟩
          obtain ⟨⟨ty, h1, h2⟩, h3⟩ := hret
          rw [h3] at e5
          exact W.aret B.exec B.bytes (hr.trans h1) h2 (Or.inr ⟨_, rfl⟩) hqq e4.2.2 e5
        · cases e7
      | null =>
        simp only at e7
        split at e7
        · rename_i hc
          subst hc
          have hret : (∃ ty, q.2.2.2.1 = some ty ∧ ((∃ n, ty = .object n) ∨ ∃ t, ty = .array t)) ∧ ins' = .areturn := by
            revert e6
            cases q.2.2.2.1 with
            | none => intro e6; simp [t_okT] at e6
            | some ty =>
              intro e6
              cases ty <;> simp [t_okT] at e6
              case object n => exact ⟨⟨_, rfl, Or.inl ⟨_, rfl⟩⟩, e6⟩
              case array n => exact ⟨⟨_, rfl, Or.inr ⟨_, rfl⟩⟩, e6⟩
          obtain ⟨⟨ty, h1, h2⟩, h3⟩ := hret
          rw [h3] at e5
          exact W.aret B.exec B.bytes (hr.trans h1) h2 (Or.inl rfl) hqq e4.2.2 e5
        · cases e7
      | _ => cases e7
