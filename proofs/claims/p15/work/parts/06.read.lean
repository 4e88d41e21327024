/-! ===== cells: the small machine's, and the world's ===== -/
def t_e (σ : Nat → Nat) (kd : Nat → ClassId) : tE → va_E
  | .inl (k, .inl a) => .inl (kd k, a.length, .inl (fun i => a.getD i 0))
  | .inl (k, .inr (.inl a)) => .inl (kd k, a.length, .inr (.inl (fun i => a.getD i 0)))
  | .inl (k, .inr (.inr a)) => .inl (kd k, a.length, .inr (.inr (.inr (.inr (fun i => (a.getD i none).map σ)))))
  | .inr (c, fs) => .inr (c, fs.map (t_v σ))
def t_w (σ : Nat → Nat) (kd : Nat → ClassId) (th : tH) : va_W := th.mapIdx (fun i e => (σ i, t_e σ kd e))
theorem t_w_get {σ : Nat → Nat} {kd : Nat → ClassId} {th : tH} {k : Nat} {e : tE} (h : th[k]? = some e) : (t_w σ kd th)[k]? = some (σ k, t_e σ kd e) := by
  unfold t_w
  rw [List.getElem?_mapIdx, h]
  rfl
theorem t_w_len (σ : Nat → Nat) (kd : Nat → ClassId) (th : tH) : (t_w σ kd th).length = th.length := by
  unfold t_w
  exact List.length_mapIdx
theorem t_w_inv {σ : Nat → Nat} {kd : Nat → ClassId} {th : tH} {k : Nat} {q : Nat × va_E} (h : (t_w σ kd th)[k]? = some q) : ∃ e, th[k]? = some e ∧ q = (σ k, t_e σ kd e) := by
  unfold t_w at h
  rw [List.getElem?_mapIdx] at h
  cases he : th[k]? with
  | none => rw [he] at h; cases h
  | some e => rw [he] at h; exact ⟨e, rfl, (Option.some.inj h).symm⟩
theorem t_w_set {σ : Nat → Nat} {kd : Nat → ClassId} (th : tH) (k : Nat) (e : tE) : t_w σ kd (th.set k e) = (t_w σ kd th).set k (σ k, t_e σ kd e) := by
  apply List.ext_getElem?
  intro j
  unfold t_w
  rw [List.getElem?_mapIdx, List.getElem?_set, List.getElem?_set, List.getElem?_mapIdx, List.length_mapIdx]
  by_cases hj : k = j
  · subst hj
    simp only [if_true]
    by_cases hl : k < th.length
    · rw [if_pos hl, if_pos hl]; rfl
    · rw [if_neg hl, if_neg hl]; rfl
  · rw [if_neg hj, if_neg hj]
theorem t_w_app {σ : Nat → Nat} {kd : Nat → ClassId} (th : tH) (e : tE) : t_w σ kd (th ++ [e]) = t_w σ kd th ++ [(σ th.length, t_e σ kd e)] := by
  unfold t_w
  rw [List.mapIdx_append]
  simp
def t_tys (kd : Nat → ClassId) : List (ClassId × FieldType) := [(kd 0, .int), (kd 1, .long), (kd 2, .object "NineTrees$Shelf"), (kd 3, .array .long)]
/-- the ten words as they stand in the pools: whose, where, what, which -/
def t_strs : List (String × Nat × String × Nat) := [("NineTrees$Tape", 40, "side", 0), ("NineTrees$Tape", 49, "tree", 1), ("NineTrees$Tape", 54, "wish", 2), ("NineTrees$Tape", 59, "move", 3), ("NineTrees$Tape", 64, "fell", 4), ("NineTreesModel", 199, "side", 5), ("NineTreesModel", 207, "tree", 6), ("NineTreesModel", 209, "wish", 7), ("NineTreesModel", 214, "move", 8), ("NineTreesModel", 219, "fell", 9)]
def t_byt : List (List Int32) := [[115, 105, 100, 101], [116, 114, 101, 101], [119, 105, 115, 104], [109, 111, 118, 101], [102, 101, 108, 108], [115, 105, 100, 101], [116, 114, 101, 101], [119, 105, 115, 104], [109, 111, 118, 101], [102, 101, 108, 108]]
def t_nst : List (String × Nat × MethodName) := [("NineTrees", 9, ⟨"NineTrees$Garden", "<init>", "()V"⟩), ("NineTrees", 24, ⟨"NineTrees$RowList", "<init>", "()V"⟩), ("NineTrees", 31, ⟨"NineTrees$Crossings", "<init>", "()V"⟩), ("NineTrees", 38, ⟨"NineTrees$Moves", "<init>", "()V"⟩), ("NineTrees$Moves", 11, ⟨"NineTrees$Crossings", "<init>", "()V"⟩), ("NineTrees", 45, ⟨"NineTrees$Gap", "<init>", "()V"⟩), ("NineTrees", 52, ⟨"NineTrees$Tape", "<init>", "()V"⟩), ("NineTrees", 67, ⟨"NineTrees$Shelf", "<init>", "()V"⟩), ("NineTrees$RowList", 28, ⟨"NineTrees", "firstOf", "(I)I"⟩), ("NineTrees$RowList", 32, ⟨"NineTrees", "secondOf", "(I)I"⟩), ("NineTrees$Garden", 85, ⟨"NineTrees", "firstOf", "(I)I"⟩), ("NineTrees$Garden", 88, ⟨"NineTrees", "secondOf", "(I)I"⟩), ("NineTrees$Gap", 37, ⟨"NineTrees", "firstOf", "(I)I"⟩), ("NineTrees$Gap", 41, ⟨"NineTrees", "secondOf", "(I)I"⟩), ("NineTrees$Crossings", 37, ⟨"NineTrees", "firstOf", "(I)I"⟩), ("NineTrees$Crossings", 40, ⟨"NineTrees", "secondOf", "(I)I"⟩)]
/-- what the machine had before, and keeps -/
def t_Ex (σ : Nat → Nat) (A : Nat → Prop) (U : State) (H : Heap) : Prop :=
  (∀ i : Nat, i < 10 → va_O "java/lang/String" (σ (1001 + i)) A U H ∧ va_OF "java/lang/String" "coder" "B" (.int 0) (σ (1001 + i)) A U H ∧ va_OF "java/lang/String" "value" "[B" (.ref (σ (1021 + i))) (σ (1001 + i)) A U H ∧ va_T .byte (σ (1021 + i)) 4 (fun j => .int ((t_byt.getD i []).getD j 0)) A U H)
  ∧ va_Z "java/lang/String" "COMPACT_STRINGS" "Z" (.int 1) A U H ∧ va_Z "jdk/internal/util/Preconditions" "SIOOBE_FORMATTER" "Ljava/util/function/BiFunction;" (t_v σ (.retAddr 0)) A U H
  ∧ (∀ q ∈ t_strs, vk_R q.1 q.2.1 q.2.2.1 (σ (1001 + q.2.2.2)) U) ∧ (∀ q ∈ t_nst, va_Nw (.methodLinkNest q.1 q.2.1 q.2.2 "NineTrees") U) ∧ va_AO "NineTrees$Shelf" U ∧ (Cond.arrayOver (.array .long)).before #[] U = true
theorem t_Ex.kept {σ : Nat → Nat} {A : Nat → Prop} {U : State} {H H1 : Heap} (h : t_Ex σ A U H) (hq : ∀ a : Nat, a < H.size → ¬ A a → H1[a]? = H[a]?) : t_Ex σ A U H1 :=
  ⟨fun i hi => ⟨(h.1 i hi).1.kept hq, (h.1 i hi).2.1.kept hq, (h.1 i hi).2.2.1.kept hq, (h.1 i hi).2.2.2.kept hq⟩, h.2.1.kept hq, h.2.2.1.kept hq, h.2.2.2⟩
theorem t_Ex.narrow {σ : Nat → Nat} {A B : Nat → Prop} {U : State} {H : Heap} (h : t_Ex σ A U H) (hAB : ∀ q, B q → A q) : t_Ex σ B U H :=
  ⟨fun i hi => ⟨(h.1 i hi).1.narrow hAB, (h.1 i hi).2.1.narrow hAB, (h.1 i hi).2.2.1.narrow hAB, (h.1 i hi).2.2.2.narrow hAB⟩, h.2.1.narrow hAB, h.2.2.1.narrow hAB, h.2.2.2⟩
theorem t_Ex.warm {σ : Nat → Nat} {A : Nat → Prop} {s U : State} {H : Heap} (hW : s.WarmedH U.vm) (h : t_Ex σ A s H) : t_Ex σ A U H :=
  ⟨fun i hi => ⟨va_O.moved hW.alike (h.1 i hi).1, va_OF.moved hW.alike (h.1 i hi).2.1, va_OF.moved hW.alike (h.1 i hi).2.2.1, va_T.moved hW.alike (h.1 i hi).2.2.2⟩, va_Z.moved hW.alike h.2.1, va_Z.moved hW.alike h.2.2.1,
    fun q hq => vk_R.warm hW (h.2.2.2.1 q hq), fun q hq => va_Nw.warmM hW (h.2.2.2.2.1 q hq), va_AO.moved hW.alike h.2.2.2.2.2.1, arrayOver_alikeB hW.alike h.2.2.2.2.2.2⟩
theorem t_Ex.same {σ : Nat → Nat} {A : Nat → Prop} {u U : State} {H : Heap} (hv : u.vm = U.vm) (h : t_Ex σ A u H) : t_Ex σ A U H := by
  have ha : u.vm.Alike U.vm := by rw [← hv]; exact Vm.Alike.refl _
  exact ⟨fun i hi => ⟨va_O.moved ha (h.1 i hi).1, va_OF.moved ha (h.1 i hi).2.1, va_OF.moved ha (h.1 i hi).2.2.1, va_T.moved ha (h.1 i hi).2.2.2⟩, va_Z.moved ha h.2.1, va_Z.moved ha h.2.2.1,
    fun q hq => vk_R.same hv.symm (h.2.2.2.1 q hq), fun q hq => va_Nw.same rfl hv (h.2.2.2.2.1 q hq), va_AO.moved ha h.2.2.2.2.2.1, arrayOver_alikeB ha h.2.2.2.2.2.2⟩
theorem t_Ex.to {σ σ' : Nat → Nat} {A : Nat → Prop} {U : State} {H : Heap} (h : t_Ex σ A U H) (e : ∀ k, 1000 ≤ k → σ' k = σ k) : t_Ex σ' A U H := by
  obtain ⟨h1, h2, h3, h4, h5⟩ := h
  refine ⟨fun i hi => ?_, h2, ?_, fun q hq => ?_, h5⟩
  · rw [e (1001 + i) (by omega), e (1021 + i) (by omega)]
    exact h1 i hi
  · have e3 : t_v σ' (.retAddr 0) = t_v σ (.retAddr 0) := by
      show (match σ' 1040 with | 0 => Value.null | n + 1 => Value.ref n) = (match σ 1040 with | 0 => Value.null | n + 1 => Value.ref n)
      rw [e 1040 (by omega)]
    rw [e3]
    exact h3
  · rw [e (1001 + q.2.2.2) (by omega)]
    exact h4 q hq
/-- instructions that read cells -/
def t_R (xo : Option (List Int32)) (cat : Nat) (ins : Instr) (pc a1 a2 : Nat) (st : List Value) (th : tH) : Option (Nat × List Value) := match ins with
  | .getfield _ => t_r1 st fun k r =>
      if cat = 3 then match th[k]? with
        | some (.inr (c, fs)) => if c = a1 then (fs[a2]?).map (fun v => (pc + 3, v :: r)) else none
        | _ => none
      else if 1001 ≤ k ∧ k < 1011 then some (pc + 3, (if a2 = 0 then .int 0 else .ref (k + 20)) :: r) else none
  | .iaload => t_ri st fun k i r =>
      if k = 1000 then match xo with
        | some xs => if i < 0 then none else (xs[i.toNatClampNeg]?).map (fun x => (pc + 1, .int x :: r))
        | none => none
      else match th[k]? with
        | some (.inl (d, .inl a)) => if d = 0 ∧ ¬ i < 0 then (a[i.toNatClampNeg]?).map (fun x => (pc + 1, .int x :: r)) else none
        | _ => none
  | .laload => t_ri st fun k i r => match th[k]? with
      | some (.inl (d, .inr (.inl a))) => if d = 1 ∧ ¬ i < 0 then (a[i.toNatClampNeg]?).map (fun x => (pc + 1, .long x :: r)) else none
      | _ => none
  | .aaload => t_ri st fun k i r => match th[k]? with
      | some (.inl (d, .inr (.inr a))) => if (d = 2 ∨ d = 3) ∧ ¬ i < 0 then (a[i.toNatClampNeg]?).map (fun x => (pc + 1, va_rf x :: r)) else none
      | _ => none
  | .baload => t_ri st fun k i r => if (1021 ≤ k ∧ k < 1031) ∧ ¬ i < 0 then ((t_byt.getD (k - 1021) [])[i.toNatClampNeg]?).map (fun x => (pc + 1, .int x :: r)) else none
  | .arraylength => t_r1 st fun k r =>
      if k = 1000 then xo.map (fun xs => (pc + 1, .int (Int32.ofNat xs.length) :: r))
      else if 1021 ≤ k ∧ k < 1031 then some (pc + 1, .int (Int32.ofNat 4) :: r)
      else match th[k]? with
        | some (.inl (d, .inl a)) => if d = 0 then some (pc + 1, .int (Int32.ofNat a.length) :: r) else none
        | some (.inl (d, .inr (.inl a))) => if d = 1 then some (pc + 1, .int (Int32.ofNat a.length) :: r) else none
        | some (.inl (d, .inr (.inr a))) => if d = 2 then some (pc + 1, .int (Int32.ofNat a.length) :: r) else none
        | _ => none
  | .getstatic _ => some (pc + 3, (if a1 = 0 then .int 1 else .retAddr 0) :: st)
  | .ldc _ => some (pc + 2, .ref (1001 + a1) :: st)
  | _ => none
/-- the pool's words that an instruction leans on -/
def t_fl (own : String) (k a1 a2 : Nat) : List Jvm.Cond := match vwCl[a1]? with
  | some q => [.fieldLink own k (q.2.1 a2).1 (q.2.1 a2).2.1 (q.2.1 a2).2.2.1]
  | none => []
def t_needR (own : String) (cat : Nat) (ins : Instr) (a1 a2 : Nat) : List Jvm.Cond := match ins with
  | .getfield k => if cat = 3 then t_fl own k a1 a2 else if a2 = 0 then [.fieldLink own k "java/lang/String" "coder" "B"] else [.fieldLink own k "java/lang/String" "value" "[B"]
  | .getstatic k => if a1 = 0 then [.fieldLink own k "java/lang/String" "COMPACT_STRINGS" "Z"] else [.fieldLink own k "jdk/internal/util/Preconditions" "SIOOBE_FORMATTER" "Ljava/util/function/BiFunction;"]
  | _ => []
/-- what the table of the code says more of an instruction that reads -/
def t_okR (own : String) (cat : Nat) (ins : Instr) (a1 a2 : Nat) : Bool := match ins with
  | .getfield _ => if cat = 3 then (match vwCl[a1]? with | some q => decide (a2 < q.2.2) | none => false) else true
  | .ldc k => t_strs.any (fun q => q.1 == own && (q.2.1 == k && q.2.2.2 == a1))
  | _ => true
theorem t_getD {α : Type} {a : List α} {i : Nat} {x d : α} (h : a[i]? = some x) : a.getD i d = x := by
  rw [List.getD_eq_getElem?_getD, h]
  rfl
theorem t_inb {i : Int32} {n : Nat} (h : ¬ i < 0) (h2 : i.toNatClampNeg < n) : vp_in i n := fun z => z.elim h (fun q => absurd h2 (Nat.not_lt.mpr q))
section TR
variable {p : Program} {l : Launch} {e : Env} {R : Room} {s : State} {m : MethodId} {args : Array Value} {below : List Frame} {meth : Method} {c : Code} {H : Heap} {locs : List Loc} {cells slots : Nat} {Q : State → Prop}
variable {cc : ByteArray} {pc : Nat} {ls : Array Slot} {σ : Nat → Nat} {kd : Nat → ClassId} {cat a1 a2 : Nat} {st st' : List Value} {th : tH} {pc' len : Nat} {own : String} {ins : Instr} {D : va_G} {A : Nat → Prop} {xo : Option (List Int32)}
/-- the script, where the method has it -/
def t_Sc (σ : Nat → Nat) (A : Nat → Prop) (xo : Option (List Int32)) (s : State) : Prop := ∀ xs, xo = some xs → va_X (σ 1000) xs.length (fun j => xs.getD j 0) s s.heap ∧ σ 1000 < s.heap.size ∧ ¬ A (σ 1000)
set_option maxHeartbeats 4000000 in
theorem t_R_ok (hx : p.tables.exec = Jvm.exec) (hb : c.code = cc) (hown : s.vm.findClass own = some m.cls) (hts : ∀ w ∈ gt, w.before args s = true) (hd : decode cc pc = .ok (ins, len)) (hlen : t_len ins = 0 ∨ t_len ins = len) (hn : ∀ w ∈ t_needR own cat ins a1 a2, w ∈ gt) (ho : t_okR own cat ins a1 a2 = true)
    (hK : va_K D vwCl (t_tys kd) s) (hP : va_P D vwCl (t_w σ kd th) H) (hS : va_S A s.heap H locs) (hE : t_Ex σ A s s.heap) (hX : t_Sc σ A xo s) (hs : t_R xo cat ins pc a1 a2 st th = some (pc', st'))
    (k : W p l e R s m args below meth c H locs cells slots Q (F0 m pc' ls (st'.map (t_v σ)))) : W p l e R s m args below meth c H locs cells slots Q (F0 m pc ls (st.map (t_v σ))) := by
  cases ins
  case getfield n =>
    cases hlen.resolve_left (by simp [t_len])
    simp only [t_R] at hs
    obtain ⟨x, r, e1, hs2⟩ := t_r1_of hs
    subst e1
    clear hs
    split at hs2
    · rename_i hc3
      split at hs2
      · rename_i cx fs hth
        split at hs2
        · rename_i hca
          subst hca
          cases hv : fs[a2]? with
          | none => rw [hv] at hs2; cases hs2
          | some v =>
            rw [hv] at hs2
            cases hs2
            simp only [t_okR, hc3, if_true] at ho
            cases hq : vwCl[cx]? with
            | none => rw [hq] at ho; cases ho
            | some q =>
              rw [hq] at ho
              have hw : Cond.fieldLink own n (q.2.1 a2).1 (q.2.1 a2).2.1 (q.2.1 a2).2.2.1 ∈ gt := hn _ (by simp [t_needR, hc3, t_fl, hq])
              exact va_get (Ts := gt) (cl := vwCl) (C := q.1) (T := q.2.1) (N := q.2.2) hx hb hts (t_cw cx q hq) hown hK hP x (t_w_get hth) hq a2 (of_decide_eq_true ho) (hts _ hw) (fun _ h => h) (v := t_v σ v) (by rw [List.getElem?_map, hv]; rfl) hd k
        · cases hs2
      · cases hs2
    · rename_i hc3
      obtain ⟨⟨g1, g2⟩, hs2⟩ := t_if_of hs2
      cases hs2
      obtain ⟨i, rfl⟩ : ∃ i, x = 1001 + i := ⟨x - 1001, by omega⟩
      obtain ⟨e1, e2, e3, e4⟩ := hE.1 i (by omega)
      by_cases ha : a2 = 0
      · have hw : Cond.fieldLink own n "java/lang/String" "coder" "B" ∈ gt := hn _ (by simp [t_needR, hc3, ha])
        rw [if_pos ha] at k
        exact vk_getf hx hb e2 hS hown (hts _ hw) (fun _ h => h) hd k
      · have hw : Cond.fieldLink own n "java/lang/String" "value" "[B" ∈ gt := hn _ (by simp [t_needR, hc3, ha])
        rw [if_neg ha] at k
        have e5 : 1001 + i + 20 = 1021 + i := by omega
        rw [e5] at k
        exact vk_getf hx hb e3 hS hown (hts _ hw) (fun _ h => h) hd k
  case iaload =>
    cases hlen.resolve_left (by simp [t_len])
    simp only [t_R] at hs
    obtain ⟨x, i, r, e1, hs2⟩ := t_ri_of hs
    subst e1
    clear hs
    split at hs2
    · rename_i hx0
      subst hx0
      cases xo with
      | none => cases hs2
      | some xs =>
        obtain ⟨h1, h2, h3⟩ := hX xs rfl
        simp only at hs2
        split at hs2
        · cases hs2
        · rename_i hi
          cases hv : xs[i.toNatClampNeg]? with
          | none => rw [hv] at hs2; cases hs2
          | some v =>
            rw [hv] at hs2
            cases hs2
            refine va_sld hx hb h1 h2 h3 hS (t_inb hi (List.getElem?_eq_some_iff.mp hv).1) hd ?_
            show W p l e R s m args below meth c H locs cells slots Q (F0 m (pc + 1) ls (.int (xs.getD i.toNatClampNeg 0) :: r.map (t_v σ)))
            rw [t_getD hv]
            exact k
    · split at hs2
      · rename_i d a hth
        split at hs2
        · rename_i hdi
          obtain ⟨rfl, hi⟩ := hdi
          cases hv : a[i.toNatClampNeg]? with
          | none => rw [hv] at hs2; cases hs2
          | some v =>
            rw [hv] at hs2
            cases hs2
            refine va_iald hx hb hK hP x 0 (t_w_get hth) rfl (t_inb hi (List.getElem?_eq_some_iff.mp hv).1) hd ?_
            show W p l e R s m args below meth c H locs cells slots Q (F0 m (pc + 1) ls (.int (a.getD i.toNatClampNeg 0) :: r.map (t_v σ)))
            rw [t_getD hv]
            exact k
        · cases hs2
      · cases hs2
  case laload =>
    cases hlen.resolve_left (by simp [t_len])
    simp only [t_R] at hs
    obtain ⟨x, i, r, e1, hs2⟩ := t_ri_of hs
    subst e1
    clear hs
    split at hs2
    · rename_i d a hth
      split at hs2
      · rename_i hdi
        obtain ⟨rfl, hi⟩ := hdi
        cases hv : a[i.toNatClampNeg]? with
        | none => rw [hv] at hs2; cases hs2
        | some v =>
          rw [hv] at hs2
          cases hs2
          refine va_lald hx hb hK hP x 1 (t_w_get hth) rfl (t_inb hi (List.getElem?_eq_some_iff.mp hv).1) hd ?_
          show W p l e R s m args below meth c H locs cells slots Q (F0 m (pc + 1) ls (.long (a.getD i.toNatClampNeg 0) :: r.map (t_v σ)))
          rw [t_getD hv]
          exact k
      · cases hs2
    · cases hs2
  case aaload =>
    cases hlen.resolve_left (by simp [t_len])
    simp only [t_R] at hs
    obtain ⟨x, i, r, e1, hs2⟩ := t_ri_of hs
    subst e1
    clear hs
    split at hs2
    · rename_i d a hth
      split at hs2
      · rename_i hdi
        obtain ⟨hdd, hi⟩ := hdi
        cases hv : a[i.toNatClampNeg]? with
        | none => rw [hv] at hs2; cases hs2
        | some v =>
          rw [hv] at hs2
          cases hs2
          have hlt := (List.getElem?_eq_some_iff.mp hv).1
          have k2 : W p l e R s m args below meth c H locs cells slots Q (F0 m (pc + 1) ls (va_rf ((a.getD i.toNatClampNeg none).map σ) :: r.map (t_v σ))) := by
            rw [t_getD hv, ← t_rf_v]
            exact k
          rcases hdd with rfl | rfl
          · exact va_aldq hx hb hK hP x 2 (t_w_get hth) rfl (t_inb hi hlt) hd k2
          · refine W.aald (v := va_rf ((a.getD i.toNatClampNeg none).map σ)) (ty := .array .long) hx hb (hP x _ (t_w_get hth)) ((hK.2 3 _ rfl).1 a.length (fun j => va_rf ((a.getD j none).map σ))) rfl (fun q => by cases q) (by show ¬ (i < 0 ∨ (arrV _ _ _).slots.size ≤ _); rw [arrV_size]; exact t_inb hi hlt) (by show (arrV _ _ _).slots[_]? = _; rw [arrV_read _ _ hlt]) rfl rfl hd k2
      · cases hs2
    · cases hs2
  case baload =>
    cases hlen.resolve_left (by simp [t_len])
    simp only [t_R] at hs
    obtain ⟨x, i, r, e1, hs2⟩ := t_ri_of hs
    subst e1
    clear hs
    split at hs2
    · rename_i hdi
      obtain ⟨⟨g1, g2⟩, hi⟩ := hdi
      obtain ⟨j, rfl⟩ : ∃ j, x = 1021 + j := ⟨x - 1021, by omega⟩
      have ej : 1021 + j - 1021 = j := by omega
      rw [ej] at hs2
      have hl4 : (t_byt.getD j []).length = 4 := by
        have : ∀ j, j < 10 → (t_byt.getD j []).length = 4 := by decide +kernel
        exact this j (by omega)
      cases hv : (t_byt.getD j [])[i.toNatClampNeg]? with
      | none => rw [hv] at hs2; cases hs2
      | some v =>
        rw [hv] at hs2
        cases hs2
        have hlt := (List.getElem?_eq_some_iff.mp hv).1
        exact va_tb hx hb (hE.1 j (by omega)).2.2.2 hS (t_inb hi (by omega)) (v := .int v) (by show Value.int ((t_byt.getD j []).getD i.toNatClampNeg 0) = _; rw [t_getD hv]) hd k
    · cases hs2
  case arraylength =>
    cases hlen.resolve_left (by simp [t_len])
    simp only [t_R] at hs
    obtain ⟨x, r, e1, hs2⟩ := t_r1_of hs
    subst e1
    clear hs
    split at hs2
    · rename_i hx0
      subst hx0
      cases xo with
      | none => cases hs2
      | some xs =>
        cases hs2
        obtain ⟨h1, h2, h3⟩ := hX xs rfl
        exact va_slen hx hb h1 h2 h3 hS hd k
    · split at hs2
      · rename_i hg
        cases hs2
        obtain ⟨j, rfl⟩ : ∃ j, x = 1021 + j := ⟨x - 1021, by omega⟩
        exact va_tlen hx hb (hE.1 j (by omega)).2.2.2 hS rfl hd k
      · split at hs2
        · rename_i d a hth
          obtain ⟨rfl, hs2⟩ := t_if_of hs2
          cases hs2
          exact va_alen hx hb hK hP x 0 (t_w_get hth) rfl rfl hd k
        · rename_i d a hth
          obtain ⟨rfl, hs2⟩ := t_if_of hs2
          cases hs2
          exact va_alen hx hb hK hP x 1 (t_w_get hth) rfl rfl hd k
        · rename_i d a hth
          obtain ⟨rfl, hs2⟩ := t_if_of hs2
          cases hs2
          exact va_alen hx hb hK hP x 2 (t_w_get hth) rfl rfl hd k
        · cases hs2
  case getstatic n =>
    cases hlen.resolve_left (by simp [t_len])
    cases hs
    by_cases ha : a1 = 0
    · have hw : Cond.fieldLink own n "java/lang/String" "COMPACT_STRINGS" "Z" ∈ gt := hn _ (by simp [t_needR, ha])
      rw [if_pos ha] at k
      exact va_gets hx hb hE.2.1 hS hown (hts _ hw) (fun _ h => h) hd k
    · have hw : Cond.fieldLink own n "jdk/internal/util/Preconditions" "SIOOBE_FORMATTER" "Ljava/util/function/BiFunction;" ∈ gt := hn _ (by simp [t_needR, ha])
      rw [if_neg ha] at k
      exact va_gets hx hb hE.2.2.1 hS hown (hts _ hw) (fun _ h => h) hd k
  case ldc n =>
    cases hlen.resolve_left (by simp [t_len])
    cases hs
    simp only [t_okR, List.any_eq_true, Bool.and_eq_true, beq_iff_eq] at ho
    obtain ⟨q, hq, q1, q2, q3⟩ := ho
    have hZ := hE.2.2.2.1 q hq
    rw [q1, q2, q3] at hZ
    exact va_ldcS hx hb hown hZ hd k
  all_goals cases hs
end TR
