/-! ===== instructions that write cells ===== -/
def t_fit (cat : Nat) (v : Value) : Bool := match v with
  | .int x => cat == 8 || (cat == 9 && (x == 0 || x == 1))
  | .ref _ | .null => cat == 10 || cat == 11
  | _ => false
def t_fty (cat : Nat) (ty : FieldType) : Bool := match ty with
  | .int => cat == 8
  | .boolean => cat == 9
  | .object _ | .array _ => cat == 10 || cat == 11
  | _ => false
theorem t_fits {cat : Nat} {ty : FieldType} {v : Value} (σ : Nat → Nat) (h1 : t_fty cat ty = true) (h2 : t_fit cat v = true) : narrow ty (t_v σ v) = t_v σ v ∧ fits ty (t_v σ v) = true := by
  cases ty <;> cases v <;> simp [t_fty, t_fit] at h1 h2 <;> (try subst h1) <;> simp_all [narrow, fits, t_v]
  · rcases h2 with rfl | rfl <;> decide
  all_goals omega
def t_cpy {α : Type} (f g : List α) (sp dp n : Nat) : List α := g.take dp ++ ((f.drop sp).take n ++ g.drop (dp + n))
theorem t_cpy_len {α : Type} {f g : List α} {sp dp n : Nat} (h1 : sp + n ≤ f.length) (h2 : dp + n ≤ g.length) : (t_cpy f g sp dp n).length = g.length := by
  simp [t_cpy]
  omega
theorem t_cpy_get {α : Type} {f g : List α} {sp dp n : Nat} (d : α) (h1 : sp + n ≤ f.length) (h2 : dp + n ≤ g.length) (i : Nat) : (t_cpy f g sp dp n).getD i d = va_cpy (fun i => f.getD i d) (fun i => g.getD i d) sp dp n i := by
  show _ = if dp ≤ i ∧ i < dp + n then f.getD (sp + (i - dp)) d else g.getD i d
  unfold t_cpy
  rw [List.getD_eq_getElem?_getD]
  by_cases c1 : i < dp
  · rw [List.getElem?_append_left (by simp; omega), List.getElem?_take, if_pos c1, if_neg (by omega), List.getD_eq_getElem?_getD]
  · rw [List.getElem?_append_right (by simp; omega)]
    by_cases c2 : i < dp + n
    · rw [if_pos ⟨by omega, c2⟩, List.getElem?_append_left (by simp; omega), List.getElem?_take, if_pos (by simp; omega), List.getElem?_drop, List.getD_eq_getElem?_getD]
      congr 2
      simp
      omega
    · rw [if_neg (by omega), List.getElem?_append_right (by simp; omega), List.getElem?_drop, List.getD_eq_getElem?_getD]
      congr 2
      simp
      omega
theorem t_upd {f : List Int32} {k : Nat} {x : Int32} (h : k < f.length) : (fun i => (f.set k x).getD i 0) = upd (fun i => f.getD i 0) k x := by
  funext i
  by_cases hi : i = k
  · subst hi
    rw [pk_us, List.getD_eq_getElem?_getD, List.getElem?_set_self h]
    rfl
  · rw [pk_un hi, List.getD_eq_getElem?_getD, List.getElem?_set_ne (fun e => hi e.symm), List.getD_eq_getElem?_getD]
theorem t_updL {f : List Int64} {k : Nat} {x : Int64} (h : k < f.length) : (fun i => (f.set k x).getD i 0) = vp_updL (fun i => f.getD i 0) k x := by
  funext i
  by_cases hi : i = k
  · subst hi
    rw [pk_uLs, List.getD_eq_getElem?_getD, List.getElem?_set_self h]
    rfl
  · rw [pk_uLn hi, List.getD_eq_getElem?_getD, List.getElem?_set_ne (fun e => hi e.symm), List.getD_eq_getElem?_getD]
theorem t_updR {f : List (Option Nat)} {k x : Nat} {σ : Nat → Nat} (h : k < f.length) : (fun i => ((f.set k (some x)).getD i none).map σ) = va_up (fun i => (f.getD i none).map σ) k (some (σ x)) := by
  funext i
  show _ = if i = k then some (σ x) else (f.getD i none).map σ
  by_cases hi : i = k
  · subst hi
    rw [if_pos rfl, List.getD_eq_getElem?_getD, List.getElem?_set_self h]
    rfl
  · rw [if_neg hi, List.getD_eq_getElem?_getD, List.getElem?_set_ne (fun e => hi e.symm), List.getD_eq_getElem?_getD]
def t_W (cat : Nat) (ins : Instr) (pc a1 a2 : Nat) (st : List Value) (th : tH) : Option (Nat × List Value × tH) := match ins with
  | .putfield _ => match st with
    | v :: .ref k :: r => match th[k]? with
      | some (.inr (c, fs)) => if c = a1 ∧ a2 < fs.length ∧ t_fit cat v = true then some (pc + 3, r, th.set k (.inr (c, fs.set a2 v))) else none
      | _ => none
    | _ => none
  | .iastore => t_rii st fun k i x r => match th[k]? with
    | some (.inl (d, .inl a)) => if d = 0 ∧ ¬ i < 0 ∧ i.toNatClampNeg < a.length then some (pc + 1, r, th.set k (.inl (0, .inl (a.set i.toNatClampNeg x)))) else none
    | _ => none
  | .lastore => t_rij st fun k i x r => match th[k]? with
    | some (.inl (d, .inr (.inl a))) => if d = 1 ∧ ¬ i < 0 ∧ i.toNatClampNeg < a.length then some (pc + 1, r, th.set k (.inl (1, .inr (.inl (a.set i.toNatClampNeg x))))) else none
    | _ => none
  | .aastore => t_rir st fun k i x r => match th[k]? with
    | some (.inl (d, .inr (.inr a))) => match th[x]? with
      | some (.inr (c, _)) => if d = 2 ∧ c = 5 ∧ ¬ i < 0 ∧ i.toNatClampNeg < a.length then some (pc + 1, r, th.set k (.inl (2, .inr (.inr (a.set i.toNatClampNeg (some x)))))) else none
      | _ => none
    | _ => none
  | .invokestatic _ => match st with
    | .int n :: .int dp :: .ref k :: .int sp :: .ref j :: r =>
      if ¬ sp < 0 ∧ ¬ dp < 0 ∧ ¬ n < 0 ∧ (r.map fun v => v.category).sum ≤ 8 then
        if cat = 13 then match th[j]? with
          | some (.inl (d, .inl f)) => match th[k]? with
            | some (.inl (d', .inl g)) => if d = 0 ∧ d' = 0 ∧ sp.toNatClampNeg + n.toNatClampNeg ≤ f.length ∧ dp.toNatClampNeg + n.toNatClampNeg ≤ g.length then some (pc + 3, r, th.set k (.inl (0, .inl (t_cpy f g sp.toNatClampNeg dp.toNatClampNeg n.toNatClampNeg)))) else none
            | _ => none
          | _ => none
        else match th[j]? with
          | some (.inl (d, .inr (.inl f))) => match th[k]? with
            | some (.inl (d', .inr (.inl g))) => if d = 1 ∧ d' = 1 ∧ sp.toNatClampNeg + n.toNatClampNeg ≤ f.length ∧ dp.toNatClampNeg + n.toNatClampNeg ≤ g.length then some (pc + 3, r, th.set k (.inl (1, .inr (.inl (t_cpy f g sp.toNatClampNeg dp.toNatClampNeg n.toNatClampNeg))))) else none
            | _ => none
          | _ => none
      else none
    | _ => none
  | _ => none
def t_needW (own : String) (ins : Instr) (a1 a2 : Nat) : List Jvm.Cond := match ins with
  | .putfield k => t_fl own k a1 a2
  | .invokestatic k => [.methodLink own k arraycopyName, .native arraycopyName, .static arraycopyName, .initialized "java/lang/System"]
  | _ => []
def t_okW (own mn : String) (cat : Nat) (ins : Instr) (a1 a2 : Nat) : Bool := match ins with
  | .putfield _ => match vwCl[a1]? with
    | some q => decide (a2 < q.2.2) && (t_fty cat (t_ty a1 a2) && ((q.2.1 a2).2.2.2 == (cat == 11) && (cat != 11 || (mn == "<init>" && (q.2.1 a2).1 == own))))
    | none => false
  | _ => true
section TW
variable {p : Program} {l : Launch} {e : Env} {R : Room} {s : State} {m : MethodId} {args : Array Value} {below : List Frame} {meth : Method} {c : Code} {H : Heap} {locs : List Loc} {cells slots : Nat} {Q : State → Prop}
variable {cc : ByteArray} {pc : Nat} {ls : Array Slot} {σ : Nat → Nat} {kd : Nat → ClassId} {cat a1 a2 : Nat} {st st' : List Value} {th th' : tH} {pc' len : Nat} {own : String} {ins : Instr} {D : va_G} {A : Nat → Prop}
set_option maxHeartbeats 4000000 in
theorem t_W_ok (hx : p.tables.exec = Jvm.exec) (hb : c.code = cc) (hml : c.maxLocals = ls.size) (hown : s.vm.findClass own = some m.cls) (hts : ∀ w ∈ gt, w.before args s = true) (hd : decode cc pc = .ok (ins, len)) (hlen : t_len ins = 0 ∨ t_len ins = len) (hn : ∀ w ∈ t_needW own ins a1 a2, w ∈ gt) (ho : t_okW own meth.name cat ins a1 a2 = true)
    (hR : 1 ≤ R.frames ∧ 38 ≤ R.locals) (hK : va_K D vwCl (t_tys kd) s) (hP : va_P D vwCl (t_w σ kd th) H) (hD : va_D A (t_w σ kd th)) (hS : va_S A s.heap H locs) (hs : t_W cat ins pc a1 a2 st th = some (pc', st', th'))
    (k : ∀ (H1 : Heap) (locs1 : List Loc), va_P D vwCl (t_w σ kd th') H1 → va_D A (t_w σ kd th') → va_S A s.heap H1 locs1 → W p l e R s m args below meth c H1 locs1 cells slots Q (F0 m pc' ls (st'.map (t_v σ)))) : W p l e R s m args below meth c H locs cells slots Q (F0 m pc ls (st.map (t_v σ))) := by
  cases ins
  case putfield n =>
    cases hlen.resolve_left (by simp [t_len])
    rcases st with _ | ⟨v, _ | ⟨w, r⟩⟩
    · cases hs
    · cases hs
    cases w with
    | ref x =>
      simp only [t_W] at hs
      split at hs
      · rename_i cx fs hth
        obtain ⟨⟨rfl, hl, hf⟩, hs3⟩ := t_if_of hs
        cases hs3
        simp only [t_okW] at ho
        cases hq : vwCl[cx]? with
        | none => rw [hq] at ho; cases ho
        | some q =>
          rw [hq] at ho
          simp only [Bool.and_eq_true, Bool.or_eq_true, decide_eq_true_eq, beq_iff_eq, bne_iff_ne] at ho
          obtain ⟨h1, h2, h3, h4⟩ := ho
          have hw : Cond.fieldLink own n (q.2.1 a2).1 (q.2.1 a2).2.1 (q.2.1 a2).2.2.1 ∈ gt := hn _ (by simp [t_needW, t_fl, hq])
          obtain ⟨g1, g2⟩ := t_fits σ h2 hf
          have ek : ∀ (H1 : Heap) (locs1 : List Loc), va_P D vwCl ((t_w σ kd th).set x (σ x, .inr (cx, (fs.map (t_v σ)).set a2 (t_v σ v)))) H1 → va_D A ((t_w σ kd th).set x (σ x, .inr (cx, (fs.map (t_v σ)).set a2 (t_v σ v)))) → va_S A s.heap H1 locs1 → W p l e R s m args below meth c H1 locs1 cells slots Q (F0 m (pc + 3) ls (st'.map (t_v σ))) := by
            intro H1 locs1 j1 j2 j3
            have ew : (t_w σ kd th).set x (σ x, .inr (cx, (fs.map (t_v σ)).set a2 (t_v σ v))) = t_w σ kd (th.set x (.inr (cx, fs.set a2 v))) := by
              rw [t_w_set]
              show _ = (t_w σ kd th).set x (σ x, .inr (cx, (fs.set a2 v).map (t_v σ)))
              rw [List.map_set]
            rw [ew] at j1 j2
            exact k H1 locs1 j1 j2 j3
          by_cases hc : cat = 11
          · obtain ⟨m1, m2⟩ := h4.resolve_left (fun z => z hc)
            exact va_putF (Ts := gt) (cl := vwCl) (C := q.1) (T := q.2.1) (N := q.2.2) hx hb hts (t_cw cx q hq) (t_ty cx) (t_ct cx q hq) (t_cn cx q hq) hown hK hP hD hS x (t_w_get hth) hq a2 h1 (hts _ hw) (fun _ h => h) (by rw [h3, hc]; rfl) m1 m2 (t_ct cx q hq a2 h1) g1 g2 (by rw [List.length_map]; exact hl) hd ek
          · exact va_put (Ts := gt) (cl := vwCl) (C := q.1) (T := q.2.1) (N := q.2.2) hx hb hts (t_cw cx q hq) (t_ty cx) (t_ct cx q hq) (t_cn cx q hq) hown hK hP hD hS x (t_w_get hth) hq a2 h1 (hts _ hw) (fun _ h => h) (by rw [h3]; simp [hc]) (t_ct cx q hq a2 h1) g1 g2 (by rw [List.length_map]; exact hl) hd ek
      · cases hs
    | _ => cases hs
  case iastore =>
    cases hlen.resolve_left (by simp [t_len])
    simp only [t_W] at hs
    obtain ⟨x, i, y, r, e1, hs2⟩ := t_rii_of hs
    subst e1
    clear hs
    split at hs2
    · rename_i d a hth
      obtain ⟨⟨rfl, hi, hl⟩, hs3⟩ := t_if_of hs2
      cases hs3
      refine va_iast hx hb hK hP hD hS x 0 (t_w_get hth) rfl (t_inb hi hl) hd (fun H1 locs1 j1 j2 j3 => ?_)
      have ew : (t_w σ kd th).set x (σ x, .inl (kd 0, a.length, .inl (upd (fun i => a.getD i 0) i.toNatClampNeg y))) = t_w σ kd (th.set x (.inl (0, .inl (a.set i.toNatClampNeg y)))) := by
        rw [t_w_set]
        show _ = (t_w σ kd th).set x (σ x, .inl (kd 0, (a.set i.toNatClampNeg y).length, .inl (fun j => (a.set i.toNatClampNeg y).getD j 0)))
        rw [t_upd hl, List.length_set]
      rw [ew] at j1 j2
      exact k H1 locs1 j1 j2 j3
    · cases hs2
  case lastore =>
    cases hlen.resolve_left (by simp [t_len])
    simp only [t_W] at hs
    obtain ⟨x, i, y, r, e1, hs2⟩ := t_rij_of hs
    subst e1
    clear hs
    split at hs2
    · rename_i d a hth
      obtain ⟨⟨rfl, hi, hl⟩, hs3⟩ := t_if_of hs2
      cases hs3
      refine va_last hx hb hK hP hD hS x 1 (t_w_get hth) rfl (t_inb hi hl) hd (fun H1 locs1 j1 j2 j3 => ?_)
      have ew : (t_w σ kd th).set x (σ x, .inl (kd 1, a.length, .inr (.inl (vp_updL (fun i => a.getD i 0) i.toNatClampNeg y)))) = t_w σ kd (th.set x (.inl (1, .inr (.inl (a.set i.toNatClampNeg y))))) := by
        rw [t_w_set]
        show _ = (t_w σ kd th).set x (σ x, .inl (kd 1, (a.set i.toNatClampNeg y).length, .inr (.inl (fun j => (a.set i.toNatClampNeg y).getD j 0))))
        rw [t_updL hl, List.length_set]
      rw [ew] at j1 j2
      exact k H1 locs1 j1 j2 j3
    · cases hs2
  case aastore =>
    cases hlen.resolve_left (by simp [t_len])
    simp only [t_W] at hs
    obtain ⟨x, i, y, r, e1, hs2⟩ := t_rir_of hs
    subst e1
    clear hs
    split at hs2
    · rename_i d a hth
      split at hs2
      · rename_i cy fy hty
        obtain ⟨⟨rfl, rfl, hi, hl⟩, hs3⟩ := t_if_of hs2
        cases hs3
        refine va_astq (r := (RX6, TX6, 4)) hx hb hK hP hD hS x 2 y 5 (t_w_get hth) rfl (t_w_get hty) rfl (t_inb hi hl) hd (fun H1 locs1 j1 j2 j3 => ?_)
        have ew : (t_w σ kd th).set x (σ x, .inl (kd 2, a.length, .inr (.inr (.inr (.inr (va_up (fun i => (a.getD i none).map σ) i.toNatClampNeg (some (σ y)))))))) = t_w σ kd (th.set x (.inl (2, .inr (.inr (a.set i.toNatClampNeg (some y)))))) := by
          rw [t_w_set]
          show _ = (t_w σ kd th).set x (σ x, .inl (kd 2, (a.set i.toNatClampNeg (some y)).length, .inr (.inr (.inr (.inr (fun j => ((a.set i.toNatClampNeg (some y)).getD j none).map σ))))))
          rw [t_updR hl, List.length_set]
        rw [ew] at j1 j2
        exact k H1 locs1 j1 j2 j3
      · cases hs2
    · cases hs2
  case invokestatic n =>
    cases hlen.resolve_left (by simp [t_len])
    simp only [t_W] at hs
    split at hs
    · rename_i nn dp x sp y r
      split at hs
      · rename_i hcond
        obtain ⟨c1, c2, c3, c4⟩ := hcond
        have w1 : Cond.methodLink own n arraycopyName ∈ gt := hn _ (by simp [t_needW])
        have w2 : Cond.native arraycopyName ∈ gt := hn _ (by simp [t_needW])
        have w3 : Cond.static arraycopyName ∈ gt := hn _ (by simp [t_needW])
        have w4 : Cond.initialized "java/lang/System" ∈ gt := hn _ (by simp [t_needW])
        have hroom : ((r.map (t_v σ)).map fun v => v.category).sum + (nativeFrameWords "java/lang/System" "arraycopy" 5 + 11) ≤ R.locals := by
          have e9 : (r.map (t_v σ)).map (fun v => v.category) = r.map (fun v => v.category) := by
            rw [List.map_map]
            exact List.map_congr_left (fun v _ => t_v_cat σ v)
          rw [e9]
          have e8 : nativeFrameWords "java/lang/System" "arraycopy" 5 = 7 := by decide +kernel
          rw [e8]
          have := hR.2
          omega
        split at hs
        · split at hs
          · rename_i d f hj
            split at hs
            · rename_i d' g hk
              obtain ⟨⟨rfl, rfl, h4, h5⟩, hs3⟩ := t_if_of hs
              cases hs3
              refine va_copyi (f := fun i => f.getD i 0) (g := fun i => g.getD i 0) hx hb hml hown (hts _ w1) (hts _ w2) (hts _ w3) (hts _ w4) hK hP hD hS y x 0 0 (t_w_get hj) (t_w_get hk) rfl rfl rfl c1 c2 c3 h4 h5 (fun _ _ => rfl) hR.1 hroom hd (fun H1 locs1 j1 j2 j3 => ?_)
              have ew : (t_w σ kd th).set x (σ x, .inl (kd 0, g.length, .inl (va_cpy (fun i => f.getD i 0) (fun i => g.getD i 0) sp.toNatClampNeg dp.toNatClampNeg nn.toNatClampNeg))) = t_w σ kd (th.set x (.inl (0, .inl (t_cpy f g sp.toNatClampNeg dp.toNatClampNeg nn.toNatClampNeg)))) := by
                rw [t_w_set]
                show _ = (t_w σ kd th).set x (σ x, .inl (kd 0, (t_cpy f g sp.toNatClampNeg dp.toNatClampNeg nn.toNatClampNeg).length, .inl (fun j => (t_cpy f g sp.toNatClampNeg dp.toNatClampNeg nn.toNatClampNeg).getD j 0)))
                rw [t_cpy_len h4 h5, funext (t_cpy_get (0 : Int32) h4 h5)]
              rw [ew] at j1 j2
              exact k H1 locs1 j1 j2 j3
            · cases hs
          · cases hs
        · split at hs
          · rename_i d f hj
            split at hs
            · rename_i d' g hk
              obtain ⟨⟨rfl, rfl, h4, h5⟩, hs3⟩ := t_if_of hs
              cases hs3
              refine va_copyl (f := fun i => f.getD i 0) (g := fun i => g.getD i 0) hx hb hml hown (hts _ w1) (hts _ w2) (hts _ w3) (hts _ w4) hK hP hD hS y x 1 1 (t_w_get hj) (t_w_get hk) rfl rfl rfl c1 c2 c3 h4 h5 (fun _ _ => rfl) hR.1 hroom hd (fun H1 locs1 j1 j2 j3 => ?_)
              have ew : (t_w σ kd th).set x (σ x, .inl (kd 1, g.length, .inr (.inl (va_cpy (fun i => f.getD i 0) (fun i => g.getD i 0) sp.toNatClampNeg dp.toNatClampNeg nn.toNatClampNeg)))) = t_w σ kd (th.set x (.inl (1, .inr (.inl (t_cpy f g sp.toNatClampNeg dp.toNatClampNeg nn.toNatClampNeg))))) := by
                rw [t_w_set]
                show _ = (t_w σ kd th).set x (σ x, .inl (kd 1, (t_cpy f g sp.toNatClampNeg dp.toNatClampNeg nn.toNatClampNeg).length, .inr (.inl (fun j => (t_cpy f g sp.toNatClampNeg dp.toNatClampNeg nn.toNatClampNeg).getD j 0))))
                rw [t_cpy_len h4 h5, funext (t_cpy_get (0 : Int64) h4 h5)]
              rw [ew] at j1 j2
              exact k H1 locs1 j1 j2 j3
            · cases hs
          · cases hs
      · cases hs
    · cases hs
  all_goals cases hs
end TW
