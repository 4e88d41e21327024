section OW
variable {v : Nat → Int32} {w : Int64} {pc a1 a2 pc' cat : Nat} {st st' : List Value} {ins : Instr} {th th' : tH}
theorem oV_fit {x : Value} (h : (t_fit cat x || (cat == 8 && oF x)) = true) : t_fit cat (oV v w x) = true := by
  rw [Bool.or_eq_true] at h
  rcases h with h | h
  · cases x <;> first | exact h | (cases h; done)
  · rw [Bool.and_eq_true] at h
    cases x with
    | float b =>
      show (cat == 8 || _) = true
      rw [h.1]
      rfl
    | _ => cases h.2
theorem oCpy {α β : Type} (g : α → β) (a b : List α) (sp dp n : Nat) : (t_cpy a b sp dp n).map g = t_cpy (a.map g) (b.map g) sp dp n := by
  unfold t_cpy
  rw [List.map_append, List.map_append, List.map_take, List.map_take, List.map_drop, List.map_drop]
theorem oSum (v : Nat → Int32) (w : Int64) (r : List Value) : ((r.map (oV v w)).map fun x => x.category).sum = (r.map fun x => x.category).sum := by
  rw [List.map_map]
  exact congrArg List.sum (List.map_congr_left (fun x _ => oV_cat v w x))
set_option maxHeartbeats 4000000 in
theorem oW_of (hs : oW cat ins pc a1 a2 st th = some (pc', st', th')) : t_W cat ins pc a1 a2 (st.map (oV v w)) (oH v w th) = some (pc', st'.map (oV v w), oH v w th') := by
  cases ins
  case putfield n =>
    simp only [oW] at hs
    split at hs
    · rename_i x k r
      split at hs
      · rename_i cx fs hth
        obtain ⟨⟨h1, h2, h3⟩, hs3⟩ := t_if_of hs
        cases hs3
        show (match (oH v w th)[k]? with | some (.inr (c, fs)) => if c = a1 ∧ a2 < fs.length ∧ t_fit cat (oV v w x) = true then some (pc + 3, st'.map (oV v w), (oH v w th).set k (.inr (c, fs.set a2 (oV v w x)))) else none | _ => none) = _
        rw [oH_get hth]
        show (if cx = a1 ∧ a2 < (fs.map (oV v w)).length ∧ t_fit cat (oV v w x) = true then some (pc + 3, st'.map (oV v w), (oH v w th).set k (.inr (cx, (fs.map (oV v w)).set a2 (oV v w x)))) else none) = _
        rw [if_pos ⟨h1, by rw [List.length_map]; exact h2, oV_fit h3⟩, ← oH_set]
        show _ = some (pc + 3, st'.map (oV v w), (oH v w th).set k (.inr (cx, (fs.set a2 x).map (oV v w))))
        rw [List.map_set]
      · cases hs
    · cases hs
  case iastore =>
    simp only [oW] at hs
    split at hs
    · rename_i b i k r
      split at hs
      · rename_i d a hth
        obtain ⟨⟨h1, h2, h3, h4⟩, hs3⟩ := t_if_of hs
        cases hs3
        show (match (oH v w th)[k]? with | some (.inl (d, .inl a)) => if d = 0 ∧ ¬ i < 0 ∧ i.toNatClampNeg < a.length then some (pc + 1, st'.map (oV v w), (oH v w th).set k (.inl (0, .inl (a.set i.toNatClampNeg (v b.toNat))))) else none | _ => none) = _
        rw [oH_get hth]
        show (if d = 0 ∧ ¬ i < 0 ∧ i.toNatClampNeg < (a.map (oE v)).length then some (pc + 1, st'.map (oV v w), (oH v w th).set k (.inl (0, .inl ((a.map (oE v)).set i.toNatClampNeg (v b.toNat))))) else none) = _
        rw [if_pos ⟨h1, h2, by rw [List.length_map]; exact h3⟩, ← oH_set]
        show _ = some (pc + 1, st'.map (oV v w), (oH v w th).set k (.inl (0, .inl ((a.set i.toNatClampNeg (oT b.toNat)).map (oE v)))))
        rw [List.map_set, oE_T h4]
      · cases hs
    · rename_i x i k r
      split at hs
      · rename_i d a hth
        obtain ⟨⟨h1, h2, h3, h4⟩, hs3⟩ := t_if_of hs
        cases hs3
        show (match (oH v w th)[k]? with | some (.inl (d, .inl a)) => if d = 0 ∧ ¬ i < 0 ∧ i.toNatClampNeg < a.length then some (pc + 1, st'.map (oV v w), (oH v w th).set k (.inl (0, .inl (a.set i.toNatClampNeg x)))) else none | _ => none) = _
        rw [oH_get hth]
        show (if d = 0 ∧ ¬ i < 0 ∧ i.toNatClampNeg < (a.map (oE v)).length then some (pc + 1, st'.map (oV v w), (oH v w th).set k (.inl (0, .inl ((a.map (oE v)).set i.toNatClampNeg x)))) else none) = _
        rw [if_pos ⟨h1, h2, by rw [List.length_map]; exact h3⟩, ← oH_set]
        show _ = some (pc + 1, st'.map (oV v w), (oH v w th).set k (.inl (0, .inl ((a.set i.toNatClampNeg x).map (oE v)))))
        rw [List.map_set, oE_id h4]
      · cases hs
    · cases hs
  case lastore =>
    simp only [oW, t_W] at hs
    obtain ⟨k, i, x, r, e1, hs2⟩ := t_rij_of hs
    subst e1
    clear hs
    split at hs2
    · rename_i d a hth
      obtain ⟨⟨h1, h2, h3⟩, hs3⟩ := t_if_of hs2
      cases hs3
      show (match (oH v w th)[k]? with | some (.inl (d, .inr (.inl a))) => if d = 1 ∧ ¬ i < 0 ∧ i.toNatClampNeg < a.length then some (pc + 1, st'.map (oV v w), (oH v w th).set k (.inl (1, .inr (.inl (a.set i.toNatClampNeg x))))) else none | _ => none) = _
      rw [oH_get hth]
      show (if d = 1 ∧ ¬ i < 0 ∧ i.toNatClampNeg < a.length then some (pc + 1, st'.map (oV v w), (oH v w th).set k (.inl (1, .inr (.inl (a.set i.toNatClampNeg x))))) else none) = _
      rw [if_pos ⟨h1, h2, h3⟩, ← oH_set]
      rfl
    · cases hs2
  case aastore =>
    simp only [oW, t_W] at hs
    obtain ⟨k, i, x, r, e1, hs2⟩ := t_rir_of hs
    subst e1
    clear hs
    split at hs2
    · rename_i d a hth
      split at hs2
      · rename_i cy fy hty
        obtain ⟨⟨h1, h2, h3, h4⟩, hs3⟩ := t_if_of hs2
        cases hs3
        show (match (oH v w th)[k]? with | some (.inl (d, .inr (.inr a))) => (match (oH v w th)[x]? with | some (.inr (c, _)) => if d = 2 ∧ c = 5 ∧ ¬ i < 0 ∧ i.toNatClampNeg < a.length then some (pc + 1, st'.map (oV v w), (oH v w th).set k (.inl (2, .inr (.inr (a.set i.toNatClampNeg (some x)))))) else none | _ => none) | _ => none) = _
        rw [oH_get hth]
        show (match (oH v w th)[x]? with | some (.inr (c, _)) => if d = 2 ∧ c = 5 ∧ ¬ i < 0 ∧ i.toNatClampNeg < a.length then some (pc + 1, st'.map (oV v w), (oH v w th).set k (.inl (2, .inr (.inr (a.set i.toNatClampNeg (some x)))))) else none | _ => none) = _
        rw [oH_get hty]
        show (if d = 2 ∧ cy = 5 ∧ ¬ i < 0 ∧ i.toNatClampNeg < a.length then some (pc + 1, st'.map (oV v w), (oH v w th).set k (.inl (2, .inr (.inr (a.set i.toNatClampNeg (some x)))))) else none) = _
        rw [if_pos ⟨h1, h2, h3, h4⟩, ← oH_set]
        rfl
      · cases hs2
    · cases hs2
  case invokestatic n =>
    simp only [oW, t_W] at hs
    split at hs
    · rename_i nn dp k sp j r
      split at hs
      · rename_i hcond
        have hc2 : ¬ sp < 0 ∧ ¬ dp < 0 ∧ ¬ nn < 0 ∧ ((r.map (oV v w)).map fun x => x.category).sum ≤ 8 := by rw [oSum]; exact hcond
        show (if ¬ sp < 0 ∧ ¬ dp < 0 ∧ ¬ nn < 0 ∧ ((r.map (oV v w)).map fun x => x.category).sum ≤ 8 then _ else none) = _
        rw [if_pos hc2]
        split at hs
        · rename_i h13
          rw [if_pos h13]
          split at hs
          · rename_i d f hj
            rw [oH_get hj]
            split at hs
            · rename_i d' g hk
              obtain ⟨⟨h1, h2, h3, h4⟩, hs3⟩ := t_if_of hs
              cases hs3
              show (match (oH v w th)[k]? with | some (.inl (d', .inl g)) => if d = 0 ∧ d' = 0 ∧ sp.toNatClampNeg + nn.toNatClampNeg ≤ (f.map (oE v)).length ∧ dp.toNatClampNeg + nn.toNatClampNeg ≤ g.length then some (pc + 3, st'.map (oV v w), (oH v w th).set k (.inl (0, .inl (t_cpy (f.map (oE v)) g sp.toNatClampNeg dp.toNatClampNeg nn.toNatClampNeg)))) else none | _ => none) = _
              rw [oH_get hk]
              show (if d = 0 ∧ d' = 0 ∧ sp.toNatClampNeg + nn.toNatClampNeg ≤ (f.map (oE v)).length ∧ dp.toNatClampNeg + nn.toNatClampNeg ≤ (g.map (oE v)).length then some (pc + 3, st'.map (oV v w), (oH v w th).set k (.inl (0, .inl (t_cpy (f.map (oE v)) (g.map (oE v)) sp.toNatClampNeg dp.toNatClampNeg nn.toNatClampNeg)))) else none) = _
              rw [if_pos ⟨h1, h2, by rw [List.length_map]; exact h3, by rw [List.length_map]; exact h4⟩, ← oH_set]
              show _ = some (pc + 3, st'.map (oV v w), (oH v w th).set k (.inl (0, .inl ((t_cpy f g sp.toNatClampNeg dp.toNatClampNeg nn.toNatClampNeg).map (oE v)))))
              rw [oCpy]
            · cases hs
          · cases hs
        · rename_i h13
          rw [if_neg h13]
          split at hs
          · rename_i d f hj
            rw [oH_get hj]
            split at hs
            · rename_i d' g hk
              obtain ⟨⟨h1, h2, h3, h4⟩, hs3⟩ := t_if_of hs
              cases hs3
              show (match (oH v w th)[k]? with | some (.inl (d', .inr (.inl g))) => if d = 1 ∧ d' = 1 ∧ sp.toNatClampNeg + nn.toNatClampNeg ≤ f.length ∧ dp.toNatClampNeg + nn.toNatClampNeg ≤ g.length then some (pc + 3, st'.map (oV v w), (oH v w th).set k (.inl (1, .inr (.inl (t_cpy f g sp.toNatClampNeg dp.toNatClampNeg nn.toNatClampNeg))))) else none | _ => none) = _
              rw [oH_get hk]
              show (if d = 1 ∧ d' = 1 ∧ sp.toNatClampNeg + nn.toNatClampNeg ≤ f.length ∧ dp.toNatClampNeg + nn.toNatClampNeg ≤ g.length then some (pc + 3, st'.map (oV v w), (oH v w th).set k (.inl (1, .inr (.inl (t_cpy f g sp.toNatClampNeg dp.toNatClampNeg nn.toNatClampNeg))))) else none) = _
              rw [if_pos ⟨h1, h2, h3, h4⟩, ← oH_set]
              rfl
            · cases hs
          · cases hs
      · cases hs
    · cases hs
  all_goals cases hs
end OW
section OA
variable {v : Nat → Int32} {w : Int64} {pc a1 pc' n n1 : Nat} {st st' : List Value} {ins : Instr} {add : tH}
theorem oE_0 (v : Nat → Int32) : oE v 0 = 0 := oE_id (by decide)
theorem oA_of (hs : t_A ins pc a1 st n = some (pc', st', add, n1)) : t_A ins pc a1 (st.map (oV v w)) n = some (pc', st'.map (oV v w), add, n1) ∧ oH v w add = add := by
  cases ins
  case new k =>
    simp only [t_A] at hs ⊢
    cases hq : t_dfl a1 with
    | none => rw [hq] at hs; cases hs
    | some fs =>
      rw [hq] at hs
      cases hs
      refine ⟨rfl, ?_⟩
      show [Sum.inr (a1, fs.map (oV v w))] = _
      have e : fs.map (oV v w) = fs := by
        unfold t_dfl at hq
        cases hz : vwCl[a1]? with
        | none => rw [hz] at hq; cases hq
        | some z =>
          rw [hz] at hq
          cases hq
          rw [List.map_map]
          refine List.map_congr_left (fun k _ => ?_)
          show oV v w (defaultValue (t_ty a1 k)) = defaultValue (t_ty a1 k)
          have : ∀ ty : FieldType, ty ≠ .float → ty ≠ .double → oV v w (defaultValue ty) = defaultValue ty := by
            intro ty h1 h2
            cases ty <;> first | rfl | exact absurd rfl h1 | exact absurd rfl h2
          refine this _ ?_ ?_ <;> (unfold t_ty; repeat' split) <;> (first | (unfold tyX0; repeat' split) | (unfold tyX1; repeat' split) | (unfold tyX2; repeat' split) | (unfold tyX3; repeat' split) | (unfold tyX4; repeat' split) | (unfold tyX6; repeat' split) | (unfold tyX8; repeat' split) | (unfold tyX9; repeat' split) | (unfold tyX10; repeat' split)) <;> (intro h; cases h)
      rw [e]
  case newarray ty =>
    simp only [t_A] at hs ⊢
    obtain ⟨z, r, e1, hs2⟩ := t_i1_of hs
    subst e1
    clear hs
    split at hs2
    · rename_i hz
      show (if ¬ z < 0 ∧ z.toNatClampNeg ≤ 1000 then _ else none) = _ ∧ _
      rw [if_pos hz]
      split at hs2
      · cases hs2
        refine ⟨rfl, ?_⟩
        show [Sum.inl (0, Sum.inl ((List.replicate z.toNatClampNeg (0 : Int32)).map (oE v)))] = _
        rw [List.map_replicate, oE_0]
      · cases hs2
        exact ⟨rfl, rfl⟩
      · cases hs2
    · cases hs2
  case anewarray k =>
    simp only [t_A] at hs ⊢
    obtain ⟨z, r, e1, hs2⟩ := t_i1_of hs
    subst e1
    clear hs
    obtain ⟨h0, hs3⟩ := t_if_of hs2
    cases hs3
    show (if ¬ z < 0 ∧ z.toNatClampNeg ≤ 1000 then some _ else none) = _ ∧ _
    rw [if_pos h0]
    exact ⟨rfl, rfl⟩
  case multianewarray k d =>
    simp only [t_A] at hs ⊢
    obtain ⟨z, y, r, e1, hs2⟩ := t_i2_of hs
    subst e1
    clear hs
    obtain ⟨h0, hs3⟩ := t_if_of hs2
    cases hs3
    refine ⟨?_, ?_⟩
    · show (if d = 2 ∧ ¬ z < 0 ∧ z.toNatClampNeg ≤ 1000 ∧ ¬ y < 0 ∧ y.toNatClampNeg ≤ 1000 then some _ else none) = _
      rw [if_pos h0]
      rfl
    · unfold oH
      rw [List.map_cons, List.map_replicate]
      rfl
  all_goals cases hs
theorem oV_ok (n : Nat) (x : Value) : t_okv n (oV v w x) = t_okv n x := by
  cases x <;> try rfl
  unfold oV
  dsimp only
  split <;> rfl
theorem oVs_ok (n : Nat) (st : List Value) : (st.map (oV v w)).all (t_okv n) = st.all (t_okv n) := by
  induction st with
  | nil => rfl
  | cons x r ih => rw [List.map_cons, List.all_cons, List.all_cons, ih, oV_ok]
theorem oL_ok (n : Nat) (lv : tL) : t_okl n (oL v w lv) = t_okl n lv := by
  unfold t_okl oL
  rw [List.all_map]
  congr 1
  funext q
  exact oV_ok n q.2
theorem oC_ok (n : Nat) (e : tE) : t_oke n (oC v w e) = t_oke n e := by
  rcases e with ⟨k, a | a | a⟩ | ⟨k, fs⟩
  · rfl
  · rfl
  · rfl
  · exact oVs_ok n fs
theorem oH_ok (n : Nat) (th : tH) : t_okh n (oH v w th) = t_okh n th := by
  unfold t_okh oH
  rw [List.all_map]
  congr 1
  funext e
  exact oC_ok n e
end OA
abbrev oTy : Type := Nat → Nat → Nat → Nat → tL → List Value → tH → Nat → Option t_Res
def oStep (ct : Nat → Nat → Option tI) (mi : Nat → Option (Nat × Nat × Nat)) (cell : List (Int32 × Int32)) (ih : oTy) : oTy := fun d i nL pc lv st th ns =>
  match ct i pc with
  | none => none
  | some (cat, ins, a1, a2) =>
    if cat < 3 then match oP cell ins pc a1 nL lv st with
      | some (pc', lv', st') => ih d i nL pc' lv' st' th ns
      | none => none
    else if cat < 8 then match oR cat ins pc a1 a2 st th with
      | some (pc', st') => ih d i nL pc' lv st' th ns
      | none => none
    else if cat < 15 then match d with
      | 0 => none
      | _ + 1 => match oW cat ins pc a1 a2 st th with
        | some (pc', st', th') => ih d i nL pc' lv st' th' ns
        | none => none
    else if cat < 20 then match t_A ins pc a1 st th.length with
      | some (pc', st', add, n1) => if (t_okh th.length th && (st.all (t_okv th.length) && (t_okl th.length lv && decide (th.length + add.length ≤ 1000)))) = true then ih d i nL pc' lv st' (th ++ add) (ns + n1) else none
      | none => none
    else if cat < 30 then match d with
      | 0 => none
      | d' + 1 =>
        if cat = 26 then match st with
          | .ref _ :: r => if t_sum r ≤ 8 then ih d i nL (pc + 3) lv r th ns else none
          | _ => none
        else if cat = 28 then match t_math a2 st with
          | some st' => ih d i nL (pc + 3) lv st' th ns
          | none => none
        else match mi a1 with
          | none => none
          | some (nL', na, rc) => match t_cut cat na rc st th with
            | none => none
            | some (vs, rest) => if t_sum rest ≤ 8 ∧ (lg_sl vs).length ≤ nL' then
                match ih d' a1 nL' 0 (lv_args 0 vs) [] th 0 with
                | none => none
                | some (r, th', n1) => if th'.length = th.length ∨ (t_okl th.length lv && rest.all (t_okv th.length)) = true then ih d i nL (pc + 3) lv (r.toList ++ rest) th' (ns + n1) else none
              else none
    else match t_ret cat st with
      | some r => some (r, th, ns)
      | none => none
noncomputable def oExec (ct : Nat → Nat → Option tI) (mi : Nat → Option (Nat × Nat × Nat)) (cell : List (Int32 × Int32)) (n : Nat) : oTy := Nat.rec (fun _ _ _ _ _ _ _ _ => none) (fun _ ih => oStep ct mi cell ih) n
section OX
variable {v : Nat → Int32} {w : Int64}
theorem oSum_t (st : List Value) : t_sum (st.map (oV v w)) = t_sum st := oSum v w st
theorem o_lv_args : ∀ (vs : List Value) (i : Nat), lv_args i (vs.map (oV v w)) = oL v w (lv_args i vs)
  | [], _ => rfl
  | x :: vs, i => by
    show (i, oV v w x) :: lv_args (if (oV v w x).category = 2 then i + 2 else i + 1) (vs.map (oV v w)) = (i, oV v w x) :: oL v w (lv_args (if x.category = 2 then i + 2 else i + 1) vs)
    rw [o_lv_args vs, oV_cat]
theorem o_lg_sl : ∀ (vs : List Value), (lg_sl (vs.map (oV v w))).length = (lg_sl vs).length
  | [] => rfl
  | x :: vs => by
    have ih := o_lg_sl vs
    unfold lg_sl at ih ⊢
    rw [List.map_cons, List.flatMap_cons, List.flatMap_cons, List.length_append, List.length_append, ih, oV_cat]
    split <;> rfl
theorem o_math {a2 : Nat} {st st' : List Value} (h : t_math a2 st = some st') : t_math a2 (st.map (oV v w)) = some (st'.map (oV v w)) := by
  unfold t_math at h ⊢
  by_cases z0 : a2 = 0
  · rw [if_pos z0] at h ⊢
    obtain ⟨x, y, r, e1, h2⟩ := t_i2_of h
    subst e1
    obtain ⟨h3, h4⟩ := t_if_of h2
    subst h4
    show (if t_sum (r.map (oV v w)) ≤ 8 then some _ else none) = _
    rw [if_pos (by rw [oSum_t]; exact h3)]
    rfl
  · rw [if_neg z0] at h ⊢
    by_cases z1 : a2 = 1
    · rw [if_pos z1] at h ⊢
      obtain ⟨x, y, r, e1, h2⟩ := t_i2_of h
      subst e1
      obtain ⟨h3, h4⟩ := t_if_of h2
      subst h4
      show (if t_sum (r.map (oV v w)) ≤ 8 then some _ else none) = _
      rw [if_pos (by rw [oSum_t]; exact h3)]
      rfl
    · rw [if_neg z1] at h ⊢
      obtain ⟨x, r, e1, h2⟩ := t_i1_of h
      subst e1
      obtain ⟨h3, h4⟩ := t_if_of h2
      subst h4
      show (if t_sum (r.map (oV v w)) ≤ 8 then some _ else none) = _
      rw [if_pos (by rw [oSum_t]; exact h3)]
      rfl
theorem o_cut {cat na rc : Nat} {st vs rest : List Value} {th : tH} (h : t_cut cat na rc st th = some (vs, rest)) : t_cut cat na rc (st.map (oV v w)) (oH v w th) = some (vs.map (oV v w), rest.map (oV v w)) := by
  unfold t_cut at h ⊢
  rw [List.length_map]
  split at h
  · cases h
  rename_i h1
  rw [if_neg h1]
  split at h
  · rename_i h2
    rw [if_pos h2]
    cases h
    rw [← List.map_take, ← List.map_reverse, ← List.map_drop]
  · rename_i h2
    rw [if_neg h2]
    split at h
    · rename_i b rest0 hd
      have hd2 : (st.map (oV v w)).drop na = .ref b :: rest0.map (oV v w) := by
        rw [← List.map_drop, hd]
        rfl
      rw [hd2]
      have e1 : ((st.map (oV v w)).take na).reverse = ((st.take na).reverse).map (oV v w) := by rw [← List.map_take, List.map_reverse]
      rw [e1]
      dsimp only
      split at h
      · rename_i h3
        rw [if_pos h3]
        cases h
        rfl
      · rename_i h3
        rw [if_neg h3]
        split at h
        · rename_i h4
          rw [if_pos h4]
          split at h
          · rename_i ci fs hb
            rw [oH_get hb]
            obtain ⟨h5, h6⟩ := t_if_of h
            cases h6
            show (if ci = rc then some _ else none) = _
            rw [if_pos h5]
            rfl
          · cases h
        · rename_i h4
          rw [if_neg h4]
          obtain ⟨h5, h6⟩ := t_if_of h
          cases h6
          rw [if_pos h5]
          rfl
    · cases h
theorem o_ret {cat : Nat} {st : List Value} {r : Option Value} (h : t_ret cat st = some r) : t_ret cat (st.map (oV v w)) = some (r.map (oV v w)) := by
  unfold t_ret at h
  rcases st with _ | ⟨x, _ | ⟨y, t⟩⟩
  · obtain ⟨h1, h2⟩ := t_if_of h
    subst h2
    show (if cat = 34 then some none else none) = _
    rw [if_pos h1]
    rfl
  · cases x <;> first | (obtain ⟨h1, h2⟩ := t_if_of h; subst h2; show (if _ then some _ else none) = _; rw [if_pos h1]; rfl) | cases h
  · cases h
set_option maxHeartbeats 4000000 in
/-- a run over a box is a run at each of its points -/
theorem o_sound {ct : Nat → Nat → Option tI} {mi : Nat → Option (Nat × Nat × Nat)} {cell : List (Int32 × Int32)} (hv : oIn cell v) : ∀ (n d i nL pc : Nat) (lv : tL) (st : List Value) (th : tH) (ns : Nat) (r : Option Value) (th' : tH) (ns' : Nat), oExec ct mi cell n d i nL pc lv st th ns = some (r, th', ns') → t_exec ct mi n none d i nL pc (oL v w lv) (st.map (oV v w)) (oH v w th) ns = some (r.map (oV v w), oH v w th', ns') := by
  intro n
  induction n with
  | zero => intro d i nL pc lv st th ns r th' ns' h; cases h
  | succ n ih =>
    intro d i nL pc lv st th ns r th' ns' h
    replace h : oStep ct mi cell (oExec ct mi cell n) d i nL pc lv st th ns = some (r, th', ns') := h
    rw [t_exec_s]
    unfold oStep at h
    unfold t_step
    cases hct : ct i pc with
    | none => rw [hct] at h; cases h
    | some en =>
      obtain ⟨cat, ins, a1, a2⟩ := en
      rw [hct] at h
      dsimp only at h ⊢
      by_cases c1 : cat < 3
      · rw [if_pos c1] at h ⊢
        split at h
        · rename_i pc' lv' st' hp
          rw [oP_of hv hp]
          exact ih _ _ _ _ _ _ _ _ _ _ _ h
        · cases h
      rw [if_neg c1] at h ⊢
      by_cases c2 : cat < 8
      · rw [if_pos c2] at h ⊢
        split at h
        · rename_i pc' st' hp
          rw [oR_of hp]
          exact ih _ _ _ _ _ _ _ _ _ _ _ h
        · cases h
      rw [if_neg c2] at h ⊢
      by_cases c3 : cat < 15
      · rw [if_pos c3] at h ⊢
        cases d with
        | zero => cases h
        | succ d =>
          dsimp only at h ⊢
          split at h
          · rename_i pc' st' th2 hp
            rw [oW_of hp]
            exact ih _ _ _ _ _ _ _ _ _ _ _ h
          · cases h
      rw [if_neg c3] at h ⊢
      by_cases c4 : cat < 20
      · rw [if_pos c4] at h ⊢
        split at h
        · rename_i pc' st' add n1 hp
          obtain ⟨g1, g2⟩ := oA_of (v := v) (w := w) hp
          rw [oH_len, g1]
          dsimp only
          split at h
          · rename_i hck
            rw [oH_ok, oVs_ok, oL_ok, if_pos hck]
            have := ih _ _ _ _ _ _ _ _ _ _ _ h
            have ea : oH v w (th ++ add) = oH v w th ++ add := by
              conv => rhs; rw [← g2]
              unfold oH
              rw [List.map_append]
            rw [ea] at this
            exact this
          · cases h
        · cases h
      rw [if_neg c4] at h ⊢
      by_cases c5 : cat < 30
      · rw [if_pos c5] at h ⊢
        cases d with
        | zero => cases h
        | succ d =>
          dsimp only at h ⊢
          by_cases c26 : cat = 26
          · rw [if_pos c26] at h ⊢
            split at h
            · rename_i b r0
              obtain ⟨h8, h⟩ : t_sum r0 ≤ 8 ∧ oExec ct mi cell n (d + 1) i nL (pc + 3) lv r0 th ns = some (r, th', ns') := by
                split at h
                · exact ⟨by assumption, h⟩
                · cases h
              show (if t_sum (r0.map (oV v w)) ≤ 8 then _ else none) = _
              rw [if_pos (by rw [oSum_t]; exact h8)]
              exact ih _ _ _ _ _ _ _ _ _ _ _ h
            · cases h
          rw [if_neg c26] at h ⊢
          by_cases c28 : cat = 28
          · rw [if_pos c28] at h ⊢
            split at h
            · rename_i st' hm
              rw [o_math hm]
              exact ih _ _ _ _ _ _ _ _ _ _ _ h
            · cases h
          rw [if_neg c28] at h ⊢
          split at h
          · cases h
          rename_i nL' na rc hmi
          rw [hmi]
          dsimp only
          split at h
          · cases h
          rename_i vs rest hcut
          rw [o_cut hcut]
          dsimp only
          split at h
          · rename_i hcond
            rw [if_pos (by rw [oSum_t, o_lg_sl]; exact hcond)]
            split at h
            · cases h
            rename_i r1 th1 n1 hcall
            have k1 := ih _ _ _ _ _ _ _ _ _ _ _ hcall
            rw [← o_lv_args] at k1
            have k1 : t_exec ct mi n none d a1 nL' 0 (lv_args 0 (vs.map (oV v w))) [] (oH v w th) 0 = some (r1.map (oV v w), oH v w th1, n1) := k1
            rw [k1]
            dsimp only
            split at h
            · rename_i hfr
              rw [oH_len, oH_len, oL_ok, oVs_ok, if_pos hfr]
              have k2 := ih _ _ _ _ _ _ _ _ _ _ _ h
              rw [List.map_append] at k2
              have er : r1.toList.map (oV v w) = (r1.map (oV v w)).toList := by cases r1 <;> rfl
              rw [er] at k2
              exact k2
            · cases h
          · cases h
      rw [if_neg c5] at h ⊢
      split at h
      · rename_i r0 hr
        cases h
        rw [o_ret hr]
      · cases h
end OX
