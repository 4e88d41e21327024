section TP
variable {p : Program} {l : Launch} {e : Env} {R : Room} {s : State} {m : MethodId} {args : Array Value} {below : List Frame} {meth : Method} {c : Code} {H : Heap} {locs : List Loc} {cells slots : Nat} {Q : State → Prop}
variable {cc : ByteArray} {pc : Nat} {ls : Array Slot} {σ : Nat → Nat} {nL a1 : Nat} {lv lv' : tL} {st st' : List Value} {pc' len : Nat} {own : String} {ins : Instr}
theorem t_rf_v (σ : Nat → Nat) (x : Option Nat) : t_v σ (va_rf x) = va_rf (x.map σ) := by cases x <;> rfl
/-- what the pool says of a constant -/
def t_kst (own : String) (ins : Instr) (a1 : Nat) : List Jvm.Cond := match ins with
  | .ldc k => [.constant own k (Int32.ofNat a1)]
  | .ldc_w k => [.constant own k (Int32.ofNat a1)]
  | .ldc2_w k => [.constantLong own k (Int64.ofNat a1)]
  | _ => []
set_option maxHeartbeats 4000000 in
theorem t_P_ok (hx : p.tables.exec = Jvm.exec) (hb : c.code = cc) (hown : s.vm.findClass own = some m.cls) (hd : decode cc pc = .ok (ins, len)) (hlen : t_len ins = 0 ∨ t_len ins = len) (hbr : t_br ins pc a1 = true) (hk : ∀ w ∈ t_kst own ins a1, w.before args s = true)
    (hh : lv_has ls nL (t_l σ lv)) (hs : t_P ins pc a1 nL lv st = some (pc', lv', st'))
    (k : ∀ ls', lv_has ls' nL (t_l σ lv') → W p l e R s m args below meth c H locs cells slots Q (F0 m pc' ls' (st'.map (t_v σ)))) : W p l e R s m args below meth c H locs cells slots Q (F0 m pc ls (st.map (t_v σ))) := by
  cases ins
  case iadd =>
    cases hlen.resolve_left (by simp [t_len])
    obtain ⟨x, y, r, rfl, hs⟩ := t_i2_of hs
    cases hs
    exact lv_iadd hx hb hd (k ls hh)
  case isub =>
    cases hlen.resolve_left (by simp [t_len])
    obtain ⟨x, y, r, rfl, hs⟩ := t_i2_of hs
    cases hs
    exact lv_isub hx hb hd (k ls hh)
  case imul =>
    cases hlen.resolve_left (by simp [t_len])
    obtain ⟨x, y, r, rfl, hs⟩ := t_i2_of hs
    cases hs
    exact lv_imul hx hb hd (k ls hh)
  case iand =>
    cases hlen.resolve_left (by simp [t_len])
    obtain ⟨x, y, r, rfl, hs⟩ := t_i2_of hs
    cases hs
    exact lv_iand hx hb hd (k ls hh)
  case ior =>
    cases hlen.resolve_left (by simp [t_len])
    obtain ⟨x, y, r, rfl, hs⟩ := t_i2_of hs
    cases hs
    exact lv_ior hx hb hd (k ls hh)
  case ixor =>
    cases hlen.resolve_left (by simp [t_len])
    obtain ⟨x, y, r, rfl, hs⟩ := t_i2_of hs
    cases hs
    exact lv_ixor hx hb hd (k ls hh)
  case ishl =>
    cases hlen.resolve_left (by simp [t_len])
    obtain ⟨x, y, r, rfl, hs⟩ := t_i2_of hs
    cases hs
    exact lv_ishl hx hb hd (k ls hh)
  case ishr =>
    cases hlen.resolve_left (by simp [t_len])
    obtain ⟨x, y, r, rfl, hs⟩ := t_i2_of hs
    cases hs
    exact lv_ishr hx hb hd (k ls hh)
  case idiv =>
    cases hlen.resolve_left (by simp [t_len])
    obtain ⟨x, y, r, rfl, hs⟩ := t_i2_of hs
    obtain ⟨h0, hs⟩ := t_ifn_of hs
    cases hs
    exact lv_idiv hx hb hd h0 (k ls hh)
  case irem =>
    cases hlen.resolve_left (by simp [t_len])
    obtain ⟨x, y, r, rfl, hs⟩ := t_i2_of hs
    obtain ⟨h0, hs⟩ := t_ifn_of hs
    cases hs
    exact lv_irem hx hb hd h0 (k ls hh)
  case iushr =>
    cases hlen.resolve_left (by simp [t_len])
    obtain ⟨x, y, r, rfl, hs⟩ := t_i2_of hs
    cases hs
    exact lv_iushr hx hb hd rfl (k ls hh)
  case ineg =>
    cases hlen.resolve_left (by simp [t_len])
    obtain ⟨x, r, rfl, hs⟩ := t_i1_of hs
    cases hs
    exact lv_ineg hx hb hd (k ls hh)
  case i2l =>
    cases hlen.resolve_left (by simp [t_len])
    obtain ⟨x, r, rfl, hs⟩ := t_i1_of hs
    cases hs
    exact lv_i2l hx hb hd rfl (k ls hh)
  case i2b =>
    cases hlen.resolve_left (by simp [t_len])
    obtain ⟨x, r, rfl, hs⟩ := t_i1_of hs
    cases hs
    exact lv_i2b hx hb hd rfl (k ls hh)
  case i2s =>
    cases hlen.resolve_left (by simp [t_len])
    obtain ⟨x, r, rfl, hs⟩ := t_i1_of hs
    cases hs
    exact lv_i2s hx hb hd rfl (k ls hh)
  case i2c =>
    cases hlen.resolve_left (by simp [t_len])
    obtain ⟨x, r, rfl, hs⟩ := t_i1_of hs
    cases hs
    exact lv_i2c hx hb hd rfl (k ls hh)
  case l2i =>
    cases hlen.resolve_left (by simp [t_len])
    obtain ⟨x, r, rfl, hs⟩ := t_j1_of hs
    cases hs
    exact lv_l2i hx hb hd rfl (k ls hh)
  case lmul =>
    cases hlen.resolve_left (by simp [t_len])
    obtain ⟨x, y, r, rfl, hs⟩ := t_j2_of hs
    cases hs
    exact lv_lmul hx hb hd (k ls hh)
  case land =>
    cases hlen.resolve_left (by simp [t_len])
    obtain ⟨x, y, r, rfl, hs⟩ := t_j2_of hs
    cases hs
    exact lv_land hx hb hd (k ls hh)
  case lor =>
    cases hlen.resolve_left (by simp [t_len])
    obtain ⟨x, y, r, rfl, hs⟩ := t_j2_of hs
    cases hs
    exact lv_lor hx hb hd (k ls hh)
  case lshl =>
    cases hlen.resolve_left (by simp [t_len])
    obtain ⟨x, y, r, rfl, hs⟩ := t_ji_of hs
    cases hs
    exact lv_lshl hx hb hd rfl (k ls hh)
  case lcmp =>
    cases hlen.resolve_left (by simp [t_len])
    obtain ⟨x, y, r, rfl, hs⟩ := t_j2_of hs
    cases hs
    exact W.lcmp hx hb hd (k ls hh)
  case iconst n =>
    cases hlen.resolve_left (by simp [t_len])
    cases hs
    exact lv_iconst hx hb hd rfl (k ls hh)
  case bipush n =>
    cases hlen.resolve_left (by simp [t_len])
    cases hs
    exact lv_bipush hx hb hd rfl (k ls hh)
  case sipush n =>
    cases hlen.resolve_left (by simp [t_len])
    cases hs
    exact lv_sipush hx hb hd rfl (k ls hh)
  case lconst n =>
    cases hlen.resolve_left (by simp [t_len])
    cases hs
    exact lv_lconst hx hb hd rfl (k ls hh)
  case aconst_null =>
    cases hlen.resolve_left (by simp [t_len])
    cases hs
    exact lv_null hx hb hd (k ls hh)
  case ldc n =>
    cases hlen.resolve_left (by simp [t_len])
    cases hs
    exact lv_ldc hx hb hown (hk _ List.mem_cons_self) hd (k ls hh)
  case ldc_w n =>
    cases hlen.resolve_left (by simp [t_len])
    cases hs
    exact lv_ldcw hx hb hown (hk _ List.mem_cons_self) hd (k ls hh)
  case ldc2_w n =>
    cases hlen.resolve_left (by simp [t_len])
    cases hs
    exact lv_ldc2 hx hb hown (hk _ List.mem_cons_self) hd (k ls hh)
  case iload n =>
    cases hlen.resolve_left (by simp [t_len])
    obtain ⟨x, hg, hs⟩ := t_gI_of hs
    cases hs
    exact lv_iload hx hb hd (t_get_at hh hg) (k ls hh)
  case iload_n n =>
    cases hlen.resolve_left (by simp [t_len])
    obtain ⟨x, hg, hs⟩ := t_gI_of hs
    cases hs
    exact lv_iload_n hx hb hd rfl (t_get_at hh hg) (k ls hh)
  case lload n =>
    cases hlen.resolve_left (by simp [t_len])
    obtain ⟨x, hg, hs⟩ := t_gJ_of hs
    cases hs
    exact lv_lload hx hb hd (t_get_at hh hg) (k ls hh)
  case lload_n n =>
    cases hlen.resolve_left (by simp [t_len])
    obtain ⟨x, hg, hs⟩ := t_gJ_of hs
    cases hs
    exact lv_lload_n hx hb hd rfl (t_get_at hh hg) (k ls hh)
  case aload n =>
    simp only [t_P] at hs
    cases hlen.resolve_left (by simp [t_len])
    obtain ⟨x, hg, hs⟩ := t_gA_of hs
    cases hs
    cases x with
    | none => exact lv_aloadN hx hb hd (t_get_at hh hg) (k ls hh)
    | some x => exact lv_aload hx hb hd (t_get_at hh hg) (k ls hh)
  case aload_n n =>
    simp only [t_P] at hs
    cases hlen.resolve_left (by simp [t_len])
    obtain ⟨x, hg, hs⟩ := t_gA_of hs
    cases hs
    cases x with
    | none => exact lv_aload_nN hx hb hd rfl (t_get_at hh hg) (k ls hh)
    | some x => exact lv_aload_n hx hb hd rfl (t_get_at hh hg) (k ls hh)
  case istore n =>
    cases hlen.resolve_left (by simp [t_len])
    obtain ⟨x, r, rfl, hs⟩ := t_i1_of hs
    obtain ⟨h0, hs⟩ := t_if_of hs
    cases hs
    exact lv_istore hx hb hd hh h0 (t_l_set1 σ lv n (.int x)) k
  case istore_n n =>
    cases hlen.resolve_left (by simp [t_len])
    obtain ⟨x, r, rfl, hs⟩ := t_i1_of hs
    obtain ⟨h0, hs⟩ := t_if_of hs
    cases hs
    exact lv_istore_n hx hb hd rfl hh h0 (t_l_set1 σ lv n.val (.int x)) k
  case lstore n =>
    cases hlen.resolve_left (by simp [t_len])
    obtain ⟨x, r, rfl, hs⟩ := t_j1_of hs
    obtain ⟨h0, hs⟩ := t_if_of hs
    cases hs
    exact lv_lstore hx hb hd hh h0 (t_l_set2 σ lv n (.long x)) k
  case lstore_n n =>
    cases hlen.resolve_left (by simp [t_len])
    obtain ⟨x, r, rfl, hs⟩ := t_j1_of hs
    obtain ⟨h0, hs⟩ := t_if_of hs
    cases hs
    exact lv_lstore_n hx hb hd rfl hh h0 (t_l_set2 σ lv n.val (.long x)) k
  case astore n =>
    simp only [t_P] at hs
    cases hlen.resolve_left (by simp [t_len])
    obtain ⟨x, r, e1, hs2⟩ := t_a1_of hs
    subst e1
    clear hs
    have hs := hs2
    obtain ⟨h0, hs⟩ := t_if_of hs
    cases hs
    cases x with
    | none => exact lv_astoreN hx hb hd hh h0 (t_l_set1 σ lv _ .null) k
    | some x => exact lv_astore hx hb hd hh h0 (t_l_set1 σ lv _ (.ref x)) k
  case astore_n n =>
    simp only [t_P] at hs
    cases hlen.resolve_left (by simp [t_len])
    obtain ⟨x, r, e1, hs2⟩ := t_a1_of hs
    subst e1
    clear hs
    have hs := hs2
    obtain ⟨h0, hs⟩ := t_if_of hs
    cases hs
    cases x with
    | none => exact lv_astore_nN hx hb hd rfl hh h0 (t_l_set1 σ lv _ .null) k
    | some x => exact lv_astore_n hx hb hd rfl hh h0 (t_l_set1 σ lv _ (.ref x)) k
  case iinc n z =>
    cases hlen.resolve_left (by simp [t_len])
    obtain ⟨x, hg, hs⟩ := t_gI_of hs
    obtain ⟨h0, hs⟩ := t_if_of hs
    cases hs
    obtain ⟨j, hj⟩ := List.getElem?_of_mem (List.mem_map.mpr ⟨(n, Value.int x), t_get_mem hg, rfl⟩ : (n, t_v σ (.int x)) ∈ t_l σ lv)
    exact lv_iinc hx hb hd hh hj rfl h0 (t_l_set1 σ lv n (.int (x + Int32.ofInt z))) k
  case dup =>
    cases hlen.resolve_left (by simp [t_len])
    rcases st with _ | ⟨v, r⟩
    · cases hs
    obtain ⟨h0, hs⟩ := t_if_of hs
    cases hs
    exact lv_dup hx hb hd ((t_v_cat σ v).trans h0) (k ls hh)
  case pop =>
    cases hlen.resolve_left (by simp [t_len])
    rcases st with _ | ⟨v, r⟩
    · cases hs
    obtain ⟨h0, hs⟩ := t_if_of hs
    cases hs
    exact lv_pop hx hb hd ((t_v_cat σ v).trans h0) (k ls hh)
  case pop2 =>
    cases hlen.resolve_left (by simp [t_len])
    obtain ⟨x, r, rfl, hs⟩ := t_j1_of hs
    cases hs
    exact lv_pop2_2 hx hb hd rfl (k ls hh)
  case dup_x1 =>
    cases hlen.resolve_left (by simp [t_len])
    rcases st with _ | ⟨v, _ | ⟨w, r⟩⟩
    · cases hs
    · cases hs
    obtain ⟨h0, hs⟩ := t_if_of hs
    cases hs
    exact lv_dup_x1 hx hb hd ((t_v_cat σ v).trans h0.1) ((t_v_cat σ w).trans h0.2) (k ls hh)
  case dup2 =>
    cases hlen.resolve_left (by simp [t_len])
    rcases st with _ | ⟨v, _ | ⟨w, r⟩⟩
    · cases hs
    · cases hs
    obtain ⟨h0, hs⟩ := t_if_of hs
    cases hs
    exact lv_dup2_11 hx hb hd ((t_v_cat σ v).trans h0.1) ((t_v_cat σ w).trans h0.2) (k ls hh)
  case goto n =>
    cases hlen.resolve_left (by simp [t_len])
    cases hs
    exact lv_goto hx hb hd (of_decide_eq_true hbr) (k ls hh)
  case if_icmp cd o =>
    cases hlen.resolve_left (by simp [t_len])
    obtain ⟨x, y, r, rfl, hs⟩ := t_i2_of hs
    cases hs
    have ht := of_decide_eq_true hbr
    cases cd with
    | eq => exact lv_icmp_eq hx hb hd ht (fun h => by have k2 := k ls hh; rw [if_pos (by simpa [t_icmp] using h)] at k2; exact k2) (fun h => by have k2 := k ls hh; rw [if_neg (by simpa [t_icmp] using h)] at k2; exact k2)
    | ne => exact lv_icmp_ne hx hb hd ht (fun h => by have k2 := k ls hh; rw [if_pos (by simpa [t_icmp] using h)] at k2; exact k2) (fun h => by have k2 := k ls hh; rw [if_neg (by simpa [t_icmp] using h)] at k2; exact k2)
    | lt => exact lv_icmp_lt hx hb hd ht (fun h => by have k2 := k ls hh; rw [if_pos (by simpa [t_icmp] using h)] at k2; exact k2) (fun h => by have k2 := k ls hh; rw [if_neg (by simpa [t_icmp] using h)] at k2; exact k2)
    | ge => exact lv_icmp_ge hx hb hd ht (fun h => by have k2 := k ls hh; rw [if_pos (by simpa [t_icmp] using h)] at k2; exact k2) (fun h => by have k2 := k ls hh; rw [if_neg (by simpa [t_icmp] using h)] at k2; exact k2)
    | gt => exact lv_icmp_gt hx hb hd ht (fun h => by have k2 := k ls hh; rw [if_pos (by simpa [t_icmp] using h)] at k2; exact k2) (fun h => by have k2 := k ls hh; rw [if_neg (by simpa [t_icmp] using h)] at k2; exact k2)
    | le => exact lv_icmp_le hx hb hd ht (fun h => by have k2 := k ls hh; rw [if_pos (by simpa [t_icmp] using h)] at k2; exact k2) (fun h => by have k2 := k ls hh; rw [if_neg (by simpa [t_icmp] using h)] at k2; exact k2)
  case ifCond cd o =>
    cases hlen.resolve_left (by simp [t_len])
    obtain ⟨x, r, rfl, hs⟩ := t_i1_of hs
    cases hs
    have ht := of_decide_eq_true hbr
    cases cd with
    | eq => exact lv_if_eq hx hb hd ht (fun h => by have k2 := k ls hh; rw [if_pos (by simpa [t_icmp] using h)] at k2; exact k2) (fun h => by have k2 := k ls hh; rw [if_neg (by simpa [t_icmp] using h)] at k2; exact k2)
    | ne => exact lv_if_ne hx hb hd ht (fun h => by have k2 := k ls hh; rw [if_pos (by simpa [t_icmp] using h)] at k2; exact k2) (fun h => by have k2 := k ls hh; rw [if_neg (by simpa [t_icmp] using h)] at k2; exact k2)
    | lt => exact lv_if_lt hx hb hd ht (fun h => by have k2 := k ls hh; rw [if_pos (by simpa [t_icmp] using h)] at k2; exact k2) (fun h => by have k2 := k ls hh; rw [if_neg (by simpa [t_icmp] using h)] at k2; exact k2)
    | ge => exact lv_if_ge hx hb hd ht (fun h => by have k2 := k ls hh; rw [if_pos (by simpa [t_icmp] using h)] at k2; exact k2) (fun h => by have k2 := k ls hh; rw [if_neg (by simpa [t_icmp] using h)] at k2; exact k2)
    | gt => exact lv_if_gt hx hb hd ht (fun h => by have k2 := k ls hh; rw [if_pos (by simpa [t_icmp] using h)] at k2; exact k2) (fun h => by have k2 := k ls hh; rw [if_neg (by simpa [t_icmp] using h)] at k2; exact k2)
    | le => exact lv_if_le hx hb hd ht (fun h => by have k2 := k ls hh; rw [if_pos (by simpa [t_icmp] using h)] at k2; exact k2) (fun h => by have k2 := k ls hh; rw [if_neg (by simpa [t_icmp] using h)] at k2; exact k2)
  case ifnull o =>
    simp only [t_P] at hs
    cases hlen.resolve_left (by simp [t_len])
    obtain ⟨x, r, e1, hs2⟩ := t_a1_of hs
    subst e1
    clear hs
    have hs := hs2
    cases hs
    cases x with
    | none => exact lv_ifnullN hx hb hd (of_decide_eq_true hbr) (k ls hh)
    | some x => exact lv_ifnull hx hb hd (k ls hh)
  case ifnonnull o =>
    simp only [t_P] at hs
    cases hlen.resolve_left (by simp [t_len])
    obtain ⟨x, r, e1, hs2⟩ := t_a1_of hs
    subst e1
    clear hs
    have hs := hs2
    cases hs
    cases x with
    | none => exact lv_ifnonnullN hx hb hd (k ls hh)
    | some x => exact lv_ifnonnull hx hb hd (of_decide_eq_true hbr) (k ls hh)
  case tableswitch d lo hi offs =>
    simp only [t_P] at hs
    obtain ⟨x, r, e1, hs2⟩ := t_i1_of hs
    subst e1
    clear hs
    have hs := hs2
    split at hs
    · rename_i h
      cases hg : t_go pc d with
      | none => rw [hg] at hs; cases hs
      | some t =>
        rw [hg] at hs
        cases hs
        exact lv_tableOut hx hb hd h (t_go_of hg) (k ls hh)
    · rename_i h
      split at hs
      · rename_i off ho
        cases hg : t_go pc off with
        | none => rw [hg] at hs; cases hs
        | some t =>
          rw [hg] at hs
          cases hs
          exact lv_tableIn hx hb hd (fun z => h (Or.inl z)) (fun z => h (Or.inr z)) ho (t_go_of hg) (k ls hh)
      · cases hs
  all_goals cases hs
end TP
