section TS
variable {p : Program} {l : Launch} {e : Env} {R : Room} {s : State} {m : MethodId} {args : Array Value} {below : List Frame} {meth : Method} {c : Code} {H : Heap} {locs : List Loc} {cells slots : Nat} {Q : State → Prop}
variable {pc : Nat} {ls : Array Slot} {σ : Nat → Nat} {kd : Nat → ClassId} {D : va_G} {A : Nat → Prop} {th th1 : tH} {r1 : Option Value}
theorem t_free (hD : va_D A (t_w σ kd th)) (hS : va_S A s.heap H locs) (hA : ∀ q, s.heap.size ≤ q → A q) : ∀ q, va_A (t_w σ kd th) H.size q → A q := by
  intro q h
  rcases h with ⟨k, e, h⟩ | h
  · exact hD.2 k _ h
  · exact hA q (Nat.le_trans hS.1 h)
theorem t_after {mc ms1 : Nat} {st0 rest : List Value} {a : Array Value} (hr : va_Run p l e R s m args below meth c H locs cells slots mc ms1 (F0 m pc ls st0) rest (t_Q D kd σ th th1 r1 H.size a) (va_A (t_w σ kd th) H.size)) (hD : va_D A (t_w σ kd th)) (hS : va_S A s.heap H locs) (hA : ∀ q, s.heap.size ≤ q → A q)
    (kk : ∀ (σ1 : Nat → Nat) (H1 : Heap) (locs1 : List Loc), (∀ k, k < th.length ∨ th1.length ≤ k → σ1 k = σ k) → va_P D vwCl (t_w σ1 kd th1) H1 → va_D A (t_w σ1 kd th1) → va_S A s.heap H1 locs1 → W p l e R s m args below meth c H1 locs1 (cells + mc) (slots + ms1) Q (F0 m (pc + 3) ls ((r1.map (t_v σ1)).toList ++ rest))) : W p l e R s m args below meth c H locs cells slots Q (F0 m pc ls st0) := by
  intro T hT X
  obtain ⟨v, st₀, t, T', L, h0, X', hL, e1, e2, ⟨⟨σ1, hv, g1, g2, g3⟩, hz, hk⟩, st⟩ := hr T hT X
  cases hv
  rw [h0] at hz hk
  have hf := t_free hD hS hA
  obtain ⟨t2, a1, b1⟩ := kk σ1 T'.heap (locs ++ L) g1 (by rw [e1]; exact g2) (g3.weaken (fun _ q _ h => hf q.1 h))
    ⟨Nat.le_trans hS.1 (by rw [e1]; exact hz), fun q h1 h2 => by rw [e1, hk q (Nat.lt_of_lt_of_le h1 hS.1) (fun z => h2 (hf q z))]; exact hS.2.1 q h1 h2, fun q hq => by
      rcases List.mem_append.mp hq with h | h
      · exact hS.2.2 q h
      · exact hf _ (hL q h)⟩ T' rfl X'
  exact ⟨t2, st t2 a1, b1⟩
theorem t_blind (D : va_G) (kd : Nat → ClassId) (σ : Nat → Nat) (th : tH) (sz : Nat) (vs : List Value) : FrameBlind (va_Pc vs (t_Pre D kd σ th sz)) := by
  intro a U g mk h
  obtain ⟨h1, h2, h3, h4, h5, h6⟩ := h
  exact ⟨h1, h2, h3, va_K.moved (u := U) (U := U.calling g mk a) (Vm.Alike.refl U.vm) h4, h5, t_Ex.same (u := U) (U := U.calling g mk a) rfl h6⟩
theorem t_pre (hK : va_K D vwCl (t_tys kd) s) (hP : va_P D vwCl (t_w σ kd th) H) (hD : va_D A (t_w σ kd th)) (hS : va_S A s.heap H locs) (hA : ∀ q, s.heap.size ≤ q → A q) (hE : t_Ex σ A s s.heap) (vs : List Value) : ∀ U : State, U.heap = H → s.WarmedH U.vm → va_Pc vs (t_Pre D kd σ th H.size) vs.toArray U := by
  intro U hU hW
  refine ⟨rfl, by rw [hU], by rw [hU]; exact hP, va_K.moved hW.alike hK, hD.weaken (fun _ _ _ _ => trivial), ?_⟩
  rw [hU]
  exact t_Ex.warm hW ((hE.kept hS.2.1).narrow (t_free hD hS hA))
theorem t_gin {q : t_M} (hm : t_mok q) : GoodIn gt (t_mw q) := by
  intro w hw
  rcases List.mem_cons.mp hw with rfl | h
  · exact ⟨hm.1, gt_good hm.1⟩
  · exact ⟨h, gt_good h⟩
theorem t_nst_of {own : String} {k : Nat} {y : MethodName} (hE : t_Ex σ A s s.heap) (h : t_nst.any (fun q => q.1 == own && (q.2.1 == k && decide (q.2.2 = y))) = true) : va_Nw (.methodLinkNest own k y "NineTrees") s := by
  simp only [List.any_eq_true, Bool.and_eq_true, beq_iff_eq, decide_eq_true_eq] at h
  obtain ⟨q, hq, q1, q2, q3⟩ := h
  have := hE.2.2.2.2.1 q hq
  rw [q1, q2, q3] at this
  exact this
set_option maxHeartbeats 4000000 in
theorem t_run {cat na rc d' ns1 len nL : Nat} {ins : Instr} {st vs rest : List Value} {q q' : t_M} (S : CallFix p m c q.2.1 nL s args gt q.1.cls) (hd : decode q.2.1 pc = .ok (ins, len)) (hlen : t_len ins = 0 ∨ t_len ins = len) (hn : ∀ w ∈ t_needC q.1.cls cat ins q'.1, w ∈ gt) (ho : t_okC q.1.cls cat ins q'.1 = true) (h26 : cat ≠ 26) (hm : t_mok q') (hna : q'.2.2.2.2.1 = na) (hrc : q'.2.2.2.2.2 = rc) (hrc9 : rc ≤ 8 + 2) (hcut : t_cut cat na rc st th = some (vs, rest)) (h8 : t_sum rest ≤ 8)
    (hR1 : d' + 1 ≤ R.frames) (hR2 : 38 * (d' + 1) ≤ R.locals) (hc1 : cells + (th1.length - th.length) ≤ R.cells) (hc2 : slots + ns1 ≤ R.slots) (hls : ls.size = nL)
    (hK : va_K D vwCl (t_tys kd) s) (hP : va_P D vwCl (t_w σ kd th) H) (hD : va_D A (t_w σ kd th)) (hS : va_S A s.heap H locs) (hA : ∀ q, s.heap.size ≤ q → A q) (hE : t_Ex σ A s s.heap)
    (hM : Met l q'.1 (t_mw q') (t_rm d' (th1.length - th.length) ns1) (va_Pc (vs.map (t_v σ)) (t_Pre D kd σ th H.size)) (t_Q D kd σ th th1 r1 H.size) (th1.length - th.length) ns1 (va_A (t_w σ kd th) H.size)) :
    ∃ a : Array Value, va_Run p l e R s m args below meth c H locs cells slots (th1.length - th.length) ns1 (F0 m pc ls (st.map (t_v σ))) (rest.map (t_v σ)) (t_Q D kd σ th th1 r1 H.size a) (va_A (t_w σ kd th) H.size) := by
  have hts := S.2.2.2.2
  have hd' : q'.1.cls ≠ "java/lang/invoke/MethodHandle" ∧ q'.1.cls ≠ "java/lang/invoke/VarHandle" ∧ (parseMethodDescriptor q'.1.desc).map (fun d => d.parameters.length) = some na := ⟨hm.2.2.2.1.1, hm.2.2.2.1.2, by rw [← hna]; exact hm.2.2.2.2.1⟩
  have hR' : (t_rm d' (th1.length - th.length) ns1).frames + 1 ≤ R.frames ∧ 8 + (q'.2.2.1 + 11) + (t_rm d' (th1.length - th.length) ns1).locals ≤ R.locals := ⟨hR1, by
    have h19 := hm.2.2.2.2.2.1
    show 8 + (q'.2.2.1 + 11) + 38 * d' ≤ R.locals
    omega⟩
  have hroom : ∀ rr : List Value, 2 * (F0 m pc ls rr).monitorRoom + ((rest.map (t_v σ)).map fun v => v.category).sum ≤ 8 := fun rr => lv_room (by rw [t_sum_v]; exact h8)
  unfold t_cut at hcut
  split at hcut
  · cases hcut
  rename_i hlt
  have hlt' : na ≤ st.length := by omega
  have hAl : (((st.take na).reverse).map (t_v σ)).length = na := by
    rw [List.length_map, List.length_reverse, List.length_take]
    omega
  have hArev : (((st.take na).reverse).map (t_v σ)).reverse = (st.take na).map (t_v σ) := by
    rw [List.map_reverse, List.reverse_reverse]
  cases ins
  case invokestatic k =>
    cases hlen.resolve_left (by simp [t_len])
    have hst : cat = 21 ∨ cat = 24 := by
      simp only [t_okC, Bool.or_eq_true, Bool.and_eq_true, beq_iff_eq] at ho
      omega
    rw [if_pos hst] at hcut
    simp only [Option.some.injEq, Prod.mk.injEq] at hcut
    obtain ⟨rfl, rfl⟩ := hcut
    have hstk : (F0 m pc ls (st.map (t_v σ))).stack = (((st.take na).reverse).map (t_v σ)).reverse ++ (st.drop na).map (t_v σ) := by
      show st.map (t_v σ) = _
      rw [hArev, ← List.map_append, List.take_append_drop]
    by_cases h24 : cat = 24
    · have w1 : Cond.static q'.1 ∈ gt := hn _ (by simp [t_needC, h24])
      have hnw : va_Nw (.methodLinkNest q.1.cls k q'.1 "NineTrees") s := by
        refine t_nst_of hE ?_
        simp only [t_okC, h24] at ho
        simpa using ho
      exact ⟨_, va_runSN (As := ((st.take na).reverse).map (t_v σ)) (rest := (st.drop na).map (t_v σ)) S hM ⟨va_cnB na hts (t_gin hm) rfl rfl rfl hnw (hts _ hm.2.1) hd' hR', hts _ w1, trivial⟩ ⟨t_blind D kd σ th H.size _, t_pre hK hP hD hS hA hE _⟩ rfl hAl hls hstk (hroom _) hd ⟨hc1, hc2⟩⟩
    · have w1 : Cond.static q'.1 ∈ gt := hn _ (by simp [t_needC, h24])
      have w2 : Cond.methodLink q.1.cls k q'.1 ∈ gt := hn _ (by simp [t_needC, h24])
      exact ⟨_, va_runS (As := ((st.take na).reverse).map (t_v σ)) (rest := (st.drop na).map (t_v σ)) S hM ⟨callB_of na hts (t_gin hm) rfl rfl rfl (hts _ hm.2.1) (hts _ w2) hd' hR', hts _ w1⟩ ⟨t_blind D kd σ th H.size _, t_pre hK hP hD hS hA hE _⟩ rfl hAl hls hstk (hroom _) hd ⟨hc1, hc2⟩⟩
  case invokespecial k =>
    cases hlen.resolve_left (by simp [t_len])
    simp only [t_okC, Bool.or_eq_true, Bool.and_eq_true, beq_iff_eq] at ho
    obtain ⟨hcc, hini⟩ := ho.resolve_left h26
    have hst : ¬ (cat = 21 ∨ cat = 24) := by omega
    rw [if_neg hst] at hcut
    split at hcut
    · rename_i b rest0 hdr
      rw [if_pos (by omega)] at hcut
      simp only [Option.some.injEq, Prod.mk.injEq] at hcut
      obtain ⟨rfl, rfl⟩ := hcut
      have hstk : (F0 m pc ls (st.map (t_v σ))).stack = (((st.take na).reverse).map (t_v σ)).reverse ++ .ref (σ b) :: rest0.map (t_v σ) := by
        show st.map (t_v σ) = _
        rw [hArev]
        conv => lhs; rw [← List.take_append_drop na st, hdr]
        rw [List.map_append]
        rfl
      have hret := hm.2.2.2.2.2.2.1 hini
      by_cases h25 : cat = 25
      · have w1 : Cond.instanceMethod q'.1 ∈ gt := hn _ (by simp [t_needC, h25])
        have hnw : va_Nw (.methodLinkNest q.1.cls k q'.1 "NineTrees") s := t_nst_of hE (hcc.resolve_left (by omega)).2
        exact ⟨_, va_runIN (As := ((st.take na).reverse).map (t_v σ)) (rest := rest0.map (t_v σ)) S hM ⟨va_cnB na hts (t_gin hm) (by show t_mw q' = _; unfold t_mw; rw [hret]) rfl rfl hnw (hts _ hm.2.1) hd' hR', hini, hts _ w1⟩ ⟨t_blind D kd σ th H.size _, t_pre hK hP hD hS hA hE (.ref (σ b) :: ((st.take na).reverse).map (t_v σ))⟩ rfl hAl hls hstk (hroom _) hd ⟨hc1, hc2⟩⟩
      · have w1 : Cond.instanceMethod q'.1 ∈ gt := hn _ (by simp [t_needC, h25, h26])
        have w2 : Cond.methodLink q.1.cls k q'.1 ∈ gt := hn _ (by simp [t_needC, h25, h26])
        exact ⟨_, va_runI (As := ((st.take na).reverse).map (t_v σ)) (rest := rest0.map (t_v σ)) S hM ⟨callB_of na hts (t_gin hm) (by show t_mw q' = _; unfold t_mw; rw [hret]) rfl rfl (hts _ hm.2.1) (hts _ w2) hd' hR', hini, hts _ w1⟩ ⟨t_blind D kd σ th H.size _, t_pre hK hP hD hS hA hE (.ref (σ b) :: ((st.take na).reverse).map (t_v σ))⟩ rfl hAl hls hstk (hroom _) hd ⟨hc1, hc2⟩⟩
    · cases hcut
  case invokevirtual k =>
    cases hlen.resolve_left (by simp [t_len])
    simp only [t_okC, Bool.or_eq_true, Bool.and_eq_true, beq_iff_eq] at ho
    have hst : ¬ (cat = 21 ∨ cat = 24) := by omega
    rw [if_neg hst] at hcut
    have w1 : Cond.methodLink q.1.cls k q'.1 ∈ gt := hn _ (by simp [t_needC])
    have w2 : Cond.instanceMethod q'.1 ∈ gt := hn _ (by simp [t_needC])
    have w3 : Cond.selects q'.1.cls q'.1 q'.1 ∈ gt := hn _ (by simp [t_needC])
    split at hcut
    · rename_i b rest0 hdr
      rw [if_neg (by omega)] at hcut
      have hstk : (F0 m pc ls (st.map (t_v σ))).stack = (((st.take na).reverse).map (t_v σ)).reverse ++ .ref (σ b) :: rest0.map (t_v σ) := by
        show st.map (t_v σ) = _
        rw [hArev]
        conv => lhs; rw [← List.take_append_drop na st, hdr]
        rw [List.map_append]
        rfl
      have fin : ∀ (vs0 : List Value), vs0 = .ref b :: (st.take na).reverse → vs = vs0 → rest = rest0 → (∃ cellB : Cell, H[σ b]? = some cellB ∧ cellB.vm.isStatics = false ∧ s.vm.findClass q'.1.cls = some cellB.cls) → ∃ a : Array Value, va_Run p l e R s m args below meth c H locs cells slots (th1.length - th.length) ns1 (F0 m pc ls (st.map (t_v σ))) (rest.map (t_v σ)) (t_Q D kd σ th th1 r1 H.size a) (va_A (t_w σ kd th) H.size) := by
        intro vs0 e1 e2 e3 hrec
        subst e1 e2 e3
        exact ⟨_, va_runV (As := ((st.take na).reverse).map (t_v σ)) (rest := rest.map (t_v σ)) S hM ⟨callB_of na hts (t_gin hm) rfl rfl rfl (hts _ hm.2.1) (hts _ w1) hd' hR', hts _ w2, hts _ w3⟩ ⟨t_blind D kd σ th H.size _, hrec, t_pre hK hP hD hS hA hE (.ref (σ b) :: ((st.take na).reverse).map (t_v σ))⟩ rfl hAl hls hstk (hroom _) hd ⟨hc1, hc2⟩⟩
      split at hcut
      · split at hcut
        · rename_i ci fs hb
          split at hcut
          · rename_i hci
            simp only [Option.some.injEq, Prod.mk.injEq] at hcut
            have hci9 : ∃ z, vwCl[ci]? = some z := by
              obtain ⟨z, hz, -⟩ := hP b _ (t_w_get hb)
              exact ⟨z, hz⟩
            obtain ⟨z, hz⟩ := hci9
            have hzc : z.1 = q'.1.cls := hm.2.2.2.2.2.2.2 z (by rw [hrc, ← hci]; exact hz)
            refine fin _ rfl hcut.1.symm hcut.2.symm ?_
            rw [← hzc]
            exact va_recv hK hP hz (t_w_get hb)
          · cases hcut
        · cases hcut
      · split at hcut
        · rename_i hb
          simp only [Option.some.injEq, Prod.mk.injEq] at hcut
          refine fin _ rfl hcut.1.symm hcut.2.symm ?_
          have hcl : q'.1.cls = "java/lang/String" := by
            rcases ho with h | h
            · omega
            · exact h.2
          rw [hcl]
          have hlift : ∀ x : Nat, 1001 ≤ x ∧ x < 1011 → ∃ i, i < 10 ∧ x = 1001 + i := fun x hx => ⟨x - 1001, by omega, by omega⟩
          obtain ⟨i, hi, rfl⟩ := hlift b hb
          obtain ⟨cell, h1, h2, h3, -⟩ := (hE.1 i hi).1.kept hS.2.1
          exact ⟨cell, h1, h2, h3⟩
        · cases hcut
    · cases hcut
  all_goals cases ho
end TS
