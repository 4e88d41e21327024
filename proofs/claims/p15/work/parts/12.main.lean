set_option maxHeartbeats 8000000 in
/-- every run of the small machine is a run of the machine -/
theorem t_sound {ms : List t_M} {ct : Nat → Nat → Option tI} {mi : Nat → Option (Nat × Nat × Nat)} (HC : t_HC ms ct) (HM : t_HM ms mi) : ∀ (n : Nat) (xo : Option (List Int32)) (d i nL pc : Nat) (lv : tL) (st : List Value) (th : tH) (ns : Nat) (r : Option Value) (th' : tH) (ns' : Nat), t_exec ct mi n xo d i nL pc lv st th ns = some (r, th', ns') →
    (th.length ≤ th'.length ∧ (th'.length = th.length ∨ th'.length ≤ 1000) ∧ ns ≤ ns') ∧ t_Good ms xo d i nL pc lv st th ns r th' ns' := by
  intro n
  induction n with
  | zero => intro xo d i nL pc lv st th ns r th' ns' h; cases h
  | succ n ih =>
    intro xo d i nL pc lv st th ns r th' ns' h
    rw [t_exec_s] at h
    unfold t_step at h
    split at h
    · cases h
    rename_i cat ins a1 a2 hct
    obtain ⟨q0, hq0, ⟨len, hd, hlen⟩, hok, hnd⟩ := HC i pc _ hct
    unfold t_okI at hok
    unfold t_nd at hnd
    dsimp only at hd hlen hok hnd
    by_cases c1 : cat < 3
    · rw [if_pos c1] at h hok hnd
      split at h
      · rename_i pc' lv' st' hp
        obtain ⟨hm, hg⟩ := ih _ _ _ _ _ _ _ _ _ _ _ _ h
        refine ⟨hm, ?_⟩
        intro p l e R s m args below meth c H locs Q ls σ kd D A n0 q hq S hmn hR1 hR2 hn0 hc hsl hK hA hE hX hP hD hS hh hret
        cases hq0.symm.trans hq
        exact t_P_ok S.1 S.2.1 S.2.2.2.1 hd hlen hok (fun w hw => S.2.2.2.2 w (hnd w hw)) hh hp (fun ls' hh' => hg n0 q0 hq S hmn hR1 hR2 hn0 hc hsl hK hA hE hX hP hD hS hh' hret)
      · cases h
    rw [if_neg c1] at h hok hnd
    by_cases c2 : cat < 8
    · rw [if_pos c2] at h hok hnd
      split at h
      · rename_i pc' st' hp
        obtain ⟨hm, hg⟩ := ih _ _ _ _ _ _ _ _ _ _ _ _ h
        refine ⟨hm, ?_⟩
        intro p l e R s m args below meth c H locs Q ls σ kd D A n0 q hq S hmn hR1 hR2 hn0 hc hsl hK hA hE hX hP hD hS hh hret
        cases hq0.symm.trans hq
        exact t_R_ok S.1 S.2.1 S.2.2.2.1 S.2.2.2.2 hd hlen hnd hok hK hP hS hE hX hp (hg n0 q0 hq S hmn hR1 hR2 hn0 hc hsl hK hA hE hX hP hD hS hh hret)
      · cases h
    rw [if_neg c2] at h hok hnd
    by_cases c3 : cat < 15
    · rw [if_pos c3] at h hok hnd
      cases d with
      | zero => cases h
      | succ d =>
        dsimp only at h
        split at h
        · rename_i pc' st' th2 hp
          have hl2 := t_W_len hp
          obtain ⟨hm, hg⟩ := ih _ _ _ _ _ _ _ _ _ _ _ _ h
          rw [hl2] at hm
          refine ⟨hm, ?_⟩
          intro p l e R s m args below meth c H locs Q ls σ kd D A n0 q hq S hmn hR1 hR2 hn0 hc hsl hK hA hE hX hP hD hS hh hret
          cases hq0.symm.trans hq
          have hml : c.maxLocals = ls.size := S.2.2.1.trans hh.1.symm
          refine t_W_ok S.1 S.2.1 hml S.2.2.2.1 S.2.2.2.2 hd hlen hnd (by rw [hmn]; exact hok) ⟨by omega, by omega⟩ hK hP hD hS hp (fun H1 locs1 j1 j2 j3 => ?_)
          have := hg n0 q0 hq S hmn hR1 hR2 (by rw [hl2]; exact hn0) hc hsl hK hA hE hX j1 j2 j3 hh (by rw [hl2]; exact hret)
          rw [hl2] at this
          exact this
        · cases h
    rw [if_neg c3] at h hok hnd
    by_cases c4 : cat < 20
    · rw [if_pos c4] at h hok hnd
      split at h
      · rename_i pc' st' add n1 hp
        split at h
        · rename_i hck
          simp only [Bool.and_eq_true, decide_eq_true_eq] at hck
          obtain ⟨k1, k2, k3, k4⟩ := hck
          obtain ⟨⟨hm1, hm2, hm3⟩, hg⟩ := ih _ _ _ _ _ _ _ _ _ _ _ _ h
          rw [List.length_append] at hm1 hm2
          refine ⟨⟨by omega, by omega, by omega⟩, ?_⟩
          intro p l e R s m args below meth c H locs Q ls σ kd D A n0 q hq S hmn hR1 hR2 hn0 hc hsl hK hA hE hX hP hD hS hh hret
          cases hq0.symm.trans hq
          refine t_A_ok S.1 S.2.1 S.2.2.2.1 S.2.2.2.2 hd hlen hnd hK hP hD hS hA hE hp k1 k2 k4 (by omega) (by omega) (fun σ1 H1 g1 g2 g3 g4 => ?_)
          have hag : ∀ k, k < th.length ∨ 1000 ≤ k → σ1 k = σ k := fun k hk => g1 k (by rw [List.length_append]; omega)
          have hE1 : t_Ex σ1 A s s.heap := hE.to (fun k hk => hag k (Or.inr hk))
          have hX1 : t_Sc σ1 A xo s := by
            intro xs hxs
            rw [hag 1000 (Or.inr (Nat.le_refl _))]
            exact hX xs hxs
          have hh1 : lv_has ls nL (t_l σ1 lv) := by
            rw [t_okl_eq hag k3]
            exact hh
          have := hg n0 q0 hq S hmn hR1 hR2 (by rw [List.length_append]; omega) hc hsl hK hA hE1 hX1 g2 g3 g4 hh1 (fun σ' H' locs' pc2 ls2 cat2 ins2 f1 => hret σ' H' locs' pc2 ls2 cat2 ins2 (fun k hk => by
            rw [List.length_append] at f1 g1
            rw [f1 k (by omega), g1 k (by omega)]))
          rw [List.length_append, show th.length + add.length - n0 = th.length - n0 + add.length by omega] at this
          exact this
        · cases h
      · cases h
    rw [if_neg c4] at h hok hnd
    by_cases c5 : cat < 30
    · rw [if_pos c5] at h hok hnd
      cases d with
      | zero => cases h
      | succ d =>
        dsimp only at h
        by_cases c28 : cat = 28
        · rw [if_neg (by omega), if_pos c28] at h
          rw [if_pos c28] at hok hnd
          split at h
          · rename_i st' hmth
            obtain ⟨hm, hg⟩ := ih _ _ _ _ _ _ _ _ _ _ _ _ h
            refine ⟨hm, ?_⟩
            intro p l e R s m args below meth c H locs Q ls σ kd D A n0 q hq S hmn hR1 hR2 hn0 hc hsl hK hA hE hX hP hD hS hh hret
            cases hq0.symm.trans hq
            have hml : c.maxLocals = ls.size := S.2.2.1.trans hh.1.symm
            have hk := hg n0 q0 hq S hmn hR1 hR2 hn0 hc hsl hK hA hE hX hP hD hS hh hret
            cases ins
            case invokestatic k =>
              cases hlen.resolve_left (by simp [t_len])
              unfold t_math at hmth
              by_cases z0 : a2 = 0
              · rw [if_pos z0] at hmth
                obtain ⟨x, y, r0, e1, e2⟩ := t_i2_of hmth
                subst e1
                obtain ⟨e3, e4⟩ := t_if_of e2
                subst e4
                have w1 : Cond.methodLink q0.1.cls k Lib.Math.max.name ∈ gt := hnd _ (by simp [t_needM, z0])
                have w2 : Cond.static Lib.Math.max.name ∈ gt := hnd _ (by simp [t_needM, z0])
                have w3 : Cond.initialized "java/lang/Math" ∈ gt := hnd _ (by simp [t_needM, z0])
                have w4 : Cond.code Lib.Math.max.name Lib.Math.max.code 2 (some .int) ∈ gt := hnd _ (by simp [t_needM, z0])
                exact va_mmax S.1 S.2.1 hml S.2.2.2.1 (S.2.2.2.2 _ w1) (S.2.2.2.2 _ w2) (S.2.2.2.2 _ w3) (S.2.2.2.2 _ w4) (by omega) (by rw [t_sum_v]; omega) (by omega) (by omega) hd hk
              · rw [if_neg z0] at hmth
                by_cases z1 : a2 = 1
                · rw [if_pos z1] at hmth
                  obtain ⟨x, y, r0, e1, e2⟩ := t_i2_of hmth
                  subst e1
                  obtain ⟨e3, e4⟩ := t_if_of e2
                  subst e4
                  have w1 : Cond.methodLink q0.1.cls k Lib.Math.min.name ∈ gt := hnd _ (by simp [t_needM, z0, z1])
                  have w2 : Cond.static Lib.Math.min.name ∈ gt := hnd _ (by simp [t_needM, z0, z1])
                  have w3 : Cond.initialized "java/lang/Math" ∈ gt := hnd _ (by simp [t_needM, z0, z1])
                  have w4 : Cond.code Lib.Math.min.name Lib.Math.min.code 2 (some .int) ∈ gt := hnd _ (by simp [t_needM, z0, z1])
                  exact va_mmin S.1 S.2.1 hml S.2.2.2.1 (S.2.2.2.2 _ w1) (S.2.2.2.2 _ w2) (S.2.2.2.2 _ w3) (S.2.2.2.2 _ w4) (by omega) (by rw [t_sum_v]; omega) (by omega) (by omega) hd hk
                · rw [if_neg z1] at hmth
                  obtain ⟨x, r0, e1, e2⟩ := t_i1_of hmth
                  subst e1
                  obtain ⟨e3, e4⟩ := t_if_of e2
                  subst e4
                  have w1 : Cond.methodLink q0.1.cls k Lib.Math.abs.name ∈ gt := hnd _ (by simp [t_needM, z0, z1])
                  have w2 : Cond.static Lib.Math.abs.name ∈ gt := hnd _ (by simp [t_needM, z0, z1])
                  have w3 : Cond.initialized "java/lang/Math" ∈ gt := hnd _ (by simp [t_needM, z0, z1])
                  have w4 : Cond.code Lib.Math.abs.name Lib.Math.abs.code 1 (some .int) ∈ gt := hnd _ (by simp [t_needM, z0, z1])
                  exact va_mabs S.1 S.2.1 hml S.2.2.2.1 (S.2.2.2.2 _ w1) (S.2.2.2.2 _ w2) (S.2.2.2.2 _ w3) (S.2.2.2.2 _ w4) (by omega) (by rw [t_sum_v]; omega) (by omega) (by omega) hd hk
            all_goals cases hok
          · cases h
        rw [if_neg c28] at hok hnd
        split at hok
        · rename_i y hy
          rw [hy] at hnd
          dsimp only at hnd
          by_cases c26 : cat = 26
          · rw [if_pos c26] at h
            split at h
            · rename_i b r0
              split at h
              · rename_i h8
                obtain ⟨hm, hg⟩ := ih _ _ _ _ _ _ _ _ _ _ _ _ h
                refine ⟨hm, ?_⟩
                intro p l e R s m args below meth c H locs Q ls σ kd D A n0 q hq S hmn hR1 hR2 hn0 hc hsl hK hA hE hX hP hD hS hh hret
                cases hq0.symm.trans hq
                cases ins
                case invokespecial k =>
                  cases hlen.resolve_left (by simp [t_len])
                  have w1 : Cond.methodLink q0.1.cls k objectInit ∈ gt := hnd _ (by simp [t_needC, c26])
                  have w2 : Cond.instanceMethod objectInit ∈ gt := hnd _ (by simp [t_needC, c26])
                  have w3 : Cond.code objectInit ⟨#[0xb1]⟩ 1 none ∈ gt := hnd _ (by simp [t_needC, c26])
                  refine W.objInit (g := F0 m pc ls ((Value.ref b :: r0).map (t_v σ))) (a := σ b) (rest := r0.map (t_v σ)) S.1 S.2.1 S.2.2.2.1 (S.2.2.2.2 _ w1) (S.2.2.2.2 _ w2) (S.2.2.2.2 _ w3) rfl (hh.1.trans S.2.2.1.symm) rfl hd (by omega) ?_ (hg n0 q0 hq S hmn hR1 hR2 hn0 hc hsl hK hA hE hX hP hD hS hh hret)
                  rw [t_sum_v]
                  show 2 * 0 + _ + 12 ≤ _
                  omega
                case invokevirtual k => rw [c26] at hok; cases hok
                case invokestatic k => rw [c26] at hok; cases hok
                all_goals cases hok
              · cases h
            · cases h
          · rw [if_neg c26, if_neg c28] at h
            split at h
            · cases h
            rename_i nL' na rc hmi
            obtain ⟨q', hq', e1, e2, e3, e4, hmk⟩ := HM _ _ _ _ hmi
            subst e1
            have ey : y = q'.1 := by
              rw [hq'] at hy
              exact (Option.some.inj hy).symm
            subst ey
            split at h
            · cases h
            rename_i vs rest hcut
            split at h
            · rename_i hcond
              obtain ⟨h8, hlg⟩ := hcond
              split at h
              · cases h
              rename_i r1 th1 n1 hcall
              split at h
              · rename_i hfr
                obtain ⟨⟨a1m, a2m, a3m⟩, hg1⟩ := ih _ _ _ _ _ _ _ _ _ _ _ _ hcall
                obtain ⟨⟨b1m, b2m, b3m⟩, hg2⟩ := ih _ _ _ _ _ _ _ _ _ _ _ _ h
                refine ⟨⟨by omega, by omega, by omega⟩, ?_⟩
                intro p l e R s m args below meth c H locs Q ls σ kd D A n0 q hq S hmn hR1 hR2 hn0 hc hsl hK hA hE hX hP hD hS hh hret
                cases hq0.symm.trans hq
                have hM := t_met hq' hmk hg1 a1m hlg l D kd σ H.size
                obtain ⟨a0, hrun⟩ := t_run (e := e) (below := below) (meth := meth) (locs := locs) (cells := th.length - n0) (slots := ns) (ls := ls) S hd hlen hnd hok c26 hmk e2 e3 e4 hcut h8 hR1 hR2 (by omega) (by omega) hh.1 hK hP hD hS hA hE hM
                refine t_after hrun hD hS hA (fun σ1 H1 locs1 g1 g2 g3 g4 => ?_)
                have hag : (∀ k, σ1 k = σ k) ∨ ((t_okl th.length lv && rest.all (t_okv th.length)) = true ∧ th1.length ≤ 1000) := by
                  rcases a2m with z | z
                  · exact Or.inl (fun k => g1 k (by omega))
                  · rcases hfr with y2 | y2
                    · exact Or.inl (fun k => g1 k (by omega))
                    · exact Or.inr ⟨y2, z⟩
                have hagX : ∀ k, 1000 ≤ k → σ1 k = σ k := by
                  rcases hag with z | z
                  · exact fun k _ => z k
                  · exact fun k hk => g1 k (by omega)
                have hE1 : t_Ex σ1 A s s.heap := hE.to hagX
                have hX1 : t_Sc σ1 A xo s := by
                  intro xs hxs
                  rw [hagX 1000 (Nat.le_refl _)]
                  exact hX xs hxs
                have hlv : t_l σ1 lv = t_l σ lv := by
                  rcases hag with z | z
                  · rw [funext z]
                  · rw [Bool.and_eq_true] at z
                    exact t_okl_eq (fun k hk => g1 k (by omega)) z.1.1
                have hrs : rest.map (t_v σ1) = rest.map (t_v σ) := by
                  rcases hag with z | z
                  · rw [funext z]
                  · rw [Bool.and_eq_true] at z
                    exact t_oks_eq (fun k hk => g1 k (by omega)) z.1.2
                have hh1 : lv_has ls nL (t_l σ1 lv) := by
                  rw [hlv]
                  exact hh
                have k2 := hg2 n0 q0 hq S hmn hR1 hR2 (by omega) hc hsl hK hA hE1 hX1 g2 g3 g4 hh1 (fun σ' H' locs' pc2 ls2 cat2 ins2 f1 => hret σ' H' locs' pc2 ls2 cat2 ins2 (fun k hk => by
                  rw [f1 k (by omega), g1 k (by omega)]))
                rw [List.map_append, hrs, show th1.length - n0 = th.length - n0 + (th1.length - th.length) by omega] at k2
                have er : r1.toList.map (t_v σ1) = (r1.map (t_v σ1)).toList := by cases r1 <;> rfl
                rw [er] at k2
                exact k2
              · cases h
            · cases h
        · cases hok
    rw [if_neg c5] at h hok hnd
    split at h
    · rename_i r0 hr
      cases h
      refine ⟨⟨Nat.le_refl _, Or.inl rfl, Nat.le_refl _⟩, ?_⟩
      intro p l e R s m args below meth c H locs Q ls σ kd D A n0 q hq S hmn hR1 hR2 hn0 hc hsl hK hA hE hX hP hD hS hh hret
      cases hq0.symm.trans hq
      have hst : st = r.toList := by
        revert hr
        unfold t_ret
        rcases st with _ | ⟨v, _ | ⟨w, t⟩⟩
        · intro hr
          obtain ⟨-, hr⟩ := t_if_of hr
          rw [← hr]
          rfl
        · cases v <;> intro hr <;> first | (obtain ⟨-, hr⟩ := t_if_of hr; rw [← hr]; rfl) | cases hr
        · intro hr
          cases hr
      have hl1 : len = 1 := by
        revert hok hlen
        cases q0.2.2.2.1 with
        | none => intro hlen hok; simp [t_okT] at hok; rw [hok.2] at hlen; simp [t_len] at hlen; exact hlen.symm
        | some ty => intro hlen hok; cases ty <;> simp [t_okT] at hok <;> (rw [hok.2] at hlen; simp [t_len] at hlen; exact hlen.symm)
      rw [hl1] at hd
      rw [hst]
      exact hret σ H locs pc ls cat ins (fun _ _ => rfl) hP hD hS hd hok (by rw [← hst]; exact hr)
    · cases h
