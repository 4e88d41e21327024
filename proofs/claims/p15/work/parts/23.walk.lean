/-! ===== runs of the small machine, put together ===== -/
section WM
variable {ct : Nat → Nat → Option tI} {mi : Nat → Option (Nat × Nat × Nat)}
theorem t_step_mono {f g : t_Ty} (hfg : ∀ xo d i nL pc lv st th ns res, f xo d i nL pc lv st th ns = some res → g xo d i nL pc lv st th ns = some res) {xo : Option (List Int32)} {d i nL pc : Nat} {lv : tL} {st : List Value} {th : tH} {ns : Nat} {res : t_Res} (h : t_step ct mi f xo d i nL pc lv st th ns = some res) : t_step ct mi g xo d i nL pc lv st th ns = some res := by
  unfold t_step at h ⊢
  cases hct : ct i pc with
  | none => rw [hct] at h; cases h
  | some en =>
    obtain ⟨cat, ins, a1, a2⟩ := en
    rw [hct] at h
    dsimp only at h ⊢
    by_cases c1 : cat < 3
    · rw [if_pos c1] at h ⊢
      split at h
      · rename_i pc' lv' st' hp
        try rw [hp]
        exact hfg _ _ _ _ _ _ _ _ _ _ h
      · cases h
    rw [if_neg c1] at h ⊢
    by_cases c2 : cat < 8
    · rw [if_pos c2] at h ⊢
      split at h
      · rename_i pc' st' hp
        try rw [hp]
        exact hfg _ _ _ _ _ _ _ _ _ _ h
      · cases h
    rw [if_neg c2] at h ⊢
    by_cases c3 : cat < 15
    · rw [if_pos c3] at h ⊢
      cases d with
      | zero => cases h
      | succ d =>
        dsimp only at h ⊢
        split at h
        · rename_i pc' st' th2 hp
          try rw [hp]
          exact hfg _ _ _ _ _ _ _ _ _ _ h
        · cases h
    rw [if_neg c3] at h ⊢
    by_cases c4 : cat < 20
    · rw [if_pos c4] at h ⊢
      split at h
      · rename_i pc' st' add n1 hp
        try rw [hp]
        try dsimp only
        split at h
        · rename_i hck
          rw [if_pos hck]
          exact hfg _ _ _ _ _ _ _ _ _ _ h
        · cases h
      · cases h
    rw [if_neg c4] at h ⊢
    by_cases c5 : cat < 30
    · rw [if_pos c5] at h ⊢
      cases d with
      | zero => cases h
      | succ d =>
        dsimp only at h ⊢
        by_cases c26 : cat = 26
        · rw [if_pos c26] at h ⊢
          split at h
          · rename_i b r0
            try dsimp only
            split at h
            · rename_i h8
              rw [if_pos h8]
              exact hfg _ _ _ _ _ _ _ _ _ _ h
            · cases h
          · cases h
        rw [if_neg c26] at h ⊢
        by_cases c28 : cat = 28
        · rw [if_pos c28] at h ⊢
          split at h
          · rename_i st' hm
            try rw [hm]
            exact hfg _ _ _ _ _ _ _ _ _ _ h
          · cases h
        rw [if_neg c28] at h ⊢
        split at h
        · cases h
        rename_i nL' na rc hmi
        try rw [hmi]
        try dsimp only
        split at h
        · cases h
        rename_i vs rest hcut
        try rw [hcut]
        try dsimp only
        split at h
        · rename_i hcond
          rw [if_pos hcond]
          split at h
          · cases h
          rename_i r1 th1 n1 hcall
          rw [hfg _ _ _ _ _ _ _ _ _ _ hcall]
          try dsimp only
          split at h
          · rename_i hfr
            rw [if_pos hfr]
            exact hfg _ _ _ _ _ _ _ _ _ _ h
          · cases h
        · cases h
    rw [if_neg c5] at h ⊢
    exact h
theorem t_mono1 : ∀ (n : Nat) xo d i nL pc lv st th ns res, t_exec ct mi n xo d i nL pc lv st th ns = some res → t_exec ct mi (n + 1) xo d i nL pc lv st th ns = some res
  | 0, _, _, _, _, _, _, _, _, _, _, h => by cases h
  | n + 1, _, _, _, _, _, _, _, _, _, _, h => t_step_mono (t_mono1 n) h
theorem t_mono {n : Nat} (k : Nat) {xo : Option (List Int32)} {d i nL pc : Nat} {lv : tL} {st : List Value} {th : tH} {ns : Nat} {res : t_Res} (h : t_exec ct mi n xo d i nL pc lv st th ns = some res) : t_exec ct mi (n + k) xo d i nL pc lv st th ns = some res := by
  induction k with
  | zero => exact h
  | succ k ih => exact t_mono1 _ _ _ _ _ _ _ _ _ _ _ ih
/-- what writes and makes keep, a run keeps -/
theorem t_inv {P : tH → Prop} (hW : ∀ cat ins pc a1 a2 st th pc' st' th', t_W cat ins pc a1 a2 st th = some (pc', st', th') → P th → P th') (hA : ∀ th add : tH, P th → P (th ++ add)) : ∀ (n : Nat) (xo : Option (List Int32)) (d i nL pc : Nat) (lv : tL) (st : List Value) (th : tH) (ns : Nat) (r : Option Value) (th' : tH) (ns' : Nat), t_exec ct mi n xo d i nL pc lv st th ns = some (r, th', ns') → P th → P th' := by
  intro n
  induction n with
  | zero => intro xo d i nL pc lv st th ns r th' ns' h; cases h
  | succ n ih =>
    intro xo d i nL pc lv st th ns r th' ns' h hp0
    rw [t_exec_s] at h
    unfold t_step at h
    split at h
    · cases h
    rename_i cat ins a1 a2 hct
    by_cases c1 : cat < 3
    · rw [if_pos c1] at h
      split at h
      · exact ih _ _ _ _ _ _ _ _ _ _ _ _ h hp0
      · cases h
    rw [if_neg c1] at h
    by_cases c2 : cat < 8
    · rw [if_pos c2] at h
      split at h
      · exact ih _ _ _ _ _ _ _ _ _ _ _ _ h hp0
      · cases h
    rw [if_neg c2] at h
    by_cases c3 : cat < 15
    · rw [if_pos c3] at h
      cases d with
      | zero => cases h
      | succ d =>
        dsimp only at h
        split at h
        · rename_i pc' st' th2 hp
          exact ih _ _ _ _ _ _ _ _ _ _ _ _ h (hW _ _ _ _ _ _ _ _ _ _ hp hp0)
        · cases h
    rw [if_neg c3] at h
    by_cases c4 : cat < 20
    · rw [if_pos c4] at h
      split at h
      · split at h
        · exact ih _ _ _ _ _ _ _ _ _ _ _ _ h (hA _ _ hp0)
        · cases h
      · cases h
    rw [if_neg c4] at h
    by_cases c5 : cat < 30
    · rw [if_pos c5] at h
      cases d with
      | zero => cases h
      | succ d =>
        dsimp only at h
        by_cases c26 : cat = 26
        · rw [if_pos c26] at h
          split at h
          · split at h
            · exact ih _ _ _ _ _ _ _ _ _ _ _ _ h hp0
            · cases h
          · cases h
        rw [if_neg c26] at h
        by_cases c28 : cat = 28
        · rw [if_pos c28] at h
          split at h
          · exact ih _ _ _ _ _ _ _ _ _ _ _ _ h hp0
          · cases h
        rw [if_neg c28] at h
        split at h
        · cases h
        split at h
        · cases h
        split at h
        · split at h
          · cases h
          rename_i r1 th1 n1 hcall
          split at h
          · exact ih _ _ _ _ _ _ _ _ _ _ _ _ h (ih _ _ _ _ _ _ _ _ _ _ _ _ hcall hp0)
          · cases h
        · cases h
    rw [if_neg c5] at h
    split at h
    · cases h
      exact hp0
    · cases h
theorem t_set_obj {th : tH} {k j c : Nat} {e : tE} (he : (∃ a, th[j]? = some (.inl a)) ∨ ∃ c0 fs0 fs1, th[j]? = some (.inr (c0, fs0)) ∧ e = .inr (c0, fs1)) (h : ∃ fs, th[k]? = some (.inr (c, fs))) : ∃ fs, (th.set j e)[k]? = some (.inr (c, fs)) := by
  obtain ⟨fs, h⟩ := h
  by_cases hj : j = k
  · subst hj
    rcases he with ⟨a, ha⟩ | ⟨c0, fs0, fs1, h1, h2⟩
    · rw [ha] at h; cases h
    · rw [h1] at h
      cases h
      subst h2
      exact ⟨fs1, List.getElem?_set_self (List.getElem?_eq_some_iff.mp h1).1⟩
  · exact ⟨fs, by rw [List.getElem?_set_ne hj]; exact h⟩
/-- an object stays an object of its kind -/
theorem t_W_obj {k c : Nat} : ∀ cat ins pc a1 a2 st (th : tH) pc' st' (th' : tH), t_W cat ins pc a1 a2 st th = some (pc', st', th') → (∃ fs, th[k]? = some (.inr (c, fs))) → ∃ fs, th'[k]? = some (.inr (c, fs)) := by
  intro cat ins pc a1 a2 st th pc' st' th' h hk
  cases ins <;> simp only [t_W, t_rii, t_rij, t_rir] at h <;> (try cases h) <;> (repeat' split at h) <;> (first | (cases h; done) | skip)
  all_goals
    cases h
    refine t_set_obj ?_ hk
    first
      | exact Or.inr ⟨_, _, _, by assumption, rfl⟩
      | exact Or.inl ⟨_, by assumption⟩
theorem t_obj {k c : Nat} {n : Nat} {xo : Option (List Int32)} {d i nL pc : Nat} {lv : tL} {st : List Value} {th : tH} {ns : Nat} {r : Option Value} {th' : tH} {ns' : Nat} (h : t_exec ct mi n xo d i nL pc lv st th ns = some (r, th', ns')) (hk : ∃ fs, th[k]? = some (.inr (c, fs))) : ∃ fs, th'[k]? = some (.inr (c, fs)) :=
  t_inv (P := fun th => ∃ fs, th[k]? = some (.inr (c, fs))) t_W_obj (fun th add h => by
    obtain ⟨fs, h⟩ := h
    exact ⟨fs, by rw [List.getElem?_append_left (List.getElem?_eq_some_iff.mp h).1]; exact h⟩) _ _ _ _ _ _ _ _ _ _ _ _ _ h hk
end WM
/-- from here the method comes to an answer with Q -/
def Wp (xo : Option (List Int32)) (d i nL pc : Nat) (lv : tL) (st : List Value) (th : tH) (ns : Nat) (Q : t_Res → Prop) : Prop := ∃ (n : Nat) (res : t_Res), t_exec t_ctf t_mif n xo d i nL pc lv st th ns = some res ∧ Q res
section WP
variable {xo : Option (List Int32)} {d i nL pc cat a1 a2 pc' : Nat} {ins : Instr} {lv lv' : tL} {st st' : List Value} {th : tH} {ns : Nat} {Q : t_Res → Prop}
theorem w_P (hc : t_ctf i pc = some (cat, ins, a1, a2)) (h3 : cat < 3) (hp : t_P ins pc a1 nL lv st = some (pc', lv', st')) (k : Wp xo d i nL pc' lv' st' th ns Q) : Wp xo d i nL pc lv st th ns Q := by
  obtain ⟨n, res, h1, h2⟩ := k
  refine ⟨n + 1, res, ?_, h2⟩
  rw [t_exec_s]
  unfold t_step
  rw [hc]
  dsimp only
  rw [if_pos h3, hp]
  exact h1
theorem w_R (hc : t_ctf i pc = some (cat, ins, a1, a2)) (h3 : ¬ cat < 3 ∧ cat < 8) (hp : t_R xo cat ins pc a1 a2 st th = some (pc', st')) (k : Wp xo d i nL pc' lv st' th ns Q) : Wp xo d i nL pc lv st th ns Q := by
  obtain ⟨n, res, h1, h2⟩ := k
  refine ⟨n + 1, res, ?_, h2⟩
  rw [t_exec_s]
  unfold t_step
  rw [hc]
  dsimp only
  rw [if_neg h3.1, if_pos h3.2, hp]
  exact h1
theorem w_A {add : tH} {n1 : Nat} (hc : t_ctf i pc = some (cat, ins, a1, a2)) (h3 : ¬ cat < 3 ∧ ¬ cat < 8 ∧ ¬ cat < 15 ∧ cat < 20) (hp : t_A ins pc a1 st th.length = some (pc', st', add, n1)) (hck : (t_okh th.length th && (st.all (t_okv th.length) && (t_okl th.length lv && decide (th.length + add.length ≤ 1000)))) = true) (k : Wp xo d i nL pc' lv st' (th ++ add) (ns + n1) Q) : Wp xo d i nL pc lv st th ns Q := by
  obtain ⟨n, res, h1, h2⟩ := k
  refine ⟨n + 1, res, ?_, h2⟩
  rw [t_exec_s]
  unfold t_step
  rw [hc]
  dsimp only
  rw [if_neg h3.1, if_neg h3.2.1, if_neg h3.2.2.1, if_pos h3.2.2.2, hp]
  dsimp only
  rw [if_pos hck]
  exact h1
theorem w_call {nL' na rc n1 m1 : Nat} {vs rest : List Value} {r : Option Value} {th' : tH} (hc : t_ctf i pc = some (cat, ins, a1, a2)) (h3 : ¬ cat < 20 ∧ cat < 30 ∧ cat ≠ 26 ∧ cat ≠ 28) (hm : t_mif a1 = some (nL', na, rc)) (hcut : t_cut cat na rc st th = some (vs, rest)) (h8 : t_sum rest ≤ 8 ∧ (lg_sl vs).length ≤ nL') (hcall : t_exec t_ctf t_mif n1 none d a1 nL' 0 (lv_args 0 vs) [] th 0 = some (r, th', m1)) (hfr : th'.length = th.length ∨ (t_okl th.length lv && rest.all (t_okv th.length)) = true) (k : Wp xo (d + 1) i nL (pc + 3) lv (r.toList ++ rest) th' (ns + m1) Q) : Wp xo (d + 1) i nL pc lv st th ns Q := by
  obtain ⟨n, res, h1, h2⟩ := k
  refine ⟨n1 + n + 1, res, ?_, h2⟩
  rw [t_exec_s]
  unfold t_step
  rw [hc]
  dsimp only
  rw [if_neg (by omega), if_neg (by omega), if_neg (by omega), if_neg h3.1, if_pos h3.2.1, if_neg h3.2.2.1, if_neg h3.2.2.2, hm]
  dsimp only
  rw [hcut]
  dsimp only
  rw [if_pos h8, t_mono n hcall]
  dsimp only
  rw [if_pos hfr, Nat.add_comm n1 n]
  exact t_mono n1 h1
theorem w_ret {r : Option Value} (hc : t_ctf i pc = some (cat, ins, a1, a2)) (h3 : ¬ cat < 30) (hr : t_ret cat st = some r) (hq : Q (r, th, ns)) : Wp xo d i nL pc lv st th ns Q := by
  refine ⟨1, (r, th, ns), ?_, hq⟩
  show t_step t_ctf t_mif _ xo d i nL pc lv st th ns = _
  unfold t_step
  rw [hc]
  dsimp only
  rw [if_neg (by omega), if_neg (by omega), if_neg (by omega), if_neg (by omega), if_neg h3, hr]
end WP
