/-! ===== the reference's shelves ===== -/
section MS
variable {s : St}
theorem j07 (x : Int32) (th : tH) : m_190 (Int32.toInt64 x) (Int64.ofNat 0) (Int64.ofNat 7) th = some (bP (¬ x < 0 ∧ x < i3 8)) := by
  rw [jc.1, jc.2.2.2.2.2.2.1, q_190]
  refine congrArg some (bP_congr ⟨fun e => ⟨e.1, ?_⟩, fun e => ⟨e.1, fun k => ?_⟩⟩)
  · have a := e.2
    rw [Int32.lt_iff_toInt_lt, i3_toInt ⟨by omega, by omega⟩] at a ⊢
    omega
  · have a := e.2
    rw [Int32.lt_iff_toInt_lt, i3_toInt ⟨by omega, by omega⟩] at a k
    omega
theorem j0u (u : Nat) (hu : u < 1000) (e : Int64.ofNat u = Int32.toInt64 (i3 (u : Int))) (x : Int32) (th : tH) : m_190 (Int32.toInt64 x) (Int64.ofNat 0) (Int64.ofNat u) th = some (bP (¬ x < 0 ∧ x ≤ i3 (u : Int))) := by
  rw [jc.1, e, q_190]
  exact congrArg some (bP_congr ⟨fun e => ⟨e.1, Int32.not_lt.mp e.2⟩, fun e => ⟨e.1, Int32.not_lt.mpr e.2⟩⟩)
theorem j04 (x : Int32) (th : tH) : m_190 (Int32.toInt64 x) (Int64.ofNat 0) (Int64.ofNat 4) th = some (bP (¬ x < 0 ∧ x ≤ i3 4)) := j0u 4 (by omega) jc.2.2.2.2.1 x th
theorem j05 (x : Int32) (th : tH) : m_190 (Int32.toInt64 x) (Int64.ofNat 0) (Int64.ofNat 5) th = some (bP (¬ x < 0 ∧ x ≤ i3 5)) := j0u 5 (by omega) jc.2.2.2.2.2.1 x th
theorem j012 (x : Int32) (th : tH) : m_190 (Int32.toInt64 x) (Int64.ofNat 0) (Int64.ofNat 12) th = some (bP (¬ x < 0 ∧ x ≤ i3 12)) := j0u 12 (by omega) jc.2.2.2.2.2.2.2.2.2.1 x th
theorem j040 (x : Int32) (th : tH) : m_190 (Int32.toInt64 x) (Int64.ofNat 0) (Int64.ofNat 40) th = some (bP (¬ x < 0 ∧ x ≤ i3 40)) := j0u 40 (by omega) jc.2.2.2.2.2.2.2.2.2.2.2.1 x th
theorem n_0 (s : St) : gN (H s) 8 44 0 = some 45 ∧ gN (H s) 8 44 1 = some 46 ∧ gN (H s) 8 44 2 = some 47 ∧ gN (H s) 8 44 3 = some 48 ∧ gN (H s) 8 44 4 = some 57 ∧ gN (H s) 8 44 5 = some 58 := ⟨rfl, rfl, rfl, rfl, rfl, rfl⟩
theorem a_m (s : St) : (∀ i, aI (H s) 45 i = at32 (ia s 45) i) ∧ (∀ i, aI (H s) 46 i = at32 (ia s 46) i) ∧ (∀ i, aI (H s) 47 i = at32 (ia s 47) i) ∧ (∀ i, aI (H s) 58 i = at32 (ia s 58) i) ∧ (∀ i, aJ (H s) 57 i = at64 (la s 57) i) := ⟨fun _ => aI_of rfl, fun _ => aI_of rfl, fun _ => aI_of rfl, fun _ => aI_of rfl, fun _ => aJ_of rfl⟩
theorem s_m (s : St) : (∀ i x, sI (H s) 45 i x = (st32 (ia s 45) i x).map (fun l => H (sa s 45 l))) ∧ (∀ i x, sI (H s) 46 i x = (st32 (ia s 46) i x).map (fun l => H (sa s 46 l))) ∧ (∀ i x, sI (H s) 47 i x = (st32 (ia s 47) i x).map (fun l => H (sa s 47 l))) ∧ (∀ i x, sI (H s) 58 i x = (st32 (ia s 58) i x).map (fun l => H (sa s 58 l))) ∧ (∀ i x, sJ (H s) 57 i x = (st64 (la s 57) i x).map (fun l => H (sl s 57 l))) := ⟨fun _ _ => sI_of rfl, fun _ _ => sI_of rfl, fun _ _ => sI_of rfl, fun _ _ => sI_of rfl, fun _ _ => sJ_of rfl⟩
theorem at_sh {l : List Int32} {x : Int32} (hl : l.length = 8) (h0 : ¬ x < 0) (h1 : x < i3 8) : at32 l x = some (lg l x.toNatClampNeg) := by
  have hk := sh_nat h0 h1
  rw [i3_cl h0, at_lg (by omega) (by omega), cl_i3 (by omega)]
theorem st_sh {l : List Int32} {x : Int32} (y : Int32) (hl : l.length = 8) (h0 : ¬ x < 0) (h1 : x < i3 8) : st32 l x y = some (l.set x.toNatClampNeg y) := st_wr h0 (by have := sh_nat h0 h1; omega)
theorem r_o {x : Int32} (s : St) (h0 : ¬ x < 0) (h1 : x < i3 8) : aN (H s) 48 x = some (49 + x.toNatClampNeg) ∧ isL (49 + x.toNatClampNeg) := by
  have := r_ml s _ (sh_nat h0 h1)
  rw [← i3_cl h0] at this
  exact this
/-- one shelf of the reference is another -/
noncomputable def wR (s : St) (k : Nat) (x so n d : Int32) (l : List Int64) : St := sl (sa (sa (sa (sa s 45 ((ia s 45).set k x)) 46 ((ia s 46).set k so)) 47 ((ia s 47).set k n)) 58 ((ia s 58).set k d)) (49 + k) l
theorem ia_wR (s : St) (k : Nat) (x so n d : Int32) (l : List Int64) (p : Nat) : ia (wR s k x so n d l) p = if p = 58 then (ia s 58).set k d else if p = 47 then (ia s 47).set k n else if p = 46 then (ia s 46).set k so else if p = 45 then (ia s 45).set k x else ia s p := rfl
theorem la_wR (s : St) (k : Nat) (x so n d : Int32) (l : List Int64) (p : Nat) : la (wR s k x so n d l) p = if p = 49 + k then l else la s p := rfl
theorem fi_wR (s : St) (k : Nat) (x so n d : Int32) (l : List Int64) (o j : Nat) : fi (wR s k x so n d l) o j = fi s o j := rfl
theorem wR_I (c : MI s) {k : Nat} (hk : k < 8) {x so n d : Int32} {l : List Int64} (hl : l.length = 40) (hx : x = i3 0 ∨ x = i3 1 ∨ x = i3 2) (hn : x = i3 1 → ¬ n < 0 ∧ n ≤ i3 40) (hd : x = i3 2 → isT (md s 44) d) : MI (wR s k x so n d l) ∧ eC s (wR s k x so n d l) ∧ abM (wR s k x so n d l) = ((abM s).1, (abM s).2.1, (abM s).2.2.1, upR (abM s).2.2.2 k (if x = i3 1 then some (so, n, l) else none)) := by
  obtain ⟨c1, ⟨l1, l2, l3, l4⟩, c3, c4, c5⟩ := c
  generalize hS : wR s k x so n d l = S
  have fn : ∀ o j, fi S o j = fi s o j := fun o j => by rw [← hS]; rfl
  have ln : ∀ p, la S p = if p = 49 + k then l else la s p := fun p => by rw [← hS]; rfl
  have an : ∀ p, p ≠ 45 → p ≠ 46 → p ≠ 47 → p ≠ 58 → ia S p = ia s p := fun p h1 h2 h3 h4 => by rw [← hS, ia_wR, if_neg h4, if_neg h3, if_neg h2, if_neg h1]
  have a45 : ia S 45 = (ia s 45).set k x := by rw [← hS]; rfl
  have a46 : ia S 46 = (ia s 46).set k so := by rw [← hS]; rfl
  have a47 : ia S 47 = (ia s 47).set k n := by rw [← hS]; rfl
  have a58 : ia S 58 = (ia s 58).set k d := by rw [← hS]; rfl
  have kr0 : kr S = kr s := by rw [← hS]; rfl
  have tr0 : tr S = tr s := by rw [← hS]; rfl
  have nm0 : nm S = nm s := by rw [← hS]; rfl
  have mn : ∀ o, (o = 44 ∨ o = 67 ∨ o = 90) → md S o = md s o := fun o ho => by
    unfold md
    rw [fn, fn, fn, fn, an _ (by omega) (by omega) (by omega) (by omega), an _ (by omega) (by omega) (by omega) (by omega), an _ (by omega) (by omega) (by omega) (by omega), an _ (by omega) (by omega) (by omega) (by omega)]
  have m44 := mn 44 (Or.inl rfl)
  have la57 : la S 57 = la s 57 := by rw [ln, if_neg (by omega)]
  refine ⟨⟨⟨by rw [m44]; exact c1.1, ?_, by rw [an 60 (by omega) (by omega) (by omega) (by omega)]; exact c1.2.2⟩, ?_, ?_, ⟨?_, fun o ho => ?_, fun o ho => ?_⟩, fun j hj => ?_⟩, ?_, ?_⟩
  · unfold Sz
    rw [an 17 (by omega) (by omega) (by omega) (by omega), an 19 (by omega) (by omega) (by omega) (by omega), an 22 (by omega) (by omega) (by omega) (by omega), an 65 (by omega) (by omega) (by omega) (by omega), an 66 (by omega) (by omega) (by omega) (by omega), la57]
    exact c1.2.1
  · unfold sl8
    rw [a45, a46, a47, a58, List.length_set, List.length_set, List.length_set, List.length_set]
    exact ⟨l1, l2, l3, l4⟩
  · rw [an 59 (by omega) (by omega) (by omega) (by omega), fn]
    exact c3
  · unfold KT
    rw [kr0, tr0, nm0]
    exact c4.1
  · rw [kr0] at ho
    rw [mn o (c4.1.o (Or.inl ho))]
    exact c4.2.1 o ho
  · rw [tr0] at ho
    rw [mn o (c4.1.o (Or.inr ho))]
    exact c4.2.2 o ho
  · obtain ⟨d1, d2, d3, d4⟩ := c5 j hj
    unfold smO
    rw [a45, a47, a58, m44, ln, lg_set _ (by omega), lg_set _ (by omega), lg_set _ (by omega)]
    by_cases e : j = k
    · rw [if_pos e, if_pos e, if_pos e, if_pos (by omega)]
      exact ⟨hl, hx, hn, hd⟩
    · rw [if_neg e, if_neg e, if_neg e, if_neg (by omega)]
      exact ⟨d1, d2, d3, d4⟩
  · refine ⟨fun p hp _ => an p (by omega) (by omega) (by omega) (by omega), fun p hp => ?_, fun o j ho _ => fn o j, fun p _ => ?_, fun p _ => ?_⟩
    · rw [ln, if_neg (by omega)]
    · rw [← hS, ia_wR]
      split
      · rename_i e; rw [e, List.length_set]
      split
      · rename_i e; rw [e, List.length_set]
      split
      · rename_i e; rw [e, List.length_set]
      split
      · rename_i e; rw [e, List.length_set]
      rfl
    · rw [ln]
      split
      · rename_i e
        rw [e, hl, (c5 k hk).1]
      · rfl
  · have kp : kpM S = kpM s := by
      unfold kpM
      rw [kr0]
      cases hk : kr s with
      | none => rfl
      | some o =>
        show some (md S o) = some (md s o)
        rw [mn o (c4.1.o (Or.inl hk))]
    unfold abM
    rw [m44, kp, an 59 (by omega) (by omega) (by omega) (by omega), fn]
    refine congrArg _ (congrArg _ (congrArg _ (funext fun j => ?_)))
    show (if j < 8 then shM S j else none) = if j = k then (if x = i3 1 then some (so, n, l) else none) else (if j < 8 then shM s j else none)
    by_cases hj : j < 8
    · rw [if_pos hj, if_pos hj]
      unfold shM
      rw [a45, a46, a47, ln, lg_set _ (by omega), lg_set _ (by omega), lg_set _ (by omega)]
      by_cases e : j = k
      · rw [if_pos e, if_pos e, if_pos e, if_pos (show 49 + j = 49 + k by omega), if_pos e]
      · rw [if_neg e, if_neg e, if_neg e, if_neg (show ¬ 49 + j = 49 + k by omega), if_neg e]
    · rw [if_neg hj, if_neg (show ¬ j = k by omega), if_neg hj]
theorem MC.shelf {α : Type} (c : MI s) {k : Nat} (hk : k < 8) {x so n d : Int32} {l : List Int64} (hl : l.length = 40) (hx : x = i3 0 ∨ x = i3 1 ∨ x = i3 2) (hn : x = i3 1 → ¬ n < 0 ∧ n ≤ i3 40) (hd : x = i3 2 → isT (md s 44) d) (v : α) : MC s (some (v, H (wR s k x so n d l))) v ((abM s).1, (abM s).2.1, (abM s).2.2.1, upR (abM s).2.2.2 k (if x = i3 1 then some (so, n, l) else none)) := by
  obtain ⟨a, b, d⟩ := wR_I c hk hl hx hn hd
  exact ⟨_, rfl, a, b, d⟩
theorem set_lg {l : List Int32} {k : Nat} (hk : k < l.length) : l.set k (lg l k) = l := by
  apply List.ext_getElem?
  intro i
  rw [List.getElem?_set]
  split
  · rename_i e
    subst e
    try rw [if_pos hk]
    unfold lg
    rw [List.getD_eq_getElem?_getD, List.getElem?_eq_getElem hk]
    rfl
  · rfl
theorem abM_sh {k : Nat} (hk : k < 8) : (abM s).2.2.2 k = shM s k := if_pos hk
theorem e_2 (c : MI s) (x so n : Int32) : MC s (m_199 44 x so n (H s)) (vRow x so n) ((abM s).1, (abM s).2.1, (abM s).2.2.1, sRow (abM s).2.2.2 x so n) := by
  have c40 : (Int8.ofInt 40).toInt32 = i3 ((40 : Nat) : Int) := by decide +kernel
  unfold m_199 vRow sRow
  rw [(r_m s).1, Option.bind_some, j07, Option.bind_some, jnE, bP_if]
  by_cases c1 : x < 0
  · rw [if_neg (fun e => e.1 c1), if_pos c1, if_pos c1, cst.1]
    exact MC.refE c isB2
  rw [if_neg c1, if_neg c1]
  by_cases c2 : x < i3 8
  · rw [if_pos ⟨c1, c2⟩, if_pos c2, if_pos c2, j04, Option.bind_some, bP_if]
    by_cases c3 : so < 0
    · rw [if_neg (fun e => e.1 c3), if_pos c3, if_pos c3, cst.1]
      exact MC.refE c isB2
    rw [if_neg c3, if_neg c3]
    by_cases c4 : i3 4 < so
    · rw [if_neg (fun e => Int32.not_lt.mpr e.2 c4), if_pos c4, if_pos c4, cst.1]
      exact MC.refE c isB2
    rw [if_neg c4, if_neg c4, if_pos ⟨c3, Int32.not_lt.mp c4⟩, j040, Option.bind_some, bP_if]
    by_cases c5 : n < 0
    · rw [if_neg (fun e => e.1 c5), if_pos c5, if_pos c5, cst.1]
      exact MC.refE c isB2
    rw [if_neg c5, if_neg c5]
    by_cases c6 : n ≤ i3 40
    · rw [if_pos ⟨c5, c6⟩, if_pos c6, if_pos c6]
      have hk := sh_nat c1 c2
      obtain ⟨l1, l2, l3, l4⟩ := c.2.1
      have d1 := (c.2.2.2.2 _ hk).1
      rw [(n_0 s).1, Option.bind_some, (s_m s).1, st_sh _ l1 c1 c2, Option.map_some, Option.bind_some]
      generalize hs1 : sa s 45 ((ia s 45).set x.toNatClampNeg (Int32.ofInt 1)) = s1
      have i46 : ia s1 46 = ia s 46 := by rw [← hs1]; rfl
      rw [(n_0 s1).2.1, Option.bind_some, (s_m s1).2.1, i46, st_sh _ l2 c1 c2, Option.map_some, Option.bind_some]
      generalize hs2 : sa s1 46 ((ia s 46).set x.toNatClampNeg so) = s2
      have i47 : ia s2 47 = ia s 47 := by rw [← hs2, ← hs1]; rfl
      rw [(n_0 s2).2.2.1, Option.bind_some, (s_m s2).2.2.1, i47, st_sh _ l3 c1 c2, Option.map_some, Option.bind_some, c40]
      generalize hs3 : sa s2 47 ((ia s 47).set x.toNatClampNeg n) = s3
      have l3' : la s3 (49 + x.toNatClampNeg) = la s (49 + x.toNatClampNeg) := by rw [← hs3, ← hs2, ← hs1]; rfl
      have L := lp0 (R := Int32 × tH) (X := tH) (K := fun (x16 : tH) => some ((Int32.ofInt 1), x16)) (F := fun (s13 : Int32 × tH) nx14 ex15 => if i3 ((40 : Nat) : Int) ≤ s13.1 then ex15 s13.2 else (gN s13.2 8 44 3).bind fun o17 => (aN s13.2 o17 x).bind fun o18 => (sJ s13.2 o18 s13.1 (Int64.ofNat 0)).bind fun th19 => nx14 ((s13.1 + Int32.ofInt 1), th19)) 40 (by omega) (fun t (l : List Int64) => (t, H (sl s3 (49 + x.toNatClampNeg) l))) (fun l => H (sl s3 (49 + x.toNatClampNeg) l)) (fun k (l : List Int64) => l.set k (Int64.ofNat 0)) (fun l => l.length = 40) (la s3 (49 + x.toNatClampNeg)) ?_ ?_ ?_ (by rw [l3']; exact d1)
      · rw [sl_id] at L
        refine Eq.mp (congrArg (fun z => MC s z _ _) L.symm) ?_
        rw [itr_zJ 40 _ (by rw [l3', d1]; exact Nat.le_refl _), List.drop_eq_nil_of_le (by rw [l3', d1]; exact Nat.le_refl _), List.append_nil]
        have eW : sl s3 (49 + x.toNatClampNeg) zJ = wR s x.toNatClampNeg (i3 1) so n (lg (ia s 58) x.toNatClampNeg) zJ := by
          unfold wR
          rw [set_lg (by omega), ← hs3, ← hs2, ← hs1]
          exact congrArg (fun z => sl z _ zJ) (sa_id _ 58).symm
        show MC s (some (i3 1, H (sl s3 (49 + x.toNatClampNeg) zJ))) _ _
        rw [eW]
        have := MC.shelf c hk (x := i3 1) (so := so) (n := n) (d := lg (ia s 58) x.toNatClampNeg) (l := zJ) rfl (Or.inr (Or.inl rfl)) (fun _ => ⟨c5, c6⟩) (fun e => absurd e (by decide +kernel)) (i3 1)
        rw [if_pos rfl] at this
        exact this
      · intro i l nx ex hi hll
        have el : la (sl s3 (49 + x.toNatClampNeg) l) (49 + x.toNatClampNeg) = l := by rw [la_sl, if_pos rfl]
        dsimp only
        rw [if_neg (nle hi (by omega)), (n_0 _).2.2.2.1, Option.bind_some, (r_o _ c1 c2).1, Option.bind_some, (r_L (r_o s c1 c2).2 _).2.2, el, st64_nat (by omega) (by omega), Option.map_some, Option.bind_some, sl_sl]
      · intro i l _ hll
        exact (List.length_set).trans hll
      · intro l nx ex hll
        dsimp only
        rw [if_pos (Int32.le_refl _)]
    · rw [if_neg (fun e => c6 e.2), if_neg c6, if_neg c6, cst.1]
      exact MC.refE c isB2
  · rw [if_neg (fun e => c2 e.2), if_neg c2, if_neg c2, cst.1]
    exact MC.refE c isB2
theorem e_7 (c : MI s) (x t : Int32) : MC s (m_206 44 x t (H s)) (vShow (md s 44) x t) ((abM s).1, (abM s).2.1, (abM s).2.2.1, sShow (md s 44) (abM s).2.2.2 x t) := by
  unfold m_206 vShow sShow
  rw [(r_m s).1, Option.bind_some, j07, Option.bind_some, jnE, bP_if]
  by_cases c1 : x < 0
  · rw [if_neg (fun e => e.1 c1), if_pos c1, if_pos c1, cst.1]
    exact MC.refE c isB2
  rw [if_neg c1, if_neg c1]
  by_cases c2 : x < i3 8
  · rw [if_pos ⟨c1, c2⟩, if_pos c2, if_pos c2, jnE]
    have hk := sh_nat c1 c2
    obtain ⟨l1, l2, l3, l4⟩ := c.2.1
    have d1 := (c.2.2.2.2 _ hk).1
    have put : ∀ y : Int32, (y = i3 0 ∨ y = i3 2) → (y = i3 2 → isT (md s 44) t) → MC s ((sI (H s) 45 x y).bind fun th10 => (gN th10 8 44 5).bind fun o11 => (sI th10 o11 x t).bind fun th12 => some ((Int32.ofInt 1), th12)) (i3 1) ((abM s).1, (abM s).2.1, (abM s).2.2.1, upR (abM s).2.2.2 x.toNatClampNeg none) := fun y hy hyt => by
      have n1 : ¬ y = i3 1 := by rcases hy with rfl | rfl <;> decide +kernel
      rw [(s_m s).1, st_sh _ l1 c1 c2, Option.map_some, Option.bind_some]
      generalize hs1 : sa s 45 ((ia s 45).set x.toNatClampNeg y) = s1
      have i58 : ia s1 58 = ia s 58 := by rw [← hs1]; rfl
      rw [(n_0 s1).2.2.2.2.2, Option.bind_some, (s_m s1).2.2.2.1, i58, st_sh _ l4 c1 c2, Option.map_some, Option.bind_some]
      have eW : sa s1 58 ((ia s 58).set x.toNatClampNeg t) = wR s x.toNatClampNeg y (lg (ia s 46) x.toNatClampNeg) (lg (ia s 47) x.toNatClampNeg) t (la s (49 + x.toNatClampNeg)) := by
        unfold wR
        rw [set_lg (by omega), set_lg (by omega), ← hs1]
        have e1 : sa (sa s 45 ((ia s 45).set x.toNatClampNeg y)) 46 (ia s 46) = sa s 45 ((ia s 45).set x.toNatClampNeg y) := sa_id _ 46
        rw [e1]
        have e2 : sa (sa s 45 ((ia s 45).set x.toNatClampNeg y)) 47 (ia s 47) = sa s 45 ((ia s 45).set x.toNatClampNeg y) := sa_id _ 47
        rw [e2]
        exact (sl_id _ (49 + x.toNatClampNeg)).symm
      rw [eW]
      have := MC.shelf c hk (x := y) (so := lg (ia s 46) x.toNatClampNeg) (n := lg (ia s 47) x.toNatClampNeg) (d := t) (l := la s (49 + x.toNatClampNeg)) d1 (hy.elim Or.inl (fun e => Or.inr (Or.inr e))) (fun e => absurd e n1) hyt (i3 1)
      rw [if_neg n1] at this
      exact this
    by_cases c3 : t = i3 (-1)
    · rw [if_pos (show t = Int32.ofInt (-1) from c3), if_pos c3, if_pos c3, (n_0 s).1, Option.bind_some, jnE, if_pos (show t = Int32.ofInt (-1) from c3)]
      exact put (i3 0) (Or.inl rfl) (fun e => absurd e (by decide +kernel))
    rw [if_neg (show ¬ t = Int32.ofInt (-1) from c3), if_neg c3, if_neg c3, q_191 c.1.1, Option.bind_some, bP_if]
    by_cases c4 : isT (md s 44) t
    · rw [if_pos c4, if_pos c4, if_pos c4, (n_0 s).1, Option.bind_some, jnE, if_neg (show ¬ t = Int32.ofInt (-1) from c3)]
      exact put (i3 2) (Or.inr rfl) (fun _ => c4)
    · rw [if_neg c4, if_neg c4, if_neg c4, cst.1]
      exact MC.refE c isB2
  · rw [if_neg (fun e => c2 e.2), if_neg c2, if_neg c2, cst.1]
    exact MC.refE c isB2
/-- whether a shelf holds no row -/
theorem q_201 (c : MI s) (x : Int32) : ∃ v s', m_201 44 x (H s) = some (v, H s') ∧ qq s s' ∧ ((v = 0 ∧ s' = s ∧ ¬ x < 0 ∧ x < i3 8 ∧ lg (ia s 45) x.toNatClampNeg = i3 1) ∨ (¬ v = 0 ∧ ¬ (¬ x < 0 ∧ x < i3 8 ∧ lg (ia s 45) x.toNatClampNeg = i3 1))) := by
  obtain ⟨l1, l2, l3, l4⟩ := c.2.1
  have n2 : ¬ i3 (-2) = 0 := by decide +kernel
  have n3 : ¬ i3 (-3) = 0 := by decide +kernel
  have n4 : ¬ i3 (-4) = 0 := by decide +kernel
  unfold m_201
  rw [(r_m s).1, Option.bind_some, j07, Option.bind_some, bP_if]
  by_cases c1 : ¬ x < 0 ∧ x < i3 8
  · have hk := sh_nat c1.1 c1.2
    obtain ⟨d1, d2, d3, d4⟩ := c.2.2.2.2 _ hk
    rw [if_pos c1, (n_0 s).1, Option.bind_some, (a_m s).1, at_sh l1 c1.1 c1.2, Option.bind_some]
    by_cases c2 : lg (ia s 45) x.toNatClampNeg = i3 2
    · obtain ⟨s1, e1, q1⟩ := Ans.mf c.1.2.2 isB3
      rw [if_pos (show _ = Int32.ofInt 2 from c2), cst.2.1]
      exact ⟨_, s1, e1, q1, Or.inr ⟨n3, fun e => by rw [e.2.2] at c2; exact absurd c2 (by decide +kernel)⟩⟩
    · rw [if_neg (show ¬ _ = Int32.ofInt 2 from c2), Option.bind_some, (a_m s).1, at_sh l1 c1.1 c1.2, Option.bind_some, jnE]
      by_cases c3 : lg (ia s 45) x.toNatClampNeg = 0
      · obtain ⟨s1, e1, q1⟩ := Ans.mf c.1.2.2 isB4
        rw [if_pos c3, cst.2.2.1]
        exact ⟨_, s1, e1, q1, Or.inr ⟨n4, fun e => by rw [e.2.2] at c3; exact absurd c3 (by decide +kernel)⟩⟩
      · rw [if_neg c3]
        have h1 : lg (ia s 45) x.toNatClampNeg = i3 1 := by
          rcases d2 with e | e | e
          · exact absurd e c3
          · exact e
          · exact absurd e c2
        exact ⟨_, s, rfl, qq.refl s, Or.inl ⟨rfl, rfl, c1.1, c1.2, h1⟩⟩
  · obtain ⟨s1, e1, q1⟩ := Ans.mf c.1.2.2 isB2
    rw [if_neg c1, cst.1]
    exact ⟨_, s1, e1, q1, Or.inr ⟨n2, fun e => c1 ⟨e.1, e.2.1⟩⟩⟩
theorem q_200 (so : Int32) (v : Int64) (th : tH) : m_200 so v th = some (fitJ so v) := by
  unfold m_200
  simp only [jn]
  exact fit_ifs _ _
theorem sz_k {n : Int32} (h0 : ¬ n < 0) (h1 : n ≤ i3 40) : ∃ k : Nat, k < 1000 ∧ n = i3 (k : Int) := ⟨_, by have := le_cl (b := 40) (by omega) h0 h1; omega, i3_cl h0⟩
theorem i_40 {n i : Int32} (h1 : n ≤ i3 40) (c4 : ¬ i < 0 ∧ ¬ n ≤ i) : i.toNatClampNeg < 40 := by
  have a := c4.1
  have b := c4.2
  rw [Int32.lt_iff_toInt_lt] at a
  rw [Int32.le_iff_toInt_le] at b h1
  have e : (0 : Int32).toInt = 0 := by decide +kernel
  have e2 : (i3 40).toInt = 40 := by decide +kernel
  show i.toInt.toNat < 40
  omega
theorem e_3 (c : MI s) (x i : Int32) (v : Int64) : ∃ w, MC s (m_202 44 x i v (H s)) w ((abM s).1, (abM s).2.1, (abM s).2.2.1, sSet (abM s).2.2.2 x i v) := by
  obtain ⟨l1, l2, l3, l4⟩ := c.2.1
  obtain ⟨w, s1, e1, q1, hw⟩ := q_201 c x
  unfold m_202
  rw [(r_m s).1, Option.bind_some, e1, Option.bind_some]
  dsimp only
  have eS : sSet (abM s).2.2.2 x i v = if x < 0 then (abM s).2.2.2 else if x < i3 8 then (match (abM s).2.2.2 x.toNatClampNeg with | none => (abM s).2.2.2 | some r => if ¬ i < 0 ∧ ¬ r.2.1 ≤ i then upR (abM s).2.2.2 x.toNatClampNeg (some (r.1, r.2.1, r.2.2.set i.toNatClampNeg (fitJ r.1 v))) else (abM s).2.2.2) else (abM s).2.2.2 := rfl
  rcases hw with ⟨rfl, rfl, c1, c2, c3⟩ | ⟨w0, hn⟩
  · have hk := sh_nat c1 c2
    obtain ⟨d1, d2, d3, d4⟩ := c.2.2.2.2 _ hk
    have sz := d3 c3
    have hsh : (abM s1).2.2.2 x.toNatClampNeg = some (lg (ia s1 46) x.toNatClampNeg, lg (ia s1 47) x.toNatClampNeg, la s1 (49 + x.toNatClampNeg)) := by
      rw [abM_sh hk]
      exact if_pos c3
    rw [eS, if_neg c1, if_pos c2, hsh]
    dsimp only
    have P := pred_iff (x := i) (sz_k sz.1 sz.2)
    rw [if_pos rfl, (n_0 s1).2.2.1, Option.bind_some, (a_m s1).2.2.1, at_sh l3 c1 c2, Option.bind_some, jc.1, q_190, Option.bind_some, bP_if]
    by_cases c4 : ¬ i < 0 ∧ ¬ lg (ia s1 47) x.toNatClampNeg ≤ i
    · have hb := i_40 sz.2 c4
      rw [if_pos (P.mpr c4), if_pos c4, (n_0 s1).2.2.2.1, Option.bind_some, (r_o s1 c1 c2).1, Option.bind_some, (n_0 s1).2.1, Option.bind_some, (a_m s1).2.1, at_sh l2 c1 c2, Option.bind_some, q_200, Option.bind_some, (r_L (r_o s1 c1 c2).2 s1).2.2, stJ_wr c4.1 (by rw [d1]; exact hb), Option.map_some, Option.bind_some]
      generalize hl : (la s1 (49 + x.toNatClampNeg)).set i.toNatClampNeg (fitJ (lg (ia s1 46) x.toNatClampNeg) v) = l
      have ll : l.length = 40 := by rw [← hl, List.length_set]; exact d1
      have eW : sl s1 (49 + x.toNatClampNeg) l = wR s1 x.toNatClampNeg (lg (ia s1 45) x.toNatClampNeg) (lg (ia s1 46) x.toNatClampNeg) (lg (ia s1 47) x.toNatClampNeg) (lg (ia s1 58) x.toNatClampNeg) l := by
        unfold wR
        rw [set_lg (by omega), set_lg (by omega), set_lg (by omega), set_lg (by omega), sa_id, sa_id, sa_id, sa_id]
      refine ⟨i3 1, ?_⟩
      show MC s1 (some (i3 1, H (sl s1 (49 + x.toNatClampNeg) l))) _ _
      rw [eW]
      have := MC.shelf c hk (x := lg (ia s1 45) x.toNatClampNeg) (so := lg (ia s1 46) x.toNatClampNeg) (n := lg (ia s1 47) x.toNatClampNeg) (d := lg (ia s1 58) x.toNatClampNeg) (l := l) ll d2 d3 d4 (i3 1)
      rw [if_pos c3] at this
      exact this
    · rw [if_neg (fun e => c4 (P.mp e)), if_neg c4, cst.1]
      exact ⟨_, MC.refE c isB2⟩
  · have eS2 : sSet (abM s).2.2.2 x i v = (abM s).2.2.2 := by
      rw [eS]
      by_cases c1 : x < 0
      · rw [if_pos c1]
      · rw [if_neg c1]
        by_cases c2 : x < i3 8
        · rw [if_pos c2, abM_sh (sh_nat c1 c2), show shM s x.toNatClampNeg = none from if_neg (fun e => hn ⟨c1, c2, e⟩)]
        · rw [if_neg c2]
    rw [eS2, if_neg w0]
    exact ⟨w, s1, rfl, q1.eM.mi c, q1.eC, q1.eM.ab c.2.2.2.1.1⟩
theorem e_5 (c : MI s) (x i : Int32) : m_204 44 x i (H s) = some (elV (abM s).2.2.2 x i) := by
  obtain ⟨l1, l2, l3, l4⟩ := c.2.1
  unfold m_204 elV
  rw [(r_m s).1, Option.bind_some, j07, Option.bind_some, jnE, jnE, bP_if]
  by_cases c1 : x < 0
  · rw [if_neg (fun e => e.1 c1), if_pos c1]
  rw [if_neg c1]
  by_cases c2 : x < i3 8
  · have hk := sh_nat c1 c2
    obtain ⟨d1, d2, d3, d4⟩ := c.2.2.2.2 _ hk
    rw [if_pos ⟨c1, c2⟩, if_pos c2, abM_sh hk, (n_0 s).1, Option.bind_some, (a_m s).1, at_sh l1 c1 c2, Option.bind_some]
    unfold shM
    by_cases c3 : lg (ia s 45) x.toNatClampNeg = i3 1
    · have sz := d3 c3
      have P := pred_iff (x := i) (sz_k sz.1 sz.2)
      have q9 := q_190 i (i3 0) (lg (ia s 47) x.toNatClampNeg - Int32.ofInt 1) (H s)
      rw [← jc.1] at q9
      rw [if_pos (show _ = Int32.ofInt 1 from c3), if_pos c3, (n_0 s).2.2.1, Option.bind_some, (a_m s).2.2.1, at_sh l3 c1 c2, Option.bind_some, q9, Option.bind_some, bP_if]
      dsimp only
      by_cases c4 : ¬ i < 0 ∧ ¬ lg (ia s 47) x.toNatClampNeg ≤ i
      · have hb := i_40 sz.2 c4
        rw [if_pos (P.mpr c4), if_pos c4, (n_0 s).2.2.2.1, Option.bind_some, (r_o s c1 c2).1, Option.bind_some, (r_L (r_o s c1 c2).2 s).1, atJ_rd c4.1 (by rw [d1]; exact hb), Option.bind_some]
      · rw [if_neg (fun e => c4 (P.mp e)), if_neg c4]
    · rw [if_neg (show ¬ _ = Int32.ofInt 1 from c3), if_neg c3]
  · rw [if_neg (fun e => c2 e.2), if_neg c2]
theorem e_6 (c : MI s) (x : Int32) : ∃ w, m_205 44 x (H s) = some w := by
  obtain ⟨l1, l2, l3, l4⟩ := c.2.1
  unfold m_205
  rw [(r_m s).1, Option.bind_some, j07, Option.bind_some, jnE, bP_if]
  by_cases c1 : ¬ x < 0 ∧ x < i3 8
  · rw [if_pos c1, (n_0 s).1, Option.bind_some, (a_m s).1, at_sh l1 c1.1 c1.2, Option.bind_some]
    by_cases c2 : lg (ia s 45) x.toNatClampNeg = 0
    · rw [if_pos c2]
      exact ⟨_, rfl⟩
    · rw [if_neg c2, Option.bind_some, (a_m s).1, at_sh l1 c1.1 c1.2, Option.bind_some, jnE]
      by_cases c3 : lg (ia s 45) x.toNatClampNeg = i3 1
      · rw [if_pos (show _ = Int32.ofInt 1 from c3), (n_0 s).2.1, Option.bind_some, (a_m s).2.1, at_sh l2 c1.1 c1.2, Option.bind_some]
        exact ⟨_, rfl⟩
      · rw [if_neg (show ¬ _ = Int32.ofInt 1 from c3), (n_0 s).2.2.2.2.2, Option.bind_some, (a_m s).2.2.2.1, at_sh l4 c1.1 c1.2, Option.bind_some]
        exact ⟨_, rfl⟩
  · rw [if_neg c1]
    exact ⟨_, rfl⟩
end MS
