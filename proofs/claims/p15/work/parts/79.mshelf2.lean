/-! ===== the reference's shelves: copy, judge, says, status ===== -/
section MS2
variable {s : St}
theorem jv_lt {x y : Int64} : lg_cmp x y < 0 ↔ x.toInt < y.toInt := by
  unfold lg_cmp
  by_cases c1 : x > y
  · rw [if_pos c1]
    have := Int64.lt_iff_toInt_lt.mp c1
    refine ⟨fun e => absurd e (by decide +kernel), fun e => ?_⟩
    omega
  · rw [if_neg c1]
    have n1 : ¬ y.toInt < x.toInt := fun e => c1 (Int64.lt_iff_toInt_lt.mpr e)
    by_cases c2 : x = y
    · rw [if_pos c2]
      refine ⟨fun e => absurd e (by decide +kernel), fun e => ?_⟩
      rw [c2] at e
      omega
    · rw [if_neg c2]
      have n2 : x.toInt ≠ y.toInt := fun e => c2 (Int64.toInt_inj.mp e)
      exact ⟨fun _ => by omega, fun _ => by decide +kernel⟩
theorem jv_gt {x y : Int64} : 0 < lg_cmp x y ↔ y.toInt < x.toInt := by
  unfold lg_cmp
  by_cases c1 : x > y
  · rw [if_pos c1]
    have := Int64.lt_iff_toInt_lt.mp c1
    exact ⟨fun _ => this, fun _ => by decide +kernel⟩
  · rw [if_neg c1]
    have n1 : ¬ y.toInt < x.toInt := fun e => c1 (Int64.lt_iff_toInt_lt.mpr e)
    refine ⟨fun e => ?_, fun e => absurd e n1⟩
    by_cases c2 : x = y
    · rw [if_pos c2] at e
      exact absurd e (by decide +kernel)
    · rw [if_neg c2] at e
      exact absurd e (by decide +kernel)
abbrev jT (g : Gd) (v : Int64) : Prop := 0 ≤ v.toInt ∧ v.toInt < nn g
theorem q_190v {g : Gd} (h : ok g) (v : Int64) (th : tH) : m_190 v (Int64.ofNat 0) (Int32.toInt64 (tN g - Int32.ofInt 1)) th = some (bP (jT g v)) := by
  have n12 := h.n_le
  have e0 : (Int64.ofNat 0).toInt = 0 := by decide +kernel
  have en : (Int32.toInt64 (tN g - Int32.ofInt 1)).toInt = (nn g : Int) - 1 := by
    have : tN g - Int32.ofInt 1 = i3 ((nn g : Int) - 1) := by rw [h.n_eq]; exact i3_sub _ _
    rw [Int32.toInt_toInt64, this, i3_toInt ⟨by omega, by omega⟩]
  unfold m_190 jn
  dsimp only
  by_cases c1 : lg_cmp v (Int64.ofNat 0) < 0
  · have := jv_lt.mp c1
    rw [if_pos c1, bP_f (fun e => by omega)]; rfl
  · rw [if_neg c1]
    have n1 : ¬ v.toInt < (Int64.ofNat 0).toInt := fun e => c1 (jv_lt.mpr e)
    by_cases c2 : 0 < lg_cmp v (Int32.toInt64 (tN g - Int32.ofInt 1))
    · have := jv_gt.mp c2
      rw [if_pos c2, bP_f (fun e => by omega)]; rfl
    · have n2 : ¬ (Int32.toInt64 (tN g - Int32.ofInt 1)).toInt < v.toInt := fun e => c2 (jv_gt.mpr e)
      rw [if_neg c2, bP_t ⟨by omega, by omega⟩]; rfl
theorem jT_T {g : Gd} (h : ok g) {v : Int64} (hv : jT g v) : isT g (Int64.toInt32 v) := by
  have n12 := h.n_le
  obtain ⟨a, b⟩ := hv
  have ev : (Int64.toInt32 v).toInt = v.toInt := by
    rw [Int64.toInt_toInt32, Int.bmod_eq_of_le (by omega) (by omega)]
  refine ⟨fun e => ?_, fun e => ?_⟩
  · have := Int32.lt_iff_toInt_lt.mp e
    rw [ev] at this
    have e2 : (0 : Int32).toInt = 0 := by decide +kernel
    omega
  · have := Int32.le_iff_toInt_le.mp e
    rw [ev, h.n_eq, i3_toInt ⟨by omega, by omega⟩] at this
    omega
/-! copy -/
noncomputable def p1F (f : List Int64) (i k : Nat) (l : List Int64) : List Int64 := l.set k (f.getD (i + k) 0)
noncomputable def p2F (f : List Int64) (j k : Nat) (l : List Int64) : List Int64 := l.set (j + k) (f.getD k 0)
theorem p1_get (f : List Int64) (i : Nat) : ∀ (n : Nat) (l : List Int64), n ≤ l.length → (itr (p1F f i) n l).length = l.length ∧ ∀ q, (itr (p1F f i) n l).getD q 0 = if q < n then f.getD (i + q) 0 else l.getD q 0
  | 0, l, _ => ⟨rfl, fun q => by rw [if_neg (Nat.not_lt_zero _)]; rfl⟩
  | n + 1, l, hn => by
    obtain ⟨h1, h2⟩ := p1_get f i n l (by omega)
    refine ⟨(List.length_set).trans h1, fun q => ?_⟩
    show ((itr (p1F f i) n l).set n (f.getD (i + n) 0)).getD q 0 = _
    rw [List.getD_eq_getElem?_getD, List.getElem?_set]
    by_cases e : n = q
    · subst e
      rw [if_pos rfl, if_pos (by omega), if_pos (by omega)]
      rfl
    · rw [if_neg e, ← List.getD_eq_getElem?_getD, h2 q]
      by_cases c : q < n
      · rw [if_pos c, if_pos (by omega)]
      · rw [if_neg c, if_neg (by omega)]
theorem p2_get (f : List Int64) (j : Nat) : ∀ (n : Nat) (l : List Int64), j + n ≤ l.length → (itr (p2F f j) n l).length = l.length ∧ ∀ q, (itr (p2F f j) n l).getD q 0 = if j ≤ q ∧ q < j + n then f.getD (q - j) 0 else l.getD q 0
  | 0, l, _ => ⟨rfl, fun q => by rw [if_neg (by omega)]; rfl⟩
  | n + 1, l, hn => by
    obtain ⟨h1, h2⟩ := p2_get f j n l (by omega)
    refine ⟨(List.length_set).trans h1, fun q => ?_⟩
    show ((itr (p2F f j) n l).set (j + n) (f.getD n 0)).getD q 0 = _
    rw [List.getD_eq_getElem?_getD, List.getElem?_set]
    by_cases e : j + n = q
    · subst e
      rw [if_pos rfl, if_pos (by omega), if_pos (by omega), show j + n - j = n by omega]
      rfl
    · rw [if_neg e, ← List.getD_eq_getElem?_getD, h2 q]
      by_cases c : j ≤ q ∧ q < j + n
      · rw [if_pos c, if_pos (by omega)]
      · rw [if_neg c, if_neg (by omega)]
theorem ext_getD {l l' : List Int64} (h : l.length = l'.length) (e : ∀ i, l.getD i 0 = l'.getD i 0) : l = l' := by
  apply List.ext_getElem?
  intro i
  by_cases c : i < l.length
  · have := e i
    rw [List.getD_eq_getElem?_getD, List.getD_eq_getElem?_getD, List.getElem?_eq_getElem c, List.getElem?_eq_getElem (by omega)] at this
    rw [List.getElem?_eq_getElem c, List.getElem?_eq_getElem (by omega)]
    exact congrArg some this
  · rw [List.getElem?_eq_none (by omega), List.getElem?_eq_none (by omega)]
theorem cp_eq {f g h : List Int64} {i j n : Nat} (h1 : i + n ≤ f.length) (h2 : j + n ≤ g.length) (h3 : n ≤ h.length) : itr (p2F (itr (p1F f i) n h) j) n g = t_cpy f g i j n := by
  have a := p1_get f i n h h3
  have b := p2_get (itr (p1F f i) n h) j n g h2
  refine ext_getD (b.1.trans (t_cpy_len h1 h2).symm) (fun q => ?_)
  rw [b.2 q, t_cpy_get 0 h1 h2 q]
  show _ = if j ≤ q ∧ q < j + n then f.getD (i + (q - j)) 0 else g.getD q 0
  by_cases c : j ≤ q ∧ q < j + n
  · rw [if_pos c, if_pos c, a.2 (q - j), if_pos (by omega)]
  · rw [if_neg c, if_neg c]
theorem at64_lg {l : List Int64} {k : Nat} (hk : k < l.length) (h2 : l.length ≤ 1000) : at64 l (i3 (k : Int)) = some (l.getD k 0) := by
  rw [at64_nat (by omega), List.getElem?_eq_getElem hk, List.getD_eq_getElem?_getD, List.getElem?_eq_getElem hk]
  rfl
/-- the two loops of copy -/
theorem cp_lp (c : MI s) {p q : Int32} (p1 : ¬ p < 0) (p2 : p < i3 8) (q1 : ¬ q < 0) (q2 : q < i3 8) {I J N : Nat} (hI : I + N ≤ 40) (hJ : J + N ≤ 40) (hp : lg (ia s 45) p.toNatClampNeg = i3 1) (hq : lg (ia s 45) q.toNatClampNeg = i3 1) : MC s (lp (fun (s35 : Int32 × tH) nx36 ex37 => if i3 (N : Int) ≤ s35.1 then ex37 s35.2 else (gN s35.2 8 44 4).bind fun o49 => (gN s35.2 8 44 3).bind fun o50 => (aN s35.2 o50 p).bind fun o51 => (aJ s35.2 o51 (i3 (I : Int) + s35.1)).bind fun x52 => (sJ s35.2 o49 s35.1 x52).bind fun th53 => nx36 ((s35.1 + Int32.ofInt 1), th53)) 4096 ((Int32.ofInt 0), H s) (fun (x38 : tH) => lp (fun (s39 : Int32 × tH) nx40 ex41 => if i3 (N : Int) ≤ s39.1 then ex41 s39.2 else (gN s39.2 8 44 3).bind fun o43 => (aN s39.2 o43 q).bind fun o44 => (gN s39.2 8 44 4).bind fun o45 => (aJ s39.2 o45 s39.1).bind fun x46 => (sJ s39.2 o44 (i3 (J : Int) + s39.1) x46).bind fun th47 => nx40 ((s39.1 + Int32.ofInt 1), th47)) 4096 ((Int32.ofInt 0), x38) (fun (x42 : tH) => some (i3 (N : Int), x42)))) (i3 (N : Int)) ((abM s).1, (abM s).2.1, (abM s).2.2.1, upR (abM s).2.2.2 q.toNatClampNeg (some (lg (ia s 46) q.toNatClampNeg, lg (ia s 47) q.toNatClampNeg, t_cpy (la s (49 + p.toNatClampNeg)) (la s (49 + q.toNatClampNeg)) I J N))) := by
  have kp := sh_nat p1 p2
  have kq := sh_nat q1 q2
  obtain ⟨l1, l2, l3, l4⟩ := c.2.1
  obtain ⟨dp1, -⟩ := c.2.2.2.2 _ kp
  obtain ⟨dq1, dq2, dq3, dq4⟩ := c.2.2.2.2 _ kq
  have z57 : (la s 57).length = 40 := c.1.2.1.2.2.2.2.2
  generalize hR : itr (p1F (la s (49 + p.toNatClampNeg)) I) N (la s 57) = R
  have lR : R.length = 40 := by rw [← hR, (p1_get _ I N _ (by omega)).1]; exact z57
  -- the second loop
  have L2 := lp0 (R := Int32 × tH) (X := tH) (K := fun (x42 : tH) => some (i3 (N : Int), x42)) (F := fun (s39 : Int32 × tH) nx40 ex41 => if i3 (N : Int) ≤ s39.1 then ex41 s39.2 else (gN s39.2 8 44 3).bind fun o43 => (aN s39.2 o43 q).bind fun o44 => (gN s39.2 8 44 4).bind fun o45 => (aJ s39.2 o45 s39.1).bind fun x46 => (sJ s39.2 o44 (i3 (J : Int) + s39.1) x46).bind fun th47 => nx40 ((s39.1 + Int32.ofInt 1), th47)) N (by omega) (fun t (l : List Int64) => (t, H (sl (sl s 57 R) (49 + q.toNatClampNeg) l))) (fun l => H (sl (sl s 57 R) (49 + q.toNatClampNeg) l)) (p2F R J) (fun l => l.length = 40) (la s (49 + q.toNatClampNeg)) ?_ ?_ ?_ dq1
  -- the first loop
  have L1 := lp0 (R := Int32 × tH) (X := tH) (K := fun (x38 : tH) => lp (fun (s39 : Int32 × tH) nx40 ex41 => if i3 (N : Int) ≤ s39.1 then ex41 s39.2 else (gN s39.2 8 44 3).bind fun o43 => (aN s39.2 o43 q).bind fun o44 => (gN s39.2 8 44 4).bind fun o45 => (aJ s39.2 o45 s39.1).bind fun x46 => (sJ s39.2 o44 (i3 (J : Int) + s39.1) x46).bind fun th47 => nx40 ((s39.1 + Int32.ofInt 1), th47)) 4096 ((Int32.ofInt 0), x38) (fun (x42 : tH) => some (i3 (N : Int), x42))) (F := fun (s35 : Int32 × tH) nx36 ex37 => if i3 (N : Int) ≤ s35.1 then ex37 s35.2 else (gN s35.2 8 44 4).bind fun o49 => (gN s35.2 8 44 3).bind fun o50 => (aN s35.2 o50 p).bind fun o51 => (aJ s35.2 o51 (i3 (I : Int) + s35.1)).bind fun x52 => (sJ s35.2 o49 s35.1 x52).bind fun th53 => nx36 ((s35.1 + Int32.ofInt 1), th53)) N (by omega) (fun t (l : List Int64) => (t, H (sl s 57 l))) (fun l => H (sl s 57 l)) (p1F (la s (49 + p.toNatClampNeg)) I) (fun l => l.length = 40) (la s 57) ?_ ?_ ?_ z57
  · rw [sl_id, hR] at L1
    have lq : la (sl s 57 R) (49 + q.toNatClampNeg) = la s (49 + q.toNatClampNeg) := by rw [la_sl, if_neg (by omega)]
    have e0 : sl (sl s 57 R) (49 + q.toNatClampNeg) (la s (49 + q.toNatClampNeg)) = sl s 57 R := by
      have := sl_id (sl s 57 R) (49 + q.toNatClampNeg)
      rw [lq] at this
      exact this
    rw [e0] at L2
    refine Eq.mp (congrArg (fun z => MC s z _ _) (L1.trans L2).symm) ?_
    rw [← hR, cp_eq (by omega) (by omega) (by omega), hR]
    -- what is held now
    have sc0 : sc s (sl s 57 R) := (sc.refl s).l (by rw [lR, z57])
    have c0 := sc0.q.eM.mi c
    have ab0 := sc0.q.eM.ab c.2.2.2.1.1
    have a0 : ∀ p, ia (sl s 57 R) p = ia s p := fun _ => rfl
    generalize hs0 : sl s 57 R = s0 at c0 ab0 a0
    have lcp : (t_cpy (la s (49 + p.toNatClampNeg)) (la s (49 + q.toNatClampNeg)) I J N).length = 40 := by rw [t_cpy_len (by omega) (by omega)]; exact dq1
    generalize t_cpy (la s (49 + p.toNatClampNeg)) (la s (49 + q.toNatClampNeg)) I J N = W at lcp
    have eW : sl s0 (49 + q.toNatClampNeg) W = wR s0 q.toNatClampNeg (lg (ia s 45) q.toNatClampNeg) (lg (ia s 46) q.toNatClampNeg) (lg (ia s 47) q.toNatClampNeg) (lg (ia s 58) q.toNatClampNeg) W := by
      unfold wR
      rw [a0, a0, a0, a0, set_lg (by omega), set_lg (by omega), set_lg (by omega), set_lg (by omega), ← a0 45, sa_id, ← a0 46, sa_id, ← a0 47, sa_id, ← a0 58, sa_id]
    have m0 : md s0 44 = md s 44 := by rw [← hs0]; exact sc0.m (Or.inl rfl)
    obtain ⟨y1, y2, y3⟩ := wR_I c0 kq (x := lg (ia s 45) q.toNatClampNeg) (so := lg (ia s 46) q.toNatClampNeg) (n := lg (ia s 47) q.toNatClampNeg) (d := lg (ia s 58) q.toNatClampNeg) (l := W) lcp dq2 dq3 (by rw [m0]; exact dq4)
    rw [if_pos hq, ab0] at y3
    refine ⟨_, rfl, ?_, ?_, ?_⟩
    · rw [eW]; exact y1
    · rw [eW]
      have := sc0.q.eC
      rw [hs0] at this
      exact this.trans y2
    · rw [eW]; exact y3
  · intro k l nx ex hk hl
    have e1 : la (sl s 57 l) (49 + p.toNatClampNeg) = la s (49 + p.toNatClampNeg) := by rw [la_sl, if_neg (by omega)]
    have e2 : la (sl s 57 l) 57 = l := rfl
    have e3 : i3 (I : Int) + i3 (k : Int) = i3 ((I + k : Nat) : Int) := by rw [i3_add]; rfl
    dsimp only
    rw [if_neg (nle hk (by omega)), (n_0 _).2.2.2.2.1, Option.bind_some, (n_0 _).2.2.2.1, Option.bind_some, (r_o _ p1 p2).1, Option.bind_some, (r_L (r_o s p1 p2).2 _).1, e1, e3, at64_lg (by omega) (by omega), Option.bind_some, (s_m _).2.2.2.2, e2, st64_nat (by omega) (by omega), Option.map_some, Option.bind_some, sl_sl]
    rfl
  · intro k l _ hl
    exact (List.length_set).trans hl
  · intro l nx ex hl
    dsimp only
    rw [if_pos (Int32.le_refl _)]
  · intro k l nx ex hk hl
    have e1 : la (sl (sl s 57 R) (49 + q.toNatClampNeg) l) (49 + q.toNatClampNeg) = l := by rw [la_sl, if_pos rfl]
    have e2 : la (sl (sl s 57 R) (49 + q.toNatClampNeg) l) 57 = R := by rw [la_sl, if_neg (by omega)]; rfl
    have e3 : i3 (J : Int) + i3 (k : Int) = i3 ((J + k : Nat) : Int) := by rw [i3_add]; rfl
    dsimp only
    rw [if_neg (nle hk (by omega)), (n_0 _).2.2.2.1, Option.bind_some, (r_o _ q1 q2).1, Option.bind_some, (n_0 _).2.2.2.2.1, Option.bind_some, (a_m _).2.2.2.2, e2, at64_lg (by omega) (by omega), Option.bind_some, (r_L (r_o s q1 q2).2 _).2.2, e1, e3, st64_nat (by omega) (by omega), Option.map_some, Option.bind_some, sl_sl]
    rfl
  · intro k l _ hl
    exact (List.length_set).trans hl
  · intro l nx ex hl
    dsimp only
    rw [if_pos (Int32.le_refl _)]
theorem MC.refA (c : MI s) {x : Int32} (hx : isB x) : MC s ((m_189 44 x (H s)).bind fun q => some (q.1, q.2)) x (abM s) := MC.ref c hx
theorem e_4 (c : MI s) (p q i j n : Int32) : ∃ w, MC s (m_203 44 p q i j n (H s)) w ((abM s).1, (abM s).2.1, (abM s).2.2.1, sCopy (abM s).2.2.2 p q i j n) := by
  obtain ⟨l1, l2, l3, l4⟩ := c.2.1
  have eS : sCopy (abM s).2.2.2 p q i j n = if p < 0 then (abM s).2.2.2 else if p < i3 8 then if q < 0 then (abM s).2.2.2 else if q < i3 8 then (match (abM s).2.2.2 p.toNatClampNeg, (abM s).2.2.2 q.toNatClampNeg with | some a, some b => if a.1 = b.1 ∧ strt a.2.1 i n ∧ strt b.2.1 j n then upR (abM s).2.2.2 q.toNatClampNeg (some (b.1, b.2.1, t_cpy a.2.2 b.2.2 i.toNatClampNeg j.toNatClampNeg n.toNatClampNeg)) else (abM s).2.2.2 | _, _ => (abM s).2.2.2) else (abM s).2.2.2 else (abM s).2.2.2 := rfl
  unfold m_203
  rw [(r_m s).1, Option.bind_some, j07, Option.bind_some, jnE, bP_if, eS]
  by_cases p1 : p < 0
  · rw [if_neg (fun e => e.1 p1), if_pos p1, cst.1]
    exact ⟨_, MC.refE c isB2⟩
  rw [if_neg p1]
  by_cases p2 : p < i3 8
  · rw [if_pos ⟨p1, p2⟩, if_pos p2, j07, Option.bind_some, bP_if]
    by_cases q1 : q < 0
    · rw [if_neg (fun e => e.1 q1), if_pos q1, cst.1]
      exact ⟨_, MC.refE c isB2⟩
    rw [if_neg q1]
    by_cases q2 : q < i3 8
    · have kp := sh_nat p1 p2
      have kq := sh_nat q1 q2
      obtain ⟨dp1, dp2, dp3, dp4⟩ := c.2.2.2.2 _ kp
      obtain ⟨dq1, dq2, dq3, dq4⟩ := c.2.2.2.2 _ kq
      rw [if_pos ⟨q1, q2⟩, if_pos q2, abM_sh kp, abM_sh kq, (n_0 s).1, Option.bind_some, (a_m s).1, at_sh l1 p1 p2, Option.bind_some, jnE]
      have np : ¬ lg (ia s 45) p.toNatClampNeg = i3 1 → shM s p.toNatClampNeg = none := fun e => if_neg e
      have nq : ¬ lg (ia s 45) q.toNatClampNeg = i3 1 → shM s q.toNatClampNeg = none := fun e => if_neg e
      have eN : ∀ (a b : Rw), (a = none ∨ b = none) → (match a, b with | some a, some b => if a.1 = b.1 ∧ strt a.2.1 i n ∧ strt b.2.1 j n then upR (abM s).2.2.2 q.toNatClampNeg (some (b.1, b.2.1, t_cpy a.2.2 b.2.2 i.toNatClampNeg j.toNatClampNeg n.toNatClampNeg)) else (abM s).2.2.2 | _, _ => (abM s).2.2.2) = (abM s).2.2.2 := fun a b hab => by
        rcases hab with rfl | rfl
        · rfl
        · cases a <;> rfl
      by_cases a2 : lg (ia s 45) p.toNatClampNeg = i3 2
      · rw [if_pos (show _ = Int32.ofInt 2 from a2), eN _ _ (Or.inl (np (by rw [a2]; decide +kernel))), cst.2.1]
        exact ⟨_, MC.refE c isB3⟩
      rw [if_neg (show ¬ _ = Int32.ofInt 2 from a2), Option.bind_some, (a_m s).1, at_sh l1 q1 q2, Option.bind_some]
      by_cases b2 : lg (ia s 45) q.toNatClampNeg = i3 2
      · rw [if_pos (show _ = Int32.ofInt 2 from b2), eN _ _ (Or.inr (nq (by rw [b2]; decide +kernel))), cst.2.1]
        exact ⟨_, MC.refE c isB3⟩
      rw [if_neg (show ¬ _ = Int32.ofInt 2 from b2), Option.bind_some, (a_m s).1, at_sh l1 p1 p2, Option.bind_some, jnE]
      by_cases a1 : lg (ia s 45) p.toNatClampNeg = i3 1
      · have n0 : ¬ lg (ia s 45) p.toNatClampNeg = 0 := by rw [a1]; decide +kernel
        rw [if_pos (show _ = Int32.ofInt 1 from a1), Option.bind_some, (a_m s).1, at_sh l1 q1 q2, Option.bind_some]
        by_cases b1 : lg (ia s 45) q.toNatClampNeg = i3 1
        · have m0 : ¬ lg (ia s 45) q.toNatClampNeg = 0 := by rw [b1]; decide +kernel
          rw [if_pos (show _ = Int32.ofInt 1 from b1), (n_0 s).2.1, Option.bind_some, (a_m s).2.1, at_sh l2 p1 p2, Option.bind_some, Option.bind_some, (a_m s).2.1, at_sh l2 q1 q2, Option.bind_some]
          rw [show shM s p.toNatClampNeg = some _ from if_pos a1, show shM s q.toNatClampNeg = some _ from if_pos b1]
          dsimp only
          by_cases so : lg (ia s 46) p.toNatClampNeg = lg (ia s 46) q.toNatClampNeg
          · rw [if_pos so, Option.bind_some, (a_m s).1, at_sh l1 p1 p2, Option.bind_some, jnE, if_neg n0, Option.bind_some, (a_m s).1, at_sh l1 q1 q2, Option.bind_some, if_neg m0, jnE]
            have sp := dp3 a1
            have sq := dq3 b1
            by_cases f1 : n < 0
            · rw [if_pos f1, if_neg (fun e => e.2.1.2.1 f1), cst.1]
              exact ⟨_, MC.refE c isB2⟩
            rw [if_neg f1]
            by_cases f2 : i < 0
            · rw [if_pos f2, if_neg (fun e => e.2.1.1 f2), cst.1]
              exact ⟨_, MC.refE c isB2⟩
            rw [if_neg f2]
            by_cases f3 : j < 0
            · rw [if_pos f3, if_neg (fun e => e.2.2.1 f3), cst.1]
              exact ⟨_, MC.refE c isB2⟩
            rw [if_neg f3, (n_0 s).2.2.1, Option.bind_some, (a_m s).2.2.1, at_sh l3 p1 p2, Option.bind_some]
            have big : ∀ z f : Int32, (¬ z < 0 ∧ z ≤ i3 40) → strt z f n → ¬ z < n := fun z f hz hs e => by
              obtain ⟨u1, u2, u3⟩ := hs
              have ez := i3_cl hz.1
              have en := i3_cl u2
              have zb : z.toNatClampNeg ≤ 40 := le_cl (b := 40) (by omega) hz.1 hz.2
              have nb : n.toNatClampNeg < 2147483648 := by
                have := Int32.toInt_lt n
                show n.toInt.toNat < 2147483648
                omega
              have e5 : z - n = i3 ((z.toNatClampNeg : Int) - (n.toNatClampNeg : Int)) := by
                conv => lhs; rw [ez, en]
                exact i3_sub _ _
              rw [e5, Int32.lt_iff_toInt_lt, i3_toInt ⟨by omega, by omega⟩] at u3
              rw [ez, en, i3n_lt (by omega) (by omega)] at e
              have f0 : ¬ f.toInt < 0 := fun e => u1 (Int32.lt_iff_toInt_lt.mpr e)
              omega
            by_cases f4 : lg (ia s 47) p.toNatClampNeg < n
            · rw [if_pos f4, if_neg (fun e => big _ _ sp e.2.1 f4), cst.1]
              exact ⟨_, MC.refE c isB2⟩
            rw [if_neg f4, Option.bind_some, (a_m s).2.2.1, at_sh l3 q1 q2, Option.bind_some]
            by_cases f5 : lg (ia s 47) q.toNatClampNeg < n
            · rw [if_pos f5, if_neg (fun e => big _ _ sq e.2.2 f5), cst.1]
              exact ⟨_, MC.refE c isB2⟩
            rw [if_neg f5, Option.bind_some, (a_m s).2.2.1, at_sh l3 p1 p2, Option.bind_some]
            by_cases f6 : lg (ia s 47) p.toNatClampNeg - n < i
            · rw [if_pos f6, if_neg (fun e => e.2.1.2.2 f6), cst.1]
              exact ⟨_, MC.refE c isB2⟩
            rw [if_neg f6, Option.bind_some, (a_m s).2.2.1, at_sh l3 q1 q2, Option.bind_some]
            by_cases f7 : j ≤ lg (ia s 47) q.toNatClampNeg - n
            · have sI' : strt (lg (ia s 47) p.toNatClampNeg) i n := ⟨f2, f1, f6⟩
              have sJ' : strt (lg (ia s 47) q.toNatClampNeg) j n := ⟨f3, f1, Int32.not_lt.mpr f7⟩
              have bI := st_bd sp sI'
              have bJ := st_bd sq sJ'
              rw [if_pos f7, if_pos ⟨so, sI', sJ'⟩]
              have := cp_lp c p1 p2 q1 q2 (I := i.toNatClampNeg) (J := j.toNatClampNeg) (N := n.toNatClampNeg) bI bJ a1 b1
              rw [← i3_cl f1, ← i3_cl f2, ← i3_cl f3] at this
              exact ⟨_, this⟩
            · rw [if_neg f7, if_neg (fun e => f7 (Int32.not_lt.mp e.2.2.2.2)), cst.1]
              exact ⟨_, MC.refE c isB2⟩
          · rw [if_neg so, if_neg (fun e => so e.1), cst.2.1]
            exact ⟨_, MC.refE c isB3⟩
        · have m0 : lg (ia s 45) q.toNatClampNeg = 0 := by
            rcases dq2 with e | e | e
            · exact e
            · exact absurd e b1
            · exact absurd e b2
          rw [if_neg (show ¬ _ = Int32.ofInt 1 from b1), eN _ _ (Or.inr (nq b1)), Option.bind_some, (a_m s).1, at_sh l1 p1 p2, Option.bind_some, jnE, if_neg n0, Option.bind_some, (a_m s).1, at_sh l1 q1 q2, Option.bind_some, if_pos m0, cst.2.2.1]
          exact ⟨_, MC.refE c isB4⟩
      · have n0 : lg (ia s 45) p.toNatClampNeg = 0 := by
          rcases dp2 with e | e | e
          · exact e
          · exact absurd e a1
          · exact absurd e a2
        rw [if_neg (show ¬ _ = Int32.ofInt 1 from a1), eN _ _ (Or.inl (np a1)), Option.bind_some, (a_m s).1, at_sh l1 p1 p2, Option.bind_some, jnE, if_pos n0, cst.2.2.1]
        exact ⟨_, MC.refE c isB4⟩
    · rw [if_neg (fun e => q2 e.2), if_neg q2, cst.1]
      exact ⟨_, MC.refE c isB2⟩
  · rw [if_neg (fun e => p2 e.2), if_neg p2, cst.1]
    exact ⟨_, MC.refE c isB2⟩
end MS2
