/-! ===== copy, says, judge, status (class) ===== -/
noncomputable def sCopy (f : Nat → Rw) (p q i j n : Int32) : Nat → Rw := if p < 0 then f else if p < i3 8 then if q < 0 then f else if q < i3 8 then (match f p.toNatClampNeg, f q.toNatClampNeg with | some a, some b => if a.1 = b.1 ∧ strt a.2.1 i n ∧ strt b.2.1 j n then upR f q.toNatClampNeg (some (b.1, b.2.1, t_cpy a.2.2 b.2.2 i.toNatClampNeg j.toNatClampNeg n.toNatClampNeg)) else f | _, _ => f) else f else f
section CP
variable {s : St}
theorem r_cpJ {a b : Nat} (ha : a < 8) (hb : b < 8) {sp dp n : Nat} (h1 : sp + n ≤ (la s (29 + 2 * a)).length) (h2 : dp + n ≤ (la s (29 + 2 * b)).length) (l1 : (la s (29 + 2 * a)).length ≤ 1000) (l2 : (la s (29 + 2 * b)).length ≤ 1000) : cpJ (H s) (29 + 2 * a) (i3 (sp : Int)) (29 + 2 * b) (i3 (dp : Int)) (i3 (n : Int)) = some (H (sl s (29 + 2 * b) (t_cpy (la s (29 + 2 * a)) (la s (29 + 2 * b)) sp dp n))) := by
  have F : ∀ k, k < 8 → (H s)[29 + 2 * k]? = some (.inl (1, .inr (.inl (la s (29 + 2 * k))))) := fun k hk => by
    match k, hk with
    | 0, _ => rfl
    | 1, _ => rfl
    | 2, _ => rfl
    | 3, _ => rfl
    | 4, _ => rfl
    | 5, _ => rfl
    | 6, _ => rfl
    | 7, _ => rfl
  have G : ∀ k, k < 8 → ∀ l : List Int64, (H s).set (29 + 2 * k) (.inl (1, .inr (.inl l))) = H (sl s (29 + 2 * k) l) := fun k hk l => by
    match k, hk with
    | 0, _ => rfl
    | 1, _ => rfl
    | 2, _ => rfl
    | 3, _ => rfl
    | 4, _ => rfl
    | 5, _ => rfl
    | 6, _ => rfl
    | 7, _ => rfl
  rw [cpJ_of (F a ha) (F b hb) h1 h2 l1 l2, G b hb]
theorem t150 {k : Nat} (hk : k < 8) (c : ¬ fi s (28 + 2 * k) 1 = i3 (-1)) : m_150 (28 + 2 * k) (H s) = some (i3 1) := by rw [q_150 (isS_k hk), bP_t c]
theorem f150 {k : Nat} (hk : k < 8) (c : fi s (28 + 2 * k) 1 = i3 (-1)) : m_150 (28 + 2 * k) (H s) = some (i3 0) := by rw [q_150 (isS_k hk), bP_f (fun e => e c)]
theorem t151 {k : Nat} (hk : k < 8) (c : ¬ fi s (28 + 2 * k) 3 = i3 (-1)) : m_151 (28 + 2 * k) (H s) = some (i3 1) := by rw [q_151 (isS_k hk), bP_t c]
theorem f151 {k : Nat} (hk : k < 8) (c : fi s (28 + 2 * k) 3 = i3 (-1)) : m_151 (28 + 2 * k) (H s) = some (i3 0) := by rw [q_151 (isS_k hk), bP_f (fun e => e c)]
theorem t154 {k : Nat} (hk : k < 8) {f n : Int32} (c : strt (fi s (28 + 2 * k) 2) f n) : m_154 (28 + 2 * k) f n (H s) = some (i3 1) := by rw [q_154 (isS_k hk), bP_t c]
theorem f154 {k : Nat} (hk : k < 8) {f n : Int32} (c : ¬ strt (fi s (28 + 2 * k) 2) f n) : m_154 (28 + 2 * k) f n (H s) = some (i3 0) := by rw [q_154 (isS_k hk), bP_f c]
theorem t60 {x : Int32} (c1 : ¬ x < 0) (c2 : x < i3 8) : m_60 0 x (H s) = some (some (28 + 2 * x.toNatClampNeg)) := by rw [q_60, if_neg c1, if_pos c2]
theorem f60 {x : Int32} (c : ¬ (¬ x < 0 ∧ x < i3 8)) : m_60 0 x (H s) = some none := by
  rw [q_60]
  by_cases c1 : x < 0
  · rw [if_pos c1]
  · rw [if_neg c1, if_neg (fun e => c ⟨c1, e⟩)]
theorem st_bd {z f n : Int32} (hz : ¬ z < 0 ∧ z ≤ i3 40) (h : strt z f n) : f.toNatClampNeg + n.toNatClampNeg ≤ 40 := by
  obtain ⟨a, b, d⟩ := h
  obtain ⟨z0, z1⟩ := hz
  have ez := i3_cl z0
  have en := i3_cl b
  have zb : z.toNatClampNeg ≤ 40 := le_cl (b := 40) (by omega) z0 z1
  have nb : n.toNatClampNeg < 2147483648 := by
    have := Int32.toInt_lt n
    show n.toInt.toNat < 2147483648
    omega
  have e : z - n = i3 ((z.toNatClampNeg : Int) - (n.toNatClampNeg : Int)) := by
    conv => lhs; rw [ez, en]
    exact i3_sub _ _
  rw [e, Int32.lt_iff_toInt_lt, i3_toInt ⟨by omega, by omega⟩] at d
  have f0 : ¬ f.toInt < 0 := fun e => a (Int32.lt_iff_toInt_lt.mpr e)
  have ef : ((f.toNatClampNeg : Nat) : Int) = f.toInt := by
    show ((f.toInt.toNat : Nat) : Int) = _
    omega
  omega
theorem b_4 (c : CI s) (p q i j n : Int32) : ∃ w, CC s (m_4 0 p q i j n (H s)) w ((abC s).1, (abC s).2.1, (abC s).2.2.1, sCopy (abC s).2.2.2 p q i j n) := by
  by_cases cp : ¬ p < 0 ∧ p < i3 8
  · by_cases cq : ¬ q < 0 ∧ q < i3 8
    · have hp := sh_nat cp.1 cp.2
      have hq := sh_nat cq.1 cq.2
      have eS : sCopy (abC s).2.2.2 p q i j n = (match shC s p.toNatClampNeg, shC s q.toNatClampNeg with | some a, some b => if a.1 = b.1 ∧ strt a.2.1 i n ∧ strt b.2.1 j n then upR (abC s).2.2.2 q.toNatClampNeg (some (b.1, b.2.1, t_cpy a.2.2 b.2.2 i.toNatClampNeg j.toNatClampNeg n.toNatClampNeg)) else (abC s).2.2.2 | _, _ => (abC s).2.2.2) := by
        unfold sCopy
        rw [if_neg cp.1, if_pos cp.2, if_neg cq.1, if_pos cq.2, abC_sh hp, abC_sh hq]
      rw [eS]
      have e60p := t60 (s := s) cp.1 cp.2
      have e60q := t60 (s := s) cq.1 cq.2
      obtain ⟨p1, p2, p3, p4, p5⟩ := c.2.2.2.2.2 _ hp
      obtain ⟨q1, q2, q3, q4, q5⟩ := c.2.2.2.2.2 _ hq
      unfold m_4
      rw [(r_0 s).1, Option.bind_some, e60p, Option.bind_some, e60q, Option.bind_some]
      unfold jn
      dsimp only
      by_cases tp : fi s (28 + 2 * p.toNatClampNeg) 3 = i3 (-1)
      · rw [f151 hp tp, Option.bind_some, if_pos e0_0]
        by_cases tq : fi s (28 + 2 * q.toNatClampNeg) 3 = i3 (-1)
        · rw [f151 hq tq, Option.bind_some, if_pos e0_0]
          by_cases rp : fi s (28 + 2 * p.toNatClampNeg) 1 = i3 (-1)
          · rw [f150 hp rp]
            simp only [Option.bind_some, if_pos e0_0]
            rw [show shC s p.toNatClampNeg = none from if_pos rp, cst.2.2.1]
            exact ⟨_, CC.refE c isB4⟩
          · rw [t150 hp rp]
            simp only [Option.bind_some, if_neg e1_0]
            rw [show shC s p.toNatClampNeg = some _ from if_neg rp]
            by_cases rq : fi s (28 + 2 * q.toNatClampNeg) 1 = i3 (-1)
            · rw [f150 hq rq]
              simp only [Option.bind_some, if_pos e0_0]
              rw [show shC s q.toNatClampNeg = none from if_pos rq, cst.2.2.1]
              exact ⟨_, CC.refE c isB4⟩
            · rw [t150 hq rq]
              simp only [Option.bind_some, if_neg e1_0, (r_Sf hp s).2.1, (r_Sf hq s).2.1]
              rw [show shC s q.toNatClampNeg = some _ from if_neg rq]
              dsimp only
              by_cases so : fi s (28 + 2 * p.toNatClampNeg) 1 = fi s (28 + 2 * q.toNatClampNeg) 1
              · rw [if_pos so]
                by_cases s1 : strt (fi s (28 + 2 * p.toNatClampNeg) 2) i n
                · rw [t154 hp s1, Option.bind_some, if_neg e1_0]
                  by_cases s2 : strt (fi s (28 + 2 * q.toNatClampNeg) 2) j n
                  · have b1 := st_bd p3 s1
                    have b2 := st_bd q3 s2
                    rw [t154 hq s2, Option.bind_some, if_neg e1_0, (r_Sk hp s).1, Option.bind_some, (r_Sk hq s).1, Option.bind_some, if_pos ⟨so, s1, s2⟩]
                    have ec := r_cpJ (s := s) hp hq (sp := i.toNatClampNeg) (dp := j.toNatClampNeg) (n := n.toNatClampNeg) (by omega) (by omega) (by omega) (by omega)
                    rw [← i3_cl s1.1, ← i3_cl s2.1, ← i3_cl s1.2.1] at ec
                    rw [ec, Option.bind_some, wSh_sl]
                    have := CC.shelf c hq (so := fi s (28 + 2 * q.toNatClampNeg) 1) (n := fi s (28 + 2 * q.toNatClampNeg) 2) (t := fi s (28 + 2 * q.toNatClampNeg) 3) (l := t_cpy (la s (29 + 2 * p.toNatClampNeg)) (la s (29 + 2 * q.toNatClampNeg)) i.toNatClampNeg j.toNatClampNeg n.toNatClampNeg) ((t_cpy_len (by omega) (by omega)).trans q1) q2 q3 q4 q5 n
                    rw [if_neg rq] at this
                    exact ⟨_, this⟩
                  · rw [f154 hq s2, Option.bind_some, if_pos e0_0, if_neg (fun e => s2 e.2.2), cst.1]
                    exact ⟨_, CC.refE c isB2⟩
                · rw [f154 hp s1, Option.bind_some, if_pos e0_0, if_neg (fun e => s1 e.2.1), cst.1]
                  exact ⟨_, CC.refE c isB2⟩
              · rw [if_neg so, if_neg (fun e => so e.1), cst.2.1]
                exact ⟨_, CC.refE c isB3⟩
        · rw [t151 hq tq, Option.bind_some, if_neg e1_0, cst.2.1]
          have rq : fi s (28 + 2 * q.toNatClampNeg) 1 = i3 (-1) := q5.elim (fun e => absurd e tq) (·.2)
          rw [show shC s q.toNatClampNeg = none from if_pos rq]
          refine ⟨i3 (-3), ?_⟩
          have := CC.refE c isB3
          cases shC s p.toNatClampNeg <;> exact this
      · rw [t151 hp tp, Option.bind_some, if_neg e1_0, cst.2.1]
        have rp : fi s (28 + 2 * p.toNatClampNeg) 1 = i3 (-1) := p5.elim (fun e => absurd e tp) (·.2)
        rw [show shC s p.toNatClampNeg = none from if_pos rp]
        exact ⟨_, CC.refE c isB3⟩
    · have eS : sCopy (abC s).2.2.2 p q i j n = (abC s).2.2.2 := by
        unfold sCopy
        rw [if_neg cp.1, if_pos cp.2]
        by_cases c1 : q < 0
        · rw [if_pos c1]
        · rw [if_neg c1, if_neg (fun e => cq ⟨c1, e⟩)]
      rw [eS]
      unfold m_4
      rw [(r_0 s).1, Option.bind_some, t60 cp.1 cp.2, Option.bind_some, f60 cq, Option.bind_some]
      unfold jn
      dsimp only
      rw [cst.1]
      exact ⟨_, CC.refE c isB2⟩
  · have eS : sCopy (abC s).2.2.2 p q i j n = (abC s).2.2.2 := by
      unfold sCopy
      by_cases c1 : p < 0
      · rw [if_pos c1]
      · rw [if_neg c1, if_neg (fun e => cp ⟨c1, e⟩)]
    rw [eS]
    have e60 : ∃ r, m_60 0 q (H s) = some r := ⟨_, q_60 q⟩
    obtain ⟨r, er⟩ := e60
    unfold m_4
    rw [(r_0 s).1, Option.bind_some, f60 cp, Option.bind_some, er, Option.bind_some]
    unfold jn
    dsimp only
    rw [cst.1]
    exact ⟨_, CC.refE c isB2⟩
theorem CC.refA (c : CI s) {x : Int32} (hx : isB x) : CC s ((m_59 0 x (H s)).bind fun q => some (q.1, q.2)) x (abC s) := CC.ref c hx
theorem six {w : Int32} (h : ¬ w < 0) (h4 : w ≤ i3 5) : w = 0 ∨ w = 1 ∨ w = 2 ∨ w = 3 ∨ w = 4 ∨ w = 5 := by
  have a : ¬ w.toInt < 0 := fun e => h (Int32.lt_iff_toInt_lt.mpr e)
  have b : w.toInt ≤ 5 := Int32.le_iff_toInt_le.mp h4
  have c : w.toInt = 0 ∨ w.toInt = 1 ∨ w.toInt = 2 ∨ w.toInt = 3 ∨ w.toInt = 4 ∨ w.toInt = 5 := by omega
  rcases c with c | c | c | c | c | c
  · exact Or.inl (Int32.toInt_inj.mp c)
  · exact Or.inr (Or.inl (Int32.toInt_inj.mp c))
  · exact Or.inr (Or.inr (Or.inl (Int32.toInt_inj.mp c)))
  · exact Or.inr (Or.inr (Or.inr (Or.inl (Int32.toInt_inj.mp c))))
  · exact Or.inr (Or.inr (Or.inr (Or.inr (Or.inl (Int32.toInt_inj.mp c)))))
  · exact Or.inr (Or.inr (Or.inr (Or.inr (Or.inr (Int32.toInt_inj.mp c)))))
theorem b_8 (c : CI s) (x w : Int32) : ∃ v, CC s (m_8 0 x w (H s)) v (abC s) := by
  by_cases cx : ¬ x < 0 ∧ x < i3 8
  · have hk := sh_nat cx.1 cx.2
    obtain ⟨p1, p2, p3, p4, p5⟩ := c.2.2.2.2.2 _ hk
    unfold m_8
    rw [(r_0 s).1, Option.bind_some, t60 cx.1 cx.2, Option.bind_some]
    unfold jn
    dsimp only
    by_cases w0 : w < 0
    · rw [if_pos w0, cst.1]
      exact ⟨_, CC.refA c isB2⟩
    rw [if_neg w0]
    by_cases w5 : w ≤ i3 5
    · have w5' : w ≤ Int32.ofInt 5 := w5
      rw [if_pos w5']
      by_cases r : fi s (28 + 2 * x.toNatClampNeg) 1 = i3 (-1)
      · rw [f150 hk r, Option.bind_some, if_pos e0_0]
        by_cases t : fi s (28 + 2 * x.toNatClampNeg) 3 = i3 (-1)
        · rw [f151 hk t, Option.bind_some, if_pos e0_0, Option.bind_some, if_pos e0_0, cst.2.2.1]
          exact ⟨_, CC.refA c isB4⟩
        · have hT : isT (gd s 1) (fi s (28 + 2 * x.toNatClampNeg) 3) := p5.elim (fun e => absurd e t) (·.1)
          rw [t151 hk t, Option.bind_some, if_neg e1_0, (r_0 s).2.1, Option.bind_some, (r_Sf hk s).2.2.2.2.2.1, Option.bind_some, q_85 g1 c.1.1 hT, Option.bind_some, bP_if]
          by_cases o : kOf (kA (gd s 1) (fi s (28 + 2 * x.toNatClampNeg) 3)) w
          · rw [if_pos o, Option.bind_some, if_neg e1_0]
            have eV : ∃ v, ((gN (H s) 2 1 2).bind fun o16 => (some (fi s (28 + 2 * x.toNatClampNeg) 3)).bind fun x17 => (aI (H s) o16 x17).bind fun x18 => some (x18, H s)) = some (v, H s) := ⟨vA (gd s 1) (fi s (28 + 2 * x.toNatClampNeg) 3), by
              simp only [r_G g1, Option.bind_some, c.1.1.at_v hT]⟩
            obtain ⟨v, eV⟩ := eV
            have quiet : ∀ v : Int32, CC s (some (v, H s)) v (abC s) := fun v => CC.id c v
            rcases six w0 w5 with rfl | rfl | rfl | rfl | rfl | rfl
            · rw [if_neg (by decide +kernel), if_pos rfl]
              obtain ⟨s1, e1, q1, r1⟩ := q_63 c.1.1 c.1.2.1
              have ef : fi s1 (28 + 2 * x.toNatClampNeg) 3 = fi s (28 + 2 * x.toNatClampNeg) 3 := q1.q.eC.fs hk 3
              rw [e1, Option.bind_some]
              simp only [(r_Sf hk s1).2.2.2.2.2.1, Option.bind_some, q_107 r1]
              exact ⟨_, s1, rfl, q1.q.eC.ci c, q1.q.eM, q1.q.eC.ab⟩
            · rw [if_neg (by decide +kernel), if_neg (by decide +kernel), if_pos rfl, Option.bind_some, Option.bind_some, q_97 g1 c.1.1, Option.bind_some]
              exact ⟨_, quiet _⟩
            · rw [if_neg (by decide +kernel), if_neg (by decide +kernel), if_neg (by decide +kernel), if_pos rfl, Option.bind_some, Option.bind_some, q_148 g1 c.1.1 hT, Option.bind_some]
              exact ⟨_, quiet _⟩
            · rw [if_neg (by decide +kernel), if_neg (by decide +kernel), if_neg (by decide +kernel), if_neg (by decide +kernel), if_pos rfl, Option.bind_some, eV]
              exact ⟨_, quiet _⟩
            · rw [if_neg (by decide +kernel), if_neg (by decide +kernel), if_neg (by decide +kernel), if_neg (by decide +kernel), if_neg (by decide +kernel), if_pos rfl, Option.bind_some, Option.bind_some, q_128 g1 c.1.1 hT, Option.bind_some]
              exact ⟨_, quiet _⟩
            · rw [if_pos (by decide +kernel), Option.bind_some, eV]
              exact ⟨_, quiet _⟩
          · rw [if_neg o, cst.2.1]
            exact ⟨_, CC.refA c isB3⟩
      · rw [t150 hk r, Option.bind_some, if_neg e1_0, cst.2.1]
        exact ⟨_, CC.refA c isB3⟩
    · have w5' : ¬ w ≤ Int32.ofInt 5 := w5
      rw [if_neg w5', cst.1]
      exact ⟨_, CC.refA c isB2⟩
  · unfold m_8
    rw [(r_0 s).1, Option.bind_some, f60 cx, Option.bind_some]
    unfold jn
    dsimp only
    rw [cst.1]
    exact ⟨_, CC.refA c isB2⟩
theorem J_T {v : Int64} {g : Gd} (h : ok g) (h0 : ¬ lg_cmp v (Int64.ofNat 0) < 0) (h1 : lg_cmp v (Int32.toInt64 (tN g)) < 0) : isT g (Int64.toInt32 v) := by
  have n12 := h.n_le
  have e0 : (Int64.ofNat 0).toInt = 0 := by decide +kernel
  have en : (Int32.toInt64 (tN g)).toInt = (nn g : Int) := by
    rw [Int32.toInt_toInt64, h.n_eq, i3_toInt ⟨by omega, by omega⟩]
  have a : 0 ≤ v.toInt := by
    refine Classical.byContradiction fun hn => h0 ?_
    unfold lg_cmp
    rw [if_neg, if_neg]
    · decide +kernel
    · intro e
      rw [e, e0] at hn
      omega
    · intro e
      have e' := Int64.lt_iff_toInt_lt.mp e
      rw [e0] at e'
      omega
  have b : v.toInt < nn g := by
    refine Classical.byContradiction fun hn => ?_
    have : ¬ lg_cmp v (Int32.toInt64 (tN g)) < 0 := by
      unfold lg_cmp
      by_cases e : v = Int32.toInt64 (tN g)
      · rw [if_neg (fun h => by rw [e] at h; exact absurd (Int64.lt_iff_toInt_lt.mp h) (by omega)), if_pos e]
        decide +kernel
      · rw [if_pos]
        · decide +kernel
        · refine Int64.lt_iff_toInt_lt.mpr ?_
          rw [en]
          have : v.toInt ≠ nn g := fun e' => e (Int64.toInt_inj.mp (by rw [en]; exact e'))
          omega
    exact this h1
  have ev : (Int64.toInt32 v).toInt = v.toInt := by
    rw [Int64.toInt_toInt32, Int.bmod_eq_of_le (by omega) (by omega)]
  refine ⟨fun e => ?_, fun e => ?_⟩
  · have := Int32.lt_iff_toInt_lt.mp e
    rw [ev] at this
    have e2 : (0 : Int32).toInt = 0 := by decide +kernel
    omega
  · have := Int32.le_iff_toInt_le.mp e
    rw [ev, h.n_eq, i3_toInt ⟨by omega, by omega⟩] at this
    omega
theorem q_29 (c : CI s) {k : Nat} (hk : k < 8) {t : Int32} (ht : isT (gd s 1) t) : ∃ b : Int32, m_29 0 (28 + 2 * k) t (H s) = some b ∧ (b = i3 0 ∨ b = i3 1) := by
  obtain ⟨p1, -⟩ := c.2.2.2.2.2 _ hk
  have a0 : ∃ v, at64 (la s (29 + 2 * k)) (Int32.ofInt 0) = some v := ⟨_, atJ_rd (by decide +kernel) (by rw [p1]; decide +kernel)⟩
  have a1 : ∃ v, at64 (la s (29 + 2 * k)) (Int32.ofInt 1) = some v := ⟨_, atJ_rd (by decide +kernel) (by rw [p1]; decide +kernel)⟩
  obtain ⟨v0, a0⟩ := a0
  obtain ⟨v1, a1⟩ := a1
  unfold m_29
  rw [(r_0 s).1, Option.bind_some, (r_Sk hk s).1, Option.bind_some, (r_Sk hk s).2.1, a0, Option.bind_some, Option.bind_some, (r_Sk hk s).2.1, a1, Option.bind_some, (r_0 s).2.1, Option.bind_some, q_81 g1, Option.bind_some]
  unfold jn
  dsimp only
  rw [bP_if]
  by_cases c1 : isT (gd s 1) (Int64.toInt32 v0)
  · rw [if_pos c1, Option.bind_some, q_81 g1, Option.bind_some, bP_if]
    by_cases c2 : isT (gd s 1) (Int64.toInt32 v1)
    · rw [if_pos c2]
      simp only [Option.bind_some, r_G g1, c.1.1.at_c c1, c.1.1.at_c c2, c.1.1.at_c ht, q_79 g1 c.1.1]
      split
      · exact ⟨_, rB_1, Or.inr rfl⟩
      · exact ⟨_, rB_0, Or.inl rfl⟩
    · rw [if_neg c2]
      exact ⟨_, rB_0, Or.inl rfl⟩
  · rw [if_neg c1]
    exact ⟨_, rB_0, Or.inl rfl⟩
theorem q_28 (c : CI s) {k : Nat} (hk : k < 8) {n : Nat} (hn : n ≤ 12) : T (m_28 0 (28 + 2 * k) (i3 (n : Int)) (H s)) (fun _ => True) := by
  obtain ⟨p1, -⟩ := c.2.2.2.2.2 _ hk
  unfold m_28
  rw [(r_0 s).1, Option.bind_some]
  refine lpH n (fun j q => ∃ m, q = (m, i3 (j : Int))) (fun _ => True) ?_ ?_ ?_ ?_ (by omega)
  · rintro j _ hj ⟨m, rfl⟩ nx ex hnx hex
    have e1 : ¬ i3 (n : Int) ≤ i3 (j : Int) := by rw [i3n_le (by omega) (by omega)]; omega
    have a0 : at64 (la s (29 + 2 * k)) (i3 (j : Int)) = some (rdJ (la s (29 + 2 * k)) (i3 (j : Int))) := atJ_rd (i3n_nneg (by omega)) (by rw [p1, cl_i3 (by omega)]; omega)
    dsimp only
    rw [if_neg e1, (r_Sk hk s).1, Option.bind_some, (r_Sk hk s).2.1, a0, Option.bind_some]
    generalize rdJ (la s (29 + 2 * k)) (i3 (j : Int)) = v
    unfold jn
    dsimp only
    have st : T (some (i3 (j : Int))) (fun _ => True) := T_some trivial
    have go : ∀ m', T (nx (m', i3 (j : Int) + Int32.ofInt 1)) (fun _ => True) := fun m' => hnx _ ⟨m', by rw [i3_nat_add]⟩
    by_cases d1 : lg_cmp v (Int64.ofNat 0) < 0
    · rw [if_pos d1]; exact st
    rw [if_neg d1, (r_0 s).2.1, Option.bind_some]
    have rt : gI (H s) 2 1 5 = some (tN (gd s 1)) := rfl
    rw [rt, Option.bind_some]
    by_cases d2 : lg_cmp v (Int32.toInt64 (tN (gd s 1))) < 0
    · rw [if_pos d2]
      have hT := J_T c.1.1 d1 d2
      generalize Int64.toInt32 v = t at hT
      by_cases d3 : (m &&& Int32.ofInt 1 <<< (t &&& 31)) = 0
      · rw [if_pos d3, if_pos e0_0, Option.bind_some, q_85 g1 c.1.1 hT, Option.bind_some, bP_if]
        by_cases d4 : kOf (kA (gd s 1) t) (Int32.ofInt 4)
        · rw [if_pos d4]; exact st
        · rw [if_neg d4]
          by_cases d5 : i3 (j : Int) < Int32.ofInt 2
          · rw [if_pos d5]; exact go _
          · rw [if_neg d5]
            obtain ⟨b, eb, hb⟩ := q_29 c hk hT
            rw [eb, Option.bind_some]
            rcases hb with rfl | rfl
            · rw [if_pos e0_0]; exact st
            · rw [if_neg e1_0]; exact go _
      · rw [if_neg d3, if_neg e1_0]; exact st
    · rw [if_neg d2]; exact st
  · rintro _ ⟨m, rfl⟩ nx ex hex
    have e1 : i3 (n : Int) ≤ i3 (n : Int) := Int32.le_refl _
    dsimp only
    rw [if_pos e1]
    exact hex _ trivial
  · intro _ _
    exact T_some trivial
  · exact ⟨_, rfl⟩
theorem b_27 (c : CI s) (x n : Int32) : ∃ v, CC s (m_27 0 x n (H s)) v (abC s) := by
  by_cases cx : ¬ x < 0 ∧ x < i3 8
  · have hk := sh_nat cx.1 cx.2
    unfold m_27
    rw [(r_0 s).1, Option.bind_some, t60 cx.1 cx.2, Option.bind_some]
    unfold jn
    dsimp only
    by_cases w0 : n < 0
    · rw [if_pos w0, cst.1]
      exact ⟨_, CC.refA c isB2⟩
    rw [if_neg w0]
    have c12 : (Int8.ofInt 12).toInt32 = i3 12 := by decide +kernel
    rw [c12]
    by_cases w5 : n ≤ i3 12
    · rw [if_pos w5]
      by_cases r : fi s (28 + 2 * x.toNatClampNeg) 1 = i3 (-1)
      · rw [f150 hk r, Option.bind_some, if_pos e0_0, q_152 (isS_k hk), Option.bind_some]
        exact ⟨_, CC.refA c whyR_B⟩
      · rw [t150 hk r, Option.bind_some, if_neg e1_0, (r_Sf hk s).2.2.2.1, Option.bind_some]
        by_cases d : n ≤ fi s (28 + 2 * x.toNatClampNeg) 2
        · rw [if_pos d]
          have hb : n.toNatClampNeg ≤ 12 := le_cl (b := 12) (by omega) w0 w5
          obtain ⟨v, ev, -⟩ := q_28 c hk hb
          rw [← i3_cl w0] at ev
          rw [ev, Option.bind_some]
          exact ⟨_, CC.id c v⟩
        · rw [if_neg d, cst.1]
          exact ⟨_, CC.refA c isB2⟩
    · rw [if_neg w5, cst.1]
      exact ⟨_, CC.refA c isB2⟩
  · unfold m_27
    rw [(r_0 s).1, Option.bind_some, f60 cx, Option.bind_some]
    unfold jn
    dsimp only
    rw [cst.1]
    exact ⟨_, CC.refA c isB2⟩
theorem q_61 : T (m_61 0 (H s)) (fun _ => True) := by
  unfold m_61
  rw [(r_0 s).1, Option.bind_some]
  refine lpH 8 (fun j q => ∃ m, q = (m, i3 (j : Int))) (fun _ => True) ?_ ?_ ?_ ?_ (by omega)
  · rintro j _ hj ⟨m, rfl⟩ nx ex hnx hex
    have e8 : ¬ Int32.ofNat 8 ≤ i3 (j : Int) := by
      rw [i3_nat, i3n_le (by omega) (by omega)]; omega
    have e2 : i3 (j : Int) < i3 8 := by
      show i3 (j : Int) < i3 ((8 : Nat) : Int)
      rw [i3n_lt (by omega) (by omega)]; exact hj
    have go : ∀ m', T (nx (m', i3 (j : Int) + Int32.ofInt 1)) (fun _ => True) := fun m' => hnx _ ⟨m', by rw [i3_nat_add]⟩
    have a8 : aL (H s) 26 = some (Int32.ofNat 8) := rfl
    have g8 : gN (H s) 7 0 8 = some 26 := rfl
    dsimp only
    rw [g8, Option.bind_some, a8, Option.bind_some, if_neg e8, t60 (i3n_nneg (by omega)) e2, Option.bind_some, cl_i3 (by omega)]
    unfold jn
    dsimp only
    by_cases r : fi s (28 + 2 * j) 1 = i3 (-1)
    · rw [f150 hj r, Option.bind_some, if_pos e0_0]
      by_cases t : fi s (28 + 2 * j) 3 = i3 (-1)
      · rw [f151 hj t, Option.bind_some, if_pos e0_0]; exact go _
      · rw [t151 hj t, Option.bind_some, if_neg e1_0]; exact go _
    · rw [t150 hj r, Option.bind_some, if_neg e1_0]; exact go _
  · rintro _ ⟨m, rfl⟩ nx ex hex
    have e8 : Int32.ofNat 8 ≤ i3 ((8 : Nat) : Int) := by decide +kernel
    have a8 : aL (H s) 26 = some (Int32.ofNat 8) := rfl
    have g8 : gN (H s) 7 0 8 = some 26 := rfl
    dsimp only
    rw [g8, Option.bind_some, a8, Option.bind_some, if_pos e8]
    exact hex _ trivial
  · intro _ _
    exact T_some trivial
  · exact ⟨_, rfl⟩
theorem ten {w : Int32} (h : ¬ (w < 0 ∨ 9 < w)) : ∃ k : Nat, k < 10 ∧ w = i3 (k : Int) := by
  have a : ¬ w.toInt < 0 := fun e => h (Or.inl (Int32.lt_iff_toInt_lt.mpr e))
  have b : ¬ 9 < w.toInt := fun e => h (Or.inr (Int32.lt_iff_toInt_lt.mpr e))
  refine ⟨w.toInt.toNat, by omega, ?_⟩
  exact i3_cl (fun e => h (Or.inl e))
theorem b_58 (c : CI s) (w : Int32) : ∃ v, CC s (m_58 0 w (H s)) v (abC s) := by
  have quiet : ∀ v : Int32, CC s (some (v, H s)) v (abC s) := fun v => CC.id c v
  unfold m_58
  rw [(r_0 s).1, Option.bind_some]
  by_cases c1 : w < 0 ∨ 9 < w
  · rw [if_pos c1]
    unfold jn
    dsimp only
    have c12 : (Int8.ofInt 12).toInt32 = i3 12 := by decide +kernel
    have c16 : (Int8.ofInt 16).toInt32 = i3 16 := by decide +kernel
    rw [c12, c16]
    by_cases d1 : w < i3 12
    · rw [if_pos d1]; exact ⟨_, quiet _⟩
    rw [if_neg d1]
    by_cases d2 : i3 16 < w
    · rw [if_pos d2]; exact ⟨_, quiet _⟩
    rw [if_neg d2]
    have g9 : gN (H s) 7 0 9 = some 27 := rfl
    have h27 : ∀ i, aI (H s) 27 i = at32 (ia s 27) i := fun i => aI_of rfl
    have a : ¬ w.toInt < 12 := fun e => d1 (Int32.lt_iff_toInt_lt.mpr e)
    have b : ¬ 16 < w.toInt := fun e => d2 (Int32.lt_iff_toInt_lt.mpr e)
    have ew : w - i3 12 = i3 ((w.toInt - 12).toNat : Int) := by
      have e1 : w = i3 w.toInt := (Int32.ofInt_toInt w).symm
      conv => lhs; rw [e1]
      rw [i3_sub]
      congr 1
      omega
    have ea : at32 (ia s 27) (w - i3 12) = some (rd (ia s 27) (w - i3 12)) := by
      rw [ew]
      exact at_rd (i3n_nneg (by omega)) (by rw [cl_i3 (by omega), c.1.2.2]; omega)
    rw [g9, Option.bind_some, h27, ea, Option.bind_some]
    exact ⟨_, quiet _⟩
  · rw [if_neg c1]
    have rows : ∀ (F : Nat × tH → Option (Int32 × tH)), (∀ s1, rowsOK s1 (RL (gd s 1)) → ∃ v, F (16, H s1) = some (v, H s1)) → ∃ v, CC s ((m_63 0 (H s)).bind F) v (abC s) := fun F hF => by
      obtain ⟨s1, e1, q1, r1⟩ := q_63 c.1.1 c.1.2.1
      obtain ⟨v, ev⟩ := hF s1 r1
      rw [e1, Option.bind_some, ev]
      exact ⟨v, s1, rfl, q1.q.eC.ci c, q1.q.eM, q1.q.eC.ab⟩
    obtain ⟨k, hk, rfl⟩ := ten c1
    have F0 : gN (H s) 7 0 0 = some 1 := rfl
    have F7 : gN (H s) 7 0 7 = some 24 := rfl
    match k, hk with
    | 0, _ => rw [if_pos (by decide +kernel), F0]; exact ⟨_, quiet _⟩
    | 1, _ => rw [if_neg (by decide +kernel), if_pos (by decide +kernel), F0]; exact ⟨_, quiet _⟩
    | 2, _ => rw [if_neg (by decide +kernel), if_neg (by decide +kernel), if_pos (by decide +kernel)]; exact rows _ (fun s1 r1 => ⟨_, rfl⟩)
    | 3, _ => rw [if_neg (by decide +kernel), if_neg (by decide +kernel), if_neg (by decide +kernel), if_pos (by decide +kernel), F0, Option.bind_some, q_86 g1 c.1.1, Option.bind_some]; exact ⟨_, quiet _⟩
    | 4, _ => rw [if_neg (by decide +kernel), if_neg (by decide +kernel), if_neg (by decide +kernel), if_neg (by decide +kernel), if_pos (by decide +kernel), F0, Option.bind_some, q_86 g1 c.1.1, Option.bind_some]; exact ⟨_, quiet _⟩
    | 5, _ => rw [if_neg (by decide +kernel), if_neg (by decide +kernel), if_neg (by decide +kernel), if_neg (by decide +kernel), if_neg (by decide +kernel), if_pos (by decide +kernel), F0]; exact ⟨_, quiet _⟩
    | 6, _ => rw [if_neg (by decide +kernel), if_neg (by decide +kernel), if_neg (by decide +kernel), if_neg (by decide +kernel), if_neg (by decide +kernel), if_neg (by decide +kernel), if_pos (by decide +kernel), F7]; exact ⟨_, quiet _⟩
    | 7, _ => rw [if_neg (by decide +kernel), if_neg (by decide +kernel), if_neg (by decide +kernel), if_neg (by decide +kernel), if_neg (by decide +kernel), if_neg (by decide +kernel), if_neg (by decide +kernel), if_pos (by decide +kernel), F0]; exact ⟨_, quiet _⟩
    | 8, _ =>
      rw [if_neg (by decide +kernel), if_neg (by decide +kernel), if_neg (by decide +kernel), if_neg (by decide +kernel), if_neg (by decide +kernel), if_neg (by decide +kernel), if_neg (by decide +kernel), if_neg (by decide +kernel), if_pos (by decide +kernel)]
      obtain ⟨v, ev, -⟩ := q_61 (s := s)
      rw [ev]
      exact ⟨_, quiet v⟩
    | 9, _ =>
      rw [if_neg (by decide +kernel), if_neg (by decide +kernel), if_neg (by decide +kernel), if_neg (by decide +kernel), if_neg (by decide +kernel), if_neg (by decide +kernel), if_neg (by decide +kernel), if_neg (by decide +kernel), if_neg (by decide +kernel), if_pos (by decide +kernel)]
      exact rows _ (fun s1 r1 => ⟨_, by
        dsimp only
        rw [q_106 r1]; rfl⟩)
    | n + 10, h => exact absurd h (by omega)
end CP
