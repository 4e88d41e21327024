/-! ===== the reference: judge, says, status come to an end ===== -/
section MS3
variable {s : St}
theorem MC.idA (c : MI s) (v : Int32) : MC s (some (v, H s)) v (abM s) := MC.id c v
theorem e_27 (c : MI s) (x n : Int32) : ∃ v, MC s (m_254 44 x n (H s)) v (abM s) := by
  obtain ⟨l1, l2, l3, l4⟩ := c.2.1
  have h := c.1.1
  unfold m_254
  rw [(r_m s).1, Option.bind_some, j07, Option.bind_some, jnE, bP_if]
  by_cases c1 : ¬ x < 0 ∧ x < i3 8
  · rw [if_pos c1, j012, Option.bind_some, bP_if]
    by_cases c2 : ¬ n < 0 ∧ n ≤ i3 12
    · have hk := sh_nat c1.1 c1.2
      have n12 : n.toNatClampNeg ≤ 12 := le_cl (b := 12) (by omega) c2.1 c2.2
      have en := i3_cl c2.1
      obtain ⟨w, s1, e1, q1, hw⟩ := q_201 c x
      rw [if_pos c2, e1, Option.bind_some]
      dsimp only
      rcases hw with ⟨rfl, rfl, c3, c4, c5⟩ | ⟨w0, hn⟩
      · obtain ⟨d1, d2, d3, d4⟩ := c.2.2.2.2 _ hk
        rw [if_pos rfl, (n_0 s1).2.2.1, Option.bind_some, (a_m s1).2.2.1, at_sh l3 c1.1 c1.2, Option.bind_some]
        by_cases c6 : n ≤ lg (ia s1 47) x.toNatClampNeg
        · rw [if_pos c6]
          have rows : ∀ k : Nat, k < 40 → aJ (H s1) (49 + x.toNatClampNeg) (i3 (k : Int)) = some ((la s1 (49 + x.toNatClampNeg)).getD k 0) := fun k hk => by
            rw [(r_L (r_o s1 c1.1 c1.2).2 s1).1, at64_lg (by omega) (by omega)]
          generalize (la s1 (49 + x.toNatClampNeg)) = R at rows
          suffices T (lp (fun (s9 : Int32 × Int32) nx10 ex11 => if n ≤ s9.2 then ex11 () else (gN (H s1) 8 44 3).bind fun o13 => (aN (H s1) o13 x).bind fun o14 => (aJ (H s1) o14 s9.2).bind fun x15 => (gI (H s1) 8 44 10).bind fun x16 => (m_190 x15 (Int64.ofNat 0) (Int32.toInt64 (x16 - (Int32.ofInt 1))) (H s1)).bind fun x17 => jn (fun (v18 : Unit) => some (s9.2, H s1)) (fun j19 => if x17 = 0 then j19 () else (m_195 s9.1 (Int64.toInt32 x15) (H s1)).bind fun x20 => if x20 = 0 then (gN (H s1) 8 44 11).bind fun o21 => (aI (H s1) o21 (Int64.toInt32 x15)).bind fun x22 => if x22 = (Int32.ofInt 4) then j19 () else jn (fun (v23 : Unit) => nx10 ((s9.1 ||| ((Int32.ofInt 1) <<< ((Int64.toInt32 x15) &&& 31))), (s9.2 + Int32.ofInt 1))) (fun j24 => if s9.2 ≤ (Int32.ofInt 1) then j24 () else (gN (H s1) 8 44 12).bind fun o25 => (gN (H s1) 8 44 3).bind fun o26 => (aN (H s1) o26 x).bind fun o27 => (aJ (H s1) o27 (Int32.ofInt 0)).bind fun x28 => (aI (H s1) o25 (Int64.toInt32 x28)).bind fun x29 => (gN (H s1) 8 44 12).bind fun o30 => (gN (H s1) 8 44 3).bind fun o31 => (aN (H s1) o31 x).bind fun o32 => (aJ (H s1) o32 (Int32.ofInt 1)).bind fun x33 => (aI (H s1) o30 (Int64.toInt32 x33)).bind fun x34 => (gN (H s1) 8 44 12).bind fun o35 => (aI (H s1) o35 (Int64.toInt32 x15)).bind fun x36 => (m_236 44 x29 x34 x36 (H s1)).bind fun x37 => if x37 = 0 then some (s9.2, H s1) else j24 ()) else j19 ())) 4096 ((Int32.ofInt 0), (Int32.ofInt 0)) (fun (x12 : Unit) => some ((Int32.ofInt (-1)), H s1))) (fun r => ∃ w, r = (w, H s1)) by
            obtain ⟨_, e, w, rfl⟩ := this
            exact ⟨w, Eq.mp (congrArg (fun z => MC s1 z w _) e.symm) (MC.idA c w)⟩
          refine lpH n.toNatClampNeg (fun k q => ∃ m, q = (m, i3 (k : Int)) ∧ ∀ j, j < k → isT (md s1 44) (Int64.toInt32 (R.getD j 0))) (fun _ => True) ?_ ?_ ?_ ?_ (by omega)
          · rintro k _ hk2 ⟨m, rfl, hm⟩ nx ex hnx hex
            have e0 : ¬ n ≤ i3 (k : Int) := by rw [en]; exact nle hk2 (by omega)
            have st : T (some (i3 (k : Int), H s1)) (fun r => ∃ w, r = (w, H s1)) := T_some ⟨_, rfl⟩
            dsimp only
            rw [if_neg e0, (n_0 s1).2.2.2.1, Option.bind_some, (r_o s1 c1.1 c1.2).1, Option.bind_some, rows k (by omega), Option.bind_some, (r_g s1).2.2.1, Option.bind_some, q_190v h, Option.bind_some, jnE, bP_if]
            by_cases f1 : jT (md s1 44) (R.getD k 0)
            · have hT := jT_T h f1
              have go : ∀ m', T (nx (m', i3 (k : Int) + Int32.ofInt 1)) (fun r => ∃ w, r = (w, H s1)) := fun m' => hnx _ ⟨m', by rw [i3_nat_add], fun j hj => by
                by_cases e : j = k
                · rw [e]; exact hT
                · exact hm j (by omega)⟩
              rw [if_pos f1, q_195, Option.bind_some, bP_if]
              by_cases f2 : hs m (Int64.toInt32 (R.getD k 0))
              · rw [if_pos f2]; exact st
              rw [if_neg f2, (r_g s1).2.2.2.2.2.1, Option.bind_some, (r_g s1).2.2.2.2.2.2.2.2.2.1, h.at_k hT, Option.bind_some]
              by_cases f3 : kA (md s1 44) (Int64.toInt32 (R.getD k 0)) = i3 4
              · rw [if_pos (show _ = Int32.ofInt 4 from f3)]; exact st
              rw [if_neg (show ¬ _ = Int32.ofInt 4 from f3), jnE]
              by_cases f4 : i3 (k : Int) ≤ i3 ((1 : Nat) : Int)
              · rw [if_pos (show i3 (k : Int) ≤ Int32.ofInt 1 from f4)]
                exact go _
              have k2 : 1 < k := by
                rw [i3n_le (by omega) (by omega)] at f4
                omega
              have r0 : aJ (H s1) (49 + x.toNatClampNeg) (Int32.ofInt 0) = some (R.getD 0 0) := rows 0 (by omega)
              have r1 : aJ (H s1) (49 + x.toNatClampNeg) (Int32.ofInt 1) = some (R.getD 1 0) := rows 1 (by omega)
              rw [if_neg (show ¬ i3 (k : Int) ≤ Int32.ofInt 1 from f4), (r_g s1).2.2.2.2.2.2.1, Option.bind_some, Option.bind_some, (r_o s1 c1.1 c1.2).1, Option.bind_some, r0, Option.bind_some, (r_g s1).2.2.2.2.2.2.2.2.2.2.1, h.at_c (hm 0 (by omega)), Option.bind_some, Option.bind_some, Option.bind_some, (r_o s1 c1.1 c1.2).1, Option.bind_some, r1, Option.bind_some, (r_g s1).2.2.2.2.2.2.2.2.2.2.1, h.at_c (hm 1 (by omega)), Option.bind_some, Option.bind_some, (r_g s1).2.2.2.2.2.2.2.2.2.2.1, h.at_c hT, Option.bind_some, q_236 h, Option.bind_some, bP_if]
              split
              · exact go _
              · exact st
            · rw [if_neg f1]; exact st
          · rintro _ ⟨m, rfl, hm⟩ nx ex hex
            dsimp only
            rw [if_pos (by rw [← en]; exact Int32.le_refl _)]
            exact hex _ trivial
          · intro _ _
            exact T_some ⟨_, rfl⟩
          · exact ⟨_, rfl, fun j hj => absurd hj (Nat.not_lt_zero _)⟩
        · rw [if_neg c6, cst.1]
          exact ⟨_, MC.refA c isB2⟩
      · rw [if_neg w0]
        exact ⟨w, s1, rfl, q1.eM.mi c, q1.eC, q1.eM.ab c.2.2.2.1.1⟩
    · rw [if_neg c2, cst.1]
      exact ⟨_, MC.refA c isB2⟩
  · rw [if_neg c1, cst.1]
    exact ⟨_, MC.refA c isB2⟩
theorem q_208 (a b : Int32) (th : tH) : m_208 a b th = some (bP (kOf a b)) := by
  unfold m_208 jn bP kOf
  dsimp only
  by_cases c1 : b = 0
  · rw [if_pos c1, if_pos (Or.inr (Or.inl c1))]; rfl
  rw [if_neg c1]
  by_cases c2 : a = b
  · rw [if_pos c2, if_pos (Or.inl c2)]; rfl
  rw [if_neg c2]
  by_cases c3 : b = i3 1
  · rw [if_pos (show b = Int32.ofInt 1 from c3)]
    have n2 : ¬ b = Int32.ofInt 2 := by rw [c3]; decide +kernel
    rw [if_neg n2]
    by_cases c4 : a = i3 3
    · rw [if_pos (show a = Int32.ofInt 3 from c4), if_pos (Or.inr (Or.inr (Or.inl ⟨c4, c3⟩)))]; rfl
    · rw [if_neg (show ¬ a = Int32.ofInt 3 from c4), if_neg]
      · rfl
      · rintro (e | e | ⟨e, -⟩ | ⟨-, e⟩)
        · exact c2 e
        · exact c1 e
        · exact c4 e
        · exact n2 e
  · rw [if_neg (show ¬ b = Int32.ofInt 1 from c3)]
    by_cases c5 : b = i3 2
    · rw [if_pos (show b = Int32.ofInt 2 from c5)]
      by_cases c6 : a = i3 5
      · rw [if_pos (show a = Int32.ofInt 5 from c6), if_pos (Or.inr (Or.inr (Or.inr ⟨c6, c5⟩)))]; rfl
      · rw [if_neg (show ¬ a = Int32.ofInt 5 from c6), if_neg]
        · rfl
        · rintro (e | e | ⟨-, e⟩ | ⟨e, -⟩)
          · exact c2 e
          · exact c1 e
          · exact c3 e
          · exact c6 e
    · rw [if_neg (show ¬ b = Int32.ofInt 2 from c5), if_neg]
      · rfl
      · rintro (e | e | ⟨-, e⟩ | ⟨-, e⟩)
        · exact c2 e
        · exact c1 e
        · exact c3 e
        · exact c5 e
theorem e_8 (c : MI s) (x w : Int32) : ∃ v, MC s (m_209 44 x w (H s)) v (abM s) := by
  obtain ⟨l1, l2, l3, l4⟩ := c.2.1
  have h := c.1.1
  have hn := h.n_le
  unfold m_209
  rw [(r_m s).1, Option.bind_some, j07, Option.bind_some, jnE, bP_if]
  by_cases c1 : ¬ x < 0 ∧ x < i3 8
  · rw [if_pos c1, j05, Option.bind_some, bP_if]
    by_cases c2 : ¬ w < 0 ∧ w ≤ i3 5
    · have hk := sh_nat c1.1 c1.2
      obtain ⟨d1, d2, d3, d4⟩ := c.2.2.2.2 _ hk
      rw [if_pos c2, (n_0 s).1, Option.bind_some, (a_m s).1, at_sh l1 c1.1 c1.2, Option.bind_some, jnE]
      by_cases c3 : lg (ia s 45) x.toNatClampNeg = i3 1
      · rw [if_pos (show _ = Int32.ofInt 1 from c3), cst.2.1]
        exact ⟨_, MC.refA c isB3⟩
      rw [if_neg (show ¬ _ = Int32.ofInt 1 from c3), Option.bind_some, (a_m s).1, at_sh l1 c1.1 c1.2, Option.bind_some, jnE]
      by_cases c4 : lg (ia s 45) x.toNatClampNeg = i3 2
      · have hT := d4 c4
        have n0 : ¬ lg (ia s 45) x.toNatClampNeg = 0 := by rw [c4]; decide +kernel
        rw [if_pos (show _ = Int32.ofInt 2 from c4), (r_g s).2.2.2.2.2.1, Option.bind_some, (n_0 s).2.2.2.2.2, Option.bind_some, (a_m s).2.2.2.1, at_sh l4 c1.1 c1.2, Option.bind_some, (r_g s).2.2.2.2.2.2.2.2.2.1, h.at_k hT, Option.bind_some, q_208, Option.bind_some, bP_if]
        by_cases c5 : kOf (kA (md s 44) (lg (ia s 58) x.toNatClampNeg)) w
        · rw [if_pos c5, Option.bind_some, (a_m s).1, at_sh l1 c1.1 c1.2, Option.bind_some, if_neg n0, Option.bind_some, (a_m s).2.2.2.1, at_sh l4 c1.1 c1.2, Option.bind_some]
          generalize lg (ia s 58) x.toNatClampNeg = t at hT
          have eV : ((gN (H s) 8 44 13).bind fun o20 => (aI (H s) o20 t).bind fun x21 => some (x21, H s)) = some (vA (md s 44) t, H s) := by
            rw [(r_g s).2.2.2.2.2.2.2.1, Option.bind_some, (r_g s).2.2.2.2.2.2.2.2.2.2.2.1, h.at_v hT, Option.bind_some]
          rcases six c2.1 c2.2 with rfl | rfl | rfl | rfl | rfl | rfl
          · rw [if_neg (by decide +kernel), if_pos rfl]
            obtain ⟨s1, e1, f1⟩ := q_242 h c.1.2.1 hT (Int32.ofInt 3)
            rw [e1, Option.bind_some]
            exact ⟨_, (f1.ans).mc c⟩
          · rw [if_neg (by decide +kernel), if_neg (by decide +kernel), if_pos rfl, q_210 h hT, Option.bind_some]
            exact ⟨_, MC.idA c _⟩
          · rw [if_neg (by decide +kernel), if_neg (by decide +kernel), if_neg (by decide +kernel), if_pos rfl]
            suffices T (lp (fun (s27 : Int32 × Int32) nx28 ex29 => (gI (H s) 8 44 10).bind fun x31 => if x31 ≤ s27.2 then ex29 s27.1 else jn (fun (v32 : Int32 × Int32) => nx28 ((v32.2 + v32.1), (s27.2 + Int32.ofInt 1))) (fun j33 => jn (fun (v34 : Int32) => j33 ((Int32.ofInt 0), v34)) (fun j35 => if s27.2 = t then j35 s27.1 else (gN (H s) 8 44 12).bind fun o36 => (aI (H s) o36 s27.2).bind fun x37 => (m_272 44 t x37 (H s)).bind fun x38 => if x38 = (Int32.ofInt (-1)) then j33 ((Int32.ofInt 1), s27.1) else j35 s27.1))) 4096 ((Int32.ofInt 0), (Int32.ofInt 0)) (fun (x30 : Int32) => some (x30, H s))) (fun r => ∃ w, r = (w, H s)) by
              obtain ⟨_, e, w, rfl⟩ := this
              exact ⟨w, Eq.mp (congrArg (fun z => MC s z w _) e.symm) (MC.idA c w)⟩
            refine lpH (nn (md s 44)) (fun k q => ∃ m, q = (m, i3 (k : Int))) (fun _ => True) ?_ ?_ ?_ ?_ (by omega)
            · rintro k _ hk2 ⟨m, rfl⟩ nx ex hnx hex
              have go : ∀ m', T (nx (m', i3 (k : Int) + Int32.ofInt 1)) (fun r => ∃ w, r = (w, H s)) := fun m' => hnx _ ⟨m', by rw [i3_nat_add]⟩
              dsimp only
              rw [(r_g s).2.2.1, Option.bind_some, if_neg (h.T hk2).2, jnE, jnE]
              split
              · exact go _
              · rw [(r_g s).2.2.2.2.2.2.1, Option.bind_some, (r_g s).2.2.2.2.2.2.2.2.2.2.1, h.at_c (h.T hk2), Option.bind_some, q_272 h hT, Option.bind_some]
                split
                · exact go _
                · exact go _
            · rintro _ ⟨m, rfl⟩ nx ex hex
              dsimp only
              rw [(r_g s).2.2.1, Option.bind_some, if_pos (h.Te (Nat.le_refl _) (by have := h.n_le; omega))]
              exact hex _ trivial
            · intro _ _
              exact T_some ⟨_, rfl⟩
            · exact ⟨_, rfl⟩
          · rw [if_neg (by decide +kernel), if_neg (by decide +kernel), if_neg (by decide +kernel), if_neg (by decide +kernel), if_pos rfl, eV]
            exact ⟨_, MC.idA c _⟩
          · rw [if_neg (by decide +kernel), if_neg (by decide +kernel), if_neg (by decide +kernel), if_neg (by decide +kernel), if_neg (by decide +kernel), if_pos rfl]
            suffices T (lp (fun (s46 : Int32 × Int32) nx47 ex48 => (gI (H s) 8 44 10).bind fun x50 => if x50 ≤ s46.2 then ex48 s46.1 else jn (fun (v51 : Int32) => jn (fun (v53 : Int32) => nx47 (v53, (s46.2 + Int32.ofInt 1))) (fun j54 => jn (fun (v55 : Unit) => j54 s46.1) (fun j56 => if s46.2 = t then j56 () else jn (fun (v57 : Unit) => j54 v51) (fun j58 => if s46.1 = 0 then j58 () else if s46.1 ≤ v51 then j56 () else j58 ())))) (fun j52 => if s46.2 = t then j52 (Int32.ofInt 0) else (gN (H s) 8 44 12).bind fun o62 => (aI (H s) o62 t).bind fun x63 => (gN (H s) 8 44 12).bind fun o64 => (aI (H s) o64 s46.2).bind fun x65 => (m_237 44 x63 x65 (H s)).bind fun x66 => j52 x66)) 4096 ((Int32.ofInt 0), (Int32.ofInt 0)) (fun (x49 : Int32) => some (x49, H s))) (fun r => ∃ w, r = (w, H s)) by
              obtain ⟨_, e, w, rfl⟩ := this
              exact ⟨w, Eq.mp (congrArg (fun z => MC s z w _) e.symm) (MC.idA c w)⟩
            refine lpH (nn (md s 44)) (fun k q => ∃ m, q = (m, i3 (k : Int))) (fun _ => True) ?_ ?_ ?_ ?_ (by omega)
            · rintro k _ hk2 ⟨m, rfl⟩ nx ex hnx hex
              have go : ∀ m', T (nx (m', i3 (k : Int) + Int32.ofInt 1)) (fun r => ∃ w, r = (w, H s)) := fun m' => hnx _ ⟨m', by rw [i3_nat_add]⟩
              dsimp only
              rw [(r_g s).2.2.1, Option.bind_some, if_neg (h.T hk2).2, jnE]
              by_cases f1 : i3 (k : Int) = t
              · rw [if_pos f1]
                dsimp only [jn]
                rw [if_pos f1]
                exact go _
              · rw [if_neg f1, (r_g s).2.2.2.2.2.2.1, Option.bind_some, (r_g s).2.2.2.2.2.2.2.2.2.2.1, h.at_c hT, Option.bind_some, Option.bind_some, (r_g s).2.2.2.2.2.2.2.2.2.2.1, h.at_c (h.T hk2), Option.bind_some, q_237 h, Option.bind_some]
                dsimp only [jn]
                rw [if_neg f1]
                split
                · exact go _
                · split
                  · exact go _
                  · exact go _
            · rintro _ ⟨m, rfl⟩ nx ex hex
              dsimp only
              rw [(r_g s).2.2.1, Option.bind_some, if_pos (h.Te (Nat.le_refl _) (by have := h.n_le; omega))]
              exact hex _ trivial
            · intro _ _
              exact T_some ⟨_, rfl⟩
            · exact ⟨_, rfl⟩
          · rw [if_pos (by decide +kernel), eV]
            exact ⟨_, MC.idA c _⟩
        · rw [if_neg c5, cst.2.1]
          exact ⟨_, MC.refA c isB3⟩
      · have n0 : lg (ia s 45) x.toNatClampNeg = 0 := by
          rcases d2 with e | e | e
          · exact e
          · exact absurd e c3
          · exact absurd e c4
        rw [if_neg (show ¬ _ = Int32.ofInt 2 from c4), Option.bind_some, (a_m s).1, at_sh l1 c1.1 c1.2, Option.bind_some, if_pos n0, cst.2.2.1]
        exact ⟨_, MC.refA c isB4⟩
    · rw [if_neg c2, cst.1]
      exact ⟨_, MC.refA c isB2⟩
  · rw [if_neg c1, cst.1]
    exact ⟨_, MC.refA c isB2⟩
theorem e_58 (c : MI s) (w : Int32) : ∃ v, MC s (m_303 44 w (H s)) v (abM s) := by
  obtain ⟨l1, l2, l3, l4⟩ := c.2.1
  have h := c.1.1
  have hn := h.n_le
  have quiet : ∀ v : Int32, MC s (some (v, H s)) v (abM s) := fun v => MC.idA c v
  unfold m_303
  rw [(r_m s).1, Option.bind_some]
  by_cases c1 : w < 0 ∨ 9 < w
  · rw [if_pos c1]
    have c10 : (Int8.ofInt 10).toInt32 = i3 10 := by decide +kernel
    have e12 : Int64.ofNat 12 = Int32.toInt64 (i3 12) := jc.2.2.2.2.2.2.2.2.2.1
    have e16 : Int64.ofNat 16 = Int32.toInt64 (i3 16) := jc.2.2.2.2.2.2.2.2.2.2.1
    rw [e12, e16, q_190, Option.bind_some, jnE, bP_if, c10]
    by_cases d1 : ¬ w < i3 12 ∧ ¬ i3 16 < w
    · rw [if_pos d1]
      have g8 : gN (H s) 8 44 8 = some 60 := rfl
      have h60 : ∀ i, aI (H s) 60 i = at32 (ia s 60) i := fun i => aI_of rfl
      have a : ¬ w.toInt < 12 := fun e => d1.1 (Int32.lt_iff_toInt_lt.mpr e)
      have b : ¬ 16 < w.toInt := fun e => d1.2 (Int32.lt_iff_toInt_lt.mpr e)
      have ew : w - i3 10 = i3 ((w.toInt - 10).toNat : Int) := by
        have e1 : w = i3 w.toInt := (Int32.ofInt_toInt w).symm
        conv => lhs; rw [e1]
        rw [i3_sub]
        congr 1
        omega
      have ea : at32 (ia s 60) (w - i3 10) = some (rd (ia s 60) (w - i3 10)) := by
        rw [ew]
        exact at_rd (i3n_nneg (by omega)) (by rw [cl_i3 (by omega), c.1.2.2]; omega)
      rw [g8, Option.bind_some, h60, ea, Option.bind_some]
      exact ⟨_, quiet _⟩
    · rw [if_neg d1]
      exact ⟨_, quiet _⟩
  · rw [if_neg c1]
    obtain ⟨k, hk, rfl⟩ := ten c1
    have e : ∀ j : Nat, j < 10 → ((i3 (k : Int) = i3 (j : Int)) ↔ k = j) := fun j hj => i3n_inj (by omega) (by omega)
    have P : ∀ (j : Nat) (α : Type) (a b : Option α), j < 10 → k = j → (if i3 (k : Int) = i3 (j : Int) then a else b) = a := fun j α a b hj ej => if_pos ((e j hj).mpr ej)
    have N : ∀ (j : Nat) (α : Type) (a b : Option α), j < 10 → ¬ k = j → (if i3 (k : Int) = i3 (j : Int) then a else b) = b := fun j α a b hj ej => if_neg (fun q => ej ((e j hj).mp q))
    by_cases k0 : k = 0
    · refine Exists.imp (fun v hv => Eq.mp (congrArg (fun z => MC s z v _) (P 0 _ _ _ (by omega) k0).symm) hv) ?_
      exact ⟨_, quiet _⟩
    by_cases k1 : k = 1
    · refine Exists.imp (fun v hv => Eq.mp (congrArg (fun z => MC s z v _) ((N 0 _ _ _ (by omega) k0).trans (P 1 _ _ _ (by omega) k1)).symm) hv) ?_
      exact ⟨_, quiet _⟩
    by_cases k2 : k = 2
    · refine Exists.imp (fun v hv => Eq.mp (congrArg (fun z => MC s z v _) (((N 0 _ _ _ (by omega) k0).trans (N 1 _ _ _ (by omega) k1)).trans (P 2 _ _ _ (by omega) k2)).symm) hv) ?_
      obtain ⟨s1, e1, q1, r1, f1⟩ := q_240 h c.1.2.1
      rw [e1, Option.bind_some, (r_f s1).2.1, Option.bind_some]
      exact ⟨_, s1, rfl, q1.q.eM.mi c, q1.q.eC, q1.q.eM.ab c.2.2.2.1.1⟩
    by_cases k3 : k = 3
    · refine Exists.imp (fun v hv => Eq.mp (congrArg (fun z => MC s z v _) ((((N 0 _ _ _ (by omega) k0).trans (N 1 _ _ _ (by omega) k1)).trans (N 2 _ _ _ (by omega) k2)).trans (P 3 _ _ _ (by omega) k3)).symm) hv) ?_
      suffices T (lp (fun (s16 : Int32 × Int32) nx17 ex18 => (gI (H s) 8 44 10).bind fun x20 => if x20 ≤ s16.2 then ex18 s16.1 else (gN (H s) 8 44 11).bind fun o21 => (aI (H s) o21 s16.2).bind fun x22 => jn (fun (v23 : Int32 × Int32) => nx17 ((v23.2 + v23.1), (s16.2 + Int32.ofInt 1))) (fun j24 => if x22 = (Int32.ofInt 4) then j24 ((Int32.ofInt 1), s16.1) else j24 ((Int32.ofInt 0), s16.1))) 4096 ((Int32.ofInt 0), (Int32.ofInt 0)) (fun (x19 : Int32) => some (x19, H s))) (fun r => ∃ w, r = (w, H s)) by
        obtain ⟨_, e, w, rfl⟩ := this
        exact ⟨w, Eq.mp (congrArg (fun z => MC s z w _) e.symm) (quiet w)⟩
      refine lpH (nn (md s 44)) (fun k q => ∃ m, q = (m, i3 (k : Int))) (fun _ => True) ?_ ?_ ?_ ?_ (by omega)
      · rintro k _ hk2 ⟨m, rfl⟩ nx ex hnx hex
        dsimp only
        rw [(r_g s).2.2.1, Option.bind_some, if_neg (h.T hk2).2, (r_g s).2.2.2.2.2.1, Option.bind_some, (r_g s).2.2.2.2.2.2.2.2.2.1, h.at_k (h.T hk2), Option.bind_some, jnE]
        split
        · exact hnx _ ⟨_, by rw [i3_nat_add]⟩
        · exact hnx _ ⟨_, by rw [i3_nat_add]⟩
      · rintro _ ⟨m, rfl⟩ nx ex hex
        dsimp only
        rw [(r_g s).2.2.1, Option.bind_some, if_pos (h.Te (Nat.le_refl _) (by have := h.n_le; omega))]
        exact hex _ trivial
      · intro _ _
        exact T_some ⟨_, rfl⟩
      · exact ⟨_, rfl⟩
    by_cases k4 : k = 4
    · refine Exists.imp (fun v hv => Eq.mp (congrArg (fun z => MC s z v _) (((((N 0 _ _ _ (by omega) k0).trans (N 1 _ _ _ (by omega) k1)).trans (N 2 _ _ _ (by omega) k2)).trans (N 3 _ _ _ (by omega) k3)).trans (P 4 _ _ _ (by omega) k4)).symm) hv) ?_
      rw [q_292 h, Option.bind_some]
      exact ⟨_, quiet _⟩
    by_cases k5 : k = 5
    · refine Exists.imp (fun v hv => Eq.mp (congrArg (fun z => MC s z v _) ((((((N 0 _ _ _ (by omega) k0).trans (N 1 _ _ _ (by omega) k1)).trans (N 2 _ _ _ (by omega) k2)).trans (N 3 _ _ _ (by omega) k3)).trans (N 4 _ _ _ (by omega) k4)).trans (P 5 _ _ _ (by omega) k5)).symm) hv) ?_
      exact ⟨_, quiet _⟩
    by_cases k6 : k = 6
    · refine Exists.imp (fun v hv => Eq.mp (congrArg (fun z => MC s z v _) (((((((N 0 _ _ _ (by omega) k0).trans (N 1 _ _ _ (by omega) k1)).trans (N 2 _ _ _ (by omega) k2)).trans (N 3 _ _ _ (by omega) k3)).trans (N 4 _ _ _ (by omega) k4)).trans (N 5 _ _ _ (by omega) k5)).trans (P 6 _ _ _ (by omega) k6)).symm) hv) ?_
      exact ⟨_, quiet _⟩
    by_cases k7 : k = 7
    · refine Exists.imp (fun v hv => Eq.mp (congrArg (fun z => MC s z v _) ((((((((N 0 _ _ _ (by omega) k0).trans (N 1 _ _ _ (by omega) k1)).trans (N 2 _ _ _ (by omega) k2)).trans (N 3 _ _ _ (by omega) k3)).trans (N 4 _ _ _ (by omega) k4)).trans (N 5 _ _ _ (by omega) k5)).trans (N 6 _ _ _ (by omega) k6)).trans (P 7 _ _ _ (by omega) k7)).symm) hv) ?_
      exact ⟨_, quiet _⟩
    by_cases k8 : k = 8
    · refine Exists.imp (fun v hv => Eq.mp (congrArg (fun z => MC s z v _) (((((((((N 0 _ _ _ (by omega) k0).trans (N 1 _ _ _ (by omega) k1)).trans (N 2 _ _ _ (by omega) k2)).trans (N 3 _ _ _ (by omega) k3)).trans (N 4 _ _ _ (by omega) k4)).trans (N 5 _ _ _ (by omega) k5)).trans (N 6 _ _ _ (by omega) k6)).trans (N 7 _ _ _ (by omega) k7)).trans (P 8 _ _ _ (by omega) k8)).symm) hv) ?_
      have c8 : (Int8.ofInt 8).toInt32 = i3 ((8 : Nat) : Int) := by decide +kernel
      rw [c8]
      suffices T (lp (fun (s36 : Int32 × Int32) nx37 ex38 => if i3 ((8 : Nat) : Int) ≤ s36.2 then ex38 s36.1 else (gN (H s) 8 44 0).bind fun o40 => (aI (H s) o40 s36.2).bind fun x41 => jn (fun (v42 : Int32 × Int32) => nx37 ((v42.2 + v42.1), (s36.2 + Int32.ofInt 1))) (fun j43 => if x41 = 0 then j43 ((Int32.ofInt 0), s36.1) else j43 ((Int32.ofInt 1), s36.1))) 4096 ((Int32.ofInt 0), (Int32.ofInt 0)) (fun (x39 : Int32) => some (x39, H s))) (fun r => ∃ w, r = (w, H s)) by
        obtain ⟨_, e, w, rfl⟩ := this
        exact ⟨w, Eq.mp (congrArg (fun z => MC s z w _) e.symm) (quiet w)⟩
      refine lpH 8 (fun k q => ∃ m, q = (m, i3 (k : Int))) (fun _ => True) ?_ ?_ ?_ ?_ (by omega)
      · rintro k _ hk2 ⟨m, rfl⟩ nx ex hnx hex
        dsimp only
        rw [if_neg (nle hk2 (by omega)), (n_0 s).1, Option.bind_some, (a_m s).1, at_lg (by omega) (by omega), Option.bind_some, jnE]
        split
        · exact hnx _ ⟨_, by rw [i3_nat_add]⟩
        · exact hnx _ ⟨_, by rw [i3_nat_add]⟩
      · rintro _ ⟨m, rfl⟩ nx ex hex
        dsimp only
        rw [if_pos (Int32.le_refl _)]
        exact hex _ trivial
      · intro _ _
        exact T_some ⟨_, rfl⟩
      · exact ⟨_, rfl⟩
    have k9 : k = 9 := by omega
    refine Exists.imp (fun v hv => Eq.mp (congrArg (fun z => MC s z v _) ((((((((((N 0 _ _ _ (by omega) k0).trans (N 1 _ _ _ (by omega) k1)).trans (N 2 _ _ _ (by omega) k2)).trans (N 3 _ _ _ (by omega) k3)).trans (N 4 _ _ _ (by omega) k4)).trans (N 5 _ _ _ (by omega) k5)).trans (N 6 _ _ _ (by omega) k6)).trans (N 7 _ _ _ (by omega) k7)).trans (N 8 _ _ _ (by omega) k8)).trans (P 9 _ _ _ (by omega) k9)).symm) hv) ?_
    obtain ⟨s1, e1, f1⟩ := q_243 h c.1.2.1
    rw [e1, Option.bind_some]
    exact ⟨_, (f1.ans).mc c⟩
end MS3
