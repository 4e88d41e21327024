/-! ===== the reference's gap ===== -/
section MGP
variable {s : St}
abbrev Gq : Type := Int32 × Int32 × Int64 × Int64
noncomputable def wd (g : Gd) (i t : Nat) : Int64 := Int32.toInt64 (dar g (cA g (f1 g i)) (cA g (f2 g i)) (cA g (i3 (t : Int))))
noncomputable def ln2 (g : Gd) (i : Nat) : Int64 := Int32.toInt64 (sqr g (cA g (f1 g i)) (cA g (f2 g i)))
abbrev gmM (g : Gd) (i t : Nat) : Prop := ¬ kA g (i3 (t : Int)) = i3 4 ∧ ¬ hs (lg (RL g) i) (i3 (t : Int))
noncomputable def gmF (g : Gd) (i t : Nat) (a : Gq) : Gq := if gmM g i t then if a.1 = i3 (-1) then (lg (RL g) i, i3 (t : Int), wd g i t * wd g i t, ln2 g i) else if 0 ≤ lg_cmp (wd g i t * wd g i t * a.2.2.2) (a.2.2.1 * ln2 g i) then a else (lg (RL g) i, i3 (t : Int), wd g i t * wd g i t, ln2 g i) else a
noncomputable def gmI (g : Gd) (i : Nat) (a : Gq) : Gq := itr (gmF g i) (nn g) a
noncomputable def gmA (g : Gd) : Gq := itr (gmI g) (RL g).length (i3 (-1), i3 (-1), Int64.ofNat 0, Int64.ofNat 1)
noncomputable def xGap (g : Gd) (w : Int32) : Int32 := if w < 0 then i3 (-2) else if w ≤ i3 1 then if (gmA g).1 = i3 (-1) then i3 (-5) else if w = 0 then (gmA g).1 else (gmA g).2.1 else i3 (-2)
theorem in01 {w : Int32} : (¬ w < i3 0 ∧ ¬ i3 1 < w) ↔ (¬ w < 0 ∧ w ≤ i3 1) := ⟨fun e => ⟨e.1, Int32.not_lt.mp e.2⟩, fun e => ⟨e.1, Int32.not_lt.mpr e.2⟩⟩
theorem d_30 (c : Mq s) (w : Int32) : Ans s (m_256 44 w (H s)) (xGap (md s 44) w) := by
  unfold m_256 xGap
  have j01 : m_190 (Int32.toInt64 w) (Int64.ofNat 0) (Int64.ofNat 1) (H s) = some (bP (¬ w < i3 0 ∧ ¬ i3 1 < w)) := by
    rw [jc.1, jc.2.1]
    exact q_190 _ _ _ _
  rw [(r_m s).1, Option.bind_some, j01, Option.bind_some, bP_if]
  by_cases c1 : w < 0
  · rw [if_neg (fun e => (in01.mp e).1 c1), if_pos c1, cst.1]
    exact Ans.mf c.2.2 isB2
  rw [if_neg c1]
  by_cases c2 : w ≤ i3 1
  · rw [if_pos (in01.mpr ⟨c1, c2⟩), if_pos c2]
    refine Ans.rwM c (fun s1 c1 m1 r1 => ?_)
    have hl := RL_len c.1
    have h1 : ok (md s1 44) := c1.1
    have hn := c.1.n_le
    have L := lp0 (R := Int32 × tH) (X := Int32 × Int32) (K := fun (x6 : Int32 × Int32) => if x6.1 = (Int32.ofInt (-1)) then (m_189 44 (Int8.ofInt (-5)).toInt32 (H s1)).bind fun q10 => some (q10.1, q10.2) else jn (fun (v7 : Int32) => some (v7, H s1)) (fun j8 => if w = 0 then j8 x6.1 else j8 x6.2)) (RL (md s 44)).length (by omega) (fun t (a : Gq) => (a.1, a.2.1, a.2.2.1, a.2.2.2, t)) (fun a => (a.1, a.2.1)) (gmI (md s 44)) (fun _ => True) (i3 (-1), i3 (-1), Int64.ofNat 0, Int64.ofNat 1) (F := fun (s3 : Int32 × Int32 × Int64 × Int64 × Int32) nx4 ex5 => (gI (H s1) 8 44 27).bind fun x12 => if x12 ≤ s3.2.2.2.2 then ex5 (s3.1, s3.2.1) else (gN (H s1) 8 44 26).bind fun o13 => (aI (H s1) o13 s3.2.2.2.2).bind fun x14 => (m_255 x14 (Int32.ofInt 0) (H s1)).bind fun x15 => (gN (H s1) 8 44 26).bind fun o16 => (aI (H s1) o16 s3.2.2.2.2).bind fun x17 => (m_255 x17 (x15 + (Int32.ofInt 1)) (H s1)).bind fun x18 => (gN (H s1) 8 44 12).bind fun o19 => (aI (H s1) o19 x15).bind fun x20 => (gN (H s1) 8 44 12).bind fun o21 => (aI (H s1) o21 x18).bind fun x22 => (m_238 44 x20 x22 (H s1)).bind fun x23 => lp (fun (s24 : Int32 × Int32 × Int64 × Int64 × Int32) nx25 ex26 => (gI (H s1) 8 44 10).bind fun x28 => if x28 ≤ s24.2.2.2.2 then ex26 (s24.1, s24.2.1, s24.2.2.1, s24.2.2.2.1) else (gN (H s1) 8 44 12).bind fun o29 => (aI (H s1) o29 x15).bind fun x30 => (gN (H s1) 8 44 12).bind fun o31 => (aI (H s1) o31 x18).bind fun x32 => (gN (H s1) 8 44 12).bind fun o33 => (aI (H s1) o33 s24.2.2.2.2).bind fun x34 => (m_235 44 x30 x32 x34 (H s1)).bind fun x35 => (gN (H s1) 8 44 11).bind fun o36 => (aI (H s1) o36 s24.2.2.2.2).bind fun x37 => jn (fun (v38 : Int32) => jn (fun (v40 : Int32 × Int32 × Int64 × Int64) => nx25 (v40.1, v40.2.1, v40.2.2.1, v40.2.2.2, (s24.2.2.2.2 + Int32.ofInt 1))) (fun j41 => if v38 = 0 then j41 (s24.1, s24.2.1, s24.2.2.1, s24.2.2.2.1) else jn (fun (v42 : Unit) => (gN (H s1) 8 44 26).bind fun o44 => (aI (H s1) o44 s3.2.2.2.2).bind fun x45 => j41 (x45, s24.2.2.2.2, ((Int32.toInt64 x35) * (Int32.toInt64 x35)), (Int32.toInt64 x23))) (fun j43 => if s24.1 = (Int32.ofInt (-1)) then j43 () else if 0 ≤ (lg_cmp (((Int32.toInt64 x35) * (Int32.toInt64 x35)) * s24.2.2.2.1) (s24.2.2.1 * (Int32.toInt64 x23))) then j41 (s24.1, s24.2.1, s24.2.2.1, s24.2.2.2.1) else j43 ()))) (fun j39 => jn (fun (v49 : Unit) => j39 (Int32.ofInt 0)) (fun j50 => if x37 = (Int32.ofInt 4) then j50 () else (gN (H s1) 8 44 26).bind fun o51 => (aI (H s1) o51 s3.2.2.2.2).bind fun x52 => (m_195 x52 s24.2.2.2.2 (H s1)).bind fun x53 => if x53 = 0 then j39 (Int32.ofInt 1) else j50 ()))) 4096 (s3.1, s3.2.1, s3.2.2.1, s3.2.2.2.1, (Int32.ofInt 0)) (fun (x27 : Int32 × Int32 × Int64 × Int64) => nx4 (x27.1, x27.2.1, x27.2.2.1, x27.2.2.2, (s3.2.2.2.2 + Int32.ofInt 1)))) ?_ (fun _ _ _ _ => trivial) ?_ trivial
    · refine Eq.mp (congrArg (fun z => Ans s1 z _) L.symm) ?_
      show Ans s1 (if (gmA (md s 44)).1 = i3 (-1) then (m_189 44 (Int8.ofInt (-5)).toInt32 (H s1)).bind fun q10 => some (q10.1, q10.2) else if w = 0 then some ((gmA (md s 44)).1, H s1) else some ((gmA (md s 44)).2.1, H s1)) _
      by_cases d1 : (gmA (md s 44)).1 = i3 (-1)
      · rw [if_pos d1, if_pos d1, cst.2.2.2.1]
        exact Ans.mf c1.2.2 isB5
      · rw [if_neg d1, if_neg d1]
        by_cases d2 : w = 0
        · rw [if_pos d2, if_pos d2]
          exact Ans.id
        · rw [if_neg d2, if_neg d2]
          exact Ans.id
    · intro i a nx ex hi _
      obtain ⟨t1, t2, e1, e2⟩ := RL_two c.1 hi (H s1)
      have t1' : isT (md s1 44) (f1 (md s 44) i) := by rw [m1]; exact t1
      have t2' : isT (md s1 44) (f2 (md s 44) i) := by rw [m1]; exact t2
      have h0 := c.1
      dsimp only
      rw [(r_f s1).2.1, Option.bind_some, if_neg (r1.lt hi), (r_f s1).2.2.1, Option.bind_some, (r_f s1).2.2.2, r1.at hi, Option.bind_some, e1, Option.bind_some, Option.bind_some, (r_f s1).2.2.2, r1.at hi, Option.bind_some, e2, Option.bind_some, (r_g s1).2.2.2.2.2.2.1, Option.bind_some, (r_g s1).2.2.2.2.2.2.2.2.2.2.1, h1.at_c t1', Option.bind_some, Option.bind_some, (r_g s1).2.2.2.2.2.2.2.2.2.2.1, h1.at_c t2', Option.bind_some, q_238 h1, Option.bind_some, m1]
      refine (lp0 (nn (md s 44)) (by omega) (fun t (a : Gq) => (a.1, a.2.1, a.2.2.1, a.2.2.2, t)) (fun a => (a.1, a.2.1, a.2.2.1, a.2.2.2)) (gmF (md s 44) i) (fun _ => True) a ?_ (fun _ _ _ _ => trivial) ?_ trivial).trans rfl
      · intro t b nx2 ex2 ht _
        have hT := h0.T ht
        have hT' : isT (md s1 44) (i3 (t : Int)) := by rw [m1]; exact hT
        dsimp only
        rw [(r_g s1).2.2.1, Option.bind_some, m1, if_neg hT.2, Option.bind_some, (r_g s1).2.2.2.2.2.2.2.2.2.2.1, m1, h0.at_c t1, Option.bind_some, Option.bind_some, (r_g s1).2.2.2.2.2.2.2.2.2.2.1, m1, h0.at_c t2, Option.bind_some, Option.bind_some, (r_g s1).2.2.2.2.2.2.2.2.2.2.1, m1, h0.at_c hT, Option.bind_some, q_235 h1, Option.bind_some, (r_g s1).2.2.2.2.2.1, Option.bind_some, (r_g s1).2.2.2.2.2.2.2.2.2.1, m1, h0.at_k hT, Option.bind_some, jnE, jnE]
        dsimp only
        unfold gmF wd ln2
        by_cases d1 : kA (md s 44) (i3 (t : Int)) = i3 4
        · rw [if_pos (show _ = Int32.ofInt 4 from d1), jnE, if_pos (show Int32.ofInt 0 = 0 from rfl), if_neg (show ¬ gmM (md s 44) i t from fun e => e.1 d1)]
        rw [if_neg (show ¬ _ = Int32.ofInt 4 from d1), Option.bind_some, (r_f s1).2.2.2, r1.at hi, Option.bind_some, q_195, Option.bind_some, bP_if]
        by_cases d2 : hs (lg (RL (md s 44)) i) (i3 (t : Int))
        · rw [if_pos d2, jnE, if_pos (show Int32.ofInt 0 = 0 from rfl), if_neg (show ¬ gmM (md s 44) i t from fun e => e.2 d2)]
        rw [if_neg d2, jnE, if_neg e1_0, if_pos (show gmM (md s 44) i t from ⟨d1, d2⟩), jnE]
        by_cases d3 : b.1 = i3 (-1)
        · rw [if_pos (show b.1 = Int32.ofInt (-1) from d3), if_pos d3, Option.bind_some, (r_f s1).2.2.2, r1.at hi, Option.bind_some]
        rw [if_neg (show ¬ b.1 = Int32.ofInt (-1) from d3), if_neg d3]
        split
        · rfl
        · rw [Option.bind_some, (r_f s1).2.2.2, r1.at hi, Option.bind_some]
      · intro a nx2 ex2 _
        dsimp only
        rw [(r_g s1).2.2.1, Option.bind_some, m1, if_pos (h0.Te (Nat.le_refl _) (by omega))]
    · intro a nx ex _
      dsimp only
      rw [(r_f s1).2.1, Option.bind_some, if_pos (r1.ge (Nat.le_refl _) (show (RL (md s 44)).length ≤ 1000 by omega))]
  · rw [if_neg (fun e => c2 (in01.mp e).2), if_neg c2, cst.1]
    exact Ans.mf c.2.2 isB2
end MGP
