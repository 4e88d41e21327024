/-! ===== the reference's views and corners ===== -/
section ME
variable {s : St}
abbrev seM (g : Gd) (c : Int32) (k : Nat) : Prop := ¬ cA g (i3 (k : Int)) = c ∧ hidM g (i3 (k : Int)) c = i3 (-1)
noncomputable def vmF (g : Gd) (c : Int32) (k : Nat) (m : Int32) : Int32 := if seM g c k then m ||| bit (i3 (k : Int)) else m
noncomputable def vwM (g : Gd) (c : Int32) : Int32 := itr (vmF g c) (nn g) (i3 0)
theorem q_273 (h : ok (md s 44)) (c : Int32) : m_273 44 c (H s) = some (vwM (md s 44) c) := by
  unfold m_273
  rw [(r_m s).1, Option.bind_some]
  refine (lp0 (nn (md s 44)) (by have := h.n_le; omega) (fun t a => (a, t)) (fun a => a) (vmF (md s 44) c) (fun _ => True) (i3 0) ?_ (fun _ _ _ _ => trivial) ?_ trivial).trans rfl
  · intro k m nx ex hk _
    dsimp only
    rw [(r_g s).2.2.1, Option.bind_some, if_neg (h.T hk).2, (r_g s).2.2.2.2.2.2.1, Option.bind_some, (r_g s).2.2.2.2.2.2.2.2.2.2.1, h.at_c (h.T hk), Option.bind_some, jnE, jnE]
    dsimp only
    unfold vmF
    by_cases d1 : cA (md s 44) (i3 (k : Int)) = c
    · rw [if_pos d1, if_neg (fun e => e.1 d1), or0]
    rw [if_neg d1, q_272 h (h.T hk), Option.bind_some]
    by_cases d2 : hidM (md s 44) (i3 (k : Int)) c = i3 (-1)
    · rw [if_pos (show _ = Int32.ofInt (-1) from d2), if_pos ⟨d1, d2⟩]
      rfl
    · rw [if_neg (show ¬ _ = Int32.ofInt (-1) from d2), if_neg (fun e => d2 e.2), or0]
  · intro a nx ex _
    dsimp only
    rw [(r_g s).2.2.1, Option.bind_some, if_pos (h.Te (Nat.le_refl _) (by have := h.n_le; omega))]
noncomputable def xView (g : Gd) (c : Int32) : Int32 := if isCl g c then vwM g c else i3 (-2)
theorem d_35 (c : Mq s) (x : Int32) : Ans s (m_274 44 x (H s)) (xView (md s 44) x) := by
  unfold m_274 xView
  rw [(r_m s).1, Option.bind_some, q_193 c.1, Option.bind_some]
  unfold jn
  dsimp only
  rw [bP_if]
  by_cases c1 : isCl (md s 44) x
  · rw [if_pos c1, if_pos c1, q_273 c.1, Option.bind_some]
    exact Ans.id
  · rw [if_neg c1, if_neg c1, cst.1]
    exact Ans.mf c.2.2 isB2
noncomputable def ovM (g : Gd) (k : Nat) (m : Int64) : Int64 := if tIn g (i3 (k : Int)) = i3 (-1) ∧ vwM g (i3 (k : Int)) = all g then m ||| b64 k else m
noncomputable def xOver (g : Gd) : Int64 := itr (ovM g) (dn g * dn g) (Int64.ofNat 0)
theorem q_275 (h : ok (md s 44)) : m_275 44 (H s) = some (xOver (md s 44)) := by
  have hcc := h.cc_le
  unfold m_275
  rw [(r_m s).1, Option.bind_some]
  refine (lp0 (dn (md s 44) * dn (md s 44)) (by omega) (fun t (a : Int64) => (a, t)) (fun a => a) (ovM (md s 44)) (fun _ => True) (Int64.ofNat 0) ?_ (fun _ _ _ _ => trivial) ?_ trivial).trans rfl
  · intro k m nx ex hk _
    dsimp only
    rw [q_192, Option.bind_some, if_neg (h.C hk).2, q_194 h, Option.bind_some, jnE, jnE]
    dsimp only
    unfold ovM
    by_cases d1 : tIn (md s 44) (i3 (k : Int)) = i3 (-1)
    · rw [if_pos (show _ = Int32.ofInt (-1) from d1), q_273 h, Option.bind_some, (r_g s).2.2.1, Option.bind_some]
      by_cases d2 : vwM (md s 44) (i3 (k : Int)) = all (md s 44)
      · rw [if_pos (show _ = Int32.ofInt 1 <<< (tN (md s 44) &&& 31) - Int32.ofInt 1 from d2), if_pos ⟨d1, d2⟩]
      · rw [if_neg (show ¬ _ = Int32.ofInt 1 <<< (tN (md s 44) &&& 31) - Int32.ofInt 1 from d2), if_neg (fun e => d2 e.2), lor0]
    · rw [if_neg (show ¬ _ = Int32.ofInt (-1) from d1), if_neg (fun e => d1 e.1), lor0]
  · intro a nx ex _
    dsimp only
    rw [q_192, Option.bind_some, if_pos (h.Ce (Nat.le_refl _) (by have := h.cc_le; omega))]
noncomputable def xBehind (g : Gd) (t c : Int32) : Int32 := if isT g t then if isCl g c then if cA g t = c then i3 (-2) else hidM g t c else i3 (-2) else i3 (-2)
theorem d_38 (c : Mq s) (t x : Int32) : Ans s (m_276 44 t x (H s)) (xBehind (md s 44) t x) := by
  unfold m_276 xBehind
  rw [(r_m s).1, Option.bind_some, q_191 c.1, Option.bind_some]
  unfold jn
  dsimp only
  rw [bP_if]
  by_cases c1 : isT (md s 44) t
  · rw [if_pos c1, if_pos c1, q_193 c.1, Option.bind_some, bP_if]
    by_cases c2 : isCl (md s 44) x
    · rw [if_pos c2, if_pos c2, (r_g s).2.2.2.2.2.2.1, Option.bind_some, (r_g s).2.2.2.2.2.2.2.2.2.2.1, c.1.at_c c1, Option.bind_some]
      by_cases c3 : cA (md s 44) t = x
      · rw [if_pos c3, if_pos c3, cst.1]
        exact Ans.mf c.2.2 isB2
      · rw [if_neg c3, if_neg c3, q_272 c.1 c1, Option.bind_some]
        exact Ans.id
    · rw [if_neg c2, if_neg c2, cst.1]
      exact Ans.mf c.2.2 isB2
  · rw [if_neg c1, if_neg c1, cst.1]
    exact Ans.mf c.2.2 isB2
/-- in a triangle -/
abbrev inT (g : Gd) (a b c x : Int32) : Prop := (¬ dar g a b x < 0 ∧ ¬ dar g b c x < 0 ∧ ¬ dar g c a x < 0) ∨ (¬ 0 < dar g a b x ∧ ¬ 0 < dar g b c x ∧ ¬ 0 < dar g c a x)
theorem inTL (p q r : Int32) : (jn (fun (v4 : Int32) => jn (fun (v6 : Int32) => rB v6) (fun j7 => jn (fun (v8 : Unit) => j7 (Int32.ofInt 1)) (fun j9 => if v4 = 0 then jn (fun (v10 : Unit) => j7 (Int32.ofInt 0)) (fun j11 => if 0 < p then j11 () else if 0 < q then j11 () else if 0 < r then j11 () else j9 ()) else j9 ()))) (fun j5 => jn (fun (v16 : Unit) => j5 (Int32.ofInt 0)) (fun j17 => if p < 0 then j17 () else if q < 0 then j17 () else if r < 0 then j17 () else j5 (Int32.ofInt 1)))) = some (bP ((¬ p < 0 ∧ ¬ q < 0 ∧ ¬ r < 0) ∨ (¬ 0 < p ∧ ¬ 0 < q ∧ ¬ 0 < r))) := by
  by_cases a1 : p < 0 <;> by_cases a2 : q < 0 <;> by_cases a3 : r < 0 <;> by_cases b1 : 0 < p <;> by_cases b2 : 0 < q <;> by_cases b3 : 0 < r <;> simp only [a1, a2, a3, b1, b2, b3, bP, Option.bind_some, jn, cst, bP_if, rB_0, rB_1, z00, z10, ↓reduceIte, not_true_eq_false, not_false_eq_true, and_self, and_true, and_false, or_false, or_true, or_self]
theorem q_289 (h : ok (md s 44)) (a b c x : Int32) : m_289 44 a b c x (H s) = some (bP (inT (md s 44) a b c x)) := by
  unfold m_289
  rw [(r_m s).1, Option.bind_some, q_235 h, Option.bind_some, q_235 h, Option.bind_some, q_235 h, Option.bind_some]
  exact inTL _ _ _
/-- corners -/
abbrev cqM (g : Gd) (t : Int32) (i j k : Nat) : Prop := ¬ i3 (k : Int) = t ∧ ¬ dar g (cA g (i3 (i : Int))) (cA g (i3 (j : Int))) (cA g (i3 (k : Int))) = 0 ∧ inT g (cA g (i3 (i : Int))) (cA g (i3 (j : Int))) (cA g (i3 (k : Int))) (cA g t)
abbrev cbM (g : Gd) (t : Int32) (i j : Nat) : Prop := dar g (cA g (i3 (i : Int))) (cA g (i3 (j : Int))) (cA g t) = 0 ∧ ¬ sqr g (cA g (i3 (i : Int))) (cA g (i3 (j : Int))) ≤ sqr g (cA g (i3 (i : Int))) (cA g t) ∧ ¬ sqr g (cA g (i3 (i : Int))) (cA g (i3 (j : Int))) ≤ sqr g (cA g (i3 (j : Int))) (cA g t)
abbrev cpM (g : Gd) (t : Int32) (i j : Nat) : Prop := ¬ i3 (i : Int) = t ∧ ¬ i3 (j : Int) = t ∧ (cbM g t i j ∨ ¬ fst? (fun k => decide (cqM g t i j k)) j 0 = none)
abbrev ciM (g : Gd) (t : Int32) (i : Nat) : Prop := ¬ fst? (fun j => decide (cpM g t i j)) i 0 = none
abbrev crM (g : Gd) (t : Int32) : Prop := fst? (fun i => decide (ciM g t i)) (nn g) 0 = none
theorem cqL (h : ok (md s 44)) {t : Int32} (ht : isT (md s 44) t) {i j : Nat} (hi : i < nn (md s 44)) (hj : j < nn (md s 44)) (K : Unit → Option Int32) : lp (fun (s26 : Int32) nx27 ex28 => if i3 (j : Int) ≤ s26 then ex28 () else jn (fun (v30 : Int32) => jn (fun (v32 : Unit) => nx27 (s26 + Int32.ofInt 1)) (fun j33 => if v30 = 0 then j33 () else (gN (H s) 8 44 12).bind fun o34 => (aI (H s) o34 (i3 (i : Int))).bind fun x35 => (gN (H s) 8 44 12).bind fun o36 => (aI (H s) o36 (i3 (j : Int))).bind fun x37 => (gN (H s) 8 44 12).bind fun o38 => (aI (H s) o38 s26).bind fun x39 => (gN (H s) 8 44 12).bind fun o40 => (aI (H s) o40 t).bind fun x41 => (m_289 44 x35 x37 x39 x41 (H s)).bind fun x42 => if x42 = 0 then j33 () else rB (Int32.ofInt 0))) (fun j31 => jn (fun (v45 : Unit) => j31 (Int32.ofInt 0)) (fun j46 => if s26 = t then j46 () else (gN (H s) 8 44 12).bind fun o47 => (aI (H s) o47 (i3 (i : Int))).bind fun x48 => (gN (H s) 8 44 12).bind fun o49 => (aI (H s) o49 (i3 (j : Int))).bind fun x50 => (gN (H s) 8 44 12).bind fun o51 => (aI (H s) o51 s26).bind fun x52 => (m_236 44 x48 x50 x52 (H s)).bind fun x53 => if x53 = 0 then j31 (Int32.ofInt 1) else j46 ()))) 4096 (Int32.ofInt 0) K = if ¬ fst? (fun k => decide (cqM (md s 44) t i j k)) j 0 = none then some (i3 0) else K () := by
  have hn := h.n_le
  refine (lpS j (by omega) (fun t => t) () (fun k => decide (cqM (md s 44) t i j k)) (fun _ => some (i3 0)) ?_ ?_).trans (mS _ _ _)
  · intro k nx ex hk
    have hk2 : k < nn (md s 44) := by omega
    simp only [decide_eq_true_eq]
    rw [if_neg (nle hk (by omega)), jnE, jnE]
    by_cases d1 : i3 (k : Int) = t
    · rw [if_pos d1]
      dsimp only
      rw [jnE, if_pos (show Int32.ofInt 0 = 0 from rfl), if_neg (fun e => e.1 d1)]
    rw [if_neg d1]
    simp only [r_g, Option.bind_some, h.at_c (h.T hi), h.at_c (h.T hj), h.at_c (h.T hk2), h.at_c ht, q_236 h, q_289 h, bP_if, jnE]
    by_cases d2 : dar (md s 44) (cA (md s 44) (i3 (i : Int))) (cA (md s 44) (i3 (j : Int))) (cA (md s 44) (i3 (k : Int))) = 0
    · rw [if_pos d2, if_pos (show Int32.ofInt 0 = 0 from rfl), if_neg (fun e => e.2.1 d2)]
    rw [if_neg d2, if_neg e1_0]
    by_cases d3 : inT (md s 44) (cA (md s 44) (i3 (i : Int))) (cA (md s 44) (i3 (j : Int))) (cA (md s 44) (i3 (k : Int))) (cA (md s 44) t)
    · rw [if_pos d3, if_pos ⟨d1, d2, d3⟩]
      rfl
    · rw [if_neg d3, if_neg (fun e => d3 e.2.2)]
  · intro nx ex
    rw [if_pos (Int32.le_refl _)]
end ME
