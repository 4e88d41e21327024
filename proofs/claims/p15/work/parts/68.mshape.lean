/-! ===== the reference's shapes ===== -/
section MB
variable {s : St}
theorem nle {j k : Nat} (h : j < k) (hk : k ≤ 1000) : ¬ i3 (k : Int) ≤ i3 (j : Int) := fun e => by
  have := (i3n_le (by omega) (by omega)).mp e
  omega
theorem yle {j k : Nat} (h : k ≤ j) (hk : j ≤ 1000) : i3 (k : Int) ≤ i3 (j : Int) := (i3n_le (by omega) (by omega)).mpr h
noncomputable def trM (g : Gd) (c : Int32) : Int32 := cO g c * sD g + sD g - i3 1 - rO g c
noncomputable def miM (g : Gd) (c : Int32) : Int32 := rO g c * sD g + sD g - i3 1 - cO g c
theorem q_281 (h : ok (md s 44)) (c : Int32) : m_281 44 c (H s) = some (trM (md s 44) c) := by
  unfold m_281 trM
  simp only [r_g, Option.bind_some, h.dv, h.rm]
theorem q_282 (h : ok (md s 44)) (c : Int32) : m_282 44 c (H s) = some (miM (md s 44) c) := by
  unfold m_282 miM
  simp only [r_g, Option.bind_some, h.dv, h.rm]
noncomputable def abn (x : Int32) : Int32 := if 0 ≤ x then x else -x
noncomputable def glF (g : Gd) (i j k : Nat) (m : Int32) : Int32 := if abn (dar g (cA g (i3 (i : Int))) (cA g (i3 (j : Int))) (cA g (i3 (k : Int)))) ≤ m then m else abn (dar g (cA g (i3 (i : Int))) (cA g (i3 (j : Int))) (cA g (i3 (k : Int))))
noncomputable def glJ (g : Gd) (i j : Nat) (m : Int32) : Int32 := itr (glF g i j) j m
noncomputable def glI (g : Gd) (i : Nat) (m : Int32) : Int32 := itr (glJ g i) i m
noncomputable def gl (g : Gd) : Int32 := itr (glI g) (nn g) (i3 0)
theorem q_286 (h : ok (md s 44)) : m_286 44 (H s) = some (gl (md s 44)) := by
  have hn := h.n_le
  unfold m_286
  simp only [r_g, Option.bind_some, jn, cst, bP_if, rB_0, rB_1, z00, z10, ↓reduceIte]
  refine (lp0 (nn (md s 44)) (by have := h.n_le; omega) (fun t a => (a, t)) (fun a => a) (glI (md s 44)) (fun _ => True) (i3 0) ?_ (fun _ _ _ _ => trivial) ?_ trivial).trans rfl
  · intro k m nx ex hk _
    simp only [(h.T hk).2, h.at_c (h.T hk), Option.bind_some, jn, cst, bP_if, rB_0, rB_1, z00, z10, ↓reduceIte]
    refine (lp0 k (by omega) (fun t a => (a, t)) (fun a => a) (glJ (md s 44) k) (fun _ => True) m ?_ (fun _ _ _ _ => trivial) ?_ trivial).trans rfl
    · intro j a nx2 ex2 hj _
      have hj2 : j < nn (md s 44) := by omega
      simp only [nle hj (by omega), h.at_c (h.T hj2), Option.bind_some, jn, cst, bP_if, rB_0, rB_1, z00, z10, ↓reduceIte]
      refine (lp0 j (by omega) (fun t a => (a, t)) (fun a => a) (glF (md s 44) k j) (fun _ => True) a ?_ (fun _ _ _ _ => trivial) ?_ trivial).trans rfl
      · intro i b nx3 ex3 hi _
        have hi2 : i < nn (md s 44) := by omega
        simp only [nle hi (by omega), h.at_c (h.T hi2), q_235 h, Option.bind_some, jn, cst, bP_if, rB_0, rB_1, z00, z10, ↓reduceIte]
        unfold glF abn
        by_cases c1 : 0 ≤ dar (md s 44) (cA (md s 44) (i3 (k : Int))) (cA (md s 44) (i3 (j : Int))) (cA (md s 44) (i3 (i : Int)))
        · simp only [if_pos c1]
          split <;> rfl
        · simp only [if_neg c1]
          split <;> rfl
      · intro b nx3 ex3 _
        simp only [Int32.le_refl, Option.bind_some, jn, cst, bP_if, rB_0, rB_1, z00, z10, ↓reduceIte]
    · intro a nx2 ex2 _
      simp only [Int32.le_refl, Option.bind_some, jn, cst, bP_if, rB_0, rB_1, z00, z10, ↓reduceIte]
  · intro a nx ex _
    simp only [h.Te (Nat.le_refl _) (by have := h.n_le; omega), Option.bind_some, jn, cst, bP_if, rB_0, rB_1, z00, z10, ↓reduceIte]
noncomputable def smF (g : Gd) (c : Int32) (k : Nat) (m : Int32) : Int32 := m + dst g c (cA g (i3 (k : Int)))
noncomputable def sm' (g : Gd) (c : Int32) : Int32 := itr (smF g c) (nn g) (i3 0)
noncomputable def mdF (g : Gd) (k : Nat) (a : Int32 × Int32) : Int32 × Int32 := if a.1 = i3 (-1) then (i3 (k : Int), sm' g (i3 (k : Int))) else if a.2 ≤ sm' g (i3 (k : Int)) then a else (i3 (k : Int), sm' g (i3 (k : Int)))
noncomputable def xMiddle (g : Gd) : Int32 := if tN g = 0 then i3 (-5) else (itr (mdF g) (dn g * dn g) (i3 (-1), i3 0)).1
theorem d_45 (c : Mq s) : Ans s (m_284 44 (H s)) (xMiddle (md s 44)) := by
  have h := c.1
  have hcc := h.cc_le
  unfold m_284 xMiddle
  rw [(r_m s).1, Option.bind_some, (r_g s).2.2.1, Option.bind_some]
  by_cases c1 : tN (md s 44) = 0
  · rw [if_pos c1, if_pos c1, cst.2.2.2.1]
    exact Ans.mf c.2.2 isB5
  rw [if_neg c1, if_neg c1]
  refine ⟨s, ?_, qq.refl s⟩
  refine (lp0 (dn (md s 44) * dn (md s 44)) (by omega) (fun t (a : Int32 × Int32) => (a.1, a.2, t)) (fun a => a.1) (mdF (md s 44)) (fun _ => True) (i3 (-1), i3 0) ?_ (fun _ _ _ _ => trivial) ?_ trivial).trans rfl
  · intro k m nx ex hk _
    simp only [q_192, (h.C hk).2, r_g, Option.bind_some, jn, cst, bP_if, rB_0, rB_1, z00, z10, ↓reduceIte]
    refine (lp0 (nn (md s 44)) (by have := h.n_le; omega) (fun t a => (a, t)) (fun a => a) (smF (md s 44) (i3 (k : Int))) (fun _ => True) (i3 0) ?_ (fun _ _ _ _ => trivial) ?_ trivial).trans ?_
    · intro j a nx2 ex2 hj _
      simp only [(h.T hj).2, h.at_c (h.T hj), q_237 h, Option.bind_some, jn, cst, bP_if, rB_0, rB_1, z00, z10, ↓reduceIte]
      rfl
    · intro a nx2 ex2 _
      simp only [h.Te (Nat.le_refl _) (by have := h.n_le; omega), Option.bind_some, jn, cst, bP_if, rB_0, rB_1, z00, z10, ↓reduceIte]
    · unfold mdF
      show (if m.1 = i3 (-1) then _ else _) = _
      by_cases d1 : m.1 = i3 (-1)
      · simp only [if_pos d1]
        rfl
      · simp only [if_neg d1]
        by_cases d2 : m.2 ≤ sm' (md s 44) (i3 (k : Int))
        · simp only [if_pos d2]
          rw [if_pos (show m.2 ≤ itr (smF (md s 44) (i3 (k : Int))) (nn (md s 44)) (i3 0) from d2)]
        · simp only [if_neg d2]
          rw [if_neg (show ¬ m.2 ≤ itr (smF (md s 44) (i3 (k : Int))) (nn (md s 44)) (i3 0) from d2)]
          rfl
  · intro a nx ex _
    simp only [q_192, h.Ce (Nat.le_refl _) (by have := h.cc_le; omega), Option.bind_some, jn, cst, bP_if, rB_0, rB_1, z00, z10, ↓reduceIte]
theorem ok.dk {g : Gd} (h : ok g) : ∃ k : Nat, k < 1000 ∧ sD g = i3 (k : Int) := ⟨dn g, by have := h.d_le; omega, h.d_eq⟩
abbrev inS (g : Gd) (x : Int32) : Prop := ¬ x < 0 ∧ ¬ sD g ≤ x
noncomputable def atM (g : Gd) (r c : Int32) : Int32 := if inS g r then if inS g c then tIn g (r * sD g + c) else i3 (-1) else i3 (-1)
theorem q_287 (h : ok (md s 44)) (r c : Int32) : m_287 44 r c (H s) = some (atM (md s 44) r c) := by
  have er := pred_iff (x := r) h.dk
  have ec := pred_iff (x := c) h.dk
  unfold m_287 atM
  rw [(r_m s).1, Option.bind_some, (r_g s).2.1, Option.bind_some, jc.1, q_190, Option.bind_some]
  unfold jn
  dsimp only
  rw [bP_if, Option.bind_some, q_190, Option.bind_some, bP_if, Option.bind_some, q_194 h, Option.bind_some]
  by_cases c1 : inS (md s 44) r
  · rw [if_pos (er.mpr c1), if_pos c1]
    by_cases c2 : inS (md s 44) c
    · rw [if_pos (ec.mpr c2), if_pos c2]
    · rw [if_neg (fun e => c2 (ec.mp e)), if_neg c2]
  · rw [if_neg (fun e => c1 (er.mp e)), if_neg c1]
/-- rows and columns of the far corners of a square on the side from i to j -/
noncomputable def qR (g : Gd) (i j : Int32) : Int32 := cO g (cA g j) - cO g (cA g i)
noncomputable def qC (g : Gd) (i j : Int32) : Int32 := rO g (cA g j) - rO g (cA g i)
abbrev qsq (g : Gd) (i j : Int32) : Prop := ¬ atM g (rO g (cA g j) + qR g i j) (cO g (cA g j) - qC g i j) = i3 (-1) ∧ ¬ atM g (rO g (cA g i) + qR g i j) (cO g (cA g i) - qC g i j) = i3 (-1)
noncomputable def sqF (g : Gd) (i j : Nat) (m : Int32) : Int32 := if i3 (i : Int) = i3 (j : Int) then m else if qsq g (i3 (i : Int)) (i3 (j : Int)) then m + i3 1 else m
noncomputable def sqI (g : Gd) (i : Nat) (m : Int32) : Int32 := itr (sqF g i) (nn g) m
noncomputable def sqs (g : Gd) : Int32 := itr (sqI g) (nn g) (i3 0)
theorem q_288 (h : ok (md s 44)) : m_288 44 (H s) = some (sqs (md s 44) / i3 4) := by
  unfold m_288
  simp only [r_g, Option.bind_some]
  refine (lp0 (nn (md s 44)) (by have := h.n_le; omega) (fun t a => (a, t)) (fun a => a) (sqI (md s 44)) (fun _ => True) (i3 0) ?_ (fun _ _ _ _ => trivial) ?_ trivial).trans ?_
  · intro k m nx ex hk _
    simp only [(h.T hk).2, h.at_c (h.T hk), Option.bind_some, ↓reduceIte]
    refine (lp0 (nn (md s 44)) (by have := h.n_le; omega) (fun t a => (a, t)) (fun a => a) (sqF (md s 44) k) (fun _ => True) m ?_ (fun _ _ _ _ => trivial) ?_ trivial).trans rfl
    · intro j a nx2 ex2 hj _
      simp only [(h.T hj).2, h.at_c (h.T hj), Option.bind_some, ↓reduceIte, h.dv, h.rm, q_287 h, jn]
      unfold sqF
      by_cases c1 : i3 (k : Int) = i3 (j : Int)
      · rw [if_pos c1, if_pos c1]
      rw [if_neg c1, if_neg c1]
      by_cases c2 : atM (md s 44) (rO (md s 44) (cA (md s 44) (i3 (j : Int))) + qR (md s 44) (i3 (k : Int)) (i3 (j : Int))) (cO (md s 44) (cA (md s 44) (i3 (j : Int))) - qC (md s 44) (i3 (k : Int)) (i3 (j : Int))) = i3 (-1)
      · rw [if_neg (show ¬ qsq (md s 44) (i3 (k : Int)) (i3 (j : Int)) from fun e => e.1 c2)]
        refine (if_pos c2).trans ?_
        rw [if_pos (show Int32.ofInt 0 = 0 from rfl), add0]
      · refine (if_neg c2).trans ?_
        rw [if_neg e1_0]
        by_cases c3 : atM (md s 44) (rO (md s 44) (cA (md s 44) (i3 (k : Int))) + qR (md s 44) (i3 (k : Int)) (i3 (j : Int))) (cO (md s 44) (cA (md s 44) (i3 (k : Int))) - qC (md s 44) (i3 (k : Int)) (i3 (j : Int))) = i3 (-1)
        · rw [if_neg (show ¬ qsq (md s 44) (i3 (k : Int)) (i3 (j : Int)) from fun e => e.2 c3)]
          refine (if_pos c3).trans ?_
          rw [add0]
        · rw [if_pos (show qsq (md s 44) (i3 (k : Int)) (i3 (j : Int)) from ⟨c2, c3⟩)]
          exact if_neg c3
    · intro a nx2 ex2 _
      simp only [h.Te (Nat.le_refl _) (by have := h.n_le; omega), Option.bind_some, ↓reduceIte]
  · intro a nx ex _
    simp only [h.Te (Nat.le_refl _) (by have := h.n_le; omega), Option.bind_some, ↓reduceIte]
  · have e : ¬ Int32.ofInt 4 = 0 := by decide +kernel
    simp only [dvI, e, ↓reduceIte, Option.bind_some]
    rfl
/-- the nearest pair -/
noncomputable def p100 (a : Nat × Nat) : Int32 := i3 ((100 * a.1 + a.2 : Nat) : Int)
noncomputable def neF (g : Gd) (i j : Nat) (a : Nat × Nat) : Nat × Nat := if dst g (cA g (i3 (a.1 : Int))) (cA g (i3 (a.2 : Int))) ≤ dst g (cA g (i3 (i : Int))) (cA g (i3 (j : Int))) then a else (i, j)
noncomputable def neI (g : Gd) (i : Nat) (a : Nat × Nat) : Nat × Nat := fB (i + 1) (nn g) (neF g i) a
noncomputable def ne' (g : Gd) : Nat × Nat := itr (neI g) (nn g) (0, 1)
noncomputable def xNearest (g : Gd) : Int32 := if i3 2 ≤ tN g then p100 (ne' g) else i3 (-5)
abbrev pOk (g : Gd) (a : Nat × Nat) : Prop := a.1 < nn g ∧ a.2 < nn g
theorem c100 : (Int8.ofInt 100).toInt32 = i3 ((100 : Nat) : Int) := by decide +kernel
theorem p100_d {a : Nat × Nat} (h1 : a.1 < 13) (h2 : a.2 < 13) : dvI (p100 a) (Int8.ofInt 100).toInt32 = some (i3 (a.1 : Int)) ∧ rmI (p100 a) (Int8.ofInt 100).toInt32 = some (i3 (a.2 : Int)) := by
  rw [c100]
  obtain ⟨x, y⟩ := a
  have n0 : ¬ i3 ((100 : Nat) : Int) = 0 := by decide +kernel
  have e : p100 (x, y) / i3 ((100 : Nat) : Int) = i3 (x : Int) := by
    have e1 : p100 (x, y) = i3 ((100 * x + y : Nat) : Int) := rfl
    rw [e1]
    have h1' : x < 13 := h1
    have h2' : y < 13 := h2
    have k : ∀ x : Fin 13, ∀ y : Fin 13, i3 ((100 * x.1 + y.1 : Nat) : Int) / i3 ((100 : Nat) : Int) = i3 (x.1 : Int) := by decide +kernel
    exact k ⟨x, h1'⟩ ⟨y, h2'⟩
  constructor
  · unfold dvI
    rw [if_neg n0, e]
  · unfold rmI
    rw [if_neg n0]
    have h1' : x < 13 := h1
    have h2' : y < 13 := h2
    have k : ∀ x : Fin 13, ∀ y : Fin 13, i3 ((100 * x.1 + y.1 : Nat) : Int) - i3 ((100 * x.1 + y.1 : Nat) : Int) / i3 ((100 : Nat) : Int) * i3 ((100 : Nat) : Int) = i3 (y.1 : Int) := by decide +kernel
    exact congrArg some (k ⟨x, h1'⟩ ⟨y, h2'⟩)
theorem p100_e (k j : Nat) : (Int8.ofInt 100).toInt32 * i3 (k : Int) + i3 (j : Int) = p100 (k, j) := by
  rw [c100]
  rw [i3_mul, i3_add]
  unfold p100
  rw [Int.natCast_add, Int.natCast_mul]
theorem p100_0 : ((Int32.ofInt 1, Int32.ofInt 0) : Int32 × Int32) = (p100 (0, 1), Int32.ofInt 0) := by
  have e : Int32.ofInt 1 = p100 (0, 1) := by
    unfold p100
    decide +kernel
  rw [e]
theorem n2_le {g : Gd} (h : ok g) (c : i3 2 ≤ tN g) : 2 ≤ nn g := by
  have hn := h.n_le
  rw [h.n_eq, i3_le ⟨by omega, by omega⟩ ⟨by omega, by omega⟩] at c
  omega
theorem neF_ok {g : Gd} {i j : Nat} {a : Nat × Nat} (hi : i < nn g) (hj : j < nn g) (h : pOk g a) : pOk g (neF g i j a) := by
  unfold neF
  split
  · exact h
  · exact ⟨hi, hj⟩
theorem neI_ok {g : Gd} {i : Nat} {a : Nat × Nat} (hi : i < nn g) (h : pOk g a) : pOk g (neI g i a) := by
  unfold neI fB
  exact itr_inv (P := pOk g) _ _ h (fun k b hk hb => neF_ok hi (by omega) hb)
theorem d_46 (c : Mq s) : Ans s (m_285 44 (H s)) (xNearest (md s 44)) := by
  have h := c.1
  have hn := h.n_le
  unfold m_285 xNearest
  rw [(r_m s).1, Option.bind_some, (r_g s).2.2.1, Option.bind_some]
  by_cases c1 : i3 2 ≤ tN (md s 44)
  · rw [if_pos (show Int32.ofInt 2 ≤ tN (md s 44) from c1), if_pos c1]
    have hn2 : 2 ≤ nn (md s 44) := by
      exact n2_le h c1
    refine ⟨s, ?_, qq.refl s⟩
    rw [p100_0]
    generalize hC : (Int8.ofInt 100).toInt32 = C
    refine (lp0 (nn (md s 44)) (by have := h.n_le; omega) (fun t (a : Nat × Nat) => (p100 a, t)) p100 (neI (md s 44)) (pOk (md s 44)) (0, 1) ?_ (fun k a hk ha => neI_ok hk ha) ?_ ⟨by show 0 < _; omega, by show 1 < _; omega⟩).trans rfl
    · intro k m nx ex hk hm
      dsimp only
      rw [Option.bind_some, if_neg (h.T hk).2, i3_nat_add]
      refine (lpB (k + 1) (nn (md s 44)) (by omega) (by omega) (fun t (a : Nat × Nat) => (p100 a, t)) p100 (neF (md s 44) k) (pOk (md s 44)) m ?_ (fun j a hj1 hj2 ha => neF_ok hk hj2 ha) ?_ hm).trans ?_
      · intro j a nx2 ex2 _ hj ha
        have e := p100_d (a := a) (by have := ha.1; omega) (by have := ha.2; omega)
        rw [hC] at e
        simp only [r_g, h.at_c (h.T hk), (h.T hj).2, h.at_c (h.T hj), e.1, e.2, h.at_c (h.T ha.1), h.at_c (h.T ha.2), q_237 h, Option.bind_some, ↓reduceIte, jn]
        unfold neF
        by_cases d1 : dst (md s 44) (cA (md s 44) (i3 (a.1 : Int))) (cA (md s 44) (i3 (a.2 : Int))) ≤ dst (md s 44) (cA (md s 44) (i3 (k : Int))) (cA (md s 44) (i3 (j : Int)))
        · simp only [if_pos d1]
        · simp only [if_neg d1]
          rw [← hC, p100_e]
      · intro j a nx2 ex2 hj hj2 _
        simp only [h.Te hj hj2, Option.bind_some, ↓reduceIte]
      · rfl
    · intro a nx ex _
      simp only [r_g, h.Te (Nat.le_refl _) (by have := h.n_le; omega), Option.bind_some, ↓reduceIte]
  · rw [if_neg (show ¬ Int32.ofInt 2 ≤ tN (md s 44) from c1), if_neg c1, cst.2.2.2.1]
    exact Ans.mf c.2.2 isB5
end MB
