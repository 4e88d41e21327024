/-! ===== what stays alike ===== -/
noncomputable def INV (s : St) : Prop := CI s ∧ MI s ∧ (abC s).2.2.1 = (abM s).2.2.1 ∧ ((abC s).2.1 = none ↔ (abM s).2.1 = none)
theorem INV00 : INV s00 := ⟨CI00, MI00, congrArg (·.2.2.1) ab00, by rw [ab00]⟩
noncomputable def BOi (s : St) (ic nc : Nat) (lc : tL) (im nm' : Nat) (lm : tL) (E : Int32 → Int32 → Prop) : Prop := ∃ v w n1 s1 n2 s2 m2, t_exec t_ctf t_mif n1 none 10 ic nc 0 lc [] (H s) 0 = some (some (.int v), H s1, 0) ∧ t_exec t_ctf t_mif n2 none 10 im nm' 0 lm [] (H s1) 0 = some (some (.int w), H s2, m2) ∧ INV s2 ∧ m2 + 806 * nm s = 806 * nm s2 ∧ (H s1).length = (H s).length ∧ (H s1).length ≤ (H s2).length ∧ E v w
noncomputable def BOj (s : St) (ic nc : Nat) (lc : tL) (im nm' : Nat) (lm : tL) (E : Int64 → Int64 → Prop) : Prop := ∃ v w n1 s1 n2 s2 m2, t_exec t_ctf t_mif n1 none 10 ic nc 0 lc [] (H s) 0 = some (some (.long v), H s1, 0) ∧ t_exec t_ctf t_mif n2 none 10 im nm' 0 lm [] (H s1) 0 = some (some (.long w), H s2, m2) ∧ INV s2 ∧ m2 + 806 * nm s = 806 * nm s2 ∧ (H s1).length = (H s).length ∧ (H s1).length ≤ (H s2).length ∧ E v w
section BO
variable {s : St} {ic nc im nm' : Nat} {lc lm : tL} {A : Ab}
noncomputable def alk (A B : Ab) : Prop := A.2.2.1 = B.2.2.1 ∧ (A.2.1 = none ↔ B.2.1 = none)
theorem bo_i {E : Int32 → Int32 → Prop} {v : Int32} (h : INV s) (hc : CRi s ic nc lc v A) (hm : ∀ s1, CI s1 → MI s1 → abC s1 = A → abM s1 = abM s → ∃ w B, MRi s1 im nm' lm w B ∧ alk A B ∧ E v w) : BOi s ic nc lc im nm' lm E := by
  obtain ⟨n1, s1, e1, c1, m1, a1, b1, k1⟩ := hc
  obtain ⟨w, B, ⟨n2, s2, m2, e2, c2, i2, a2, b2, k2⟩, hB, hE⟩ := hm s1 c1 m1 a1 b1
  have l0 := h.2.1.ln
  have l1 := m1.ln
  have l2 := i2.ln
  refine ⟨v, w, n1, s1, n2, s2, m2, e1, e2, ⟨c2, i2, ?_, ?_⟩, by omega, by omega, by omega, hE⟩
  · rw [a2, a1, b2]; exact hB.1
  · rw [a2, a1, b2]; exact hB.2
theorem bo_j {E : Int64 → Int64 → Prop} {v : Int64} (h : INV s) (hc : CRj s ic nc lc v A) (hm : ∀ s1, CI s1 → MI s1 → abC s1 = A → abM s1 = abM s → ∃ w B, MRj s1 im nm' lm w B ∧ alk A B ∧ E v w) : BOj s ic nc lc im nm' lm E := by
  obtain ⟨n1, s1, e1, c1, m1, a1, b1, k1⟩ := hc
  obtain ⟨w, B, ⟨n2, s2, m2, e2, c2, i2, a2, b2, k2⟩, hB, hE⟩ := hm s1 c1 m1 a1 b1
  have l0 := h.2.1.ln
  have l1 := m1.ln
  have l2 := i2.ln
  refine ⟨v, w, n1, s1, n2, s2, m2, e1, e2, ⟨c2, i2, ?_, ?_⟩, by omega, by omega, by omega, hE⟩
  · rw [a2, a1, b2]; exact hB.1
  · rw [a2, a1, b2]; exact hB.2
/-- nothing of it has changed -/
theorem alk0 (h : INV s) {s1 : St} (b : abM s1 = abM s) : alk (abC s) (abM s1) := by
  rw [b]
  exact h.2.2
theorem vB {a b : Option Gd} (h : a = none ↔ b = none) : vBack a = vBack b := by
  cases a with
  | none => rw [h.mp rfl]
  | some x =>
    cases b with
    | none => exact absurd (h.mpr rfl) (by intro e; cases e)
    | some y => rfl
theorem B_0 (h : INV s) (x1 : Int32) (x2 : Int32) (x3 : Int32) : BOi s 2 5 [(0, .ref 0), (1, .int x1), (2, .int x2), (3, .int x3)] 199 5 [(0, .ref 44), (1, .int x1), (2, .int x2), (3, .int x3)] (fun v w => v = w) := by
  refine bo_i h (oC_0 h.1 h.2.1 x1 x2 x3) (fun s1 c1 m1 a1 b1 => ?_)
  have q := alk0 h b1
  exact ⟨_, _, oM_0 c1 m1 x1 x2 x3, q, rfl⟩
theorem B_1 (h : INV s) (x1 : Int32) (x2 : Int32) (x3 : Int64) : BOi s 3 6 [(0, .ref 0), (1, .int x1), (2, .int x2), (3, .long x3)] 202 6 [(0, .ref 44), (1, .int x1), (2, .int x2), (3, .long x3)] (fun _ _ => True) := by
  obtain ⟨w, hc⟩ := oC_1 h.1 h.2.1 x1 x2 x3
  refine bo_i h hc (fun s1 c1 m1 a1 b1 => ?_)
  have q := alk0 h b1
  obtain ⟨w, hm⟩ := oM_1 c1 m1 x1 x2 x3
  exact ⟨_, _, hm, q, trivial⟩
theorem B_2 (h : INV s) (x1 : Int32) (x2 : Int32) (x3 : Int32) (x4 : Int32) (x5 : Int32) : BOi s 4 8 [(0, .ref 0), (1, .int x1), (2, .int x2), (3, .int x3), (4, .int x4), (5, .int x5)] 203 7 [(0, .ref 44), (1, .int x1), (2, .int x2), (3, .int x3), (4, .int x4), (5, .int x5)] (fun _ _ => True) := by
  obtain ⟨w, hc⟩ := oC_2 h.1 h.2.1 x1 x2 x3 x4 x5
  refine bo_i h hc (fun s1 c1 m1 a1 b1 => ?_)
  have q := alk0 h b1
  obtain ⟨w, hm⟩ := oM_2 c1 m1 x1 x2 x3 x4 x5
  exact ⟨_, _, hm, q, trivial⟩
theorem B_3 (h : INV s) (x1 : Int32) (x2 : Int32) : BOj s 5 4 [(0, .ref 0), (1, .int x1), (2, .int x2)] 204 3 [(0, .ref 44), (1, .int x1), (2, .int x2)] (fun _ _ => True) := by
  refine bo_j h (oC_3 h.1 h.2.1 x1 x2) (fun s1 c1 m1 a1 b1 => ?_)
  have q := alk0 h b1
  exact ⟨_, _, oM_3 c1 m1 x1 x2, q, trivial⟩
theorem B_4 (h : INV s) (x1 : Int32) : BOi s 6 3 [(0, .ref 0), (1, .int x1)] 205 2 [(0, .ref 44), (1, .int x1)] (fun _ _ => True) := by
  obtain ⟨w, hc⟩ := oC_4 h.1 h.2.1 x1
  refine bo_i h hc (fun s1 c1 m1 a1 b1 => ?_)
  have q := alk0 h b1
  obtain ⟨w, hm⟩ := oM_4 c1 m1 x1
  exact ⟨_, _, hm, q, trivial⟩
theorem B_5 (h : INV s) (x1 : Int32) (x2 : Int32) : BOi s 7 4 [(0, .ref 0), (1, .int x1), (2, .int x2)] 206 3 [(0, .ref 44), (1, .int x1), (2, .int x2)] (fun _ _ => True) := by
  refine bo_i h (oC_5 h.1 h.2.1 x1 x2) (fun s1 c1 m1 a1 b1 => ?_)
  have q := alk0 h b1
  exact ⟨_, _, oM_5 c1 m1 x1 x2, q, trivial⟩
theorem B_6 (h : INV s) (x1 : Int32) (x2 : Int32) : BOi s 8 4 [(0, .ref 0), (1, .int x1), (2, .int x2)] 209 7 [(0, .ref 44), (1, .int x1), (2, .int x2)] (fun _ _ => True) := by
  obtain ⟨v, hc⟩ := oC_6 h.1 h.2.1 x1 x2
  refine bo_i h hc (fun s1 c1 m1 a1 b1 => ?_)
  have q := alk0 h b1
  obtain ⟨v, hm⟩ := oM_6 c1 m1 x1 x2
  exact ⟨_, _, hm, q, trivial⟩
theorem B_7 (h : INV s) (x1 : Int32) : BOi s 9 3 [(0, .ref 0), (1, .int x1)] 211 3 [(0, .ref 44), (1, .int x1)] (fun _ _ => True) := by
  refine bo_i h (oC_7 h.1 h.2.1 x1) (fun s1 c1 m1 a1 b1 => ?_)
  have q := alk0 h b1
  exact ⟨_, _, oM_7 c1 m1 x1, q, trivial⟩
theorem B_8 (h : INV s) (x1 : Int32) (x2 : Int32) (x3 : Int32) : BOi s 10 4 [(0, .ref 0), (1, .int x1), (2, .int x2), (3, .int x3)] 213 4 [(0, .ref 44), (1, .int x1), (2, .int x2), (3, .int x3)] (fun _ _ => True) := by
  refine bo_i h (oC_8 h.1 h.2.1 x1 x2 x3) (fun s1 c1 m1 a1 b1 => ?_)
  have q := alk0 h b1
  exact ⟨_, _, oM_8 c1 m1 x1 x2 x3, q, trivial⟩
theorem B_9 (h : INV s) (x1 : Int32) : BOi s 11 2 [(0, .ref 0), (1, .int x1)] 214 2 [(0, .ref 44), (1, .int x1)] (fun _ _ => True) := by
  refine bo_i h (oC_9 h.1 h.2.1 x1) (fun s1 c1 m1 a1 b1 => ?_)
  have q := alk0 h b1
  exact ⟨_, _, oM_9 c1 m1 x1, q, trivial⟩
theorem B_10 (h : INV s) : BOi s 12 2 [(0, .ref 0)] 215 2 [(0, .ref 44)] (fun _ _ => True) := by
  refine bo_i h (oC_10 h.1 h.2.1) (fun s1 c1 m1 a1 b1 => ?_)
  have q := alk0 h b1
  exact ⟨_, _, oM_10 c1 m1, q, trivial⟩
theorem B_11 (h : INV s) (x1 : Int32) (x2 : Int32) : BOi s 13 5 [(0, .ref 0), (1, .int x1), (2, .int x2)] 217 5 [(0, .ref 44), (1, .int x1), (2, .int x2)] (fun _ _ => True) := by
  refine bo_i h (oC_11 h.1 h.2.1 x1 x2) (fun s1 c1 m1 a1 b1 => ?_)
  have q := alk0 h b1
  exact ⟨_, _, oM_11 c1 m1 x1 x2, q, trivial⟩
theorem B_12 (h : INV s) : BOi s 14 1 [(0, .ref 0)] 219 1 [(0, .ref 44)] (fun _ _ => True) := by
  refine bo_i h (oC_12 h.1 h.2.1) (fun s1 c1 m1 a1 b1 => ?_)
  have q := alk0 h b1
  exact ⟨_, _, oM_12 c1 m1, q, trivial⟩
theorem B_13 (h : INV s) (x1 : Int32) : BOi s 15 2 [(0, .ref 0), (1, .int x1)] 220 2 [(0, .ref 44), (1, .int x1)] (fun v w => v = w) := by
  refine bo_i h (oC_13 h.1 h.2.1 x1) (fun s1 c1 m1 a1 b1 => ?_)
  have q := alk0 h b1
  exact ⟨_, _, oM_13 c1 m1 x1, ⟨congrArg (fun t => tFeed t x1) q.1, q.2⟩, congrArg (fun t => vFeed t x1) q.1⟩
theorem B_14 (h : INV s) : BOi s 16 2 [(0, .ref 0)] 221 2 [(0, .ref 44)] (fun v w => v = w) := by
  refine bo_i h (oC_14 h.1 h.2.1) (fun s1 c1 m1 a1 b1 => ?_)
  have q := alk0 h b1
  exact ⟨_, _, oM_14 c1 m1, ⟨congrArg (fun t => (t.1, i3 0)) q.1, q.2⟩, congrArg (·.2) q.1⟩
theorem B_15 (h : INV s) : BOi s 17 2 [(0, .ref 0)] 234 3 [(0, .ref 44)] (fun _ _ => True) := by
  refine bo_i h (oC_15 h.1 h.2.1) (fun s1 c1 m1 a1 b1 => ?_)
  have q := alk0 h b1
  exact ⟨_, _, oM_15 c1 m1, ⟨congrArg (fun t => (t.1, i3 0)) q.1, q.2⟩, trivial⟩
theorem B_16 (h : INV s) (x1 : Int32) (x2 : Int32) : BOi s 18 3 [(0, .ref 0), (1, .int x1), (2, .int x2)] 244 3 [(0, .ref 44), (1, .int x1), (2, .int x2)] (fun _ _ => True) := by
  refine bo_i h (oC_16 h.1 h.2.1 x1 x2) (fun s1 c1 m1 a1 b1 => ?_)
  have q := alk0 h b1
  exact ⟨_, _, oM_16 c1 m1 x1 x2, q, trivial⟩
theorem B_17 (h : INV s) (x1 : Int32) : BOi s 19 2 [(0, .ref 0), (1, .int x1)] 245 2 [(0, .ref 44), (1, .int x1)] (fun _ _ => True) := by
  refine bo_i h (oC_17 h.1 h.2.1 x1) (fun s1 c1 m1 a1 b1 => ?_)
  have q := alk0 h b1
  exact ⟨_, _, oM_17 c1 m1 x1, q, trivial⟩
theorem B_18 (h : INV s) (x1 : Int32) : BOi s 20 2 [(0, .ref 0), (1, .int x1)] 246 4 [(0, .ref 44), (1, .int x1)] (fun _ _ => True) := by
  refine bo_i h (oC_18 h.1 h.2.1 x1) (fun s1 c1 m1 a1 b1 => ?_)
  have q := alk0 h b1
  exact ⟨_, _, oM_18 c1 m1 x1, q, trivial⟩
theorem B_19 (h : INV s) : BOi s 21 1 [(0, .ref 0)] 247 1 [(0, .ref 44)] (fun _ _ => True) := by
  refine bo_i h (oC_19 h.1 h.2.1) (fun s1 c1 m1 a1 b1 => ?_)
  have q := alk0 h b1
  exact ⟨_, _, oM_19 c1 m1, q, trivial⟩
theorem B_20 (h : INV s) (x1 : Int32) (x2 : Int32) : BOi s 22 4 [(0, .ref 0), (1, .int x1), (2, .int x2)] 248 5 [(0, .ref 44), (1, .int x1), (2, .int x2)] (fun _ _ => True) := by
  refine bo_i h (oC_20 h.1 h.2.1 x1 x2) (fun s1 c1 m1 a1 b1 => ?_)
  have q := alk0 h b1
  exact ⟨_, _, oM_20 c1 m1 x1 x2, q, trivial⟩
theorem B_21 (h : INV s) : BOi s 23 2 [(0, .ref 0)] 249 3 [(0, .ref 44)] (fun _ _ => True) := by
  refine bo_i h (oC_21 h.1 h.2.1) (fun s1 c1 m1 a1 b1 => ?_)
  have q := alk0 h b1
  exact ⟨_, _, oM_21 c1 m1, q, trivial⟩
theorem B_22 (h : INV s) : BOi s 24 1 [(0, .ref 0)] 250 3 [(0, .ref 44)] (fun _ _ => True) := by
  refine bo_i h (oC_22 h.1 h.2.1) (fun s1 c1 m1 a1 b1 => ?_)
  have q := alk0 h b1
  exact ⟨_, _, oM_22 c1 m1, q, trivial⟩
theorem B_23 (h : INV s) (x1 : Int32) (x2 : Int32) : BOi s 25 3 [(0, .ref 0), (1, .int x1), (2, .int x2)] 251 3 [(0, .ref 44), (1, .int x1), (2, .int x2)] (fun _ _ => True) := by
  refine bo_i h (oC_23 h.1 h.2.1 x1 x2) (fun s1 c1 m1 a1 b1 => ?_)
  have q := alk0 h b1
  exact ⟨_, _, oM_23 c1 m1 x1 x2, q, trivial⟩
theorem B_24 (h : INV s) (x1 : Int32) : BOi s 26 2 [(0, .ref 0), (1, .int x1)] 253 2 [(0, .ref 44), (1, .int x1)] (fun _ _ => True) := by
  refine bo_i h (oC_24 h.1 h.2.1 x1) (fun s1 c1 m1 a1 b1 => ?_)
  have q := alk0 h b1
  exact ⟨_, _, oM_24 c1 m1 x1, q, trivial⟩
theorem B_25 (h : INV s) (x1 : Int32) (x2 : Int32) : BOi s 27 4 [(0, .ref 0), (1, .int x1), (2, .int x2)] 254 8 [(0, .ref 44), (1, .int x1), (2, .int x2)] (fun _ _ => True) := by
  obtain ⟨v, hc⟩ := oC_25 h.1 h.2.1 x1 x2
  refine bo_i h hc (fun s1 c1 m1 a1 b1 => ?_)
  have q := alk0 h b1
  obtain ⟨v, hm⟩ := oM_25 c1 m1 x1 x2
  exact ⟨_, _, hm, q, trivial⟩
theorem B_26 (h : INV s) (x1 : Int32) : BOi s 30 2 [(0, .ref 0), (1, .int x1)] 256 17 [(0, .ref 44), (1, .int x1)] (fun _ _ => True) := by
  obtain ⟨a, b, d, hc⟩ := oC_26 h.1 h.2.1 x1
  refine bo_i h hc (fun s1 c1 m1 a1 b1 => ?_)
  have q := alk0 h b1
  exact ⟨_, _, oM_26 c1 m1 x1, q, trivial⟩
theorem B_27 (h : INV s) (x1 : Int32) : BOi s 31 2 [(0, .ref 0), (1, .int x1)] 259 2 [(0, .ref 44), (1, .int x1)] (fun _ _ => True) := by
  refine bo_i h (oC_27 h.1 h.2.1 x1) (fun s1 c1 m1 a1 b1 => ?_)
  have q := alk0 h b1
  exact ⟨_, _, oM_27 c1 m1 x1, q, trivial⟩
theorem B_28 (h : INV s) : BOi s 32 3 [(0, .ref 0)] 260 3 [(0, .ref 44)] (fun _ _ => True) := by
  refine bo_i h (oC_28 h.1 h.2.1) (fun s1 c1 m1 a1 b1 => ?_)
  have q := alk0 h b1
  exact ⟨_, _, oM_28 c1 m1, q, trivial⟩
theorem B_29 (h : INV s) (x1 : Int32) : BOi s 33 2 [(0, .ref 0), (1, .int x1)] 264 2 [(0, .ref 44), (1, .int x1)] (fun _ _ => True) := by
  refine bo_i h (oC_29 h.1 h.2.1 x1) (fun s1 c1 m1 a1 b1 => ?_)
  have q := alk0 h b1
  exact ⟨_, _, oM_29 c1 m1 x1, q, trivial⟩
theorem B_30 (h : INV s) (x1 : Int32) (x2 : Int32) : BOi s 34 4 [(0, .ref 0), (1, .int x1), (2, .int x2)] 266 6 [(0, .ref 44), (1, .int x1), (2, .int x2)] (fun _ _ => True) := by
  refine bo_i h (oC_30 h.1 h.2.1 x1 x2) (fun s1 c1 m1 a1 b1 => ?_)
  have q := alk0 h b1
  exact ⟨_, _, oM_30 c1 m1 x1 x2, q, trivial⟩
theorem B_31 (h : INV s) : BOj s 35 4 [(0, .ref 0)] 269 4 [(0, .ref 44)] (fun _ _ => True) := by
  refine bo_j h (oC_31 h.1 h.2.1) (fun s1 c1 m1 a1 b1 => ?_)
  have q := alk0 h b1
  exact ⟨_, _, oM_31 c1 m1, q, trivial⟩
theorem B_32 (h : INV s) (x1 : Int32) : BOi s 36 2 [(0, .ref 0), (1, .int x1)] 270 2 [(0, .ref 44), (1, .int x1)] (fun v w => v = w) := by
  refine bo_i h (oC_32 h.1 h.2.1 x1) (fun s1 c1 m1 a1 b1 => ?_)
  have q := alk0 h b1
  exact ⟨_, _, oM_32 c1 m1 x1, q, rfl⟩
theorem B_33 (h : INV s) (x1 : Int32) : BOi s 37 2 [(0, .ref 0), (1, .int x1)] 274 2 [(0, .ref 44), (1, .int x1)] (fun _ _ => True) := by
  refine bo_i h (oC_33 h.1 h.2.1 x1) (fun s1 c1 m1 a1 b1 => ?_)
  have q := alk0 h b1
  exact ⟨_, _, oM_33 c1 m1 x1, q, trivial⟩
theorem B_34 (h : INV s) : BOj s 38 4 [(0, .ref 0)] 275 4 [(0, .ref 44)] (fun _ _ => True) := by
  refine bo_j h (oC_34 h.1 h.2.1) (fun s1 c1 m1 a1 b1 => ?_)
  have q := alk0 h b1
  exact ⟨_, _, oM_34 c1 m1, q, trivial⟩
theorem B_35 (h : INV s) (x1 : Int32) (x2 : Int32) : BOi s 39 3 [(0, .ref 0), (1, .int x1), (2, .int x2)] 276 3 [(0, .ref 44), (1, .int x1), (2, .int x2)] (fun _ _ => True) := by
  refine bo_i h (oC_35 h.1 h.2.1 x1 x2) (fun s1 c1 m1 a1 b1 => ?_)
  have q := alk0 h b1
  exact ⟨_, _, oM_35 c1 m1 x1 x2, q, trivial⟩
theorem B_36 (h : INV s) (x1 : Int32) : BOi s 40 2 [(0, .ref 0), (1, .int x1)] 278 7 [(0, .ref 44), (1, .int x1)] (fun _ _ => True) := by
  refine bo_i h (oC_36 h.1 h.2.1 x1) (fun s1 c1 m1 a1 b1 => ?_)
  have q := alk0 h b1
  exact ⟨_, _, oM_36 c1 m1 x1, q, trivial⟩
theorem B_37 (h : INV s) (x1 : Int32) : BOi s 41 2 [(0, .ref 0), (1, .int x1)] 279 2 [(0, .ref 44), (1, .int x1)] (fun _ _ => True) := by
  refine bo_i h (oC_37 h.1 h.2.1 x1) (fun s1 c1 m1 a1 b1 => ?_)
  have q := alk0 h b1
  exact ⟨_, _, oM_37 c1 m1 x1, q, trivial⟩
theorem B_38 (h : INV s) (x1 : Int32) : BOi s 42 2 [(0, .ref 0), (1, .int x1)] 280 2 [(0, .ref 44), (1, .int x1)] (fun _ _ => True) := by
  refine bo_i h (oC_38 h.1 h.2.1 x1) (fun s1 c1 m1 a1 b1 => ?_)
  have q := alk0 h b1
  exact ⟨_, _, oM_38 c1 m1 x1, q, trivial⟩
theorem B_39 (h : INV s) (x1 : Int32) : BOi s 43 2 [(0, .ref 0), (1, .int x1)] 265 2 [(0, .ref 44), (1, .int x1)] (fun _ _ => True) := by
  refine bo_i h (oC_39 h.1 h.2.1 x1) (fun s1 c1 m1 a1 b1 => ?_)
  have q := alk0 h b1
  exact ⟨_, _, oM_39 c1 m1 x1, q, trivial⟩
theorem B_40 (h : INV s) : BOi s 44 1 [(0, .ref 0)] 283 7 [(0, .ref 44)] (fun _ _ => True) := by
  refine bo_i h (oC_40 h.1 h.2.1) (fun s1 c1 m1 a1 b1 => ?_)
  have q := alk0 h b1
  exact ⟨_, _, oM_40 c1 m1, q, trivial⟩
theorem B_41 (h : INV s) : BOi s 45 1 [(0, .ref 0)] 284 6 [(0, .ref 44)] (fun _ _ => True) := by
  refine bo_i h (oC_41 h.1 h.2.1) (fun s1 c1 m1 a1 b1 => ?_)
  have q := alk0 h b1
  exact ⟨_, _, oM_41 c1 m1, q, trivial⟩
theorem B_42 (h : INV s) : BOi s 46 1 [(0, .ref 0)] 285 4 [(0, .ref 44)] (fun _ _ => True) := by
  refine bo_i h (oC_42 h.1 h.2.1) (fun s1 c1 m1 a1 b1 => ?_)
  have q := alk0 h b1
  exact ⟨_, _, oM_42 c1 m1, q, trivial⟩
theorem B_43 (h : INV s) : BOi s 47 1 [(0, .ref 0)] 286 6 [(0, .ref 44)] (fun _ _ => True) := by
  refine bo_i h (oC_43 h.1 h.2.1) (fun s1 c1 m1 a1 b1 => ?_)
  have q := alk0 h b1
  exact ⟨_, _, oM_43 c1 m1, q, trivial⟩
theorem B_44 (h : INV s) : BOi s 48 1 [(0, .ref 0)] 288 7 [(0, .ref 44)] (fun _ _ => True) := by
  refine bo_i h (oC_44 h.1 h.2.1) (fun s1 c1 m1 a1 b1 => ?_)
  have q := alk0 h b1
  exact ⟨_, _, oM_44 c1 m1, q, trivial⟩
theorem B_45 (h : INV s) : BOi s 49 3 [(0, .ref 0)] 291 3 [(0, .ref 44)] (fun _ _ => True) := by
  refine bo_i h (oC_45 h.1 h.2.1) (fun s1 c1 m1 a1 b1 => ?_)
  have q := alk0 h b1
  exact ⟨_, _, oM_45 c1 m1, q, trivial⟩
theorem B_46 (h : INV s) (x1 : Int32) : BOi s 50 2 [(0, .ref 0), (1, .int x1)] 271 6 [(0, .ref 44), (1, .int x1)] (fun _ _ => True) := by
  refine bo_i h (oC_46 h.1 h.2.1 x1) (fun s1 c1 m1 a1 b1 => ?_)
  have q := alk0 h b1
  exact ⟨_, _, oM_46 c1 m1 x1, q, trivial⟩
theorem B_47 (h : INV s) : BOi s 51 2 [(0, .ref 0)] 293 2 [(0, .ref 44)] (fun _ _ => True) := by
  refine bo_i h (oC_47 h.1 h.2.1) (fun s1 c1 m1 a1 b1 => ?_)
  have q := alk0 h b1
  exact ⟨_, _, oM_47 c1 m1, q, trivial⟩
theorem B_48 (h : INV s) : BOi s 52 2 [(0, .ref 0)] 294 2 [(0, .ref 44)] (fun _ _ => True) := by
  refine bo_i h (oC_48 h.1 h.2.1) (fun s1 c1 m1 a1 b1 => ?_)
  have q := alk0 h b1
  exact ⟨_, _, oM_48 c1 m1, q, trivial⟩
theorem B_49 (h : INV s) : BOi s 53 2 [(0, .ref 0)] 267 2 [(0, .ref 44)] (fun _ _ => True) := by
  refine bo_i h (oC_49 h.1 h.2.1) (fun s1 c1 m1 a1 b1 => ?_)
  have q := alk0 h b1
  exact ⟨_, _, oM_49 c1 m1, q, trivial⟩
theorem B_50 (h : INV s) (x1 : Int32) : BOi s 54 3 [(0, .ref 0), (1, .int x1)] 296 5 [(0, .ref 44), (1, .int x1)] (fun _ _ => True) := by
  refine bo_i h (oC_50 h.1 h.2.1 x1) (fun s1 c1 m1 a1 b1 => ?_)
  have q := alk0 h b1
  exact ⟨_, _, oM_50 c1 m1 x1, q, trivial⟩
theorem B_51 (h : INV s) (x1 : Int32) : BOi s 55 3 [(0, .ref 0), (1, .int x1)] 297 3 [(0, .ref 44), (1, .int x1)] (fun _ _ => True) := by
  refine bo_i h (oC_51 h.1 h.2.1 x1) (fun s1 c1 m1 a1 b1 => ?_)
  have q := alk0 h b1
  exact ⟨_, _, oM_51 c1 m1 x1, q, trivial⟩
theorem B_52 (h : INV s) : BOi s 56 1 [(0, .ref 0)] 301 1 [(0, .ref 44)] (fun v w => v = w) := by
  refine bo_i h (oC_52 h.1 h.2.1) (fun s1 c1 m1 a1 b1 => ?_)
  have q := alk0 h b1
  exact ⟨_, _, oM_52 c1 m1, ⟨q.1, ⟨fun e => (by cases e), fun e => (by cases e)⟩⟩, rfl⟩
theorem B_53 (h : INV s) : BOi s 57 1 [(0, .ref 0)] 302 1 [(0, .ref 44)] (fun v w => v = w) := by
  refine bo_i h (oC_53 h.1 h.2.1) (fun s1 c1 m1 a1 b1 => ?_)
  have q := alk0 h b1
  exact ⟨_, _, oM_53 c1 m1, q, vB q.2⟩
theorem B_54 (h : INV s) (x1 : Int32) : BOi s 58 2 [(0, .ref 0), (1, .int x1)] 303 4 [(0, .ref 44), (1, .int x1)] (fun _ _ => True) := by
  obtain ⟨v, hc⟩ := oC_54 h.1 h.2.1 x1
  refine bo_i h hc (fun s1 c1 m1 a1 b1 => ?_)
  have q := alk0 h b1
  obtain ⟨v, hm⟩ := oM_54 c1 m1 x1
  exact ⟨_, _, hm, q, trivial⟩
end BO
