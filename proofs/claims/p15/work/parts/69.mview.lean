/-! ===== the reference's missed trees, free cells, paths and symmetries ===== -/
section MC
variable {s : St}
/-- a tree is blighted for a while, something is counted, and it is itself again -/
noncomputable def blT (g : Gd) (t : Int32) : Gd := uK g ((kS g).set t.toNatClampNeg (i3 4))
theorem tryK (h : ok (md s 44)) (z : Sz s) {t : Int32} (ht : isT (md s 44) t) {P : tH → Option (Int32 × tH)} {V : Gd → Int32} (hg : ok (blT (md s 44) t)) (hP : ∀ s1, ok (md s1 44) → Sz s1 → ∃ s', P (H s1) = some (V (md s1 44), H s') ∧ eF s1 s') : ∃ s2 s3, sI (H s) 61 t (i3 4) = some (H (wM s 44 (blT (md s 44) t))) ∧ P (H (wM s 44 (blT (md s 44) t))) = some (V (blT (md s 44) t), H s2) ∧ sI (H s2) 61 t (kA (md s 44) t) = some (H s3) ∧ eF s s3 := by
  have hl := h.tl ht
  have hn := h.n_le
  have hL : t.toNatClampNeg < (kS (md s 44)).length := by rw [h.2.2.2.1.1]; omega
  have em := md_wM s 44 (blT (md s 44) t)
  obtain ⟨s2, e2, c2⟩ := hP (wM s 44 (blT (md s 44) t)) (by rw [em]; exact hg) (Sz_wM z)
  rw [em] at e2
  have m2 : md s2 44 = blT (md s 44) t := (c2.1.m (Or.inl rfl)).trans em
  refine ⟨s2, wM s2 44 (md s 44), sI61 s ht.1 hL, e2, ?_, sc_back c2.1, fun o k hk => ?_⟩
  · have hL2 : t.toNatClampNeg < (kS (md s2 44)).length := by
      rw [m2]
      show _ < ((kS (md s 44)).set _ _).length
      rw [List.length_set]; exact hL
    rw [sI61 s2 ht.1 hL2, m2]
    have eb : uK (blT (md s 44) t) ((kS (blT (md s 44) t)).set t.toNatClampNeg (kA (md s 44) t)) = md s 44 := by
      have e1 : (kS (blT (md s 44) t)).set t.toNatClampNeg (kA (md s 44) t) = kS (md s 44) := set_back hL (i3 4)
      rw [e1]
      rfl
    rw [eb]
  · rw [fi_wM]
    have e := c2.2 o k hk
    rw [fi_wM] at e
    split
    · rename_i q; rw [q.1, q.2]; rfl
    split
    · rename_i q; rw [q.1, q.2]; rfl
    split
    · rename_i q; rw [q.1, q.2]; rfl
    split
    · rename_i q; rw [q.1, q.2]; rfl
    rename_i q1 q2 q3 q4
    rw [if_neg q1, if_neg q2, if_neg q3, if_neg q4] at e
    exact e
theorem ok_blT {g : Gd} (h : ok g) {t : Int32} (ht : isT g t) : ok (blT g t) := by
  have h1 := h.tl ht
  have h2 := h.n_le
  refine ⟨h.1, h.2.1, h.2.2.1, ⟨(List.length_set).trans h.2.2.2.1.1, h.2.2.2.1.2⟩, fun u hu => ?_, h.2.2.2.2.2⟩
  have e : kA (blT g t) u = if u = t then i3 4 else kA g u := rd_set ht.1 hu.1 (by rw [h.2.2.2.1.1]; omega)
  rw [e]
  split
  · exact ⟨by decide +kernel, by decide +kernel⟩
  · exact h.2.2.2.2.1 u hu
noncomputable def msO (g : Gd) (t : Int32) : Int32 := V3 g - V3 (blT g t)
theorem q_258 (h : ok (md s 44)) (z : Sz s) {t : Int32} (ht : isT (md s 44) t) : ∃ s', m_258 44 t (H s) = some (msO (md s 44) t, H s') ∧ eF s s' := by
  obtain ⟨s1, e1, f1⟩ := q_243 h z
  have m1 := f1.1.m (Or.inl rfl)
  have h1 : ok (md s1 44) := by rw [m1]; exact h
  have t1 : isT (md s1 44) t := by rw [m1]; exact ht
  obtain ⟨s3, s4, e3, e4, e5, c5⟩ := tryK h1 (f1.1.z z) t1 (P := fun th => m_243 44 th) (V := V3) (ok_blT h1 t1) (fun s1 h1 z1 => q_243 h1 z1)
  refine ⟨s4, ?_, f1.trans c5⟩
  unfold m_258
  rw [(r_m s).1, Option.bind_some, e1, Option.bind_some]
  dsimp only
  unfold m_257
  rw [(r_m s1).1, Option.bind_some, (r_g s1).2.2.2.2.2.1, Option.bind_some, (r_g s1).2.2.2.2.2.2.2.2.2.1, h1.at_k t1, Option.bind_some, Option.bind_some, e3, Option.bind_some, e4, Option.bind_some]
  dsimp only
  rw [(r_g s3).2.2.2.2.2.1, Option.bind_some, e5, Option.bind_some, Option.bind_some, m1]
  rfl
noncomputable def xMissed (g : Gd) (t : Int32) : Int32 := if isT g t then msO g t else i3 (-2)
theorem d_31 (c : Mq s) (t : Int32) : Ans s (m_259 44 t (H s)) (xMissed (md s 44) t) := by
  unfold m_259 xMissed
  rw [(r_m s).1, Option.bind_some, q_191 c.1, Option.bind_some]
  unfold jn
  dsimp only
  rw [bP_if]
  by_cases c1 : isT (md s 44) t
  · rw [if_pos c1, if_pos c1]
    obtain ⟨s1, e1, f1⟩ := q_258 c.1 c.2.1 c1
    rw [e1]
    exact f1.ans
  · rw [if_neg c1, if_neg c1, cst.1]
    exact Ans.mf c.2.2 isB2
noncomputable def leF (g : Gd) (k m : Nat) : Nat := if msO g (i3 (m : Int)) ≤ msO g (i3 (k : Int)) then m else k
noncomputable def xLeast (g : Gd) : Int32 := if tN g = 0 then i3 (-5) else i3 ((fB 1 (nn g) (leF g) 0 : Nat) : Int)
theorem leF_lt {g : Gd} {k m : Nat} (hk : k < nn g) (hm : m < nn g) : leF g k m < nn g := by
  unfold leF
  split
  · exact hm
  · exact hk
theorem d_32 (c : Mq s) : Ans s (m_260 44 (H s)) (xLeast (md s 44)) := by
  have h := c.1
  have hn := h.n_le
  unfold m_260 xLeast
  rw [(r_m s).1, Option.bind_some, (r_g s).2.2.1, Option.bind_some]
  by_cases c1 : tN (md s 44) = 0
  · rw [if_pos c1, if_pos c1, cst.2.2.2.1]
    exact Ans.mf c.2.2 isB5
  rw [if_neg c1, if_neg c1]
  have hn1 : 1 ≤ nn (md s 44) := by
    rcases Nat.eq_zero_or_pos (nn (md s 44)) with e | e
    · exact absurd (h.n_eq.trans (by rw [e]; rfl)) c1
    · exact e
  suffices T (lp (fun (s2 : Int32 × Int32 × tH) nx3 ex4 => (gI s2.2.2 8 44 10).bind fun x6 => if x6 ≤ s2.2.1 then ex4 (s2.1, s2.2.2) else (m_258 44 s2.2.1 s2.2.2).bind fun q7 => (m_258 44 s2.1 q7.2).bind fun q8 => jn (fun (v9 : Int32) => nx3 (v9, (s2.2.1 + Int32.ofInt 1), q8.2)) (fun j10 => if q8.1 ≤ q7.1 then j10 s2.1 else j10 s2.2.1)) 4096 ((Int32.ofInt 0), (Int32.ofInt 1), H s) (fun (x5 : Int32 × tH) => some (x5.1, x5.2))) (fun r => ∃ s', r = (i3 ((fB 1 (nn (md s 44)) (leF (md s 44)) 0 : Nat) : Int), H s') ∧ eF s s') by
    obtain ⟨_, e, s', rfl, f⟩ := this
    rw [e]
    exact f.ans
  have hm : ∀ k, k ≤ nn (md s 44) - 1 → itr (fun i => leF (md s 44) (1 + i)) k 0 < nn (md s 44) := fun k hk => itr_inv (P := fun j => j < nn (md s 44)) _ _ (by omega) (fun i b hi hb => leF_lt (by omega) hb)
  refine lpH (nn (md s 44) - 1) (fun k q => ∃ s', q = (i3 ((itr (fun i => leF (md s 44) (1 + i)) k 0 : Nat) : Int), i3 ((1 + k : Nat) : Int), H s') ∧ eF s s') (fun x => ∃ s', x = (i3 ((fB 1 (nn (md s 44)) (leF (md s 44)) 0 : Nat) : Int), H s') ∧ eF s s') ?_ ?_ ?_ ?_ (by omega)
  · rintro k _ hk ⟨s1, rfl, f1⟩ nx ex hnx hex
    have m1 := f1.1.m (Or.inl rfl)
    have h1 : ok (md s1 44) := by rw [m1]; exact h
    have hk1 : 1 + k < nn (md s 44) := by omega
    obtain ⟨s2, e2, f2⟩ := q_258 h1 (f1.1.z c.2.1) (t := i3 ((1 + k : Nat) : Int)) (by rw [m1]; exact h.T hk1)
    have m2 := f2.1.m (Or.inl rfl)
    have h2 : ok (md s2 44) := by rw [m2]; exact h1
    obtain ⟨s3, e3, f3⟩ := q_258 h2 (f2.1.z (f1.1.z c.2.1)) (t := i3 ((itr (fun i => leF (md s 44) (1 + i)) k 0 : Nat) : Int)) (by rw [m2, m1]; exact h.T (hm k (by omega)))
    rw [m2, m1] at e3
    rw [m1] at e2
    dsimp only
    rw [(r_g s1).2.2.1, Option.bind_some, m1, if_neg (h.T hk1).2, e2, Option.bind_some]
    dsimp only
    rw [e3, Option.bind_some]
    unfold jn
    dsimp only
    rw [i3_nat_add]
    have hF : itr (fun i => leF (md s 44) (1 + i)) (k + 1) 0 = leF (md s 44) (1 + k) (itr (fun i => leF (md s 44) (1 + i)) k 0) := rfl
    by_cases d : msO (md s 44) (i3 ((itr (fun i => leF (md s 44) (1 + i)) k 0 : Nat) : Int)) ≤ msO (md s 44) (i3 ((1 + k : Nat) : Int))
    · rw [if_pos d]
      refine hnx _ ⟨s3, ?_, (f1.trans f2).trans f3⟩
      rw [hF, show leF (md s 44) (1 + k) _ = _ from if_pos d]
      rfl
    · rw [if_neg d]
      refine hnx _ ⟨s3, ?_, (f1.trans f2).trans f3⟩
      rw [hF, show leF (md s 44) (1 + k) _ = _ from if_neg d]
      rfl
  · rintro _ ⟨s1, rfl, f1⟩ nx ex hex
    have m1 := f1.1.m (Or.inl rfl)
    dsimp only
    rw [(r_g s1).2.2.1, Option.bind_some, m1, if_pos (h.Te (by omega) (by omega))]
    exact hex _ ⟨s1, rfl, f1⟩
  · rintro _ ⟨s1, rfl, f1⟩
    exact T_some ⟨s1, rfl, f1⟩
  · exact ⟨s, rfl, eF.refl s⟩
theorem mS {R : Type} (x : Option Nat) (a b : R) [i : Decidable (¬ x = none)] : (match x with | some _ => a | none => b) = @ite _ (¬ x = none) i a b := by
  cases x with
  | none => exact (if_neg (fun q => q rfl)).symm
  | some j => exact (if_pos (fun q => by cases q)).symm
/-- where nothing may stand -/
abbrev noP (g : Gd) (c : Int32) (i j : Nat) : Prop := ¬ kA g (i3 (i : Int)) = i3 4 ∧ ¬ kA g (i3 (j : Int)) = i3 4 ∧ dar g (cA g (i3 (i : Int))) (cA g (i3 (j : Int))) c = 0
abbrev noI (g : Gd) (c : Int32) (i : Nat) : Prop := ¬ fst? (fun j => decide (noP g c i j)) i 0 = none
abbrev mst (g : Gd) (c : Int32) : Prop := tIn g c = i3 (-1) ∧ fst? (fun i => decide (noI g c i)) (nn g) 0 = none
theorem q_268 (h : ok (md s 44)) (c : Int32) : m_268 44 c (H s) = some (bP (mst (md s 44) c)) := by
  have hn := h.n_le
  unfold m_268
  rw [(r_m s).1, Option.bind_some, q_194 h, Option.bind_some]
  by_cases c0 : tIn (md s 44) c = i3 (-1)
  · rw [if_pos (show tIn (md s 44) c = Int32.ofInt (-1) from c0)]
    refine (lpS (nn (md s 44)) (by have := h.n_le; omega) (fun t => t) () (fun i => decide (noI (md s 44) c i)) (fun _ => some (i3 0)) ?_ ?_).trans ?_
    · intro k nx ex hk
      simp only [r_g, Option.bind_some, (h.T hk).2, ↓reduceIte, h.at_k (h.T hk), h.at_c (h.T hk)]
      refine (lpS k (by omega) (fun t => t) () (fun j => decide (noP (md s 44) c k j)) (fun _ => some (i3 0)) ?_ ?_).trans ?_
      · intro j nx2 ex2 hj
        have hj2 : j < nn (md s 44) := by omega
        simp only [nle hj (by omega), Option.bind_some, ↓reduceIte, h.at_k (h.T hj2), h.at_c (h.T hj2), q_236 h, jn, bP_if, decide_eq_true_eq]
        by_cases d1 : kA (md s 44) (i3 (k : Int)) = i3 4
        · rw [if_pos (show _ = Int32.ofInt 4 from d1), if_neg (fun e => e.1 d1)]
        rw [if_neg (show ¬ _ = Int32.ofInt 4 from d1)]
        by_cases d2 : kA (md s 44) (i3 (j : Int)) = i3 4
        · rw [if_pos (show _ = Int32.ofInt 4 from d2), if_neg (fun e => e.2.1 d2)]
        rw [if_neg (show ¬ _ = Int32.ofInt 4 from d2)]
        by_cases d3 : dar (md s 44) (cA (md s 44) (i3 (k : Int))) (cA (md s 44) (i3 (j : Int))) c = 0
        · rw [if_pos d3, if_pos ⟨d1, d2, d3⟩]
          rfl
        · rw [if_neg d3, if_neg (fun e => d3 e.2.2)]
      · intro nx2 ex2
        simp only [Int32.le_refl, ↓reduceIte]
      · simp only [decide_eq_true_eq]
        exact mS _ _ _
    · intro nx ex
      simp only [r_g, Option.bind_some, h.Te (Nat.le_refl _) (by have := h.n_le; omega), ↓reduceIte]
    · refine (mS _ _ _).trans ?_
      by_cases e : fst? (fun i => decide (noI (md s 44) c i)) (nn (md s 44)) 0 = none
      · rw [if_neg (fun q => q e), show bP (mst (md s 44) c) = i3 1 from if_pos ⟨c0, e⟩]
        rfl
      · rw [if_pos e, show bP (mst (md s 44) c) = i3 0 from if_neg (fun q => e q.2)]
  · rw [if_neg (show ¬ tIn (md s 44) c = Int32.ofInt (-1) from c0), show bP (mst (md s 44) c) = i3 0 from if_neg (fun q => c0 q.1)]
    rfl
abbrev b64 (k : Nat) : Int64 := (Int64.ofNat 1) <<< ((Int32.toInt64 (i3 (k : Int))) &&& 63)
noncomputable def maF (g : Gd) (k : Nat) (m : Int64) : Int64 := if mst g (i3 (k : Int)) then m ||| b64 k else m
noncomputable def xMay (g : Gd) : Int64 := itr (maF g) (dn g * dn g) (Int64.ofNat 0)
theorem lor0 (m : Int64) : m ||| Int64.ofNat 0 = m := Int64.or_zero
theorem q_269 (h : ok (md s 44)) : m_269 44 (H s) = some (xMay (md s 44)) := by
  have hcc := h.cc_le
  unfold m_269
  rw [(r_m s).1, Option.bind_some]
  refine (lp0 (dn (md s 44) * dn (md s 44)) (by omega) (fun t (a : Int64) => (a, t)) (fun a => a) (maF (md s 44)) (fun _ => True) (Int64.ofNat 0) ?_ (fun _ _ _ _ => trivial) ?_ trivial).trans rfl
  · intro k m nx ex hk _
    dsimp only
    rw [q_192, Option.bind_some, if_neg (h.C hk).2, q_268 h, Option.bind_some]
    unfold jn
    dsimp only
    rw [bP_if]
    unfold maF
    by_cases d : mst (md s 44) (i3 (k : Int))
    · rw [if_pos d, if_pos d]
    · rw [if_neg d, if_neg d, lor0]
  · intro a nx ex _
    dsimp only
    rw [q_192, Option.bind_some, if_pos (h.Ce (Nat.le_refl _) (by have := h.cc_le; omega))]
end MC
