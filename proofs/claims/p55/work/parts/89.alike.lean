section
/-! ===== each call as a run ===== -/
noncomputable def CRi (s : St) (i nL : Nat) (lv : tL) (v : Int32) (A : Ab) : Prop := ∃ n s', t_exec t_ctf t_mif n none 10 i nL 0 lv [] (H s) 0 = some (some (.int v), H s', 0) ∧ CI s' ∧ MI s' ∧ abC s' = A ∧ abM s' = abM s ∧ nm s' = nm s
noncomputable def CRj (s : St) (i nL : Nat) (lv : tL) (v : Int64) (A : Ab) : Prop := ∃ n s', t_exec t_ctf t_mif n none 10 i nL 0 lv [] (H s) 0 = some (some (.long v), H s', 0) ∧ CI s' ∧ MI s' ∧ abC s' = A ∧ abM s' = abM s ∧ nm s' = nm s
noncomputable def MRi (s : St) (i nL : Nat) (lv : tL) (v : Int32) (A : Ab) : Prop := ∃ n s' m, t_exec t_ctf t_mif n none 10 i nL 0 lv [] (H s) 0 = some (some (.int v), H s', m) ∧ CI s' ∧ MI s' ∧ abC s' = abC s ∧ abM s' = A ∧ m + 806 * nm s = 806 * nm s'
noncomputable def MRj (s : St) (i nL : Nat) (lv : tL) (v : Int64) (A : Ab) : Prop := ∃ n s' m, t_exec t_ctf t_mif n none 10 i nL 0 lv [] (H s) 0 = some (some (.long v), H s', m) ∧ CI s' ∧ MI s' ∧ abC s' = abC s ∧ abM s' = A ∧ m + 806 * nm s = 806 * nm s'
section RU
variable {s : St} {i nL : Nat} {lv : tL} {A : Ab}
theorem MI.nm2 (m : MI s) : nm s ≤ 2 := m.2.2.2.1.1.nm2
theorem MI.ln (m : MI s) : (H s).length = 67 + 23 * nm s := H_ln s m.nm2
theorem CC.ri {m : Option (Int32 × tH)} {v : Int32} (h : CC s m v A) (mi : MI s) (S : Wx (67 + 23 * nm s) (fun (x : Int32 × tH) => (some (.int x.1), x.2)) 10 i nL 0 lv [] (H s) m) (nd : (lv.map Prod.fst).Nodup) : CRi s i nL lv v A := by
  obtain ⟨s', e, c', em, a⟩ := h
  obtain ⟨l, n, ex⟩ := S.run mi.ln (by have := mi.nm2; omega) e nd
  exact ⟨n, s', ex, c', em.mi mi, a, em.ab mi.2.2.2.1.1, em.krn.2.2⟩
theorem CC.rj {m : Option (Int64 × tH)} {v : Int64} (h : CC s m v A) (mi : MI s) (S : Wx (67 + 23 * nm s) (fun (x : Int64 × tH) => (some (.long x.1), x.2)) 10 i nL 0 lv [] (H s) m) (nd : (lv.map Prod.fst).Nodup) : CRj s i nL lv v A := by
  obtain ⟨s', e, c', em, a⟩ := h
  obtain ⟨l, n, ex⟩ := S.run mi.ln (by have := mi.nm2; omega) e nd
  exact ⟨n, s', ex, c', em.mi mi, a, em.ab mi.2.2.2.1.1, em.krn.2.2⟩
theorem pl_ri {m : Option Int32} {v : Int32} (e : m = some v) (c : CI s) (mi : MI s) (S : Wx (67 + 23 * nm s) (fun (x : Int32) => (some (.int x), H s)) 10 i nL 0 lv [] (H s) m) (nd : (lv.map Prod.fst).Nodup) : CRi s i nL lv v (abC s) := by
  obtain ⟨l, n, ex⟩ := S.run mi.ln (by have := mi.nm2; omega) e nd
  exact ⟨n, s, ex, c, mi, rfl, rfl, rfl⟩
theorem pl_rj {m : Option Int64} {v : Int64} (e : m = some v) (c : CI s) (mi : MI s) (S : Wx (67 + 23 * nm s) (fun (x : Int64) => (some (.long x), H s)) 10 i nL 0 lv [] (H s) m) (nd : (lv.map Prod.fst).Nodup) : CRj s i nL lv v (abC s) := by
  obtain ⟨l, n, ex⟩ := S.run mi.ln (by have := mi.nm2; omega) e nd
  exact ⟨n, s, ex, c, mi, rfl, rfl, rfl⟩
theorem MC.ri {m : Option (Int32 × tH)} {v : Int32} (h : MC s m v A) (c : CI s) (mi : MI s) (S : Wx (67 + 23 * nm s) (fun (x : Int32 × tH) => (some (.int x.1), x.2)) 10 i nL 0 lv [] (H s) m) (nd : (lv.map Prod.fst).Nodup) : MRi s i nL lv v A := by
  obtain ⟨s', e, m', ec, a⟩ := h
  obtain ⟨l, n, ex⟩ := S.run mi.ln (by have := mi.nm2; omega) e nd
  have l' : (H s').length = 67 + 23 * nm s := l
  have := m'.ln
  exact ⟨n, s', 0, ex, ec.ci c, m', ec.ab, a, by omega⟩
theorem MC.rj {m : Option (Int64 × tH)} {v : Int64} (h : MC s m v A) (c : CI s) (mi : MI s) (S : Wx (67 + 23 * nm s) (fun (x : Int64 × tH) => (some (.long x.1), x.2)) 10 i nL 0 lv [] (H s) m) (nd : (lv.map Prod.fst).Nodup) : MRj s i nL lv v A := by
  obtain ⟨s', e, m', ec, a⟩ := h
  obtain ⟨l, n, ex⟩ := S.run mi.ln (by have := mi.nm2; omega) e nd
  have l' : (H s').length = 67 + 23 * nm s := l
  have := m'.ln
  exact ⟨n, s', 0, ex, ec.ci c, m', ec.ab, a, by omega⟩
theorem pm_ri {m : Option Int32} {v : Int32} (e : m = some v) (c : CI s) (mi : MI s) (S : Wx (67 + 23 * nm s) (fun (x : Int32) => (some (.int x), H s)) 10 i nL 0 lv [] (H s) m) (nd : (lv.map Prod.fst).Nodup) : MRi s i nL lv v (abM s) := by
  obtain ⟨l, n, ex⟩ := S.run mi.ln (by have := mi.nm2; omega) e nd
  exact ⟨n, s, 0, ex, c, mi, rfl, rfl, Nat.zero_add _⟩
theorem pm_rj {m : Option Int64} {v : Int64} (e : m = some v) (c : CI s) (mi : MI s) (S : Wx (67 + 23 * nm s) (fun (x : Int64) => (some (.long x), H s)) 10 i nL 0 lv [] (H s) m) (nd : (lv.map Prod.fst).Nodup) : MRj s i nL lv v (abM s) := by
  obtain ⟨l, n, ex⟩ := S.run mi.ln (by have := mi.nm2; omega) e nd
  exact ⟨n, s, 0, ex, c, mi, rfl, rfl, Nat.zero_add _⟩
end RU
section OP
variable {s : St}
theorem oC_0 (c : CI s) (m : MI s) (x1 : Int32) (x2 : Int32) (x3 : Int32) : CRi s 2 5 [(0, .ref 0), (1, .int x1), (2, .int x2), (3, .int x3)] (vRow x1 x2 x3) ((abC s).1, (abC s).2.1, (abC s).2.2.1, sRow (abC s).2.2.2 x1 x2 x3) := (b_2 c x1 x2 x3).ri m (S_2 8 0 x1 x2 x3 (H s)) (show ([0, 1, 2, 3] : List Nat).Nodup by decide)
theorem oM_0 (c : CI s) (m : MI s) (x1 : Int32) (x2 : Int32) (x3 : Int32) : MRi s 199 5 [(0, .ref 44), (1, .int x1), (2, .int x2), (3, .int x3)] (vRow x1 x2 x3) ((abM s).1, (abM s).2.1, (abM s).2.2.1, sRow (abM s).2.2.2 x1 x2 x3) := (e_2 m x1 x2 x3).ri c m (S_199 8 44 x1 x2 x3 (H s)) (show ([0, 1, 2, 3] : List Nat).Nodup by decide)
theorem oC_1 (c : CI s) (m : MI s) (x1 : Int32) (x2 : Int32) (x3 : Int64) : ∃ w, CRi s 3 6 [(0, .ref 0), (1, .int x1), (2, .int x2), (3, .long x3)] (w) ((abC s).1, (abC s).2.1, (abC s).2.2.1, sSet (abC s).2.2.2 x1 x2 x3) := by
  obtain ⟨w, h⟩ := b_3 c x1 x2 x3
  exact ⟨w, h.ri m (S_3 8 0 x1 x2 x3 (H s)) (show ([0, 1, 2, 3] : List Nat).Nodup by decide)⟩
theorem oM_1 (c : CI s) (m : MI s) (x1 : Int32) (x2 : Int32) (x3 : Int64) : ∃ w, MRi s 202 6 [(0, .ref 44), (1, .int x1), (2, .int x2), (3, .long x3)] (w) ((abM s).1, (abM s).2.1, (abM s).2.2.1, sSet (abM s).2.2.2 x1 x2 x3) := by
  obtain ⟨w, h⟩ := e_3 m x1 x2 x3
  exact ⟨w, h.ri c m (S_202 7 44 x1 x2 x3 (H s)) (show ([0, 1, 2, 3] : List Nat).Nodup by decide)⟩
theorem oC_2 (c : CI s) (m : MI s) (x1 : Int32) (x2 : Int32) (x3 : Int32) (x4 : Int32) (x5 : Int32) : ∃ w, CRi s 4 8 [(0, .ref 0), (1, .int x1), (2, .int x2), (3, .int x3), (4, .int x4), (5, .int x5)] (w) ((abC s).1, (abC s).2.1, (abC s).2.2.1, sCopy (abC s).2.2.2 x1 x2 x3 x4 x5) := by
  obtain ⟨w, h⟩ := b_4 c x1 x2 x3 x4 x5
  exact ⟨w, h.ri m (S_4 8 0 x1 x2 x3 x4 x5 (H s)) (show ([0, 1, 2, 3, 4, 5] : List Nat).Nodup by decide)⟩
theorem oM_2 (c : CI s) (m : MI s) (x1 : Int32) (x2 : Int32) (x3 : Int32) (x4 : Int32) (x5 : Int32) : ∃ w, MRi s 203 7 [(0, .ref 44), (1, .int x1), (2, .int x2), (3, .int x3), (4, .int x4), (5, .int x5)] (w) ((abM s).1, (abM s).2.1, (abM s).2.2.1, sCopy (abM s).2.2.2 x1 x2 x3 x4 x5) := by
  obtain ⟨w, h⟩ := e_4 m x1 x2 x3 x4 x5
  exact ⟨w, h.ri c m (S_203 8 44 x1 x2 x3 x4 x5 (H s)) (show ([0, 1, 2, 3, 4, 5] : List Nat).Nodup by decide)⟩
theorem oC_3 (c : CI s) (m : MI s) (x1 : Int32) (x2 : Int32) : CRj s 5 4 [(0, .ref 0), (1, .int x1), (2, .int x2)] (elV (abC s).2.2.2 x1 x2) (abC s) := pl_rj (b_5 c x1 x2) c m (S_5 9 0 x1 x2 (H s)) (show ([0, 1, 2] : List Nat).Nodup by decide)
theorem oM_3 (c : CI s) (m : MI s) (x1 : Int32) (x2 : Int32) : MRj s 204 3 [(0, .ref 44), (1, .int x1), (2, .int x2)] (elV (abM s).2.2.2 x1 x2) (abM s) := pm_rj (e_5 m x1 x2) c m (S_204 9 44 x1 x2 (H s)) (show ([0, 1, 2] : List Nat).Nodup by decide)
theorem oC_4 (c : CI s) (m : MI s) (x1 : Int32) : ∃ w, CRi s 6 3 [(0, .ref 0), (1, .int x1)] (w) (abC s) := by
  obtain ⟨w, h⟩ := b_6 c x1
  exact ⟨w, pl_ri h c m (S_6 9 0 x1 (H s)) (show ([0, 1] : List Nat).Nodup by decide)⟩
theorem oM_4 (c : CI s) (m : MI s) (x1 : Int32) : ∃ w, MRi s 205 2 [(0, .ref 44), (1, .int x1)] (w) (abM s) := by
  obtain ⟨w, h⟩ := e_6 m x1
  exact ⟨w, pm_ri h c m (S_205 9 44 x1 (H s)) (show ([0, 1] : List Nat).Nodup by decide)⟩
theorem oC_5 (c : CI s) (m : MI s) (x1 : Int32) (x2 : Int32) : CRi s 7 4 [(0, .ref 0), (1, .int x1), (2, .int x2)] (vShow (gd s 1) x1 x2) ((abC s).1, (abC s).2.1, (abC s).2.2.1, sShow (gd s 1) (abC s).2.2.2 x1 x2) := (b_7 c x1 x2).ri m (S_7 8 0 x1 x2 (H s)) (show ([0, 1, 2] : List Nat).Nodup by decide)
theorem oM_5 (c : CI s) (m : MI s) (x1 : Int32) (x2 : Int32) : MRi s 206 3 [(0, .ref 44), (1, .int x1), (2, .int x2)] (vShow (md s 44) x1 x2) ((abM s).1, (abM s).2.1, (abM s).2.2.1, sShow (md s 44) (abM s).2.2.2 x1 x2) := (e_7 m x1 x2).ri c m (S_206 8 44 x1 x2 (H s)) (show ([0, 1, 2] : List Nat).Nodup by decide)
theorem oC_6 (c : CI s) (m : MI s) (x1 : Int32) (x2 : Int32) : ∃ v, CRi s 8 4 [(0, .ref 0), (1, .int x1), (2, .int x2)] (v) (abC s) := by
  obtain ⟨v, h⟩ := b_8 c x1 x2
  exact ⟨v, h.ri m (S_8 4 0 x1 x2 (H s)) (show ([0, 1, 2] : List Nat).Nodup by decide)⟩
theorem oM_6 (c : CI s) (m : MI s) (x1 : Int32) (x2 : Int32) : ∃ v, MRi s 209 7 [(0, .ref 44), (1, .int x1), (2, .int x2)] (v) (abM s) := by
  obtain ⟨v, h⟩ := e_8 m x1 x2
  exact ⟨v, h.ri c m (S_209 5 44 x1 x2 (H s)) (show ([0, 1, 2] : List Nat).Nodup by decide)⟩
theorem oC_7 (c : CI s) (m : MI s) (x1 : Int32) : CRi s 9 3 [(0, .ref 0), (1, .int x1)] (vSide (gd s 1) x1) (gSide (gd s 1) x1, (abC s).2) := (b_9 c x1).ri m (S_9 8 0 x1 (H s)) (show ([0, 1] : List Nat).Nodup by decide)
theorem oM_7 (c : CI s) (m : MI s) (x1 : Int32) : MRi s 211 3 [(0, .ref 44), (1, .int x1)] (vSide (md s 44) x1) (gSide (md s 44) x1, (abM s).2) := (e_9 m x1).ri c m (S_211 8 44 x1 (H s)) (show ([0, 1] : List Nat).Nodup by decide)
theorem oC_8 (c : CI s) (m : MI s) (x1 : Int32) (x2 : Int32) (x3 : Int32) : CRi s 10 4 [(0, .ref 0), (1, .int x1), (2, .int x2), (3, .int x3)] (vTree (gd s 1) x1 x2 x3) (gTree (gd s 1) x1 x2 x3, (abC s).2) := (b_10 c x1 x2 x3).ri m (S_10 8 0 x1 x2 x3 (H s)) (show ([0, 1, 2, 3] : List Nat).Nodup by decide)
theorem oM_8 (c : CI s) (m : MI s) (x1 : Int32) (x2 : Int32) (x3 : Int32) : MRi s 213 4 [(0, .ref 44), (1, .int x1), (2, .int x2), (3, .int x3)] (vTree (md s 44) x1 x2 x3) (gTree (md s 44) x1 x2 x3, (abM s).2) := (e_10 m x1 x2 x3).ri c m (S_213 8 44 x1 x2 x3 (H s)) (show ([0, 1, 2, 3] : List Nat).Nodup by decide)
theorem oC_9 (c : CI s) (m : MI s) (x1 : Int32) : CRi s 11 2 [(0, .ref 0), (1, .int x1)] (vWish (gd s 1) x1) (gWish (gd s 1) x1, (abC s).2) := (b_11 c x1).ri m (S_11 8 0 x1 (H s)) (show ([0, 1] : List Nat).Nodup by decide)
theorem oM_9 (c : CI s) (m : MI s) (x1 : Int32) : MRi s 214 2 [(0, .ref 44), (1, .int x1)] (vWish (md s 44) x1) (gWish (md s 44) x1, (abM s).2) := (e_11 m x1).ri c m (S_214 8 44 x1 (H s)) (show ([0, 1] : List Nat).Nodup by decide)
theorem oC_10 (c : CI s) (m : MI s) : CRi s 12 2 [(0, .ref 0)] (wN (gd s 1)) (uW (gd s 1) (i3 0), (abC s).2) := (b_12 c).ri m (S_12 9 0 (H s)) (show ([0] : List Nat).Nodup by decide)
theorem oM_10 (c : CI s) (m : MI s) : MRi s 215 2 [(0, .ref 44)] (wN (md s 44)) (uW (md s 44) (i3 0), (abM s).2) := (e_12 m).ri c m (S_215 9 44 (H s)) (show ([0] : List Nat).Nodup by decide)
theorem oC_11 (c : CI s) (m : MI s) (x1 : Int32) (x2 : Int32) : CRi s 13 5 [(0, .ref 0), (1, .int x1), (2, .int x2)] (vMove (gd s 1) x1 x2) (gMove (gd s 1) x1 x2, (abC s).2) := (b_13 c x1 x2).ri m (S_13 7 0 x1 x2 (H s)) (show ([0, 1, 2] : List Nat).Nodup by decide)
theorem oM_11 (c : CI s) (m : MI s) (x1 : Int32) (x2 : Int32) : MRi s 217 5 [(0, .ref 44), (1, .int x1), (2, .int x2)] (vMove (md s 44) x1 x2) (gMove (md s 44) x1 x2, (abM s).2) := (e_13 m x1 x2).ri c m (S_217 7 44 x1 x2 (H s)) (show ([0, 1, 2] : List Nat).Nodup by decide)
theorem oC_12 (c : CI s) (m : MI s) : CRi s 14 1 [(0, .ref 0)] (vFell (gd s 1)) (gFell (gd s 1), (abC s).2) := (b_14 c).ri m (S_14 7 0 (H s)) (show ([0] : List Nat).Nodup by decide)
theorem oM_12 (c : CI s) (m : MI s) : MRi s 219 1 [(0, .ref 44)] (vFell (md s 44)) (gFell (md s 44), (abM s).2) := (e_14 m).ri c m (S_219 7 44 (H s)) (show ([0] : List Nat).Nodup by decide)
theorem oC_13 (c : CI s) (m : MI s) (x1 : Int32) : CRi s 15 2 [(0, .ref 0), (1, .int x1)] (vFeed (ia s 25, fi s 24 1) x1) ((abC s).1, (abC s).2.1, tFeed (ia s 25, fi s 24 1) x1, (abC s).2.2.2) := (b_15 c x1).ri m (S_15 8 0 x1 (H s)) (show ([0, 1] : List Nat).Nodup by decide)
theorem oM_13 (c : CI s) (m : MI s) (x1 : Int32) : MRi s 220 2 [(0, .ref 44), (1, .int x1)] (vFeed (ia s 59, fi s 44 7) x1) ((abM s).1, (abM s).2.1, tFeed (ia s 59, fi s 44 7) x1, (abM s).2.2.2) := (e_15 m x1).ri c m (S_220 8 44 x1 (H s)) (show ([0, 1] : List Nat).Nodup by decide)
theorem oC_14 (c : CI s) (m : MI s) : CRi s 16 2 [(0, .ref 0)] (fi s 24 1) ((abC s).1, (abC s).2.1, (ia s 25, i3 0), (abC s).2.2.2) := (b_16 c).ri m (S_16 9 0 (H s)) (show ([0] : List Nat).Nodup by decide)
theorem oM_14 (c : CI s) (m : MI s) : MRi s 221 2 [(0, .ref 44)] (fi s 44 7) ((abM s).1, (abM s).2.1, (ia s 59, i3 0), (abM s).2.2.2) := (e_16 m).ri c m (S_221 9 44 (H s)) (show ([0] : List Nat).Nodup by decide)
theorem oC_15 (c : CI s) (m : MI s) : CRi s 17 2 [(0, .ref 0)] (vRd (rdG (ia s 25) (fi s 24 1).toNatClampNeg (gd s 1))) (gRd (gd s 1) (rdG (ia s 25) (fi s 24 1).toNatClampNeg (gd s 1)), (abC s).2.1, (ia s 25, i3 0), (abC s).2.2.2) := (b_17 c).ri m (S_17 3 0 (H s)) (show ([0] : List Nat).Nodup by decide)
theorem oM_15 (c : CI s) (m : MI s) : MRi s 234 3 [(0, .ref 44)] (vRd (rdG (ia s 59) (fi s 44 7).toNatClampNeg (md s 44))) (gRd (md s 44) (rdG (ia s 59) (fi s 44 7).toNatClampNeg (md s 44)), (abM s).2.1, (ia s 59, i3 0), (abM s).2.2.2) := by
  obtain ⟨n, s2, m1, e, h1, h2, h3, h4⟩ := run_234 m
  exact ⟨n, s2, m1, e, h2.ci c, h1, h2.ab, h3, h4⟩
theorem oC_16 (c : CI s) (m : MI s) (x1 : Int32) (x2 : Int32) : CRi s 18 3 [(0, .ref 0), (1, .int x1), (2, .int x2)] (vTreeOf (gd s 1) x1 x2) (abC s) := (((a_18 c.1 x1 x2)).cc c).ri m (S_18 5 0 x1 x2 (H s)) (show ([0, 1, 2] : List Nat).Nodup by decide)
theorem oM_16 (c : CI s) (m : MI s) (x1 : Int32) (x2 : Int32) : MRi s 244 3 [(0, .ref 44), (1, .int x1), (2, .int x2)] (vTreeOf (md s 44) x1 x2) (abM s) := (((d_18 m.1 x1 x2)).mc m).ri c m (S_244 5 44 x1 x2 (H s)) (show ([0, 1, 2] : List Nat).Nodup by decide)
theorem oC_17 (c : CI s) (m : MI s) (x1 : Int32) : CRi s 19 2 [(0, .ref 0), (1, .int x1)] (vTreeAt (gd s 1) x1) (abC s) := (((a_19 c.1 x1)).cc c).ri m (S_19 8 0 x1 (H s)) (show ([0, 1] : List Nat).Nodup by decide)
theorem oM_17 (c : CI s) (m : MI s) (x1 : Int32) : MRi s 245 2 [(0, .ref 44), (1, .int x1)] (vTreeAt (md s 44) x1) (abM s) := (((d_19 m.1 x1)).mc m).ri c m (S_245 8 44 x1 (H s)) (show ([0, 1] : List Nat).Nodup by decide)
theorem oC_18 (c : CI s) (m : MI s) (x1 : Int32) : CRi s 20 2 [(0, .ref 0), (1, .int x1)] (vMany (gd s 1) x1) (abC s) := (((a_20 c.1 x1)).cc c).ri m (S_20 5 0 x1 (H s)) (show ([0, 1] : List Nat).Nodup by decide)
theorem oM_18 (c : CI s) (m : MI s) (x1 : Int32) : MRi s 246 4 [(0, .ref 44), (1, .int x1)] (vMany (md s 44) x1) (abM s) := (((d_20 m.1 x1)).mc m).ri c m (S_246 6 44 x1 (H s)) (show ([0, 1] : List Nat).Nodup by decide)
theorem oC_19 (c : CI s) (m : MI s) : CRi s 21 1 [(0, .ref 0)] (nT (RL (gd s 1))) (abC s) := (((a_21 c.1)).cc c).ri m (S_21 5 0 (H s)) (show ([0] : List Nat).Nodup by decide)
theorem oM_19 (c : CI s) (m : MI s) : MRi s 247 1 [(0, .ref 44)] (t3 (RL (md s 44))) (abM s) := (((d_21 m.1)).mc m).ri c m (S_247 5 44 (H s)) (show ([0] : List Nat).Nodup by decide)
theorem oC_20 (c : CI s) (m : MI s) (x1 : Int32) (x2 : Int32) : CRi s 22 4 [(0, .ref 0), (1, .int x1), (2, .int x2)] (vRowAt (gd s 1) x1 x2) (abC s) := (((a_22 c.1 x1 x2)).cc c).ri m (S_22 5 0 x1 x2 (H s)) (show ([0, 1, 2] : List Nat).Nodup by decide)
theorem oM_20 (c : CI s) (m : MI s) (x1 : Int32) (x2 : Int32) : MRi s 248 5 [(0, .ref 44), (1, .int x1), (2, .int x2)] (xRowAt (md s 44) x1 x2) (abM s) := (((d_22 m.1 x1 x2)).mc m).ri c m (S_248 6 44 x1 x2 (H s)) (show ([0, 1, 2] : List Nat).Nodup by decide)
theorem oC_21 (c : CI s) (m : MI s) : CRi s 23 2 [(0, .ref 0)] (vLong (gd s 1)) (abC s) := (((a_23 c.1)).cc c).ri m (S_23 5 0 (H s)) (show ([0] : List Nat).Nodup by decide)
theorem oM_21 (c : CI s) (m : MI s) : MRi s 249 3 [(0, .ref 44)] (xLong (md s 44)) (abM s) := (((d_23 m.1)).mc m).ri c m (S_249 6 44 (H s)) (show ([0] : List Nat).Nodup by decide)
theorem oC_22 (c : CI s) (m : MI s) : CRi s 24 1 [(0, .ref 0)] (vAlone (gd s 1)) (abC s) := (((a_24 c.1)).cc c).ri m (S_24 5 0 (H s)) (show ([0] : List Nat).Nodup by decide)
theorem oM_22 (c : CI s) (m : MI s) : MRi s 250 3 [(0, .ref 44)] (xAlone (md s 44)) (abM s) := (((d_24 m.1)).mc m).ri c m (S_250 5 44 (H s)) (show ([0] : List Nat).Nodup by decide)
theorem oC_23 (c : CI s) (m : MI s) (x1 : Int32) (x2 : Int32) : CRi s 25 3 [(0, .ref 0), (1, .int x1), (2, .int x2)] (vThrough (gd s 1) x1 x2) (abC s) := (((a_25 c.1 x1 x2)).cc c).ri m (S_25 7 0 x1 x2 (H s)) (show ([0, 1, 2] : List Nat).Nodup by decide)
theorem oM_23 (c : CI s) (m : MI s) (x1 : Int32) (x2 : Int32) : MRi s 251 3 [(0, .ref 44), (1, .int x1), (2, .int x2)] (vThrough (md s 44) x1 x2) (abM s) := (((d_25 m.1 x1 x2)).mc m).ri c m (S_251 7 44 x1 x2 (H s)) (show ([0, 1, 2] : List Nat).Nodup by decide)
theorem oC_24 (c : CI s) (m : MI s) (x1 : Int32) : CRi s 26 2 [(0, .ref 0), (1, .int x1)] (vInLine (gd s 1) x1) (abC s) := (((a_26 c.1 x1)).cc c).ri m (S_26 6 0 x1 (H s)) (show ([0, 1] : List Nat).Nodup by decide)
theorem oM_24 (c : CI s) (m : MI s) (x1 : Int32) : MRi s 253 2 [(0, .ref 44), (1, .int x1)] (xInLine (md s 44) x1) (abM s) := (((d_26 m.1 x1)).mc m).ri c m (S_253 5 44 x1 (H s)) (show ([0, 1] : List Nat).Nodup by decide)
theorem oC_25 (c : CI s) (m : MI s) (x1 : Int32) (x2 : Int32) : ∃ v, CRi s 27 4 [(0, .ref 0), (1, .int x1), (2, .int x2)] (v) (abC s) := by
  obtain ⟨v, h⟩ := b_27 c x1 x2
  exact ⟨v, h.ri m (S_27 6 0 x1 x2 (H s)) (show ([0, 1, 2] : List Nat).Nodup by decide)⟩
theorem oM_25 (c : CI s) (m : MI s) (x1 : Int32) (x2 : Int32) : ∃ v, MRi s 254 8 [(0, .ref 44), (1, .int x1), (2, .int x2)] (v) (abM s) := by
  obtain ⟨v, h⟩ := e_27 m x1 x2
  exact ⟨v, h.ri c m (S_254 7 44 x1 x2 (H s)) (show ([0, 1, 2] : List Nat).Nodup by decide)⟩
theorem oC_26 (c : CI s) (m : MI s) (x1 : Int32) : ∃ a b d, CRi s 30 2 [(0, .ref 0), (1, .int x1)] (vGap (gd s 1) (a, i3 (-1), b, d) x1) (abC s) := by
  obtain ⟨a, b, d, h⟩ := (a_30 c.1 x1)
  exact ⟨a, b, d, (h.cc c).ri m (S_30 5 0 x1 (H s)) (show ([0, 1] : List Nat).Nodup by decide)⟩
theorem oM_26 (c : CI s) (m : MI s) (x1 : Int32) : MRi s 256 17 [(0, .ref 44), (1, .int x1)] (xGap (md s 44) x1) (abM s) := (((d_30 m.1 x1)).mc m).ri c m (S_256 6 44 x1 (H s)) (show ([0, 1] : List Nat).Nodup by decide)
theorem oC_27 (c : CI s) (m : MI s) (x1 : Int32) : CRi s 31 2 [(0, .ref 0), (1, .int x1)] (vMissed (gd s 1) x1) (abC s) := (((a_31 c.1 x1)).cc c).ri m (S_31 5 0 x1 (H s)) (show ([0, 1] : List Nat).Nodup by decide)
theorem oM_27 (c : CI s) (m : MI s) (x1 : Int32) : MRi s 259 2 [(0, .ref 44), (1, .int x1)] (xMissed (md s 44) x1) (abM s) := (((d_31 m.1 x1)).mc m).ri c m (S_259 3 44 x1 (H s)) (show ([0, 1] : List Nat).Nodup by decide)
theorem oC_28 (c : CI s) (m : MI s) : CRi s 32 3 [(0, .ref 0)] (vLeast (gd s 1)) (abC s) := (((a_32 c.1)).cc c).ri m (S_32 5 0 (H s)) (show ([0] : List Nat).Nodup by decide)
theorem oM_28 (c : CI s) (m : MI s) : MRi s 260 3 [(0, .ref 44)] (xLeast (md s 44)) (abM s) := (((d_32 m.1)).mc m).ri c m (S_260 3 44 (H s)) (show ([0] : List Nat).Nodup by decide)
theorem oC_29 (c : CI s) (m : MI s) (x1 : Int32) : CRi s 33 2 [(0, .ref 0), (1, .int x1)] (vBest (gd s 1) x1) (abC s) := (((a_33 c.1 x1)).cc c).ri m (S_33 5 0 x1 (H s)) (show ([0, 1] : List Nat).Nodup by decide)
theorem oM_29 (c : CI s) (m : MI s) (x1 : Int32) : MRi s 264 2 [(0, .ref 44), (1, .int x1)] (xBest (md s 44) V3 x1) (abM s) := (((d_33 m.1 x1)).mc m).ri c m (S_264 2 44 x1 (H s)) (show ([0, 1] : List Nat).Nodup by decide)
theorem oC_30 (c : CI s) (m : MI s) (x1 : Int32) (x2 : Int32) : CRi s 34 4 [(0, .ref 0), (1, .int x1), (2, .int x2)] (vMoved (gd s 1) x1 x2) (abC s) := (((a_34 c.1 x1 x2)).cc c).ri m (S_34 5 0 x1 x2 (H s)) (show ([0, 1, 2] : List Nat).Nodup by decide)
theorem oM_30 (c : CI s) (m : MI s) (x1 : Int32) (x2 : Int32) : MRi s 266 6 [(0, .ref 44), (1, .int x1), (2, .int x2)] (xMoved (md s 44) x1 x2) (abM s) := (((d_34 m.1 x1 x2)).mc m).ri c m (S_266 5 44 x1 x2 (H s)) (show ([0, 1, 2] : List Nat).Nodup by decide)
theorem oC_31 (c : CI s) (m : MI s) : CRj s 35 4 [(0, .ref 0)] (vMay (gd s 1)) (abC s) := (((a_35 c.1)).cc c).rj m (S_35 5 0 (H s)) (show ([0] : List Nat).Nodup by decide)
theorem oM_31 (c : CI s) (m : MI s) : MRj s 269 4 [(0, .ref 44)] (xMay (md s 44)) (abM s) := pm_rj (q_269 m.1.1) c m (S_269 7 44 (H s)) (show ([0] : List Nat).Nodup by decide)
theorem oC_32 (c : CI s) (m : MI s) (x1 : Int32) : CRi s 36 2 [(0, .ref 0), (1, .int x1)] (vMost x1) (abC s) := (((a_36 c.1 x1)).cc c).ri m (S_36 8 0 x1 (H s)) (show ([0, 1] : List Nat).Nodup by decide)
theorem oM_32 (c : CI s) (m : MI s) (x1 : Int32) : MRi s 270 2 [(0, .ref 44), (1, .int x1)] (vMost x1) (abM s) := (((d_36 m.1 x1)).mc m).ri c m (S_270 8 44 x1 (H s)) (show ([0, 1] : List Nat).Nodup by decide)
theorem oC_33 (c : CI s) (m : MI s) (x1 : Int32) : CRi s 37 2 [(0, .ref 0), (1, .int x1)] (vView (gd s 1) x1) (abC s) := (((a_37 c.1 x1)).cc c).ri m (S_37 4 0 x1 (H s)) (show ([0, 1] : List Nat).Nodup by decide)
theorem oM_33 (c : CI s) (m : MI s) (x1 : Int32) : MRi s 274 2 [(0, .ref 44), (1, .int x1)] (xView (md s 44) x1) (abM s) := (((d_35 m.1 x1)).mc m).ri c m (S_274 6 44 x1 (H s)) (show ([0, 1] : List Nat).Nodup by decide)
theorem oC_34 (c : CI s) (m : MI s) : CRj s 38 4 [(0, .ref 0)] (vOver (gd s 1)) (abC s) := pl_rj (a_38 c.1) c m (S_38 4 0 (H s)) (show ([0] : List Nat).Nodup by decide)
theorem oM_34 (c : CI s) (m : MI s) : MRj s 275 4 [(0, .ref 44)] (xOver (md s 44)) (abM s) := pm_rj (q_275 m.1.1) c m (S_275 6 44 (H s)) (show ([0] : List Nat).Nodup by decide)
theorem oC_35 (c : CI s) (m : MI s) (x1 : Int32) (x2 : Int32) : CRi s 39 3 [(0, .ref 0), (1, .int x1), (2, .int x2)] (vBehind (gd s 1) x1 x2) (abC s) := (((a_39 c.1 x1 x2)).cc c).ri m (S_39 6 0 x1 x2 (H s)) (show ([0, 1, 2] : List Nat).Nodup by decide)
theorem oM_35 (c : CI s) (m : MI s) (x1 : Int32) (x2 : Int32) : MRi s 276 3 [(0, .ref 44), (1, .int x1), (2, .int x2)] (xBehind (md s 44) x1 x2) (abM s) := (((d_38 m.1 x1 x2)).mc m).ri c m (S_276 7 44 x1 x2 (H s)) (show ([0, 1, 2] : List Nat).Nodup by decide)
theorem oC_36 (c : CI s) (m : MI s) (x1 : Int32) : CRi s 40 2 [(0, .ref 0), (1, .int x1)] (vPaths (gd s 1) x1) (abC s) := (((a_40 c.1 x1)).cc c).ri m (S_40 7 0 x1 (H s)) (show ([0, 1] : List Nat).Nodup by decide)
theorem oM_36 (c : CI s) (m : MI s) (x1 : Int32) : MRi s 278 7 [(0, .ref 44), (1, .int x1)] (xPaths (md s 44) x1) (abM s) := (((d_39 m.1 x1)).mc m).ri c m (S_278 8 44 x1 (H s)) (show ([0, 1] : List Nat).Nodup by decide)
theorem oC_37 (c : CI s) (m : MI s) (x1 : Int32) : CRi s 41 2 [(0, .ref 0), (1, .int x1)] (vWishOf (gd s 1) x1) (abC s) := (((a_41 c.1 x1)).cc c).ri m (S_41 8 0 x1 (H s)) (show ([0, 1] : List Nat).Nodup by decide)
theorem oM_37 (c : CI s) (m : MI s) (x1 : Int32) : MRi s 279 2 [(0, .ref 44), (1, .int x1)] (vWishOf (md s 44) x1) (abM s) := (((d_41 m.1 x1)).mc m).ri c m (S_279 8 44 x1 (H s)) (show ([0, 1] : List Nat).Nodup by decide)
theorem oC_38 (c : CI s) (m : MI s) (x1 : Int32) : CRi s 42 2 [(0, .ref 0), (1, .int x1)] (vMet (gd s 1) x1) (abC s) := (((a_42 c.1 x1)).cc c).ri m (S_42 5 0 x1 (H s)) (show ([0, 1] : List Nat).Nodup by decide)
theorem oM_38 (c : CI s) (m : MI s) (x1 : Int32) : MRi s 280 2 [(0, .ref 44), (1, .int x1)] (xMet (md s 44) x1) (abM s) := (((d_42 m.1 x1)).mc m).ri c m (S_280 4 44 x1 (H s)) (show ([0, 1] : List Nat).Nodup by decide)
theorem oC_39 (c : CI s) (m : MI s) (x1 : Int32) : CRi s 43 2 [(0, .ref 0), (1, .int x1)] (vBestFor (gd s 1) x1) (abC s) := (((a_43 c.1 x1)).cc c).ri m (S_43 4 0 x1 (H s)) (show ([0, 1] : List Nat).Nodup by decide)
theorem oM_39 (c : CI s) (m : MI s) (x1 : Int32) : MRi s 265 2 [(0, .ref 44), (1, .int x1)] (xBest (md s 44) mmM x1) (abM s) := (((d_43 m.1 x1)).mc m).ri c m (S_265 2 44 x1 (H s)) (show ([0, 1] : List Nat).Nodup by decide)
theorem oC_40 (c : CI s) (m : MI s) : CRi s 44 1 [(0, .ref 0)] (owns (gd s 1)) (abC s) := pl_ri (a_44 c.1) c m (S_44 6 0 (H s)) (show ([0] : List Nat).Nodup by decide)
theorem oM_40 (c : CI s) (m : MI s) : MRi s 283 7 [(0, .ref 44)] (xAlike (md s 44)) (abM s) := pm_ri (q_283 m.1.1) c m (S_283 9 44 (H s)) (show ([0] : List Nat).Nodup by decide)
theorem oC_41 (c : CI s) (m : MI s) : CRi s 45 1 [(0, .ref 0)] (vMiddle (gd s 1)) (abC s) := (((a_45 c.1)).cc c).ri m (S_45 6 0 (H s)) (show ([0] : List Nat).Nodup by decide)
theorem oM_41 (c : CI s) (m : MI s) : MRi s 284 6 [(0, .ref 44)] (xMiddle (md s 44)) (abM s) := (((d_45 m.1)).mc m).ri c m (S_284 8 44 (H s)) (show ([0] : List Nat).Nodup by decide)
theorem oC_42 (c : CI s) (m : MI s) : CRi s 46 1 [(0, .ref 0)] (vNearest (gd s 1)) (abC s) := (((a_46 c.1)).cc c).ri m (S_46 7 0 (H s)) (show ([0] : List Nat).Nodup by decide)
theorem oM_42 (c : CI s) (m : MI s) : MRi s 285 4 [(0, .ref 44)] (xNearest (md s 44)) (abM s) := (((d_46 m.1)).mc m).ri c m (S_285 8 44 (H s)) (show ([0] : List Nat).Nodup by decide)
theorem oC_43 (c : CI s) (m : MI s) : CRi s 47 1 [(0, .ref 0)] (gar (gd s 1)) (abC s) := pl_ri (a_47 c.1) c m (S_47 7 0 (H s)) (show ([0] : List Nat).Nodup by decide)
theorem oM_43 (c : CI s) (m : MI s) : MRi s 286 6 [(0, .ref 44)] (gl (md s 44)) (abM s) := pm_ri (q_286 m.1.1) c m (S_286 9 44 (H s)) (show ([0] : List Nat).Nodup by decide)
theorem oC_44 (c : CI s) (m : MI s) : CRi s 48 1 [(0, .ref 0)] (csq (gd s 1) / i3 4) (abC s) := pl_ri (a_48 c.1) c m (S_48 5 0 (H s)) (show ([0] : List Nat).Nodup by decide)
theorem oM_44 (c : CI s) (m : MI s) : MRi s 288 7 [(0, .ref 44)] (sqs (md s 44) / i3 4) (abM s) := pm_ri (q_288 m.1.1) c m (S_288 8 44 (H s)) (show ([0] : List Nat).Nodup by decide)
theorem oC_45 (c : CI s) (m : MI s) : CRi s 49 3 [(0, .ref 0)] (vCorners (gd s 1)) (abC s) := pl_ri (a_49 c.1) c m (S_49 5 0 (H s)) (show ([0] : List Nat).Nodup by decide)
theorem oM_45 (c : CI s) (m : MI s) : MRi s 291 3 [(0, .ref 44)] (xCorners (md s 44)) (abM s) := pm_ri (q_291 m.1.1) c m (S_291 7 44 (H s)) (show ([0] : List Nat).Nodup by decide)
theorem oC_46 (c : CI s) (m : MI s) (x1 : Int32) : CRi s 50 2 [(0, .ref 0), (1, .int x1)] (vPointed (gd s 1) x1) (abC s) := (((a_50 c.1 x1)).cc c).ri m (S_50 5 0 x1 (H s)) (show ([0, 1] : List Nat).Nodup by decide)
theorem oM_46 (c : CI s) (m : MI s) (x1 : Int32) : MRi s 271 6 [(0, .ref 44), (1, .int x1)] (xPointed (md s 44) x1) (abM s) := (((d_50 m.1 x1)).mc m).ri c m (S_271 6 44 x1 (H s)) (show ([0, 1] : List Nat).Nodup by decide)
theorem oC_47 (c : CI s) (m : MI s) : CRi s 51 2 [(0, .ref 0)] (cnt (gd s 1) (i3 1)) (mpC (gd s 1) (trn (gd s 1)), (abC s).2) := (b_51 c).ri m (S_51 8 0 (H s)) (show ([0] : List Nat).Nodup by decide)
theorem oM_47 (c : CI s) (m : MI s) : MRi s 293 2 [(0, .ref 44)] (cnt (md s 44) (i3 1)) (mpC (md s 44) (trn (md s 44)), (abM s).2) := (e_51 m).ri c m (S_293 8 44 (H s)) (show ([0] : List Nat).Nodup by decide)
theorem oC_48 (c : CI s) (m : MI s) : CRi s 52 2 [(0, .ref 0)] (cnt (gd s 1) (i3 1)) (mpC (gd s 1) (mir (gd s 1)), (abC s).2) := (b_52 c).ri m (S_52 8 0 (H s)) (show ([0] : List Nat).Nodup by decide)
theorem oM_48 (c : CI s) (m : MI s) : MRi s 294 2 [(0, .ref 44)] (cnt (md s 44) (i3 1)) (mpC (md s 44) (mir (md s 44)), (abM s).2) := (e_52 m).ri c m (S_294 8 44 (H s)) (show ([0] : List Nat).Nodup by decide)
theorem oC_49 (c : CI s) (m : MI s) : CRi s 53 2 [(0, .ref 0)] (vImp (gd s 1)) (gImp (gd s 1), (abC s).2) := (b_53 c).ri m (S_53 5 0 (H s)) (show ([0] : List Nat).Nodup by decide)
theorem oM_49 (c : CI s) (m : MI s) : MRi s 267 2 [(0, .ref 44)] (xImp (md s 44)) (gxImp (md s 44), (abM s).2) := (e_53 m).ri c m (S_267 3 44 (H s)) (show ([0] : List Nat).Nodup by decide)
theorem oC_50 (c : CI s) (m : MI s) (x1 : Int32) : CRi s 54 3 [(0, .ref 0), (1, .int x1)] (vPlant (gd s 1) x1) (gPlant (gd s 1) x1, (abC s).2) := (b_54 c x1).ri m (S_54 6 0 x1 (H s)) (show ([0, 1] : List Nat).Nodup by decide)
theorem oM_50 (c : CI s) (m : MI s) (x1 : Int32) : MRi s 296 5 [(0, .ref 44), (1, .int x1)] (vPlant (md s 44) x1) (gPlant (md s 44) x1, (abM s).2) := (e_54 m x1).ri c m (S_296 8 44 x1 (H s)) (show ([0, 1] : List Nat).Nodup by decide)
theorem oC_51 (c : CI s) (m : MI s) (x1 : Int32) : CRi s 55 3 [(0, .ref 0), (1, .int x1)] (sE (gd s 1)) (uE (gd s 1) x1, (abC s).2) := (b_55 c x1).ri m (S_55 9 0 x1 (H s)) (show ([0, 1] : List Nat).Nodup by decide)
theorem oM_51 (c : CI s) (m : MI s) (x1 : Int32) : MRi s 297 3 [(0, .ref 44), (1, .int x1)] (sE (md s 44)) (uE (md s 44) x1, (abM s).2) := (e_55 m x1).ri c m (S_297 9 44 x1 (H s)) (show ([0, 1] : List Nat).Nodup by decide)
theorem oC_52 (c : CI s) (m : MI s) : CRi s 56 1 [(0, .ref 0)] (i3 1) ((abC s).1, some (gd s 1), (abC s).2.2) := (b_56 c).ri m (S_56 8 0 (H s)) (show ([0] : List Nat).Nodup by decide)
theorem oM_52 (c : CI s) (m : MI s) : MRi s 301 1 [(0, .ref 44)] (i3 1) ((abM s).1, some (md s 44), (abM s).2.2) := by
  obtain ⟨n, s2, m1, e, h1, h2, h3, h4⟩ := run_301 m
  exact ⟨n, s2, m1, e, h2.ci c, h1, h2.ab, h3, h4⟩
theorem oC_53 (c : CI s) (m : MI s) : CRi s 57 1 [(0, .ref 0)] (vBack (abC s).2.1) (gBack (gd s 1) (abC s).2.1, (abC s).2) := (b_57 c).ri m (S_57 7 0 (H s)) (show ([0] : List Nat).Nodup by decide)
theorem oM_53 (c : CI s) (m : MI s) : MRi s 302 1 [(0, .ref 44)] (vBack (abM s).2.1) (gBack (md s 44) (abM s).2.1, (abM s).2) := (e_57 m).ri c m (S_302 7 44 (H s)) (show ([0] : List Nat).Nodup by decide)
theorem oC_54 (c : CI s) (m : MI s) (x1 : Int32) : ∃ v, CRi s 58 2 [(0, .ref 0), (1, .int x1)] (v) (abC s) := by
  obtain ⟨v, h⟩ := b_58 c x1
  exact ⟨v, h.ri m (S_58 5 0 x1 (H s)) (show ([0, 1] : List Nat).Nodup by decide)⟩
theorem oM_54 (c : CI s) (m : MI s) (x1 : Int32) : ∃ v, MRi s 303 4 [(0, .ref 44), (1, .int x1)] (v) (abM s) := by
  obtain ⟨v, h⟩ := e_58 m x1
  exact ⟨v, h.ri c m (S_303 5 44 x1 (H s)) (show ([0, 1] : List Nat).Nodup by decide)⟩
end OP
end
section
/-! ===== points and lines ===== -/
noncomputable def px (D q : Nat) : Int := ((q / D : Nat) : Int)
noncomputable def py (D q : Nat) : Int := ((q % D : Nat) : Int)
noncomputable def dt (D a b c : Nat) : Int := (px D b - px D a) * (py D c - py D a) - (py D b - py D a) * (px D c - px D a)
theorem mul7 {x y : Int} (h1 : -7 ≤ x ∧ x ≤ 7) (h2 : -7 ≤ y ∧ y ≤ 7) : -49 ≤ x * y ∧ x * y ≤ 49 := by
  have key : ∀ a : Fin 15, ∀ b : Fin 15, -49 ≤ ((a.1 : Int) - 7) * ((b.1 : Int) - 7) ∧ ((a.1 : Int) - 7) * ((b.1 : Int) - 7) ≤ 49 := by decide +kernel
  have := key ⟨(x + 7).toNat, by omega⟩ ⟨(y + 7).toNat, by omega⟩
  dsimp only at this
  rw [show (((x + 7).toNat : Nat) : Int) - 7 = x by omega, show (((y + 7).toNat : Nat) : Int) - 7 = y by omega] at this
  exact this
theorem cr0 {a b x y z w : Int} (h : a ≠ 0 ∨ b ≠ 0) (h1 : a * y = b * x) (h2 : a * w = b * z) : x * w = y * z := by
  rcases h with h | h
  · refine Int.eq_of_mul_eq_mul_left h ?_
    have e1 : a * (x * w) = x * (a * w) := by ac_rfl
    have e2 : x * (b * z) = (b * x) * z := by ac_rfl
    have e3 : (a * y) * z = a * (y * z) := by ac_rfl
    rw [e1, h2, e2, ← h1, e3]
  · refine Int.eq_of_mul_eq_mul_left h ?_
    have e1 : b * (x * w) = (b * x) * w := by ac_rfl
    have e2 : (a * y) * w = y * (a * w) := by ac_rfl
    have e3 : y * (b * z) = b * (y * z) := by ac_rfl
    rw [e1, ← h1, e2, h2, e3]
theorem pt_ne {D p q : Nat} (h : p ≠ q) : px D q - px D p ≠ 0 ∨ py D q - py D p ≠ 0 := by
  by_cases e : px D q - px D p = 0
  · right
    intro e2
    apply h
    have a : p / D = q / D := by
      unfold px at e
      omega
    have b : p % D = q % D := by
      unfold py at e2
      omega
    exact rc_inj a b
  · exact Or.inl e
theorem dt_l (D a b : Nat) : dt D a b a = 0 := by
  unfold dt
  rw [Int.sub_self, Int.sub_self, Int.mul_zero, Int.mul_zero]
  rfl
theorem dt_r (D a b : Nat) : dt D a b b = 0 := by
  unfold dt
  rw [Int.mul_comm, Int.sub_self]
theorem tri0 {D p q x y z : Nat} (hne : p ≠ q) (h1 : dt D p q x = 0) (h2 : dt D p q y = 0) (h3 : dt D p q z = 0) : dt D x y z = 0 := by
  have hu := pt_ne (D := D) hne
  unfold dt at *
  generalize px D q - px D p = a at *
  generalize py D q - py D p = b at *
  have k1 : a * (py D x - py D p) = b * (px D x - px D p) := by omega
  have k2 : a * (py D y - py D p) = b * (px D y - px D p) := by omega
  have k3 : a * (py D z - py D p) = b * (px D z - px D p) := by omega
  have c1 := cr0 hu k1 k2
  have c2 := cr0 hu k1 k3
  have c3 := cr0 hu k2 k3
  have e1 : px D y - px D x = (px D y - px D p) - (px D x - px D p) := by omega
  have e2 : py D z - py D x = (py D z - py D p) - (py D x - py D p) := by omega
  have e3 : py D y - py D x = (py D y - py D p) - (py D x - py D p) := by omega
  have e4 : px D z - px D x = (px D z - px D p) - (px D x - px D p) := by omega
  rw [e1, e2, e3, e4]
  generalize px D x - px D p = x1 at *
  generalize py D x - py D p = x2 at *
  generalize px D y - px D p = y1 at *
  generalize py D y - py D p = y2 at *
  generalize px D z - px D p = z1 at *
  generalize py D z - py D p = z2 at *
  rw [Int.sub_mul, Int.mul_sub, Int.mul_sub, Int.sub_mul, Int.mul_sub, Int.mul_sub, Int.mul_comm y1 x2, Int.mul_comm y2 x1, Int.mul_comm x2 x1]
  omega
theorem dt_LL {D a b k l : Nat} (hab : a ≠ b) (hkl : k ≠ l) (h1 : dt D a b k = 0) (h2 : dt D a b l = 0) (x : Nat) : dt D k l x = 0 ↔ dt D a b x = 0 := by
  constructor
  · intro h
    exact tri0 hkl (tri0 hab h1 h2 (dt_l D a b)) (tri0 hab h1 h2 (dt_r D a b)) h
  · intro h
    exact tri0 hab h1 h2 h
/-! ===== trees ===== -/
noncomputable def cN (g : Gd) (k : Nat) : Nat := (cA g (i3 (k : Int))).toNatClampNeg
abbrev Co (g : Gd) (a b k : Nat) : Prop := dt (dn g) (cN g a) (cN g b) (cN g k) = 0
abbrev ch (g : Gd) (k : Nat) : Prop := kA g (i3 (k : Int)) = i3 4
section GE
variable {g : Gd}
theorem p_bd {D q : Nat} (hD : D ≤ 8) (hq : q < D * D) : 0 ≤ px D q ∧ px D q ≤ 7 ∧ 0 ≤ py D q ∧ py D q ≤ 7 := by
  have h := cell_rc hq
  have a : (0 : Int) ≤ ((q / D : Nat) : Int) := Int.natCast_nonneg _
  have b : (0 : Int) ≤ ((q % D : Nat) : Int) := Int.natCast_nonneg _
  unfold px py
  omega
theorem dt_bd {D a b c : Nat} (hD : D ≤ 8) (ha : a < D * D) (hb : b < D * D) (hc : c < D * D) : -98 ≤ dt D a b c ∧ dt D a b c ≤ 98 := by
  have pa := p_bd hD ha
  have pb := p_bd hD hb
  have pc' := p_bd hD hc
  unfold dt
  have m1 := mul7 (x := px D b - px D a) (y := py D c - py D a) (by omega) (by omega)
  have m2 := mul7 (x := py D b - py D a) (y := px D c - px D a) (by omega) (by omega)
  omega
theorem dar_N (h : ok g) {a b c : Nat} (ha : a < dn g * dn g) (hb : b < dn g * dn g) (hc : c < dn g * dn g) : dar g (i3 (a : Int)) (i3 (b : Int)) (i3 (c : Int)) = i3 (dt (dn g) a b c) := by
  have := h.cc_le
  unfold dar dt px py
  rw [h.ro (by omega), h.ro (by omega), h.ro (by omega), h.co (by omega), h.co (by omega), h.co (by omega), i3_sub, i3_sub, i3_sub, i3_sub, i3_mul, i3_mul, i3_sub]
theorem dar_0 (h : ok g) {a b c : Nat} (ha : a < dn g * dn g) (hb : b < dn g * dn g) (hc : c < dn g * dn g) : dar g (i3 (a : Int)) (i3 (b : Int)) (i3 (c : Int)) = 0 ↔ dt (dn g) a b c = 0 := by
  have := dt_bd h.d_le ha hb hc
  rw [dar_N h ha hb hc]
  exact i3_inj (y := 0) ⟨by omega, by omega⟩ ⟨by omega, by omega⟩
theorem ok.cNe (h : ok g) {k : Nat} (hk : k < nn g) : cA g (i3 (k : Int)) = i3 (cN g k : Int) ∧ cN g k < dn g * dn g := ⟨i3_cl (h.2.2.2.2.2.1 _ (h.T hk)).1, h.cl (h.2.2.2.2.2.1 _ (h.T hk))⟩
theorem ok.cNi (h : ok g) {a b : Nat} (ha : a < nn g) (hb : b < nn g) (hne : a ≠ b) : cN g a ≠ cN g b := fun e => hne (by
  have hn := h.n_le
  have e2 : cA g (i3 (a : Int)) = cA g (i3 (b : Int)) := by rw [(h.cNe ha).1, (h.cNe hb).1, e]
  exact (i3n_inj (by omega) (by omega)).mp (h.2.2.2.2.2.2.1 _ _ (h.T ha) (h.T hb) e2))
theorem dar_T (h : ok g) {a b k : Nat} (ha : a < nn g) (hb : b < nn g) (hk : k < nn g) : dar g (cA g (i3 (a : Int))) (cA g (i3 (b : Int))) (cA g (i3 (k : Int))) = 0 ↔ Co g a b k := by
  rw [(h.cNe ha).1, (h.cNe hb).1, (h.cNe hk).1]
  exact dar_0 h (h.cNe ha).2 (h.cNe hb).2 (h.cNe hk).2
theorem rw_bit (h : ok g) {a b : Nat} (ha : a < nn g) (hb : b < nn g) (x : Nat) : (rwm g (i3 (a : Int)) (i3 (b : Int))).testBit x = true ↔ x < nn g ∧ ¬ ch g x ∧ Co g a b x := by
  unfold rwm
  rw [msk_bit, Bool.and_eq_true, decide_eq_true_eq]
  constructor
  · rintro ⟨h1, h2⟩
    have h3 := of_decide_eq_true h2
    exact ⟨h1, h3.1, (dar_T h ha hb h1).mp h3.2⟩
  · rintro ⟨h1, h2, h3⟩
    exact ⟨h1, decide_eq_true ⟨h2, (dar_T h ha hb h1).mpr h3⟩⟩
theorem bits_ext {m m' : Nat} (h : ∀ x, m.testBit x = true ↔ m'.testBit x = true) : m = m' := Nat.eq_of_testBit_eq (fun x => by
  have := h x
  cases h1 : m.testBit x <;> cases h2 : m'.testBit x <;> simp_all)
/-- two trees of a line make it -/
theorem rw_same (h : ok g) {a b k l : Nat} (ha : a < nn g) (hb : b < nn g) (hk : k < nn g) (hl : l < nn g) (hab : a ≠ b) (hkl : k ≠ l) (h1 : Co g a b k) (h2 : Co g a b l) : rwm g (i3 (k : Int)) (i3 (l : Int)) = rwm g (i3 (a : Int)) (i3 (b : Int)) := bits_ext (fun x => by
  rw [rw_bit h hk hl, rw_bit h ha hb]
  have e := dt_LL (D := dn g) (h.cNi ha hb hab) (h.cNi hk hl hkl) h1 h2 (cN g x)
  exact ⟨fun q => ⟨q.1, q.2.1, e.mp q.2.2⟩, fun q => ⟨q.1, q.2.1, e.mpr q.2.2⟩⟩)
noncomputable def isRow (g : Gd) (m : Nat) : Prop := ∃ a b, a < nn g ∧ b < nn g ∧ a ≠ b ∧ ¬ ch g a ∧ ¬ ch g b ∧ m = rwm g (i3 (a : Int)) (i3 (b : Int))
theorem row_two (h : ok g) {m : Nat} (r : isRow g m) {k l : Nat} (hkl : k ≠ l) (hk : m.testBit k = true) (hl : m.testBit l = true) : m = rwm g (i3 (k : Int)) (i3 (l : Int)) ∧ k < nn g ∧ l < nn g ∧ ¬ ch g k ∧ ¬ ch g l := by
  obtain ⟨a, b, ha, hb, hab, ca, cb', rfl⟩ := r
  have k1 := (rw_bit h ha hb k).mp hk
  have l1 := (rw_bit h ha hb l).mp hl
  exact ⟨(rw_same h ha hb k1.1 l1.1 hab hkl k1.2.2 l1.2.2).symm, k1.1, l1.1, k1.2.1, l1.2.1⟩
theorem row_ab (h : ok g) {a b : Nat} (ha : a < nn g) (hb : b < nn g) (ca : ¬ ch g a) (cb' : ¬ ch g b) : (rwm g (i3 (a : Int)) (i3 (b : Int))).testBit a = true ∧ (rwm g (i3 (a : Int)) (i3 (b : Int))).testBit b = true := ⟨(rw_bit h ha hb a).mpr ⟨ha, ca, dt_l _ _ _⟩, (rw_bit h ha hb b).mpr ⟨hb, cb', dt_r _ _ _⟩⟩
end GE
/-! ===== lists that are put in order ===== -/
theorem insA_perm (x : Int32) : ∀ (n : Nat) (a : List Int32), n < a.length → ((insA x n a).take (n + 1)).Perm (x :: a.take n)
  | 0, a, h => by
    cases a with
    | nil => exact absurd h (Nat.not_lt_zero _)
    | cons b t => exact List.Perm.refl _
  | n + 1, a, h => by
    have hn : a.take (n + 1) = a.take n ++ [a.getD n 0] := by
      rw [List.take_add_one, List.getElem?_eq_getElem (by omega), List.getD_eq_getElem?_getD, List.getElem?_eq_getElem (by omega)]
      rfl
    unfold insA
    split
    · rw [List.take_add_one, List.getElem?_set_self (by omega), List.take_set_of_le (by omega)]
      exact List.perm_append_comm
    · have ih := insA_perm x n (a.set (n + 1) (a.getD n 0)) (by rw [List.length_set]; omega)
      rw [List.take_add_one, insA_hi x n _ (n + 1) (by omega), List.getElem?_set_self (by omega), hn]
      rw [List.take_set_of_le (by omega)] at ih
      exact (ih.append_right _)
theorem insL_perm (x : Int32) (L : List Int32) : (insL x L).Perm (x :: L) := by
  have h := insA_perm x L.length (L ++ [0]) (by rw [List.length_append]; exact Nat.lt_succ_self _)
  rw [List.take_left', List.take_of_length_le] at h
  · exact h
  · rw [insA_len, List.length_append]
    exact Nat.le_refl _
  · rfl
/-- the rows, unsorted -/
noncomputable def rcF (g : Gd) (i j : Nat) (L : List Int32) : List Int32 := if rlC g i j then rowS g (i3 (i : Int)) (i3 (j : Int)) :: L else L
noncomputable def rcI (g : Gd) (i : Nat) (L : List Int32) : List Int32 := itr (fun k => rcF g i (i + 1 + k)) (nn g - (i + 1)) L
noncomputable def RC (g : Gd) : List Int32 := itr (rcI g) (nn g) []
theorem RL_perm (g : Gd) : (RL g).Perm (RC g) := by
  have inner : ∀ (i n : Nat) (L M : List Int32), L.Perm M → (itr (fun k => rlF g i (i + 1 + k)) n L).Perm (itr (fun k => rcF g i (i + 1 + k)) n M) := by
    intro i n
    induction n with
    | zero => intro L M h; exact h
    | succ n ih =>
      intro L M h
      show (rlF g i (i + 1 + n) _).Perm (rcF g i (i + 1 + n) _)
      unfold rlF rcF
      split
      · exact (insL_perm _ _).trans ((ih L M h).cons _)
      · exact ih L M h
  have outer : ∀ n, (itr (rlI g) n []).Perm (itr (rcI g) n []) := by
    intro n
    induction n with
    | zero => exact List.Perm.refl _
    | succ n ih => exact inner n _ _ _ ih
  exact outer (nn g)
theorem rcin_mem {g : Gd} {y : Int32} : ∀ (i n : Nat) (L : List Int32), y ∈ itr (fun k => rcF g i (i + 1 + k)) n L ↔ y ∈ L ∨ ∃ k, k < n ∧ rlC g i (i + 1 + k) ∧ y = rowS g (i3 (i : Int)) (i3 ((i + 1 + k : Nat) : Int)) := by
  intro i n
  induction n with
  | zero => intro L; exact ⟨Or.inl, fun h => h.elim id (fun ⟨k, hk, _⟩ => absurd hk (Nat.not_lt_zero _))⟩
  | succ n ih =>
    intro L
    have e : y ∈ itr (fun k => rcF g i (i + 1 + k)) (n + 1) L ↔ y ∈ rcF g i (i + 1 + n) (itr (fun k => rcF g i (i + 1 + k)) n L) := Iff.rfl
    rw [e]
    unfold rcF
    split
    · rename_i c
      rw [List.mem_cons]
      have := ih L
      unfold rcF at this
      rw [this]
      constructor
      · rintro (h | h | ⟨k, h1, h2⟩)
        · exact Or.inr ⟨n, by omega, c, h⟩
        · exact Or.inl h
        · exact Or.inr ⟨k, by omega, h2⟩
      · rintro (h | ⟨k, h1, h2⟩)
        · exact Or.inr (Or.inl h)
        · by_cases e : k = n
          · subst e; exact Or.inl h2.2
          · exact Or.inr (Or.inr ⟨k, by omega, h2⟩)
    · rename_i c
      have := ih L
      unfold rcF at this
      rw [this]
      constructor
      · rintro (h | ⟨k, h1, h2⟩)
        · exact Or.inl h
        · exact Or.inr ⟨k, by omega, h2⟩
      · rintro (h | ⟨k, h1, h2⟩)
        · exact Or.inl h
        · by_cases e : k = n
          · subst e; exact absurd h2.1 c
          · exact Or.inr ⟨k, by omega, h2⟩
theorem rcout_mem {g : Gd} {y : Int32} : ∀ n, n ≤ nn g → (y ∈ itr (rcI g) n [] ↔ ∃ i j, i < n ∧ i < j ∧ j < nn g ∧ rlC g i j ∧ y = rowS g (i3 (i : Int)) (i3 (j : Int))) := by
  intro n
  induction n with
  | zero => intro _; exact ⟨fun h => (by cases h), fun ⟨i, j, h, _⟩ => absurd h (Nat.not_lt_zero _)⟩
  | succ n ih =>
    intro hn
    have e : y ∈ itr (rcI g) (n + 1) [] ↔ y ∈ itr (fun k => rcF g n (n + 1 + k)) (nn g - (n + 1)) (itr (rcI g) n []) := Iff.rfl
    rw [e, rcin_mem, ih (by omega)]
    constructor
    · rintro (⟨i, j, h1, h2⟩ | ⟨k, h1, h2, h3⟩)
      · exact ⟨i, j, by omega, h2⟩
      · exact ⟨n, n + 1 + k, by omega, by omega, by omega, h2, h3⟩
    · rintro ⟨i, j, h1, h2, h3, h4, h5⟩
      by_cases e2 : i = n
      · subst e2
        right
        refine ⟨j - (i + 1), by omega, ?_⟩
        rw [show i + 1 + (j - (i + 1)) = j by omega]
        exact ⟨h4, h5⟩
      · exact Or.inl ⟨i, j, by omega, h2, h3, h4, h5⟩
theorem RC_mem {g : Gd} {y : Int32} : y ∈ RC g ↔ ∃ i j, i < j ∧ j < nn g ∧ rlC g i j ∧ y = rowS g (i3 (i : Int)) (i3 (j : Int)) := by
  have := rcout_mem (g := g) (y := y) (nn g) (Nat.le_refl _)
  refine this.trans ⟨?_, ?_⟩
  · rintro ⟨i, j, -, h⟩; exact ⟨i, j, h⟩
  · rintro ⟨i, j, h1, h2, h3⟩; exact ⟨i, j, by omega, h1, h2, h3⟩
end
section
/-! ===== the rows, each once; counted ===== -/
section LI
variable {g : Gd}
theorem pair_inj (h : ok g) {i j i' j' : Nat} (hj : j < nn g) (hij : i < j) (hj' : j' < nn g) (hij' : i' < j') (c : rlC g i j) (c' : rlC g i' j') (e : rowS g (i3 (i : Int)) (i3 (j : Int)) = rowS g (i3 (i' : Int)) (i3 (j' : Int))) : i = i' ∧ j = j' := by
  have hn := h.n_le
  have a := c.1
  have b := c.2
  rw [e] at a b
  have a2 := a.symm.trans c'.1
  have b2 := b.symm.trans c'.2
  exact ⟨(i3n_inj (by omega) (by omega)).mp a2, (i3n_inj (by omega) (by omega)).mp b2⟩
theorem RC_nodup (h : ok g) : (RC g).Nodup := by
  have inner : ∀ (i n : Nat), i + 1 + n ≤ nn g → ∀ (L : List Int32), L.Nodup → (∀ y ∈ L, ∃ i' j', i' < i ∧ i' < j' ∧ j' < nn g ∧ rlC g i' j' ∧ y = rowS g (i3 (i' : Int)) (i3 (j' : Int))) → (itr (fun k => rcF g i (i + 1 + k)) n L).Nodup := by
    intro i n
    induction n with
    | zero => intro _ L hL _; exact hL
    | succ n ih =>
      intro hn L hL hm
      have ih' := ih (by omega) L hL hm
      have key : rlC g i (i + 1 + n) → rowS g (i3 (i : Int)) (i3 ((i + 1 + n : Nat) : Int)) ∉ itr (fun k => rcF g i (i + 1 + k)) n L := fun c hin => by
        rcases (rcin_mem i n L).mp hin with h1 | ⟨k, h1, h2, h3⟩
        · obtain ⟨i', j', q1, q2, q3, q4, q5⟩ := hm _ h1
          have := pair_inj h (by omega) (by omega) q3 q2 c q4 q5
          omega
        · have := pair_inj h (by omega) (by omega) (by omega) (by omega) c h2 h3
          omega
      show (rcF g i (i + 1 + n) (itr (fun k => rcF g i (i + 1 + k)) n L)).Nodup
      generalize itr (fun k => rcF g i (i + 1 + k)) n L = M at ih' key
      unfold rcF
      split
      · rename_i c
        exact List.nodup_cons.mpr ⟨key c, ih'⟩
      · exact ih'
  have outer : ∀ n, n ≤ nn g → (itr (rcI g) n []).Nodup := by
    intro n
    induction n with
    | zero => intro _; exact List.nodup_nil
    | succ n ih =>
      intro hn
      exact inner n (nn g - (n + 1)) (by omega) _ (ih (by omega)) (fun y hy => (rcout_mem n (by omega)).mp hy)
  exact outer (nn g) (Nat.le_refl _)
theorem RL_nodup (h : ok g) : (RL g).Nodup := (RL_perm g).nodup_iff.mpr (RC_nodup h)
theorem RL_mem' {y : Int32} : y ∈ RL g ↔ ∃ i j, i < j ∧ j < nn g ∧ rlC g i j ∧ y = rowS g (i3 (i : Int)) (i3 (j : Int)) := (RL_perm g).mem_iff.trans RC_mem
/-- the first of a set, and the second -/
theorem two_of {m a b : Nat} (hab : a ≠ b) (ha : a < 12) (hb : b < 12) (h1 : m.testBit a = true) (h2 : m.testBit b = true) : ∃ i j, i < j ∧ j < 12 ∧ m.testBit i = true ∧ m.testBit j = true ∧ ∀ q, q < j → q ≠ i → m.testBit q = false := by
  obtain ⟨i, hi⟩ : ∃ i, fst? (fun t => m.testBit t) 12 0 = some i := by
    cases hf : fst? (fun t => m.testBit t) 12 0 with
    | none => have := fst?_none hf a (Nat.zero_le _) (by omega); rw [h1] at this; cases this
    | some i => exact ⟨i, rfl⟩
  obtain ⟨-, i2, i3', i4⟩ := fst?_some hi
  have i3'' : m.testBit i = true := i3'
  have lo' : ∀ c, c < 12 → m.testBit c = true → i ≤ c := fun c _ hc => by
    refine Classical.byContradiction fun hn => ?_
    have := i4 c (Nat.zero_le _) (by omega)
    rw [hc] at this; cases this
  obtain ⟨c, c1, c2, c3⟩ : ∃ c, i < c ∧ c < 12 ∧ m.testBit c = true := by
    have a1 := lo' a ha h1
    have b1 := lo' b hb h2
    by_cases e : i = a
    · exact ⟨b, by omega, hb, h2⟩
    · exact ⟨a, by omega, ha, h1⟩
  obtain ⟨j, hj⟩ : ∃ j, fst? (fun t => m.testBit t) (12 - (i + 1)) (i + 1) = some j := by
    cases hf : fst? (fun t => m.testBit t) (12 - (i + 1)) (i + 1) with
    | none => have := fst?_none hf c (by omega) (by omega); rw [c3] at this; cases this
    | some j => exact ⟨j, rfl⟩
  obtain ⟨j1, j2, j3, j4⟩ := fst?_some hj
  refine ⟨i, j, by omega, by omega, i3', j3, fun q hq hqi => ?_⟩
  by_cases e : q < i
  · exact i4 q (Nat.zero_le _) e
  · exact j4 q (by omega) hq
theorem RL_iff (h : ok g) {y : Int32} : y ∈ RL g ↔ ∃ m, isRow g m ∧ y = i3 (m : Int) := by
  have hn := h.n_le
  rw [RL_mem']
  constructor
  · rintro ⟨i, j, h1, h2, h3, h4⟩
    have h3' := (rmC_iff h h1 h2).mp h3
    exact ⟨rwm g (i3 (i : Int)) (i3 (j : Int)), ⟨i, j, by omega, h2, by omega, h3'.1, h3'.2.1, rfl⟩, by rw [h4, rowS_eq h]⟩
  · rintro ⟨m, r, rfl⟩
    obtain ⟨a, b, ha, hb, hab, ca, cb', hm⟩ := id r
    have ab := row_ab h ha hb ca cb'
    rw [← hm] at ab
    obtain ⟨i, j, h1, h2, h3, h4, h5⟩ := two_of hab (by omega) (by omega) ab.1 ab.2
    obtain ⟨e, ki, kj, c1, c2⟩ := row_two h r (k := i) (l := j) (by omega) h3 h4
    refine ⟨i, j, h1, kj, (rmC_iff h h1 kj).mpr ⟨c1, c2, ?_⟩, by rw [e, rowS_eq h]⟩
    rw [rowS_eq h, ← e, low_iff (by rw [e]; exact rwm_4096 h _ _) h1 h2]
    exact ⟨h3, h5⟩
theorem row_lt (h : ok g) {m : Nat} (r : isRow g m) : m < 4096 ∧ m < 2 ^ nn g := by
  obtain ⟨a, b, -, -, -, -, -, rfl⟩ := r
  exact ⟨rwm_4096 h _ _, rwm_lt _ _ _⟩
/-- rows counted: by sets of trees -/
noncomputable def cR (g : Gd) (P : Int32 → Bool) : Nat := (RL g).countP P
theorem itr_cnt {L : List Int32} {P : Int32 → Bool} {F : Nat → Int32 → Int32} (hF : ∀ k m, F k m = if P (lg L k) = true then m + i3 1 else m) : ∀ n, n ≤ L.length → itr F n (i3 0) = i3 ((L.take n).countP P : Int)
  | 0, _ => rfl
  | n + 1, hn => by
    show F n (itr F n (i3 0)) = _
    have e : L.take (n + 1) = L.take n ++ [lg L n] := by
      rw [List.take_add_one, List.getElem?_eq_getElem (by omega)]
      unfold lg
      rw [List.getD_eq_getElem?_getD, List.getElem?_eq_getElem (by omega)]
      rfl
    rw [itr_cnt hF n (by omega), hF, e, List.countP_append, List.countP_singleton]
    by_cases c : P (lg L n) = true
    · rw [if_pos c, if_pos c]
      exact i3_nat_add _
    · rw [if_neg c, if_neg c]
      rfl
theorem itr_cntL {L : List Int32} {P : Int32 → Bool} {F : Nat → Int32 → Int32} (hF : ∀ k m, F k m = if P (lg L k) = true then m + i3 1 else m) : itr F L.length (i3 0) = i3 (L.countP P : Int) := by
  rw [itr_cnt hF L.length (Nat.le_refl _), List.take_length]
theorem t3_eq (L : List Int32) : t3 L = i3 (L.countP (fun y => decide (¬ bct y < i3 3)) : Int) := itr_cntL (fun k m => by
  unfold t3F
  by_cases c : bct (lg L k) < i3 3
  · rw [if_pos c, if_neg (by simp [c])]
  · rw [if_neg c, if_pos (by simp [c])])
theorem co_eq (L : List Int32) (q : Int32) : co L q = i3 (L.countP (fun y => decide (bct y = q)) : Int) := itr_cntL (fun k m => by
  unfold coF
  by_cases c : bct (lg L k) = q
  · rw [if_pos c, if_pos (by simp [c])]
  · rw [if_neg c, if_neg (by simp [c])])
/-- counted by another list -/
theorem cnt_inj {L1 L2 : List Int32} (f : Int32 → Int32) (n1 : L1.Nodup) (n2 : L2.Nodup) {P Q : Int32 → Bool} (h1 : ∀ a ∈ L1, P a = true → f a ∈ L2 ∧ Q (f a) = true) (inj : ∀ a ∈ L1, ∀ b ∈ L1, P a = true → P b = true → f a = f b → a = b) (h2 : ∀ b ∈ L2, Q b = true → ∃ a ∈ L1, P a = true ∧ f a = b) : L1.countP P = L2.countP Q := by
  rw [List.countP_eq_length_filter, List.countP_eq_length_filter]
  have m : ((L1.filter P).map f).Nodup := by
    rw [List.nodup_iff_pairwise_ne, List.pairwise_map]
    refine List.Pairwise.imp_of_mem ?_ (List.nodup_iff_pairwise_ne.mp (n1.filter P))
    intro a b ha hb hne e
    rw [List.mem_filter] at ha hb
    exact hne (inj a ha.1 b hb.1 ha.2 hb.2 e)
  have k := (List.perm_ext_iff_of_nodup m (n2.filter Q)).mpr (fun y => by
    rw [List.mem_map, List.mem_filter]
    constructor
    · rintro ⟨a, ha, rfl⟩
      rw [List.mem_filter] at ha
      exact h1 a ha.1 ha.2
    · rintro ⟨hy, hq⟩
      obtain ⟨a, ha, hp, e⟩ := h2 y hy hq
      exact ⟨a, List.mem_filter.mpr ⟨ha, hp⟩, e⟩)
  have := k.length_eq
  rw [List.length_map] at this
  exact this
/-- every row has two trees -/
theorem pc_two {m a b : Nat} (hab : a ≠ b) (ha : a < 12) (hb : b < 12) (h1 : m.testBit a = true) (h2 : m.testBit b = true) : 2 ≤ pc m := by
  have key : ∀ n, a < n → b < n → 2 ≤ cb (fun t => m.testBit t) n := by
    intro n
    induction n with
    | zero => intro h; omega
    | succ n ih =>
      intro ha hb
      show 2 ≤ cb (fun t => m.testBit t) n + (m.testBit n).toNat
      have one : ∀ c k, c < k → m.testBit c = true → 1 ≤ cb (fun t => m.testBit t) k := by
        intro c k
        induction k with
        | zero => intro h; omega
        | succ k ihk =>
          intro hc h
          show 1 ≤ cb (fun t => m.testBit t) k + (m.testBit k).toNat
          by_cases e : c = k
          · subst e; rw [h]; show 1 ≤ _ + 1; omega
          · have := ihk (by omega) h; omega
      by_cases ea : a = n
      · subst ea
        have := one b a (by omega) h2
        rw [h1]; show 2 ≤ _ + 1; omega
      · by_cases eb : b = n
        · subst eb
          have := one a b (by omega) h1
          rw [h2]; show 2 ≤ _ + 1; omega
        · have := ih (by omega) (by omega); omega
  exact key 12 ha hb
theorem row_pc (h : ok g) {m : Nat} (r : isRow g m) : 2 ≤ pc m := by
  have hn := h.n_le
  obtain ⟨a, b, ha, hb, hab, ca, cb', hm⟩ := r
  have ab := row_ab h ha hb ca cb'
  rw [← hm] at ab
  exact pc_two hab (by omega) (by omega) ab.1 ab.2
/-- how many rows of three or more there are -/
theorem nT_eq (h : ok g) : nT (RL g) = t3 (RL g) := by
  have hl := RL_len h
  unfold nT
  rw [co_eq, t3_eq, i3_sub]
  congr 1
  have e : (RL g).countP (fun y => decide (¬ bct y < i3 3)) = (RL g).countP (fun y => !decide (bct y = i3 2)) := List.countP_congr (fun y hy => by
    obtain ⟨m, r, rfl⟩ := (RL_iff h).mp hy
    have h2 := row_pc h r
    have h3 := pc_le m
    rw [bct_eq (row_lt h r).1]
    have a : (i3 (pc m : Int) < i3 3) ↔ pc m < 3 := i3n_lt (b := 3) (by omega) (by omega)
    have b : (i3 (pc m : Int) = i3 2) ↔ pc m = 2 := i3n_inj (b := 2) (by omega) (by omega)
    simp only [a, b, decide_eq_true_eq, Bool.not_eq_true', decide_eq_false_iff_not]
    omega)
  have k := List.length_eq_countP_add_countP (fun y => decide (bct y = i3 2)) (l := RL g)
  have k2 : (RL g).length = (RL g).countP (fun y => decide (bct y = i3 2)) + (RL g).countP (fun y => !decide (bct y = i3 2)) := by
    rw [k]
    congr 1
    exact List.countP_congr (fun y _ => by simp)
  rw [e, k2]
  omega
end LI
end
section
/-! ===== a line through the cells ===== -/
theorem mul8 {x y : Int} (h1 : -8 ≤ x ∧ x ≤ 8) (h2 : -7 ≤ y ∧ y ≤ 7) : -56 ≤ x * y ∧ x * y ≤ 56 := by
  have key : ∀ a : Fin 17, ∀ b : Fin 15, -56 ≤ ((a.1 : Int) - 8) * ((b.1 : Int) - 7) ∧ ((a.1 : Int) - 8) * ((b.1 : Int) - 7) ≤ 56 := by decide +kernel
  have := key ⟨(x + 8).toNat, by omega⟩ ⟨(y + 7).toNat, by omega⟩
  dsimp only at this
  rw [show (((x + 8).toNat : Nat) : Int) - 8 = x by omega, show (((y + 7).toNat : Nat) : Int) - 7 = y by omega] at this
  exact this
noncomputable def gcI (i j : Nat) : Int := (Int.gcd ((i : Int) - 7) ((j : Int) - 7) : Int)
noncomputable def rkB (i j : Nat) : Bool := (i == 7 && j == 7) || (decide (red (i3 ((i : Int) - 7), i3 ((j : Int) - 7)) = (i3 (((i : Int) - 7) / gcI i j), i3 (((j : Int) - 7) / gcI i j))) && decide (((i : Int) - 7) = gcI i j * (((i : Int) - 7) / gcI i j)) && decide (((j : Int) - 7) = gcI i j * (((j : Int) - 7) / gcI i j)) && decide (-7 ≤ ((i : Int) - 7) / gcI i j ∧ ((i : Int) - 7) / gcI i j ≤ 7) && decide (-7 ≤ ((j : Int) - 7) / gcI i j ∧ ((j : Int) - 7) / gcI i j ≤ 7) && (List.range 15).any fun s => (List.range 15).any fun t => decide (((s : Int) - 7) * (((i : Int) - 7) / gcI i j) + ((t : Int) - 7) * (((j : Int) - 7) / gcI i j) = 1))
theorem rk_ok : (List.range 15).all (fun i => (List.range 15).all fun j => rkB i j) = true := by decide +kernel
theorem red_ok {x y : Int} (hx : -7 ≤ x ∧ x ≤ 7) (hy : -7 ≤ y ∧ y ≤ 7) (hne : x ≠ 0 ∨ y ≠ 0) : ∃ e u v s t : Int, red (i3 x, i3 y) = (i3 u, i3 v) ∧ x = e * u ∧ y = e * v ∧ s * u + t * v = 1 ∧ e ≠ 0 ∧ (-7 ≤ u ∧ u ≤ 7) ∧ (-7 ≤ v ∧ v ≤ 7) := by
  have k := allN (n := 15) (allN (n := 15) rk_ok (m := (x + 7).toNat) (by omega)) (m := (y + 7).toNat) (by omega)
  unfold rkB at k
  have ex : (((x + 7).toNat : Nat) : Int) - 7 = x := by omega
  have ey : (((y + 7).toNat : Nat) : Int) - 7 = y := by omega
  rw [ex, ey] at k
  generalize gcI (x + 7).toNat (y + 7).toNat = e at k
  rw [Bool.or_eq_true] at k
  rcases k with k | k
  · exfalso
    rw [Bool.and_eq_true, beq_iff_eq, beq_iff_eq] at k
    omega
  · simp only [Bool.and_eq_true, decide_eq_true_eq, List.any_eq_true, List.mem_range] at k
    obtain ⟨⟨⟨⟨⟨k1, k2⟩, k3⟩, k4⟩, k5⟩, s, -, t, -, k6⟩ := k
    refine ⟨e, x / e, y / e, (s : Int) - 7, (t : Int) - 7, k1, k2, k3, k6, ?_, k4, k5⟩
    intro e0
    rw [e0, Int.zero_mul] at k2 k3
    omega
theorem on_line {e u v s t X Y : Int} (h1 : s * u + t * v = 1) (he : e ≠ 0) : (e * u) * Y - (e * v) * X = 0 ↔ ∃ k, X = k * u ∧ Y = k * v := by
  constructor
  · intro h
    have h2 : u * Y = v * X := by
      refine Int.eq_of_mul_eq_mul_left he ?_
      grind
    exact ⟨s * X + t * Y, by grind, by grind⟩
  · rintro ⟨k, rfl, rfl⟩
    grind
theorem cb_0 {p : Nat → Bool} : ∀ n, (∀ k, k < n → p k = false) → cb p n = 0
  | 0, _ => rfl
  | n + 1, h => by
    show cb p n + (p n).toNat = 0
    rw [cb_0 n (fun k hk => h k (by omega)), h n (by omega)]
    rfl
theorem cb_1 {p : Nat → Bool} {k0 : Nat} (h0 : p k0 = true) : ∀ n, k0 < n → (∀ k, k < n → k ≠ k0 → p k = false) → cb p n = 1
  | 0, h, _ => absurd h (Nat.not_lt_zero _)
  | n + 1, h, hu => by
    show cb p n + (p n).toNat = 1
    by_cases e : k0 = n
    · subst e
      rw [cb_0 k0 (fun k hk => hu k (by omega) (by omega)), h0]
      rfl
    · rw [cb_1 h0 n (by omega) (fun k hk hn => hu k (by omega) hn), hu n (by omega) (fun e' => e e'.symm)]
      rfl
theorem i3_t : i3 (((true).toNat : Nat) : Int) = i3 1 := rfl
theorem i3_f : i3 (((false).toNat : Nat) : Int) = 0 := rfl
section HI
variable {g : Gd}
theorem cO_hit (h : ok g) {X Y : Int} (hX : -100 ≤ X ∧ X ≤ 100) (hY : -100 ≤ Y ∧ Y ≤ 100) {c : Nat} (hc : c < dn g * dn g) : cellO g (i3 X) (i3 Y) = i3 (c : Int) ↔ X = px (dn g) c ∧ Y = py (dn g) c := by
  have hd := h.d_le
  have hcc := h.cc_le
  have hr := cell_rc hc
  by_cases b : (0 ≤ X ∧ X < (dn g : Int)) ∧ 0 ≤ Y ∧ Y < (dn g : Int)
  · obtain ⟨⟨b1, b2⟩, b3, b4⟩ := b
    obtain ⟨x, rfl⟩ := Int.eq_ofNat_of_zero_le b1
    obtain ⟨y, rfl⟩ := Int.eq_ofNat_of_zero_le b3
    have hx : x < dn g := by omega
    have hy : y < dn g := by omega
    have hlt := rc_lt hx hy
    rw [h.cell hx hy, i3n_inj (by omega) (by omega)]
    unfold px py
    constructor
    · intro e
      rw [← e, rc_div hy, rc_mod hy]
      exact ⟨rfl, rfl⟩
    · rintro ⟨e1, e2⟩
      have e1' : x = c / dn g := by omega
      have e2' : y = c % dn g := by omega
      rw [e1', e2']
      exact Nat.div_add_mod' c (dn g)
  · have e : cellO g (i3 X) (i3 Y) = i3 (-1) := by
      unfold cellO
      by_cases c1 : i3 X < 0
      · rw [if_pos c1]
      by_cases c2 : sD g ≤ i3 X
      · rw [if_neg c1, if_pos c2]
      by_cases c3 : i3 Y < 0
      · rw [if_neg c1, if_neg c2, if_pos c3]
      by_cases c4 : sD g ≤ i3 Y
      · rw [if_neg c1, if_neg c2, if_neg c3, if_pos c4]
      exfalso
      apply b
      rw [i3_0, i3_lt ⟨by omega, by omega⟩ ⟨by omega, by omega⟩] at c1 c3
      rw [h.d_eq, i3_le ⟨by omega, by omega⟩ ⟨by omega, by omega⟩] at c2 c4
      omega
    rw [e, i3_inj ⟨by omega, by omega⟩ ⟨by omega, by omega⟩]
    constructor
    · intro e; omega
    · rintro ⟨e1, e2⟩
      exfalso
      apply b
      have a1 : (0 : Int) ≤ ((c / dn g : Nat) : Int) := Int.natCast_nonneg _
      have a2 : (0 : Int) ≤ ((c % dn g : Nat) : Int) := Int.natCast_nonneg _
      unfold px at e1
      unfold py at e2
      omega
noncomputable def hitB (D : Nat) (R C u v : Int) (c k : Nat) : Bool := decide (R + ((k : Int) - 8) * u = px D c ∧ C + ((k : Int) - 8) * v = py D c)
theorem stp_rd (h : ok g) {R C u v : Int} (hR : 0 ≤ R ∧ R ≤ 7) (hC : 0 ≤ C ∧ C ≤ 7) (hu : -7 ≤ u ∧ u ≤ 7) (hv : -7 ≤ v ∧ v ≤ 7) {c : Nat} (hc : c < dn g * dn g) {k : Nat} (hk : k < 17) {l : List Int32} (hl : l.length = 64) : rd (stp g (i3 R) (i3 C) (i3 u, i3 v) k l) (i3 (c : Int)) = rd l (i3 (c : Int)) + i3 (((hitB (dn g) R C u v c k).toNat : Nat) : Int) := by
  have hcc := h.cc_le
  have m1 := mul8 (x := (k : Int) - 8) (by omega) hu
  have m2 := mul8 (x := (k : Int) - 8) (by omega) hv
  have e1 : i3 R + i3 ((k : Int) - 8) * i3 u = i3 (R + ((k : Int) - 8) * u) := by rw [i3_mul, i3_add]
  have e2 : i3 C + i3 ((k : Int) - 8) * i3 v = i3 (C + ((k : Int) - 8) * v) := by rw [i3_mul, i3_add]
  unfold stp hitB
  dsimp only
  rw [e1, e2]
  generalize ((k : Int) - 8) * u = a at *
  generalize ((k : Int) - 8) * v = b at *
  have hh := cO_hit h (X := R + a) (Y := C + b) (by omega) (by omega) hc
  rw [show decide (R + a = px (dn g) c ∧ C + b = py (dn g) c) = decide (cellO g (i3 (R + a)) (i3 (C + b)) = i3 (c : Int)) from decide_eq_decide.mpr hh.symm]
  by_cases e : cellO g (i3 (R + a)) (i3 (C + b)) = i3 (-1)
  · have ne : ¬ i3 (-1) = i3 (c : Int) := by
      rw [i3_inj ⟨by omega, by omega⟩ ⟨by omega, by omega⟩]
      omega
    rw [if_pos e, e, decide_eq_false ne, i3_f, Int32.add_zero]
  · have hcl := cellO_cl h e
    have hb := h.cl hcl
    rw [if_neg e, rd_set hcl.1 (i3n_nneg (by omega)) (by omega)]
    by_cases e3 : cellO g (i3 (R + a)) (i3 (C + b)) = i3 (c : Int)
    · rw [if_pos e3.symm, decide_eq_true e3, e3, i3_t]
    · rw [if_neg (fun q => e3 q.symm), decide_eq_false e3, i3_f, Int32.add_zero]
theorem itr_stp (h : ok g) {R C u v : Int} (hR : 0 ≤ R ∧ R ≤ 7) (hC : 0 ≤ C ∧ C ≤ 7) (hu : -7 ≤ u ∧ u ≤ 7) (hv : -7 ≤ v ∧ v ≤ 7) {c : Nat} (hc : c < dn g * dn g) {l : List Int32} (hl : l.length = 64) : ∀ n, n ≤ 17 → rd (itr (stp g (i3 R) (i3 C) (i3 u, i3 v)) n l) (i3 (c : Int)) = rd l (i3 (c : Int)) + i3 ((cb (hitB (dn g) R C u v c) n : Nat) : Int)
  | 0, _ => (Int32.add_zero _).symm
  | n + 1, hn => by
    show rd (stp g (i3 R) (i3 C) (i3 u, i3 v) n (itr (stp g (i3 R) (i3 C) (i3 u, i3 v)) n l)) (i3 (c : Int)) = rd l (i3 (c : Int)) + i3 ((cb (hitB (dn g) R C u v c) n + (hitB (dn g) R C u v c n).toNat : Nat) : Int)
    rw [stp_rd h hR hC hu hv hc (by omega) ((itr_len (stp_len g _ _ _) n l).trans hl), itr_stp h hR hC hu hv hc hl n (by omega), Int32.add_assoc, i3_add, Int.natCast_add]
/-- what a line adds -/
theorem lnA_rd (h : ok g) {m a b : Nat} (hm : m < 4096) (ha : a < nn g) (hb : b < nn g) (hab : a ≠ b) (la' : lo m = a) (lb' : lo2 m = b) {c : Nat} (hc : c < dn g * dn g) {l : List Int32} (hl : l.length = 64) : rd (lnA g (i3 (m : Int)) l) (i3 (c : Int)) = rd l (i3 (c : Int)) + i3 (((decide (dt (dn g) (cN g a) (cN g b) c = 0)).toNat : Nat) : Int) := by
  have hcc := h.cc_le
  unfold lnA
  rw [ntz_eq hm, ntz2_eq hm, la', lb', if_pos ⟨h.T ha, h.T hb⟩]
  have ca := h.cNe ha
  have cb' := h.cNe hb
  have pa := p_bd h.d_le ca.2
  have pb := p_bd h.d_le cb'.2
  have pc' := p_bd h.d_le hc
  have e1 : rO g (i3 (cN g a : Int)) = i3 (px (dn g) (cN g a)) := h.ro (by omega)
  have e2 : rO g (i3 (cN g b : Int)) = i3 (px (dn g) (cN g b)) := h.ro (by omega)
  have e3 : cO g (i3 (cN g a : Int)) = i3 (py (dn g) (cN g a)) := h.co (by omega)
  have e4 : cO g (i3 (cN g b : Int)) = i3 (py (dn g) (cN g b)) := h.co (by omega)
  rw [ca.1, cb'.1, e1, e2, e3, e4, i3_sub, i3_sub]
  obtain ⟨e, u, v, s, t, r1, r2, r3, r4, r5, r6, r7⟩ := red_ok (x := px (dn g) (cN g b) - px (dn g) (cN g a)) (y := py (dn g) (cN g b) - py (dn g) (cN g a)) (by omega) (by omega) (pt_ne (h.cNi ha hb hab))
  rw [r1, itr_stp h ⟨pa.1, pa.2.1⟩ ⟨pa.2.2.1, pa.2.2.2⟩ r6 r7 hc hl 17 (Nat.le_refl _)]
  refine congrArg (fun n : Nat => rd l (i3 (c : Int)) + i3 (n : Int)) ?_
  have hl' := on_line (X := px (dn g) c - px (dn g) (cN g a)) (Y := py (dn g) c - py (dn g) (cN g a)) r4 r5
  unfold dt
  rw [r2, r3]
  generalize px (dn g) (cN g a) = R at *
  generalize py (dn g) (cN g a) = C at *
  have uv : u ≠ 0 ∨ v ≠ 0 := by
    by_cases e1 : u = 0
    · right
      intro e2
      rw [e1, e2, Int.mul_zero, Int.mul_zero] at r4
      omega
    · exact Or.inl e1
  by_cases hit : ∃ k, px (dn g) c - R = k * u ∧ py (dn g) c - C = k * v
  · rw [decide_eq_true (hl'.mpr hit)]
    obtain ⟨k, k1, k2⟩ := hit
    have kb : -8 ≤ k ∧ k ≤ 8 := by
      refine Classical.byContradiction fun hn => ?_
      have big : ∀ w : Int, w ≠ 0 → -7 ≤ k * w ∧ k * w ≤ 7 → False := fun w hw hb => by
        have ab : 8 < k.natAbs := by omega
        have a2 : 1 ≤ w.natAbs := by omega
        have a3 : (k * w).natAbs ≤ 7 := by omega
        rw [Int.natAbs_mul] at a3
        have := Nat.mul_le_mul (show 9 ≤ k.natAbs by omega) a2
        omega
      rcases uv with q | q
      · exact big u q (by omega)
      · exact big v q (by omega)
    have k0 : (((k + 8).toNat : Nat) : Int) - 8 = k := by omega
    refine (cb_1 (k0 := (k + 8).toNat) ?_ 17 (by omega) ?_)
    · unfold hitB
      rw [k0]
      exact decide_eq_true ⟨by omega, by omega⟩
    · intro q hq hne
      unfold hitB
      refine decide_eq_false ?_
      rintro ⟨q1, q2⟩
      apply hne
      have w1 : ((q : Int) - 8) * u = k * u := by omega
      have w2 : ((q : Int) - 8) * v = k * v := by omega
      have w : (q : Int) - 8 = k := by
        rcases uv with z | z
        · exact Int.eq_of_mul_eq_mul_right z w1
        · exact Int.eq_of_mul_eq_mul_right z w2
      omega
  · rw [decide_eq_false (fun q => hit (hl'.mp q))]
    refine cb_0 17 ?_
    intro k hk
    unfold hitB
    refine decide_eq_false ?_
    rintro ⟨q1, q2⟩
    exact hit ⟨(k : Int) - 8, by omega, by omega⟩
end HI
end
section
/-! ===== moves: what the class counts is what the garden would have ===== -/
noncomputable def mb (m t : Nat) : Nat := msk (fun k => m.testBit k && decide (k ≠ t)) 12
theorem mb_bit {m t k : Nat} (hm : m < 4096) : (mb m t).testBit k = (m.testBit k && decide (k ≠ t)) := by
  unfold mb
  rw [msk_bit]
  by_cases e : k < 12
  · rw [decide_eq_true e, Bool.true_and]
  · have : m.testBit k = false := Nat.testBit_lt_two_pow (Nat.lt_of_lt_of_le hm (Nat.pow_le_pow_right (n := 2) (by omega) (show 12 ≤ k by omega)))
    rw [decide_eq_false e, this]
    rfl
theorem mb_iff {m t k : Nat} (hm : m < 4096) : (mb m t).testBit k = true ↔ m.testBit k = true ∧ k ≠ t := by
  rw [mb_bit hm, Bool.and_eq_true, decide_eq_true_eq]
theorem mb_lt (m t : Nat) : mb m t < 4096 := msk_lt _ 12
theorem but_eq {m t : Nat} (hm : m < 4096) (ht : t < 12) : but (i3 (m : Int)) (i3 (t : Int)) = i3 (mb m t : Int) := by
  unfold but
  apply Int32.toBitVec_inj.mp
  rw [Int32.toBitVec_and, Int32.toBitVec_xor, bit_bv (by omega), i3_bv, i3_bv, show (i3 (-1)).toBitVec = BitVec.allOnes 32 from rfl]
  apply BitVec.eq_of_getLsbD_eq
  intro i hi
  rw [BitVec.getLsbD_and, BitVec.getLsbD_xor, BitVec.getLsbD_twoPow, BitVec.getLsbD_allOnes, BitVec.getLsbD_ofNat, BitVec.getLsbD_ofNat, mb_bit hm]
  simp only [hi, show t < 32 by omega, decide_true, Bool.true_and, Bool.xor_true]
  by_cases e : i = t
  · subst e
    simp
  · rw [decide_eq_false (fun q : t = i => e q.symm), decide_eq_true e]
    rfl
theorem lo_two {m : Nat} (hm : m < 4096) (h : 2 ≤ pc m) : lo m < lo2 m ∧ lo2 m < 12 ∧ m.testBit (lo m) = true ∧ m.testBit (lo2 m) = true := lo_two2 h
theorem pc_mb {m t : Nat} (hm : m < 4096) (ht : t < 12) : pc m = pc (mb m t) + (m.testBit t).toNat := by
  unfold pc
  cases e : m.testBit t with
  | true =>
    refine cb_add (p := fun q => (mb m t).testBit q) (q := fun q => m.testBit q) (n := 12) (k := t) (fun j hj => ?_) ?_ e ht
    · show m.testBit j = (mb m t).testBit j
      rw [mb_bit hm, decide_eq_true hj, Bool.and_true]
    · show (mb m t).testBit t = false
      rw [mb_bit hm, decide_eq_false (fun q => q rfl), Bool.and_false]
  | false =>
    refine cb_congr (p := fun q => m.testBit q) (q := fun q => (mb m t).testBit q) (n := 12) (fun j _ => ?_)
    show m.testBit j = (mb m t).testBit j
    rw [mb_bit hm]
    by_cases e2 : j = t
    · subst e2
      rw [e]
      rfl
    · rw [decide_eq_true e2, Bool.and_true]
section KK
variable {g : Gd}
theorem cN_mv (h : ok g) {t c k : Nat} (ht : t < nn g) (hc : c < dn g * dn g) (hk : k < nn g) : cN (mvT g (i3 (t : Int)) (i3 (c : Int))) k = if k = t then c else cN g k := by
  have hn := h.n_le
  have hcc := h.cc_le
  unfold cN
  rw [cA_mvT h (h.T ht) _ (h.T hk)]
  by_cases e : k = t
  · subst e
    rw [if_pos rfl, if_pos rfl, cl_i3 (by omega)]
  · rw [if_neg (fun q => e ((i3n_inj (by omega) (by omega)).mp q)), if_neg e]
/-- the row of two that stay -/
theorem mv_row (h : ok g) {t c : Nat} (ht : t < nn g) (hc : c < dn g * dn g) (hf : tIn g (i3 (c : Int)) = i3 (-1)) {a b : Nat} (ha : a < nn g) (hb : b < nn g) (hat : a ≠ t) (hbt : b ≠ t) : mb (rwm (mvT g (i3 (t : Int)) (i3 (c : Int))) (i3 (a : Int)) (i3 (b : Int))) t = mb (rwm g (i3 (a : Int)) (i3 (b : Int))) t ∧ ((rwm (mvT g (i3 (t : Int)) (i3 (c : Int))) (i3 (a : Int)) (i3 (b : Int))).testBit t = true ↔ ¬ ch g t ∧ dt (dn g) (cN g a) (cN g b) c = 0) := by
  have ok' := ok_mvT h (h.T ht) (h.C hc) hf
  have m1 := rwm_4096 h (i3 (a : Int)) (i3 (b : Int))
  have m2 := rwm_4096 ok' (i3 (a : Int)) (i3 (b : Int))
  have ka := cN_mv h ht hc ha
  have kb := cN_mv h ht hc hb
  rw [if_neg hat] at ka
  rw [if_neg hbt] at kb
  constructor
  · refine bits_ext (fun x => ?_)
    rw [mb_iff m1, mb_iff m2, rw_bit h ha hb, rw_bit ok' (show a < nn (mvT g _ _) from ha) (show b < nn (mvT g _ _) from hb)]
    refine and_congr_left (fun hx => ?_)
    refine and_congr_right (fun hn => ?_)
    refine and_congr_right (fun _ => ?_)
    have kx := cN_mv h ht hc (show x < nn g from hn)
    rw [if_neg hx] at kx
    show dt (dn g) (cN (mvT g _ _) a) (cN (mvT g _ _) b) (cN (mvT g _ _) x) = 0 ↔ _
    rw [ka, kb, kx]
  · rw [rw_bit ok' (show a < nn (mvT g _ _) from ha) (show b < nn (mvT g _ _) from hb)]
    have kt := cN_mv h ht hc ht
    rw [if_pos rfl] at kt
    show (t < nn g ∧ ¬ ch g t ∧ dt (dn g) (cN (mvT g _ _) a) (cN (mvT g _ _) b) (cN (mvT g _ _) t) = 0) ↔ _
    rw [ka, kb, kt]
    exact ⟨fun q => q.2, fun q => ⟨ht, q⟩⟩
/-- what a row brings -/
abbrev kQ (g : Gd) (t c m : Nat) : Prop := 3 ≤ pc (mb m t) ∨ (pc (mb m t) = 2 ∧ ¬ ch g t ∧ dt (dn g) (cN g (lo (mb m t))) (cN g (lo2 (mb m t))) c = 0)
noncomputable def kP (g : Gd) (t c : Nat) (y : Int32) : Bool := decide (kQ g t c y.toNatClampNeg)
/-- two that stay -/
theorem stay2 (h : ok g) {m t : Nat} (r : isRow g m) (hp : 2 ≤ pc (mb m t)) : lo (mb m t) < nn g ∧ lo2 (mb m t) < nn g ∧ lo (mb m t) ≠ lo2 (mb m t) ∧ lo (mb m t) ≠ t ∧ lo2 (mb m t) ≠ t ∧ ¬ ch g (lo (mb m t)) ∧ ¬ ch g (lo2 (mb m t)) ∧ m = rwm g (i3 (lo (mb m t) : Int)) (i3 (lo2 (mb m t) : Int)) := by
  have hm := (row_lt h r).1
  obtain ⟨q1, q2, q3, q4⟩ := lo_two (mb_lt m t) hp
  have q3' := (mb_iff hm).mp q3
  have q4' := (mb_iff hm).mp q4
  obtain ⟨e1, e2, e3, e4, e5⟩ := row_two h r (by omega) q3'.1 q4'.1
  exact ⟨e2, e3, by omega, q3'.2, q4'.2, e4, e5, e1⟩
theorem wT_cnt (h : ok g) {t c : Nat} (ht : t < nn g) (hc : c < dn g * dn g) : ∀ n, n ≤ (RL g).length → (itr (wtF g (RL g) (i3 (t : Int))) n (i3 0, zer)).1 + rd (itr (wtF g (RL g) (i3 (t : Int))) n (i3 0, zer)).2 (i3 (c : Int)) = i3 (((RL g).take n).countP (kP g t c) : Int) ∧ (itr (wtF g (RL g) (i3 (t : Int))) n (i3 0, zer)).2.length = 64 := by
  have hn := h.n_le
  have hcc := h.cc_le
  intro n
  induction n with
  | zero =>
    intro _
    refine ⟨?_, by show zer.length = 64; unfold zer; exact List.length_replicate⟩
    show i3 0 + rd zer (i3 (c : Int)) = i3 0
    rw [rd_i3 (by omega)]
    unfold zer
    rw [List.getD_eq_getElem?_getD, List.getElem?_replicate, if_pos (by omega)]
    rfl
  | succ n ih =>
    intro hl
    obtain ⟨ih1, ih2⟩ := ih (by omega)
    have e : (RL g).take (n + 1) = (RL g).take n ++ [lg (RL g) n] := by
      rw [List.take_add_one, List.getElem?_eq_getElem (by omega)]
      unfold lg
      rw [List.getD_eq_getElem?_getD, List.getElem?_eq_getElem (by omega)]
      rfl
    show (wtF g (RL g) (i3 (t : Int)) n (itr (wtF g (RL g) (i3 (t : Int))) n (i3 0, zer))).1 + rd (wtF g (RL g) (i3 (t : Int)) n (itr (wtF g (RL g) (i3 (t : Int))) n (i3 0, zer))).2 (i3 (c : Int)) = _ ∧ (wtF g (RL g) (i3 (t : Int)) n (itr (wtF g (RL g) (i3 (t : Int))) n (i3 0, zer))).2.length = 64
    rw [e, List.countP_append, List.countP_singleton]
    generalize itr (wtF g (RL g) (i3 (t : Int))) n (i3 0, zer) = A at *
    generalize ((RL g).take n).countP (kP g t c) = N at *
    refine ⟨?_, (wtF_len _ _ _ _ _).trans ih2⟩
    obtain ⟨m, r, hy⟩ := (RL_iff h).mp (lg_mem (L := RL g) (k := n) (by omega))
    have hm := (row_lt h r).1
    have hp12 := pc_le (mb m t)
    have kp : kP g t c (lg (RL g) n) = decide (kQ g t c m) := by
      unfold kP
      rw [hy, cl_i3 (by omega)]
    rw [kp]
    unfold wtF
    rw [hy, but_eq hm (by omega), bct_eq (mb_lt m t)]
    have q3 : (i3 (pc (mb m t) : Int) < i3 3) ↔ pc (mb m t) < 3 := i3n_lt (b := 3) (by omega) (by omega)
    have q2 : (i3 (pc (mb m t) : Int) = i3 2) ↔ pc (mb m t) = 2 := i3n_inj (b := 2) (by omega) (by omega)
    by_cases c3 : pc (mb m t) < 3
    · rw [if_pos (q3.mpr c3)]
      by_cases c2 : pc (mb m t) = 2
      · rw [if_pos (q2.mpr c2)]
        by_cases c4 : ch g t
        · have nk : ¬ kQ g t c m := by rintro (q | q); (· omega); (· exact q.2.1 c4)
          rw [if_pos ((k4 _).mpr c4), decide_eq_false nk, if_neg (by decide)]
          exact ih1
        · rw [if_neg (fun q => c4 ((k4 _).mp q))]
          dsimp only
          obtain ⟨s1, s2, s3, -⟩ := stay2 h (t := t) r (by omega)
          rw [lnA_rd h (mb_lt m t) s1 s2 s3 rfl rfl hc ih2, ← Int32.add_assoc, ih1, i3_add]
          have ek : kQ g t c m ↔ dt (dn g) (cN g (lo (mb m t))) (cN g (lo2 (mb m t))) c = 0 := ⟨fun q => q.elim (fun q => absurd q (by omega)) (fun q => q.2.2), fun q => Or.inr ⟨c2, c4, q⟩⟩
          rw [show decide (kQ g t c m) = decide (dt (dn g) (cN g (lo (mb m t))) (cN g (lo2 (mb m t))) c = 0) from decide_eq_decide.mpr ek]
          cases decide (dt (dn g) (cN g (lo (mb m t))) (cN g (lo2 (mb m t))) c = 0) <;> rfl
      · have nk : ¬ kQ g t c m := by rintro (q | q); (· omega); (· exact c2 q.1)
        rw [if_neg (fun q => c2 (q2.mp q)), decide_eq_false nk, if_neg (by decide)]
        exact ih1
    · have yk : kQ g t c m := Or.inl (by omega)
      rw [if_neg (fun q => c3 (q3.mp q)), decide_eq_true yk, if_pos rfl]
      dsimp only
      rw [Int32.add_assoc, Int32.add_comm (i3 1), ← Int32.add_assoc, ih1]
      exact i3_nat_add _
/-- THE KEY -/
theorem key (h : ok g) {t c : Nat} (ht : t < nn g) (hc : c < dn g * dn g) (hf : tIn g (i3 (c : Int)) = i3 (-1)) : (wT g (RL g) (i3 (t : Int))).1 + rd (wT g (RL g) (i3 (t : Int))).2 (i3 (c : Int)) = V3 (mvT g (i3 (t : Int)) (i3 (c : Int))) := by
  have hn := h.n_le
  have ok' := ok_mvT h (h.T ht) (h.C hc) hf
  have w := (wT_cnt h ht hc (RL g).length (Nat.le_refl _)).1
  rw [List.take_length] at w
  unfold V3
  rw [t3_eq]
  refine w.trans (congrArg (fun n : Nat => i3 (n : Int)) ?_)
  have mrow : ∀ a b, a < nn g → b < nn g → a ≠ t → b ≠ t → _ := fun a b ha hb hat hbt => mv_row h ht hc hf (a := a) (b := b) ha hb hat hbt
  have nr : ∀ a b, rwm (mvT g (i3 (t : Int)) (i3 (c : Int))) a b < 4096 := fun a b => rwm_4096 ok' a b
  have g3 : ∀ M : Nat, M < 4096 → (decide (¬ bct (i3 (M : Int)) < i3 3) = true ↔ 3 ≤ pc M) := fun M hM => by
    have := pc_le M
    have q3 : (i3 (pc M : Int) < i3 3) ↔ pc M < 3 := i3n_lt (b := 3) (by omega) (by omega)
    rw [bct_eq hM, decide_eq_true_eq, q3]
    omega
  have two : ∀ m, kQ g t c m → 2 ≤ pc (mb m t) := fun m q => q.elim (fun q => by omega) (fun q => by omega)
  refine cnt_inj (fun y => rowS (mvT g (i3 (t : Int)) (i3 (c : Int))) (i3 (lo (mb y.toNatClampNeg t) : Int)) (i3 (lo2 (mb y.toNatClampNeg t) : Int))) (RL_nodup h) (RL_nodup ok') ?_ ?_ ?_
  · intro y hy hp
    obtain ⟨m, r, rfl⟩ := (RL_iff h).mp hy
    have hm := (row_lt h r).1
    have hq : kQ g t c m := by
      have := of_decide_eq_true hp
      rw [cl_i3 (by omega)] at this
      exact this
    rw [cl_i3 (by omega)]
    obtain ⟨s1, s2, s3, s4, s5, s6, s7, s8⟩ := stay2 h r (two m hq)
    obtain ⟨w1, w2⟩ := mrow _ _ s1 s2 s4 s5
    rw [rowS_eq ok']
    refine ⟨(RL_iff ok').mpr ⟨_, ⟨_, _, s1, s2, s3, s6, s7, rfl⟩, rfl⟩, ?_⟩
    rw [g3 _ (nr _ _), pc_mb (nr _ _) (show t < 12 by omega), w1, ← s8]
    rcases hq with q | ⟨q1, q2, q3⟩
    · omega
    · rw [w2.mpr ⟨q2, q3⟩, q1]
      exact Nat.le_refl 3
  · intro y hy y' hy' hp hp' e
    obtain ⟨m, r, rfl⟩ := (RL_iff h).mp hy
    obtain ⟨m', r', rfl⟩ := (RL_iff h).mp hy'
    have hm := (row_lt h r).1
    have hm' := (row_lt h r').1
    have hq : kQ g t c m := by
      have := of_decide_eq_true hp
      rw [cl_i3 (by omega)] at this
      exact this
    have hq' : kQ g t c m' := by
      have := of_decide_eq_true hp'
      rw [cl_i3 (by omega)] at this
      exact this
    rw [cl_i3 (by omega), cl_i3 (by omega), rowS_eq ok', rowS_eq ok', i3n_inj (Nat.lt_trans (nr _ _) (by omega)) (Nat.lt_trans (nr _ _) (by omega))] at e
    obtain ⟨s1, s2, s3, s4, s5, s6, s7, s8⟩ := stay2 h r (two m hq)
    obtain ⟨z1, z2, z3, z4', z5, z6, z7, z8⟩ := stay2 h r' (two m' hq')
    have w1 := (mrow _ _ s1 s2 s4 s5).1
    have w2 := (mrow _ _ z1 z2 z4' z5).1
    rw [← s8] at w1
    rw [← z8] at w2
    have em : mb m t = mb m' t := by rw [← w1, ← w2, e]
    rw [s8, z8, em]
  · intro y hy hq
    obtain ⟨M, R, rfl⟩ := (RL_iff ok').mp hy
    have hM := (row_lt ok' R).1
    have p3 := (g3 M hM).mp hq
    have pm := pc_mb hM (show t < 12 by omega)
    have p2 : 2 ≤ pc (mb M t) := by
      have : (M.testBit t).toNat ≤ 1 := by cases M.testBit t <;> decide
      omega
    obtain ⟨s1, s2, s3, s4, s5, s6, s7, s8⟩ := stay2 ok' R p2
    obtain ⟨w1, w2⟩ := mrow _ _ s1 s2 s4 s5
    rw [← s8] at w1 w2
    have hm := rwm_4096 h (i3 (lo (mb M t) : Int)) (i3 (lo2 (mb M t) : Int))
    refine ⟨i3 (rwm g (i3 (lo (mb M t) : Int)) (i3 (lo2 (mb M t) : Int)) : Int), (RL_iff h).mpr ⟨_, ⟨_, _, s1, s2, s3, s6, s7, rfl⟩, rfl⟩, ?_, ?_⟩
    · unfold kP
      rw [cl_i3 (by omega)]
      refine decide_eq_true ?_
      unfold kQ
      rw [← w1]
      cases bt : M.testBit t with
      | true =>
        rw [bt] at pm
        have pm' : pc M = pc (mb M t) + 1 := pm
        by_cases e : pc (mb M t) = 2
        · exact Or.inr ⟨e, (w2.mp bt).1, (w2.mp bt).2⟩
        · exact Or.inl (by omega)
      | false =>
        rw [bt] at pm
        have pm' : pc M = pc (mb M t) := pm
        exact Or.inl (by omega)
    · rw [cl_i3 (by omega), ← w1, rowS_eq ok', ← s8]
/-! ===== improve ===== -/
theorem mT_fb (h : ok g) : mT g (RL g) = fb g V3 := by
  unfold mT fb
  refine itr_congr (fun k a hk => ?_)
  unfold mtF fbF
  by_cases c1 : kOf (kA g (i3 (k : Int))) (i3 1)
  · rw [if_pos c1, if_pos c1]
  rw [if_neg c1, if_neg c1]
  unfold oc
  refine itr_congr (fun q b hq => ?_)
  unfold ocF fcF
  by_cases c2 : tIn g (i3 (q : Int)) = i3 (-1)
  · rw [key h hk hq c2, if_pos c2, if_pos c2]
  · rw [if_neg c2, if_neg c2]
    split <;> rfl
theorem t3_nn (h : ok g) : ¬ t3 (RL g) < i3 (-1) := by
  have hl := RL_len h
  have := List.countP_le_length (p := fun y => decide (¬ bct y < i3 3)) (l := RL g)
  rw [t3_eq, i3_lt ⟨by omega, by omega⟩ ⟨by omega, by omega⟩]
  omega
theorem imp_x (h : ok g) : vImp g = xImp g ∧ gImp g = gxImp g := by
  have hm := fb_P h V3
  have t0 := t3_nn h
  unfold vImp xImp gImp gxImp
  rw [mT_fb h, nT_eq h]
  generalize t3 (RL g) = x at t0
  generalize fb g V3 = a at hm
  by_cases c : a.1 = i3 (-1)
  · rcases hm with e | e
    · rw [if_pos c, if_pos c]
      rw [e]
      dsimp only
      rw [if_neg t0, if_neg t0]
      exact ⟨rfl, rfl⟩
    · exfalso
      have := e.1.1
      rw [c] at this
      exact this (by decide +kernel)
  · rw [if_neg c, if_neg c]
    exact ⟨rfl, rfl⟩
end KK
section KB
variable {g : Gd}
theorem best_x (h : ok g) (w : Int32) : vBest g w = xBest g V3 w := by
  unfold vBest xBest
  rw [mT_fb h]
theorem moved_x (h : ok g) (t c : Int32) : vMoved g t c = xMoved g t c := by
  unfold vMoved xMoved
  by_cases e : nomv g t c = 0
  · rw [if_pos e, if_pos e]
    unfold nomv at e
    by_cases c1 : isT g t
    · rw [if_pos c1] at e
      by_cases c2 : isCl g c
      · rw [if_pos c2] at e
        by_cases c3 : kOf (kA g t) (i3 1)
        · rw [if_pos c3] at e
          exact absurd e (by decide +kernel)
        · rw [if_neg c3] at e
          by_cases c4 : tIn g c = i3 (-1)
          · have e1 := i3_cl c1.1
            have e2 := i3_cl c2.1
            have k1 := h.tl c1
            have k2 := h.cl c2
            have c4' := c4
            rw [e2] at c4'
            have := key h k1 k2 c4'
            rw [← e1, ← e2] at this
            exact this
          · rw [if_neg c4] at e
            exact absurd e (by decide +kernel)
      · rw [if_neg c2] at e
        exact absurd e (by decide +kernel)
    · rw [if_neg c1] at e
      exact absurd e (by decide +kernel)
  · rw [if_neg e, if_neg e]
end KB
end
section
/-! ===== what stays alike ===== -/
noncomputable def INV (s : St) : Prop := CI s ∧ MI s ∧ abC s = abM s
theorem INV00 : INV s00 := ⟨CI00, MI00, ab00⟩
noncomputable def BOi (s : St) (ic nc : Nat) (lc : tL) (im nm' : Nat) (lm : tL) (E : Int32 → Int32 → Prop) : Prop := ∃ v w n1 s1 n2 s2 m2, t_exec t_ctf t_mif n1 none 10 ic nc 0 lc [] (H s) 0 = some (some (.int v), H s1, 0) ∧ t_exec t_ctf t_mif n2 none 10 im nm' 0 lm [] (H s1) 0 = some (some (.int w), H s2, m2) ∧ INV s2 ∧ m2 + 806 * nm s = 806 * nm s2 ∧ (H s1).length = (H s).length ∧ (H s1).length ≤ (H s2).length ∧ E v w
noncomputable def BOj (s : St) (ic nc : Nat) (lc : tL) (im nm' : Nat) (lm : tL) (E : Int64 → Int64 → Prop) : Prop := ∃ v w n1 s1 n2 s2 m2, t_exec t_ctf t_mif n1 none 10 ic nc 0 lc [] (H s) 0 = some (some (.long v), H s1, 0) ∧ t_exec t_ctf t_mif n2 none 10 im nm' 0 lm [] (H s1) 0 = some (some (.long w), H s2, m2) ∧ INV s2 ∧ m2 + 806 * nm s = 806 * nm s2 ∧ (H s1).length = (H s).length ∧ (H s1).length ≤ (H s2).length ∧ E v w
section BO
variable {s : St} {ic nc im nm' : Nat} {lc lm : tL} {A : Ab}
theorem bo_i {E : Int32 → Int32 → Prop} {v : Int32} (h : INV s) (hc : CRi s ic nc lc v A) (hm : ∀ s1, CI s1 → MI s1 → abM s1 = abC s → ∃ w B, MRi s1 im nm' lm w B ∧ A = B ∧ E v w) : BOi s ic nc lc im nm' lm E := by
  obtain ⟨n1, s1, e1, c1, m1, a1, b1, k1⟩ := hc
  obtain ⟨w, B, ⟨n2, s2, m2, e2, c2, i2, a2, b2, k2⟩, hB, hE⟩ := hm s1 c1 m1 (b1.trans h.2.2.symm)
  have l0 := h.2.1.ln
  have l1 := m1.ln
  have l2 := i2.ln
  refine ⟨v, w, n1, s1, n2, s2, m2, e1, e2, ⟨c2, i2, ?_⟩, by omega, by omega, by omega, hE⟩
  rw [a2, a1, b2]
  exact hB
theorem bo_j {E : Int64 → Int64 → Prop} {v : Int64} (h : INV s) (hc : CRj s ic nc lc v A) (hm : ∀ s1, CI s1 → MI s1 → abM s1 = abC s → ∃ w B, MRj s1 im nm' lm w B ∧ A = B ∧ E v w) : BOj s ic nc lc im nm' lm E := by
  obtain ⟨n1, s1, e1, c1, m1, a1, b1, k1⟩ := hc
  obtain ⟨w, B, ⟨n2, s2, m2, e2, c2, i2, a2, b2, k2⟩, hB, hE⟩ := hm s1 c1 m1 (b1.trans h.2.2.symm)
  have l0 := h.2.1.ln
  have l1 := m1.ln
  have l2 := i2.ln
  refine ⟨v, w, n1, s1, n2, s2, m2, e1, e2, ⟨c2, i2, ?_⟩, by omega, by omega, by omega, hE⟩
  rw [a2, a1, b2]
  exact hB
theorem B_0 (h : INV s) (x1 : Int32) (x2 : Int32) (x3 : Int32) : BOi s 2 5 [(0, .ref 0), (1, .int x1), (2, .int x2), (3, .int x3)] 199 5 [(0, .ref 44), (1, .int x1), (2, .int x2), (3, .int x3)] (fun _ _ => True) := by
  refine bo_i h (oC_0 h.1 h.2.1 x1 x2 x3) (fun s1 c1 m1 q => ?_)
  have e1 : md s1 44 = gd s 1 := congrArg (fun a : Ab => a.1) q
  have e2 : ia s1 59 = ia s 25 := congrArg (fun a : Ab => a.2.2.1.1) q
  have e3 : fi s1 44 7 = fi s 24 1 := congrArg (fun a : Ab => a.2.2.1.2) q
  have og : ok (gd s 1) := h.1.1.1
  have hm := oM_0 c1 m1 x1 x2 x3
  rw [q] at hm
  try rw [e1] at hm
  try rw [e2, e3] at hm
  exact ⟨_, _, hm, rfl, trivial⟩
theorem B_1 (h : INV s) (x1 : Int32) (x2 : Int32) (x3 : Int64) : BOi s 3 6 [(0, .ref 0), (1, .int x1), (2, .int x2), (3, .long x3)] 202 6 [(0, .ref 44), (1, .int x1), (2, .int x2), (3, .long x3)] (fun _ _ => True) := by
  obtain ⟨w, hc⟩ := oC_1 h.1 h.2.1 x1 x2 x3
  refine bo_i h hc (fun s1 c1 m1 q => ?_)
  have e1 : md s1 44 = gd s 1 := congrArg (fun a : Ab => a.1) q
  have e2 : ia s1 59 = ia s 25 := congrArg (fun a : Ab => a.2.2.1.1) q
  have e3 : fi s1 44 7 = fi s 24 1 := congrArg (fun a : Ab => a.2.2.1.2) q
  have og : ok (gd s 1) := h.1.1.1
  obtain ⟨w, hm⟩ := oM_1 c1 m1 x1 x2 x3
  rw [q] at hm
  try rw [e1] at hm
  try rw [e2, e3] at hm
  exact ⟨_, _, hm, rfl, trivial⟩
theorem B_2 (h : INV s) (x1 : Int32) (x2 : Int32) (x3 : Int32) (x4 : Int32) (x5 : Int32) : BOi s 4 8 [(0, .ref 0), (1, .int x1), (2, .int x2), (3, .int x3), (4, .int x4), (5, .int x5)] 203 7 [(0, .ref 44), (1, .int x1), (2, .int x2), (3, .int x3), (4, .int x4), (5, .int x5)] (fun _ _ => True) := by
  obtain ⟨w, hc⟩ := oC_2 h.1 h.2.1 x1 x2 x3 x4 x5
  refine bo_i h hc (fun s1 c1 m1 q => ?_)
  have e1 : md s1 44 = gd s 1 := congrArg (fun a : Ab => a.1) q
  have e2 : ia s1 59 = ia s 25 := congrArg (fun a : Ab => a.2.2.1.1) q
  have e3 : fi s1 44 7 = fi s 24 1 := congrArg (fun a : Ab => a.2.2.1.2) q
  have og : ok (gd s 1) := h.1.1.1
  obtain ⟨w, hm⟩ := oM_2 c1 m1 x1 x2 x3 x4 x5
  rw [q] at hm
  try rw [e1] at hm
  try rw [e2, e3] at hm
  exact ⟨_, _, hm, rfl, trivial⟩
theorem B_3 (h : INV s) (x1 : Int32) (x2 : Int32) : BOj s 5 4 [(0, .ref 0), (1, .int x1), (2, .int x2)] 204 3 [(0, .ref 44), (1, .int x1), (2, .int x2)] (fun _ _ => True) := by
  refine bo_j h (oC_3 h.1 h.2.1 x1 x2) (fun s1 c1 m1 q => ?_)
  have e1 : md s1 44 = gd s 1 := congrArg (fun a : Ab => a.1) q
  have e2 : ia s1 59 = ia s 25 := congrArg (fun a : Ab => a.2.2.1.1) q
  have e3 : fi s1 44 7 = fi s 24 1 := congrArg (fun a : Ab => a.2.2.1.2) q
  have og : ok (gd s 1) := h.1.1.1
  have hm := oM_3 c1 m1 x1 x2
  rw [q] at hm
  try rw [e1] at hm
  try rw [e2, e3] at hm
  exact ⟨_, _, hm, rfl, trivial⟩
theorem B_4 (h : INV s) (x1 : Int32) : BOi s 6 3 [(0, .ref 0), (1, .int x1)] 205 2 [(0, .ref 44), (1, .int x1)] (fun _ _ => True) := by
  obtain ⟨w, hc⟩ := oC_4 h.1 h.2.1 x1
  refine bo_i h hc (fun s1 c1 m1 q => ?_)
  have e1 : md s1 44 = gd s 1 := congrArg (fun a : Ab => a.1) q
  have e2 : ia s1 59 = ia s 25 := congrArg (fun a : Ab => a.2.2.1.1) q
  have e3 : fi s1 44 7 = fi s 24 1 := congrArg (fun a : Ab => a.2.2.1.2) q
  have og : ok (gd s 1) := h.1.1.1
  obtain ⟨w, hm⟩ := oM_4 c1 m1 x1
  rw [q] at hm
  try rw [e1] at hm
  try rw [e2, e3] at hm
  exact ⟨_, _, hm, rfl, trivial⟩
theorem B_5 (h : INV s) (x1 : Int32) (x2 : Int32) : BOi s 7 4 [(0, .ref 0), (1, .int x1), (2, .int x2)] 206 3 [(0, .ref 44), (1, .int x1), (2, .int x2)] (fun _ _ => True) := by
  refine bo_i h (oC_5 h.1 h.2.1 x1 x2) (fun s1 c1 m1 q => ?_)
  have e1 : md s1 44 = gd s 1 := congrArg (fun a : Ab => a.1) q
  have e2 : ia s1 59 = ia s 25 := congrArg (fun a : Ab => a.2.2.1.1) q
  have e3 : fi s1 44 7 = fi s 24 1 := congrArg (fun a : Ab => a.2.2.1.2) q
  have og : ok (gd s 1) := h.1.1.1
  have hm := oM_5 c1 m1 x1 x2
  rw [q] at hm
  try rw [e1] at hm
  try rw [e2, e3] at hm
  exact ⟨_, _, hm, rfl, trivial⟩
theorem B_6 (h : INV s) (x1 : Int32) (x2 : Int32) : BOi s 8 4 [(0, .ref 0), (1, .int x1), (2, .int x2)] 209 7 [(0, .ref 44), (1, .int x1), (2, .int x2)] (fun _ _ => True) := by
  obtain ⟨v, hc⟩ := oC_6 h.1 h.2.1 x1 x2
  refine bo_i h hc (fun s1 c1 m1 q => ?_)
  have e1 : md s1 44 = gd s 1 := congrArg (fun a : Ab => a.1) q
  have e2 : ia s1 59 = ia s 25 := congrArg (fun a : Ab => a.2.2.1.1) q
  have e3 : fi s1 44 7 = fi s 24 1 := congrArg (fun a : Ab => a.2.2.1.2) q
  have og : ok (gd s 1) := h.1.1.1
  obtain ⟨v, hm⟩ := oM_6 c1 m1 x1 x2
  rw [q] at hm
  try rw [e1] at hm
  try rw [e2, e3] at hm
  exact ⟨_, _, hm, rfl, trivial⟩
theorem B_7 (h : INV s) (x1 : Int32) : BOi s 9 3 [(0, .ref 0), (1, .int x1)] 211 3 [(0, .ref 44), (1, .int x1)] (fun _ _ => True) := by
  refine bo_i h (oC_7 h.1 h.2.1 x1) (fun s1 c1 m1 q => ?_)
  have e1 : md s1 44 = gd s 1 := congrArg (fun a : Ab => a.1) q
  have e2 : ia s1 59 = ia s 25 := congrArg (fun a : Ab => a.2.2.1.1) q
  have e3 : fi s1 44 7 = fi s 24 1 := congrArg (fun a : Ab => a.2.2.1.2) q
  have og : ok (gd s 1) := h.1.1.1
  have hm := oM_7 c1 m1 x1
  rw [q] at hm
  try rw [e1] at hm
  try rw [e2, e3] at hm
  exact ⟨_, _, hm, rfl, trivial⟩
theorem B_8 (h : INV s) (x1 : Int32) (x2 : Int32) (x3 : Int32) : BOi s 10 4 [(0, .ref 0), (1, .int x1), (2, .int x2), (3, .int x3)] 213 4 [(0, .ref 44), (1, .int x1), (2, .int x2), (3, .int x3)] (fun _ _ => True) := by
  refine bo_i h (oC_8 h.1 h.2.1 x1 x2 x3) (fun s1 c1 m1 q => ?_)
  have e1 : md s1 44 = gd s 1 := congrArg (fun a : Ab => a.1) q
  have e2 : ia s1 59 = ia s 25 := congrArg (fun a : Ab => a.2.2.1.1) q
  have e3 : fi s1 44 7 = fi s 24 1 := congrArg (fun a : Ab => a.2.2.1.2) q
  have og : ok (gd s 1) := h.1.1.1
  have hm := oM_8 c1 m1 x1 x2 x3
  rw [q] at hm
  try rw [e1] at hm
  try rw [e2, e3] at hm
  exact ⟨_, _, hm, rfl, trivial⟩
theorem B_9 (h : INV s) (x1 : Int32) : BOi s 11 2 [(0, .ref 0), (1, .int x1)] 214 2 [(0, .ref 44), (1, .int x1)] (fun _ _ => True) := by
  refine bo_i h (oC_9 h.1 h.2.1 x1) (fun s1 c1 m1 q => ?_)
  have e1 : md s1 44 = gd s 1 := congrArg (fun a : Ab => a.1) q
  have e2 : ia s1 59 = ia s 25 := congrArg (fun a : Ab => a.2.2.1.1) q
  have e3 : fi s1 44 7 = fi s 24 1 := congrArg (fun a : Ab => a.2.2.1.2) q
  have og : ok (gd s 1) := h.1.1.1
  have hm := oM_9 c1 m1 x1
  rw [q] at hm
  try rw [e1] at hm
  try rw [e2, e3] at hm
  exact ⟨_, _, hm, rfl, trivial⟩
theorem B_10 (h : INV s) : BOi s 12 2 [(0, .ref 0)] 215 2 [(0, .ref 44)] (fun _ _ => True) := by
  refine bo_i h (oC_10 h.1 h.2.1) (fun s1 c1 m1 q => ?_)
  have e1 : md s1 44 = gd s 1 := congrArg (fun a : Ab => a.1) q
  have e2 : ia s1 59 = ia s 25 := congrArg (fun a : Ab => a.2.2.1.1) q
  have e3 : fi s1 44 7 = fi s 24 1 := congrArg (fun a : Ab => a.2.2.1.2) q
  have og : ok (gd s 1) := h.1.1.1
  have hm := oM_10 c1 m1
  rw [q] at hm
  try rw [e1] at hm
  try rw [e2, e3] at hm
  exact ⟨_, _, hm, rfl, trivial⟩
theorem B_11 (h : INV s) (x1 : Int32) (x2 : Int32) : BOi s 13 5 [(0, .ref 0), (1, .int x1), (2, .int x2)] 217 5 [(0, .ref 44), (1, .int x1), (2, .int x2)] (fun _ _ => True) := by
  refine bo_i h (oC_11 h.1 h.2.1 x1 x2) (fun s1 c1 m1 q => ?_)
  have e1 : md s1 44 = gd s 1 := congrArg (fun a : Ab => a.1) q
  have e2 : ia s1 59 = ia s 25 := congrArg (fun a : Ab => a.2.2.1.1) q
  have e3 : fi s1 44 7 = fi s 24 1 := congrArg (fun a : Ab => a.2.2.1.2) q
  have og : ok (gd s 1) := h.1.1.1
  have hm := oM_11 c1 m1 x1 x2
  rw [q] at hm
  try rw [e1] at hm
  try rw [e2, e3] at hm
  exact ⟨_, _, hm, rfl, trivial⟩
theorem B_12 (h : INV s) : BOi s 14 1 [(0, .ref 0)] 219 1 [(0, .ref 44)] (fun _ _ => True) := by
  refine bo_i h (oC_12 h.1 h.2.1) (fun s1 c1 m1 q => ?_)
  have e1 : md s1 44 = gd s 1 := congrArg (fun a : Ab => a.1) q
  have e2 : ia s1 59 = ia s 25 := congrArg (fun a : Ab => a.2.2.1.1) q
  have e3 : fi s1 44 7 = fi s 24 1 := congrArg (fun a : Ab => a.2.2.1.2) q
  have og : ok (gd s 1) := h.1.1.1
  have hm := oM_12 c1 m1
  rw [q] at hm
  try rw [e1] at hm
  try rw [e2, e3] at hm
  exact ⟨_, _, hm, rfl, trivial⟩
theorem B_13 (h : INV s) (x1 : Int32) : BOi s 15 2 [(0, .ref 0), (1, .int x1)] 220 2 [(0, .ref 44), (1, .int x1)] (fun _ _ => True) := by
  refine bo_i h (oC_13 h.1 h.2.1 x1) (fun s1 c1 m1 q => ?_)
  have e1 : md s1 44 = gd s 1 := congrArg (fun a : Ab => a.1) q
  have e2 : ia s1 59 = ia s 25 := congrArg (fun a : Ab => a.2.2.1.1) q
  have e3 : fi s1 44 7 = fi s 24 1 := congrArg (fun a : Ab => a.2.2.1.2) q
  have og : ok (gd s 1) := h.1.1.1
  have hm := oM_13 c1 m1 x1
  rw [q] at hm
  try rw [e1] at hm
  try rw [e2, e3] at hm
  exact ⟨_, _, hm, rfl, trivial⟩
theorem B_14 (h : INV s) : BOi s 16 2 [(0, .ref 0)] 221 2 [(0, .ref 44)] (fun _ _ => True) := by
  refine bo_i h (oC_14 h.1 h.2.1) (fun s1 c1 m1 q => ?_)
  have e1 : md s1 44 = gd s 1 := congrArg (fun a : Ab => a.1) q
  have e2 : ia s1 59 = ia s 25 := congrArg (fun a : Ab => a.2.2.1.1) q
  have e3 : fi s1 44 7 = fi s 24 1 := congrArg (fun a : Ab => a.2.2.1.2) q
  have og : ok (gd s 1) := h.1.1.1
  have hm := oM_14 c1 m1
  rw [q] at hm
  try rw [e1] at hm
  try rw [e2, e3] at hm
  exact ⟨_, _, hm, rfl, trivial⟩
theorem B_15 (h : INV s) : BOi s 17 2 [(0, .ref 0)] 234 3 [(0, .ref 44)] (fun _ _ => True) := by
  refine bo_i h (oC_15 h.1 h.2.1) (fun s1 c1 m1 q => ?_)
  have e1 : md s1 44 = gd s 1 := congrArg (fun a : Ab => a.1) q
  have e2 : ia s1 59 = ia s 25 := congrArg (fun a : Ab => a.2.2.1.1) q
  have e3 : fi s1 44 7 = fi s 24 1 := congrArg (fun a : Ab => a.2.2.1.2) q
  have og : ok (gd s 1) := h.1.1.1
  have hm := oM_15 c1 m1
  rw [q] at hm
  try rw [e1] at hm
  try rw [e2, e3] at hm
  exact ⟨_, _, hm, rfl, trivial⟩
theorem B_16 (h : INV s) (x1 : Int32) (x2 : Int32) : BOi s 18 3 [(0, .ref 0), (1, .int x1), (2, .int x2)] 244 3 [(0, .ref 44), (1, .int x1), (2, .int x2)] (fun _ _ => True) := by
  refine bo_i h (oC_16 h.1 h.2.1 x1 x2) (fun s1 c1 m1 q => ?_)
  have e1 : md s1 44 = gd s 1 := congrArg (fun a : Ab => a.1) q
  have e2 : ia s1 59 = ia s 25 := congrArg (fun a : Ab => a.2.2.1.1) q
  have e3 : fi s1 44 7 = fi s 24 1 := congrArg (fun a : Ab => a.2.2.1.2) q
  have og : ok (gd s 1) := h.1.1.1
  have hm := oM_16 c1 m1 x1 x2
  rw [q] at hm
  try rw [e1] at hm
  try rw [e2, e3] at hm
  exact ⟨_, _, hm, rfl, trivial⟩
theorem B_17 (h : INV s) (x1 : Int32) : BOi s 19 2 [(0, .ref 0), (1, .int x1)] 245 2 [(0, .ref 44), (1, .int x1)] (fun _ _ => True) := by
  refine bo_i h (oC_17 h.1 h.2.1 x1) (fun s1 c1 m1 q => ?_)
  have e1 : md s1 44 = gd s 1 := congrArg (fun a : Ab => a.1) q
  have e2 : ia s1 59 = ia s 25 := congrArg (fun a : Ab => a.2.2.1.1) q
  have e3 : fi s1 44 7 = fi s 24 1 := congrArg (fun a : Ab => a.2.2.1.2) q
  have og : ok (gd s 1) := h.1.1.1
  have hm := oM_17 c1 m1 x1
  rw [q] at hm
  try rw [e1] at hm
  try rw [e2, e3] at hm
  exact ⟨_, _, hm, rfl, trivial⟩
theorem B_18 (h : INV s) (x1 : Int32) : BOi s 20 2 [(0, .ref 0), (1, .int x1)] 246 4 [(0, .ref 44), (1, .int x1)] (fun _ _ => True) := by
  refine bo_i h (oC_18 h.1 h.2.1 x1) (fun s1 c1 m1 q => ?_)
  have e1 : md s1 44 = gd s 1 := congrArg (fun a : Ab => a.1) q
  have e2 : ia s1 59 = ia s 25 := congrArg (fun a : Ab => a.2.2.1.1) q
  have e3 : fi s1 44 7 = fi s 24 1 := congrArg (fun a : Ab => a.2.2.1.2) q
  have og : ok (gd s 1) := h.1.1.1
  have hm := oM_18 c1 m1 x1
  rw [q] at hm
  try rw [e1] at hm
  try rw [e2, e3] at hm
  exact ⟨_, _, hm, rfl, trivial⟩
theorem B_19 (h : INV s) : BOi s 21 1 [(0, .ref 0)] 247 1 [(0, .ref 44)] (fun _ _ => True) := by
  refine bo_i h (oC_19 h.1 h.2.1) (fun s1 c1 m1 q => ?_)
  have e1 : md s1 44 = gd s 1 := congrArg (fun a : Ab => a.1) q
  have e2 : ia s1 59 = ia s 25 := congrArg (fun a : Ab => a.2.2.1.1) q
  have e3 : fi s1 44 7 = fi s 24 1 := congrArg (fun a : Ab => a.2.2.1.2) q
  have og : ok (gd s 1) := h.1.1.1
  have hm := oM_19 c1 m1
  rw [q] at hm
  try rw [e1] at hm
  try rw [e2, e3] at hm
  exact ⟨_, _, hm, rfl, trivial⟩
theorem B_20 (h : INV s) (x1 : Int32) (x2 : Int32) : BOi s 22 4 [(0, .ref 0), (1, .int x1), (2, .int x2)] 248 5 [(0, .ref 44), (1, .int x1), (2, .int x2)] (fun _ _ => True) := by
  refine bo_i h (oC_20 h.1 h.2.1 x1 x2) (fun s1 c1 m1 q => ?_)
  have e1 : md s1 44 = gd s 1 := congrArg (fun a : Ab => a.1) q
  have e2 : ia s1 59 = ia s 25 := congrArg (fun a : Ab => a.2.2.1.1) q
  have e3 : fi s1 44 7 = fi s 24 1 := congrArg (fun a : Ab => a.2.2.1.2) q
  have og : ok (gd s 1) := h.1.1.1
  have hm := oM_20 c1 m1 x1 x2
  rw [q] at hm
  try rw [e1] at hm
  try rw [e2, e3] at hm
  exact ⟨_, _, hm, rfl, trivial⟩
theorem B_21 (h : INV s) : BOi s 23 2 [(0, .ref 0)] 249 3 [(0, .ref 44)] (fun _ _ => True) := by
  refine bo_i h (oC_21 h.1 h.2.1) (fun s1 c1 m1 q => ?_)
  have e1 : md s1 44 = gd s 1 := congrArg (fun a : Ab => a.1) q
  have e2 : ia s1 59 = ia s 25 := congrArg (fun a : Ab => a.2.2.1.1) q
  have e3 : fi s1 44 7 = fi s 24 1 := congrArg (fun a : Ab => a.2.2.1.2) q
  have og : ok (gd s 1) := h.1.1.1
  have hm := oM_21 c1 m1
  rw [q] at hm
  try rw [e1] at hm
  try rw [e2, e3] at hm
  exact ⟨_, _, hm, rfl, trivial⟩
theorem B_22 (h : INV s) : BOi s 24 1 [(0, .ref 0)] 250 3 [(0, .ref 44)] (fun _ _ => True) := by
  refine bo_i h (oC_22 h.1 h.2.1) (fun s1 c1 m1 q => ?_)
  have e1 : md s1 44 = gd s 1 := congrArg (fun a : Ab => a.1) q
  have e2 : ia s1 59 = ia s 25 := congrArg (fun a : Ab => a.2.2.1.1) q
  have e3 : fi s1 44 7 = fi s 24 1 := congrArg (fun a : Ab => a.2.2.1.2) q
  have og : ok (gd s 1) := h.1.1.1
  have hm := oM_22 c1 m1
  rw [q] at hm
  try rw [e1] at hm
  try rw [e2, e3] at hm
  exact ⟨_, _, hm, rfl, trivial⟩
theorem B_23 (h : INV s) (x1 : Int32) (x2 : Int32) : BOi s 25 3 [(0, .ref 0), (1, .int x1), (2, .int x2)] 251 3 [(0, .ref 44), (1, .int x1), (2, .int x2)] (fun _ _ => True) := by
  refine bo_i h (oC_23 h.1 h.2.1 x1 x2) (fun s1 c1 m1 q => ?_)
  have e1 : md s1 44 = gd s 1 := congrArg (fun a : Ab => a.1) q
  have e2 : ia s1 59 = ia s 25 := congrArg (fun a : Ab => a.2.2.1.1) q
  have e3 : fi s1 44 7 = fi s 24 1 := congrArg (fun a : Ab => a.2.2.1.2) q
  have og : ok (gd s 1) := h.1.1.1
  have hm := oM_23 c1 m1 x1 x2
  rw [q] at hm
  try rw [e1] at hm
  try rw [e2, e3] at hm
  exact ⟨_, _, hm, rfl, trivial⟩
theorem B_24 (h : INV s) (x1 : Int32) : BOi s 26 2 [(0, .ref 0), (1, .int x1)] 253 2 [(0, .ref 44), (1, .int x1)] (fun _ _ => True) := by
  refine bo_i h (oC_24 h.1 h.2.1 x1) (fun s1 c1 m1 q => ?_)
  have e1 : md s1 44 = gd s 1 := congrArg (fun a : Ab => a.1) q
  have e2 : ia s1 59 = ia s 25 := congrArg (fun a : Ab => a.2.2.1.1) q
  have e3 : fi s1 44 7 = fi s 24 1 := congrArg (fun a : Ab => a.2.2.1.2) q
  have og : ok (gd s 1) := h.1.1.1
  have hm := oM_24 c1 m1 x1
  rw [q] at hm
  try rw [e1] at hm
  try rw [e2, e3] at hm
  exact ⟨_, _, hm, rfl, trivial⟩
theorem B_25 (h : INV s) (x1 : Int32) (x2 : Int32) : BOi s 27 4 [(0, .ref 0), (1, .int x1), (2, .int x2)] 254 8 [(0, .ref 44), (1, .int x1), (2, .int x2)] (fun _ _ => True) := by
  obtain ⟨v, hc⟩ := oC_25 h.1 h.2.1 x1 x2
  refine bo_i h hc (fun s1 c1 m1 q => ?_)
  have e1 : md s1 44 = gd s 1 := congrArg (fun a : Ab => a.1) q
  have e2 : ia s1 59 = ia s 25 := congrArg (fun a : Ab => a.2.2.1.1) q
  have e3 : fi s1 44 7 = fi s 24 1 := congrArg (fun a : Ab => a.2.2.1.2) q
  have og : ok (gd s 1) := h.1.1.1
  obtain ⟨v, hm⟩ := oM_25 c1 m1 x1 x2
  rw [q] at hm
  try rw [e1] at hm
  try rw [e2, e3] at hm
  exact ⟨_, _, hm, rfl, trivial⟩
theorem B_26 (h : INV s) (x1 : Int32) : BOi s 30 2 [(0, .ref 0), (1, .int x1)] 256 17 [(0, .ref 44), (1, .int x1)] (fun _ _ => True) := by
  obtain ⟨a, b, d, hc⟩ := oC_26 h.1 h.2.1 x1
  refine bo_i h hc (fun s1 c1 m1 q => ?_)
  have e1 : md s1 44 = gd s 1 := congrArg (fun a : Ab => a.1) q
  have e2 : ia s1 59 = ia s 25 := congrArg (fun a : Ab => a.2.2.1.1) q
  have e3 : fi s1 44 7 = fi s 24 1 := congrArg (fun a : Ab => a.2.2.1.2) q
  have og : ok (gd s 1) := h.1.1.1
  have hm := oM_26 c1 m1 x1
  rw [q] at hm
  try rw [e1] at hm
  try rw [e2, e3] at hm
  exact ⟨_, _, hm, rfl, trivial⟩
theorem B_27 (h : INV s) (x1 : Int32) : BOi s 31 2 [(0, .ref 0), (1, .int x1)] 259 2 [(0, .ref 44), (1, .int x1)] (fun _ _ => True) := by
  refine bo_i h (oC_27 h.1 h.2.1 x1) (fun s1 c1 m1 q => ?_)
  have e1 : md s1 44 = gd s 1 := congrArg (fun a : Ab => a.1) q
  have e2 : ia s1 59 = ia s 25 := congrArg (fun a : Ab => a.2.2.1.1) q
  have e3 : fi s1 44 7 = fi s 24 1 := congrArg (fun a : Ab => a.2.2.1.2) q
  have og : ok (gd s 1) := h.1.1.1
  have hm := oM_27 c1 m1 x1
  rw [q] at hm
  try rw [e1] at hm
  try rw [e2, e3] at hm
  exact ⟨_, _, hm, rfl, trivial⟩
theorem B_28 (h : INV s) : BOi s 32 3 [(0, .ref 0)] 260 3 [(0, .ref 44)] (fun _ _ => True) := by
  refine bo_i h (oC_28 h.1 h.2.1) (fun s1 c1 m1 q => ?_)
  have e1 : md s1 44 = gd s 1 := congrArg (fun a : Ab => a.1) q
  have e2 : ia s1 59 = ia s 25 := congrArg (fun a : Ab => a.2.2.1.1) q
  have e3 : fi s1 44 7 = fi s 24 1 := congrArg (fun a : Ab => a.2.2.1.2) q
  have og : ok (gd s 1) := h.1.1.1
  have hm := oM_28 c1 m1
  rw [q] at hm
  try rw [e1] at hm
  try rw [e2, e3] at hm
  exact ⟨_, _, hm, rfl, trivial⟩
theorem B_29 (h : INV s) (x1 : Int32) : BOi s 33 2 [(0, .ref 0), (1, .int x1)] 264 2 [(0, .ref 44), (1, .int x1)] (fun _ _ => True) := by
  refine bo_i h (oC_29 h.1 h.2.1 x1) (fun s1 c1 m1 q => ?_)
  have e1 : md s1 44 = gd s 1 := congrArg (fun a : Ab => a.1) q
  have e2 : ia s1 59 = ia s 25 := congrArg (fun a : Ab => a.2.2.1.1) q
  have e3 : fi s1 44 7 = fi s 24 1 := congrArg (fun a : Ab => a.2.2.1.2) q
  have og : ok (gd s 1) := h.1.1.1
  have hm := oM_29 c1 m1 x1
  rw [q] at hm
  try rw [e1] at hm
  try rw [e2, e3] at hm
  exact ⟨_, _, hm, rfl, trivial⟩
theorem B_30 (h : INV s) (x1 : Int32) (x2 : Int32) : BOi s 34 4 [(0, .ref 0), (1, .int x1), (2, .int x2)] 266 6 [(0, .ref 44), (1, .int x1), (2, .int x2)] (fun _ _ => True) := by
  refine bo_i h (oC_30 h.1 h.2.1 x1 x2) (fun s1 c1 m1 q => ?_)
  have e1 : md s1 44 = gd s 1 := congrArg (fun a : Ab => a.1) q
  have e2 : ia s1 59 = ia s 25 := congrArg (fun a : Ab => a.2.2.1.1) q
  have e3 : fi s1 44 7 = fi s 24 1 := congrArg (fun a : Ab => a.2.2.1.2) q
  have og : ok (gd s 1) := h.1.1.1
  have hm := oM_30 c1 m1 x1 x2
  rw [q] at hm
  try rw [e1] at hm
  try rw [e2, e3] at hm
  exact ⟨_, _, hm, rfl, trivial⟩
theorem B_31 (h : INV s) : BOj s 35 4 [(0, .ref 0)] 269 4 [(0, .ref 44)] (fun _ _ => True) := by
  refine bo_j h (oC_31 h.1 h.2.1) (fun s1 c1 m1 q => ?_)
  have e1 : md s1 44 = gd s 1 := congrArg (fun a : Ab => a.1) q
  have e2 : ia s1 59 = ia s 25 := congrArg (fun a : Ab => a.2.2.1.1) q
  have e3 : fi s1 44 7 = fi s 24 1 := congrArg (fun a : Ab => a.2.2.1.2) q
  have og : ok (gd s 1) := h.1.1.1
  have hm := oM_31 c1 m1
  rw [q] at hm
  try rw [e1] at hm
  try rw [e2, e3] at hm
  exact ⟨_, _, hm, rfl, trivial⟩
theorem B_32 (h : INV s) (x1 : Int32) : BOi s 36 2 [(0, .ref 0), (1, .int x1)] 270 2 [(0, .ref 44), (1, .int x1)] (fun _ _ => True) := by
  refine bo_i h (oC_32 h.1 h.2.1 x1) (fun s1 c1 m1 q => ?_)
  have e1 : md s1 44 = gd s 1 := congrArg (fun a : Ab => a.1) q
  have e2 : ia s1 59 = ia s 25 := congrArg (fun a : Ab => a.2.2.1.1) q
  have e3 : fi s1 44 7 = fi s 24 1 := congrArg (fun a : Ab => a.2.2.1.2) q
  have og : ok (gd s 1) := h.1.1.1
  have hm := oM_32 c1 m1 x1
  rw [q] at hm
  try rw [e1] at hm
  try rw [e2, e3] at hm
  exact ⟨_, _, hm, rfl, trivial⟩
theorem B_33 (h : INV s) (x1 : Int32) : BOi s 37 2 [(0, .ref 0), (1, .int x1)] 274 2 [(0, .ref 44), (1, .int x1)] (fun _ _ => True) := by
  refine bo_i h (oC_33 h.1 h.2.1 x1) (fun s1 c1 m1 q => ?_)
  have e1 : md s1 44 = gd s 1 := congrArg (fun a : Ab => a.1) q
  have e2 : ia s1 59 = ia s 25 := congrArg (fun a : Ab => a.2.2.1.1) q
  have e3 : fi s1 44 7 = fi s 24 1 := congrArg (fun a : Ab => a.2.2.1.2) q
  have og : ok (gd s 1) := h.1.1.1
  have hm := oM_33 c1 m1 x1
  rw [q] at hm
  try rw [e1] at hm
  try rw [e2, e3] at hm
  exact ⟨_, _, hm, rfl, trivial⟩
theorem B_34 (h : INV s) : BOj s 38 4 [(0, .ref 0)] 275 4 [(0, .ref 44)] (fun _ _ => True) := by
  refine bo_j h (oC_34 h.1 h.2.1) (fun s1 c1 m1 q => ?_)
  have e1 : md s1 44 = gd s 1 := congrArg (fun a : Ab => a.1) q
  have e2 : ia s1 59 = ia s 25 := congrArg (fun a : Ab => a.2.2.1.1) q
  have e3 : fi s1 44 7 = fi s 24 1 := congrArg (fun a : Ab => a.2.2.1.2) q
  have og : ok (gd s 1) := h.1.1.1
  have hm := oM_34 c1 m1
  rw [q] at hm
  try rw [e1] at hm
  try rw [e2, e3] at hm
  exact ⟨_, _, hm, rfl, trivial⟩
theorem B_35 (h : INV s) (x1 : Int32) (x2 : Int32) : BOi s 39 3 [(0, .ref 0), (1, .int x1), (2, .int x2)] 276 3 [(0, .ref 44), (1, .int x1), (2, .int x2)] (fun _ _ => True) := by
  refine bo_i h (oC_35 h.1 h.2.1 x1 x2) (fun s1 c1 m1 q => ?_)
  have e1 : md s1 44 = gd s 1 := congrArg (fun a : Ab => a.1) q
  have e2 : ia s1 59 = ia s 25 := congrArg (fun a : Ab => a.2.2.1.1) q
  have e3 : fi s1 44 7 = fi s 24 1 := congrArg (fun a : Ab => a.2.2.1.2) q
  have og : ok (gd s 1) := h.1.1.1
  have hm := oM_35 c1 m1 x1 x2
  rw [q] at hm
  try rw [e1] at hm
  try rw [e2, e3] at hm
  exact ⟨_, _, hm, rfl, trivial⟩
theorem B_36 (h : INV s) (x1 : Int32) : BOi s 40 2 [(0, .ref 0), (1, .int x1)] 278 7 [(0, .ref 44), (1, .int x1)] (fun _ _ => True) := by
  refine bo_i h (oC_36 h.1 h.2.1 x1) (fun s1 c1 m1 q => ?_)
  have e1 : md s1 44 = gd s 1 := congrArg (fun a : Ab => a.1) q
  have e2 : ia s1 59 = ia s 25 := congrArg (fun a : Ab => a.2.2.1.1) q
  have e3 : fi s1 44 7 = fi s 24 1 := congrArg (fun a : Ab => a.2.2.1.2) q
  have og : ok (gd s 1) := h.1.1.1
  have hm := oM_36 c1 m1 x1
  rw [q] at hm
  try rw [e1] at hm
  try rw [e2, e3] at hm
  exact ⟨_, _, hm, rfl, trivial⟩
theorem B_37 (h : INV s) (x1 : Int32) : BOi s 41 2 [(0, .ref 0), (1, .int x1)] 279 2 [(0, .ref 44), (1, .int x1)] (fun _ _ => True) := by
  refine bo_i h (oC_37 h.1 h.2.1 x1) (fun s1 c1 m1 q => ?_)
  have e1 : md s1 44 = gd s 1 := congrArg (fun a : Ab => a.1) q
  have e2 : ia s1 59 = ia s 25 := congrArg (fun a : Ab => a.2.2.1.1) q
  have e3 : fi s1 44 7 = fi s 24 1 := congrArg (fun a : Ab => a.2.2.1.2) q
  have og : ok (gd s 1) := h.1.1.1
  have hm := oM_37 c1 m1 x1
  rw [q] at hm
  try rw [e1] at hm
  try rw [e2, e3] at hm
  exact ⟨_, _, hm, rfl, trivial⟩
theorem B_38 (h : INV s) (x1 : Int32) : BOi s 42 2 [(0, .ref 0), (1, .int x1)] 280 2 [(0, .ref 44), (1, .int x1)] (fun _ _ => True) := by
  refine bo_i h (oC_38 h.1 h.2.1 x1) (fun s1 c1 m1 q => ?_)
  have e1 : md s1 44 = gd s 1 := congrArg (fun a : Ab => a.1) q
  have e2 : ia s1 59 = ia s 25 := congrArg (fun a : Ab => a.2.2.1.1) q
  have e3 : fi s1 44 7 = fi s 24 1 := congrArg (fun a : Ab => a.2.2.1.2) q
  have og : ok (gd s 1) := h.1.1.1
  have hm := oM_38 c1 m1 x1
  rw [q] at hm
  try rw [e1] at hm
  try rw [e2, e3] at hm
  exact ⟨_, _, hm, rfl, trivial⟩
theorem B_39 (h : INV s) (x1 : Int32) : BOi s 43 2 [(0, .ref 0), (1, .int x1)] 265 2 [(0, .ref 44), (1, .int x1)] (fun _ _ => True) := by
  refine bo_i h (oC_39 h.1 h.2.1 x1) (fun s1 c1 m1 q => ?_)
  have e1 : md s1 44 = gd s 1 := congrArg (fun a : Ab => a.1) q
  have e2 : ia s1 59 = ia s 25 := congrArg (fun a : Ab => a.2.2.1.1) q
  have e3 : fi s1 44 7 = fi s 24 1 := congrArg (fun a : Ab => a.2.2.1.2) q
  have og : ok (gd s 1) := h.1.1.1
  have hm := oM_39 c1 m1 x1
  rw [q] at hm
  try rw [e1] at hm
  try rw [e2, e3] at hm
  exact ⟨_, _, hm, rfl, trivial⟩
theorem B_40 (h : INV s) : BOi s 44 1 [(0, .ref 0)] 283 7 [(0, .ref 44)] (fun _ _ => True) := by
  refine bo_i h (oC_40 h.1 h.2.1) (fun s1 c1 m1 q => ?_)
  have e1 : md s1 44 = gd s 1 := congrArg (fun a : Ab => a.1) q
  have e2 : ia s1 59 = ia s 25 := congrArg (fun a : Ab => a.2.2.1.1) q
  have e3 : fi s1 44 7 = fi s 24 1 := congrArg (fun a : Ab => a.2.2.1.2) q
  have og : ok (gd s 1) := h.1.1.1
  have hm := oM_40 c1 m1
  rw [q] at hm
  try rw [e1] at hm
  try rw [e2, e3] at hm
  exact ⟨_, _, hm, rfl, trivial⟩
theorem B_41 (h : INV s) : BOi s 45 1 [(0, .ref 0)] 284 6 [(0, .ref 44)] (fun _ _ => True) := by
  refine bo_i h (oC_41 h.1 h.2.1) (fun s1 c1 m1 q => ?_)
  have e1 : md s1 44 = gd s 1 := congrArg (fun a : Ab => a.1) q
  have e2 : ia s1 59 = ia s 25 := congrArg (fun a : Ab => a.2.2.1.1) q
  have e3 : fi s1 44 7 = fi s 24 1 := congrArg (fun a : Ab => a.2.2.1.2) q
  have og : ok (gd s 1) := h.1.1.1
  have hm := oM_41 c1 m1
  rw [q] at hm
  try rw [e1] at hm
  try rw [e2, e3] at hm
  exact ⟨_, _, hm, rfl, trivial⟩
theorem B_42 (h : INV s) : BOi s 46 1 [(0, .ref 0)] 285 4 [(0, .ref 44)] (fun _ _ => True) := by
  refine bo_i h (oC_42 h.1 h.2.1) (fun s1 c1 m1 q => ?_)
  have e1 : md s1 44 = gd s 1 := congrArg (fun a : Ab => a.1) q
  have e2 : ia s1 59 = ia s 25 := congrArg (fun a : Ab => a.2.2.1.1) q
  have e3 : fi s1 44 7 = fi s 24 1 := congrArg (fun a : Ab => a.2.2.1.2) q
  have og : ok (gd s 1) := h.1.1.1
  have hm := oM_42 c1 m1
  rw [q] at hm
  try rw [e1] at hm
  try rw [e2, e3] at hm
  exact ⟨_, _, hm, rfl, trivial⟩
theorem B_43 (h : INV s) : BOi s 47 1 [(0, .ref 0)] 286 6 [(0, .ref 44)] (fun _ _ => True) := by
  refine bo_i h (oC_43 h.1 h.2.1) (fun s1 c1 m1 q => ?_)
  have e1 : md s1 44 = gd s 1 := congrArg (fun a : Ab => a.1) q
  have e2 : ia s1 59 = ia s 25 := congrArg (fun a : Ab => a.2.2.1.1) q
  have e3 : fi s1 44 7 = fi s 24 1 := congrArg (fun a : Ab => a.2.2.1.2) q
  have og : ok (gd s 1) := h.1.1.1
  have hm := oM_43 c1 m1
  rw [q] at hm
  try rw [e1] at hm
  try rw [e2, e3] at hm
  exact ⟨_, _, hm, rfl, trivial⟩
theorem B_44 (h : INV s) : BOi s 48 1 [(0, .ref 0)] 288 7 [(0, .ref 44)] (fun _ _ => True) := by
  refine bo_i h (oC_44 h.1 h.2.1) (fun s1 c1 m1 q => ?_)
  have e1 : md s1 44 = gd s 1 := congrArg (fun a : Ab => a.1) q
  have e2 : ia s1 59 = ia s 25 := congrArg (fun a : Ab => a.2.2.1.1) q
  have e3 : fi s1 44 7 = fi s 24 1 := congrArg (fun a : Ab => a.2.2.1.2) q
  have og : ok (gd s 1) := h.1.1.1
  have hm := oM_44 c1 m1
  rw [q] at hm
  try rw [e1] at hm
  try rw [e2, e3] at hm
  exact ⟨_, _, hm, rfl, trivial⟩
theorem B_45 (h : INV s) : BOi s 49 3 [(0, .ref 0)] 291 3 [(0, .ref 44)] (fun _ _ => True) := by
  refine bo_i h (oC_45 h.1 h.2.1) (fun s1 c1 m1 q => ?_)
  have e1 : md s1 44 = gd s 1 := congrArg (fun a : Ab => a.1) q
  have e2 : ia s1 59 = ia s 25 := congrArg (fun a : Ab => a.2.2.1.1) q
  have e3 : fi s1 44 7 = fi s 24 1 := congrArg (fun a : Ab => a.2.2.1.2) q
  have og : ok (gd s 1) := h.1.1.1
  have hm := oM_45 c1 m1
  rw [q] at hm
  try rw [e1] at hm
  try rw [e2, e3] at hm
  exact ⟨_, _, hm, rfl, trivial⟩
theorem B_46 (h : INV s) (x1 : Int32) : BOi s 50 2 [(0, .ref 0), (1, .int x1)] 271 6 [(0, .ref 44), (1, .int x1)] (fun _ _ => True) := by
  refine bo_i h (oC_46 h.1 h.2.1 x1) (fun s1 c1 m1 q => ?_)
  have e1 : md s1 44 = gd s 1 := congrArg (fun a : Ab => a.1) q
  have e2 : ia s1 59 = ia s 25 := congrArg (fun a : Ab => a.2.2.1.1) q
  have e3 : fi s1 44 7 = fi s 24 1 := congrArg (fun a : Ab => a.2.2.1.2) q
  have og : ok (gd s 1) := h.1.1.1
  have hm := oM_46 c1 m1 x1
  rw [q] at hm
  try rw [e1] at hm
  try rw [e2, e3] at hm
  exact ⟨_, _, hm, rfl, trivial⟩
theorem B_47 (h : INV s) : BOi s 51 2 [(0, .ref 0)] 293 2 [(0, .ref 44)] (fun _ _ => True) := by
  refine bo_i h (oC_47 h.1 h.2.1) (fun s1 c1 m1 q => ?_)
  have e1 : md s1 44 = gd s 1 := congrArg (fun a : Ab => a.1) q
  have e2 : ia s1 59 = ia s 25 := congrArg (fun a : Ab => a.2.2.1.1) q
  have e3 : fi s1 44 7 = fi s 24 1 := congrArg (fun a : Ab => a.2.2.1.2) q
  have og : ok (gd s 1) := h.1.1.1
  have hm := oM_47 c1 m1
  rw [q] at hm
  try rw [e1] at hm
  try rw [e2, e3] at hm
  exact ⟨_, _, hm, rfl, trivial⟩
theorem B_48 (h : INV s) : BOi s 52 2 [(0, .ref 0)] 294 2 [(0, .ref 44)] (fun _ _ => True) := by
  refine bo_i h (oC_48 h.1 h.2.1) (fun s1 c1 m1 q => ?_)
  have e1 : md s1 44 = gd s 1 := congrArg (fun a : Ab => a.1) q
  have e2 : ia s1 59 = ia s 25 := congrArg (fun a : Ab => a.2.2.1.1) q
  have e3 : fi s1 44 7 = fi s 24 1 := congrArg (fun a : Ab => a.2.2.1.2) q
  have og : ok (gd s 1) := h.1.1.1
  have hm := oM_48 c1 m1
  rw [q] at hm
  try rw [e1] at hm
  try rw [e2, e3] at hm
  exact ⟨_, _, hm, rfl, trivial⟩
theorem B_49 (h : INV s) : BOi s 53 2 [(0, .ref 0)] 267 2 [(0, .ref 44)] (fun _ _ => True) := by
  refine bo_i h (oC_49 h.1 h.2.1) (fun s1 c1 m1 q => ?_)
  have e1 : md s1 44 = gd s 1 := congrArg (fun a : Ab => a.1) q
  have e2 : ia s1 59 = ia s 25 := congrArg (fun a : Ab => a.2.2.1.1) q
  have e3 : fi s1 44 7 = fi s 24 1 := congrArg (fun a : Ab => a.2.2.1.2) q
  have og : ok (gd s 1) := h.1.1.1
  have hm := oM_49 c1 m1
  rw [q] at hm
  try rw [e1] at hm
  try rw [e2, e3] at hm
  exact ⟨_, _, hm, by rw [(imp_x og).2], trivial⟩
theorem B_50 (h : INV s) (x1 : Int32) : BOi s 54 3 [(0, .ref 0), (1, .int x1)] 296 5 [(0, .ref 44), (1, .int x1)] (fun _ _ => True) := by
  refine bo_i h (oC_50 h.1 h.2.1 x1) (fun s1 c1 m1 q => ?_)
  have e1 : md s1 44 = gd s 1 := congrArg (fun a : Ab => a.1) q
  have e2 : ia s1 59 = ia s 25 := congrArg (fun a : Ab => a.2.2.1.1) q
  have e3 : fi s1 44 7 = fi s 24 1 := congrArg (fun a : Ab => a.2.2.1.2) q
  have og : ok (gd s 1) := h.1.1.1
  have hm := oM_50 c1 m1 x1
  rw [q] at hm
  try rw [e1] at hm
  try rw [e2, e3] at hm
  exact ⟨_, _, hm, rfl, trivial⟩
theorem B_51 (h : INV s) (x1 : Int32) : BOi s 55 3 [(0, .ref 0), (1, .int x1)] 297 3 [(0, .ref 44), (1, .int x1)] (fun _ _ => True) := by
  refine bo_i h (oC_51 h.1 h.2.1 x1) (fun s1 c1 m1 q => ?_)
  have e1 : md s1 44 = gd s 1 := congrArg (fun a : Ab => a.1) q
  have e2 : ia s1 59 = ia s 25 := congrArg (fun a : Ab => a.2.2.1.1) q
  have e3 : fi s1 44 7 = fi s 24 1 := congrArg (fun a : Ab => a.2.2.1.2) q
  have og : ok (gd s 1) := h.1.1.1
  have hm := oM_51 c1 m1 x1
  rw [q] at hm
  try rw [e1] at hm
  try rw [e2, e3] at hm
  exact ⟨_, _, hm, rfl, trivial⟩
theorem B_52 (h : INV s) : BOi s 56 1 [(0, .ref 0)] 301 1 [(0, .ref 44)] (fun _ _ => True) := by
  refine bo_i h (oC_52 h.1 h.2.1) (fun s1 c1 m1 q => ?_)
  have e1 : md s1 44 = gd s 1 := congrArg (fun a : Ab => a.1) q
  have e2 : ia s1 59 = ia s 25 := congrArg (fun a : Ab => a.2.2.1.1) q
  have e3 : fi s1 44 7 = fi s 24 1 := congrArg (fun a : Ab => a.2.2.1.2) q
  have og : ok (gd s 1) := h.1.1.1
  have hm := oM_52 c1 m1
  rw [q] at hm
  try rw [e1] at hm
  try rw [e2, e3] at hm
  exact ⟨_, _, hm, rfl, trivial⟩
theorem B_53 (h : INV s) : BOi s 57 1 [(0, .ref 0)] 302 1 [(0, .ref 44)] (fun v w => v = w) := by
  refine bo_i h (oC_53 h.1 h.2.1) (fun s1 c1 m1 q => ?_)
  have e1 : md s1 44 = gd s 1 := congrArg (fun a : Ab => a.1) q
  have e2 : ia s1 59 = ia s 25 := congrArg (fun a : Ab => a.2.2.1.1) q
  have e3 : fi s1 44 7 = fi s 24 1 := congrArg (fun a : Ab => a.2.2.1.2) q
  have og : ok (gd s 1) := h.1.1.1
  have hm := oM_53 c1 m1
  rw [q] at hm
  try rw [e1] at hm
  try rw [e2, e3] at hm
  exact ⟨_, _, hm, rfl, rfl⟩
theorem B_54 (h : INV s) (x1 : Int32) : BOi s 58 2 [(0, .ref 0), (1, .int x1)] 303 4 [(0, .ref 44), (1, .int x1)] (fun _ _ => True) := by
  obtain ⟨v, hc⟩ := oC_54 h.1 h.2.1 x1
  refine bo_i h hc (fun s1 c1 m1 q => ?_)
  have e1 : md s1 44 = gd s 1 := congrArg (fun a : Ab => a.1) q
  have e2 : ia s1 59 = ia s 25 := congrArg (fun a : Ab => a.2.2.1.1) q
  have e3 : fi s1 44 7 = fi s 24 1 := congrArg (fun a : Ab => a.2.2.1.2) q
  have og : ok (gd s 1) := h.1.1.1
  obtain ⟨v, hm⟩ := oM_54 c1 m1 x1
  rw [q] at hm
  try rw [e1] at hm
  try rw [e2, e3] at hm
  exact ⟨_, _, hm, rfl, trivial⟩
end BO
end
