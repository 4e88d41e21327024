/-! ===== each call as a run ===== -/
noncomputable def CRi (s : St) (i nL : Nat) (lv : tL) (v : Int32) (A : Ab) : Prop := ∃ n s', t_exec t_ctf t_mif n none 10 i nL 0 lv [] (H s) 0 = some (some (.int v), H s', 0) ∧ CI s' ∧ MI s' ∧ abC s' = A ∧ abM s' = abM s ∧ nm s' = nm s
noncomputable def CRj (s : St) (i nL : Nat) (lv : tL) (v : Int64) (A : Ab) : Prop := ∃ n s', t_exec t_ctf t_mif n none 10 i nL 0 lv [] (H s) 0 = some (some (.long v), H s', 0) ∧ CI s' ∧ MI s' ∧ abC s' = A ∧ abM s' = abM s ∧ nm s' = nm s
noncomputable def MRi (s : St) (i nL : Nat) (lv : tL) (v : Int32) (A : Ab) : Prop := ∃ n s' m, t_exec t_ctf t_mif n none 10 i nL 0 lv [] (H s) 0 = some (some (.int v), H s', m) ∧ CI s' ∧ MI s' ∧ abC s' = abC s ∧ abM s' = A ∧ m + 806 * nm s = 806 * nm s'
noncomputable def MRj (s : St) (i nL : Nat) (lv : tL) (v : Int64) (A : Ab) : Prop := ∃ n s' m, t_exec t_ctf t_mif n none 10 i nL 0 lv [] (H s) 0 = some (some (.long v), H s', m) ∧ CI s' ∧ MI s' ∧ abC s' = abC s ∧ abM s' = A ∧ m + 806 * nm s = 806 * nm s'
section RU
variable {s : St} {i nL : Nat} {lv : tL} {A : Ab}
theorem MI.nm2 (m : MI s) : nm s ≤ 2 := m.2.2.2.1.1.nm2
theorem MI.ln (m : MI s) : (H s).length = 67 + 23 * nm s := H_ln s m.nm2
theorem CC.ri {m : Option (Int32 × tH)} {v : Int32} (h : CC s m v A) (mi : MI s) (S : Wx (67 + 23 * nm s) (fun (x : Int32 × tH) => (some (.int x.1), x.2)) 10 i nL 0 lv [] (H s) m) (nd : (lv.map Prod.fst).Nodup) : CRi s i nL lv v A := by
  obtain ⟨s', e, c', em, a⟩ := h
  obtain ⟨l, n, ex⟩ := S.run mi.ln (by have := mi.nm2; omega) e nd
  exact ⟨n, s', ex, c', em.mi mi, a, em.ab mi.2.2.2.1.1, em.krn.2.2⟩
theorem CC.rj {m : Option (Int64 × tH)} {v : Int64} (h : CC s m v A) (mi : MI s) (S : Wx (67 + 23 * nm s) (fun (x : Int64 × tH) => (some (.long x.1), x.2)) 10 i nL 0 lv [] (H s) m) (nd : (lv.map Prod.fst).Nodup) : CRj s i nL lv v A := by
  obtain ⟨s', e, c', em, a⟩ := h
  obtain ⟨l, n, ex⟩ := S.run mi.ln (by have := mi.nm2; omega) e nd
  exact ⟨n, s', ex, c', em.mi mi, a, em.ab mi.2.2.2.1.1, em.krn.2.2⟩
theorem pl_ri {m : Option Int32} {v : Int32} (e : m = some v) (c : CI s) (mi : MI s) (S : Wx (67 + 23 * nm s) (fun (x : Int32) => (some (.int x), H s)) 10 i nL 0 lv [] (H s) m) (nd : (lv.map Prod.fst).Nodup) : CRi s i nL lv v (abC s) := by
  obtain ⟨l, n, ex⟩ := S.run mi.ln (by have := mi.nm2; omega) e nd
  exact ⟨n, s, ex, c, mi, rfl, rfl, rfl⟩
theorem pl_rj {m : Option Int64} {v : Int64} (e : m = some v) (c : CI s) (mi : MI s) (S : Wx (67 + 23 * nm s) (fun (x : Int64) => (some (.long x), H s)) 10 i nL 0 lv [] (H s) m) (nd : (lv.map Prod.fst).Nodup) : CRj s i nL lv v (abC s) := by
  obtain ⟨l, n, ex⟩ := S.run mi.ln (by have := mi.nm2; omega) e nd
  exact ⟨n, s, ex, c, mi, rfl, rfl, rfl⟩
theorem MC.ri {m : Option (Int32 × tH)} {v : Int32} (h : MC s m v A) (c : CI s) (mi : MI s) (S : Wx (67 + 23 * nm s) (fun (x : Int32 × tH) => (some (.int x.1), x.2)) 10 i nL 0 lv [] (H s) m) (nd : (lv.map Prod.fst).Nodup) : MRi s i nL lv v A := by
  obtain ⟨s', e, m', ec, a⟩ := h
  obtain ⟨l, n, ex⟩ := S.run mi.ln (by have := mi.nm2; omega) e nd
  have l' : (H s').length = 67 + 23 * nm s := l
  have := m'.ln
  exact ⟨n, s', 0, ex, ec.ci c, m', ec.ab, a, by omega⟩
theorem MC.rj {m : Option (Int64 × tH)} {v : Int64} (h : MC s m v A) (c : CI s) (mi : MI s) (S : Wx (67 + 23 * nm s) (fun (x : Int64 × tH) => (some (.long x.1), x.2)) 10 i nL 0 lv [] (H s) m) (nd : (lv.map Prod.fst).Nodup) : MRj s i nL lv v A := by
  obtain ⟨s', e, m', ec, a⟩ := h
  obtain ⟨l, n, ex⟩ := S.run mi.ln (by have := mi.nm2; omega) e nd
  have l' : (H s').length = 67 + 23 * nm s := l
  have := m'.ln
  exact ⟨n, s', 0, ex, ec.ci c, m', ec.ab, a, by omega⟩
theorem pm_ri {m : Option Int32} {v : Int32} (e : m = some v) (c : CI s) (mi : MI s) (S : Wx (67 + 23 * nm s) (fun (x : Int32) => (some (.int x), H s)) 10 i nL 0 lv [] (H s) m) (nd : (lv.map Prod.fst).Nodup) : MRi s i nL lv v (abM s) := by
  obtain ⟨l, n, ex⟩ := S.run mi.ln (by have := mi.nm2; omega) e nd
  exact ⟨n, s, 0, ex, c, mi, rfl, rfl, Nat.zero_add _⟩
theorem pm_rj {m : Option Int64} {v : Int64} (e : m = some v) (c : CI s) (mi : MI s) (S : Wx (67 + 23 * nm s) (fun (x : Int64) => (some (.long x), H s)) 10 i nL 0 lv [] (H s) m) (nd : (lv.map Prod.fst).Nodup) : MRj s i nL lv v (abM s) := by
  obtain ⟨l, n, ex⟩ := S.run mi.ln (by have := mi.nm2; omega) e nd
  exact ⟨n, s, 0, ex, c, mi, rfl, rfl, Nat.zero_add _⟩
end RU
section OP
variable {s : St}
theorem oC_0 (c : CI s) (m : MI s) (x1 : Int32) (x2 : Int32) (x3 : Int32) : CRi s 2 5 [(0, .ref 0), (1, .int x1), (2, .int x2), (3, .int x3)] (vRow x1 x2 x3) ((abC s).1, (abC s).2.1, (abC s).2.2.1, sRow (abC s).2.2.2 x1 x2 x3) := (b_2 c x1 x2 x3).ri m (S_2 8 0 x1 x2 x3 (H s)) (show ([0, 1, 2, 3] : List Nat).Nodup by decide)
theorem oM_0 (c : CI s) (m : MI s) (x1 : Int32) (x2 : Int32) (x3 : Int32) : MRi s 199 5 [(0, .ref 44), (1, .int x1), (2, .int x2), (3, .int x3)] (vRow x1 x2 x3) ((abM s).1, (abM s).2.1, (abM s).2.2.1, sRow (abM s).2.2.2 x1 x2 x3) := (e_2 m x1 x2 x3).ri c m (S_199 8 44 x1 x2 x3 (H s)) (show ([0, 1, 2, 3] : List Nat).Nodup by decide)
theorem oC_1 (c : CI s) (m : MI s) (x1 : Int32) (x2 : Int32) (x3 : Int64) : ∃ w, CRi s 3 6 [(0, .ref 0), (1, .int x1), (2, .int x2), (3, .long x3)] (w) ((abC s).1, (abC s).2.1, (abC s).2.2.1, sSet (abC s).2.2.2 x1 x2 x3) := by
  obtain ⟨w, h⟩ := b_3 c x1 x2 x3
  exact ⟨w, h.ri m (S_3 8 0 x1 x2 x3 (H s)) (show ([0, 1, 2, 3] : List Nat).Nodup by decide)⟩
theorem oM_1 (c : CI s) (m : MI s) (x1 : Int32) (x2 : Int32) (x3 : Int64) : ∃ w, MRi s 202 6 [(0, .ref 44), (1, .int x1), (2, .int x2), (3, .long x3)] (w) ((abM s).1, (abM s).2.1, (abM s).2.2.1, sSet (abM s).2.2.2 x1 x2 x3) := by
  obtain ⟨w, h⟩ := e_3 m x1 x2 x3
  exact ⟨w, h.ri c m (S_202 7 44 x1 x2 x3 (H s)) (show ([0, 1, 2, 3] : List Nat).Nodup by decide)⟩
theorem oC_2 (c : CI s) (m : MI s) (x1 : Int32) (x2 : Int32) (x3 : Int32) (x4 : Int32) (x5 : Int32) : ∃ w, CRi s 4 8 [(0, .ref 0), (1, .int x1), (2, .int x2), (3, .int x3), (4, .int x4), (5, .int x5)] (w) ((abC s).1, (abC s).2.1, (abC s).2.2.1, sCopy (abC s).2.2.2 x1 x2 x3 x4 x5) := by
  obtain ⟨w, h⟩ := b_4 c x1 x2 x3 x4 x5
  exact ⟨w, h.ri m (S_4 8 0 x1 x2 x3 x4 x5 (H s)) (show ([0, 1, 2, 3, 4, 5] : List Nat).Nodup by decide)⟩
theorem oM_2 (c : CI s) (m : MI s) (x1 : Int32) (x2 : Int32) (x3 : Int32) (x4 : Int32) (x5 : Int32) : ∃ w, MRi s 203 7 [(0, .ref 44), (1, .int x1), (2, .int x2), (3, .int x3), (4, .int x4), (5, .int x5)] (w) ((abM s).1, (abM s).2.1, (abM s).2.2.1, sCopy (abM s).2.2.2 x1 x2 x3 x4 x5) := by
  obtain ⟨w, h⟩ := e_4 m x1 x2 x3 x4 x5
  exact ⟨w, h.ri c m (S_203 8 44 x1 x2 x3 x4 x5 (H s)) (show ([0, 1, 2, 3, 4, 5] : List Nat).Nodup by decide)⟩
theorem oC_3 (c : CI s) (m : MI s) (x1 : Int32) (x2 : Int32) : CRj s 5 4 [(0, .ref 0), (1, .int x1), (2, .int x2)] (elV (abC s).2.2.2 x1 x2) (abC s) := pl_rj (b_5 c x1 x2) c m (S_5 9 0 x1 x2 (H s)) (show ([0, 1, 2] : List Nat).Nodup by decide)
theorem oM_3 (c : CI s) (m : MI s) (x1 : Int32) (x2 : Int32) : MRj s 204 3 [(0, .ref 44), (1, .int x1), (2, .int x2)] (elV (abM s).2.2.2 x1 x2) (abM s) := pm_rj (e_5 m x1 x2) c m (S_204 9 44 x1 x2 (H s)) (show ([0, 1, 2] : List Nat).Nodup by decide)
theorem oC_4 (c : CI s) (m : MI s) (x1 : Int32) : ∃ w, CRi s 6 3 [(0, .ref 0), (1, .int x1)] (w) (abC s) := by
  obtain ⟨w, h⟩ := b_6 c x1
  exact ⟨w, pl_ri h c m (S_6 9 0 x1 (H s)) (show ([0, 1] : List Nat).Nodup by decide)⟩
theorem oM_4 (c : CI s) (m : MI s) (x1 : Int32) : ∃ w, MRi s 205 2 [(0, .ref 44), (1, .int x1)] (w) (abM s) := by
  obtain ⟨w, h⟩ := e_6 m x1
  exact ⟨w, pm_ri h c m (S_205 9 44 x1 (H s)) (show ([0, 1] : List Nat).Nodup by decide)⟩
theorem oC_5 (c : CI s) (m : MI s) (x1 : Int32) (x2 : Int32) : CRi s 7 4 [(0, .ref 0), (1, .int x1), (2, .int x2)] (vShow (gd s 1) x1 x2) ((abC s).1, (abC s).2.1, (abC s).2.2.1, sShow (gd s 1) (abC s).2.2.2 x1 x2) := (b_7 c x1 x2).ri m (S_7 8 0 x1 x2 (H s)) (show ([0, 1, 2] : List Nat).Nodup by decide)
theorem oM_5 (c : CI s) (m : MI s) (x1 : Int32) (x2 : Int32) : MRi s 206 3 [(0, .ref 44), (1, .int x1), (2, .int x2)] (vShow (md s 44) x1 x2) ((abM s).1, (abM s).2.1, (abM s).2.2.1, sShow (md s 44) (abM s).2.2.2 x1 x2) := (e_7 m x1 x2).ri c m (S_206 8 44 x1 x2 (H s)) (show ([0, 1, 2] : List Nat).Nodup by decide)
theorem oC_6 (c : CI s) (m : MI s) (x1 : Int32) (x2 : Int32) : ∃ v, CRi s 8 4 [(0, .ref 0), (1, .int x1), (2, .int x2)] (v) (abC s) := by
  obtain ⟨v, h⟩ := b_8 c x1 x2
  exact ⟨v, h.ri m (S_8 4 0 x1 x2 (H s)) (show ([0, 1, 2] : List Nat).Nodup by decide)⟩
theorem oM_6 (c : CI s) (m : MI s) (x1 : Int32) (x2 : Int32) : ∃ v, MRi s 209 7 [(0, .ref 44), (1, .int x1), (2, .int x2)] (v) (abM s) := by
  obtain ⟨v, h⟩ := e_8 m x1 x2
  exact ⟨v, h.ri c m (S_209 5 44 x1 x2 (H s)) (show ([0, 1, 2] : List Nat).Nodup by decide)⟩
theorem oC_7 (c : CI s) (m : MI s) (x1 : Int32) : CRi s 9 3 [(0, .ref 0), (1, .int x1)] (vSide (gd s 1) x1) (gSide (gd s 1) x1, (abC s).2) := (b_9 c x1).ri m (S_9 8 0 x1 (H s)) (show ([0, 1] : List Nat).Nodup by decide)
theorem oM_7 (c : CI s) (m : MI s) (x1 : Int32) : MRi s 211 3 [(0, .ref 44), (1, .int x1)] (vSide (md s 44) x1) (gSide (md s 44) x1, (abM s).2) := (e_9 m x1).ri c m (S_211 8 44 x1 (H s)) (show ([0, 1] : List Nat).Nodup by decide)
theorem oC_8 (c : CI s) (m : MI s) (x1 : Int32) (x2 : Int32) (x3 : Int32) : CRi s 10 4 [(0, .ref 0), (1, .int x1), (2, .int x2), (3, .int x3)] (vTree (gd s 1) x1 x2 x3) (gTree (gd s 1) x1 x2 x3, (abC s).2) := (b_10 c x1 x2 x3).ri m (S_10 8 0 x1 x2 x3 (H s)) (show ([0, 1, 2, 3] : List Nat).Nodup by decide)
theorem oM_8 (c : CI s) (m : MI s) (x1 : Int32) (x2 : Int32) (x3 : Int32) : MRi s 213 4 [(0, .ref 44), (1, .int x1), (2, .int x2), (3, .int x3)] (vTree (md s 44) x1 x2 x3) (gTree (md s 44) x1 x2 x3, (abM s).2) := (e_10 m x1 x2 x3).ri c m (S_213 8 44 x1 x2 x3 (H s)) (show ([0, 1, 2, 3] : List Nat).Nodup by decide)
theorem oC_9 (c : CI s) (m : MI s) (x1 : Int32) : CRi s 11 2 [(0, .ref 0), (1, .int x1)] (vWish (gd s 1) x1) (gWish (gd s 1) x1, (abC s).2) := (b_11 c x1).ri m (S_11 8 0 x1 (H s)) (show ([0, 1] : List Nat).Nodup by decide)
theorem oM_9 (c : CI s) (m : MI s) (x1 : Int32) : MRi s 214 2 [(0, .ref 44), (1, .int x1)] (vWish (md s 44) x1) (gWish (md s 44) x1, (abM s).2) := (e_11 m x1).ri c m (S_214 8 44 x1 (H s)) (show ([0, 1] : List Nat).Nodup by decide)
theorem oC_10 (c : CI s) (m : MI s) : CRi s 12 2 [(0, .ref 0)] (wN (gd s 1)) (uW (gd s 1) (i3 0), (abC s).2) := (b_12 c).ri m (S_12 9 0 (H s)) (show ([0] : List Nat).Nodup by decide)
theorem oM_10 (c : CI s) (m : MI s) : MRi s 215 2 [(0, .ref 44)] (wN (md s 44)) (uW (md s 44) (i3 0), (abM s).2) := (e_12 m).ri c m (S_215 9 44 (H s)) (show ([0] : List Nat).Nodup by decide)
theorem oC_11 (c : CI s) (m : MI s) (x1 : Int32) (x2 : Int32) : CRi s 13 5 [(0, .ref 0), (1, .int x1), (2, .int x2)] (vMove (gd s 1) x1 x2) (gMove (gd s 1) x1 x2, (abC s).2) := (b_13 c x1 x2).ri m (S_13 7 0 x1 x2 (H s)) (show ([0, 1, 2] : List Nat).Nodup by decide)
theorem oM_11 (c : CI s) (m : MI s) (x1 : Int32) (x2 : Int32) : MRi s 217 5 [(0, .ref 44), (1, .int x1), (2, .int x2)] (vMove (md s 44) x1 x2) (gMove (md s 44) x1 x2, (abM s).2) := (e_13 m x1 x2).ri c m (S_217 7 44 x1 x2 (H s)) (show ([0, 1, 2] : List Nat).Nodup by decide)
theorem oC_12 (c : CI s) (m : MI s) : CRi s 14 1 [(0, .ref 0)] (vFell (gd s 1)) (gFell (gd s 1), (abC s).2) := (b_14 c).ri m (S_14 7 0 (H s)) (show ([0] : List Nat).Nodup by decide)
theorem oM_12 (c : CI s) (m : MI s) : MRi s 219 1 [(0, .ref 44)] (vFell (md s 44)) (gFell (md s 44), (abM s).2) := (e_14 m).ri c m (S_219 7 44 (H s)) (show ([0] : List Nat).Nodup by decide)
theorem oC_13 (c : CI s) (m : MI s) (x1 : Int32) : CRi s 15 2 [(0, .ref 0), (1, .int x1)] (vFeed (ia s 25, fi s 24 1) x1) ((abC s).1, (abC s).2.1, tFeed (ia s 25, fi s 24 1) x1, (abC s).2.2.2) := (b_15 c x1).ri m (S_15 8 0 x1 (H s)) (show ([0, 1] : List Nat).Nodup by decide)
theorem oM_13 (c : CI s) (m : MI s) (x1 : Int32) : MRi s 220 2 [(0, .ref 44), (1, .int x1)] (vFeed (ia s 59, fi s 44 7) x1) ((abM s).1, (abM s).2.1, tFeed (ia s 59, fi s 44 7) x1, (abM s).2.2.2) := (e_15 m x1).ri c m (S_220 8 44 x1 (H s)) (show ([0, 1] : List Nat).Nodup by decide)
theorem oC_14 (c : CI s) (m : MI s) : CRi s 16 2 [(0, .ref 0)] (fi s 24 1) ((abC s).1, (abC s).2.1, (ia s 25, i3 0), (abC s).2.2.2) := (b_16 c).ri m (S_16 9 0 (H s)) (show ([0] : List Nat).Nodup by decide)
theorem oM_14 (c : CI s) (m : MI s) : MRi s 221 2 [(0, .ref 44)] (fi s 44 7) ((abM s).1, (abM s).2.1, (ia s 59, i3 0), (abM s).2.2.2) := (e_16 m).ri c m (S_221 9 44 (H s)) (show ([0] : List Nat).Nodup by decide)
theorem oC_15 (c : CI s) (m : MI s) : CRi s 17 2 [(0, .ref 0)] (vRd (rdG (ia s 25) (fi s 24 1).toNatClampNeg (gd s 1))) (gRd (gd s 1) (rdG (ia s 25) (fi s 24 1).toNatClampNeg (gd s 1)), (abC s).2.1, (ia s 25, i3 0), (abC s).2.2.2) := (b_17 c).ri m (S_17 3 0 (H s)) (show ([0] : List Nat).Nodup by decide)
theorem oM_15 (c : CI s) (m : MI s) : MRi s 234 3 [(0, .ref 44)] (vRd (rdG (ia s 59) (fi s 44 7).toNatClampNeg (md s 44))) (gRd (md s 44) (rdG (ia s 59) (fi s 44 7).toNatClampNeg (md s 44)), (abM s).2.1, (ia s 59, i3 0), (abM s).2.2.2) := by
  obtain ⟨n, s2, m1, e, h1, h2, h3, h4⟩ := run_234 m
  exact ⟨n, s2, m1, e, h2.ci c, h1, h2.ab, h3, h4⟩
theorem oC_16 (c : CI s) (m : MI s) (x1 : Int32) (x2 : Int32) : CRi s 18 3 [(0, .ref 0), (1, .int x1), (2, .int x2)] (vTreeOf (gd s 1) x1 x2) (abC s) := (((a_18 c.1 x1 x2)).cc c).ri m (S_18 5 0 x1 x2 (H s)) (show ([0, 1, 2] : List Nat).Nodup by decide)
theorem oM_16 (c : CI s) (m : MI s) (x1 : Int32) (x2 : Int32) : MRi s 244 3 [(0, .ref 44), (1, .int x1), (2, .int x2)] (vTreeOf (md s 44) x1 x2) (abM s) := (((d_18 m.1 x1 x2)).mc m).ri c m (S_244 5 44 x1 x2 (H s)) (show ([0, 1, 2] : List Nat).Nodup by decide)
theorem oC_17 (c : CI s) (m : MI s) (x1 : Int32) : CRi s 19 2 [(0, .ref 0), (1, .int x1)] (vTreeAt (gd s 1) x1) (abC s) := (((a_19 c.1 x1)).cc c).ri m (S_19 8 0 x1 (H s)) (show ([0, 1] : List Nat).Nodup by decide)
theorem oM_17 (c : CI s) (m : MI s) (x1 : Int32) : MRi s 245 2 [(0, .ref 44), (1, .int x1)] (vTreeAt (md s 44) x1) (abM s) := (((d_19 m.1 x1)).mc m).ri c m (S_245 8 44 x1 (H s)) (show ([0, 1] : List Nat).Nodup by decide)
theorem oC_18 (c : CI s) (m : MI s) (x1 : Int32) : CRi s 20 2 [(0, .ref 0), (1, .int x1)] (vMany (gd s 1) x1) (abC s) := (((a_20 c.1 x1)).cc c).ri m (S_20 5 0 x1 (H s)) (show ([0, 1] : List Nat).Nodup by decide)
theorem oM_18 (c : CI s) (m : MI s) (x1 : Int32) : MRi s 246 4 [(0, .ref 44), (1, .int x1)] (vMany (md s 44) x1) (abM s) := (((d_20 m.1 x1)).mc m).ri c m (S_246 6 44 x1 (H s)) (show ([0, 1] : List Nat).Nodup by decide)
theorem oC_19 (c : CI s) (m : MI s) : CRi s 21 1 [(0, .ref 0)] (nT (RL (gd s 1))) (abC s) := (((a_21 c.1)).cc c).ri m (S_21 5 0 (H s)) (show ([0] : List Nat).Nodup by decide)
theorem oM_19 (c : CI s) (m : MI s) : MRi s 247 1 [(0, .ref 44)] (t3 (RL (md s 44))) (abM s) := (((d_21 m.1)).mc m).ri c m (S_247 5 44 (H s)) (show ([0] : List Nat).Nodup by decide)
theorem oC_20 (c : CI s) (m : MI s) (x1 : Int32) (x2 : Int32) : CRi s 22 4 [(0, .ref 0), (1, .int x1), (2, .int x2)] (vRowAt (gd s 1) x1 x2) (abC s) := (((a_22 c.1 x1 x2)).cc c).ri m (S_22 5 0 x1 x2 (H s)) (show ([0, 1, 2] : List Nat).Nodup by decide)
theorem oM_20 (c : CI s) (m : MI s) (x1 : Int32) (x2 : Int32) : MRi s 248 5 [(0, .ref 44), (1, .int x1), (2, .int x2)] (xRowAt (md s 44) x1 x2) (abM s) := (((d_22 m.1 x1 x2)).mc m).ri c m (S_248 6 44 x1 x2 (H s)) (show ([0, 1, 2] : List Nat).Nodup by decide)
theorem oC_21 (c : CI s) (m : MI s) : CRi s 23 2 [(0, .ref 0)] (vLong (gd s 1)) (abC s) := (((a_23 c.1)).cc c).ri m (S_23 5 0 (H s)) (show ([0] : List Nat).Nodup by decide)
theorem oM_21 (c : CI s) (m : MI s) : MRi s 249 3 [(0, .ref 44)] (xLong (md s 44)) (abM s) := (((d_23 m.1)).mc m).ri c m (S_249 6 44 (H s)) (show ([0] : List Nat).Nodup by decide)
theorem oC_22 (c : CI s) (m : MI s) : CRi s 24 1 [(0, .ref 0)] (vAlone (gd s 1)) (abC s) := (((a_24 c.1)).cc c).ri m (S_24 5 0 (H s)) (show ([0] : List Nat).Nodup by decide)
theorem oM_22 (c : CI s) (m : MI s) : MRi s 250 3 [(0, .ref 44)] (xAlone (md s 44)) (abM s) := (((d_24 m.1)).mc m).ri c m (S_250 5 44 (H s)) (show ([0] : List Nat).Nodup by decide)
theorem oC_23 (c : CI s) (m : MI s) (x1 : Int32) (x2 : Int32) : CRi s 25 3 [(0, .ref 0), (1, .int x1), (2, .int x2)] (vThrough (gd s 1) x1 x2) (abC s) := (((a_25 c.1 x1 x2)).cc c).ri m (S_25 7 0 x1 x2 (H s)) (show ([0, 1, 2] : List Nat).Nodup by decide)
theorem oM_23 (c : CI s) (m : MI s) (x1 : Int32) (x2 : Int32) : MRi s 251 3 [(0, .ref 44), (1, .int x1), (2, .int x2)] (vThrough (md s 44) x1 x2) (abM s) := (((d_25 m.1 x1 x2)).mc m).ri c m (S_251 7 44 x1 x2 (H s)) (show ([0, 1, 2] : List Nat).Nodup by decide)
theorem oC_24 (c : CI s) (m : MI s) (x1 : Int32) : CRi s 26 2 [(0, .ref 0), (1, .int x1)] (vInLine (gd s 1) x1) (abC s) := (((a_26 c.1 x1)).cc c).ri m (S_26 6 0 x1 (H s)) (show ([0, 1] : List Nat).Nodup by decide)
theorem oM_24 (c : CI s) (m : MI s) (x1 : Int32) : MRi s 253 2 [(0, .ref 44), (1, .int x1)] (xInLine (md s 44) x1) (abM s) := (((d_26 m.1 x1)).mc m).ri c m (S_253 5 44 x1 (H s)) (show ([0, 1] : List Nat).Nodup by decide)
theorem oC_25 (c : CI s) (m : MI s) (x1 : Int32) (x2 : Int32) : ∃ v, CRi s 27 4 [(0, .ref 0), (1, .int x1), (2, .int x2)] (v) (abC s) := by
  obtain ⟨v, h⟩ := b_27 c x1 x2
  exact ⟨v, h.ri m (S_27 6 0 x1 x2 (H s)) (show ([0, 1, 2] : List Nat).Nodup by decide)⟩
theorem oM_25 (c : CI s) (m : MI s) (x1 : Int32) (x2 : Int32) : ∃ v, MRi s 254 8 [(0, .ref 44), (1, .int x1), (2, .int x2)] (v) (abM s) := by
  obtain ⟨v, h⟩ := e_27 m x1 x2
  exact ⟨v, h.ri c m (S_254 7 44 x1 x2 (H s)) (show ([0, 1, 2] : List Nat).Nodup by decide)⟩
theorem oC_26 (c : CI s) (m : MI s) (x1 : Int32) : ∃ a b d, CRi s 30 2 [(0, .ref 0), (1, .int x1)] (vGap (gd s 1) (a, i3 (-1), b, d) x1) (abC s) := by
  obtain ⟨a, b, d, h⟩ := (a_30 c.1 x1)
  exact ⟨a, b, d, (h.cc c).ri m (S_30 5 0 x1 (H s)) (show ([0, 1] : List Nat).Nodup by decide)⟩
theorem oM_26 (c : CI s) (m : MI s) (x1 : Int32) : MRi s 256 17 [(0, .ref 44), (1, .int x1)] (xGap (md s 44) x1) (abM s) := (((d_30 m.1 x1)).mc m).ri c m (S_256 6 44 x1 (H s)) (show ([0, 1] : List Nat).Nodup by decide)
theorem oC_27 (c : CI s) (m : MI s) (x1 : Int32) : CRi s 31 2 [(0, .ref 0), (1, .int x1)] (vMissed (gd s 1) x1) (abC s) := (((a_31 c.1 x1)).cc c).ri m (S_31 5 0 x1 (H s)) (show ([0, 1] : List Nat).Nodup by decide)
theorem oM_27 (c : CI s) (m : MI s) (x1 : Int32) : MRi s 259 2 [(0, .ref 44), (1, .int x1)] (xMissed (md s 44) x1) (abM s) := (((d_31 m.1 x1)).mc m).ri c m (S_259 3 44 x1 (H s)) (show ([0, 1] : List Nat).Nodup by decide)
theorem oC_28 (c : CI s) (m : MI s) : CRi s 32 3 [(0, .ref 0)] (vLeast (gd s 1)) (abC s) := (((a_32 c.1)).cc c).ri m (S_32 5 0 (H s)) (show ([0] : List Nat).Nodup by decide)
theorem oM_28 (c : CI s) (m : MI s) : MRi s 260 3 [(0, .ref 44)] (xLeast (md s 44)) (abM s) := (((d_32 m.1)).mc m).ri c m (S_260 3 44 (H s)) (show ([0] : List Nat).Nodup by decide)
theorem oC_29 (c : CI s) (m : MI s) (x1 : Int32) : CRi s 33 2 [(0, .ref 0), (1, .int x1)] (vBest (gd s 1) x1) (abC s) := (((a_33 c.1 x1)).cc c).ri m (S_33 5 0 x1 (H s)) (show ([0, 1] : List Nat).Nodup by decide)
theorem oM_29 (c : CI s) (m : MI s) (x1 : Int32) : MRi s 264 2 [(0, .ref 44), (1, .int x1)] (xBest (md s 44) V3 x1) (abM s) := (((d_33 m.1 x1)).mc m).ri c m (S_264 2 44 x1 (H s)) (show ([0, 1] : List Nat).Nodup by decide)
theorem oC_30 (c : CI s) (m : MI s) (x1 : Int32) (x2 : Int32) : CRi s 34 4 [(0, .ref 0), (1, .int x1), (2, .int x2)] (vMoved (gd s 1) x1 x2) (abC s) := (((a_34 c.1 x1 x2)).cc c).ri m (S_34 5 0 x1 x2 (H s)) (show ([0, 1, 2] : List Nat).Nodup by decide)
theorem oM_30 (c : CI s) (m : MI s) (x1 : Int32) (x2 : Int32) : MRi s 266 6 [(0, .ref 44), (1, .int x1), (2, .int x2)] (xMoved (md s 44) x1 x2) (abM s) := (((d_34 m.1 x1 x2)).mc m).ri c m (S_266 5 44 x1 x2 (H s)) (show ([0, 1, 2] : List Nat).Nodup by decide)
theorem oC_31 (c : CI s) (m : MI s) : CRj s 35 4 [(0, .ref 0)] (vMay (gd s 1)) (abC s) := (((a_35 c.1)).cc c).rj m (S_35 5 0 (H s)) (show ([0] : List Nat).Nodup by decide)
theorem oM_31 (c : CI s) (m : MI s) : MRj s 269 4 [(0, .ref 44)] (xMay (md s 44)) (abM s) := pm_rj (q_269 m.1.1) c m (S_269 7 44 (H s)) (show ([0] : List Nat).Nodup by decide)
theorem oC_32 (c : CI s) (m : MI s) (x1 : Int32) : CRi s 36 2 [(0, .ref 0), (1, .int x1)] (vMost x1) (abC s) := (((a_36 c.1 x1)).cc c).ri m (S_36 8 0 x1 (H s)) (show ([0, 1] : List Nat).Nodup by decide)
theorem oM_32 (c : CI s) (m : MI s) (x1 : Int32) : MRi s 270 2 [(0, .ref 44), (1, .int x1)] (vMost x1) (abM s) := (((d_36 m.1 x1)).mc m).ri c m (S_270 8 44 x1 (H s)) (show ([0, 1] : List Nat).Nodup by decide)
theorem oC_33 (c : CI s) (m : MI s) (x1 : Int32) : CRi s 37 2 [(0, .ref 0), (1, .int x1)] (vView (gd s 1) x1) (abC s) := (((a_37 c.1 x1)).cc c).ri m (S_37 4 0 x1 (H s)) (show ([0, 1] : List Nat).Nodup by decide)
theorem oM_33 (c : CI s) (m : MI s) (x1 : Int32) : MRi s 274 2 [(0, .ref 44), (1, .int x1)] (xView (md s 44) x1) (abM s) := (((d_35 m.1 x1)).mc m).ri c m (S_274 6 44 x1 (H s)) (show ([0, 1] : List Nat).Nodup by decide)
theorem oC_34 (c : CI s) (m : MI s) : CRj s 38 4 [(0, .ref 0)] (vOver (gd s 1)) (abC s) := pl_rj (a_38 c.1) c m (S_38 4 0 (H s)) (show ([0] : List Nat).Nodup by decide)
theorem oM_34 (c : CI s) (m : MI s) : MRj s 275 4 [(0, .ref 44)] (xOver (md s 44)) (abM s) := pm_rj (q_275 m.1.1) c m (S_275 6 44 (H s)) (show ([0] : List Nat).Nodup by decide)
theorem oC_35 (c : CI s) (m : MI s) (x1 : Int32) (x2 : Int32) : CRi s 39 3 [(0, .ref 0), (1, .int x1), (2, .int x2)] (vBehind (gd s 1) x1 x2) (abC s) := (((a_39 c.1 x1 x2)).cc c).ri m (S_39 6 0 x1 x2 (H s)) (show ([0, 1, 2] : List Nat).Nodup by decide)
theorem oM_35 (c : CI s) (m : MI s) (x1 : Int32) (x2 : Int32) : MRi s 276 3 [(0, .ref 44), (1, .int x1), (2, .int x2)] (xBehind (md s 44) x1 x2) (abM s) := (((d_38 m.1 x1 x2)).mc m).ri c m (S_276 7 44 x1 x2 (H s)) (show ([0, 1, 2] : List Nat).Nodup by decide)
theorem oC_36 (c : CI s) (m : MI s) (x1 : Int32) : CRi s 40 2 [(0, .ref 0), (1, .int x1)] (vPaths (gd s 1) x1) (abC s) := (((a_40 c.1 x1)).cc c).ri m (S_40 7 0 x1 (H s)) (show ([0, 1] : List Nat).Nodup by decide)
theorem oM_36 (c : CI s) (m : MI s) (x1 : Int32) : MRi s 278 7 [(0, .ref 44), (1, .int x1)] (xPaths (md s 44) x1) (abM s) := (((d_39 m.1 x1)).mc m).ri c m (S_278 8 44 x1 (H s)) (show ([0, 1] : List Nat).Nodup by decide)
theorem oC_37 (c : CI s) (m : MI s) (x1 : Int32) : CRi s 41 2 [(0, .ref 0), (1, .int x1)] (vWishOf (gd s 1) x1) (abC s) := (((a_41 c.1 x1)).cc c).ri m (S_41 8 0 x1 (H s)) (show ([0, 1] : List Nat).Nodup by decide)
theorem oM_37 (c : CI s) (m : MI s) (x1 : Int32) : MRi s 279 2 [(0, .ref 44), (1, .int x1)] (vWishOf (md s 44) x1) (abM s) := (((d_41 m.1 x1)).mc m).ri c m (S_279 8 44 x1 (H s)) (show ([0, 1] : List Nat).Nodup by decide)
theorem oC_38 (c : CI s) (m : MI s) (x1 : Int32) : CRi s 42 2 [(0, .ref 0), (1, .int x1)] (vMet (gd s 1) x1) (abC s) := (((a_42 c.1 x1)).cc c).ri m (S_42 5 0 x1 (H s)) (show ([0, 1] : List Nat).Nodup by decide)
theorem oM_38 (c : CI s) (m : MI s) (x1 : Int32) : MRi s 280 2 [(0, .ref 44), (1, .int x1)] (xMet (md s 44) x1) (abM s) := (((d_42 m.1 x1)).mc m).ri c m (S_280 4 44 x1 (H s)) (show ([0, 1] : List Nat).Nodup by decide)
theorem oC_39 (c : CI s) (m : MI s) (x1 : Int32) : CRi s 43 2 [(0, .ref 0), (1, .int x1)] (vBestFor (gd s 1) x1) (abC s) := (((a_43 c.1 x1)).cc c).ri m (S_43 4 0 x1 (H s)) (show ([0, 1] : List Nat).Nodup by decide)
theorem oM_39 (c : CI s) (m : MI s) (x1 : Int32) : MRi s 265 2 [(0, .ref 44), (1, .int x1)] (xBest (md s 44) mmM x1) (abM s) := (((d_43 m.1 x1)).mc m).ri c m (S_265 2 44 x1 (H s)) (show ([0, 1] : List Nat).Nodup by decide)
theorem oC_40 (c : CI s) (m : MI s) : CRi s 44 1 [(0, .ref 0)] (owns (gd s 1)) (abC s) := pl_ri (a_44 c.1) c m (S_44 6 0 (H s)) (show ([0] : List Nat).Nodup by decide)
theorem oM_40 (c : CI s) (m : MI s) : MRi s 283 7 [(0, .ref 44)] (xAlike (md s 44)) (abM s) := pm_ri (q_283 m.1.1) c m (S_283 9 44 (H s)) (show ([0] : List Nat).Nodup by decide)
theorem oC_41 (c : CI s) (m : MI s) : CRi s 45 1 [(0, .ref 0)] (vMiddle (gd s 1)) (abC s) := (((a_45 c.1)).cc c).ri m (S_45 6 0 (H s)) (show ([0] : List Nat).Nodup by decide)
theorem oM_41 (c : CI s) (m : MI s) : MRi s 284 6 [(0, .ref 44)] (xMiddle (md s 44)) (abM s) := (((d_45 m.1)).mc m).ri c m (S_284 8 44 (H s)) (show ([0] : List Nat).Nodup by decide)
theorem oC_42 (c : CI s) (m : MI s) : CRi s 46 1 [(0, .ref 0)] (vNearest (gd s 1)) (abC s) := (((a_46 c.1)).cc c).ri m (S_46 7 0 (H s)) (show ([0] : List Nat).Nodup by decide)
theorem oM_42 (c : CI s) (m : MI s) : MRi s 285 4 [(0, .ref 44)] (xNearest (md s 44)) (abM s) := (((d_46 m.1)).mc m).ri c m (S_285 8 44 (H s)) (show ([0] : List Nat).Nodup by decide)
theorem oC_43 (c : CI s) (m : MI s) : CRi s 47 1 [(0, .ref 0)] (gar (gd s 1)) (abC s) := pl_ri (a_47 c.1) c m (S_47 7 0 (H s)) (show ([0] : List Nat).Nodup by decide)
theorem oM_43 (c : CI s) (m : MI s) : MRi s 286 6 [(0, .ref 44)] (gl (md s 44)) (abM s) := pm_ri (q_286 m.1.1) c m (S_286 9 44 (H s)) (show ([0] : List Nat).Nodup by decide)
theorem oC_44 (c : CI s) (m : MI s) : CRi s 48 1 [(0, .ref 0)] (csq (gd s 1) / i3 4) (abC s) := pl_ri (a_48 c.1) c m (S_48 5 0 (H s)) (show ([0] : List Nat).Nodup by decide)
theorem oM_44 (c : CI s) (m : MI s) : MRi s 288 7 [(0, .ref 44)] (sqs (md s 44) / i3 4) (abM s) := pm_ri (q_288 m.1.1) c m (S_288 8 44 (H s)) (show ([0] : List Nat).Nodup by decide)
theorem oC_45 (c : CI s) (m : MI s) : CRi s 49 3 [(0, .ref 0)] (vCorners (gd s 1)) (abC s) := pl_ri (a_49 c.1) c m (S_49 5 0 (H s)) (show ([0] : List Nat).Nodup by decide)
theorem oM_45 (c : CI s) (m : MI s) : MRi s 291 3 [(0, .ref 44)] (xCorners (md s 44)) (abM s) := pm_ri (q_291 m.1.1) c m (S_291 7 44 (H s)) (show ([0] : List Nat).Nodup by decide)
theorem oC_46 (c : CI s) (m : MI s) (x1 : Int32) : CRi s 50 2 [(0, .ref 0), (1, .int x1)] (vPointed (gd s 1) x1) (abC s) := (((a_50 c.1 x1)).cc c).ri m (S_50 5 0 x1 (H s)) (show ([0, 1] : List Nat).Nodup by decide)
theorem oM_46 (c : CI s) (m : MI s) (x1 : Int32) : MRi s 271 6 [(0, .ref 44), (1, .int x1)] (xPointed (md s 44) x1) (abM s) := (((d_50 m.1 x1)).mc m).ri c m (S_271 6 44 x1 (H s)) (show ([0, 1] : List Nat).Nodup by decide)
theorem oC_47 (c : CI s) (m : MI s) : CRi s 51 2 [(0, .ref 0)] (cnt (gd s 1) (i3 1)) (mpC (gd s 1) (trn (gd s 1)), (abC s).2) := (b_51 c).ri m (S_51 8 0 (H s)) (show ([0] : List Nat).Nodup by decide)
theorem oM_47 (c : CI s) (m : MI s) : MRi s 293 2 [(0, .ref 44)] (cnt (md s 44) (i3 1)) (mpC (md s 44) (trn (md s 44)), (abM s).2) := (e_51 m).ri c m (S_293 8 44 (H s)) (show ([0] : List Nat).Nodup by decide)
theorem oC_48 (c : CI s) (m : MI s) : CRi s 52 2 [(0, .ref 0)] (cnt (gd s 1) (i3 1)) (mpC (gd s 1) (mir (gd s 1)), (abC s).2) := (b_52 c).ri m (S_52 8 0 (H s)) (show ([0] : List Nat).Nodup by decide)
theorem oM_48 (c : CI s) (m : MI s) : MRi s 294 2 [(0, .ref 44)] (cnt (md s 44) (i3 1)) (mpC (md s 44) (mir (md s 44)), (abM s).2) := (e_52 m).ri c m (S_294 8 44 (H s)) (show ([0] : List Nat).Nodup by decide)
theorem oC_49 (c : CI s) (m : MI s) : CRi s 53 2 [(0, .ref 0)] (vImp (gd s 1)) (gImp (gd s 1), (abC s).2) := (b_53 c).ri m (S_53 5 0 (H s)) (show ([0] : List Nat).Nodup by decide)
theorem oM_49 (c : CI s) (m : MI s) : MRi s 267 2 [(0, .ref 44)] (xImp (md s 44)) (gxImp (md s 44), (abM s).2) := (e_53 m).ri c m (S_267 3 44 (H s)) (show ([0] : List Nat).Nodup by decide)
theorem oC_50 (c : CI s) (m : MI s) (x1 : Int32) : CRi s 54 3 [(0, .ref 0), (1, .int x1)] (vPlant (gd s 1) x1) (gPlant (gd s 1) x1, (abC s).2) := (b_54 c x1).ri m (S_54 6 0 x1 (H s)) (show ([0, 1] : List Nat).Nodup by decide)
theorem oM_50 (c : CI s) (m : MI s) (x1 : Int32) : MRi s 296 5 [(0, .ref 44), (1, .int x1)] (vPlant (md s 44) x1) (gPlant (md s 44) x1, (abM s).2) := (e_54 m x1).ri c m (S_296 8 44 x1 (H s)) (show ([0, 1] : List Nat).Nodup by decide)
theorem oC_51 (c : CI s) (m : MI s) (x1 : Int32) : CRi s 55 3 [(0, .ref 0), (1, .int x1)] (sE (gd s 1)) (uE (gd s 1) x1, (abC s).2) := (b_55 c x1).ri m (S_55 9 0 x1 (H s)) (show ([0, 1] : List Nat).Nodup by decide)
theorem oM_51 (c : CI s) (m : MI s) (x1 : Int32) : MRi s 297 3 [(0, .ref 44), (1, .int x1)] (sE (md s 44)) (uE (md s 44) x1, (abM s).2) := (e_55 m x1).ri c m (S_297 9 44 x1 (H s)) (show ([0, 1] : List Nat).Nodup by decide)
theorem oC_52 (c : CI s) (m : MI s) : CRi s 56 1 [(0, .ref 0)] (i3 1) ((abC s).1, some (gd s 1), (abC s).2.2) := (b_56 c).ri m (S_56 8 0 (H s)) (show ([0] : List Nat).Nodup by decide)
theorem oM_52 (c : CI s) (m : MI s) : MRi s 301 1 [(0, .ref 44)] (i3 1) ((abM s).1, some (md s 44), (abM s).2.2) := by
  obtain ⟨n, s2, m1, e, h1, h2, h3, h4⟩ := run_301 m
  exact ⟨n, s2, m1, e, h2.ci c, h1, h2.ab, h3, h4⟩
theorem oC_53 (c : CI s) (m : MI s) : CRi s 57 1 [(0, .ref 0)] (vBack (abC s).2.1) (gBack (gd s 1) (abC s).2.1, (abC s).2) := (b_57 c).ri m (S_57 7 0 (H s)) (show ([0] : List Nat).Nodup by decide)
theorem oM_53 (c : CI s) (m : MI s) : MRi s 302 1 [(0, .ref 44)] (vBack (abM s).2.1) (gBack (md s 44) (abM s).2.1, (abM s).2) := (e_57 m).ri c m (S_302 7 44 (H s)) (show ([0] : List Nat).Nodup by decide)
theorem oC_54 (c : CI s) (m : MI s) (x1 : Int32) : ∃ v, CRi s 58 2 [(0, .ref 0), (1, .int x1)] (v) (abC s) := by
  obtain ⟨v, h⟩ := b_58 c x1
  exact ⟨v, h.ri m (S_58 5 0 x1 (H s)) (show ([0, 1] : List Nat).Nodup by decide)⟩
theorem oM_54 (c : CI s) (m : MI s) (x1 : Int32) : ∃ v, MRi s 303 4 [(0, .ref 44), (1, .int x1)] (v) (abM s) := by
  obtain ⟨v, h⟩ := e_58 m x1
  exact ⟨v, h.ri c m (S_303 5 44 x1 (H s)) (show ([0, 1] : List Nat).Nodup by decide)⟩
end OP
