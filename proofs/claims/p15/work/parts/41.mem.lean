/-! ===== the memory: all cells out of their arrays and fields ===== -/
abbrev St : Type := (Nat → List Int32) × (Nat → List Int64) × (Nat → Nat → Int32) × (Option Nat × Option Nat × Nat)
def ia (s : St) (p : Nat) : List Int32 := s.1 p
def la (s : St) (p : Nat) : List Int64 := s.2.1 p
def fi (s : St) (o k : Nat) : Int32 := s.2.2.1 o k
def kr (s : St) : Option Nat := s.2.2.2.1
def tr (s : St) : Option Nat := s.2.2.2.2.1
def nm (s : St) : Nat := s.2.2.2.2.2
def sa (s : St) (p : Nat) (l : List Int32) : St := (fun q => if q = p then l else s.1 q, s.2)
def sl (s : St) (p : Nat) (l : List Int64) : St := (s.1, (fun q => if q = p then l else s.2.1 q), s.2.2)
def sf (s : St) (o k : Nat) (x : Int32) : St := (s.1, s.2.1, (fun o' k' => if o' = o ∧ k' = k then x else s.2.2.1 o' k'), s.2.2.2)
/-- a model that is kept or tried -/
def mc (s : St) (q : Nat) : tH := [
  .inr (8, [.ref (q + 1), .ref (q + 2), .ref (q + 3), .ref (q + 4), .ref (q + 13), .ref (q + 14), .ref (q + 15), .int (fi s q 7), .ref (q + 16), .int (fi s q 9), .int (fi s q 10), .ref (q + 17), .ref (q + 18), .ref (q + 19), .int (fi s q 14), .ref (q + 20), .int (fi s q 16), .null, .null, .int (fi s q 19), .int (fi s q 20), .int (fi s q 21), .int (fi s q 22), .int (fi s q 23), .ref (q + 21), .int (fi s q 25), .ref (q + 22), .int (fi s q 27), .int (fi s q 28), .int (fi s q 29), .int (fi s q 30)]),
  .inl (0, .inl (ia s (q + 1))),
  .inl (0, .inl (ia s (q + 2))),
  .inl (0, .inl (ia s (q + 3))),
  .inl (3, .inr (.inr [some (q + 5), some (q + 6), some (q + 7), some (q + 8), some (q + 9), some (q + 10), some (q + 11), some (q + 12)])),
  .inl (1, .inr (.inl (la s (q + 5)))),
  .inl (1, .inr (.inl (la s (q + 6)))),
  .inl (1, .inr (.inl (la s (q + 7)))),
  .inl (1, .inr (.inl (la s (q + 8)))),
  .inl (1, .inr (.inl (la s (q + 9)))),
  .inl (1, .inr (.inl (la s (q + 10)))),
  .inl (1, .inr (.inl (la s (q + 11)))),
  .inl (1, .inr (.inl (la s (q + 12)))),
  .inl (1, .inr (.inl (la s (q + 13)))),
  .inl (0, .inl (ia s (q + 14))),
  .inl (0, .inl (ia s (q + 15))),
  .inl (0, .inl (ia s (q + 16))),
  .inl (0, .inl (ia s (q + 17))),
  .inl (0, .inl (ia s (q + 18))),
  .inl (0, .inl (ia s (q + 19))),
  .inl (0, .inl (ia s (q + 20))),
  .inl (0, .inl (ia s (q + 21))),
  .inl (0, .inl (ia s (q + 22)))]
def tl (s : St) : Nat → tH
  | 0 => []
  | 1 => mc s 67
  | _ + 2 => mc s 67 ++ mc s 90
def H (s : St) : tH := [
  .inr (7, [.ref 1, .ref 6, .ref 11, .ref 16, .ref 18, .ref 20, .ref 23, .ref 24, .ref 26, .ref 27, .int (fi s 0 10)]),
  .inr (2, [.ref 2, .ref 3, .ref 4, .ref 5, .int (fi s 1 4), .int (fi s 1 5), .int (fi s 1 6), .int (fi s 1 7)]),
  .inl (0, .inl (ia s 2)),
  .inl (0, .inl (ia s 3)),
  .inl (0, .inl (ia s 4)),
  .inl (0, .inl (ia s 5)),
  .inr (2, [.ref 7, .ref 8, .ref 9, .ref 10, .int (fi s 6 4), .int (fi s 6 5), .int (fi s 6 6), .int (fi s 6 7)]),
  .inl (0, .inl (ia s 7)),
  .inl (0, .inl (ia s 8)),
  .inl (0, .inl (ia s 9)),
  .inl (0, .inl (ia s 10)),
  .inr (2, [.ref 12, .ref 13, .ref 14, .ref 15, .int (fi s 11 4), .int (fi s 11 5), .int (fi s 11 6), .int (fi s 11 7)]),
  .inl (0, .inl (ia s 12)),
  .inl (0, .inl (ia s 13)),
  .inl (0, .inl (ia s 14)),
  .inl (0, .inl (ia s 15)),
  .inr (4, [.ref 17, .int (fi s 16 1)]),
  .inl (0, .inl (ia s 17)),
  .inr (0, [.ref 19]),
  .inl (0, .inl (ia s 19)),
  .inr (3, [.ref 21, .int (fi s 20 1), .int (fi s 20 2), .int (fi s 20 3), .int (fi s 20 4)]),
  .inr (0, [.ref 22]),
  .inl (0, .inl (ia s 22)),
  .inr (1, [.int (fi s 23 0), .int (fi s 23 1), .int (fi s 23 2), .int (fi s 23 3)]),
  .inr (6, [.ref 25, .int (fi s 24 1), .int (fi s 24 2), .int (fi s 24 3), .int (fi s 24 4), .int (fi s 24 5), .int (fi s 24 6)]),
  .inl (0, .inl (ia s 25)),
  .inl (2, .inr (.inr [some 28, some 30, some 32, some 34, some 36, some 38, some 40, some 42])),
  .inl (0, .inl (ia s 27)),
  .inr (5, [.ref 29, .int (fi s 28 1), .int (fi s 28 2), .int (fi s 28 3)]),
  .inl (1, .inr (.inl (la s 29))),
  .inr (5, [.ref 31, .int (fi s 30 1), .int (fi s 30 2), .int (fi s 30 3)]),
  .inl (1, .inr (.inl (la s 31))),
  .inr (5, [.ref 33, .int (fi s 32 1), .int (fi s 32 2), .int (fi s 32 3)]),
  .inl (1, .inr (.inl (la s 33))),
  .inr (5, [.ref 35, .int (fi s 34 1), .int (fi s 34 2), .int (fi s 34 3)]),
  .inl (1, .inr (.inl (la s 35))),
  .inr (5, [.ref 37, .int (fi s 36 1), .int (fi s 36 2), .int (fi s 36 3)]),
  .inl (1, .inr (.inl (la s 37))),
  .inr (5, [.ref 39, .int (fi s 38 1), .int (fi s 38 2), .int (fi s 38 3)]),
  .inl (1, .inr (.inl (la s 39))),
  .inr (5, [.ref 41, .int (fi s 40 1), .int (fi s 40 2), .int (fi s 40 3)]),
  .inl (1, .inr (.inl (la s 41))),
  .inr (5, [.ref 43, .int (fi s 42 1), .int (fi s 42 2), .int (fi s 42 3)]),
  .inl (1, .inr (.inl (la s 43))),
  .inr (8, [.ref 45, .ref 46, .ref 47, .ref 48, .ref 57, .ref 58, .ref 59, .int (fi s 44 7), .ref 60, .int (fi s 44 9), .int (fi s 44 10), .ref 61, .ref 62, .ref 63, .int (fi s 44 14), .ref 64, .int (fi s 44 16), va_rf (kr s), va_rf (tr s), .int (fi s 44 19), .int (fi s 44 20), .int (fi s 44 21), .int (fi s 44 22), .int (fi s 44 23), .ref 65, .int (fi s 44 25), .ref 66, .int (fi s 44 27), .int (fi s 44 28), .int (fi s 44 29), .int (fi s 44 30)]),
  .inl (0, .inl (ia s 45)),
  .inl (0, .inl (ia s 46)),
  .inl (0, .inl (ia s 47)),
  .inl (3, .inr (.inr [some 49, some 50, some 51, some 52, some 53, some 54, some 55, some 56])),
  .inl (1, .inr (.inl (la s 49))),
  .inl (1, .inr (.inl (la s 50))),
  .inl (1, .inr (.inl (la s 51))),
  .inl (1, .inr (.inl (la s 52))),
  .inl (1, .inr (.inl (la s 53))),
  .inl (1, .inr (.inl (la s 54))),
  .inl (1, .inr (.inl (la s 55))),
  .inl (1, .inr (.inl (la s 56))),
  .inl (1, .inr (.inl (la s 57))),
  .inl (0, .inl (ia s 58)),
  .inl (0, .inl (ia s 59)),
  .inl (0, .inl (ia s 60)),
  .inl (0, .inl (ia s 61)),
  .inl (0, .inl (ia s 62)),
  .inl (0, .inl (ia s 63)),
  .inl (0, .inl (ia s 64)),
  .inl (0, .inl (ia s 65)),
  .inl (0, .inl (ia s 66))] ++ tl s (nm s)
theorem ia_sa (s : St) (p q : Nat) (l : List Int32) : ia (sa s p l) q = if q = p then l else ia s q := rfl
theorem ia_sl (s : St) (p q : Nat) (l : List Int64) : ia (sl s p l) q = ia s q := rfl
theorem ia_sf (s : St) (o k q : Nat) (x : Int32) : ia (sf s o k x) q = ia s q := rfl
theorem la_sa (s : St) (p q : Nat) (l : List Int32) : la (sa s p l) q = la s q := rfl
theorem la_sl (s : St) (p q : Nat) (l : List Int64) : la (sl s p l) q = if q = p then l else la s q := rfl
theorem la_sf (s : St) (o k q : Nat) (x : Int32) : la (sf s o k x) q = la s q := rfl
theorem fi_sa (s : St) (p o k : Nat) (l : List Int32) : fi (sa s p l) o k = fi s o k := rfl
theorem fi_sl (s : St) (p o k : Nat) (l : List Int64) : fi (sl s p l) o k = fi s o k := rfl
theorem fi_sf (s : St) (o k o' k' : Nat) (x : Int32) : fi (sf s o k x) o' k' = if o' = o ∧ k' = k then x else fi s o' k' := rfl
theorem kr_sa (s : St) (p : Nat) (l : List Int32) : kr (sa s p l) = kr s ∧ tr (sa s p l) = tr s ∧ nm (sa s p l) = nm s := ⟨rfl, rfl, rfl⟩
theorem kr_sl (s : St) (p : Nat) (l : List Int64) : kr (sl s p l) = kr s ∧ tr (sl s p l) = tr s ∧ nm (sl s p l) = nm s := ⟨rfl, rfl, rfl⟩
theorem kr_sf (s : St) (o k : Nat) (x : Int32) : kr (sf s o k x) = kr s ∧ tr (sf s o k x) = tr s ∧ nm (sf s o k x) = nm s := ⟨rfl, rfl, rfl⟩
theorem sa_sa (s : St) (p : Nat) (l l' : List Int32) : sa (sa s p l) p l' = sa s p l' := by
  unfold sa
  refine Prod.ext (funext fun q => ?_) rfl
  show (if q = p then l' else if q = p then l else s.1 q) = if q = p then l' else s.1 q
  split <;> rfl
theorem sf_sf (s : St) (o k : Nat) (x y : Int32) : sf (sf s o k x) o k y = sf s o k y := by
  unfold sf
  refine Prod.ext rfl (Prod.ext rfl (Prod.ext (funext fun o' => funext fun k' => ?_) rfl))
  show (if o' = o ∧ k' = k then y else if o' = o ∧ k' = k then x else s.2.2.1 o' k') = if o' = o ∧ k' = k then y else s.2.2.1 o' k'
  split <;> rfl
theorem sl_sl (s : St) (p : Nat) (l l' : List Int64) : sl (sl s p l) p l' = sl s p l' := by
  unfold sl
  refine Prod.ext rfl (Prod.ext (funext fun q => ?_) rfl)
  show (if q = p then l' else if q = p then l else s.2.1 q) = if q = p then l' else s.2.1 q
  split <;> rfl
theorem sf_id (s : St) (o k : Nat) : sf s o k (fi s o k) = s := by
  refine Prod.ext rfl (Prod.ext rfl (Prod.ext (funext fun o' => funext fun k' => ?_) rfl))
  show (if o' = o ∧ k' = k then s.2.2.1 o k else s.2.2.1 o' k') = s.2.2.1 o' k'
  split
  · rename_i h; rw [h.1, h.2]
  · rfl
theorem sa_id (s : St) (p : Nat) : sa s p (ia s p) = s := by
  refine Prod.ext (funext fun q => ?_) rfl
  show (if q = p then s.1 p else s.1 q) = s.1 q
  split
  · rename_i h; rw [h]
  · rfl
theorem H_len (s : St) : (H s).length = 67 + (tl s (nm s)).length := by
  unfold H
  rw [List.length_append]
  rfl
theorem gR_rf {th : tH} {c o k : Nat} {fs : List Value} {x : Option Nat} (h : th[o]? = some (.inr (c, fs))) (hf : fs[k]? = some (va_rf x)) : gR th c o k = some x := by
  unfold gR
  rw [h]
  dsimp only
  rw [if_pos rfl, hf]
  cases x <;> rfl
/-- a garden: side, trees, wishes, seed; kinds, cells, values, sets -/
abbrev Gd : Type := Int32 × Int32 × Int32 × Int32 × List Int32 × List Int32 × List Int32 × List Int32
def sD (g : Gd) : Int32 := g.1
def tN (g : Gd) : Int32 := g.2.1
def wN (g : Gd) : Int32 := g.2.2.1
def sE (g : Gd) : Int32 := g.2.2.2.1
def kS (g : Gd) : List Int32 := g.2.2.2.2.1
def cS (g : Gd) : List Int32 := g.2.2.2.2.2.1
def vS (g : Gd) : List Int32 := g.2.2.2.2.2.2.1
def wS (g : Gd) : List Int32 := g.2.2.2.2.2.2.2
def gd (s : St) (o : Nat) : Gd := (fi s o 4, fi s o 5, fi s o 6, fi s o 7, ia s (o + 1), ia s (o + 2), ia s (o + 3), ia s (o + 4))
def md (s : St) (o : Nat) : Gd := (fi s o 9, fi s o 10, fi s o 14, fi s o 16, ia s (o + 17), ia s (o + 18), ia s (o + 19), ia s (o + 20))
def isG (o : Nat) : Prop := o = 1 ∨ o = 6 ∨ o = 11
def isC (o : Nat) : Prop := o = 18 ∨ o = 21
def isS (o : Nat) : Prop := o = 28 ∨ o = 30 ∨ o = 32 ∨ o = 34 ∨ o = 36 ∨ o = 38 ∨ o = 40 ∨ o = 42
theorem r_0 (s : St) : gC (H s) 7 0 = some () ∧ gN (H s) 7 0 0 = some 1 ∧ gN (H s) 7 0 1 = some 6 ∧ gN (H s) 7 0 2 = some 11 ∧ gN (H s) 7 0 3 = some 16 ∧ gN (H s) 7 0 4 = some 18 ∧ gN (H s) 7 0 5 = some 20 ∧ gN (H s) 7 0 6 = some 23 ∧ gN (H s) 7 0 7 = some 24 ∧ gN (H s) 7 0 8 = some 26 ∧ gN (H s) 7 0 9 = some 27 ∧ gI (H s) 7 0 10 = some (fi s 0 10) ∧ (∀ x, pI (H s) 7 0 10 x = some (H (sf s 0 10 x))) ∧ aL (H s) 26 = some (Int32.ofNat 8) ∧ (∀ i, aI (H s) 27 i = at32 (ia s 27) i) ∧ aL (H s) 27 = some (Int32.ofNat (ia s 27).length) ∧ (∀ i x, sI (H s) 27 i x = (st32 (ia s 27) i x).map (fun l => H (sa s 27 l))) := ⟨rfl, rfl, rfl, rfl, rfl, rfl, rfl, rfl, rfl, rfl, rfl, rfl, fun _ => rfl, rfl, fun _ => aI_of rfl, rfl, fun _ _ => sI_of rfl⟩
theorem r_G {o : Nat} (h : isG o) (s : St) : gC (H s) 2 o = some () ∧ gN (H s) 2 o 0 = some (o + 1) ∧ gN (H s) 2 o 1 = some (o + 2) ∧ gN (H s) 2 o 2 = some (o + 3) ∧ gN (H s) 2 o 3 = some (o + 4) ∧ gI (H s) 2 o 4 = some (sD (gd s o)) ∧ (∀ x, pI (H s) 2 o 4 x = some (H (sf s o 4 x))) ∧ gI (H s) 2 o 5 = some (tN (gd s o)) ∧ (∀ x, pI (H s) 2 o 5 x = some (H (sf s o 5 x))) ∧ gI (H s) 2 o 6 = some (wN (gd s o)) ∧ (∀ x, pI (H s) 2 o 6 x = some (H (sf s o 6 x))) ∧ gI (H s) 2 o 7 = some (sE (gd s o)) ∧ (∀ x, pI (H s) 2 o 7 x = some (H (sf s o 7 x))) ∧ (∀ i, aI (H s) (o + 1) i = at32 (kS (gd s o)) i) ∧ aL (H s) (o + 1) = some (Int32.ofNat (kS (gd s o)).length) ∧ (∀ i x, sI (H s) (o + 1) i x = (st32 (kS (gd s o)) i x).map (fun l => H (sa s (o + 1) l))) ∧ (∀ i, aI (H s) (o + 2) i = at32 (cS (gd s o)) i) ∧ aL (H s) (o + 2) = some (Int32.ofNat (cS (gd s o)).length) ∧ (∀ i x, sI (H s) (o + 2) i x = (st32 (cS (gd s o)) i x).map (fun l => H (sa s (o + 2) l))) ∧ (∀ i, aI (H s) (o + 3) i = at32 (vS (gd s o)) i) ∧ aL (H s) (o + 3) = some (Int32.ofNat (vS (gd s o)).length) ∧ (∀ i x, sI (H s) (o + 3) i x = (st32 (vS (gd s o)) i x).map (fun l => H (sa s (o + 3) l))) ∧ (∀ i, aI (H s) (o + 4) i = at32 (wS (gd s o)) i) ∧ aL (H s) (o + 4) = some (Int32.ofNat (wS (gd s o)).length) ∧ (∀ i x, sI (H s) (o + 4) i x = (st32 (wS (gd s o)) i x).map (fun l => H (sa s (o + 4) l))) := by
  rcases h with rfl | rfl | rfl
  all_goals exact ⟨rfl, rfl, rfl, rfl, rfl, rfl, fun _ => rfl, rfl, fun _ => rfl, rfl, fun _ => rfl, rfl, fun _ => rfl, fun _ => aI_of rfl, rfl, fun _ _ => sI_of rfl, fun _ => aI_of rfl, rfl, fun _ _ => sI_of rfl, fun _ => aI_of rfl, rfl, fun _ _ => sI_of rfl, fun _ => aI_of rfl, rfl, fun _ _ => sI_of rfl⟩
theorem r_R (s : St) : gC (H s) 4 16 = some () ∧ gN (H s) 4 16 0 = some 17 ∧ gI (H s) 4 16 1 = some (fi s 16 1) ∧ (∀ x, pI (H s) 4 16 1 x = some (H (sf s 16 1 x))) ∧ (∀ i, aI (H s) 17 i = at32 (ia s 17) i) ∧ aL (H s) 17 = some (Int32.ofNat (ia s 17).length) ∧ (∀ i x, sI (H s) 17 i x = (st32 (ia s 17) i x).map (fun l => H (sa s 17 l))) := ⟨rfl, rfl, rfl, fun _ => rfl, fun _ => aI_of rfl, rfl, fun _ _ => sI_of rfl⟩
theorem r_C {o : Nat} (h : isC o) (s : St) : gC (H s) 0 o = some () ∧ gN (H s) 0 o 0 = some (o + 1) ∧ (∀ i, aI (H s) (o + 1) i = at32 (ia s (o + 1)) i) ∧ aL (H s) (o + 1) = some (Int32.ofNat (ia s (o + 1)).length) ∧ (∀ i x, sI (H s) (o + 1) i x = (st32 (ia s (o + 1)) i x).map (fun l => H (sa s (o + 1) l))) := by
  rcases h with rfl | rfl
  all_goals exact ⟨rfl, rfl, fun _ => aI_of rfl, rfl, fun _ _ => sI_of rfl⟩
theorem r_M (s : St) : gC (H s) 3 20 = some () ∧ gN (H s) 3 20 0 = some 21 ∧ gI (H s) 3 20 1 = some (fi s 20 1) ∧ (∀ x, pI (H s) 3 20 1 x = some (H (sf s 20 1 x))) ∧ gI (H s) 3 20 2 = some (fi s 20 2) ∧ (∀ x, pI (H s) 3 20 2 x = some (H (sf s 20 2 x))) ∧ gI (H s) 3 20 3 = some (fi s 20 3) ∧ (∀ x, pI (H s) 3 20 3 x = some (H (sf s 20 3 x))) ∧ gI (H s) 3 20 4 = some (fi s 20 4) ∧ (∀ x, pI (H s) 3 20 4 x = some (H (sf s 20 4 x))) := ⟨rfl, rfl, rfl, fun _ => rfl, rfl, fun _ => rfl, rfl, fun _ => rfl, rfl, fun _ => rfl⟩
theorem r_P (s : St) : gC (H s) 1 23 = some () ∧ gI (H s) 1 23 0 = some (fi s 23 0) ∧ (∀ x, pI (H s) 1 23 0 x = some (H (sf s 23 0 x))) ∧ gI (H s) 1 23 1 = some (fi s 23 1) ∧ (∀ x, pI (H s) 1 23 1 x = some (H (sf s 23 1 x))) ∧ gI (H s) 1 23 2 = some (fi s 23 2) ∧ (∀ x, pI (H s) 1 23 2 x = some (H (sf s 23 2 x))) ∧ gI (H s) 1 23 3 = some (fi s 23 3) ∧ (∀ x, pI (H s) 1 23 3 x = some (H (sf s 23 3 x))) := ⟨rfl, rfl, fun _ => rfl, rfl, fun _ => rfl, rfl, fun _ => rfl, rfl, fun _ => rfl⟩
theorem r_T (s : St) : gC (H s) 6 24 = some () ∧ gN (H s) 6 24 0 = some 25 ∧ gI (H s) 6 24 1 = some (fi s 24 1) ∧ (∀ x, pI (H s) 6 24 1 x = some (H (sf s 24 1 x))) ∧ gI (H s) 6 24 2 = some (fi s 24 2) ∧ (∀ x, pI (H s) 6 24 2 x = some (H (sf s 24 2 x))) ∧ gI (H s) 6 24 3 = some (fi s 24 3) ∧ (∀ x, pI (H s) 6 24 3 x = some (H (sf s 24 3 x))) ∧ gI (H s) 6 24 4 = some (fi s 24 4) ∧ (∀ x, pI (H s) 6 24 4 x = some (H (sf s 24 4 x))) ∧ gI (H s) 6 24 5 = some (fi s 24 5) ∧ (∀ x, pI (H s) 6 24 5 x = some (H (sf s 24 5 x))) ∧ gI (H s) 6 24 6 = some (fi s 24 6) ∧ (∀ x, pI (H s) 6 24 6 x = some (H (sf s 24 6 x))) ∧ (∀ i, aI (H s) 25 i = at32 (ia s 25) i) ∧ aL (H s) 25 = some (Int32.ofNat (ia s 25).length) ∧ (∀ i x, sI (H s) 25 i x = (st32 (ia s 25) i x).map (fun l => H (sa s 25 l))) := ⟨rfl, rfl, rfl, fun _ => rfl, rfl, fun _ => rfl, rfl, fun _ => rfl, rfl, fun _ => rfl, rfl, fun _ => rfl, rfl, fun _ => rfl, fun _ => aI_of rfl, rfl, fun _ _ => sI_of rfl⟩
theorem r_S {o : Nat} (h : isS o) (s : St) : gC (H s) 5 o = some () ∧ gN (H s) 5 o 0 = some (o + 1) ∧ gI (H s) 5 o 1 = some (fi s o 1) ∧ (∀ x, pI (H s) 5 o 1 x = some (H (sf s o 1 x))) ∧ gI (H s) 5 o 2 = some (fi s o 2) ∧ (∀ x, pI (H s) 5 o 2 x = some (H (sf s o 2 x))) ∧ gI (H s) 5 o 3 = some (fi s o 3) ∧ (∀ x, pI (H s) 5 o 3 x = some (H (sf s o 3 x))) ∧ (∀ i, aJ (H s) (o + 1) i = at64 (la s (o + 1)) i) ∧ aL (H s) (o + 1) = some (Int32.ofNat (la s (o + 1)).length) ∧ (∀ i x, sJ (H s) (o + 1) i x = (st64 (la s (o + 1)) i x).map (fun l => H (sl s (o + 1) l))) := by
  rcases h with rfl | rfl | rfl | rfl | rfl | rfl | rfl | rfl
  all_goals exact ⟨rfl, rfl, rfl, fun _ => rfl, rfl, fun _ => rfl, rfl, fun _ => rfl, fun _ => aJ_of rfl, rfl, fun _ _ => sJ_of rfl⟩
theorem r_m (s : St) : gC (H s) 8 44 = some () ∧ gN (H s) 8 44 0 = some 45 ∧ gN (H s) 8 44 1 = some 46 ∧ gN (H s) 8 44 2 = some 47 ∧ gN (H s) 8 44 3 = some 48 ∧ gN (H s) 8 44 4 = some 57 ∧ gN (H s) 8 44 5 = some 58 ∧ gN (H s) 8 44 6 = some 59 ∧ gI (H s) 8 44 7 = some (fi s 44 7) ∧ (∀ x, pI (H s) 8 44 7 x = some (H (sf s 44 7 x))) ∧ gN (H s) 8 44 8 = some 60 ∧ gI (H s) 8 44 9 = some (sD (md s 44)) ∧ (∀ x, pI (H s) 8 44 9 x = some (H (sf s 44 9 x))) ∧ gI (H s) 8 44 10 = some (tN (md s 44)) ∧ (∀ x, pI (H s) 8 44 10 x = some (H (sf s 44 10 x))) ∧ gN (H s) 8 44 11 = some 61 ∧ gN (H s) 8 44 12 = some 62 ∧ gN (H s) 8 44 13 = some 63 ∧ gI (H s) 8 44 14 = some (wN (md s 44)) ∧ (∀ x, pI (H s) 8 44 14 x = some (H (sf s 44 14 x))) ∧ gN (H s) 8 44 15 = some 64 ∧ gI (H s) 8 44 16 = some (sE (md s 44)) ∧ (∀ x, pI (H s) 8 44 16 x = some (H (sf s 44 16 x))) ∧ gR (H s) 8 44 17 = some (kr s) ∧ gR (H s) 8 44 18 = some (tr s) ∧ gI (H s) 8 44 19 = some (fi s 44 19) ∧ (∀ x, pI (H s) 8 44 19 x = some (H (sf s 44 19 x))) ∧ gI (H s) 8 44 20 = some (fi s 44 20) ∧ (∀ x, pI (H s) 8 44 20 x = some (H (sf s 44 20 x))) ∧ gI (H s) 8 44 21 = some (fi s 44 21) ∧ (∀ x, pI (H s) 8 44 21 x = some (H (sf s 44 21 x))) ∧ gI (H s) 8 44 22 = some (fi s 44 22) ∧ (∀ x, pI (H s) 8 44 22 x = some (H (sf s 44 22 x))) ∧ gI (H s) 8 44 23 = some (fi s 44 23) ∧ (∀ x, pI (H s) 8 44 23 x = some (H (sf s 44 23 x))) ∧ gN (H s) 8 44 24 = some 65 ∧ gI (H s) 8 44 25 = some (fi s 44 25) ∧ (∀ x, pI (H s) 8 44 25 x = some (H (sf s 44 25 x))) ∧ gN (H s) 8 44 26 = some 66 ∧ gI (H s) 8 44 27 = some (fi s 44 27) ∧ (∀ x, pI (H s) 8 44 27 x = some (H (sf s 44 27 x))) ∧ gI (H s) 8 44 28 = some (fi s 44 28) ∧ (∀ x, pI (H s) 8 44 28 x = some (H (sf s 44 28 x))) ∧ gI (H s) 8 44 29 = some (fi s 44 29) ∧ (∀ x, pI (H s) 8 44 29 x = some (H (sf s 44 29 x))) ∧ gI (H s) 8 44 30 = some (fi s 44 30) ∧ (∀ x, pI (H s) 8 44 30 x = some (H (sf s 44 30 x))) ∧ (∀ i, aI (H s) 45 i = at32 (ia s 45) i) ∧ aL (H s) 45 = some (Int32.ofNat (ia s 45).length) ∧ (∀ i x, sI (H s) 45 i x = (st32 (ia s 45) i x).map (fun l => H (sa s 45 l))) ∧ (∀ i, aI (H s) 46 i = at32 (ia s 46) i) ∧ aL (H s) 46 = some (Int32.ofNat (ia s 46).length) ∧ (∀ i x, sI (H s) 46 i x = (st32 (ia s 46) i x).map (fun l => H (sa s 46 l))) ∧ (∀ i, aI (H s) 47 i = at32 (ia s 47) i) ∧ aL (H s) 47 = some (Int32.ofNat (ia s 47).length) ∧ (∀ i x, sI (H s) 47 i x = (st32 (ia s 47) i x).map (fun l => H (sa s 47 l))) ∧ (∀ i, aJ (H s) 57 i = at64 (la s 57) i) ∧ aL (H s) 57 = some (Int32.ofNat (la s 57).length) ∧ (∀ i x, sJ (H s) 57 i x = (st64 (la s 57) i x).map (fun l => H (sl s 57 l))) ∧ (∀ i, aI (H s) 58 i = at32 (ia s 58) i) ∧ aL (H s) 58 = some (Int32.ofNat (ia s 58).length) ∧ (∀ i x, sI (H s) 58 i x = (st32 (ia s 58) i x).map (fun l => H (sa s 58 l))) ∧ (∀ i, aI (H s) 59 i = at32 (ia s 59) i) ∧ aL (H s) 59 = some (Int32.ofNat (ia s 59).length) ∧ (∀ i x, sI (H s) 59 i x = (st32 (ia s 59) i x).map (fun l => H (sa s 59 l))) ∧ (∀ i, aI (H s) 60 i = at32 (ia s 60) i) ∧ aL (H s) 60 = some (Int32.ofNat (ia s 60).length) ∧ (∀ i x, sI (H s) 60 i x = (st32 (ia s 60) i x).map (fun l => H (sa s 60 l))) ∧ (∀ i, aI (H s) 61 i = at32 (kS (md s 44)) i) ∧ aL (H s) 61 = some (Int32.ofNat (kS (md s 44)).length) ∧ (∀ i x, sI (H s) 61 i x = (st32 (kS (md s 44)) i x).map (fun l => H (sa s 61 l))) ∧ (∀ i, aI (H s) 62 i = at32 (cS (md s 44)) i) ∧ aL (H s) 62 = some (Int32.ofNat (cS (md s 44)).length) ∧ (∀ i x, sI (H s) 62 i x = (st32 (cS (md s 44)) i x).map (fun l => H (sa s 62 l))) ∧ (∀ i, aI (H s) 63 i = at32 (vS (md s 44)) i) ∧ aL (H s) 63 = some (Int32.ofNat (vS (md s 44)).length) ∧ (∀ i x, sI (H s) 63 i x = (st32 (vS (md s 44)) i x).map (fun l => H (sa s 63 l))) ∧ (∀ i, aI (H s) 64 i = at32 (wS (md s 44)) i) ∧ aL (H s) 64 = some (Int32.ofNat (wS (md s 44)).length) ∧ (∀ i x, sI (H s) 64 i x = (st32 (wS (md s 44)) i x).map (fun l => H (sa s 64 l))) ∧ (∀ i, aI (H s) 65 i = at32 (ia s 65) i) ∧ aL (H s) 65 = some (Int32.ofNat (ia s 65).length) ∧ (∀ i x, sI (H s) 65 i x = (st32 (ia s 65) i x).map (fun l => H (sa s 65 l))) ∧ (∀ i, aI (H s) 66 i = at32 (ia s 66) i) ∧ aL (H s) 66 = some (Int32.ofNat (ia s 66).length) ∧ (∀ i x, sI (H s) 66 i x = (st32 (ia s 66) i x).map (fun l => H (sa s 66 l))) := ⟨rfl, rfl, rfl, rfl, rfl, rfl, rfl, rfl, rfl, fun _ => rfl, rfl, rfl, fun _ => rfl, rfl, fun _ => rfl, rfl, rfl, rfl, rfl, fun _ => rfl, rfl, rfl, fun _ => rfl, gR_rf rfl rfl, gR_rf rfl rfl, rfl, fun _ => rfl, rfl, fun _ => rfl, rfl, fun _ => rfl, rfl, fun _ => rfl, rfl, fun _ => rfl, rfl, rfl, fun _ => rfl, rfl, rfl, fun _ => rfl, rfl, fun _ => rfl, rfl, fun _ => rfl, rfl, fun _ => rfl, fun _ => aI_of rfl, rfl, fun _ _ => sI_of rfl, fun _ => aI_of rfl, rfl, fun _ _ => sI_of rfl, fun _ => aI_of rfl, rfl, fun _ _ => sI_of rfl, fun _ => aJ_of rfl, rfl, fun _ _ => sJ_of rfl, fun _ => aI_of rfl, rfl, fun _ _ => sI_of rfl, fun _ => aI_of rfl, rfl, fun _ _ => sI_of rfl, fun _ => aI_of rfl, rfl, fun _ _ => sI_of rfl, fun _ => aI_of rfl, rfl, fun _ _ => sI_of rfl, fun _ => aI_of rfl, rfl, fun _ _ => sI_of rfl, fun _ => aI_of rfl, rfl, fun _ _ => sI_of rfl, fun _ => aI_of rfl, rfl, fun _ _ => sI_of rfl, fun _ => aI_of rfl, rfl, fun _ _ => sI_of rfl, fun _ => aI_of rfl, rfl, fun _ _ => sI_of rfl⟩
def isL (o : Nat) : Prop := o = 49 ∨ o = 50 ∨ o = 51 ∨ o = 52 ∨ o = 53 ∨ o = 54 ∨ o = 55 ∨ o = 56
theorem r_L {o : Nat} (h : isL o) (s : St) : (∀ i, aJ (H s) o i = at64 (la s o) i) ∧ aL (H s) o = some (Int32.ofNat (la s o).length) ∧ (∀ i x, sJ (H s) o i x = (st64 (la s o) i x).map (fun l => H (sl s o l))) := by
  rcases h with rfl | rfl | rfl | rfl | rfl | rfl | rfl | rfl
  all_goals exact ⟨fun _ => aJ_of rfl, rfl, fun _ _ => sJ_of rfl⟩
theorem r_sh (s : St) : ∀ k : Nat, k < 8 → aN (H s) 26 (i3 (k : Int)) = some (28 + 2 * k) ∧ isS (28 + 2 * k)
  | 0, _ => ⟨rfl, Or.inl rfl⟩
  | 1, _ => ⟨rfl, Or.inr (Or.inl rfl)⟩
  | 2, _ => ⟨rfl, Or.inr (Or.inr (Or.inl rfl))⟩
  | 3, _ => ⟨rfl, Or.inr (Or.inr (Or.inr (Or.inl rfl)))⟩
  | 4, _ => ⟨rfl, Or.inr (Or.inr (Or.inr (Or.inr (Or.inl rfl))))⟩
  | 5, _ => ⟨rfl, Or.inr (Or.inr (Or.inr (Or.inr (Or.inr (Or.inl rfl)))))⟩
  | 6, _ => ⟨rfl, Or.inr (Or.inr (Or.inr (Or.inr (Or.inr (Or.inr (Or.inl rfl))))))⟩
  | 7, _ => ⟨rfl, Or.inr (Or.inr (Or.inr (Or.inr (Or.inr (Or.inr (Or.inr rfl))))))⟩
  | n + 8, h => absurd h (by omega)
theorem r_ml (s : St) : ∀ k : Nat, k < 8 → aN (H s) 48 (i3 (k : Int)) = some (49 + k) ∧ isL (49 + k)
  | 0, _ => ⟨rfl, Or.inl rfl⟩
  | 1, _ => ⟨rfl, Or.inr (Or.inl rfl)⟩
  | 2, _ => ⟨rfl, Or.inr (Or.inr (Or.inl rfl))⟩
  | 3, _ => ⟨rfl, Or.inr (Or.inr (Or.inr (Or.inl rfl)))⟩
  | 4, _ => ⟨rfl, Or.inr (Or.inr (Or.inr (Or.inr (Or.inl rfl))))⟩
  | 5, _ => ⟨rfl, Or.inr (Or.inr (Or.inr (Or.inr (Or.inr (Or.inl rfl)))))⟩
  | 6, _ => ⟨rfl, Or.inr (Or.inr (Or.inr (Or.inr (Or.inr (Or.inr (Or.inl rfl))))))⟩
  | 7, _ => ⟨rfl, Or.inr (Or.inr (Or.inr (Or.inr (Or.inr (Or.inr (Or.inr rfl))))))⟩
  | n + 8, h => absurd h (by omega)
def isK (s : St) (o : Nat) : Prop := (o = 67 ∧ 1 ≤ nm s) ∨ (o = 90 ∧ 2 ≤ nm s)
theorem r_k {s : St} {o : Nat} (h : isK s o) : gC (H s) 8 o = some () ∧ gI (H s) 8 o 9 = some (sD (md s o)) ∧ (∀ x, pI (H s) 8 o 9 x = some (H (sf s o 9 x))) ∧ gI (H s) 8 o 10 = some (tN (md s o)) ∧ (∀ x, pI (H s) 8 o 10 x = some (H (sf s o 10 x))) ∧ gI (H s) 8 o 14 = some (wN (md s o)) ∧ (∀ x, pI (H s) 8 o 14 x = some (H (sf s o 14 x))) ∧ gI (H s) 8 o 16 = some (sE (md s o)) ∧ (∀ x, pI (H s) 8 o 16 x = some (H (sf s o 16 x))) ∧ gN (H s) 8 o 11 = some (o + 17) ∧ (∀ i, aI (H s) (o + 17) i = at32 (kS (md s o)) i) ∧ aL (H s) (o + 17) = some (Int32.ofNat (kS (md s o)).length) ∧ (∀ i x, sI (H s) (o + 17) i x = (st32 (kS (md s o)) i x).map (fun l => H (sa s (o + 17) l))) ∧ gN (H s) 8 o 12 = some (o + 18) ∧ (∀ i, aI (H s) (o + 18) i = at32 (cS (md s o)) i) ∧ aL (H s) (o + 18) = some (Int32.ofNat (cS (md s o)).length) ∧ (∀ i x, sI (H s) (o + 18) i x = (st32 (cS (md s o)) i x).map (fun l => H (sa s (o + 18) l))) ∧ gN (H s) 8 o 13 = some (o + 19) ∧ (∀ i, aI (H s) (o + 19) i = at32 (vS (md s o)) i) ∧ aL (H s) (o + 19) = some (Int32.ofNat (vS (md s o)).length) ∧ (∀ i x, sI (H s) (o + 19) i x = (st32 (vS (md s o)) i x).map (fun l => H (sa s (o + 19) l))) ∧ gN (H s) 8 o 15 = some (o + 20) ∧ (∀ i, aI (H s) (o + 20) i = at32 (wS (md s o)) i) ∧ aL (H s) (o + 20) = some (Int32.ofNat (wS (md s o)).length) ∧ (∀ i x, sI (H s) (o + 20) i x = (st32 (wS (md s o)) i x).map (fun l => H (sa s (o + 20) l))) := by
  obtain ⟨a, b, c, k, t, n⟩ := s
  rcases h with ⟨rfl, h⟩ | ⟨rfl, h⟩
  · match n, h with
    | 1, _ => exact ⟨rfl, rfl, fun _ => rfl, rfl, fun _ => rfl, rfl, fun _ => rfl, rfl, fun _ => rfl, rfl, fun _ => aI_of rfl, rfl, fun _ _ => sI_of rfl, rfl, fun _ => aI_of rfl, rfl, fun _ _ => sI_of rfl, rfl, fun _ => aI_of rfl, rfl, fun _ _ => sI_of rfl, rfl, fun _ => aI_of rfl, rfl, fun _ _ => sI_of rfl⟩
    | n + 2, _ => exact ⟨rfl, rfl, fun _ => rfl, rfl, fun _ => rfl, rfl, fun _ => rfl, rfl, fun _ => rfl, rfl, fun _ => aI_of rfl, rfl, fun _ _ => sI_of rfl, rfl, fun _ => aI_of rfl, rfl, fun _ _ => sI_of rfl, rfl, fun _ => aI_of rfl, rfl, fun _ _ => sI_of rfl, rfl, fun _ => aI_of rfl, rfl, fun _ _ => sI_of rfl⟩
  · match n, h with
    | n + 2, _ => exact ⟨rfl, rfl, fun _ => rfl, rfl, fun _ => rfl, rfl, fun _ => rfl, rfl, fun _ => rfl, rfl, fun _ => aI_of rfl, rfl, fun _ _ => sI_of rfl, rfl, fun _ => aI_of rfl, rfl, fun _ _ => sI_of rfl, rfl, fun _ => aI_of rfl, rfl, fun _ _ => sI_of rfl, rfl, fun _ => aI_of rfl, rfl, fun _ _ => sI_of rfl⟩
