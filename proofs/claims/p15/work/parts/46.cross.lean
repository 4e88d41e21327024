/-! ===== lines through cells, moves (class) ===== -/
theorem gd1_sa {s : St} {p : Nat} {l : List Int32} (h : 5 < p) : gd (sa s p l) 1 = gd s 1 := by
  unfold gd
  simp only [fi_sa, ia_sa, if_neg (show ¬ 1 + 1 = p by omega), if_neg (show ¬ 1 + 2 = p by omega), if_neg (show ¬ 1 + 3 = p by omega), if_neg (show ¬ 1 + 4 = p by omega)]
theorem cellO_cl {g : Gd} (h : ok g) {r c : Int32} (hn : ¬ cellO g r c = i3 (-1)) : isCl g (cellO g r c) := by
  unfold cellO at hn ⊢
  by_cases c1 : r < 0
  · rw [if_pos c1] at hn; exact absurd rfl hn
  by_cases c2 : sD g ≤ r
  · rw [if_neg c1, if_pos c2] at hn; exact absurd rfl hn
  by_cases c3 : c < 0
  · rw [if_neg c1, if_neg c2, if_pos c3] at hn; exact absurd rfl hn
  by_cases c4 : sD g ≤ c
  · rw [if_neg c1, if_neg c2, if_neg c3, if_pos c4] at hn; exact absurd rfl hn
  rw [if_neg c1, if_neg c2, if_neg c3, if_neg c4]
  have hd := h.d_le
  have e1 := i3_cl c1
  have e2 := i3_cl c3
  have b1 : r.toNatClampNeg < dn g := lt_cl (by omega) c1 (by rw [← h.d_eq]; exact c2)
  have b2 : c.toNatClampNeg < dn g := lt_cl (by omega) c3 (by rw [← h.d_eq]; exact c4)
  rw [e1, e2, h.d_eq, i3_mul, i3_add]
  generalize r.toNatClampNeg = a at *
  generalize c.toNatClampNeg = b at *
  have e : ((a : Int) * (dn g : Int) + (b : Int)) = ((a * dn g + b : Nat) : Int) := by
    rw [Int.natCast_add, Int.natCast_mul]
  rw [e]
  refine h.C ?_
  have : (a + 1) * dn g ≤ dn g * dn g := Nat.mul_le_mul_right _ (by omega)
  rw [Nat.add_mul] at this
  omega
noncomputable def redF (i : Nat) (a : Int32 × Int32) : Int32 × Int32 := if a.1 - a.1 / i3 (8 - (i : Int)) * i3 (8 - (i : Int)) = 0 then if a.2 - a.2 / i3 (8 - (i : Int)) * i3 (8 - (i : Int)) = 0 then (a.1 / i3 (8 - (i : Int)), a.2 / i3 (8 - (i : Int))) else a else a
noncomputable def red (a : Int32 × Int32) : Int32 × Int32 := itr redF 7 a
noncomputable def stp (g : Gd) (r c : Int32) (d : Int32 × Int32) (k : Nat) (l : List Int32) : List Int32 := if cellO g (r + i3 ((k : Int) - 8) * d.1) (c + i3 ((k : Int) - 8) * d.2) = i3 (-1) then l else l.set (cellO g (r + i3 ((k : Int) - 8) * d.1) (c + i3 ((k : Int) - 8) * d.2)).toNatClampNeg (rd l (cellO g (r + i3 ((k : Int) - 8) * d.1) (c + i3 ((k : Int) - 8) * d.2)) + i3 1)
noncomputable def lnA (g : Gd) (m : Int32) (l : List Int32) : List Int32 := if isT g (ntz m) ∧ isT g (ntz (m &&& (m - i3 1))) then itr (stp g (rO g (cA g (ntz m))) (cO g (cA g (ntz m))) (red (rO g (cA g (ntz (m &&& (m - i3 1)))) - rO g (cA g (ntz m)), cO g (cA g (ntz (m &&& (m - i3 1)))) - cO g (cA g (ntz m))))) 17 l else l
theorem stp_len (g : Gd) (r c : Int32) (d : Int32 × Int32) (k : Nat) (l : List Int32) : (stp g r c d k l).length = l.length := by
  unfold stp
  split
  · rfl
  · exact List.length_set
theorem itr_len {f : Nat → List Int32 → List Int32} (h : ∀ k l, (f k l).length = l.length) : ∀ (n : Nat) (l : List Int32), (itr f n l).length = l.length
  | 0, l => rfl
  | n + 1, l => (h n _).trans (itr_len h n l)
theorem lnA_len (g : Gd) (m : Int32) (l : List Int32) : (lnA g m l).length = l.length := by
  unfold lnA
  split
  · exact itr_len (stp_len g _ _ _) 17 l
  · rfl
noncomputable def zer : List Int32 := List.replicate 64 (i3 0)
theorem itr_zero : ∀ (n : Nat) (l : List Int32), n ≤ l.length → itr (fun k (l : List Int32) => l.set k (i3 0)) n l = List.replicate n (i3 0) ++ l.drop n
  | 0, l, _ => rfl
  | n + 1, l, h => by
    show (itr (fun k (l : List Int32) => l.set k (i3 0)) n l).set n (i3 0) = _
    rw [itr_zero n l (by omega), List.set_append_right _ _ (by rw [List.length_replicate]; exact Nat.le_refl _), List.length_replicate, Nat.sub_self, List.drop_eq_getElem_cons (by omega), List.set_cons_zero, List.replicate_succ', List.append_assoc]
    rfl
theorem lp_red {R : Type} (d e : Int32) (K : Int32 × Int32 → Option R) : lp (fun (s19 : Int32 × Int32 × Int32) nx20 ex21 => if s19.2.2 ≤ (Int32.ofInt 1) then ex21 (s19.1, s19.2.1) else (rmI s19.1 s19.2.2).bind fun x35 => if x35 = 0 then (rmI s19.2.1 s19.2.2).bind fun x38 => if x38 = 0 then (dvI s19.1 s19.2.2).bind fun x39 => (dvI s19.2.1 s19.2.2).bind fun x40 => nx20 (x39, x40, (s19.2.2 + Int32.ofInt (-1))) else nx20 (s19.1, s19.2.1, (s19.2.2 + Int32.ofInt (-1))) else nx20 (s19.1, s19.2.1, (s19.2.2 + Int32.ofInt (-1)))) 4096 (d, e, i3 8) K = K (red (d, e)) := by
  refine (lp_acc 7 (fun i (a : Int32 × Int32) => (a.1, a.2, i3 (8 - (i : Int)))) (fun a => a) redF (fun _ _ => True) (d, e) ?_ (fun _ _ _ _ => trivial) ?_ trivial (fuel := 4096) (by omega)).trans rfl
  · intro i a nx ex hi _
    have e0 : ¬ i3 (8 - (i : Int)) = 0 := by
      rw [i3_0, i3_inj ⟨by omega, by omega⟩ ⟨by omega, by omega⟩]; omega
    have e1 : ¬ i3 (8 - (i : Int)) ≤ Int32.ofInt 1 := by
      rw [i3_le ⟨by omega, by omega⟩ ⟨by omega, by omega⟩]; omega
    have e2 : i3 (8 - (i : Int)) + Int32.ofInt (-1) = i3 (8 - ((i + 1 : Nat) : Int)) := by
      rw [i3_add, show (8 - (i : Int)) + -1 = 8 - ((i + 1 : Nat) : Int) by omega]
    simp only [rmI, dvI, e0, e1, e2, Option.bind_some, jn, cst, bP_if, rB_0, rB_1, z00, z10, ↓reduceIte]
    unfold redF
    ((repeat' split) <;> (first | rfl | (exfalso; simp_all only [isT, isCl, isW, st3, btw, kOf, not_true_eq_false, not_false_eq_true, and_true, true_and, and_self, and_false, false_and, or_true, true_or, or_false, false_or, not_and]; done) | grind))
  · intro a nx ex _
    have e1 : i3 (8 - ((7 : Nat) : Int)) ≤ Int32.ofInt 1 := by decide +kernel
    simp only [e1, Option.bind_some, jn, cst, bP_if, rB_0, rB_1, z00, z10, ↓reduceIte]
theorem lp_stp {s : St} {o : Nat} (ho : isC o) (h : ok (gd s 1)) (hl : (ia s (o + 1)).length = 64) (r c : Int32) (d : Int32 × Int32) : lp (fun (s23 : Int32 × tH) nx24 ex25 => if i3 8 < s23.1 then ex25 s23.2 else (m_74 1 (r + (s23.1 * d.1)) (c + (s23.1 * d.2)) s23.2).bind fun x27 => if x27 = (Int32.ofInt (-1)) then nx24 ((s23.1 + Int32.ofInt 1), s23.2) else (gN s23.2 0 o 0).bind fun o30 => (aI s23.2 o30 x27).bind fun x31 => (sI s23.2 o30 x27 (x31 + (Int32.ofInt 1))).bind fun th32 => nx24 ((s23.1 + Int32.ofInt 1), th32)) 4096 (i3 (-8), H s) (fun (x26 : tH) => some x26) = some (H (sa s (o + 1) (itr (stp (gd s 1) r c d) 17 (ia s (o + 1))))) := by
  have hg : isG 1 := Or.inl rfl
  have ho5 : 5 < o + 1 := by rcases ho with rfl | rfl <;> omega
  have e0 : (i3 (-8), H s) = (fun i (l : List Int32) => (i3 ((i : Int) - 8), H (sa s (o + 1) l))) 0 (ia s (o + 1)) := by
    show (i3 (-8), H s) = (i3 (((0 : Nat) : Int) - 8), H (sa s (o + 1) (ia s (o + 1))))
    rw [sa_id]; rfl
  rw [e0]
  refine (lp_acc 17 (fun i (l : List Int32) => (i3 ((i : Int) - 8), H (sa s (o + 1) l))) (fun l => H (sa s (o + 1) l)) (stp (gd s 1) r c d) (fun _ l => l.length = 64) (ia s (o + 1)) ?_ ?_ ?_ hl (fuel := 4096) (by omega)).trans rfl
  · intro i l nx ex hi hll
    have e1 : ¬ i3 8 < i3 ((i : Int) - 8) := by
      rw [i3_lt ⟨by omega, by omega⟩ ⟨by omega, by omega⟩]; omega
    have e2 : i3 ((i : Int) - 8) + Int32.ofInt 1 = i3 (((i + 1 : Nat) : Int) - 8) := by
      rw [i3_add, show ((i : Int) - 8) + 1 = ((i + 1 : Nat) : Int) - 8 by omega]
    simp only [e1, e2, q_74 hg, gd1_sa ho5, Option.bind_some, jn, cst, bP_if, rB_0, rB_1, z00, z10, ↓reduceIte]
    unfold stp
    by_cases c3 : cellO (gd s 1) (r + i3 ((i : Int) - 8) * d.1) (c + i3 ((i : Int) - 8) * d.2) = i3 (-1)
    · rw [if_pos c3, if_pos c3]
    · have hc := cellO_cl h c3
      have hb := h.cl hc
      have hb2 := h.cc_le
      rw [if_neg c3, if_neg c3]
      simp only [r_C ho, Option.bind_some, jn, cst, bP_if, rB_0, rB_1, z00, z10, ↓reduceIte, ia_sa, at_rd hc.1 (show _ < l.length by omega), st_wr hc.1 (show _ < l.length by omega), Option.map_some, sa_sa]
  · intro i l hi hll
    exact (stp_len _ _ _ _ _ _).trans hll
  · intro l nx ex hll
    have e1 : i3 8 < i3 (((17 : Nat) : Int) - 8) := by decide +kernel
    simp only [e1, Option.bind_some, jn, cst, bP_if, rB_0, rB_1, z00, z10, ↓reduceIte]
section CX
variable {s : St} {o : Nat}
theorem q_113 (ho : isC o) (hl : (ia s (o + 1)).length = 64) : m_113 o (H s) = some (H (sa s (o + 1) zer)) := by
  unfold m_113
  simp only [r_C ho, Option.bind_some, jn, cst, bP_if, rB_0, rB_1, z00, z10, ↓reduceIte]
  have h := lp_acc (R := tH) (X := tH) (K := fun x4 => some x4) (F := fun (s1 : Int32 × tH) nx2 ex3 => (gN s1.2 0 o 0).bind fun o5 => (aL s1.2 o5).bind fun x6 => if x6 ≤ s1.1 then ex3 s1.2 else (gN s1.2 0 o 0).bind fun o7 => (sI s1.2 o7 s1.1 (Int32.ofInt 0)).bind fun th8 => nx2 ((s1.1 + Int32.ofInt 1), th8)) 64 (fun i (l : List Int32) => (i3 (i : Int), H (sa s (o + 1) l))) (fun l => H (sa s (o + 1) l)) (fun k l => l.set k (i3 0)) (fun _ l => l.length = 64) (ia s (o + 1)) ?_ ?_ ?_ hl (fuel := 4096) (by omega)
  · rw [sa_id] at h
    refine h.trans ?_
    rw [itr_zero 64 _ (by omega), List.drop_eq_nil_of_le (by omega), List.append_nil]
    rfl
  · intro i l nx ex hi hll
    have e : ∀ y, st32 l (i3 (i : Int)) y = some (l.set i y) := fun y => st32_nat (by omega) (by omega)
    have e2 : ¬ i3 ((64 : Nat) : Int) ≤ i3 (i : Int) := by rw [i3n_le (by omega) (by omega)]; omega
    simp only [r_C ho, Option.bind_some, jn, cst, bP_if, rB_0, rB_1, z00, z10, ↓reduceIte, ia_sa, hll, i3_nat, e2, e, Option.map_some, sa_sa, i3_nat_add]
  · intro i l hi hll
    exact (List.length_set).trans hll
  · intro l nx ex hll
    have e2 : i3 ((64 : Nat) : Int) ≤ i3 ((64 : Nat) : Int) := by rw [i3n_le (by omega) (by omega)]; omega
    simp only [r_C ho, Option.bind_some, jn, cst, bP_if, rB_0, rB_1, z00, z10, ↓reduceIte, ia_sa, hll, i3_nat, e2]
theorem q_115 (ho : isC o) (h : ok (gd s 1)) (hl : (ia s (o + 1)).length = 64) (m : Int32) : m_115 o 1 m (H s) = some (H (sa s (o + 1) (lnA (gd s 1) m (ia s (o + 1))))) := by
  have hg : isG 1 := Or.inl rfl
  have ho5 : 5 < o + 1 := by rcases ho with rfl | rfl <;> omega
  unfold m_115
  simp only [r_C ho, Option.bind_some, jn, cst, bP_if, rB_0, rB_1, z00, z10, ↓reduceIte, q_65, q_66, q_81 hg]
  unfold lnA
  by_cases c1 : isT (gd s 1) (ntz m)
  · by_cases c2 : isT (gd s 1) (ntz (m &&& (m - i3 1)))
    · simp only [if_pos c1, if_pos c2, if_pos (And.intro c1 c2), r_G hg, h.at_c c1, h.at_c c2, q_72 hg h, q_73 hg h, Option.bind_some, jn, cst, bP_if, rB_0, rB_1, z00, z10, ↓reduceIte]
      refine (lp_red _ _ _).trans ?_
      exact lp_stp ho h hl _ _ _
    · simp only [if_pos c1, if_neg c2, if_neg (fun e : _ ∧ _ => c2 e.2), Option.bind_some, jn, cst, bP_if, rB_0, rB_1, z00, z10, ↓reduceIte, sa_id]
  · simp only [if_neg c1, if_neg (fun e : _ ∧ _ => c1 e.1), Option.bind_some, jn, cst, bP_if, rB_0, rB_1, z00, z10, ↓reduceIte, sa_id]
end CX
noncomputable def crF (g : Gd) (L : List Int32) (q : Int32) (k : Nat) (l : List Int32) : List Int32 := if bct (lg L k) < q then l else lnA g (lg L k) l
noncomputable def cr (g : Gd) (L : List Int32) (q : Int32) : List Int32 := itr (crF g L q) L.length zer
theorem crF_len (g : Gd) (L : List Int32) (q : Int32) (k : Nat) (l : List Int32) : (crF g L q k l).length = l.length := by
  unfold crF
  split
  · rfl
  · exact lnA_len _ _ _
theorem cr_len (g : Gd) (L : List Int32) (q : Int32) : (cr g L q).length = 64 := (itr_len (crF_len g L q) _ _).trans rfl
section CY
variable {s : St} {L : List Int32}
theorem q_114 (h : ok (gd s 1)) (z : Sz s) (r : rowsOK s L) (q : Int32) : m_114 18 1 16 q (H s) = some (H (sa s 19 (cr (gd s 1) L q))) := by
  have hg : isG 1 := Or.inl rfl
  have hc : isC 18 := Or.inl rfl
  have hl := r.2.1
  unfold m_114
  simp only [r_C hc, q_113 hc z.2.1, Option.bind_some, jn, cst, bP_if, rB_0, rB_1, z00, z10, ↓reduceIte]
  refine (lp0 L.length (by omega) (fun t (l : List Int32) => (t, H (sa s 19 l))) (fun l => H (sa s 19 l)) (crF (gd s 1) L q) (fun l => l.length = 64) zer ?_ ?_ ?_ rfl).trans rfl
  · intro k l nx ex hk hll
    have r' : rowsOK (sa s 19 l) L := r
    have h' : ok (gd (sa s 19 l) 1) := by rw [gd1_sa (by omega)]; exact h
    have e : m_115 18 1 (lg L k) (H (sa s 19 l)) = some (H (sa s 19 (lnA (gd s 1) (lg L k) l))) := by
      rw [q_115 hc h' (show (ia (sa s 19 l) (18 + 1)).length = 64 from hll) (lg L k), gd1_sa (by omega)]
      show some (H (sa (sa s 19 l) 19 (lnA (gd s 1) (lg L k) l))) = _
      rw [sa_sa]
    simp only [r_R, r'.lt hk, r'.at hk, q_173, Option.bind_some, jn, cst, bP_if, rB_0, rB_1, z00, z10, ↓reduceIte, e]
    unfold crF
    ((repeat' split) <;> (first | rfl | (exfalso; simp_all only [isT, isCl, isW, st3, btw, kOf, not_true_eq_false, not_false_eq_true, and_true, true_and, and_self, and_false, false_and, or_true, true_or, or_false, false_or, not_and]; done) | grind))
  · intro k l hk hll
    exact (crF_len _ _ _ _ _).trans hll
  · intro l nx ex _
    have r' : rowsOK (sa s 19 l) L := r
    simp only [r_R, r'.ge, Option.bind_some, jn, cst, bP_if, rB_0, rB_1, z00, z10, ↓reduceIte]
end CY
