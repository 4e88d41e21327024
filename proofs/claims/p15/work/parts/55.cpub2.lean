/-! ===== turnings, the best move in truth, plantings ===== -/
section TU
variable {s : St} {o : Nat}
theorem q_72d (ho : isG o) (d1 : i3 1 ≤ sD (gd s o)) (d0 : ¬ sD (gd s o) = 0) (c : Int32) : m_72 o c (H s) = some (rO (gd s o) c) := by
  unfold m_72
  simp only [r_G ho, Option.bind_some, jn, cst, bP_if, rB_0, rB_1, z00, z10, ↓reduceIte, dvI, d1, d0]
  rfl
theorem q_73d (ho : isG o) (d1 : i3 1 ≤ sD (gd s o)) (d0 : ¬ sD (gd s o) = 0) (c : Int32) : m_73 o c (H s) = some (cO (gd s o) c) := by
  unfold m_73
  simp only [r_G ho, Option.bind_some, jn, cst, bP_if, rB_0, rB_1, z00, z10, ↓reduceIte, rmI, d1, d0]
  rfl
theorem q_75d (ho : isG o) (d1 : i3 1 ≤ sD (gd s o)) (d0 : ¬ sD (gd s o) = 0) (c : Int32) : m_75 o c (H s) = some (trn (gd s o) c) := by
  unfold m_75
  simp only [r_G ho, Option.bind_some, jn, cst, bP_if, rB_0, rB_1, z00, z10, ↓reduceIte, q_72d ho d1 d0, q_73d ho d1 d0, q_74 ho]
  rfl
theorem q_76d (ho : isG o) (d1 : i3 1 ≤ sD (gd s o)) (d0 : ¬ sD (gd s o) = 0) (c : Int32) : m_76 o c (H s) = some (mir (gd s o) c) := by
  unfold m_76
  simp only [r_G ho, Option.bind_some, jn, cst, bP_if, rB_0, rB_1, z00, z10, ↓reduceIte, q_72d ho d1 d0, q_73d ho d1 d0, q_74 ho]
  rfl
theorem H_uC (s : St) : H s = H (wG s 1 (uC (gd s 1) (cS (gd s 1)))) := by
  rw [show uC (gd s 1) (cS (gd s 1)) = gd s 1 from rfl, wG_id]
theorem b_51 (c : CI s) : CC s (m_51 0 (H s)) (cnt (gd s 1) (i3 1)) (mpC (gd s 1) (trn (gd s 1)), (abC s).2) := by
  have h := c.1.1
  have hn := h.n_le
  have hk := ok_turn h
  unfold m_51
  simp only [r_0, Option.bind_some, jn, cst, bP_if, rB_0, rB_1, z00, z10, ↓reduceIte]
  have e86 : m_86 1 (Int32.ofInt 1) (H (wG s 1 (mpC (gd s 1) (trn (gd s 1))))) = some (cnt (gd s 1) (i3 1)) := by
    have := q_86 (s := wG s 1 (mpC (gd s 1) (trn (gd s 1)))) g1 (by rw [gd_wG]; exact hk) (i3 1)
    rw [gd_wG] at this
    exact this
  have e87 : m_86 1 (Int32.ofInt 1) (H (wG s 1 (uC (gd s 1) (itr (mpF (trn (gd s 1))) (nn (gd s 1)) (cS (gd s 1)))))) = some (cnt (gd s 1) (i3 1)) := e86
  have L := lp0 (R := Int32 × tH) (X := tH) (K := fun x4 => (gN x4 7 0 0).bind fun o5 => (m_86 o5 (Int32.ofInt 1) x4).bind fun x6 => some (x6, x4)) (F := fun (s1 : Int32 × tH) nx2 ex3 => (gN s1.2 7 0 0).bind fun o7 => (gI s1.2 2 o7 5).bind fun x8 => if x8 ≤ s1.1 then ex3 s1.2 else (gN s1.2 7 0 0).bind fun o9 => (gN s1.2 2 o9 1).bind fun o10 => (gN s1.2 7 0 0).bind fun o11 => (gN s1.2 7 0 0).bind fun o12 => (gN s1.2 2 o12 1).bind fun o13 => (aI s1.2 o13 s1.1).bind fun x14 => (m_75 o11 x14 s1.2).bind fun x15 => (sI s1.2 o10 s1.1 x15).bind fun th16 => nx2 ((s1.1 + Int32.ofInt 1), th16)) (nn (gd s 1)) (by have := h.n_le; omega) (fun t (l : List Int32) => (t, H (wG s 1 (uC (gd s 1) l)))) (fun l => H (wG s 1 (uC (gd s 1) l))) (mpF (trn (gd s 1))) (fun l => l.length = 12) (cS (gd s 1)) ?_ ?_ ?_ h.2.2.2.1.2.1
  · rw [← H_uC] at L
    rw [L]
    simp only [r_0, Option.bind_some, jn, cst, bP_if, rB_0, rB_1, z00, z10, ↓reduceIte, e87]
    exact CC.set c hk (fun t ht => ht) _
  · intro k l nx ex hk hl
    have e1 : ¬ tN (uC (gd s 1) l) ≤ i3 (k : Int) := (h.T hk).2
    have e2 : at32 (cS (uC (gd s 1) l)) (i3 (k : Int)) = some (l.getD k 0) := by
      show at32 l _ = _
      rw [at32_nat (by omega), List.getD_eq_getElem?_getD, List.getElem?_eq_getElem (by omega)]; rfl
    have e3 : ∀ x, st32 (cS (uC (gd s 1) l)) (i3 (k : Int)) x = some (l.set k x) := fun x => st32_nat (show k < l.length by omega) (show l.length ≤ 1000 by omega)
    have e4 : ∀ x, m_75 1 x (H (wG s 1 (uC (gd s 1) l))) = some (trn (gd s 1) x) := fun x => by
      have := q_75d (s := wG s 1 (uC (gd s 1) l)) g1 (by rw [gd_wG]; exact h.d_1) (by rw [gd_wG]; exact h.d_0) x
      rw [gd_wG] at this
      exact this
    have e5 : ∀ x, sa (wG s 1 (uC (gd s 1) l)) 3 x = wG s 1 (uC (gd s 1) x) := fun x => by
      have := sa_g2 (wG s 1 (uC (gd s 1) l)) 1 x
      rw [wG_wG, gd_wG] at this
      exact this
    simp only [r_0, r_G g1, Option.bind_some, jn, cst, bP_if, rB_0, rB_1, z00, z10, ↓reduceIte, gd_wG, e1, e2, e3, e4, Option.map_some, e5]
    rfl
  · intro k l _ hl
    exact (List.length_set).trans hl
  · intro l nx ex hl
    have e1 : tN (uC (gd s 1) l) ≤ i3 (nn (gd s 1) : Int) := h.Te (Nat.le_refl _) (by have := h.n_le; omega)
    simp only [r_0, r_G g1, Option.bind_some, jn, cst, bP_if, rB_0, rB_1, z00, z10, ↓reduceIte, gd_wG, e1]
theorem b_52 (c : CI s) : CC s (m_52 0 (H s)) (cnt (gd s 1) (i3 1)) (mpC (gd s 1) (mir (gd s 1)), (abC s).2) := by
  have h := c.1.1
  have hn := h.n_le
  have hk := ok_mirr h
  unfold m_52
  simp only [r_0, Option.bind_some, jn, cst, bP_if, rB_0, rB_1, z00, z10, ↓reduceIte]
  have e86 : m_86 1 (Int32.ofInt 1) (H (wG s 1 (mpC (gd s 1) (mir (gd s 1))))) = some (cnt (gd s 1) (i3 1)) := by
    have := q_86 (s := wG s 1 (mpC (gd s 1) (mir (gd s 1)))) g1 (by rw [gd_wG]; exact hk) (i3 1)
    rw [gd_wG] at this
    exact this
  have e87 : m_86 1 (Int32.ofInt 1) (H (wG s 1 (uC (gd s 1) (itr (mpF (mir (gd s 1))) (nn (gd s 1)) (cS (gd s 1)))))) = some (cnt (gd s 1) (i3 1)) := e86
  have L := lp0 (R := Int32 × tH) (X := tH) (K := fun x4 => (gN x4 7 0 0).bind fun o5 => (m_86 o5 (Int32.ofInt 1) x4).bind fun x6 => some (x6, x4)) (F := fun (s1 : Int32 × tH) nx2 ex3 => (gN s1.2 7 0 0).bind fun o7 => (gI s1.2 2 o7 5).bind fun x8 => if x8 ≤ s1.1 then ex3 s1.2 else (gN s1.2 7 0 0).bind fun o9 => (gN s1.2 2 o9 1).bind fun o10 => (gN s1.2 7 0 0).bind fun o11 => (gN s1.2 7 0 0).bind fun o12 => (gN s1.2 2 o12 1).bind fun o13 => (aI s1.2 o13 s1.1).bind fun x14 => (m_76 o11 x14 s1.2).bind fun x15 => (sI s1.2 o10 s1.1 x15).bind fun th16 => nx2 ((s1.1 + Int32.ofInt 1), th16)) (nn (gd s 1)) (by have := h.n_le; omega) (fun t (l : List Int32) => (t, H (wG s 1 (uC (gd s 1) l)))) (fun l => H (wG s 1 (uC (gd s 1) l))) (mpF (mir (gd s 1))) (fun l => l.length = 12) (cS (gd s 1)) ?_ ?_ ?_ h.2.2.2.1.2.1
  · rw [← H_uC] at L
    rw [L]
    simp only [r_0, Option.bind_some, jn, cst, bP_if, rB_0, rB_1, z00, z10, ↓reduceIte, e87]
    exact CC.set c hk (fun t ht => ht) _
  · intro k l nx ex hk hl
    have e1 : ¬ tN (uC (gd s 1) l) ≤ i3 (k : Int) := (h.T hk).2
    have e2 : at32 (cS (uC (gd s 1) l)) (i3 (k : Int)) = some (l.getD k 0) := by
      show at32 l _ = _
      rw [at32_nat (by omega), List.getD_eq_getElem?_getD, List.getElem?_eq_getElem (by omega)]; rfl
    have e3 : ∀ x, st32 (cS (uC (gd s 1) l)) (i3 (k : Int)) x = some (l.set k x) := fun x => st32_nat (show k < l.length by omega) (show l.length ≤ 1000 by omega)
    have e4 : ∀ x, m_76 1 x (H (wG s 1 (uC (gd s 1) l))) = some (mir (gd s 1) x) := fun x => by
      have := q_76d (s := wG s 1 (uC (gd s 1) l)) g1 (by rw [gd_wG]; exact h.d_1) (by rw [gd_wG]; exact h.d_0) x
      rw [gd_wG] at this
      exact this
    have e5 : ∀ x, sa (wG s 1 (uC (gd s 1) l)) 3 x = wG s 1 (uC (gd s 1) x) := fun x => by
      have := sa_g2 (wG s 1 (uC (gd s 1) l)) 1 x
      rw [wG_wG, gd_wG] at this
      exact this
    simp only [r_0, r_G g1, Option.bind_some, jn, cst, bP_if, rB_0, rB_1, z00, z10, ↓reduceIte, gd_wG, e1, e2, e3, e4, Option.map_some, e5]
    rfl
  · intro k l _ hl
    exact (List.length_set).trans hl
  · intro l nx ex hl
    have e1 : tN (uC (gd s 1) l) ≤ i3 (nn (gd s 1) : Int) := h.Te (Nat.le_refl _) (by have := h.n_le; omega)
    simp only [r_0, r_G g1, Option.bind_some, jn, cst, bP_if, rB_0, rB_1, z00, z10, ↓reduceIte, gd_wG, e1]
end TU
/-! ===== improve ===== -/
noncomputable def mvO (g : Gd) (a : Mv) : Prop := a.1 = i3 (-1) ∨ (isT g a.1 ∧ isCl g a.2.1 ∧ tIn g a.2.1 = i3 (-1))
theorem itr_inv {α : Type} {f : Nat → α → α} {P : α → Prop} : ∀ (n : Nat) (a : α), P a → (∀ k b, k < n → P b → P (f k b)) → P (itr f n a)
  | 0, a, h, _ => h
  | n + 1, a, h, hs => hs n _ (by omega) (itr_inv n a h (fun k b hk => hs k b (by omega)))
theorem oc_O {g : Gd} (h : ok g) {w : Wt} {t : Int32} (ht : isT g t) {a : Mv} (ha : mvO g a) : mvO g (oc g w t a) := by
  unfold oc
  refine itr_inv _ _ ha (fun k b hk hb => ?_)
  unfold ocF
  split
  · exact hb
  · split
    · rename_i e
      exact Or.inr ⟨ht, h.C hk, e⟩
    · exact hb
theorem mT_O {g : Gd} (h : ok g) (L : List Int32) : mvO g (mT g L) := by
  unfold mT
  refine itr_inv _ _ (Or.inl rfl) (fun k b hk hb => ?_)
  unfold mtF
  split
  · exact hb
  · exact oc_O h (h.T hk) hb
noncomputable def vImp (g : Gd) : Int32 := if (mT g (RL g)).1 = i3 (-1) then nT (RL g) else if nT (RL g) < (mT g (RL g)).2.2 then (mT g (RL g)).2.2 else nT (RL g)
noncomputable def gImp (g : Gd) : Gd := if (mT g (RL g)).1 = i3 (-1) then g else if nT (RL g) < (mT g (RL g)).2.2 then mvT g (mT g (RL g)).1 (mT g (RL g)).2.1 else g
theorem b_53 {s : St} (c : CI s) : CC s (m_53 0 (H s)) (vImp (gd s 1)) (gImp (gd s 1), (abC s).2) := by
  obtain ⟨s1, e1, q1, r1⟩ := q_63 c.1.1 c.1.2.1
  have c1 := q1.q.eC.ci c
  obtain ⟨_, e2, s2, rfl, q2, p2, -⟩ := q_117 c1.1.1 c1.1.2.1 r1
  have c2 := q2.q.eC.ci c1
  have eg1 : gd s1 1 = gd s 1 := q1.g g1
  have eg2 : gd s2 1 = gd s 1 := (q2.g g1).trans eg1
  have ab2 : abC s2 = abC s := q2.q.eC.ab.trans q1.q.eC.ab
  rw [eg1] at p2
  have hO := mT_O c.1.1 (RL (gd s 1))
  unfold m_53
  simp only [r_0, Option.bind_some, jn, cst, bP_if, rB_0, rB_1, z00, z10, ↓reduceIte, e1, q_106 r1]
  rw [e2]
  simp only [r_0, r_M, Option.bind_some, jn, cst, bP_if, rB_0, rB_1, z00, z10, ↓reduceIte]
  have x1 : fi s2 20 2 = (mT (gd s 1) (RL (gd s 1))).1 := congrArg (·.1) p2
  have x2 : fi s2 20 3 = (mT (gd s 1) (RL (gd s 1))).2.1 := congrArg (·.2.1) p2
  have x3 : fi s2 20 4 = (mT (gd s 1) (RL (gd s 1))).2.2 := congrArg (·.2.2) p2
  rw [x1, x3]
  have quiet : CC s (some (i3 ((RL (gd s 1)).length : Int) - co (RL (gd s 1)) (Int32.ofInt 2), H s2)) (nT (RL (gd s 1))) (gd s 1, (abC s).2) := ⟨s2, rfl, c2, (q1.trans q2).q.eM, ab2⟩
  unfold vImp gImp
  by_cases d1 : (mT (gd s 1) (RL (gd s 1))).1 = i3 (-1)
  · simp only [if_pos d1]
    exact quiet
  simp only [if_neg d1]
  have hO' := hO.elim (fun e => absurd e d1) id
  by_cases d2 : nT (RL (gd s 1)) < (mT (gd s 1) (RL (gd s 1))).2.2
  · have d2' : i3 ((RL (gd s 1)).length : Int) - co (RL (gd s 1)) (Int32.ofInt 2) < (mT (gd s 1) (RL (gd s 1))).2.2 := d2
    simp only [if_pos d2, if_pos d2', x2]
    have hT : isT (gd s2 1) (mT (gd s 1) (RL (gd s 1))).1 := by rw [eg2]; exact hO'.1
    have em := sa_mv (s := s2) (x := (mT (gd s 1) (RL (gd s 1))).2.1) c2.1.1 hT
    have g3 : gN (H s2) 2 1 1 = some 3 := rfl
    have g4 : ∀ i x, sI (H s2) 3 i x = (st32 (cS (gd s2 1)) i x).map (fun l => H (sa s2 3 l)) := fun i x => by simp only [r_G g1, show (3 : Nat) = 1 + 2 from rfl]
    simp only [g3, g4, Option.bind_some, jn, cst, bP_if, rB_0, rB_1, z00, z10, ↓reduceIte, em, r_0, r_M]
    have x4 : fi (wG s2 1 (mvT (gd s2 1) (mT (gd s 1) (RL (gd s 1))).1 (mT (gd s 1) (RL (gd s 1))).2.1)) 20 4 = fi s2 20 4 := rfl
    rw [x4, x3, eg2]
    have hk := ok_mvT c.1.1 hO'.1 hO'.2.1 hO'.2.2
    obtain ⟨s3, y1, y2, y3, y4⟩ := CC.set (s := s2) c2 hk (fun t ht => by rw [eg2] at ht; exact ht) (mT (gd s 1) (RL (gd s 1))).2.2
    refine ⟨s3, y1, y2, (q1.trans q2).q.eM.trans y3, ?_⟩
    rw [y4, ab2]
  · have d2' : ¬ i3 ((RL (gd s 1)).length : Int) - co (RL (gd s 1)) (Int32.ofInt 2) < (mT (gd s 1) (RL (gd s 1))).2.2 := d2
    simp only [if_neg d2, if_neg d2']
    exact quiet
/-! ===== plant ===== -/
abbrev room (g : Gd) : Prop := ¬ i3 12 ≤ tN g ∧ ¬ cc g ≤ tN g
noncomputable def plG : Nat → Gd → Gd × Nat
  | 0, g => (g, 0)
  | n + 1, g => if room g then ((plG n (drw g)).1, (plG n (drw g)).2 + 1) else (g, 0)
theorem plG_le : ∀ (n : Nat) (g : Gd), (plG n g).2 ≤ n
  | 0, g => Nat.le_refl _
  | n + 1, g => by
    unfold plG
    split
    · have := plG_le n (drw g)
      show _ + 1 ≤ _
      omega
    · exact Nat.zero_le _
theorem addE_T {g : Gd} (h : ok g) (hn : ¬ i3 12 ≤ tN g) (x k c a : Int32) {t : Int32} (ht : isT g t) : isT (addT (uE g x) k c a) t := addT_T (g := uE g x) (ok_uE h x) hn k c a ht
theorem drw_T {g : Gd} (h : ok g) (hn : ¬ i3 12 ≤ tN g) {t : Int32} (ht : isT g t) : isT (drw g) t := by
  unfold drw
  exact addE_T h hn _ _ _ _ ht
theorem plG_s (n : Nat) (g : Gd) : plG (n + 1) g = if room g then ((plG n (drw g)).1, (plG n (drw g)).2 + 1) else (g, 0) := rfl
theorem plG_ok : ∀ (n : Nat) (g : Gd), ok g → ok (plG n g).1 ∧ ∀ t, isT g t → isT (plG n g).1 t
  | 0, g, h => ⟨h, fun _ ht => ht⟩
  | n + 1, g, h => by
    unfold plG
    split
    · rename_i hr
      have h1 := plG_ok n (drw g) (ok_drw h hr.1 hr.2)
      exact ⟨h1.1, fun t ht => h1.2 t (drw_T h hr.1 ht)⟩
    · exact ⟨h, fun _ ht => ht⟩
noncomputable def vPlant (g : Gd) (n : Int32) : Int32 := if n < i3 1 then i3 (-2) else if n ≤ i3 12 then i3 ((plG n.toNatClampNeg g).2 : Int) else i3 (-2)
noncomputable def gPlant (g : Gd) (n : Int32) : Gd := if n < i3 1 then g else if n ≤ i3 12 then (plG n.toNatClampNeg g).1 else g
theorem b_54 {s : St} (c : CI s) (n : Int32) : CC s (m_54 0 n (H s)) (vPlant (gd s 1) n) (gPlant (gd s 1) n, (abC s).2) := by
  unfold m_54 vPlant gPlant
  simp only [r_0, Option.bind_some, jn, cst, bP_if, rB_0, rB_1, z00, z10, ↓reduceIte]
  by_cases c1 : n < i3 1
  · simp only [if_pos c1]
    exact CC.ref c isB2
  simp only [if_neg c1]
  by_cases c2 : n ≤ i3 12
  · simp only [if_pos c2]
    have n0 : ¬ n < 0 := by
      rw [Int32.lt_iff_toInt_lt] at c1 ⊢
      have e : (0 : Int32).toInt = 0 := by decide +kernel
      have e2 : (i3 1).toInt = 1 := by decide +kernel
      omega
    have n12 : n.toNatClampNeg ≤ 12 := le_cl (b := 12) (by omega) n0 c2
    have en := i3_cl n0
    have hP := plG_ok n.toNatClampNeg (gd s 1) c.1.1
    have key : T (lp (fun (s4 : Int32 × tH) nx5 ex6 => if n ≤ s4.1 then ex6 (s4.1, s4.2) else (gN s4.2 7 0 0).bind fun o8 => (m_88 o8 s4.2).bind fun x9 => if x9 = 0 then ex6 (s4.1, s4.2) else (gN s4.2 7 0 0).bind fun o10 => (m_101 o10 s4.2).bind fun th11 => nx5 ((s4.1 + Int32.ofInt 1), th11)) 4096 ((Int32.ofInt 0), H s) (fun (x7 : Int32 × tH) => some (x7.1, x7.2))) (fun r => r = (i3 ((plG n.toNatClampNeg (gd s 1)).2 : Int), H (wG s 1 (plG n.toNatClampNeg (gd s 1)).1))) := by
      refine lpH n.toNatClampNeg (fun k q => ∃ g', q = (i3 (k : Int), H (wG s 1 g')) ∧ ok g' ∧ plG n.toNatClampNeg (gd s 1) = ((plG (n.toNatClampNeg - k) g').1, (plG (n.toNatClampNeg - k) g').2 + k)) (fun x => x = (i3 ((plG n.toNatClampNeg (gd s 1)).2 : Int), H (wG s 1 (plG n.toNatClampNeg (gd s 1)).1))) ?_ ?_ ?_ ?_ (by omega)
      · rintro k _ hk ⟨g', rfl, h', e'⟩ nx ex hnx hex
        have e1 : ¬ n ≤ i3 (k : Int) := by rw [en, i3n_le (by omega) (by omega)]; omega
        have h2 : ok (gd (wG s 1 g') 1) := by rw [gd_wG]; exact h'
        obtain ⟨d, hd⟩ : ∃ d, n.toNatClampNeg - k = d + 1 := ⟨n.toNatClampNeg - k - 1, by omega⟩
        have hd2 : n.toNatClampNeg - (k + 1) = d := by omega
        simp only [e1, r_0, Option.bind_some, jn, cst, bP_if, rB_0, rB_1, z00, z10, ↓reduceIte, q_88 g1, gd_wG, i3_nat_add]
        rw [hd, plG_s] at e'
        by_cases hr : room g'
        · have h3 : ¬ i3 12 ≤ tN (gd (wG s 1 g') 1) := by rw [gd_wG]; exact hr.1
          rw [if_pos hr, q_101 g1 h2 h3]
          simp only [Option.bind_some, jn, cst, bP_if, rB_0, rB_1, z00, z10, ↓reduceIte, wG_wG, gd_wG]
          refine hnx _ ⟨drw g', rfl, ok_drw h' hr.1 hr.2, ?_⟩
          rw [if_pos hr] at e'
          rw [hd2]
          refine e'.trans (Prod.ext rfl ?_)
          show (plG d (drw g')).2 + 1 + k = (plG d (drw g')).2 + (k + 1)
          omega
        · rw [if_neg hr]
          refine hex _ ?_
          rw [if_neg hr] at e'
          rw [e']
          show (i3 (k : Int), _) = (i3 ((0 + k : Nat) : Int), _)
          rw [Nat.zero_add]
      · rintro _ ⟨g', rfl, h', e'⟩ nx ex hex
        have e1 : n ≤ i3 (n.toNatClampNeg : Int) := by rw [← en]; exact Int32.le_refl _
        simp only [e1, Option.bind_some, jn, cst, bP_if, rB_0, rB_1, z00, z10, ↓reduceIte]
        refine hex _ ?_
        rw [e', Nat.sub_self]
        show (i3 (n.toNatClampNeg : Int), _) = (i3 ((0 + n.toNatClampNeg : Nat) : Int), _)
        rw [Nat.zero_add]
        rfl
      · intro x hx
        rw [hx]
        exact T_some rfl
      · exact ⟨gd s 1, by rw [wG_id]; rfl, c.1.1, rfl⟩
    obtain ⟨r, e1, rfl⟩ := key
    rw [e1]
    exact CC.set c hP.1 hP.2 _
  · simp only [if_neg c2]
    exact CC.ref c isB2
/-! ===== the tape, what is kept ===== -/
noncomputable def vFeed (t : List Int32 × Int32) (x : Int32) : Int32 := if x < 0 then i3 (-2) else if x ≤ i3 255 then if t.2 < i3 250 then t.2 + i3 1 else i3 (-6) else i3 (-2)
noncomputable def tFeed (t : List Int32 × Int32) (x : Int32) : List Int32 × Int32 := if x < 0 then t else if x ≤ i3 255 then if t.2 < i3 250 then (t.1.set t.2.toNatClampNeg x, t.2 + i3 1) else t else t
/-- only the tape -/
theorem CC.tape {α : Type} {s : St} (c : CI s) {l : List Int32} {n : Int32} (hl : l.length = 250) (h0 : ¬ n < 0) (h1 : n ≤ i3 250) (v : α) : CC s (some (v, H (sf (sa s 25 l) 24 1 n))) v ((abC s).1, (abC s).2.1, (l, n), (abC s).2.2.2) := by
  refine ⟨_, rfl, ?_, ((eM.refl s).a (by omega) (by rw [hl, c.2.2.2.1.1])).f (by omega), ?_⟩
  · obtain ⟨⟨c1, z, l27⟩, c2, c3, c4, c5, c6⟩ := c
    refine ⟨⟨c1, z, l27⟩, c2, c3, ⟨hl, h0, h1⟩, c5, fun k hk => ?_⟩
    have f1 : ∀ j, fi (sf (sa s 25 l) 24 1 n) (28 + 2 * k) j = fi s (28 + 2 * k) j := fun j => by
      rw [fi_sf, if_neg (by omega)]; rfl
    unfold shO
    rw [f1, f1, f1]
    exact c6 k hk
  · unfold abC
    refine Prod.ext rfl (Prod.ext rfl (Prod.ext rfl (funext fun k => ?_)))
    show (if k < 8 then shC (sf (sa s 25 l) 24 1 n) k else none) = if k < 8 then shC s k else none
    split
    · unfold shC
      have f1 : ∀ j, fi (sf (sa s 25 l) 24 1 n) (28 + 2 * k) j = fi s (28 + 2 * k) j := fun j => by
        rw [fi_sf, if_neg (by omega)]; rfl
      rw [f1, f1]
      rfl
    · rfl
theorem b_15 {s : St} (c : CI s) (x : Int32) : CC s (m_15 0 x (H s)) (vFeed (ia s 25, fi s 24 1) x) ((abC s).1, (abC s).2.1, tFeed (ia s 25, fi s 24 1) x, (abC s).2.2.2) := by
  unfold m_15 vFeed tFeed
  simp only [r_0, r_T, Option.bind_some, jn, cst, bP_if, rB_0, rB_1, z00, z10, ↓reduceIte]
  by_cases c1 : x < 0
  · simp only [if_pos c1]
    exact CC.ref c isB2
  simp only [if_neg c1]
  by_cases c2 : x ≤ i3 255
  · simp only [if_pos c2]
    by_cases c3 : fi s 24 1 < i3 250
    · obtain ⟨t1, t2, t3⟩ := c.2.2.2.1
      have hb : (fi s 24 1).toNatClampNeg < 250 := lt_cl (b := 250) (by omega) t2 (fun e => absurd c3 (Int32.not_lt.mpr e))
      have en := i3_cl t2
      have e1 : st32 (ia s 25) (fi s 24 1) x = some ((ia s 25).set (fi s 24 1).toNatClampNeg x) := st_wr t2 (by omega)
      simp only [if_pos c3, e1, Option.map_some, Option.bind_some, jn, cst, bP_if, rB_0, rB_1, z00, z10, ↓reduceIte, r_0, r_T, fi_sa]
      have e2 : fi s 24 1 + i3 1 = i3 (((fi s 24 1).toNatClampNeg + 1 : Nat) : Int) := by
        conv => lhs; rw [en]
        exact i3_nat_add _
      have e3 : fi (sf (sa s 25 ((ia s 25).set (fi s 24 1).toNatClampNeg x)) 24 1 (fi s 24 1 + Int32.ofInt 1)) 24 1 = fi s 24 1 + i3 1 := rfl
      rw [e3]
      refine CC.tape c ((List.length_set).trans t1) ?_ ?_ _
      · show ¬ fi s 24 1 + i3 1 < 0
        rw [e2]; exact i3n_nneg (by omega)
      · show fi s 24 1 + i3 1 ≤ i3 250
        rw [e2]
        exact (i3n_le (b := 250) (by omega) (by omega)).mpr (by omega)
    · simp only [if_neg c3]
      exact CC.ref c isB6
  · simp only [if_neg c2]
    exact CC.ref c isB2
theorem b_16 {s : St} (c : CI s) : CC s (m_16 0 (H s)) (fi s 24 1) ((abC s).1, (abC s).2.1, (ia s 25, i3 0), (abC s).2.2.2) := by
  unfold m_16
  simp only [r_0, r_T, Option.bind_some, jn, cst, bP_if, rB_0, rB_1, z00, z10, ↓reduceIte]
  have := CC.tape c (l := ia s 25) (n := i3 0) c.2.2.2.1.1 (by decide +kernel) (by decide +kernel) (fi s 24 1)
  rw [sa_id] at this
  exact this
theorem b_56 {s : St} (c : CI s) : CC s (m_56 0 (H s)) (i3 1) ((abC s).1, some (gd s 1), (abC s).2.2) := by
  have h1 : sh (gd s 1) := c.1.1.sh
  have ep : ∀ t : St, pB (H t) 7 0 10 (Int32.ofInt 1) = some (H (sf t 0 10 (i3 1))) := fun t => by
    unfold pB
    rw [if_pos (show Int32.ofInt 1 = 0 ∨ Int32.ofInt 1 = 1 from Or.inr rfl)]
    rfl
  have g11 : isG 11 := Or.inr (Or.inr rfl)
  unfold m_56
  simp only [r_0, Option.bind_some, jn, cst, bP_if, rB_0, rB_1, z00, z10, ↓reduceIte, q_69 g11 g1 (by omega) c.2.2.1 h1, ep]
  have eg : gd (sf (wG s 11 (gd s 1)) 0 10 (i3 1)) 11 = gd s 1 := gd_wG s 11 (gd s 1)
  refine ⟨_, rfl, ?_, (eM_wG g11 h1 c.2.2.1).f (by omega), ?_⟩
  · obtain ⟨⟨c1, z, l27⟩, c2, c3, c4, c5, c6⟩ := c
    refine ⟨⟨c1, z, l27⟩, c2, by rw [eg]; exact h1, c4, Or.inr ⟨rfl, by rw [eg]; exact c1⟩, fun k hk => ?_⟩
    have f1 : ∀ j, fi (sf (wG s 11 (gd s 1)) 0 10 (i3 1)) (28 + 2 * k) j = fi s (28 + 2 * k) j := fun j => by
      rw [fi_sf, if_neg (by omega), fi_wG, if_neg (by omega), if_neg (by omega), if_neg (by omega), if_neg (by omega)]
    unfold shO
    rw [f1, f1, f1]
    exact c6 k hk
  · unfold abC
    rw [eg]
    refine Prod.ext rfl (Prod.ext (show (if i3 1 = 0 then none else some (gd s 1)) = some (gd s 1) from if_neg (by decide +kernel)) (Prod.ext rfl (funext fun k => ?_)))
    show (if k < 8 then shC (sf (wG s 11 (gd s 1)) 0 10 (i3 1)) k else none) = if k < 8 then shC s k else none
    split
    · unfold shC
      have f1 : ∀ j, fi (sf (wG s 11 (gd s 1)) 0 10 (i3 1)) (28 + 2 * k) j = fi s (28 + 2 * k) j := fun j => by
        rw [fi_sf, if_neg (by omega), fi_wG, if_neg (by omega), if_neg (by omega), if_neg (by omega), if_neg (by omega)]
      rw [f1, f1]
      rfl
    · rfl
noncomputable def vBack (k : Option Gd) : Int32 := match k with
  | none => i3 (-5)
  | some _ => i3 1
noncomputable def gBack (g : Gd) (k : Option Gd) : Gd := match k with
  | none => g
  | some h => h
theorem b_57 {s : St} (c : CI s) : CC s (m_57 0 (H s)) (vBack (abC s).2.1) (gBack (gd s 1) (abC s).2.1, (abC s).2) := by
  have g11 : isG 11 := Or.inr (Or.inr rfl)
  have ea : (abC s).2.1 = if fi s 0 10 = 0 then none else some (gd s 11) := rfl
  unfold m_57
  simp only [r_0, Option.bind_some, jn, cst, bP_if, rB_0, rB_1, z00, z10, ↓reduceIte, q_69 g1 g11 (by omega) c.1.1.sh c.2.2.1]
  rw [ea]
  by_cases c1 : fi s 0 10 = 0
  · rw [if_pos c1, if_pos c1]
    exact CC.ref c isB5
  · rw [if_neg c1, if_neg c1]
    have h : ok (gd s 11) := c.2.2.2.2.1.elim (fun e => absurd e c1) (·.2)
    have cj := CJ_wG c.cj h
    obtain ⟨s1, e1, i1, m1, a1, es⟩ := q_62 cj (t := tN (gd s 11)) h.2.1.1 (by rw [gd_wG]; exact Int32.le_refl _)
    simp only [r_0, r_G g1, gd_wG, Option.bind_some, jn, cst, bP_if, rB_0, rB_1, z00, z10, ↓reduceIte, e1]
    refine ⟨s1, rfl, i1, (eM_wG g1 h.sh c.1.1.sh).trans m1, ?_⟩
    rw [a1, ab_wG]
    rfl
