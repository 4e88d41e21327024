/-! ===== the reference takes gardens over ===== -/
noncomputable def isMd (s : St) (o : Nat) : Prop := o = 44 ∨ isK s o
theorem isMd.o {s : St} {o : Nat} (h : isMd s o) : o = 44 ∨ o = 67 ∨ o = 90 := by
  rcases h with h | ⟨h, -⟩ | ⟨h, -⟩
  · exact Or.inl h
  · exact Or.inr (Or.inl h)
  · exact Or.inr (Or.inr h)
section MK
variable {s : St}
theorem r_d {o : Nat} (h : isMd s o) : gC (H s) 8 o = some () ∧ (gI (H s) 8 o 9 = some (sD (md s o)) ∧ gI (H s) 8 o 10 = some (tN (md s o)) ∧ gI (H s) 8 o 14 = some (wN (md s o)) ∧ gI (H s) 8 o 16 = some (sE (md s o))) ∧ (gN (H s) 8 o 11 = some (o + 17) ∧ gN (H s) 8 o 12 = some (o + 18) ∧ gN (H s) 8 o 13 = some (o + 19) ∧ gN (H s) 8 o 15 = some (o + 20)) := by
  rcases h with rfl | h
  · exact ⟨rfl, ⟨rfl, rfl, rfl, rfl⟩, rfl, rfl, rfl, rfl⟩
  · obtain ⟨a, b, c, k, t, n⟩ := s
    rcases h with ⟨rfl, h⟩ | ⟨rfl, h⟩
    · match n, h with
      | 1, _ => exact ⟨rfl, ⟨rfl, rfl, rfl, rfl⟩, rfl, rfl, rfl, rfl⟩
      | n + 2, _ => exact ⟨rfl, ⟨rfl, rfl, rfl, rfl⟩, rfl, rfl, rfl, rfl⟩
    · match n, h with
      | n + 2, _ => exact ⟨rfl, ⟨rfl, rfl, rfl, rfl⟩, rfl, rfl, rfl, rfl⟩
theorem r_dp {o : Nat} (h : isMd s o) : (∀ x, pI (H s) 8 o 9 x = some (H (sf s o 9 x))) ∧ (∀ x, pI (H s) 8 o 10 x = some (H (sf s o 10 x))) ∧ (∀ x, pI (H s) 8 o 14 x = some (H (sf s o 14 x))) ∧ (∀ x, pI (H s) 8 o 16 x = some (H (sf s o 16 x))) := by
  rcases h with rfl | h
  · exact ⟨fun _ => rfl, fun _ => rfl, fun _ => rfl, fun _ => rfl⟩
  · obtain ⟨a, b, c, k, t, n⟩ := s
    rcases h with ⟨rfl, h⟩ | ⟨rfl, h⟩
    · match n, h with
      | 1, _ => exact ⟨fun _ => rfl, fun _ => rfl, fun _ => rfl, fun _ => rfl⟩
      | n + 2, _ => exact ⟨fun _ => rfl, fun _ => rfl, fun _ => rfl, fun _ => rfl⟩
    · match n, h with
      | n + 2, _ => exact ⟨fun _ => rfl, fun _ => rfl, fun _ => rfl, fun _ => rfl⟩
theorem r_da {o : Nat} (h : isMd s o) (q : Nat) (hq : q = 17 ∨ q = 18 ∨ q = 19 ∨ q = 20) : (∀ i, aI (H s) (o + q) i = at32 (ia s (o + q)) i) ∧ aL (H s) (o + q) = some (Int32.ofNat (ia s (o + q)).length) ∧ (∀ i x, sI (H s) (o + q) i x = (st32 (ia s (o + q)) i x).map (fun l => H (sa s (o + q) l))) := by
  rcases h with rfl | h
  · rcases hq with rfl | rfl | rfl | rfl <;> exact ⟨fun _ => aI_of rfl, rfl, fun _ _ => sI_of rfl⟩
  · obtain ⟨a, b, c, k, t, n⟩ := s
    rcases h with ⟨rfl, h⟩ | ⟨rfl, h⟩
    · match n, h with
      | 1, _ => rcases hq with rfl | rfl | rfl | rfl <;> exact ⟨fun _ => aI_of rfl, rfl, fun _ _ => sI_of rfl⟩
      | n + 2, _ => rcases hq with rfl | rfl | rfl | rfl <;> exact ⟨fun _ => aI_of rfl, rfl, fun _ _ => sI_of rfl⟩
    · match n, h with
      | n + 2, _ => rcases hq with rfl | rfl | rfl | rfl <;> exact ⟨fun _ => aI_of rfl, rfl, fun _ _ => sI_of rfl⟩
theorem cpy_get (l : List Int32) : ∀ (n : Nat) (x : List Int32), n ≤ x.length → (itr (fun k (x : List Int32) => x.set k (l.getD k 0)) n x).length = x.length ∧ ∀ j, (itr (fun k (x : List Int32) => x.set k (l.getD k 0)) n x)[j]? = if j < n then some (l.getD j 0) else x[j]?
  | 0, x, _ => ⟨rfl, fun j => by rw [if_neg (Nat.not_lt_zero _)]; rfl⟩
  | n + 1, x, hn => by
    obtain ⟨h1, h2⟩ := cpy_get l n x (by omega)
    refine ⟨(List.length_set).trans h1, fun j => ?_⟩
    show ((itr (fun k (x : List Int32) => x.set k (l.getD k 0)) n x).set n (l.getD n 0))[j]? = _
    rw [List.getElem?_set]
    by_cases e : n = j
    · subst e
      rw [if_pos rfl, if_pos (by omega), if_pos (by omega)]
    · rw [if_neg e, h2 j]
      by_cases c : j < n
      · rw [if_pos c, if_pos (by omega)]
      · rw [if_neg c, if_neg (by omega)]
theorem cpy_eq {l x : List Int32} (h : x.length = l.length) : itr (fun k (x : List Int32) => x.set k (l.getD k 0)) l.length x = l := by
  obtain ⟨h1, h2⟩ := cpy_get l l.length x (by omega)
  apply List.ext_getElem?
  intro j
  rw [h2 j]
  by_cases c : j < l.length
  · rw [if_pos c, List.getD_eq_getElem?_getD, List.getElem?_eq_getElem c]
    rfl
  · rw [if_neg c, List.getElem?_eq_none (by omega), List.getElem?_eq_none (by omega)]
theorem q_299 {p q : Nat} {l x0 : List Int32} (S : List Int32 → St) (hl : l.length ≤ 1000) (hx : x0.length = l.length) (hA : ∀ x i, aI (H (S x)) p i = at32 l i) (hL : ∀ x, aL (H (S x)) p = some (Int32.ofNat l.length)) (hS : ∀ x i y, x.length = l.length → sI (H (S x)) q i y = (st32 x i y).map (fun l => H (S l))) : m_299 p q (H (S x0)) = some (H (S l)) := by
  unfold m_299
  refine (lp0 l.length hl (fun t x => (t, H (S x))) (fun x => H (S x)) (fun k (x : List Int32) => x.set k (l.getD k 0)) (fun x => x.length = l.length) x0 ?_ ?_ ?_ hx).trans ?_
  · intro k x nx ex hk hxl
    dsimp only
    have e1 : ¬ Int32.ofNat l.length ≤ i3 (k : Int) := by rw [i3_nat]; exact nle hk hl
    rw [hL, Option.bind_some, if_neg e1, hA, at32_nat (by omega), List.getElem?_eq_getElem hk, Option.bind_some, hS _ _ _ hxl, st32_nat (by omega) (by omega), Option.map_some, Option.bind_some, List.getD_eq_getElem?_getD, List.getElem?_eq_getElem hk]
    rfl
  · intro k x _ hxl
    exact (List.length_set).trans hxl
  · intro x nx ex hxl
    dsimp only
    have e1 : Int32.ofNat l.length ≤ i3 (l.length : Int) := by rw [i3_nat]; exact Int32.le_refl _
    rw [hL, Option.bind_some, if_pos e1]
  · rw [cpy_eq hx]
theorem md_ne (s : St) (g : Gd) {a b : Nat} (ha : a = 44 ∨ a = 67 ∨ a = 90) (hb : b = 44 ∨ b = 67 ∨ b = 90) (hab : a ≠ b) : md (wM s a g) b = md s b := by
  unfold md
  rw [fi_wM, if_neg (by omega), if_neg (by omega), if_neg (by omega), if_neg (by omega), fi_wM, if_neg (by omega), if_neg (by omega), if_neg (by omega), if_neg (by omega), fi_wM, if_neg (by omega), if_neg (by omega), if_neg (by omega), if_neg (by omega), fi_wM, if_neg (by omega), if_neg (by omega), if_neg (by omega), if_neg (by omega), ia_wM, if_neg (by omega), if_neg (by omega), if_neg (by omega), if_neg (by omega), ia_wM, if_neg (by omega), if_neg (by omega), if_neg (by omega), if_neg (by omega), ia_wM, if_neg (by omega), if_neg (by omega), if_neg (by omega), if_neg (by omega), ia_wM, if_neg (by omega), if_neg (by omega), if_neg (by omega), if_neg (by omega)]
theorem q_300 {a b : Nat} (ha : isMd s a) (hb : isMd s b) (hab : a ≠ b) (h1 : sh (md s a)) (h2 : sh (md s b)) : m_300 a b (H s) = some (H (wM s a (md s b))) := by
  have A : ∀ g : Gd, isMd (wM s a g) a := fun _ => ha
  have B : ∀ g : Gd, isMd (wM s a g) b := fun _ => hb
  have N : ∀ g : Gd, md (wM s a g) b = md s b := fun g => md_ne s g ha.o hb.o hab
  obtain ⟨a1, a2, a3, a4⟩ := h1
  obtain ⟨b1, b2, b3, b4⟩ := h2
  have cK : ∀ g : Gd, (kS g).length = 12 → m_299 (b + 17) (a + 17) (H (wM s a g)) = some (H (wM s a (uK g (kS (md s b))))) := fun g hg => by
    have := q_299 (p := b + 17) (q := a + 17) (l := kS (md s b)) (x0 := kS g) (fun x => wM s a (uK g x)) (by omega) (by omega) (fun x i => by
      rw [(r_da (B _) 17 (Or.inl rfl)).1 i]
      exact congrArg (fun z => at32 z i) (congrArg kS (N (uK g x)))) (fun x => by
      rw [(r_da (B _) 17 (Or.inl rfl)).2.1]
      exact congrArg (fun z => some (Int32.ofNat (List.length z))) (congrArg kS (N (uK g x)))) (fun x i y _ => by
      have e := (r_da (A (uK g x)) 17 (Or.inl rfl)).2.2 i y
      have e2 : ia (wM s a (uK g x)) (a + 17) = x := congrArg kS (md_wM s a (uK g x))
      rw [e2] at e
      rw [e]
      congr 1
      funext l
      rw [sa_m17, wM_wM, md_wM]
      rfl)
    exact this
  have cC : ∀ g : Gd, (cS g).length = 12 → m_299 (b + 18) (a + 18) (H (wM s a g)) = some (H (wM s a (uC g (cS (md s b))))) := fun g hg => by
    have := q_299 (p := b + 18) (q := a + 18) (l := cS (md s b)) (x0 := cS g) (fun x => wM s a (uC g x)) (by omega) (by omega) (fun x i => by
      rw [(r_da (B _) 18 (by omega)).1 i]
      exact congrArg (fun z => at32 z i) (congrArg cS (N (uC g x)))) (fun x => by
      rw [(r_da (B _) 18 (by omega)).2.1]
      exact congrArg (fun z => some (Int32.ofNat (List.length z))) (congrArg cS (N (uC g x)))) (fun x i y _ => by
      have e := (r_da (A (uC g x)) 18 (by omega)).2.2 i y
      have e2 : ia (wM s a (uC g x)) (a + 18) = x := congrArg cS (md_wM s a (uC g x))
      rw [e2] at e
      rw [e]
      congr 1
      funext l
      rw [sa_m18, wM_wM, md_wM]
      rfl)
    exact this
  have cV : ∀ g : Gd, (vS g).length = 12 → m_299 (b + 19) (a + 19) (H (wM s a g)) = some (H (wM s a (uV g (vS (md s b))))) := fun g hg => by
    have := q_299 (p := b + 19) (q := a + 19) (l := vS (md s b)) (x0 := vS g) (fun x => wM s a (uV g x)) (by omega) (by omega) (fun x i => by
      rw [(r_da (B _) 19 (by omega)).1 i]
      exact congrArg (fun z => at32 z i) (congrArg vS (N (uV g x)))) (fun x => by
      rw [(r_da (B _) 19 (by omega)).2.1]
      exact congrArg (fun z => some (Int32.ofNat (List.length z))) (congrArg vS (N (uV g x)))) (fun x i y _ => by
      have e := (r_da (A (uV g x)) 19 (by omega)).2.2 i y
      have e2 : ia (wM s a (uV g x)) (a + 19) = x := congrArg vS (md_wM s a (uV g x))
      rw [e2] at e
      rw [e]
      congr 1
      funext l
      rw [sa_m19, wM_wM, md_wM]
      rfl)
    exact this
  have cW : ∀ g : Gd, (wS g).length = 8 → m_299 (b + 20) (a + 20) (H (wM s a g)) = some (H (wM s a (uS g (wS (md s b))))) := fun g hg => by
    have := q_299 (p := b + 20) (q := a + 20) (l := wS (md s b)) (x0 := wS g) (fun x => wM s a (uS g x)) (by omega) (by omega) (fun x i => by
      rw [(r_da (B _) 20 (by omega)).1 i]
      exact congrArg (fun z => at32 z i) (congrArg wS (N (uS g x)))) (fun x => by
      rw [(r_da (B _) 20 (by omega)).2.1]
      exact congrArg (fun z => some (Int32.ofNat (List.length z))) (congrArg wS (N (uS g x)))) (fun x i y _ => by
      have e := (r_da (A (uS g x)) 20 (by omega)).2.2 i y
      have e2 : ia (wM s a (uS g x)) (a + 20) = x := congrArg wS (md_wM s a (uS g x))
      rw [e2] at e
      rw [e]
      congr 1
      funext l
      rw [sa_m20, wM_wM, md_wM]
      rfl)
    exact this
  unfold m_300
  rw [(r_d ha).1, Option.bind_some, (r_d hb).2.1.1, Option.bind_some, (r_dp ha).1, Option.bind_some, sf_m9]
  generalize hg1 : uD (md s a) (sD (md s b)) = g1
  rw [(r_d (B g1)).2.1.2.1, Option.bind_some, N, (r_dp (A g1)).2.1, Option.bind_some, sf_m10, wM_wM, md_wM]
  generalize hg2 : uT g1 (tN (md s b)) = g2
  rw [(r_d (B g2)).2.2.1, Option.bind_some, (r_d (A g2)).2.2.1, Option.bind_some, cK g2 (by rw [← hg2, ← hg1]; exact a1), Option.bind_some]
  generalize hg3 : uK g2 (kS (md s b)) = g3
  rw [(r_d (B g3)).2.2.2.1, Option.bind_some, (r_d (A g3)).2.2.2.1, Option.bind_some, cC g3 (by rw [← hg3, ← hg2, ← hg1]; exact a2), Option.bind_some]
  generalize hg4 : uC g3 (cS (md s b)) = g4
  rw [(r_d (B g4)).2.2.2.2.1, Option.bind_some, (r_d (A g4)).2.2.2.2.1, Option.bind_some, cV g4 (by rw [← hg4, ← hg3, ← hg2, ← hg1]; exact a3), Option.bind_some]
  generalize hg5 : uV g4 (vS (md s b)) = g5
  rw [(r_d (B g5)).2.1.2.2.1, Option.bind_some, N, (r_dp (A g5)).2.2.1, Option.bind_some, sf_m14, wM_wM, md_wM]
  generalize hg6 : uW g5 (wN (md s b)) = g6
  rw [(r_d (B g6)).2.2.2.2.2, Option.bind_some, (r_d (A g6)).2.2.2.2.2, Option.bind_some, cW g6 (by rw [← hg6, ← hg5, ← hg4, ← hg3, ← hg2, ← hg1]; exact a4), Option.bind_some]
  generalize hg7 : uS g6 (wS (md s b)) = g7
  rw [(r_d (B g7)).2.1.2.2.2, Option.bind_some, N, (r_dp (A g7)).2.2.2, Option.bind_some, sf_m16, wM_wM, md_wM, ← hg7, ← hg6, ← hg5, ← hg4, ← hg3, ← hg2, ← hg1]
  rfl
theorem g_kr (s : St) : gR (H s) 8 44 17 = some (kr s) := gR_rf rfl rfl
theorem g_tr (s : St) : gR (H s) 8 44 18 = some (tr s) := gR_rf rfl rfl
theorem KO.kK (c : KO s) {o : Nat} (h : kr s = some o) : isK s o := by
  unfold isK
  rcases c.1 with ⟨n, a, b⟩ | ⟨n, a, b⟩ | ⟨n, a, b⟩ | ⟨n, a, b⟩ | ⟨n, a, b⟩ <;> rw [a] at h <;> cases h <;> rw [n] <;> omega
theorem KO.tK (c : KO s) {o : Nat} (h : tr s = some o) : isK s o := by
  unfold isK
  rcases c.1 with ⟨n, a, b⟩ | ⟨n, a, b⟩ | ⟨n, a, b⟩ | ⟨n, a, b⟩ | ⟨n, a, b⟩ <;> rw [b] at h <;> cases h <;> rw [n] <;> omega
theorem isK.ne {o : Nat} (h : isK s o) : o ≠ 44 := by
  rcases h with ⟨rfl, -⟩ | ⟨rfl, -⟩ <;> omega
theorem e_57 (c : MI s) : MC s (m_302 44 (H s)) (vBack (abM s).2.1) (gBack (md s 44) (abM s).2.1, (abM s).2) := by
  have e0 : (abM s).2.1 = (kr s).map (fun o => md s o) := rfl
  unfold m_302
  rw [(r_m s).1, Option.bind_some, g_kr, Option.bind_some, e0]
  cases hk : kr s with
  | none =>
    dsimp only [Option.map]
    rw [cst.2.2.2.1]
    exact MC.ref c isB5
  | some o =>
    have kK := c.2.2.2.1.kK hk
    have hok := c.2.2.2.1.2.1 o hk
    obtain ⟨s1, e1, i1, m1, a1, em⟩ := q_207 (MJ_wM c.mj hok)
    dsimp only [Option.map]
    rw [Option.bind_some, Option.bind_some, q_300 (Or.inl rfl) (Or.inr kK) (fun e => kK.ne e.symm) c.1.1.sh hok.sh, Option.bind_some, e1, Option.bind_some]
    exact ⟨s1, rfl, i1, (eC_wM hok.sh c.1.1.sh).trans m1, a1.trans (ab_wM c.2.2.2.1.1 _)⟩
end MK
