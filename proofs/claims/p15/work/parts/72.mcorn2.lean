/-! ===== the reference's corners; rows' first two trees; pointed ===== -/
section MF
variable {s : St}
theorem q_290 (h : ok (md s 44)) {t : Int32} (ht : isT (md s 44) t) : m_290 44 t (H s) = some (bP (crM (md s 44) t)) := by
  have hn := h.n_le
  unfold m_290
  rw [(r_m s).1, Option.bind_some]
  refine (lpS (nn (md s 44)) (by have := h.n_le; omega) (fun t => t) () (fun i => decide (ciM (md s 44) t i)) (fun _ => some (i3 0)) ?_ ?_).trans mat_bP
  · intro i nx ex hi
    skip
    rw [(r_g s).2.2.1, Option.bind_some, if_neg (h.T hi).2]
    refine (lpS i (by omega) (fun t => t) () (fun j => decide (cpM (md s 44) t i j)) (fun _ => some (i3 0)) ?_ ?_).trans ?_
    · intro j nx2 ex2 hj
      have hj2 : j < nn (md s 44) := by omega
      simp only [decide_eq_true_eq]
      rw [if_neg (nle hj (by omega)), jnE]
      by_cases d1 : i3 (i : Int) = t
      · rw [if_pos d1, if_neg (fun e => e.1 d1)]
      rw [if_neg d1]
      by_cases d2 : i3 (j : Int) = t
      · rw [if_pos d2, if_neg (fun e => e.2.1 d2)]
      rw [if_neg d2, (r_g s).2.2.2.2.2.2.1, Option.bind_some, (r_g s).2.2.2.2.2.2.2.2.2.2.1, h.at_c (h.T hi), Option.bind_some, Option.bind_some, (r_g s).2.2.2.2.2.2.2.2.2.2.1, h.at_c (h.T hj2), Option.bind_some, q_238 h, Option.bind_some, Option.bind_some, (r_g s).2.2.2.2.2.2.2.2.2.2.1, h.at_c (h.T hi), Option.bind_some, Option.bind_some, (r_g s).2.2.2.2.2.2.2.2.2.2.1, h.at_c (h.T hj2), Option.bind_some, Option.bind_some, (r_g s).2.2.2.2.2.2.2.2.2.2.1, h.at_c ht, Option.bind_some, q_236 h, Option.bind_some, jnE, bP_if]
      have L := cqL h ht hi hj2 (fun _ => nx2 (i3 (j : Int) + Int32.ofInt 1))
      rw [(r_g s).2.2.2.2.2.2.1] at L
      have two : ¬ cbM (md s 44) t i j → (if ¬ fst? (fun k => decide (cqM (md s 44) t i j k)) j 0 = none then some (i3 0) else nx2 (i3 (j : Int) + Int32.ofInt 1)) = if cpM (md s 44) t i j then some (i3 0) else nx2 (i3 (j : Int) + Int32.ofInt 1) := fun n => by
        by_cases q : ¬ fst? (fun k => decide (cqM (md s 44) t i j k)) j 0 = none
        · rw [if_pos q, if_pos (show cpM (md s 44) t i j from ⟨d1, d2, Or.inr q⟩)]
        · rw [if_neg q, if_neg (show ¬ cpM (md s 44) t i j from fun e => e.2.2.elim n q)]
      by_cases d3 : dar (md s 44) (cA (md s 44) (i3 (i : Int))) (cA (md s 44) (i3 (j : Int))) (cA (md s 44) t) = 0
      · rw [if_pos d3, Option.bind_some, (r_g s).2.2.2.2.2.2.2.2.2.2.1, h.at_c (h.T hi), Option.bind_some, Option.bind_some, (r_g s).2.2.2.2.2.2.2.2.2.2.1, h.at_c ht, Option.bind_some, q_238 h, Option.bind_some]
        by_cases d4 : sqr (md s 44) (cA (md s 44) (i3 (i : Int))) (cA (md s 44) (i3 (j : Int))) ≤ sqr (md s 44) (cA (md s 44) (i3 (i : Int))) (cA (md s 44) t)
        · rw [if_pos d4]
          refine L.trans (two (fun e => e.2.1 d4))
        rw [if_neg d4, Option.bind_some, (r_g s).2.2.2.2.2.2.2.2.2.2.1, h.at_c (h.T hj2), Option.bind_some, Option.bind_some, (r_g s).2.2.2.2.2.2.2.2.2.2.1, h.at_c ht, Option.bind_some, q_238 h, Option.bind_some]
        by_cases d5 : sqr (md s 44) (cA (md s 44) (i3 (i : Int))) (cA (md s 44) (i3 (j : Int))) ≤ sqr (md s 44) (cA (md s 44) (i3 (j : Int))) (cA (md s 44) t)
        · rw [if_pos d5]
          refine L.trans (two (fun e => e.2.2 d5))
        · rw [if_neg d5, if_pos (show cpM (md s 44) t i j from ⟨d1, d2, Or.inl ⟨d3, d4, d5⟩⟩)]
          rfl
      · rw [if_neg d3]
        refine L.trans (two (fun e => d3 e.1))
    · intro nx2 ex2
      rw [if_pos (Int32.le_refl _)]
    · simp only [decide_eq_true_eq]
      exact mS _ _ _
  · intro nx ex
    skip
    rw [(r_g s).2.2.1, Option.bind_some, if_pos (h.Te (Nat.le_refl _) (by have := h.n_le; omega))]
noncomputable def cmF (g : Gd) (k : Nat) (m : Int32) : Int32 := if crM g (i3 (k : Int)) then m ||| bit (i3 (k : Int)) else m
noncomputable def xCorners (g : Gd) : Int32 := itr (cmF g) (nn g) (i3 0)
theorem q_291 (h : ok (md s 44)) : m_291 44 (H s) = some (xCorners (md s 44)) := by
  unfold m_291
  rw [(r_m s).1, Option.bind_some]
  refine (lp0 (nn (md s 44)) (by have := h.n_le; omega) (fun t a => (a, t)) (fun a => a) (cmF (md s 44)) (fun _ => True) (i3 0) ?_ (fun _ _ _ _ => trivial) ?_ trivial).trans rfl
  · intro k m nx ex hk _
    dsimp only
    rw [(r_g s).2.2.1, Option.bind_some, if_neg (h.T hk).2, q_290 h (h.T hk), Option.bind_some, jnE, bP_if]
    dsimp only
    unfold cmF
    by_cases d1 : crM (md s 44) (i3 (k : Int))
    · rw [if_pos d1, if_pos d1]
      rfl
    · rw [if_neg d1, if_neg d1, or0]
  · intro a nx ex _
    dsimp only
    rw [(r_g s).2.2.1, Option.bind_some, if_pos (h.Te (Nat.le_refl _) (by have := h.n_le; omega))]
/-- the first tree of a set from a place on -/
theorem q_255 {x : Int32} {a b : Nat} (hab : a ≤ b) (hb : b < 31) (h1 : hs x (i3 (b : Int))) (h2 : ∀ q, a ≤ q → q < b → ¬ hs x (i3 (q : Int))) (th : tH) : m_255 x (i3 (a : Int)) th = some (i3 (b : Int)) := by
  unfold m_255
  have key : ∀ m fuel, m ≤ b - a → m < fuel → lp (fun (s1 : Int32) nx2 ex3 => (m_195 x s1 th).bind fun x5 => if x5 = 0 then nx2 (s1 + Int32.ofInt 1) else ex3 s1) fuel (i3 ((b - m : Nat) : Int)) (fun (x4 : Int32) => some x4) = some (i3 (b : Int)) := by
    intro m
    induction m with
    | zero =>
      intro fuel _ hf
      obtain ⟨q, rfl⟩ : ∃ q, fuel = q + 1 := ⟨fuel - 1, by omega⟩
      rw [lp_s, Nat.sub_zero, q_195, Option.bind_some, bP_if, if_pos h1]
    | succ m ih =>
      intro fuel hm hf
      obtain ⟨q, rfl⟩ : ∃ q, fuel = q + 1 := ⟨fuel - 1, by omega⟩
      rw [lp_s, q_195, Option.bind_some, bP_if, if_neg (h2 (b - (m + 1)) (by omega) (by omega)), i3_nat_add, show b - (m + 1) + 1 = b - m by omega]
      exact ih q (by omega) (by omega)
  have := key (b - a) 4096 (Nat.le_refl _) (by omega)
  rw [show b - (b - a) = a by omega] at this
  exact this
/-- the two first trees of a row -/
noncomputable def f1 (g : Gd) (k : Nat) : Int32 := ntz (lg (RL g) k)
noncomputable def f2 (g : Gd) (k : Nat) : Int32 := ntz (lg (RL g) k &&& (lg (RL g) k - i3 1))
theorem RL_two {g : Gd} (h : ok g) {k : Nat} (hk : k < (RL g).length) (th : tH) : isT g (f1 g k) ∧ isT g (f2 g k) ∧ m_255 (lg (RL g) k) (Int32.ofInt 0) th = some (f1 g k) ∧ m_255 (lg (RL g) k) (f1 g k + Int32.ofInt 1) th = some (f2 g k) := by
  have hn := h.n_le
  obtain ⟨i, j, h1, h2, h3, h4⟩ := RL_mem (lg_mem hk)
  obtain ⟨i', j', h1', h2', e, b1, b2, b3⟩ := RL_mk h hk
  have hm := rwm_4096 h (i3 (i' : Int)) (i3 (j' : Int))
  have hsI : ∀ q : Nat, q < 31 → (hs (lg (RL g) k) (i3 (q : Int)) ↔ (rwm g (i3 (i' : Int)) (i3 (j' : Int))).testBit q = true) := fun q hq => by
    rw [hs_iff hq, e, and_bit hm hq]
    simp
  have ei : f1 g k = i3 (i : Int) := by unfold f1; rw [h4]; exact h3.1
  have ej : f2 g k = i3 (j : Int) := by unfold f2; rw [h4]; exact h3.2
  -- i, j are the first two
  have hlo : ntz (lg (RL g) k) = i3 (i' : Int) ∧ ntz (lg (RL g) k &&& (lg (RL g) k - i3 1)) = i3 (j' : Int) := by
    have hc : rmC g i' j' := by
      rw [rmC, rowS_eq h, low_iff hm h1' (by omega)]
      exact ⟨by
        have := b1
        rw [rwm_bit _ _ (by omega)] at this
        unfold rP at this
        rw [decide_eq_true_eq] at this
        exact this.1, by
        have := b2
        rw [rwm_bit _ _ h2'] at this
        unfold rP at this
        rw [decide_eq_true_eq] at this
        exact this.1, b1, b3⟩
    have := (rmC_iff h h1' h2').mpr hc
    rw [e, ← rowS_eq h]
    exact this
  have ii : i = i' := by
    have := ei.symm.trans hlo.1
    exact (i3n_inj (by omega) (by omega)).mp this
  have jj : j = j' := by
    have := ej.symm.trans hlo.2
    exact (i3n_inj (by omega) (by omega)).mp this
  subst ii jj
  refine ⟨by rw [ei]; exact h.T (by omega), by rw [ej]; exact h.T h2, ?_, ?_⟩
  · rw [ei]
    exact q_255 (a := 0) (b := i) (Nat.zero_le _) (by omega) ((hsI i (by omega)).mpr b1) (fun q _ hq e' => by
      have := (hsI q (by omega)).mp e'
      rw [b3 q (by omega) (by omega)] at this
      cases this) th
  · rw [ei, ej, i3_nat_add]
    exact q_255 (a := i + 1) (b := j) (by omega) (by omega) ((hsI j (by omega)).mpr b2) (fun q hq hq2 e' => by
      have := (hsI q (by omega)).mp e'
      rw [b3 q (by omega) (by omega)] at this
      cases this) th
noncomputable def ptF (g : Gd) (c : Int32) (k : Nat) (m : Int32) : Int32 := if bct (lg (RL g) k) < i3 3 then m else if dar g (cA g (f1 g k)) (cA g (f2 g k)) c = 0 then m + i3 1 else m
noncomputable def xPointed (g : Gd) (c : Int32) : Int32 := if isCl g c then itr (ptF g c) (RL g).length (i3 0) else i3 (-2)
theorem d_50 (c : Mq s) (x : Int32) : Ans s (m_271 44 x (H s)) (xPointed (md s 44) x) := by
  unfold m_271 xPointed
  rw [(r_m s).1, Option.bind_some, q_193 c.1, Option.bind_some, bP_if]
  by_cases c1 : isCl (md s 44) x
  · rw [if_pos c1, if_pos c1]
    refine Ans.rwM c (fun s1 c1 m1 r1 => ?_)
    have hl := RL_len c.1
    refine ⟨s1, ?_, qq.refl s1⟩
    refine (lp0 (RL (md s 44)).length (by omega) (fun t a => (a, t)) (fun a => a) (ptF (md s 44) x) (fun _ => True) (i3 0) ?_ (fun _ _ _ _ => trivial) ?_ trivial).trans rfl
    · intro k m nx ex hk _
      obtain ⟨t1, t2, e1, e2⟩ := RL_two c.1 hk (H s1)
      have h1 : ok (md s1 44) := c1.1
      have t1' : isT (md s1 44) (f1 (md s 44) k) := by rw [m1]; exact t1
      have t2' : isT (md s1 44) (f2 (md s 44) k) := by rw [m1]; exact t2
      dsimp only
      rw [(r_f s1).2.1, Option.bind_some, if_neg (r1.lt hk), (r_f s1).2.2.1, Option.bind_some, (r_f s1).2.2.2, r1.at hk, Option.bind_some, e1, Option.bind_some, Option.bind_some, (r_f s1).2.2.2, r1.at hk, Option.bind_some, e2, Option.bind_some, Option.bind_some, (r_f s1).2.2.2, r1.at hk, Option.bind_some, q_196, Option.bind_some, RL_bs c.1 hk, jnE, jnE]
      dsimp only
      unfold ptF
      by_cases d1 : bct (lg (RL (md s 44)) k) < i3 3
      · rw [if_pos (show _ < Int32.ofInt 3 from d1), if_pos d1, add0]
      rw [if_neg (show ¬ _ < Int32.ofInt 3 from d1), if_neg d1, (r_g s1).2.2.2.2.2.2.1, Option.bind_some, (r_g s1).2.2.2.2.2.2.2.2.2.2.1, h1.at_c t1', Option.bind_some, Option.bind_some, (r_g s1).2.2.2.2.2.2.2.2.2.2.1, h1.at_c t2', Option.bind_some, q_236 h1, Option.bind_some, bP_if, m1]
      by_cases d2 : dar (md s 44) (cA (md s 44) (f1 (md s 44) k)) (cA (md s 44) (f2 (md s 44) k)) x = 0
      · rw [if_pos d2, if_pos d2]
      · rw [if_neg d2, if_neg d2, add0]
    · intro a nx ex _
      dsimp only
      rw [(r_f s1).2.1, Option.bind_some, if_pos (r1.ge (Nat.le_refl _) (show (RL (md s 44)).length ≤ 1000 by omega))]
  · rw [if_neg c1, if_neg c1, cst.1]
    exact Ans.mf c.2.2 isB2
end MF
