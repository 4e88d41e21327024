/-! ===== the reference reads statements ===== -/
noncomputable def rst (s : St) (b : List Int32) (n : Nat) (t : Tk) (g : Gd) (d : List Int32) : Prop := tpM s b n ∧ tkM s b t ∧ tkO b n t ∧ md s 44 = g ∧ ok g ∧ ia s 65 = d ∧ d.length = 3
/-- a test of a token: it was so, and the next token is at hand; or not, and the fault is told -/
noncomputable def NM (s : St) (b : List Int32) (n : Nat) (m : Option (Int32 × tH)) (p : Prop) [Decidable p] (t t' : Tk) (g : Gd) (d' : List Int32) : Prop := ∃ s', m = some (bP p, H s') ∧ uu s s' ∧ (p → rst s' b n t' g d') ∧ (¬ p → fi s' 44 23 = i3 (t.2.1 : Int))
noncomputable def PM (s : St) (b : List Int32) (n : Nat) (m : Option (Int32 × tH)) (r : PR) : Prop := ∃ s', m = some (bB r.1, H s') ∧ uu s s' ∧ (r.1 = true → ∃ d', rst s' b n r.2.2.1 r.2.1 d') ∧ (r.1 = false → fi s' 44 23 = i3 (r.2.2.1.2.1 : Int))
section MRD
variable {s : St} {b : List Int32} {n : Nat} {t : Tk} {g : Gd} {d : List Int32} {w : Int32}
theorem PM.u {s s' : St} {m : Option (Int32 × tH)} {r : PR} (h : PM s' b n m r) (q : uu s s') : PM s b n m r := by
  obtain ⟨s2, e, q2, k⟩ := h
  exact ⟨s2, e, q.trans q2, k⟩
theorem eU.rst {s s' : St} {t' : Tk} (h : rst s b n t g d) (u : eU s s') (k : tkM s' b t') (o : tkO b n t') : rst s' b n t' g d := by
  obtain ⟨h1, h2, h3, h4, h5, h6, h7⟩ := h
  have a : ∀ p, ia s' p = ia s p := fun p => congrFun u.1 p
  refine ⟨⟨by rw [a]; exact h1.1, h1.2.1, by rw [u.2.2.1 44 7 (by omega)]; exact h1.2.2.1, h1.2.2.2⟩, k, o, ?_, h5, by rw [a]; exact h6, h7⟩
  rw [← h4]
  unfold md
  rw [u.2.2.1 44 9 (by omega), u.2.2.1 44 10 (by omega), u.2.2.1 44 14 (by omega), u.2.2.1 44 16 (by omega), a, a, a, a]
theorem rst.look (h : rst s b n t g d) : ∃ s', m_224 44 (H s) = some (H s') ∧ rst s' b n (adv b n t.2.2) g d ∧ uu s s' := by
  obtain ⟨s', e, k, u⟩ := q_224 h.1 h.2.2.1.bd.2.1 h.2.1.2.2.1
  exact ⟨s', e, u.rst h k h.2.2.1.nx, u.u⟩
theorem rst.wg (h : rst s b n t g d) {g' : Gd} (h' : ok g') : rst (wM s 44 g') b n t g' d ∧ uu s (wM s 44 g') := by
  obtain ⟨h1, h2, h3, h4, h5, h6, h7⟩ := h
  exact ⟨⟨h1, h2, h3, md_wM s 44 g', h', h6, h7⟩, (uu.refl s).w h'.sh (by rw [h4]; exact h5.sh)⟩
theorem rst.ok (h : rst s b n t g d) : ok (md s 44) := by rw [h.2.2.2.1]; exact h.2.2.2.2.1
theorem q_225 : m_225 44 (H s) = some (i3 0, H (sf s 44 23 (fi s 44 21))) := rfl
theorem rst.wr (h : rst s b n t g d) : uu s (sf s 44 23 (fi s 44 21)) ∧ fi (sf s 44 23 (fi s 44 21)) 44 23 = i3 (t.2.1 : Int) := ⟨(uu.refl s).f (by omega), h.2.1.2.1⟩
theorem rst.no (h : rst s b n t g d) : PM s b n ((m_225 44 (H s)).bind fun q4 => (rB q4.1).bind fun y5 => some (y5, q4.2)) (false, g, t, w) := ⟨_, rfl, h.wr.1, fun e => (by cases e), fun _ => h.wr.2⟩
theorem g_20 (h : rst s b n t g d) : gI (H s) 8 44 20 = some t.1 ∧ gI (H s) 8 44 22 = some (numM b t) ∧ gI (H s) 8 44 10 = some (tN g) ∧ gI (H s) 8 44 14 = some (wN g) := ⟨by rw [← h.2.1.1]; rfl, by rw [← h.2.1.2.2.2]; rfl, by rw [← h.2.2.2.1]; rfl, by rw [← h.2.2.2.1]; rfl⟩
theorem a_65 (h : rst s b n t g d) {i : Nat} (hi : i < 3) : gN (H s) 8 44 24 = some 65 ∧ aI (H s) 65 (i3 (i : Int)) = some (lg d i) := by
  refine ⟨rfl, ?_⟩
  rw [show aI (H s) 65 (i3 (i : Int)) = at32 (ia s 65) (i3 (i : Int)) from aI_of rfl, h.2.2.2.2.2.1]
  exact at_lg (by rw [h.2.2.2.2.2.2]; exact hi) (by rw [h.2.2.2.2.2.2]; omega)
/-- the number, where it may be one -/
theorem num_eq {l u : Int32} (hl : ¬ l < 0) (hu : u < i3 1000) (h2 : t.1 = i3 2) : (¬ numM b t < l ∧ ¬ u < numM b t) ↔ inN b t l u := by
  unfold inN numM num
  rw [if_pos h2, if_pos h2]
  by_cases c : t.2.2 - t.2.1 ≤ 2
  · rw [if_pos c, if_pos c]
    exact ⟨fun e => ⟨h2, e⟩, fun e => e.2⟩
  · rw [if_neg c, if_neg c]
    refine ⟨fun e => absurd hu e.2, fun e => ?_⟩
    exfalso
    apply e.2.1
    have := m1_lt hl
    exact this
theorem num_M {l u : Int32} (hl : ¬ l < 0) (h : inN b t l u) : numM b t = num b t := by
  obtain ⟨h2, h3, h4⟩ := h
  unfold num at h3
  unfold numM num
  rw [if_pos h2, if_pos h2]
  rw [if_pos h2] at h3
  by_cases c : t.2.2 - t.2.1 ≤ 2
  · rw [if_pos c, if_pos c]
  · rw [if_neg c] at h3
    exact absurd (m1_lt hl) h3
theorem q_227 (h : rst s b n t g d) {i : Nat} (hi : i < 3) {l u : Int32} (hl : ¬ l < 0) (hu : u < i3 1000) : NM s b n (m_227 44 (i3 (i : Int)) l u (H s)) (inN b t l u) t (adv b n t.2.2) g (d.set i (num b t)) := by
  obtain ⟨e20, e22, -⟩ := g_20 h
  unfold m_227
  rw [(r_m s).1, Option.bind_some, e20, Option.bind_some, jnE, e22]
  have no : ¬ inN b t l u → NM s b n ((m_225 44 (H s)).bind fun q4 => (rB q4.1).bind fun y5 => some (y5, q4.2)) (inN b t l u) t (adv b n t.2.2) g (d.set i (num b t)) := fun hn => ⟨_, by rw [q_225, bP_f hn]; rfl, h.wr.1, fun e => absurd e hn, fun _ => h.wr.2⟩
  by_cases c1 : t.1 = i3 2
  · have P := num_eq (b := b) hl hu c1
    rw [if_pos (show t.1 = Int32.ofInt 2 from c1), Option.bind_some, q_190, Option.bind_some, bP_if]
    by_cases c2 : inN b t l u
    · have en := num_M hl c2
      have g24 : gN (H s) 8 44 24 = some 65 := rfl
      have s65 : sI (H s) 65 (i3 (i : Int)) (numM b t) = some (H (sa s 65 (d.set i (num b t)))) := by
        rw [show sI (H s) 65 (i3 (i : Int)) (numM b t) = (st32 (ia s 65) (i3 (i : Int)) (numM b t)).map (fun l => H (sa s 65 l)) from sI_of rfl, h.2.2.2.2.2.1, st32_nat (by rw [h.2.2.2.2.2.2]; exact hi) (by rw [h.2.2.2.2.2.2]; omega), Option.map_some, en]
      have h1 : rst (sa s 65 (d.set i (num b t))) b n t g (d.set i (num b t)) := by
        obtain ⟨h1, h2, h3, h4, h5, h6, h7⟩ := h
        exact ⟨h1, h2, h3, h4, h5, rfl, (List.length_set).trans h7⟩
      obtain ⟨s2, e2, k2, u2⟩ := h1.look
      have u1 : uu s (sa s 65 (d.set i (num b t))) := (uu.refl s).d (by rw [List.length_set, h.2.2.2.2.2.1])
      rw [if_pos (P.mpr c2), g24, Option.bind_some, Option.bind_some, s65, Option.bind_some, e2, Option.bind_some]
      exact ⟨s2, by rw [bP_t c2]; rfl, u1.trans u2, fun _ => k2, fun e => absurd c2 e⟩
    · rw [if_neg (fun e => c2 (P.mp e))]
      exact no c2
  · rw [if_neg (show ¬ t.1 = Int32.ofInt 2 from c1)]
    exact no (fun e => c1 e.1)
theorem NM.rb {m : Option (Int32 × tH)} {p : Prop} [Decidable p] {t t' : Tk} {d' : List Int32} (h : NM s b n m p t t' g d') : NM s b n (m.bind fun q => (rB q.1).bind fun y => some (y, q.2)) p t t' g d' := by
  obtain ⟨s', e, q, k⟩ := h
  rw [e, Option.bind_some]
  dsimp only
  rw [rB_bP]
  exact ⟨s', rfl, q, k⟩
theorem NM.u {s s' : St} {m : Option (Int32 × tH)} {p : Prop} [Decidable p] {t t' : Tk} {d' : List Int32} (h : NM s' b n m p t t' g d') (q : uu s s') : NM s b n m p t t' g d' := by
  obtain ⟨s2, e, q2, k⟩ := h
  exact ⟨s2, e, q.trans q2, k⟩
theorem q_228 (h : rst s b n t g d) {l u : Int32} (hl : ¬ l < 0) (hu : u < i3 1000) : NM s b n (m_228 44 l u (H s)) (inN b (adv b n t.2.2) l u) (adv b n t.2.2) (adv b n (adv b n t.2.2).2.2) g (d.set 0 (num b (adv b n t.2.2))) := by
  obtain ⟨s1, e1, k1, u1⟩ := h.look
  unfold m_228
  rw [(r_m s).1, Option.bind_some, e1, Option.bind_some]
  exact ((q_227 k1 (i := 0) (by omega) hl hu).rb).u u1
theorem tIn_out {x : Int32} (h : ok g) (hx : ¬ isCl g x) : tIn g x = i3 (-1) := by
  unfold tIn
  have : fst? (fun k => decide (cA g (i3 (k : Int)) = x)) (nn g) 0 = none := by
    cases e : fst? (fun k => decide (cA g (i3 (k : Int)) = x)) (nn g) 0 with
    | none => rfl
    | some j =>
      have := fst?_some e
      have h1 := h.2.2.2.2.2.1 _ (h.T (k := j) (by omega))
      rw [of_decide_eq_true this.2.2.1] at h1
      exact absurd h1 hx
  rw [this]
  rfl
theorem cc_m1 (h : ok g) : cc g - i3 1 < i3 1000 := by
  have h1 := h.cc_le
  rw [h.cc_eq, i3_sub, i3_lt ⟨by omega, by omega⟩ ⟨by omega, by omega⟩]
  omega
theorem tN_m1 (h : ok g) : tN g - i3 1 < i3 1000 := by
  have h1 := h.n_le
  rw [h.n_eq, i3_sub, i3_lt ⟨by omega, by omega⟩ ⟨by omega, by omega⟩]
  omega
theorem z0 : ¬ (i3 0) < 0 := by decide +kernel
theorem q_229 (h : rst s b n t g d) {i : Nat} (hi : i < 3) : NM s b n (m_229 44 (i3 (i : Int)) (H s)) (inN b t (i3 0) (cc g - i3 1) ∧ tIn g (num b t) = i3 (-1)) t (adv b n t.2.2) g (d.set i (num b t)) := by
  obtain ⟨e20, e22, -⟩ := g_20 h
  have hg := h.2.2.2.2.1
  have q0 := q_227 h hi (l := i3 0) (u := cc g - i3 1) z0 (cc_m1 hg)
  unfold m_229
  rw [(r_m s).1, Option.bind_some, e20, Option.bind_some, jnE, q_192, Option.bind_some, h.2.2.2.1]
  have go : (inN b t (i3 0) (cc g - i3 1) → tIn g (num b t) = i3 (-1)) → NM s b n ((m_227 44 (i3 (i : Int)) (Int32.ofInt 0) (cc g - Int32.ofInt 1) (H s)).bind fun q5 => (rB q5.1).bind fun y6 => some (y6, q5.2)) (inN b t (i3 0) (cc g - i3 1) ∧ tIn g (num b t) = i3 (-1)) t (adv b n t.2.2) g (d.set i (num b t)) := fun hp => by
    obtain ⟨s1, e1, u1, y1, n1⟩ := q0.rb
    refine ⟨s1, ?_, u1, fun e => y1 e.1, fun e => n1 (fun e2 => e ⟨e2, hp e2⟩)⟩
    refine e1.trans ?_
    rw [bP_congr (show inN b t (i3 0) (cc g - i3 1) ↔ (inN b t (i3 0) (cc g - i3 1) ∧ tIn g (num b t) = i3 (-1)) from ⟨fun e => ⟨e, hp e⟩, fun e => e.1⟩)]
  by_cases c1 : t.1 = i3 2
  · rw [if_pos (show t.1 = Int32.ofInt 2 from c1), e22, Option.bind_some, q_194 h.ok, Option.bind_some, h.2.2.2.1]
    by_cases c2 : tIn g (numM b t) = i3 (-1)
    · rw [if_pos (show _ = Int32.ofInt (-1) from c2)]
      exact go (fun e => by rw [← num_M z0 e]; exact c2)
    · rw [if_neg (show ¬ _ = Int32.ofInt (-1) from c2)]
      have hn : ¬ (inN b t (i3 0) (cc g - i3 1) ∧ tIn g (num b t) = i3 (-1)) := fun e => c2 (by rw [num_M z0 e.1]; exact e.2)
      exact ⟨_, by rw [q_225, bP_f hn]; rfl, h.wr.1, fun e => absurd e hn, fun _ => h.wr.2⟩
  · rw [if_neg (show ¬ t.1 = Int32.ofInt 2 from c1)]
    exact go (fun e => absurd e.1 c1)
theorem q_226 (h : rst s b n t g d) {k : Nat} (hk : k < 10) : m_226 44 (1001 + k) (H s) = some (bP (t.1 = i3 1 ∧ wrd b t k)) := by
  have hn := h.1.2.2.2
  have hb := h.2.2.1.bd
  obtain ⟨e20, e22, -⟩ := g_20 h
  have g19 : gI (H s) 8 44 19 = some (i3 (t.2.2 : Int)) := by rw [← h.2.1.2.2.1]; rfl
  have g21 : gI (H s) 8 44 21 = some (i3 (t.2.1 : Int)) := by rw [← h.2.1.2.1]; rfl
  have e1 : i3 (t.2.2 : Int) - i3 (t.2.1 : Int) = i3 ((t.2.2 - t.2.1 : Nat) : Int) := by
    rw [i3_sub]; congr 1; omega
  unfold m_226
  rw [(r_m s).1, Option.bind_some, e20, Option.bind_some, jnE]
  by_cases c1 : t.1 = i3 1
  · rw [if_pos (show t.1 = Int32.ofInt 1 from c1), g19, Option.bind_some, g21, Option.bind_some, q_177 (by omega) (by omega), Option.bind_some, e1]
    have e2 : (i3 ((t.2.2 - t.2.1 : Nat) : Int) = i3 4) ↔ t.2.2 - t.2.1 = 4 := i3n_inj (b := 4) (by omega) (by omega)
    by_cases c : t.2.2 - t.2.1 = 4
    · rw [if_pos (e2.mpr c)]
      refine (lpS 4 (by omega) (fun t => t) () (fun i => decide (¬ bt b (t.2.1 + i) = (wl k).getD i 0)) (fun _ => some (i3 0)) ?_ ?_).trans ?_
      · intro q nx ex hq
        have e3 : ¬ i3 4 ≤ i3 (q : Int) := nle (k := 4) hq (by omega)
        have e4 : i3 (t.2.1 : Int) + i3 (q : Int) = i3 ((t.2.1 + q : Nat) : Int) := by rw [i3_add]; rfl
        rw [Option.bind_some, if_neg e3, (g_t s).2.2.2.2.2.1, Option.bind_some, Option.bind_some, (g_t s).2.2.2.2.2.2, e4, h.1.at (by omega), Option.bind_some, q_178 hk hq, Option.bind_some]
        simp only [decide_eq_true_eq]
        by_cases d : bt b (t.2.1 + q) = (wl k).getD q 0
        · rw [if_pos d, if_neg (fun e => e d)]
        · rw [if_neg d, if_pos d]
          rfl
      · intro nx ex
        have e3 : i3 4 ≤ i3 ((4 : Nat) : Int) := by decide +kernel
        rw [Option.bind_some, if_pos e3]
      · refine (mat_bP (p := fun i => decide (¬ bt b (t.2.1 + i) = (wl k).getD i 0)) (n := 4) (l := 0)).trans ?_
        unfold bP wrd
        simp only [c, c1, true_and]
    · rw [if_neg (fun e => c (e2.mp e)), bP_f (fun e => c e.2.1)]
      rfl
  · rw [if_neg (show ¬ t.1 = Int32.ofInt 1 from c1), bP_f (fun e => c1 e.1)]
    rfl
theorem wl5 : ∀ k, k < 5 → wl (k + 5) = wl k := by
  have : ∀ k, k < 5 → t_byt.getD (k + 5) [] = t_byt.getD k [] := by decide +kernel
  exact this
theorem W5 (h : rst s b n t g d) {k : Nat} (hk : k < 5) : m_226 44 (1006 + k) (H s) = some (bP (t.1 = i3 1 ∧ wrd b t k)) := by
  have := q_226 h (k := k + 5) (by omega)
  rw [show 1001 + (k + 5) = 1006 + k by omega] at this
  unfold wrd at this
  rw [wl5 k hk] at this
  exact this
theorem wrd_x {i j : Nat} (hi : i < 5) (hj : j < 5) (h1 : wrd b t i) (h2 : wrd b t j) : i = j := by
  have a := fst?_none h1.2 0 (Nat.le_refl _) (by omega)
  have c := fst?_none h2.2 0 (Nat.le_refl _) (by omega)
  simp only [decide_eq_false_iff_not, Decidable.not_not] at a c
  have e : (wl i).getD 0 0 = (wl j).getD 0 0 := a.symm.trans c
  have : ∀ i, i < 5 → ∀ j, j < 5 → (t_byt.getD i []).getD 0 0 = (t_byt.getD j []).getD 0 0 → i = j := by decide +kernel
  exact this i hi j hj e
theorem m_side (h : rst s b n t g d) (c0 : ¬ 0 < tN g) : PM s b n ((m_228 44 (Int32.ofInt 3) (Int8.ofInt 8).toInt32 (H s)).bind fun q52 => jn (fun (v53 : Int32 × Nat) => (pI q52.2 8 v53.2 9 v53.1).bind fun th55 => (rB q52.1).bind fun y56 => some (y56, th55)) (fun j54 => if q52.1 = 0 then (gI q52.2 8 44 9).bind fun x57 => j54 (x57, 44) else (gN q52.2 8 44 24).bind fun o58 => (aI q52.2 o58 (Int32.ofInt 0)).bind fun x59 => j54 (x59, 44))) (pSide b n g t w) := by
  have c8 : (Int8.ofInt 8).toInt32 = i3 8 := by decide +kernel
  obtain ⟨s1, e1, u1, y1, n1⟩ := q_228 h (l := i3 3) (u := i3 8) (by decide +kernel) (by decide +kernel)
  unfold pSide
  rw [c8, e1, Option.bind_some, if_neg c0]
  dsimp only
  rw [jnE, bP_if]
  refine PM.u ?_ u1
  by_cases c2 : inN b (adv b n t.2.2) (i3 3) (i3 8)
  · have k1 := y1 c2
    have hk := ok_uD k1.2.2.2.2.1 (Int32.not_lt.mp c0) (Int32.not_lt.mp c2.2.1) (Int32.not_lt.mp c2.2.2)
    obtain ⟨k2, u2⟩ := k1.wg hk
    have a0 := a_65 k1 (i := 0) (by omega)
    rw [if_pos c2, if_pos c2, a0.1, Option.bind_some, show (Int32.ofInt 0) = i3 ((0 : Nat) : Int) from rfl, a0.2, Option.bind_some, lg_set _ (by rw [h.2.2.2.2.2.2]; omega), if_pos rfl]
    dsimp only
    rw [p_9, Option.bind_some, rB_bP, Option.bind_some, k1.2.2.2.1, bP_t c2]
    exact ⟨_, rfl, u2, fun _ => ⟨_, k2⟩, fun e => (by cases e)⟩
  · have g9 : gI (H s1) 8 44 9 = some (sD (md s1 44)) := rfl
    rw [if_neg c2, if_neg c2, g9, Option.bind_some]
    dsimp only
    rw [p_9, Option.bind_some, rB_bP, Option.bind_some, bP_f c2, show uD (md s1 44) (sD (md s1 44)) = md s1 44 from rfl, wM_id]
    exact ⟨s1, rfl, uu.refl s1, fun e => (by cases e), fun _ => n1 c2⟩
theorem m_tree (h : rst s b n t g d) (c0 : ¬ i3 12 ≤ tN g) : PM s b n ((m_228 44 (Int32.ofInt 0) (Int32.ofInt 5) (H s)).bind fun q32 => jn (fun (v33 : tH) => (rB (Int32.ofInt 0)).bind fun y35 => some (y35, v33)) (fun j34 => if q32.1 = 0 then j34 q32.2 else (m_229 44 (Int32.ofInt 1) q32.2).bind fun q36 => if q36.1 = 0 then j34 q36.2 else (m_227 44 (Int32.ofInt 2) (Int32.ofInt 0) (Int8.ofInt 9).toInt32 q36.2).bind fun q37 => if q37.1 = 0 then j34 q37.2 else (gN q37.2 8 44 24).bind fun o38 => (aI q37.2 o38 (Int32.ofInt 0)).bind fun x39 => (gN q37.2 8 44 24).bind fun o40 => (aI q37.2 o40 (Int32.ofInt 1)).bind fun x41 => (gN q37.2 8 44 24).bind fun o42 => (aI q37.2 o42 (Int32.ofInt 2)).bind fun x43 => (m_212 44 x39 x41 x43 q37.2).bind fun th44 => (rB (Int32.ofInt 1)).bind fun y45 => some (y45, th44))) (pTree b n g t w) := by
  have c9 : (Int8.ofInt 9).toInt32 = i3 9 := by decide +kernel
  have hd := h.2.2.2.2.2.2
  obtain ⟨s1, e1, u1, y1, n1⟩ := q_228 h (l := i3 0) (u := i3 5) z0 (by decide +kernel)
  unfold pTree
  rw [c9, e1, Option.bind_some, if_neg c0]
  dsimp only
  rw [jnE, bP_if]
  refine PM.u ?_ u1
  unfold pTree1
  generalize adv b n t.2.2 = t1 at y1 n1
  have fail : ∀ (s' : St) (t' : Tk), fi s' 44 23 = i3 (t'.2.1 : Int) → PM s' b n ((rB (Int32.ofInt 0)).bind fun y35 => some (y35, H s')) (false, g, t', w) := fun s' t' e => ⟨s', rfl, uu.refl s', fun e => (by cases e), fun _ => e⟩
  by_cases c1 : inN b t1 (i3 0) (i3 5)
  · have k1 := y1 c1
    obtain ⟨s2, e2, u2, y2, n2⟩ := q_229 k1 (i := 1) (by omega)
    have e2' : m_229 44 (Int32.ofInt 1) (H s1) = _ := e2
    rw [if_pos c1, if_pos c1, e2', Option.bind_some]
    dsimp only
    rw [bP_if]
    refine PM.u ?_ u2
    unfold pTree2
    generalize adv b n t1.2.2 = t2 at y2 n2
    by_cases c2 : inN b t2 (i3 0) (cc g - i3 1) ∧ tIn g (num b t2) = i3 (-1)
    · have k2 := y2 c2
      obtain ⟨s3, e3, u3, y3, n3⟩ := q_227 k2 (i := 2) (by omega) (l := i3 0) (u := i3 9) z0 (by decide +kernel)
      have e3' : m_227 44 (Int32.ofInt 2) (Int32.ofInt 0) (i3 9) (H s2) = _ := e3
      rw [if_pos c2, if_pos c2.1, if_pos c2.2, e3', Option.bind_some]
      dsimp only
      rw [bP_if]
      refine PM.u ?_ u3
      unfold pTree3
      generalize adv b n t2.2.2 = t3 at y3 n3
      by_cases c3 : inN b t3 (i3 0) (i3 9)
      · have k3 := y3 c3
        have hk := ok_addT k3.2.2.2.2.1 c0 (a := num b t3) ⟨c1.2.1, Int32.not_lt.mp c1.2.2⟩ (in_cl k3.2.2.2.2.1 c2.1) c2.2
        obtain ⟨k4, u4⟩ := k3.wg hk
        have l3 : ((d.set 0 (num b t1)).set 1 (num b t2)).length = 3 := by rw [List.length_set, List.length_set]; exact hd
        have l2 : (d.set 0 (num b t1)).length = 3 := by rw [List.length_set]; exact hd
        have v0 : lg (((d.set 0 (num b t1)).set 1 (num b t2)).set 2 (num b t3)) 0 = num b t1 := by
          rw [lg_set _ (by omega), if_neg (by omega), lg_set _ (by omega), if_neg (by omega), lg_set _ (by omega), if_pos rfl]
        have v1 : lg (((d.set 0 (num b t1)).set 1 (num b t2)).set 2 (num b t3)) 1 = num b t2 := by
          rw [lg_set _ (by omega), if_neg (by omega), lg_set _ (by omega), if_pos rfl]
        have v2 : lg (((d.set 0 (num b t1)).set 1 (num b t2)).set 2 (num b t3)) 2 = num b t3 := by
          rw [lg_set _ (by omega), if_pos rfl]
        have a0 := a_65 k3 (i := 0) (by omega)
        have a1 := a_65 k3 (i := 1) (by omega)
        have a2 := a_65 k3 (i := 2) (by omega)
        rw [v0] at a0
        rw [v1] at a1
        rw [v2] at a2
        have a0' : aI (H s3) 65 (Int32.ofInt 0) = _ := a0.2
        have a1' : aI (H s3) 65 (Int32.ofInt 1) = _ := a1.2
        have a2' : aI (H s3) 65 (Int32.ofInt 2) = _ := a2.2
        rw [if_pos c3, if_pos c3, a0.1, Option.bind_some, a0', Option.bind_some, Option.bind_some, a1', Option.bind_some, Option.bind_some, a2', Option.bind_some, q_212 k3.ok (by rw [k3.2.2.2.1]; exact c0), Option.bind_some, k3.2.2.2.1]
        exact ⟨_, rfl, u4, fun _ => ⟨_, k4⟩, fun e => (by cases e)⟩
      · rw [if_neg c3, if_neg c3]
        exact fail s3 t3 (n3 c3)
    · rw [if_neg c2]
      by_cases c2' : inN b t2 (i3 0) (cc g - i3 1)
      · rw [if_pos c2', if_neg (fun e => c2 ⟨c2', e⟩)]
        exact fail s2 t2 (n2 c2)
      · rw [if_neg c2']
        exact fail s2 t2 (n2 c2)
  · rw [if_neg c1, if_neg c1]
    exact fail s1 t1 (n1 c1)
theorem m_fell (h : rst s b n t g d) (c0 : fel g) : PM s b n ((gI (H s) 8 44 10).bind fun x17 => (pI (H s) 8 44 10 (x17 - (Int32.ofInt 1))).bind fun th18 => (m_224 44 th18).bind fun th19 => (rB (Int32.ofInt 1)).bind fun y20 => some (y20, th19)) (pFell b n g t w) := by
  have hk := ok_fell h.2.2.2.2.1 c0
  obtain ⟨k1, u1⟩ := h.wg hk
  obtain ⟨s2, e2, k2, u2⟩ := k1.look
  have e2' : m_224 44 (H (wM s 44 (uT g (tN g - Int32.ofInt 1)))) = _ := e2
  unfold pFell
  rw [if_pos c0, (g_20 h).2.2.1, Option.bind_some, p_10, Option.bind_some, h.2.2.2.1, e2', Option.bind_some]
  exact ⟨s2, rfl, u1.trans u2, fun _ => ⟨_, k2⟩, fun e => (by cases e)⟩
/-- a tree's number, as the reference sees it -/
theorem num_T (hg : ok g) (c1 : t.1 = i3 2) : isT g (numM b t) ↔ inN b t (i3 0) (tN g - i3 1) := by
  rw [← num_eq z0 (tN_m1 hg) c1]
  exact (pred_iff hg.nk).symm
theorem q_231 (h : rst s b n t g d) : PM s b n (m_231 44 (H s)) (pMove1 b n g (adv b n t.2.2) w) := by
  obtain ⟨s1, e1, k1, u1⟩ := h.look
  have hd := h.2.2.2.2.2.2
  unfold m_231
  rw [(r_m s).1, Option.bind_some, e1, Option.bind_some]
  refine PM.u ?_ u1
  generalize adv b n t.2.2 = t1 at k1
  have hg := k1.2.2.2.2.1
  obtain ⟨g20, g22, g10, -⟩ := g_20 k1
  have fail : ∀ (s' : St) (t' : Tk), fi s' 44 23 = i3 (t'.2.1 : Int) → PM s' b n ((rB (Int32.ofInt 0)).bind fun y35 => some (y35, H s')) (false, g, t', w) := fun s' t' e => ⟨s', rfl, uu.refl s', fun e => (by cases e), fun _ => e⟩
  have go : ¬ (inN b t1 (i3 0) (tN g - i3 1) ∧ kOf (kA g (num b t1)) (i3 1)) → PM s1 b n ((gI (H s1) 8 44 10).bind fun x5 => (m_227 44 (Int32.ofInt 0) (Int32.ofInt 0) (x5 - (Int32.ofInt 1)) (H s1)).bind fun q6 => jn (fun (v7 : tH) => (rB (Int32.ofInt 0)).bind fun y9 => some (y9, v7)) (fun j8 => if q6.1 = 0 then j8 q6.2 else (m_229 44 (Int32.ofInt 1) q6.2).bind fun q10 => if q10.1 = 0 then j8 q10.2 else (gN q10.2 8 44 12).bind fun o11 => (gN q10.2 8 44 24).bind fun o12 => (aI q10.2 o12 (Int32.ofInt 0)).bind fun x13 => (gN q10.2 8 44 24).bind fun o14 => (aI q10.2 o14 (Int32.ofInt 1)).bind fun x15 => (sI q10.2 o11 x13 x15).bind fun th16 => (rB (Int32.ofInt 1)).bind fun y17 => some (y17, th16))) (pMove1 b n g t1 w) := fun hf => by
    obtain ⟨s2, e2, u2, y2, n2⟩ := q_227 k1 (i := 0) (by omega) (l := i3 0) (u := tN g - i3 1) z0 (tN_m1 hg)
    have e2' : m_227 44 (Int32.ofInt 0) (Int32.ofInt 0) (tN g - Int32.ofInt 1) (H s1) = _ := e2
    unfold pMove1
    rw [g10, Option.bind_some, e2', Option.bind_some]
    dsimp only
    rw [jnE, bP_if]
    refine PM.u ?_ u2
    by_cases c1 : inN b t1 (i3 0) (tN g - i3 1)
    · have hT := in_T hg c1
      have k2 := y2 c1
      obtain ⟨s3, e3, u3, y3, n3⟩ := q_229 k2 (i := 1) (by omega)
      have e3' : m_229 44 (Int32.ofInt 1) (H s2) = _ := e3
      rw [if_pos c1, if_pos c1, if_neg (fun e => hf ⟨c1, e⟩), e3', Option.bind_some]
      dsimp only
      rw [bP_if]
      refine PM.u ?_ u3
      unfold pMove2
      generalize adv b n t1.2.2 = t2 at y3 n3
      by_cases c2 : inN b t2 (i3 0) (cc g - i3 1) ∧ tIn g (num b t2) = i3 (-1)
      · have k3 := y3 c2
        have hk := ok_mvT k3.2.2.2.2.1 hT (in_cl k3.2.2.2.2.1 c2.1) c2.2
        obtain ⟨k4, u4⟩ := k3.wg hk
        have l2 : (d.set 0 (num b t1)).length = 3 := by rw [List.length_set]; exact hd
        have v0 : lg ((d.set 0 (num b t1)).set 1 (num b t2)) 0 = num b t1 := by
          rw [lg_set _ (by omega), if_neg (by omega), lg_set _ (by omega), if_pos rfl]
        have v1 : lg ((d.set 0 (num b t1)).set 1 (num b t2)) 1 = num b t2 := by
          rw [lg_set _ (by omega), if_pos rfl]
        have a0 := a_65 k3 (i := 0) (by omega)
        have a1 := a_65 k3 (i := 1) (by omega)
        rw [v0] at a0
        rw [v1] at a1
        have a0' : aI (H s3) 65 (Int32.ofInt 0) = _ := a0.2
        have a1' : aI (H s3) 65 (Int32.ofInt 1) = _ := a1.2
        have hl := hg.tl hT
        have hn := hg.n_le
        have e4 := sI62 s3 (t := num b t1) (x := num b t2) hT.1 (by rw [k3.2.2.2.1, hg.2.2.2.1.2.1]; omega)
        rw [k3.2.2.2.1] at e4
        rw [if_pos c2, if_pos c2.1, if_pos c2.2, (r_g s3).2.2.2.2.2.2.1, Option.bind_some, a0.1, Option.bind_some, a0', Option.bind_some, Option.bind_some, a1', Option.bind_some, e4, Option.bind_some]
        exact ⟨_, rfl, u4, fun _ => ⟨_, k4⟩, fun e => (by cases e)⟩
      · rw [if_neg c2]
        by_cases c2' : inN b t2 (i3 0) (cc g - i3 1)
        · rw [if_pos c2', if_neg (fun e => c2 ⟨c2', e⟩)]
          exact fail s3 t2 (n3 c2)
        · rw [if_neg c2']
          exact fail s3 t2 (n3 c2)
    · rw [if_neg c1, if_neg c1]
      exact fail s2 t1 (n2 c1)
  rw [g20, Option.bind_some, jnE]
  by_cases c1 : t1.1 = i3 2
  · have P := num_T (b := b) hg c1
    rw [if_pos (show t1.1 = Int32.ofInt 2 from c1), g22, Option.bind_some, q_191 k1.ok, Option.bind_some, bP_if, k1.2.2.2.1]
    by_cases c2 : inN b t1 (i3 0) (tN g - i3 1)
    · have en := num_M z0 c2
      have hT := in_T hg c2
      rw [if_pos (P.mpr c2), Option.bind_some, q_197 k1.ok (by rw [k1.2.2.2.1, en]; exact hT), Option.bind_some, bP_if, k1.2.2.2.1, en]
      by_cases c3 : kOf (kA g (num b t1)) (i3 1)
      · rw [if_pos c3]
        unfold pMove1
        rw [if_pos c2, if_pos c3]
        exact k1.no
      · rw [if_neg c3]
        exact go (fun e => c3 e.2)
    · rw [if_neg (fun e => c2 (P.mp e))]
      exact go (fun e => c2 e.1)
  · rw [if_neg (show ¬ t1.1 = Int32.ofInt 2 from c1)]
    exact go (fun e => c1 e.1.1)
end MRD
