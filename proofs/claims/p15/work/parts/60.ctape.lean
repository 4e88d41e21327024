/-! ===== gardens read from the tape: what is read ===== -/
noncomputable def wl (w : Nat) : List Int32 := t_byt.getD w []
abbrev wrd (b : List Int32) (t : Tk) (w : Nat) : Prop := t.2.2 - t.2.1 = 4 ∧ fst? (fun i => decide (¬ bt b (t.2.1 + i) = (wl w).getD i 0)) 4 0 = none
abbrev inN (b : List Int32) (t : Tk) (l h : Int32) : Prop := t.1 = i3 2 ∧ ¬ num b t < l ∧ ¬ h < num b t
abbrev PR : Type := Bool × Gd × Tk × Int32
noncomputable def pSide (b : List Int32) (n : Nat) (g : Gd) (t : Tk) (w : Int32) : PR := if 0 < tN g then (false, g, t, w) else if inN b (adv b n t.2.2) (i3 3) (i3 8) then (true, uD g (num b (adv b n t.2.2)), adv b n (adv b n t.2.2).2.2, w) else (false, g, adv b n t.2.2, w)
noncomputable def pTree3 (b : List Int32) (n : Nat) (g : Gd) (k c : Int32) (t : Tk) (w : Int32) : PR := if inN b t (i3 0) (i3 9) then (true, addT g k c (num b t), adv b n t.2.2, w) else (false, g, t, w)
noncomputable def pTree2 (b : List Int32) (n : Nat) (g : Gd) (k : Int32) (t : Tk) (w : Int32) : PR := if inN b t (i3 0) (cc g - i3 1) then if tIn g (num b t) = i3 (-1) then pTree3 b n g k (num b t) (adv b n t.2.2) w else (false, g, t, w) else (false, g, t, w)
noncomputable def pTree1 (b : List Int32) (n : Nat) (g : Gd) (t : Tk) (w : Int32) : PR := if inN b t (i3 0) (i3 5) then pTree2 b n g (num b t) (adv b n t.2.2) w else (false, g, t, w)
noncomputable def pTree (b : List Int32) (n : Nat) (g : Gd) (t : Tk) (w : Int32) : PR := if i3 12 ≤ tN g then (false, g, t, w) else pTree1 b n g (adv b n t.2.2) w
/-- the rounds of a wish: so many left, so many told, the set, the token ahead -/
noncomputable def pWl (b : List Int32) (n : Nat) (g : Gd) : Nat → Nat → Int32 → Tk → Bool × Int32 × Tk
  | 0, _, m, t => (true, m, t)
  | f + 1, k, m, t => if k < 3 ∨ (adv b n t.2.2).1 = i3 2 then if inN b (adv b n t.2.2) (i3 0) (tN g - i3 1) then if (m &&& bit (num b (adv b n t.2.2))) = 0 then pWl b n g f (k + 1) (m ||| bit (num b (adv b n t.2.2))) (adv b n t.2.2) else (false, m, adv b n t.2.2) else (false, m, adv b n t.2.2) else (true, m, adv b n t.2.2)
noncomputable def pWish (b : List Int32) (n : Nat) (g : Gd) (t : Tk) (w : Int32) : PR := if wN g < i3 8 then if (pWl b n g 13 0 (i3 0) t).1 = true then (true, addW g (pWl b n g 13 0 (i3 0) t).2.1, (pWl b n g 13 0 (i3 0) t).2.2, w) else (false, g, (pWl b n g 13 0 (i3 0) t).2.2, w) else (false, g, t, w)
noncomputable def pMove2 (b : List Int32) (n : Nat) (g : Gd) (u : Int32) (t : Tk) (w : Int32) : PR := if inN b t (i3 0) (cc g - i3 1) then if tIn g (num b t) = i3 (-1) then (true, mvT g u (num b t), adv b n t.2.2, w) else (false, g, t, w) else (false, g, t, w)
noncomputable def pMove1 (b : List Int32) (n : Nat) (g : Gd) (t : Tk) (w : Int32) : PR := if inN b t (i3 0) (tN g - i3 1) then if kOf (kA g (num b t)) (i3 1) then (false, g, t, w) else pMove2 b n g (num b t) (adv b n t.2.2) w else (false, g, t, w)
noncomputable def pFell (b : List Int32) (n : Nat) (g : Gd) (t : Tk) (w : Int32) : PR := if fel g then (true, uT g (tN g - i3 1), adv b n t.2.2, mnI w (tN g - i3 1)) else (false, g, t, w)
noncomputable def pStm (b : List Int32) (n : Nat) (g : Gd) (t : Tk) (w : Int32) : PR := if wrd b t 0 then pSide b n g t w else if wrd b t 1 then pTree b n g t w else if wrd b t 2 then pWish b n g t w else if wrd b t 3 then pMove1 b n g (adv b n t.2.2) w else if wrd b t 4 then pFell b n g t w else (false, g, t, w)
/-- all statements: whether, how many (or the fault), the garden, the fewest trees -/
noncomputable def pAl (b : List Int32) (n : Nat) : Nat → Nat → Gd → Tk → Int32 → Bool × Nat × Gd × Int32
  | 0, _, g, t, w => (false, t.2.1, g, w)
  | f + 1, k, g, t, w => if t.1 = i3 1 then if (pStm b n g t w).1 = true then if (pStm b n g t w).2.2.1.1 = i3 0 then (true, k, (pStm b n g t w).2.1, (pStm b n g t w).2.2.2) else if (pStm b n g t w).2.2.1.1 = i3 3 then pAl b n f (k + 1) (pStm b n g t w).2.1 (adv b n (pStm b n g t w).2.2.1.2.2) (pStm b n g t w).2.2.2 else (false, (pStm b n g t w).2.2.1.2.1, g, w) else (false, (pStm b n g t w).2.2.1.2.1, g, w) else (false, t.2.1, g, w)
/-! ===== gardens read stay gardens ===== -/
noncomputable def gw (g : Gd) (w : Int32) : Prop := ok g ∧ ¬ w < 0 ∧ w ≤ tN g
theorem num_nn {b : List Int32} {t : Tk} {h : Int32} (c : inN b t (i3 0) h) : ¬ num b t < 0 := c.2.1
theorem le_of_sub {x y : Int32} (h0 : ¬ x < 0) (hy : ∃ k : Nat, 0 < k ∧ k < 1000 ∧ y = i3 (k : Int)) (h : ¬ y - i3 1 < x) : ¬ y ≤ x := by
  obtain ⟨k, k0, k1, rfl⟩ := hy
  rw [i3_nat_sub k0] at h
  rw [Int32.lt_iff_toInt_lt, i3_toInt ⟨by omega, by omega⟩] at h
  rw [Int32.le_iff_toInt_le, i3_toInt ⟨by omega, by omega⟩]
  omega
theorem in_cl {g : Gd} (h : ok g) {b : List Int32} {t : Tk} (c : inN b t (i3 0) (cc g - i3 1)) : isCl g (num b t) := by
  have h1 := h.d_ge
  have h2 := h.cc_le
  have h3 : 9 ≤ dn g * dn g := Nat.mul_le_mul h1 h1
  exact ⟨c.2.1, le_of_sub c.2.1 ⟨dn g * dn g, by omega, by omega, h.cc_eq⟩ c.2.2⟩
theorem in_T {g : Gd} (h : ok g) {b : List Int32} {t : Tk} (c : inN b t (i3 0) (tN g - i3 1)) : isT g (num b t) := by
  have hn := h.n_le
  refine ⟨c.2.1, ?_⟩
  by_cases e : nn g = 0
  · have e1 : tN g - i3 1 = i3 (-1) := by
      rw [h.n_eq, e]; decide +kernel
    have := c.2.2
    rw [e1] at this
    exact absurd (m1_lt c.2.1) this
  · exact le_of_sub c.2.1 ⟨nn g, by omega, by omega, h.n_eq⟩ c.2.2
theorem mask_T {g : Gd} (h : ok g) {x : Int32} (hx : isT g x) : ∃ k : Nat, k < nn g ∧ x = i3 (k : Int) := ⟨_, h.tl hx, i3_cl hx.1⟩
theorem pWl_ok {b : List Int32} {n : Nat} {g : Gd} (h : ok g) : ∀ (f k : Nat) (m : Int32) (t : Tk) (M : Nat), f + k = 13 → M < 2 ^ nn g → m = i3 (M : Int) → pc M = k → (pWl b n g f k m t).1 = true → st3 g (pWl b n g f k m t).2.1
  | 0, k, m, t, M, hf, hM, hm, hp, _ => by
    have := cb_le (fun t => M.testBit t) 12
    have h2 : pc M ≤ 12 := this
    omega
  | f + 1, k, m, t, M, hf, hM, hm, hp, ht => by
    have hn := h.n_le
    have hp2 := p12 hn
    unfold pWl at ht ⊢
    by_cases c1 : k < 3 ∨ (adv b n t.2.2).1 = i3 2
    · rw [if_pos c1] at ht ⊢
      by_cases c2 : inN b (adv b n t.2.2) (i3 0) (tN g - i3 1)
      · rw [if_pos c2] at ht ⊢
        by_cases c3 : (m &&& bit (num b (adv b n t.2.2))) = 0
        · rw [if_pos c3] at ht ⊢
          obtain ⟨j, hj, ej⟩ := mask_T h (in_T h c2)
          rw [ej, hm] at c3
          have hb := (and_bit (by omega) (by omega)).mp c3
          refine pWl_ok h f (k + 1) _ _ (M ||| 2 ^ j) (by omega) (or_lt hM hj) ?_ ?_ ht
          · rw [hm, ej, bit_eq (by omega), i3_or]
          · rw [pc_or (by omega) hb, hp]
        · rw [if_neg c3] at ht; cases ht
      · rw [if_neg c2] at ht; cases ht
    · rw [if_neg c1]
      exact (st3_iff h _).mpr ⟨M, hM, hm, by omega⟩
theorem pStm_ok {b : List Int32} {n : Nat} {g : Gd} {t : Tk} {w : Int32} (h : gw g w) : gw (pStm b n g t w).2.1 (pStm b n g t w).2.2.2 := by
  obtain ⟨hk, w0, w1⟩ := h
  have hg : gw g w := ⟨hk, w0, w1⟩
  unfold pStm
  split
  · unfold pSide
    split
    · exact hg
    · rename_i c1
      split
      · rename_i c2
        refine ⟨ok_uD hk (Int32.not_lt.mp c1) (Int32.not_lt.mp c2.2.1) (Int32.not_lt.mp c2.2.2), w0, w1⟩
      · exact hg
  split
  · unfold pTree
    split
    · exact hg
    · rename_i c0
      unfold pTree1
      split
      · rename_i c1
        unfold pTree2
        split
        · rename_i c2
          split
          · rename_i c3
            unfold pTree3
            split
            · refine ⟨ok_addT hk c0 ⟨c1.2.1, Int32.not_lt.mp c1.2.2⟩ (in_cl hk c2) c3, w0, ?_⟩
              have n1 := hk.n_le
              have n2 : nn g < 12 := by
                rw [hk.n_eq, show i3 12 = i3 ((12 : Nat) : Int) from rfl, i3n_le (by omega) (by omega)] at c0
                omega
              have e : tN g + i3 1 = i3 ((nn g + 1 : Nat) : Int) := by rw [hk.n_eq]; exact i3_nat_add _
              show w ≤ tN g + i3 1
              rw [e]
              rw [hk.n_eq] at w1
              rw [Int32.le_iff_toInt_le, i3_toInt ⟨by omega, by omega⟩] at w1 ⊢
              omega
            · exact hg
          · exact hg
        · exact hg
      · exact hg
  split
  · unfold pWish
    split
    · rename_i c1
      split
      · rename_i c2
        exact ⟨ok_addW hk (not8 c1) (pWl_ok hk 13 0 (i3 0) t 0 rfl (Nat.two_pow_pos _) rfl rfl c2), w0, w1⟩
      · exact hg
    · exact hg
  split
  · unfold pMove1
    split
    · rename_i c1
      split
      · exact hg
      · unfold pMove2
        split
        · rename_i c2
          split
          · rename_i c3
            exact ⟨ok_mvT hk (in_T hk c1) (in_cl hk c2) c3, w0, w1⟩
          · exact hg
        · exact hg
    · exact hg
  split
  · unfold pFell
    split
    · rename_i c1
      have h1 := ok_fell hk c1
      refine ⟨h1, ?_, ?_⟩
      · show ¬ mnI w (tN g - i3 1) < 0
        unfold mnI
        split
        · exact h1.2.1.1
        · exact w0
      · show mnI w (tN g - i3 1) ≤ tN g - i3 1
        unfold mnI
        split
        · exact Int32.le_refl _
        · rename_i c2
          exact Int32.not_lt.mp c2
    · exact hg
  exact hg
/-- tokens that were read -/
noncomputable def tkO (b : List Int32) (n : Nat) (t : Tk) : Prop := ∃ e, e ≤ n ∧ t = adv b n e
theorem tkO.bd {b : List Int32} {n : Nat} {t : Tk} (h : tkO b n t) : t.2.1 ≤ t.2.2 ∧ t.2.2 ≤ n ∧ (¬ t.1 = i3 0 → t.2.1 < t.2.2) := by
  obtain ⟨e, he, rfl⟩ := h
  exact (adv_bd he).2
theorem tkO.nx {b : List Int32} {n : Nat} {t : Tk} (h : tkO b n t) : tkO b n (adv b n t.2.2) := ⟨t.2.2, h.bd.2.1, rfl⟩
section CT
variable {s : St} {b : List Int32} {n : Nat}
theorem q_177 {w : Nat} (h1 : 1001 ≤ w) (h2 : w < 1011) (th : tH) : m_177 w th = some (i3 4) := by
  have xs : xS w = some () := if_pos ⟨h1, h2⟩
  have al : aL th (w + 20) = some (Int32.ofNat 4) := by
    unfold aL
    rw [if_neg (by omega), if_pos (by omega)]
  have cd : m_179 w th = some 0 := by
    unfold m_179
    simp only [xs, Option.bind_some, jn]
    rfl
  unfold m_177
  rw [xs, Option.bind_some, Option.bind_some, al, Option.bind_some, cd]
  rfl
theorem q_178 {w i : Nat} (h1 : w < 10) (hi : i < 4) (th : tH) : m_178 (1001 + w) (i3 (i : Int)) th = some ((wl w).getD i 0) := by
  have xs : xS (1001 + w) = some () := if_pos (by omega)
  have al : aL th (1001 + w + 20) = some (Int32.ofNat 4) := by
    unfold aL
    rw [if_neg (by omega), if_pos (by omega)]
  have e0 : ¬ i3 (i : Int) < 0 := i3n_nneg (by omega)
  have e4 : i3 (i : Int) < Int32.ofNat 4 := by
    rw [i3_nat, i3n_lt (by omega) (by omega)]; exact hi
  have ab : aB (1001 + w + 20) (i3 (i : Int)) = some ((wl w).getD i 0) := by
    unfold aB wl
    rw [if_pos ⟨by omega, e0⟩, cl_i3 (by omega), show 1001 + w + 20 - 1021 = w by omega]
    have : ∀ w, w < 10 → ∀ i, i < 4 → (t_byt.getD w [])[i]? = some ((t_byt.getD w []).getD i 0) := by decide +kernel
    exact this w h1 i hi
  have rc : rC (Int32.toUInt32 ((wl w).getD i 0 &&& (Int16.ofInt 255).toInt32) % 65536).toInt32 = some ((wl w).getD i 0) := by
    have : ∀ w, w < 10 → ∀ i, i < 4 → rC (Int32.toUInt32 ((t_byt.getD w []).getD i 0 &&& (Int16.ofInt 255).toInt32) % 65536).toInt32 = some ((t_byt.getD w []).getD i 0) := by decide +kernel
    exact this w h1 i hi
  have rc2 : rC ((wl w).getD i 0) = some ((wl w).getD i 0) := by
    have : ∀ w, w < 10 → ∀ i, i < 4 → rC ((t_byt.getD w []).getD i 0) = some ((t_byt.getD w []).getD i 0) := by decide +kernel
    exact this w h1 i hi
  have m180 : m_180 (1001 + w) th = some (i3 1) := by
    unfold m_180
    simp only [xs, Option.bind_some, jn]
    rfl
  have m182 : m_182 (1001 + w + 20) (i3 (i : Int)) th = some ((wl w).getD i 0) := by
    unfold m_182 m_181 m_183
    simp only [al, Option.bind_some, jn, if_neg e0, if_pos e4, ab, rc]
  unfold m_178
  rw [xs, Option.bind_some, m180, Option.bind_some, if_neg e1_0, Option.bind_some, m182, Option.bind_some, rc2]
theorem q_168 (h : tpC s b n) {t : Tk} (ht : tkC s b t) (hb : t.2.1 ≤ t.2.2 ∧ t.2.2 ≤ n) {w : Nat} (hw : w < 10) : m_168 24 (1001 + w) (H s) = some (bP (wrd b t w)) := by
  have hn := h.2.2.2
  have g5 : gI (H s) 6 24 5 = some (i3 (t.2.2 : Int)) := by rw [← ht.2.2.1]; rfl
  have g4 : gI (H s) 6 24 4 = some (i3 (t.2.1 : Int)) := by rw [← ht.2.1]; rfl
  have e1 : i3 (t.2.2 : Int) - i3 (t.2.1 : Int) = i3 ((t.2.2 - t.2.1 : Nat) : Int) := by
    rw [i3_sub]; congr 1; omega
  have g0 : gN (H s) 6 24 0 = some 25 := rfl
  have a0 : ∀ i, aI (H s) 25 i = at32 (ia s 25) i := fun i => aI_of rfl
  unfold m_168
  rw [(r_T s).1, Option.bind_some, g5, Option.bind_some, g4, Option.bind_some, q_177 (by omega) (by omega), Option.bind_some, e1]
  have e2 : (i3 ((t.2.2 - t.2.1 : Nat) : Int) = i3 4) ↔ t.2.2 - t.2.1 = 4 := i3n_inj (b := 4) (by omega) (by omega)
  by_cases c : t.2.2 - t.2.1 = 4
  · rw [if_pos (e2.mpr c)]
    refine (lpS 4 (by omega) (fun t => t) () (fun i => decide (¬ bt b (t.2.1 + i) = (wl w).getD i 0)) (fun _ => some (i3 0)) ?_ ?_).trans ?_
    · intro k nx ex hk
      have e3 : ¬ i3 4 ≤ i3 (k : Int) := by
        show ¬ i3 ((4 : Nat) : Int) ≤ i3 (k : Int)
        rw [i3n_le (by omega) (by omega)]; omega
      have e4 : i3 (t.2.1 : Int) + i3 (k : Int) = i3 ((t.2.1 + k : Nat) : Int) := by rw [i3_add]; rfl
      rw [Option.bind_some, if_neg e3, g0, Option.bind_some, Option.bind_some, a0, e4, h.at (by omega), Option.bind_some, q_178 hw hk, Option.bind_some]
      simp only [decide_eq_true_eq]
      by_cases d : bt b (t.2.1 + k) = (wl w).getD k 0
      · rw [if_pos d, if_neg (fun e => e d)]
      · rw [if_neg d, if_pos d]
        rfl
    · intro nx ex
      have e3 : i3 4 ≤ i3 ((4 : Nat) : Int) := by decide +kernel
      rw [Option.bind_some, if_pos e3]
    · refine (mat_bP (p := fun i => decide (¬ bt b (t.2.1 + i) = (wl w).getD i 0)) (n := 4) (l := 0)).trans ?_
      unfold bP wrd
      simp only [c, true_and]
  · rw [if_neg (fun e => c (e2.mp e)), bP_f (fun e => c e.1)]
    rfl
theorem q_167 {t : Tk} (ht : tkC s b t) (l u : Int32) : m_167 24 l u (H s) = some (bP (inN b t l u)) := by
  have g3 : gI (H s) 6 24 3 = some t.1 := by rw [← ht.1]; rfl
  have g6 : gI (H s) 6 24 6 = some (num b t) := by rw [← ht.2.2.2]; rfl
  unfold m_167
  rw [(r_T s).1, Option.bind_some, g3, Option.bind_some]
  unfold jn
  dsimp only
  by_cases c1 : t.1 = i3 2
  · rw [if_pos c1, g6, Option.bind_some]
    by_cases c2 : num b t < l
    · rw [if_pos c2, bP_f (fun e => e.2.1 c2)]; rfl
    · rw [if_neg c2, Option.bind_some]
      by_cases c3 : u < num b t
      · rw [if_pos c3, bP_f (fun e => e.2.2 c3)]; rfl
      · rw [if_neg c3, bP_t ⟨c1, c2, c3⟩]; rfl
  · rw [if_neg c1, bP_f (fun e => c1 e.1)]; rfl
/-- where the class stands in its tape: token, draft, fewest trees -/
noncomputable def cst6 (s : St) (b : List Int32) (n : Nat) (t : Tk) (g : Gd) (w : Int32) : Prop := tpC s b n ∧ tkC s b t ∧ tkO b n t ∧ gd s 6 = g ∧ ok g ∧ fi s 24 2 = w
theorem tpC.q {s s' : St} (h : tpC s b n) (q : qq s s') : tpC s' b n := ⟨(q.1 25 (by unfold qA sA; omega)).trans h.1, h.2.1, (q.2.2.1 24 1 (by unfold qF sF; omega)).trans h.2.2.1, h.2.2.2⟩
theorem q_169' {t : Tk} {g : Gd} {w : Int32} (h : cst6 s b n t g w) : ∃ s', m_169 24 (H s) = some (H s') ∧ cst6 s' b n (adv b n t.2.2) g w ∧ qq s s' ∧ eT s s' := by
  obtain ⟨h1, h2, h3, h4, h5, h6⟩ := h
  obtain ⟨s', e, k, et⟩ := q_169 h1 h3.bd.2.1 h2.2.2.1
  exact ⟨s', e, ⟨h1.q et.q, k, h3.nx, et.g6.trans h4, h5, (et.2.2.1 24 2 (by omega)).trans h6⟩, et.q, et⟩
theorem q_166 {t : Tk} {g : Gd} {w : Int32} (h : cst6 s b n t g w) (l u : Int32) : ∃ s', m_166 24 l u (H s) = some (bP (inN b (adv b n t.2.2) l u), H s') ∧ cst6 s' b n (adv b n t.2.2) g w ∧ qq s s' := by
  obtain ⟨s', e, k, q, -⟩ := q_169' h
  refine ⟨s', ?_, k, q⟩
  unfold m_166
  rw [(r_T s).1, Option.bind_some, e, Option.bind_some, q_167 k.2.1, Option.bind_some, rB_bP]
  rfl
end CT
