/-! ===== a whole garden is read (class) ===== -/
theorem pStm_tk {b : List Int32} {n : Nat} {g : Gd} {t : Tk} {w : Int32} (h : tkO b n t) : tkO b n (pStm b n g t w).2.2.1 ∧ t.2.1 ≤ (pStm b n g t w).2.2.1.2.1 ∧ ((pStm b n g t w).1 = true → t.2.2 ≤ (pStm b n g t w).2.2.1.2.1) := by
  have A : ∀ {u : Tk}, tkO b n u → tkO b n (adv b n u.2.2) ∧ u.2.1 ≤ (adv b n u.2.2).2.1 ∧ u.2.2 ≤ (adv b n u.2.2).2.1 := fun hu => by
    have h1 := hu.bd
    have h2 := adv_bd (b := b) h1.2.1
    exact ⟨hu.nx, by omega, h2.1⟩
  have hw : ∀ (f k : Nat) (m : Int32) (u : Tk), tkO b n u → tkO b n (pWl b n g f k m u).2.2 ∧ u.2.1 ≤ (pWl b n g f k m u).2.2.2.1 ∧ (0 < f → u.2.2 ≤ (pWl b n g f k m u).2.2.2.1) := by
    intro f
    induction f with
    | zero => exact fun k m u hu => ⟨hu, Nat.le_refl _, fun e => absurd e (Nat.lt_irrefl _)⟩
    | succ f ih =>
      intro k m u hu
      have a := A hu
      unfold pWl
      split
      · split
        · split
          · have i := ih (k + 1) (m ||| bit (num b (adv b n u.2.2))) _ a.1
            exact ⟨i.1, by omega, fun _ => by omega⟩
          · exact ⟨a.1, a.2.1, fun _ => a.2.2⟩
        · exact ⟨a.1, a.2.1, fun _ => a.2.2⟩
      · exact ⟨a.1, a.2.1, fun _ => a.2.2⟩
  have st : tkO b n t ∧ t.2.1 ≤ t.2.1 ∧ (false = true → t.2.2 ≤ t.2.1) := ⟨h, Nat.le_refl _, fun e => by cases e⟩
  have a1 := A h
  have a2 := A a1.1
  have a3 := A a2.1
  have a4 := A a3.1
  have n1 : tkO b n (adv b n t.2.2) ∧ t.2.1 ≤ (adv b n t.2.2).2.1 ∧ (false = true → t.2.2 ≤ (adv b n t.2.2).2.1) := ⟨a1.1, a1.2.1, fun e => by cases e⟩
  have n2 : tkO b n (adv b n (adv b n t.2.2).2.2) ∧ t.2.1 ≤ (adv b n (adv b n t.2.2).2.2).2.1 ∧ (∀ c : Bool, c = true → t.2.2 ≤ (adv b n (adv b n t.2.2).2.2).2.1) := ⟨a2.1, by omega, fun _ _ => by omega⟩
  have n3 : tkO b n (adv b n (adv b n (adv b n t.2.2).2.2).2.2) ∧ t.2.1 ≤ (adv b n (adv b n (adv b n t.2.2).2.2).2.2).2.1 ∧ (∀ c : Bool, c = true → t.2.2 ≤ (adv b n (adv b n (adv b n t.2.2).2.2).2.2).2.1) := ⟨a3.1, by omega, fun _ _ => by omega⟩
  have n4 : tkO b n (adv b n (adv b n (adv b n (adv b n t.2.2).2.2).2.2).2.2) ∧ t.2.1 ≤ (adv b n (adv b n (adv b n (adv b n t.2.2).2.2).2.2).2.2).2.1 ∧ (∀ c : Bool, c = true → t.2.2 ≤ (adv b n (adv b n (adv b n (adv b n t.2.2).2.2).2.2).2.2).2.1) := ⟨a4.1, by omega, fun _ _ => by omega⟩
  unfold pStm
  split
  · unfold pSide
    split
    · exact st
    · split
      · exact ⟨n2.1, n2.2.1, n2.2.2 true⟩
      · exact n1
  split
  · unfold pTree
    split
    · exact st
    · unfold pTree1
      split
      · unfold pTree2
        split
        · split
          · unfold pTree3
            split
            · exact ⟨n4.1, n4.2.1, n4.2.2 true⟩
            · exact ⟨n3.1, n3.2.1, n3.2.2 false⟩
          · exact ⟨n2.1, n2.2.1, n2.2.2 false⟩
        · exact ⟨n2.1, n2.2.1, n2.2.2 false⟩
      · exact n1
  split
  · unfold pWish
    split
    · have i := hw 13 0 (i3 0) t h
      split
      · exact ⟨i.1, i.2.1, fun _ => i.2.2 (by omega)⟩
      · exact ⟨i.1, i.2.1, fun e => by cases e⟩
    · exact st
  split
  · unfold pMove1
    split
    · split
      · exact n1
      · unfold pMove2
        split
        · split
          · exact ⟨n3.1, n3.2.1, n3.2.2 true⟩
          · exact ⟨n2.1, n2.2.1, n2.2.2 false⟩
        · exact ⟨n2.1, n2.2.1, n2.2.2 false⟩
    · exact n1
  split
  · unfold pFell
    split
    · exact ⟨a1.1, a1.2.1, fun _ => a1.2.2⟩
    · exact st
  exact st
/-- so many steps are enough -/
theorem pAl_fuel {b : List Int32} {n : Nat} : ∀ (f k : Nat) (g : Gd) (t : Tk) (w : Int32), tkO b n t → n - t.2.1 ≤ f → pAl b n (f + 1) k g t w = pAl b n f k g t w
  | 0, k, g, t, w, ht, hf => by
    have c : ¬ t.1 = i3 1 := fun e => by
      have := ht.bd.2.2 (by rw [e]; decide +kernel)
      have := ht.bd.2.1
      omega
    show (if t.1 = i3 1 then _ else (false, t.2.1, g, w)) = (false, t.2.1, g, w)
    rw [if_neg c]
  | f + 1, k, g, t, w, ht, hf => by
    rw [pAl]
    conv => rhs; rw [pAl]
    by_cases c : t.1 = i3 1
    · rw [if_pos c, if_pos c]
      by_cases c2 : (pStm b n g t w).1 = true
      · rw [if_pos c2, if_pos c2]
        by_cases c3 : (pStm b n g t w).2.2.1.1 = i3 0
        · rw [if_pos c3, if_pos c3]
        · rw [if_neg c3, if_neg c3]
          by_cases c4 : (pStm b n g t w).2.2.1.1 = i3 3
          · rw [if_pos c4, if_pos c4]
            obtain ⟨k1, k2, k3⟩ := pStm_tk (g := g) (w := w) ht
            have b1 := ht.bd.2.2 (by rw [c]; decide +kernel)
            have b2 := k1.bd
            have b3 := adv_bd (b := b) b2.2.1
            have b4 := k3 c2
            refine pAl_fuel f (k + 1) _ _ _ k1.nx ?_
            omega
          · rw [if_neg c4, if_neg c4]
      · rw [if_neg c2, if_neg c2]
    · rw [if_neg c, if_neg c]
theorem pAl_bd {b : List Int32} {n : Nat} : ∀ (f k : Nat) (g : Gd) (t : Tk) (w : Int32), tkO b n t → gw g w → (pAl b n f k g t w).2.1 ≤ max n (k + f) ∧ ((pAl b n f k g t w).1 = true → gw (pAl b n f k g t w).2.2.1 (pAl b n f k g t w).2.2.2)
  | 0, k, g, t, w, ht, hg => ⟨by have := ht.bd; show t.2.1 ≤ _; omega, fun e => by cases e⟩
  | f + 1, k, g, t, w, ht, hg => by
    have hb := ht.bd
    obtain ⟨k1, k2, k3⟩ := pStm_tk (g := g) (w := w) ht
    have b2 := k1.bd
    have ho := pStm_ok (b := b) (n := n) (t := t) hg
    rw [pAl]
    split
    · split
      · split
        · exact ⟨by show k ≤ _; omega, fun _ => ho⟩
        · split
          · have := pAl_bd f (k + 1) _ (adv b n (pStm b n g t w).2.2.1.2.2) _ k1.nx ho
            exact ⟨by omega, this.2⟩
          · exact ⟨by show (pStm b n g t w).2.2.1.2.1 ≤ _; omega, fun e => by cases e⟩
      · exact ⟨by show (pStm b n g t w).2.2.1.2.1 ≤ _; omega, fun e => by cases e⟩
    · exact ⟨by show t.2.1 ≤ _; omega, fun e => by cases e⟩
/-- what a tape comes to -/
noncomputable def rdG (b : List Int32) (n : Nat) (g : Gd) : Bool × Nat × Gd × Int32 := pAl b n 250 1 g (adv b n 0) (tN g)
noncomputable def vRd (P : Bool × Nat × Gd × Int32) : Int32 := if P.1 = true then i3 (P.2.1 : Int) else i3 (-20) - i3 (P.2.1 : Int)
section CGA
variable {s : St} {b : List Int32} {n : Nat}
theorem q_159 (h : tpC s b n) (hg : ok (gd s 6)) : T (m_159 24 6 (H s)) (fun r => ∃ s', r = (vRd (rdG b n (gd s 6)), H s') ∧ qq s s' ∧ ((rdG b n (gd s 6)).1 = true → gd s' 6 = (rdG b n (gd s 6)).2.2.1 ∧ gw (rdG b n (gd s 6)).2.2.1 (rdG b n (gd s 6)).2.2.2 ∧ fi s' 24 2 = (rdG b n (gd s 6)).2.2.2)) := by
  have gt : gI (H s) 2 6 5 = some (tN (gd s 6)) := rfl
  have p2 : ∀ x, pI (H s) 6 24 2 x = some (H (sf s 24 2 x)) := fun _ => rfl
  have p5 : ∀ (t : St) x, pI (H t) 6 24 5 x = some (H (sf t 24 5 x)) := fun _ _ => rfl
  unfold m_159
  rw [(r_T s).1, Option.bind_some, gt, Option.bind_some, p2, Option.bind_some, p5, Option.bind_some]
  have hT : tpC (sf (sf s 24 2 (tN (gd s 6))) 24 5 (Int32.ofInt 0)) b n := h
  obtain ⟨s1, e1, k1, et⟩ := q_169 hT (e := 0) (Nat.zero_le _) rfl
  rw [e1, Option.bind_some]
  have q0 : qq s (sf (sf s 24 2 (tN (gd s 6))) 24 5 (Int32.ofInt 0)) := ((qq.refl s).f (Or.inl (Or.inr (Or.inr (Or.inr (Or.inl ⟨rfl, by omega⟩)))))).f (Or.inl (Or.inr (Or.inr (Or.inr (Or.inl ⟨rfl, by omega⟩)))))
  have q1 : qq s s1 := q0.trans et.q
  have c1 : cst6 s1 b n (adv b n 0) (gd s 6) (tN (gd s 6)) := ⟨h.q q1, k1, ⟨0, Nat.zero_le _, rfl⟩, et.g6, hg, (et.2.2.1 24 2 (by omega)).trans rfl⟩
  have gw0 : gw (gd s 6) (tN (gd s 6)) := ⟨hg, hg.2.1.1, Int32.le_refl _⟩
  have hbd := (pAl_bd 250 1 (gd s 6) (adv b n 0) (tN (gd s 6)) ⟨0, Nat.zero_le _, rfl⟩ gw0)
  show T _ (fun r => ∃ s', r = (vRd (rdG b n (gd s 6)), H s') ∧ _)
  have c250 : (Int16.ofInt 250).toInt32 = i3 250 := by decide +kernel
  have c20 : (Int8.ofInt (-20)).toInt32 = i3 (-20) := by decide +kernel
  rw [c250, c20]
  unfold rdG
  generalize hP : pAl b n 250 1 (gd s 6) (adv b n 0) (tN (gd s 6)) = P
  have fault : ∀ (s2 : St) (t2 : Tk), qq s s2 → tkC s2 b t2 → P.1 = false → P.2.1 = t2.2.1 → T ((gI (H s2) 6 24 4).bind fun x13 => some ((i3 (-20) - x13), H s2)) (fun r => ∃ s', r = (vRd P, H s') ∧ qq s s' ∧ (P.1 = true → gd s' 6 = P.2.2.1 ∧ gw P.2.2.1 P.2.2.2 ∧ fi s' 24 2 = P.2.2.2)) := fun s2 t2 q2 k2 hp hf => by
    have g4 : gI (H s2) 6 24 4 = some (i3 (t2.2.1 : Int)) := by rw [← k2.2.1]; rfl
    rw [g4, Option.bind_some]
    refine T_some ⟨s2, ?_, q2, fun e => by rw [hp] at e; cases e⟩
    unfold vRd
    rw [hp, hf]
    rfl
  refine lpH 250 (fun k q => ∃ s2 g t w, q = (i3 ((k + 1 : Nat) : Int), H s2) ∧ qq s s2 ∧ cst6 s2 b n t g w ∧ gw g w ∧ pAl b n (250 - k) (k + 1) g t w = P) (fun x => ∃ s2 t2, x = H s2 ∧ qq s s2 ∧ tkC s2 b t2 ∧ P.1 = false ∧ P.2.1 = t2.2.1) ?_ ?_ ?_ ?_ (by omega)
  · rintro k _ hk ⟨s2, g, t, w, rfl, q2, k2, hgw, e2⟩ nx ex hnx hex
    have e250 : ¬ i3 250 < i3 ((k + 1 : Nat) : Int) := by
      show ¬ i3 ((250 : Nat) : Int) < i3 ((k + 1 : Nat) : Int)
      rw [i3n_lt (by omega) (by omega)]; omega
    obtain ⟨f, hf⟩ : ∃ f, 250 - k = f + 1 := ⟨249 - k, by omega⟩
    have hf2 : 250 - (k + 1) = f := by omega
    rw [hf, pAl] at e2
    have g3 : gI (H s2) 6 24 3 = some t.1 := by rw [← k2.2.1.1]; rfl
    dsimp only
    rw [if_neg e250, g3, Option.bind_some]
    unfold jn
    dsimp only
    by_cases d1 : t.1 = i3 1
    · rw [if_pos (show t.1 = Int32.ofInt 1 from d1)]
      rw [if_pos d1] at e2
      obtain ⟨s3, e3, q3, k3⟩ := q_160 k2
      rw [e3, Option.bind_some]
      dsimp only
      have ho := pStm_ok (b := b) (n := n) (t := t) hgw
      generalize pStm b n g t w = r at e2 k3 ho ⊢
      by_cases d2 : r.1 = true
      · rw [if_pos d2] at e2
        rw [d2, if_neg (show ¬ bB true = 0 by decide +kernel)]
        have g33 : gI (H s3) 6 24 3 = some r.2.2.1.1 := by rw [← k3.2.1.1]; rfl
        rw [g33, Option.bind_some]
        by_cases d3 : r.2.2.1.1 = i3 0
        · rw [if_pos (show r.2.2.1.1 = 0 from d3)]
          rw [if_pos d3] at e2
          rw [← e2]
          refine T_some ⟨s3, rfl, q2.trans q3, fun _ => ⟨k3.2.2.2.1, ho, k3.2.2.2.2.2⟩⟩
        · rw [if_neg (show ¬ r.2.2.1.1 = 0 from d3), Option.bind_some]
          rw [if_neg d3] at e2
          by_cases d4 : r.2.2.1.1 = i3 3
          · rw [if_pos (show r.2.2.1.1 = Int32.ofInt 3 from d4)]
            rw [if_pos d4] at e2
            obtain ⟨s4, e4, k4, q4, -⟩ := q_169' k3
            rw [e4, Option.bind_some, i3_nat_add]
            refine hnx _ ⟨s4, _, _, _, rfl, (q2.trans q3).trans q4, k4, ho, ?_⟩
            rw [hf2]
            exact e2
          · rw [if_neg (show ¬ r.2.2.1.1 = Int32.ofInt 3 from d4)]
            rw [if_neg d4] at e2
            exact fault s3 r.2.2.1 (q2.trans q3) k3.2.1 (by rw [← e2]) (by rw [← e2])
      · have d2' : r.1 = false := by simpa using d2
        rw [if_neg d2] at e2
        rw [d2', if_pos (show bB false = 0 by decide +kernel)]
        exact fault s3 r.2.2.1 (q2.trans q3) k3.2.1 (by rw [← e2]) (by rw [← e2])
    · rw [if_neg (show ¬ t.1 = Int32.ofInt 1 from d1)]
      rw [if_neg d1] at e2
      exact fault s2 t q2 k2.2.1 (by rw [← e2]) (by rw [← e2])
  · rintro _ ⟨s2, g, t, w, rfl, q2, k2, hgw, e2⟩ nx ex hex
    have e250 : i3 250 < i3 ((250 + 1 : Nat) : Int) := by decide +kernel
    dsimp only
    rw [if_pos e250]
    refine hex _ ⟨s2, t, rfl, q2, k2.2.1, ?_, ?_⟩
    · rw [← e2]; rfl
    · rw [← e2]; rfl
  · rintro _ ⟨s2, t2, rfl, q2, k2, hp, hf⟩
    exact fault s2 t2 q2 k2 hp hf
  · exact ⟨s1, gd s 6, adv b n 0, tN (gd s 6), rfl, q1, c1, gw0, hP⟩
theorem vRd_pos {P : Bool × Nat × Gd × Int32} (h : P.1 = true) (hb : P.2.1 ≤ 1000) : vRd P = i3 (P.2.1 : Int) ∧ 0 ≤ vRd P := by
  unfold vRd
  rw [if_pos h]
  exact ⟨rfl, Int32.not_lt.mp (i3n_nneg (by omega))⟩
theorem vRd_neg {P : Bool × Nat × Gd × Int32} (h : P.1 = false) (hb : P.2.1 ≤ 1000) : ¬ 0 ≤ vRd P := by
  unfold vRd
  rw [h, if_neg (by decide), i3_sub, Int32.le_iff_toInt_le, i3_toInt ⟨by omega, by omega⟩]
  have e : (0 : Int32).toInt = 0 := by decide +kernel
  omega
noncomputable def gRd (g : Gd) (P : Bool × Nat × Gd × Int32) : Gd := if P.1 = true then P.2.2.1 else g
theorem tape_CI (c : CI s) {l : List Int32} {n : Int32} (hl : l.length = 250) (h0 : ¬ n < 0) (h1 : n ≤ i3 250) : CI (sf (sa s 25 l) 24 1 n) ∧ eM s (sf (sa s 25 l) 24 1 n) ∧ abC (sf (sa s 25 l) 24 1 n) = ((abC s).1, (abC s).2.1, (l, n), (abC s).2.2.2) := by
  refine ⟨?_, ((eM.refl s).a (by omega) (by rw [hl, c.2.2.2.1.1])).f (by omega), ?_⟩
  · obtain ⟨⟨c1, z, l27⟩, c2, c3, c4, c5, c6⟩ := c
    refine ⟨⟨c1, z, l27⟩, c2, c3, ⟨hl, h0, h1⟩, c5, fun k hk => ?_⟩
    have f1 : ∀ j, fi (sf (sa s 25 l) 24 1 n) (28 + 2 * k) j = fi s (28 + 2 * k) j := fun j => by
      rw [fi_sf, if_neg (by omega)]; rfl
    unfold shO
    rw [f1, f1, f1]
    exact c6 k hk
  · unfold abC
    refine Prod.ext rfl (Prod.ext rfl (Prod.ext rfl (funext fun k => ?_)))
    show (if k < 8 then shC (sf (sa s 25 l) 24 1 n) k else none) = if k < 8 then shC s k else none
    split
    · unfold shC
      have f1 : ∀ j, fi (sf (sa s 25 l) 24 1 n) (28 + 2 * k) j = fi s (28 + 2 * k) j := fun j => by
        rw [fi_sf, if_neg (by omega)]; rfl
      rw [f1, f1]
      rfl
    · rfl
theorem b_17 (c : CI s) : CC s (m_17 0 (H s)) (vRd (rdG (ia s 25) (fi s 24 1).toNatClampNeg (gd s 1))) (gRd (gd s 1) (rdG (ia s 25) (fi s 24 1).toNatClampNeg (gd s 1)), (abC s).2.1, (ia s 25, i3 0), (abC s).2.2.2) := by
  obtain ⟨t1, t2, t3⟩ := c.2.2.2.1
  have hT : tpC s (ia s 25) (fi s 24 1).toNatClampNeg := ⟨rfl, t1, i3_cl t2, le_cl (b := 250) (by omega) t2 t3⟩
  have n250 := hT.2.2.2
  have h1 : sh (gd s 1) := c.1.1.sh
  have q0 : qq s (wG s 6 (gd s 1)) := qq_w6 s h1 c.2.1
  have e6 : gd (wG s 6 (gd s 1)) 6 = gd s 1 := gd_wG s 6 (gd s 1)
  obtain ⟨_, er, s2, rfl, q2, hs⟩ := q_159 (hT.q q0) (by rw [e6]; exact c.1.1)
  rw [e6] at hs er
  have gw0 : gw (gd s 1) (tN (gd s 1)) := ⟨c.1.1, c.1.1.2.1.1, Int32.le_refl _⟩
  have hbd' : (rdG (ia s 25) (fi s 24 1).toNatClampNeg (gd s 1)).2.1 ≤ 1000 := by
    have h2 : (rdG (ia s 25) (fi s 24 1).toNatClampNeg (gd s 1)).2.1 ≤ max (fi s 24 1).toNatClampNeg 251 := (pAl_bd (b := ia s 25) (n := (fi s 24 1).toNatClampNeg) 250 1 (gd s 1) (adv (ia s 25) (fi s 24 1).toNatClampNeg 0) (tN (gd s 1)) ⟨0, Nat.zero_le _, rfl⟩ gw0).1
    omega
  have q02 : qq s s2 := q0.trans q2
  have c2 := q02.eC.ci c
  have ab2 : abC s2 = abC s := q02.eC.ab
  have i25 : ia s2 25 = ia s 25 := q02.1 25 (by unfold qA sA; omega)
  have g12 : gd s2 1 = gd s 1 := q02.g (Or.inl rfl)
  generalize rdG (ia s 25) (fi s 24 1).toNatClampNeg (gd s 1) = P at er hs hbd' ⊢
  obtain ⟨c4, m4, a4⟩ := tape_CI c2 (l := ia s2 25) (n := i3 0) c2.2.2.2.1.1 (by decide +kernel) (by decide +kernel)
  rw [sa_id] at c4 m4 a4
  rw [ab2, i25] at a4
  unfold m_17
  have n0 : ∀ t : St, gN (H t) 7 0 0 = some 1 := fun _ => rfl
  have n1 : ∀ t : St, gN (H t) 7 0 1 = some 6 := fun _ => rfl
  have n7 : ∀ t : St, gN (H t) 7 0 7 = some 24 := fun _ => rfl
  have p1 : ∀ (t : St) x, pI (H t) 6 24 1 x = some (H (sf t 24 1 x)) := fun _ _ => rfl
  rw [(r_0 s).1, Option.bind_some, n1, Option.bind_some, n0, Option.bind_some, q_69 g6 g1 (by omega) c.2.1 h1, Option.bind_some, n7, Option.bind_some, n1, Option.bind_some, er, Option.bind_some]
  dsimp only
  rw [n7, Option.bind_some, p1, Option.bind_some]
  unfold gRd
  cases hp : P.1 with
  | true =>
    obtain ⟨g62, hgw, f2⟩ := hs hp
    have hv := vRd_pos hp hbd'
    have g64 : gd (sf s2 24 1 (Int32.ofInt 0)) 6 = P.2.2.1 := g62
    have cj := CJ_wG c4.cj hgw.1
    obtain ⟨s5, e5, c5, m5, a5, es⟩ := q_62 cj (t := P.2.2.2) hgw.2.1 (by rw [gd_wG]; exact hgw.2.2)
    have gf : gI (H (wG (sf s2 24 1 (Int32.ofInt 0)) 1 P.2.2.1)) 6 24 2 = some P.2.2.2 := by rw [← f2]; rfl
    rw [if_pos hv.2, n0, Option.bind_some, n1, Option.bind_some, q_69 g1 g6 (by omega) c4.1.1.sh c4.2.1, Option.bind_some, g64, n7, Option.bind_some, gf, Option.bind_some, e5, Option.bind_some, if_pos rfl]
    refine ⟨s5, rfl, c5, ((q02.eM.trans m4).trans (eM_wG g1 hgw.1.sh c4.1.1.sh)).trans m5, ?_⟩
    rw [a5, ab_wG, a4]
  | false =>
    have hv := vRd_neg hp hbd'
    have c22 : (Int8.ofInt (-2)).toInt32 = i3 (-2) := by decide +kernel
    obtain ⟨s5, e5, q5⟩ := q_59 (s := sf s2 24 1 (Int32.ofInt 0)) c4.1.2.2 isB2
    rw [if_neg hv, c22, e5, Option.bind_some, if_neg (by decide)]
    refine ⟨s5, rfl, q5.eC.ci c4, (q02.eM.trans m4).trans q5.eM, ?_⟩
    rw [q5.eC.ab, a4]
    rfl
end CGA
