/-! ===== the tape, token by token ===== -/
noncomputable def bt (b : List Int32) (i : Nat) : Int32 := b.getD i 0
noncomputable def cOt (x : Int32) : Int32 := if x = i3 59 then i3 3 else i3 4
noncomputable def cDg (x : Int32) : Int32 := if x < i3 48 then cOt x else if i3 57 < x then cOt x else i3 2
noncomputable def cls (x : Int32) : Int32 := if x < i3 97 then cDg x else if i3 122 < x then cDg x else i3 1
noncomputable def typ (b : List Int32) (n i : Nat) : Int32 := if i < n then cls (bt b i) else i3 0
noncomputable def skp (b : List Int32) (n e : Nat) : Nat := (fst? (fun i => decide (¬ bt b i = i3 32)) (n - e) e).getD n
noncomputable def run (b : List Int32) (n : Nat) (t : Int32) (i : Nat) : Nat := (fst? (fun j => decide (¬ cls (bt b j) = t)) (n - i) i).getD n
/-- a token: what it is, where it begins, where it ends -/
abbrev Tk : Type := Int32 × Nat × Nat
noncomputable def adv (b : List Int32) (n e : Nat) : Tk := (typ b n (skp b n e), skp b n e, if typ b n (skp b n e) = i3 0 then skp b n e else if typ b n (skp b n e) = i3 1 then run b n (i3 1) (skp b n e + 1) else if typ b n (skp b n e) = i3 2 then run b n (i3 2) (skp b n e + 1) else skp b n e + 1)
noncomputable def vaF (b : List Int32) (k : Nat) (v : Int32) : Int32 := i3 10 * v + bt b k - i3 48
noncomputable def val (b : List Int32) (l m : Nat) : Int32 := fB l m (vaF b) (i3 0)
noncomputable def num (b : List Int32) (t : Tk) : Int32 := if t.1 = i3 2 then if t.2.2 - t.2.1 ≤ 2 then val b t.2.1 t.2.2 else i3 (-1) else i3 (-1)
theorem gD_bd {p : Nat → Bool} {n l : Nat} (h : l ≤ n) : l ≤ (fst? p (n - l) l).getD n ∧ (fst? p (n - l) l).getD n ≤ n := by
  cases hf : fst? p (n - l) l with
  | none => exact ⟨h, Nat.le_refl _⟩
  | some k =>
    have := fst?_some hf
    show l ≤ k ∧ k ≤ n
    omega
theorem adv_bd {b : List Int32} {n e : Nat} (h : e ≤ n) : e ≤ (adv b n e).2.1 ∧ (adv b n e).2.1 ≤ (adv b n e).2.2 ∧ (adv b n e).2.2 ≤ n ∧ (¬ (adv b n e).1 = i3 0 → (adv b n e).2.1 < (adv b n e).2.2) := by
  have h1 := gD_bd (p := fun i => decide (¬ bt b i = i3 32)) h
  have h2 : e ≤ skp b n e ∧ skp b n e ≤ n := h1
  unfold adv
  dsimp only
  generalize skp b n e = k at h2
  by_cases c : k < n
  · have r1 := gD_bd (p := fun j => decide (¬ cls (bt b j) = i3 1)) (show k + 1 ≤ n by omega)
    have r2 := gD_bd (p := fun j => decide (¬ cls (bt b j) = i3 2)) (show k + 1 ≤ n by omega)
    have r1' : k + 1 ≤ run b n (i3 1) (k + 1) ∧ run b n (i3 1) (k + 1) ≤ n := r1
    have r2' : k + 1 ≤ run b n (i3 2) (k + 1) ∧ run b n (i3 2) (k + 1) ≤ n := r2
    split
    · rename_i e0
      exact ⟨by omega, by omega, by omega, fun e => absurd e0 e⟩
    · split
      · exact ⟨by omega, by omega, by omega, fun _ => by omega⟩
      · split
        · exact ⟨by omega, by omega, by omega, fun _ => by omega⟩
        · exact ⟨by omega, by omega, by omega, fun _ => by omega⟩
  · have e0 : typ b n k = i3 0 := if_neg c
    rw [if_pos e0]
    exact ⟨by omega, by omega, by omega, fun e => absurd e0 e⟩
theorem lpW {σ X R : Type} {F : σ → (σ → Option R) → (X → Option R) → Option R} {K : X → Option R} (l n : Nat) (hl : l ≤ n) (hn : n ≤ 1000) (S : Nat → σ) (out : Nat → X) (p : Nat → Bool)
    (hs : ∀ k nx ex, l ≤ k → k < n → F (S k) nx ex = if p k = true then ex (out k) else nx (S (k + 1))) (he : ∀ nx ex, F (S n) nx ex = ex (out n)) : lp F 4096 (S l) K = K (out ((fst? p (n - l) l).getD n)) := by
  have key : ∀ m fuel, m ≤ n - l → m < fuel → lp F fuel (S (n - m)) K = K (out ((fst? p m (n - m)).getD n)) := by
    intro m
    induction m with
    | zero =>
      intro fuel _ hf
      obtain ⟨q, rfl⟩ : ∃ q, fuel = q + 1 := ⟨fuel - 1, by omega⟩
      rw [lp_s, Nat.sub_zero, he]
      rfl
    | succ m ih =>
      intro fuel hm hf
      obtain ⟨q, rfl⟩ : ∃ q, fuel = q + 1 := ⟨fuel - 1, by omega⟩
      rw [lp_s, hs _ _ _ (by omega) (by omega)]
      unfold fst?
      by_cases c : p (n - (m + 1)) = true
      · rw [if_pos c, if_pos c]
        rfl
      · rw [if_neg c, if_neg c, show n - (m + 1) + 1 = n - m by omega]
        exact ih q (by omega) (by omega)
  have := key (n - l) 4096 (Nat.le_refl _) (by omega)
  rw [show n - (n - l) = l by omega] at this
  exact this
/-- the class's tape: its bytes, its size -/
noncomputable def tpC (s : St) (b : List Int32) (n : Nat) : Prop := ia s 25 = b ∧ b.length = 250 ∧ fi s 24 1 = i3 (n : Int) ∧ n ≤ 250
noncomputable def tkC (s : St) (b : List Int32) (t : Tk) : Prop := fi s 24 3 = t.1 ∧ fi s 24 4 = i3 (t.2.1 : Int) ∧ fi s 24 5 = i3 (t.2.2 : Int) ∧ fi s 24 6 = num b t
/-- only the token's fields -/
noncomputable def eT (s s' : St) : Prop := s'.1 = s.1 ∧ s'.2.1 = s.2.1 ∧ (∀ o k, ¬ (o = 24 ∧ 3 ≤ k) → fi s' o k = fi s o k) ∧ s'.2.2.2 = s.2.2.2
section TA
variable {s : St} {b : List Int32} {n : Nat}
theorem eT.q {s s' : St} (h : eT s s') : qq s s' := by
  have a : ∀ p, ia s' p = ia s p := fun p => congrFun h.1 p
  have l : ∀ p, la s' p = la s p := fun p => congrFun h.2.1 p
  exact ⟨fun p _ => a p, fun p _ => l p, fun o k hk => h.2.2.1 o k (fun e => hk (Or.inl (Or.inr (Or.inr (Or.inr (Or.inl ⟨e.1, by omega⟩)))))), h.2.2.2, fun p => by rw [a], fun p => by rw [l]⟩
theorem eT.g6 {s s' : St} (h : eT s s') : gd s' 6 = gd s 6 := by
  have a : ∀ p, ia s' p = ia s p := fun p => congrFun h.1 p
  have f : ∀ k, fi s' 6 k = fi s 6 k := fun k => h.2.2.1 6 k (by omega)
  unfold gd
  rw [f, f, f, f, a, a, a, a]
theorem tpC.at (h : tpC s b n) {i : Nat} (hi : i < n) : at32 (ia s 25) (i3 (i : Int)) = some (bt b i) := by
  obtain ⟨h1, h2, h3, h4⟩ := h
  rw [h1, at32_nat (by omega), List.getElem?_eq_getElem (by omega)]
  unfold bt
  rw [List.getD_eq_getElem?_getD, List.getElem?_eq_getElem (by omega)]
  rfl
theorem cls_if (x : Int32) : (if x < i3 97 then if x < i3 48 then (if x = i3 59 then some (i3 3) else some (i3 4)) else if i3 57 < x then (if x = i3 59 then some (i3 3) else some (i3 4)) else some (i3 2) else if i3 122 < x then (if x < i3 48 then (if x = i3 59 then some (i3 3) else some (i3 4)) else if i3 57 < x then (if x = i3 59 then some (i3 3) else some (i3 4)) else some (i3 2)) else some (i3 1)) = some (cls x) := by
  unfold cls cDg cOt
  (repeat' split) <;> rfl
theorem q_170 (h : tpC s b n) {i : Nat} (hi : i ≤ 1000) : m_170 24 (i3 (i : Int)) (H s) = some (typ b n i) := by
  have hn := h.2.2.2
  unfold m_170 typ
  simp only [r_T, Option.bind_some, jn, cst, bP_if, rB_0, rB_1, z00, z10, ↓reduceIte, h.2.2.1]
  by_cases c : i < n
  · rw [if_pos ((i3n_lt (by omega) (by omega)).mpr c), if_pos c, h.at c]
    simp only [Option.bind_some, jn, cst, bP_if, rB_0, rB_1, z00, z10, ↓reduceIte]
    exact cls_if _
  · rw [if_neg (fun e => c ((i3n_lt (by omega) (by omega)).mp e)), if_neg c]
theorem q_171 (h : tpC s b n) {l m : Nat} (h4 : fi s 24 4 = i3 (l : Int)) (h5 : fi s 24 5 = i3 (m : Int)) (hlm : l ≤ m) (hm : m ≤ n) : m_171 24 (H s) = some (if m - l ≤ 2 then val b l m else i3 (-1)) := by
  have hn := h.2.2.2
  unfold m_171
  simp only [r_T, Option.bind_some, jn, cst, bP_if, rB_0, rB_1, z00, z10, ↓reduceIte, h4, h5]
  have e1 : i3 (m : Int) - i3 (l : Int) = i3 ((m - l : Nat) : Int) := by
    rw [i3_sub]; congr 1; omega
  rw [e1]
  have e2 : (i3 ((m - l : Nat) : Int) ≤ Int32.ofInt 2) ↔ m - l ≤ 2 := i3n_le (b := 2) (by omega) (by omega)
  by_cases c : m - l ≤ 2
  · rw [if_pos (e2.mpr c), if_pos c]
    refine (lpB l m (by omega) (by omega) (fun t a => (a, t)) (fun a => a) (vaF b) (fun _ => True) (i3 0) ?_ (fun _ _ _ _ _ => trivial) ?_ trivial).trans rfl
    · intro k a nx ex h1 h2 _
      have e3 : ¬ i3 (m : Int) ≤ i3 (k : Int) := by rw [i3n_le (by omega) (by omega)]; omega
      simp only [e3, h.at (show k < n by omega), Option.bind_some, jn, cst, bP_if, rB_0, rB_1, z00, z10, ↓reduceIte]
      rfl
    · intro k a nx ex h1 h2 _
      have e3 : i3 (m : Int) ≤ i3 (k : Int) := by rw [i3n_le (by omega) (by omega)]; omega
      simp only [e3, Option.bind_some, jn, cst, bP_if, rB_0, rB_1, z00, z10, ↓reduceIte]
  · rw [if_neg (fun e => c (e2.mp e)), if_neg c]
theorem lp_skp (h : tpC s b n) {e : Nat} (he : e ≤ n) {R : Type} (K : tH → Option R) : lp (fun (s3 : tH) nx4 ex5 => (gI s3 6 24 4).bind fun x55 => (gI s3 6 24 1).bind fun x56 => if x56 ≤ x55 then ex5 s3 else (gN s3 6 24 0).bind fun o57 => (gI s3 6 24 4).bind fun x58 => (aI s3 o57 x58).bind fun x59 => if x59 = (Int8.ofInt 32).toInt32 then (gI s3 6 24 4).bind fun x60 => (pI s3 6 24 4 (x60 + (Int32.ofInt 1))).bind fun th61 => nx4 th61 else ex5 s3) 4096 (H (sf s 24 4 (i3 (e : Int)))) K = K (H (sf s 24 4 (i3 (skp b n e : Int)))) := by
  have hn := h.2.2.2
  have c32 : (Int8.ofInt 32).toInt32 = i3 32 := by decide +kernel
  refine lpW e n he (by omega) (fun k => H (sf s 24 4 (i3 (k : Int)))) (fun k => H (sf s 24 4 (i3 (k : Int)))) (fun i => decide (¬ bt b i = i3 32)) ?_ ?_
  · intro k nx ex h1 h2
    have f4 : fi (sf s 24 4 (i3 (k : Int))) 24 4 = i3 (k : Int) := rfl
    have f1 : fi (sf s 24 4 (i3 (k : Int))) 24 1 = i3 (n : Int) := h.2.2.1
    have fa : at32 (ia (sf s 24 4 (i3 (k : Int))) 25) (i3 (k : Int)) = some (bt b k) := h.at h2
    have e3 : ¬ i3 (n : Int) ≤ i3 (k : Int) := by rw [i3n_le (by omega) (by omega)]; omega
    simp only [r_T, Option.bind_some, f4, f1, fa, if_neg e3, sf_sf, i3_nat_add, c32, decide_eq_true_eq]
    by_cases c : bt b k = i3 32
    · rw [if_pos c, if_neg (fun e => e c)]
    · rw [if_neg c, if_pos c]
  · intro nx ex
    have f4 : fi (sf s 24 4 (i3 (n : Int))) 24 4 = i3 (n : Int) := rfl
    have f1 : fi (sf s 24 4 (i3 (n : Int))) 24 1 = i3 (n : Int) := h.2.2.1
    simp only [r_T, Option.bind_some, f4, f1, if_pos (Int32.le_refl (i3 (n : Int)))]
theorem lp_run (h : tpC s b n) {e : Nat} (he : e ≤ n) {t : Int32} (ht : fi s 24 3 = t) {R : Type} (K : tH → Option R) : lp (fun (s23 : tH) nx24 ex25 => (gI s23 6 24 5).bind fun x27 => (gI s23 6 24 1).bind fun x28 => if x28 ≤ x27 then ex25 s23 else (gI s23 6 24 5).bind fun x29 => (m_170 24 x29 s23).bind fun x30 => (gI s23 6 24 3).bind fun x31 => if x30 = x31 then (gI s23 6 24 5).bind fun x32 => (pI s23 6 24 5 (x32 + (Int32.ofInt 1))).bind fun th33 => nx24 th33 else ex25 s23) 4096 (H (sf s 24 5 (i3 (e : Int)))) K = K (H (sf s 24 5 (i3 (run b n t e : Int)))) := by
  have hn := h.2.2.2
  refine lpW e n he (by omega) (fun k => H (sf s 24 5 (i3 (k : Int)))) (fun k => H (sf s 24 5 (i3 (k : Int)))) (fun j => decide (¬ cls (bt b j) = t)) ?_ ?_
  · intro k nx ex h1 h2
    have hh : tpC (sf s 24 5 (i3 (k : Int))) b n := h
    have f5 : fi (sf s 24 5 (i3 (k : Int))) 24 5 = i3 (k : Int) := rfl
    have f3 : fi (sf s 24 5 (i3 (k : Int))) 24 3 = t := ht
    have f1 : fi (sf s 24 5 (i3 (k : Int))) 24 1 = i3 (n : Int) := h.2.2.1
    have e3 : ¬ i3 (n : Int) ≤ i3 (k : Int) := by rw [i3n_le (by omega) (by omega)]; omega
    have et : typ b n k = cls (bt b k) := if_pos h2
    simp only [r_T, Option.bind_some, f5, f3, f1, if_neg e3, q_170 hh (show k ≤ 1000 by omega), et, sf_sf, i3_nat_add, decide_eq_true_eq]
    by_cases c : cls (bt b k) = t
    · rw [if_pos c, if_neg (fun e => e c)]
    · rw [if_neg c, if_pos c]
  · intro nx ex
    have f5 : fi (sf s 24 5 (i3 (n : Int))) 24 5 = i3 (n : Int) := rfl
    have f1 : fi (sf s 24 5 (i3 (n : Int))) 24 1 = i3 (n : Int) := h.2.2.1
    simp only [r_T, Option.bind_some, f5, f1, if_pos (Int32.le_refl (i3 (n : Int)))]
theorem q_169 (h : tpC s b n) {e : Nat} (he : e ≤ n) (h5 : fi s 24 5 = i3 (e : Int)) : ∃ s', m_169 24 (H s) = some (H s') ∧ tkC s' b (adv b n e) ∧ eT s s' := by
  have hn := h.2.2.2
  have hb := adv_bd (b := b) he
  unfold m_169
  rw [(r_T s).1, Option.bind_some]
  have g5 : ∀ t : St, gI (H t) 6 24 5 = some (fi t 24 5) := fun _ => rfl
  have g4 : ∀ t : St, gI (H t) 6 24 4 = some (fi t 24 4) := fun _ => rfl
  have g3 : ∀ t : St, gI (H t) 6 24 3 = some (fi t 24 3) := fun _ => rfl
  have p3 : ∀ (t : St) x, pI (H t) 6 24 3 x = some (H (sf t 24 3 x)) := fun _ _ => rfl
  have p4 : ∀ (t : St) x, pI (H t) 6 24 4 x = some (H (sf t 24 4 x)) := fun _ _ => rfl
  have p5 : ∀ (t : St) x, pI (H t) 6 24 5 x = some (H (sf t 24 5 x)) := fun _ _ => rfl
  have p6 : ∀ (t : St) x, pI (H t) 6 24 6 x = some (H (sf t 24 6 x)) := fun _ _ => rfl
  rw [g5, Option.bind_some, p4, Option.bind_some, h5, lp_skp h he, g4, Option.bind_some]
  have sk : skp b n e ≤ n := (gD_bd (p := fun i => decide (¬ bt b i = i3 32)) he).2
  have hh : tpC (sf s 24 4 (i3 (skp b n e : Int))) b n := h
  rw [show fi (sf s 24 4 (i3 (skp b n e : Int))) 24 4 = i3 (skp b n e : Int) from rfl, q_170 hh (by omega), Option.bind_some, p3, Option.bind_some, g3, Option.bind_some]
  have ad : adv b n e = (typ b n (skp b n e), skp b n e, if typ b n (skp b n e) = i3 0 then skp b n e else if typ b n (skp b n e) = i3 1 then run b n (i3 1) (skp b n e + 1) else if typ b n (skp b n e) = i3 2 then run b n (i3 2) (skp b n e + 1) else skp b n e + 1) := rfl
  rw [show fi (sf (sf s 24 4 (i3 (skp b n e : Int))) 24 3 (typ b n (skp b n e))) 24 3 = typ b n (skp b n e) from rfl]
  unfold jn
  dsimp only
  rw [ad] at hb ⊢
  dsimp only at hb
  generalize skp b n e = k at hb sk hh ⊢
  generalize ht : typ b n k = t at hb ⊢
  have T1 : ∀ t : St, eT s (sf t 24 3 0) → True := fun _ _ => trivial
  have mk : ∀ (x y z w : Int32), eT s (sf (sf (sf (sf s 24 4 x) 24 3 y) 24 5 z) 24 6 w) := fun x y z w => ⟨rfl, rfl, fun o q hq => by
    rw [fi_sf, if_neg (by omega), fi_sf, if_neg (by omega), fi_sf, if_neg (by omega), fi_sf, if_neg (by omega)], rfl⟩
  -- the number, and the end
  have fin : ∀ m : Nat, k ≤ m → m ≤ n → ∀ v, (if t = i3 2 then if m - k ≤ 2 then val b k m else i3 (-1) else i3 (-1)) = v → ∃ s', ((some t).bind fun x17 => if x17 = Int32.ofInt 2 then (m_171 24 (H (sf (sf (sf s 24 4 (i3 (k : Int))) 24 3 t) 24 5 (i3 (m : Int))))).bind fun x21 => (pI (H (sf (sf (sf s 24 4 (i3 (k : Int))) 24 3 t) 24 5 (i3 (m : Int)))) 6 24 6 x21).bind fun th20 => some th20 else (pI (H (sf (sf (sf s 24 4 (i3 (k : Int))) 24 3 t) 24 5 (i3 (m : Int)))) 6 24 6 (Int32.ofInt (-1))).bind fun th20 => some th20) = some (H s') ∧ tkC s' b (t, k, m) ∧ eT s s' := by
    intro m hkm hmn v hv
    have h3 : tpC (sf (sf (sf s 24 4 (i3 (k : Int))) 24 3 t) 24 5 (i3 (m : Int))) b n := h
    have q := q_171 h3 (l := k) (m := m) rfl rfl hkm hmn
    refine ⟨sf (sf (sf (sf s 24 4 (i3 (k : Int))) 24 3 t) 24 5 (i3 (m : Int))) 24 6 v, ?_, ⟨rfl, rfl, rfl, ?_⟩, mk _ _ _ _⟩
    · rw [Option.bind_some]
      by_cases c : t = i3 2
      · rw [if_pos c, q, Option.bind_some, p6, Option.bind_some]
        rw [if_pos c] at hv
        rw [hv]
      · rw [if_neg c, p6, Option.bind_some]
        rw [if_neg c] at hv
        exact congrArg (fun z => some (H (sf (sf (sf (sf s 24 4 (i3 (k : Int))) 24 3 t) 24 5 (i3 (m : Int))) 24 6 z))) hv
    · show v = num b (t, k, m)
      rw [← hv]
      rfl
  have h4 : tpC (sf (sf s 24 4 (i3 (k : Int))) 24 3 t) b n := h
  by_cases c0 : t = i3 0
  · rw [if_pos (show t = 0 from c0), if_pos c0, g4, Option.bind_some, p5, Option.bind_some, g3, Option.bind_some]
    rw [show fi (sf (sf s 24 4 (i3 (k : Int))) 24 3 t) 24 4 = i3 (k : Int) from rfl, show fi (sf (sf (sf s 24 4 (i3 (k : Int))) 24 3 t) 24 5 (i3 (k : Int))) 24 3 = t from rfl]
    have n1 : ¬ t = Int32.ofInt 1 := by rw [c0]; decide +kernel
    have n2 : ¬ t = Int32.ofInt 2 := by rw [c0]; decide +kernel
    rw [if_neg n1, Option.bind_some, if_neg n2]
    exact fin k (Nat.le_refl _) sk _ rfl
  · have kn : k < n := by
      refine Classical.byContradiction fun hc => c0 ?_
      rw [← ht]
      exact if_neg hc
    rw [if_neg (show ¬ t = 0 from c0), if_neg c0, g4, Option.bind_some]
    rw [show fi (sf (sf s 24 4 (i3 (k : Int))) 24 3 t) 24 4 = i3 (k : Int) from rfl, i3_nat_add, p5, Option.bind_some, g3, Option.bind_some, show fi (sf (sf (sf s 24 4 (i3 (k : Int))) 24 3 t) 24 5 (i3 ((k + 1 : Nat) : Int))) 24 3 = t from rfl]
    by_cases c1 : t = i3 1
    · rw [if_pos (show t = Int32.ofInt 1 from c1), if_pos c1, lp_run h4 (show k + 1 ≤ n by omega) (t := t) rfl]
      have rb := gD_bd (p := fun j => decide (¬ cls (bt b j) = t)) (show k + 1 ≤ n by omega)
      have rb' : k + 1 ≤ run b n t (k + 1) ∧ run b n t (k + 1) ≤ n := rb
      rw [c1] at rb' ⊢
      have := fin (run b n (i3 1) (k + 1)) (by omega) (by omega) _ rfl
      rw [c1] at this
      exact this
    · rw [if_neg (show ¬ t = Int32.ofInt 1 from c1), if_neg c1, Option.bind_some]
      by_cases c2 : t = i3 2
      · rw [if_pos (show t = Int32.ofInt 2 from c2), if_pos c2, lp_run h4 (show k + 1 ≤ n by omega) (t := t) rfl]
        have rb := gD_bd (p := fun j => decide (¬ cls (bt b j) = t)) (show k + 1 ≤ n by omega)
        have rb' : k + 1 ≤ run b n t (k + 1) ∧ run b n t (k + 1) ≤ n := rb
        rw [c2] at rb' ⊢
        have := fin (run b n (i3 2) (k + 1)) (by omega) (by omega) _ rfl
        rw [c2] at this
        exact this
      · rw [if_neg (show ¬ t = Int32.ofInt 2 from c2), if_neg c2]
        exact fin (k + 1) (by omega) (by omega) _ rfl
end TA
