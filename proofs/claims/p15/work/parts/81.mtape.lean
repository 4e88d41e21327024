/-! ===== the reference's tape, token by token ===== -/
noncomputable def numM (b : List Int32) (t : Tk) : Int32 := if t.1 = i3 2 then if t.2.2 - t.2.1 ≤ 2 then val b t.2.1 t.2.2 else i3 1000 else i3 0
noncomputable def tpM (s : St) (b : List Int32) (n : Nat) : Prop := ia s 59 = b ∧ b.length = 250 ∧ fi s 44 7 = i3 (n : Int) ∧ n ≤ 250
noncomputable def tkM (s : St) (b : List Int32) (t : Tk) : Prop := fi s 44 20 = t.1 ∧ fi s 44 21 = i3 (t.2.1 : Int) ∧ fi s 44 19 = i3 (t.2.2 : Int) ∧ fi s 44 22 = numM b t
/-- only the token's fields -/
noncomputable def eU (s s' : St) : Prop := s'.1 = s.1 ∧ s'.2.1 = s.2.1 ∧ (∀ o k, ¬ (o = 44 ∧ 19 ≤ k ∧ k ≤ 22) → fi s' o k = fi s o k) ∧ s'.2.2.2 = s.2.2.2
/-- the reference reads: its own garden, and what is scratched -/
noncomputable def uu (s s' : St) : Prop := (∀ p, p ≠ 65 → (p < 61 ∨ 64 < p) → ia s' p = ia s p) ∧ (∀ p, la s' p = la s p) ∧ (∀ o k, ¬ (o = 44 ∧ ((19 ≤ k ∧ k ≤ 23) ∨ k = 9 ∨ k = 10 ∨ k = 14 ∨ k = 16)) → fi s' o k = fi s o k) ∧ s'.2.2.2 = s.2.2.2 ∧ (∀ p, (ia s' p).length = (ia s p).length)
/-- and the number of statements -/
noncomputable def uv (s s' : St) : Prop := (∀ p, p ≠ 65 → (p < 61 ∨ 64 < p) → ia s' p = ia s p) ∧ (∀ p, la s' p = la s p) ∧ (∀ o k, ¬ (o = 44 ∧ (19 ≤ k ∨ k = 9 ∨ k = 10 ∨ k = 14 ∨ k = 16)) → fi s' o k = fi s o k) ∧ s'.2.2.2 = s.2.2.2 ∧ (∀ p, (ia s' p).length = (ia s p).length)
theorem uu.refl (s : St) : uu s s := ⟨fun _ _ _ => rfl, fun _ => rfl, fun _ _ _ => rfl, rfl, fun _ => rfl⟩
theorem uu.trans {s s' s2 : St} (h : uu s s') (k : uu s' s2) : uu s s2 := ⟨fun p h1 h2 => (k.1 p h1 h2).trans (h.1 p h1 h2), fun p => (k.2.1 p).trans (h.2.1 p), fun o q hq => (k.2.2.1 o q hq).trans (h.2.2.1 o q hq), k.2.2.2.1.trans h.2.2.2.1, fun p => (k.2.2.2.2 p).trans (h.2.2.2.2 p)⟩
theorem uu.v {s s' : St} (h : uu s s') : uv s s' := ⟨h.1, h.2.1, fun o k hk => h.2.2.1 o k (by omega), h.2.2.2⟩
theorem uv.trans {s s' s2 : St} (h : uv s s') (k : uv s' s2) : uv s s2 := ⟨fun p h1 h2 => (k.1 p h1 h2).trans (h.1 p h1 h2), fun p => (k.2.1 p).trans (h.2.1 p), fun o q hq => (k.2.2.1 o q hq).trans (h.2.2.1 o q hq), k.2.2.2.1.trans h.2.2.2.1, fun p => (k.2.2.2.2 p).trans (h.2.2.2.2 p)⟩
theorem uv.f {s s' : St} {k : Nat} {x : Int32} (hk : 19 ≤ k) (h : uv s s') : uv s (sf s' 44 k x) := h.trans ⟨fun _ _ _ => rfl, fun _ => rfl, fun o q hq => by rw [fi_sf, if_neg (by omega)], rfl, fun _ => rfl⟩
theorem uv.eC {s s' : St} (h : uv s s') : eC s s' := ⟨fun p hp _ => h.1 p (by omega) (by omega), fun p _ => h.2.1 p, fun o k ho _ => h.2.2.1 o k (by omega), fun p _ => h.2.2.2.2 p, fun p _ => by rw [h.2.1]⟩
theorem eU.u {s s' : St} (h : eU s s') : uu s s' := by
  have a : ∀ p, ia s' p = ia s p := fun p => congrFun h.1 p
  have l : ∀ p, la s' p = la s p := fun p => congrFun h.2.1 p
  exact ⟨fun p _ _ => a p, l, fun o k hk => h.2.2.1 o k (by omega), h.2.2.2, fun p => by rw [a]⟩
theorem uu.f {s s' : St} {k : Nat} {x : Int32} (hk : 19 ≤ k ∧ k ≤ 23) (h : uu s s') : uu s (sf s' 44 k x) := h.trans ⟨fun _ _ _ => rfl, fun _ => rfl, fun o q hq => by rw [fi_sf, if_neg (by omega)], rfl, fun _ => rfl⟩
theorem uu.d {s s' : St} {l : List Int32} (hl : l.length = (ia s' 65).length) (h : uu s s') : uu s (sa s' 65 l) := h.trans ⟨fun p hp _ => by rw [ia_sa, if_neg hp], fun _ => rfl, fun _ _ _ => rfl, rfl, fun p => by
  rw [ia_sa]
  split
  · rename_i e; rw [e]; exact hl
  · rfl⟩
theorem uu.w {s s' : St} {g : Gd} (h1 : sh g) (h2 : sh (md s' 44)) (h : uu s s') : uu s (wM s' 44 g) := h.trans (by
  obtain ⟨a1, a2, a3, a4⟩ := h1
  obtain ⟨b1, b2, b3, b4⟩ := h2
  have e1 : (ia s' 61).length = 12 := b1
  have e2 : (ia s' 62).length = 12 := b2
  have e3 : (ia s' 63).length = 12 := b3
  have e4 : (ia s' 64).length = 8 := b4
  refine ⟨fun p _ hp => ?_, fun _ => rfl, fun o k hk => ?_, rfl, fun p => ?_⟩
  · rw [ia_wM, if_neg (by omega), if_neg (by omega), if_neg (by omega), if_neg (by omega)]
  · rw [fi_wM, if_neg (by omega), if_neg (by omega), if_neg (by omega), if_neg (by omega)]
  · rw [ia_wM]
    split
    · rename_i e; rw [e, a1, e1]
    split
    · rename_i _ e; rw [e, a2, e2]
    split
    · rename_i _ _ e; rw [e, a3, e3]
    split
    · rename_i _ _ _ e; rw [e, a4, e4]
    rfl)
theorem clsL (x : Int32) : (¬ x < i3 97 ∧ ¬ i3 122 < x) ↔ cls x = i3 1 := by
  unfold cls cDg cOt
  by_cases c1 : x < i3 97
  · rw [if_pos c1]
    refine ⟨fun e => absurd c1 e.1, fun e => ?_⟩
    exfalso
    revert e
    (repeat' split) <;> (intro e; exact absurd e (by decide +kernel))
  · rw [if_neg c1]
    by_cases c2 : i3 122 < x
    · rw [if_pos c2]
      refine ⟨fun e => absurd c2 e.2, fun e => ?_⟩
      exfalso
      revert e
      (repeat' split) <;> (intro e; exact absurd e (by decide +kernel))
    · rw [if_neg c2]
      exact ⟨fun _ => rfl, fun _ => ⟨c1, c2⟩⟩
theorem clsD (x : Int32) : (¬ x < i3 48 ∧ ¬ i3 57 < x) ↔ cls x = i3 2 := by
  have lt : ¬ i3 57 < x → x < i3 97 := fun e => by
    rw [Int32.lt_iff_toInt_lt, i3_toInt ⟨by omega, by omega⟩] at *
    omega
  unfold cls cDg cOt
  by_cases c1 : x < i3 48
  · refine ⟨fun e => absurd c1 e.1, fun e => ?_⟩
    exfalso
    revert e
    rw [if_pos c1]
    (repeat' split) <;> (intro e; exact absurd e (by decide +kernel))
  · by_cases c2 : i3 57 < x
    · refine ⟨fun e => absurd c2 e.2, fun e => ?_⟩
      exfalso
      revert e
      rw [if_neg c1, if_pos c2]
      (repeat' split) <;> (intro e; exact absurd e (by decide +kernel))
    · refine ⟨fun _ => ?_, fun _ => ⟨c1, c2⟩⟩
      rw [if_pos (lt c2), if_neg c1, if_neg c2]
theorem q_222 (x : Int32) (th : tH) : m_222 x th = some (bP (cls x = i3 1)) := by
  have c97 : (Int8.ofInt 97).toInt32 = i3 97 := by decide +kernel
  have c122 : (Int8.ofInt 122).toInt32 = i3 122 := by decide +kernel
  have e := clsL x
  unfold m_222 jn
  dsimp only
  rw [c97, c122]
  by_cases c1 : x < i3 97
  · rw [if_pos c1, bP_f (fun k => (e.mpr k).1 c1)]; rfl
  rw [if_neg c1]
  by_cases c2 : i3 122 < x
  · rw [if_pos c2, bP_f (fun k => (e.mpr k).2 c2)]; rfl
  · rw [if_neg c2, bP_t (e.mp ⟨c1, c2⟩)]; rfl
theorem q_223 (x : Int32) (th : tH) : m_223 x th = some (bP (cls x = i3 2)) := by
  have c48 : (Int8.ofInt 48).toInt32 = i3 48 := by decide +kernel
  have c57 : (Int8.ofInt 57).toInt32 = i3 57 := by decide +kernel
  have e := clsD x
  unfold m_223 jn
  dsimp only
  rw [c48, c57]
  by_cases c1 : x < i3 48
  · rw [if_pos c1, bP_f (fun k => (e.mpr k).1 c1)]; rfl
  rw [if_neg c1]
  by_cases c2 : i3 57 < x
  · rw [if_pos c2, bP_f (fun k => (e.mpr k).2 c2)]; rfl
  · rw [if_neg c2, bP_t (e.mp ⟨c1, c2⟩)]; rfl
theorem cls_o {x : Int32} (h1 : ¬ cls x = i3 1) (h2 : ¬ cls x = i3 2) : cls x = if x = i3 59 then i3 3 else i3 4 := by
  have e1 := clsL x
  have e2 := clsD x
  unfold cls cDg cOt at *
  by_cases c1 : x < i3 97
  · rw [if_pos c1] at h2 ⊢
    by_cases c3 : x < i3 48
    · rw [if_pos c3]
    · rw [if_neg c3] at h2 ⊢
      by_cases c4 : i3 57 < x
      · rw [if_pos c4]
      · rw [if_neg c4] at h2
        exact absurd rfl h2
  · rw [if_neg c1] at h1 h2 ⊢
    by_cases c2 : i3 122 < x
    · rw [if_pos c2] at h2 ⊢
      by_cases c3 : x < i3 48
      · rw [if_pos c3]
      · rw [if_neg c3] at h2 ⊢
        by_cases c4 : i3 57 < x
        · rw [if_pos c4]
        · rw [if_neg c4] at h2
          exact absurd rfl h2
    · rw [if_neg c2] at h1
      exact absurd rfl h1
theorem run_s {b : List Int32} {n k : Nat} {t : Int32} (hk : k < n) (ht : cls (bt b k) = t) : run b n t k = run b n t (k + 1) := by
  unfold run
  obtain ⟨m, hm⟩ : ∃ m, n - k = m + 1 := ⟨n - k - 1, by omega⟩
  rw [hm, show n - (k + 1) = m by omega]
  conv => lhs; unfold fst?
  rw [if_neg (by simp [ht])]
theorem run_bd {b : List Int32} {n k : Nat} {t : Int32} (hk : k ≤ n) : k ≤ run b n t k ∧ run b n t k ≤ n := gD_bd (p := fun j => decide (¬ cls (bt b j) = t)) hk
/-- figures so far -/
noncomputable def fig (b : List Int32) (k j : Nat) : Int32 := if j - k ≤ 2 then val b k j else i3 1000
theorem val_s {b : List Int32} {k j : Nat} (h : k ≤ j) : val b k (j + 1) = vaF b j (val b k j) := by
  unfold val fB
  rw [show j + 1 - k = (j - k) + 1 by omega]
  show vaF b (k + (j - k)) (itr (fun i => vaF b (k + i)) (j - k) (i3 0)) = _
  rw [show k + (j - k) = j by omega]
section MTA
variable {s : St} {b : List Int32} {n : Nat}
theorem tpM.at (h : tpM s b n) {i : Nat} (hi : i < n) : at32 (ia s 59) (i3 (i : Int)) = some (bt b i) := by
  obtain ⟨h1, h2, h3, h4⟩ := h
  rw [h1, at32_nat (by omega), List.getElem?_eq_getElem (by omega)]
  unfold bt
  rw [List.getD_eq_getElem?_getD, List.getElem?_eq_getElem (by omega)]
  rfl
theorem g_t (s : St) : gI (H s) 8 44 7 = some (fi s 44 7) ∧ gI (H s) 8 44 19 = some (fi s 44 19) ∧ gI (H s) 8 44 20 = some (fi s 44 20) ∧ gI (H s) 8 44 21 = some (fi s 44 21) ∧ gI (H s) 8 44 22 = some (fi s 44 22) ∧ gN (H s) 8 44 6 = some 59 ∧ (∀ i, aI (H s) 59 i = at32 (ia s 59) i) := ⟨rfl, rfl, rfl, rfl, rfl, rfl, fun _ => aI_of rfl⟩
theorem p_t (s : St) : (∀ x, pI (H s) 8 44 19 x = some (H (sf s 44 19 x))) ∧ (∀ x, pI (H s) 8 44 20 x = some (H (sf s 44 20 x))) ∧ (∀ x, pI (H s) 8 44 21 x = some (H (sf s 44 21 x))) ∧ (∀ x, pI (H s) 8 44 22 x = some (H (sf s 44 22 x))) := ⟨fun _ => rfl, fun _ => rfl, fun _ => rfl, fun _ => rfl⟩
theorem lpm_skp (h : tpM s b n) {e : Nat} (he : e ≤ n) {R : Type} (K : tH → Option R) : lp (fun (s1 : tH) nx2 ex3 => (gI s1 8 44 19).bind fun x73 => (gI s1 8 44 7).bind fun x74 => if x74 ≤ x73 then ex3 s1 else (gN s1 8 44 6).bind fun o75 => (gI s1 8 44 19).bind fun x76 => (aI s1 o75 x76).bind fun x77 => if x77 = (Int8.ofInt 32).toInt32 then (gI s1 8 44 19).bind fun x78 => (pI s1 8 44 19 (x78 + (Int32.ofInt 1))).bind fun th79 => nx2 th79 else ex3 s1) 4096 (H (sf s 44 19 (i3 (e : Int)))) K = K (H (sf s 44 19 (i3 (skp b n e : Int)))) := by
  have hn := h.2.2.2
  have c32 : (Int8.ofInt 32).toInt32 = i3 32 := by decide +kernel
  refine lpW e n he (by omega) (fun k => H (sf s 44 19 (i3 (k : Int)))) (fun k => H (sf s 44 19 (i3 (k : Int)))) (fun i => decide (¬ bt b i = i3 32)) ?_ ?_
  · intro k nx ex h1 h2
    have f4 : fi (sf s 44 19 (i3 (k : Int))) 44 19 = i3 (k : Int) := rfl
    have f1 : fi (sf s 44 19 (i3 (k : Int))) 44 7 = i3 (n : Int) := h.2.2.1
    have fa : at32 (ia (sf s 44 19 (i3 (k : Int))) 59) (i3 (k : Int)) = some (bt b k) := h.at h2
    simp only [g_t, p_t, Option.bind_some, f4, f1, fa, if_neg (nle h2 (show n ≤ 1000 by omega)), sf_sf, i3_nat_add, c32, decide_eq_true_eq]
    by_cases c : bt b k = i3 32
    · rw [if_pos c, if_neg (fun e => e c)]
    · rw [if_neg c, if_pos c]
  · intro nx ex
    have f4 : fi (sf s 44 19 (i3 (n : Int))) 44 19 = i3 (n : Int) := rfl
    have f1 : fi (sf s 44 19 (i3 (n : Int))) 44 7 = i3 (n : Int) := h.2.2.1
    simp only [g_t, Option.bind_some, f4, f1, if_pos (Int32.le_refl (i3 (n : Int)))]
theorem lpm_let (h : tpM s b n) {e : Nat} (he : e ≤ n) {R : Type} (K : tH → Option R) : lp (fun (s56 : tH) nx57 ex58 => (gI s56 8 44 19).bind fun x60 => (gI s56 8 44 7).bind fun x61 => if x61 ≤ x60 then ex58 s56 else (gN s56 8 44 6).bind fun o62 => (gI s56 8 44 19).bind fun x63 => (aI s56 o62 x63).bind fun x64 => (m_222 x64 s56).bind fun x65 => if x65 = 0 then ex58 s56 else (gI s56 8 44 19).bind fun x66 => (pI s56 8 44 19 (x66 + (Int32.ofInt 1))).bind fun th67 => nx57 th67) 4096 (H (sf s 44 19 (i3 (e : Int)))) K = K (H (sf s 44 19 (i3 (run b n (i3 1) e : Int)))) := by
  have hn := h.2.2.2
  refine lpW e n he (by omega) (fun k => H (sf s 44 19 (i3 (k : Int)))) (fun k => H (sf s 44 19 (i3 (k : Int)))) (fun j => decide (¬ cls (bt b j) = i3 1)) ?_ ?_
  · intro k nx ex h1 h2
    have f4 : fi (sf s 44 19 (i3 (k : Int))) 44 19 = i3 (k : Int) := rfl
    have f1 : fi (sf s 44 19 (i3 (k : Int))) 44 7 = i3 (n : Int) := h.2.2.1
    have fa : at32 (ia (sf s 44 19 (i3 (k : Int))) 59) (i3 (k : Int)) = some (bt b k) := h.at h2
    simp only [g_t, p_t, Option.bind_some, f4, f1, fa, if_neg (nle h2 (show n ≤ 1000 by omega)), sf_sf, i3_nat_add, q_222, bP_if, decide_eq_true_eq]
    by_cases c : cls (bt b k) = i3 1
    · rw [if_pos c, if_neg (fun e => e c)]
    · rw [if_neg c, if_pos c]
  · intro nx ex
    have f4 : fi (sf s 44 19 (i3 (n : Int))) 44 19 = i3 (n : Int) := rfl
    have f1 : fi (sf s 44 19 (i3 (n : Int))) 44 7 = i3 (n : Int) := h.2.2.1
    simp only [g_t, Option.bind_some, f4, f1, if_pos (Int32.le_refl (i3 (n : Int)))]
theorem lpm_fig (h : tpM s b n) {e : Nat} (he : e ≤ n) (h21 : fi s 44 21 = i3 (e : Int)) {R : Type} (K : tH → Option R) : lp (fun (s30 : tH) nx31 ex32 => (gI s30 8 44 19).bind fun x34 => (gI s30 8 44 7).bind fun x35 => if x35 ≤ x34 then ex32 s30 else (gN s30 8 44 6).bind fun o36 => (gI s30 8 44 19).bind fun x37 => (aI s30 o36 x37).bind fun x38 => (m_223 x38 s30).bind fun x39 => if x39 = 0 then ex32 s30 else (gI s30 8 44 19).bind fun x40 => (gI s30 8 44 21).bind fun x41 => jn (fun (v42 : Int32 × Nat) => (pI s30 8 v42.2 22 v42.1).bind fun th44 => (gI th44 8 44 19).bind fun x45 => (pI th44 8 44 19 (x45 + (Int32.ofInt 1))).bind fun th46 => nx31 th46) (fun j43 => if (Int32.ofInt 2) ≤ (x40 - x41) then j43 ((Int16.ofInt 1000).toInt32, 44) else (gI s30 8 44 22).bind fun x47 => (gN s30 8 44 6).bind fun o48 => (gI s30 8 44 19).bind fun x49 => (aI s30 o48 x49).bind fun x50 => j43 ((((x47 * (Int8.ofInt 10).toInt32) + x50) - (Int8.ofInt 48).toInt32), 44))) 4096 (H (sf (sf s 44 22 (i3 0)) 44 19 (i3 (e : Int)))) K = K (H (sf (sf s 44 22 (fig b e (run b n (i3 2) e))) 44 19 (i3 (run b n (i3 2) e : Int)))) := by
  have hn := h.2.2.2
  have c1000 : (Int16.ofInt 1000).toInt32 = i3 1000 := by decide +kernel
  have c10 : (Int8.ofInt 10).toInt32 = i3 10 := by decide +kernel
  have c48 : (Int8.ofInt 48).toInt32 = i3 48 := by decide +kernel
  have e0 : fig b e e = i3 0 := by
    unfold fig
    rw [if_pos (by omega)]
    unfold val fB
    rw [Nat.sub_self]
    rfl
  rw [← e0]
  refine lpW e n he (by omega) (fun k => H (sf (sf s 44 22 (fig b e k)) 44 19 (i3 (k : Int)))) (fun k => H (sf (sf s 44 22 (fig b e k)) 44 19 (i3 (k : Int)))) (fun j => decide (¬ cls (bt b j) = i3 2)) ?_ ?_
  · intro k nx ex h1 h2
    generalize hS : sf (sf s 44 22 (fig b e k)) 44 19 (i3 (k : Int)) = S
    have f19 : fi S 44 19 = i3 (k : Int) := by rw [← hS]; rfl
    have f7 : fi S 44 7 = i3 (n : Int) := by rw [← hS]; exact h.2.2.1
    have f21 : fi S 44 21 = i3 (e : Int) := by rw [← hS]; exact h21
    have f22 : fi S 44 22 = fig b e k := by rw [← hS]; rfl
    have fa : at32 (ia S 59) (i3 (k : Int)) = some (bt b k) := by rw [← hS]; exact h.at h2
    have en : ∀ x, sf (sf S 44 22 x) 44 19 (i3 ((k + 1 : Nat) : Int)) = sf (sf s 44 22 x) 44 19 (i3 ((k + 1 : Nat) : Int)) := fun x => by
      rw [← hS]
      refine St_ext (fun q => rfl) rfl (fun o j => ?_) rfl
      simp only [fi_sf]
      (repeat' split) <;> first | rfl | omega
    have go : ∀ x, x = fig b e (k + 1) → ((pI (H S) 8 44 22 x).bind fun th44 => (gI th44 8 44 19).bind fun x45 => (pI th44 8 44 19 (x45 + (Int32.ofInt 1))).bind fun th46 => nx th46) = nx (H (sf (sf s 44 22 (fig b e (k + 1))) 44 19 (i3 ((k + 1 : Nat) : Int)))) := fun x hx => by
      have f19' : fi (sf S 44 22 x) 44 19 = i3 (k : Int) := by rw [← f19]; rfl
      rw [(p_t S).2.2.2, Option.bind_some, (g_t _).2.1, Option.bind_some, f19', (p_t _).1, Option.bind_some, i3_nat_add, en, hx]
    rw [(g_t S).2.1, Option.bind_some, (g_t S).1, Option.bind_some, f19, f7, if_neg (nle h2 (show n ≤ 1000 by omega)), (g_t S).2.2.2.2.2.1, Option.bind_some, Option.bind_some, (g_t S).2.2.2.2.2.2, fa, Option.bind_some, q_223, Option.bind_some, bP_if]
    simp only [decide_eq_true_eq]
    by_cases c : cls (bt b k) = i3 2
    · rw [if_pos c, if_neg (fun e => e c), Option.bind_some, (g_t S).2.2.2.1, Option.bind_some, f21, jnE]
      have e1 : i3 (k : Int) - i3 (e : Int) = i3 ((k - e : Nat) : Int) := by rw [i3_sub]; congr 1; omega
      rw [e1]
      have e2 : (Int32.ofInt 2 ≤ i3 ((k - e : Nat) : Int)) ↔ 2 ≤ k - e := i3n_le (a := 2) (by omega) (by omega)
      by_cases d : 2 ≤ k - e
      · rw [if_pos (e2.mpr d)]
        dsimp only
        exact go _ (by rw [c1000]; unfold fig; rw [if_neg (by omega)])
      · rw [if_neg (fun q => d (e2.mp q)), (g_t S).2.2.2.2.1, Option.bind_some, Option.bind_some, Option.bind_some, (g_t S).2.2.2.2.2.2, fa, Option.bind_some, f22]
        dsimp only
        refine go _ ?_
        unfold fig
        rw [if_pos (by omega), if_pos (by omega), val_s h1, c10, c48]
        unfold vaF
        rw [Int32.mul_comm]
    · rw [if_neg c, if_pos c]
  · intro nx ex
    generalize hS : sf (sf s 44 22 (fig b e n)) 44 19 (i3 (n : Int)) = S
    have f19 : fi S 44 19 = i3 (n : Int) := by rw [← hS]; rfl
    have f7 : fi S 44 7 = i3 (n : Int) := by rw [← hS]; exact h.2.2.1
    rw [(g_t S).2.1, Option.bind_some, (g_t S).1, Option.bind_some, f19, f7, if_pos (Int32.le_refl (i3 (n : Int)))]
theorem q_224 (h : tpM s b n) {e : Nat} (he : e ≤ n) (h5 : fi s 44 19 = i3 (e : Int)) : ∃ s', m_224 44 (H s) = some (H s') ∧ tkM s' b (adv b n e) ∧ eU s s' := by
  have hn := h.2.2.2
  have sk : e ≤ skp b n e ∧ skp b n e ≤ n := gD_bd (p := fun i => decide (¬ bt b i = i3 32)) he
  have e0 : sf s 44 19 (i3 (e : Int)) = s := by rw [← h5]; exact sf_id s 44 19
  have L := lpm_skp (R := tH) h he
  rw [e0] at L
  have ad : adv b n e = (typ b n (skp b n e), skp b n e, if typ b n (skp b n e) = i3 0 then skp b n e else if typ b n (skp b n e) = i3 1 then run b n (i3 1) (skp b n e + 1) else if typ b n (skp b n e) = i3 2 then run b n (i3 2) (skp b n e + 1) else skp b n e + 1) := rfl
  unfold m_224
  rw [(r_m s).1, Option.bind_some, L, ad]
  generalize skp b n e = k at sk
  rw [(g_t _).2.1, Option.bind_some, show fi (sf s 44 19 (i3 (k : Int))) 44 19 = i3 (k : Int) from rfl, (p_t _).2.2.1, Option.bind_some, (p_t _).2.2.2, Option.bind_some]
  generalize hS : sf (sf (sf s 44 19 (i3 (k : Int))) 44 21 (i3 (k : Int))) 44 22 (Int32.ofInt 0) = S
  have f19 : fi S 44 19 = i3 (k : Int) := by rw [← hS]; rfl
  have f7 : fi S 44 7 = i3 (n : Int) := by rw [← hS]; exact h.2.2.1
  have f21 : fi S 44 21 = i3 (k : Int) := by rw [← hS]; rfl
  have f22 : fi S 44 22 = i3 0 := by rw [← hS]; rfl
  have hT : tpM S b n := by rw [← hS]; exact h
  have U : eU s S := by
    rw [← hS]
    exact ⟨rfl, rfl, fun o q hq => by rw [fi_sf, if_neg (by omega), fi_sf, if_neg (by omega), fi_sf, if_neg (by omega)], rfl⟩
  have U1 : ∀ (t : St) (q : Nat) (x : Int32), eU s t → (q = 19 ∨ q = 20 ∨ q = 22) → eU s (sf t 44 q x) := fun t q x ht hq => ⟨ht.1, ht.2.1, fun o j hj => by rw [fi_sf, if_neg (by omega)]; exact ht.2.2.1 o j hj, ht.2.2.2⟩
  rw [(g_t S).2.1, Option.bind_some, (g_t S).1, Option.bind_some, f19, f7, jnE]
  have ek : (i3 (k : Int) = i3 (n : Int)) ↔ k = n := i3n_inj (by omega) (by omega)
  by_cases c0 : k = n
  · have t0 : typ b n k = i3 0 := if_neg (by omega)
    rw [if_pos (ek.mpr c0), (p_t S).2.1, Option.bind_some, t0, if_pos rfl]
    refine ⟨_, rfl, ⟨rfl, ?_, ?_, ?_⟩, U1 _ 20 _ U (by omega)⟩
    · exact f21
    · exact f19
    · exact f22
  · have kn : k < n := by omega
    have t0 : typ b n k = cls (bt b k) := if_pos kn
    have fa : at32 (ia S 59) (i3 (k : Int)) = some (bt b k) := hT.at kn
    rw [if_neg (fun q => c0 (ek.mp q)), (g_t S).2.2.2.2.2.1, Option.bind_some, Option.bind_some, (g_t S).2.2.2.2.2.2, fa, Option.bind_some, q_222, Option.bind_some, bP_if, t0]
    by_cases c1 : cls (bt b k) = i3 1
    · have n0 : ¬ cls (bt b k) = i3 0 := by rw [c1]; decide +kernel
      rw [if_pos c1, if_neg n0, if_pos c1, (p_t S).2.1, Option.bind_some]
      have hT2 : tpM (sf S 44 20 (Int32.ofInt 1)) b n := hT
      have L2 := lpm_let (R := tH) hT2 (e := k) (by omega)
      have e1 : sf (sf S 44 20 (Int32.ofInt 1)) 44 19 (i3 (k : Int)) = sf S 44 20 (Int32.ofInt 1) := by
        have := sf_id (sf S 44 20 (Int32.ofInt 1)) 44 19
        rw [show fi (sf S 44 20 (Int32.ofInt 1)) 44 19 = i3 (k : Int) from f19] at this
        exact this
      rw [e1] at L2
      rw [L2, ← run_s kn c1]
      refine ⟨_, rfl, ⟨?_, ?_, rfl, ?_⟩, U1 _ 19 _ (U1 _ 20 _ U (by omega)) (by omega)⟩
      · exact c1.symm
      · exact f21
      · show fi S 44 22 = numM b _
        rw [f22]
        unfold numM
        rw [if_neg (by show ¬ cls (bt b k) = i3 2; rw [c1]; decide +kernel)]
    · rw [if_neg c1, if_neg c1, Option.bind_some, Option.bind_some, (g_t S).2.2.2.2.2.2, fa, Option.bind_some, q_223, Option.bind_some, bP_if]
      by_cases c2 : cls (bt b k) = i3 2
      · have n0 : ¬ cls (bt b k) = i3 0 := by rw [c2]; decide +kernel
        rw [if_pos c2, if_neg n0, if_pos c2, (p_t S).2.1, Option.bind_some]
        have hT2 : tpM (sf S 44 20 (Int32.ofInt 2)) b n := hT
        have L2 := lpm_fig (R := tH) hT2 (e := k) (by omega) f21
        have e1 : sf (sf (sf S 44 20 (Int32.ofInt 2)) 44 22 (i3 0)) 44 19 (i3 (k : Int)) = sf S 44 20 (Int32.ofInt 2) := by
          have g1 := sf_id (sf S 44 20 (Int32.ofInt 2)) 44 22
          rw [show fi (sf S 44 20 (Int32.ofInt 2)) 44 22 = i3 0 from f22] at g1
          rw [g1]
          have g2 := sf_id (sf S 44 20 (Int32.ofInt 2)) 44 19
          rw [show fi (sf S 44 20 (Int32.ofInt 2)) 44 19 = i3 (k : Int) from f19] at g2
          exact g2
        rw [e1] at L2
        rw [L2, ← run_s kn c2]
        refine ⟨_, rfl, ⟨?_, ?_, rfl, ?_⟩, U1 _ 19 _ (U1 _ 22 _ (U1 _ 20 _ U (by omega)) (by omega)) (by omega)⟩
        · exact c2.symm
        · exact f21
        · show fig b k (run b n (i3 2) k) = numM b (cls (bt b k), k, run b n (i3 2) k)
          unfold numM fig
          rw [if_pos c2]
      · have co := cls_o c1 c2
        have c59 : (Int8.ofInt 59).toInt32 = i3 59 := by decide +kernel
        have n0 : ¬ cls (bt b k) = i3 0 := by
          rw [co]
          split <;> decide +kernel
        rw [if_neg c2, if_neg n0, if_neg c2, Option.bind_some, Option.bind_some, (g_t S).2.2.2.2.2.2, fa, Option.bind_some, jnE, c59]
        have fin : ∀ x, x = cls (bt b k) → ∃ s', ((pI (H S) 8 44 20 x).bind fun th25 => (gI th25 8 44 19).bind fun x26 => (pI th25 8 44 19 (x26 + (Int32.ofInt 1))).bind fun th27 => some th27) = some (H s') ∧ tkM s' b (cls (bt b k), k, k + 1) ∧ eU s s' := fun x hx => by
          have f19' : fi (sf S 44 20 x) 44 19 = i3 (k : Int) := f19
          rw [(p_t S).2.1, Option.bind_some, (g_t _).2.1, Option.bind_some, f19', (p_t _).1, Option.bind_some, i3_nat_add]
          refine ⟨_, rfl, ⟨hx, f21, rfl, ?_⟩, U1 _ 19 _ (U1 _ 20 _ U (by omega)) (by omega)⟩
          show fi S 44 22 = numM b _
          rw [f22]
          unfold numM
          rw [if_neg c2]
        by_cases c3 : bt b k = i3 59
        · rw [if_pos c3]
          rw [if_pos c3] at co
          exact fin _ co.symm
        · rw [if_neg c3]
          rw [if_neg c3] at co
          exact fin _ co.symm
end MTA
