/-! ===== runs that come to an end ===== -/
noncomputable def T {α : Type} (m : Option α) (Q : α → Prop) : Prop := ∃ x, m = some x ∧ Q x
theorem T_some {α : Type} {x : α} {Q : α → Prop} (h : Q x) : T (some x) Q := ⟨x, rfl, h⟩
theorem T_bind {α β : Type} {m : Option α} {f : α → Option β} {P : α → Prop} {Q : β → Prop} (h : T m P) (k : ∀ x, P x → T (f x) Q) : T (m.bind f) Q := by
  obtain ⟨x, e, hx⟩ := h
  rw [e]
  exact k x hx
theorem T_imp {α : Type} {m : Option α} {P Q : α → Prop} (h : T m P) (k : ∀ x, P x → Q x) : T m Q := by
  obtain ⟨x, e, hx⟩ := h
  exact ⟨x, e, k x hx⟩
theorem lpH {σ X R : Type} {F : σ → (σ → Option R) → (X → Option R) → Option R} {K : X → Option R} {Q : R → Prop} (n : Nat) (I : Nat → σ → Prop) (J : X → Prop)
    (hs : ∀ k s, k < n → I k s → ∀ nx ex, (∀ s', I (k + 1) s' → T (nx s') Q) → (∀ x, J x → T (ex x) Q) → T (F s nx ex) Q)
    (he : ∀ s, I n s → ∀ nx ex, (∀ x, J x → T (ex x) Q) → T (F s nx ex) Q) (hK : ∀ x, J x → T (K x) Q) {s : σ} (h0 : I 0 s) (hn : n < 4096) : T (lp F 4096 s K) Q := by
  have key : ∀ m fuel, m ≤ n → m < fuel → ∀ s, I (n - m) s → T (lp F fuel s K) Q := by
    intro m
    induction m with
    | zero =>
      intro fuel _ hf s hI
      obtain ⟨q, rfl⟩ : ∃ q, fuel = q + 1 := ⟨fuel - 1, by omega⟩
      rw [lp_s]
      exact he s hI _ _ hK
    | succ m ih =>
      intro fuel hm hf s hI
      obtain ⟨q, rfl⟩ : ∃ q, fuel = q + 1 := ⟨fuel - 1, by omega⟩
      rw [lp_s]
      refine hs (n - (m + 1)) s (by omega) hI _ _ (fun s' h' => ih q (by omega) (by omega) s' ?_) hK
      rw [show n - (m + 1) + 1 = n - m by omega] at h'
      exact h'
  exact key n 4096 (Nat.le_refl _) hn s (by rw [Nat.sub_self]; exact h0)
/-! ===== what is only scratched ===== -/
noncomputable def sA (p : Nat) : Prop := p = 17 ∨ p = 19 ∨ p = 22 ∨ p = 65 ∨ p = 66
noncomputable def sF (o k : Nat) : Prop := o = 16 ∨ o = 20 ∨ o = 23 ∨ (o = 24 ∧ 2 ≤ k) ∨ (o = 44 ∧ 19 ≤ k)
noncomputable def sc (s s' : St) : Prop := (∀ p, ¬ sA p → ia s' p = ia s p) ∧ (∀ p, p ≠ 57 → la s' p = la s p) ∧ (∀ o k, ¬ sF o k → fi s' o k = fi s o k) ∧ s'.2.2.2 = s.2.2.2 ∧ (∀ p, (ia s' p).length = (ia s p).length) ∧ (∀ p, (la s' p).length = (la s p).length)
section SC
variable {s s' s2 : St}
theorem sc.refl (s : St) : sc s s := ⟨fun _ _ => rfl, fun _ _ => rfl, fun _ _ _ => rfl, rfl, fun _ => rfl, fun _ => rfl⟩
theorem sc.trans (h : sc s s') (k : sc s' s2) : sc s s2 := ⟨fun p hp => (k.1 p hp).trans (h.1 p hp), fun p hp => (k.2.1 p hp).trans (h.2.1 p hp), fun o q hq => (k.2.2.1 o q hq).trans (h.2.2.1 o q hq), k.2.2.2.1.trans h.2.2.2.1, fun p => (k.2.2.2.2.1 p).trans (h.2.2.2.2.1 p), fun p => (k.2.2.2.2.2 p).trans (h.2.2.2.2.2 p)⟩
theorem sc.f {o k : Nat} {x : Int32} (hf : sF o k) (h : sc s s') : sc s (sf s' o k x) := h.trans ⟨fun _ _ => rfl, fun _ _ => rfl, fun o' k' hk => by
    rw [fi_sf, if_neg]
    rintro ⟨rfl, rfl⟩
    exact hk hf, rfl, fun _ => rfl, fun _ => rfl⟩
theorem sc.a {p : Nat} {l : List Int32} (hp : sA p) (hl : l.length = (ia s' p).length) (h : sc s s') : sc s (sa s' p l) := h.trans ⟨fun q hq => by
    rw [ia_sa, if_neg]
    rintro rfl
    exact hq hp, fun _ _ => rfl, fun _ _ _ => rfl, rfl, fun q => by
    rw [ia_sa]
    split
    · rename_i e; rw [e]; exact hl
    · rfl, fun _ => rfl⟩
theorem sc.l {l : List Int64} (hl : l.length = (la s' 57).length) (h : sc s s') : sc s (sl s' 57 l) := h.trans ⟨fun _ _ => rfl, fun q hq => by
    rw [la_sl, if_neg hq], fun _ _ _ => rfl, rfl, fun _ => rfl, fun q => by
    rw [la_sl]
    split
    · rename_i e; rw [e]; exact hl
    · rfl⟩
theorem sc.ln (h : sc s s') (p : Nat) : (ia s' p).length = (ia s p).length := h.2.2.2.2.1 p
theorem sc.g (h : sc s s') {o : Nat} (ho : isG o) : gd s' o = gd s o := by
  have f := fun k hk => h.2.2.1 o k hk
  have a := fun p hp => h.1 p hp
  unfold gd
  rcases ho with rfl | rfl | rfl
  all_goals rw [f 4 (by unfold sF; omega), f 5 (by unfold sF; omega), f 6 (by unfold sF; omega), f 7 (by unfold sF; omega), a _ (by unfold sA; omega), a _ (by unfold sA; omega), a _ (by unfold sA; omega), a _ (by unfold sA; omega)]
theorem sc.m (h : sc s s') {o : Nat} (ho : o = 44 ∨ o = 67 ∨ o = 90) : md s' o = md s o := by
  have f := fun k hk => h.2.2.1 o k hk
  have a := fun p hp => h.1 p hp
  unfold md
  rcases ho with rfl | rfl | rfl
  all_goals rw [f 9 (by unfold sF; omega), f 10 (by unfold sF; omega), f 14 (by unfold sF; omega), f 16 (by unfold sF; omega), a _ (by unfold sA; omega), a _ (by unfold sA; omega), a _ (by unfold sA; omega), a _ (by unfold sA; omega)]
end SC
/-- the arrays that are scratched have their sizes -/
noncomputable def Sz (s : St) : Prop := (ia s 17).length = 66 ∧ (ia s 19).length = 64 ∧ (ia s 22).length = 64 ∧ (ia s 65).length = 3 ∧ (ia s 66).length = 70 ∧ (la s 57).length = 40
theorem sc.z {s s' : St} (h : sc s s') (z : Sz s) : Sz s' := by
  unfold Sz
  rw [h.ln, h.ln, h.ln, h.ln, h.ln, h.2.2.2.2.2]
  exact z
/-! ===== a set is put among others ===== -/
noncomputable def insA (x : Int32) : Nat → List Int32 → List Int32
  | 0, a => a.set 0 x
  | n + 1, a => if a.getD n 0 ≤ x then a.set (n + 1) x else insA x n (a.set (n + 1) (a.getD n 0))
theorem insA_len (x : Int32) : ∀ (n : Nat) (a : List Int32), (insA x n a).length = a.length
  | 0, a => List.length_set
  | n + 1, a => by
    unfold insA
    split
    · exact List.length_set
    · rw [insA_len x n]; exact List.length_set
theorem insA_hi (x : Int32) : ∀ (n : Nat) (a : List Int32) (j : Nat), n < j → (insA x n a)[j]? = a[j]?
  | 0, a, j, h => List.getElem?_set_ne (by omega)
  | n + 1, a, j, h => by
    unfold insA
    split
    · exact List.getElem?_set_ne (by omega)
    · rw [insA_hi x n _ j (by omega)]; exact List.getElem?_set_ne (by omega)
theorem insA_eq (x : Int32) : ∀ (n : Nat) (a b : List Int32), n < a.length → n < b.length → (∀ j, j < n → a[j]? = b[j]?) → ∀ j, j ≤ n → (insA x n a)[j]? = (insA x n b)[j]?
  | 0, a, b, ha, hb, h, j, hj => by
    obtain rfl : j = 0 := by omega
    show (a.set 0 x)[0]? = (b.set 0 x)[0]?
    rw [List.getElem?_set_self ha, List.getElem?_set_self hb]
  | n + 1, a, b, ha, hb, h, j, hj => by
    have e : a.getD n 0 = b.getD n 0 := by
      rw [List.getD_eq_getElem?_getD, List.getD_eq_getElem?_getD, h n (by omega)]
    unfold insA
    rw [e]
    split
    · by_cases c : j = n + 1
      · subst c
        rw [List.getElem?_set_self ha, List.getElem?_set_self hb]
      · rw [List.getElem?_set_ne (by omega), List.getElem?_set_ne (by omega), h j (by omega)]
    · by_cases c : j = n + 1
      · subst c
        rw [insA_hi x n _ _ (by omega), insA_hi x n _ _ (by omega), List.getElem?_set_self ha, List.getElem?_set_self hb]
      · exact insA_eq x n _ _ (by rw [List.length_set]; omega) (by rw [List.length_set]; omega) (fun i hi => by
          rw [List.getElem?_set_ne (by omega), List.getElem?_set_ne (by omega), h i (by omega)]) j (by omega)
/-- a list and one more -/
noncomputable def insL (x : Int32) (L : List Int32) : List Int32 := insA x L.length (L ++ [0])
theorem insL_len (x : Int32) (L : List Int32) : (insL x L).length = L.length + 1 := by
  unfold insL
  rw [insA_len, List.length_append]; rfl
/-- an array begins with a list -/
noncomputable def pre (L a : List Int32) : Prop := L.length ≤ a.length ∧ ∀ j, j < L.length → a[j]? = L[j]?
theorem pre.ins {x : Int32} {L a : List Int32} (h : pre L a) (hl : L.length < a.length) : pre (insL x L) (insA x L.length a) := by
  refine ⟨by rw [insL_len, insA_len]; omega, fun j hj => ?_⟩
  rw [insL_len] at hj
  unfold insL
  refine insA_eq x _ _ _ hl (by rw [List.length_append]; exact Nat.lt_succ_self _) (fun i hi => ?_) j (by omega)
  rw [h.2 i hi, List.getElem?_append_left hi]
theorem pre.at {L a : List Int32} (h : pre L a) {k : Nat} (hk : k < L.length) (hl : L.length ≤ 1000) : at32 a (i3 (k : Int)) = some (L.getD k 0) := by
  rw [at32_nat (by omega), h.2 k hk, List.getD_eq_getElem?_getD, List.getElem?_eq_getElem hk]
  rfl
/-! ===== all rows ===== -/
abbrev rlC (g : Gd) (i j : Nat) : Prop := ntz (rowS g (i3 (i : Int)) (i3 (j : Int))) = i3 (i : Int) ∧ ntz (rowS g (i3 (i : Int)) (i3 (j : Int)) &&& (rowS g (i3 (i : Int)) (i3 (j : Int)) - i3 1)) = i3 (j : Int)
noncomputable def rlF (g : Gd) (i j : Nat) (L : List Int32) : List Int32 := if rlC g i j then insL (rowS g (i3 (i : Int)) (i3 (j : Int))) L else L
noncomputable def rlI (g : Gd) (i : Nat) (L : List Int32) : List Int32 := fB (i + 1) (nn g) (rlF g i) L
noncomputable def RL (g : Gd) : List Int32 := itr (rlI g) (nn g) []
noncomputable def tri (n : Nat) : Nat → Nat
  | 0 => 0
  | i + 1 => tri n i + (n - (i + 1))
theorem tri_le {n i : Nat} (hn : n ≤ 12) (hi : i ≤ n) : tri n i ≤ 66 := by
  have h : ∀ n, n < 13 → ∀ i, i < 13 → (i ≤ n → tri n i ≤ 66) := by decide +kernel
  exact h n (by omega) i (by omega) hi
theorem rlF_len (g : Gd) (i j : Nat) (L : List Int32) : (rlF g i j L).length ≤ L.length + 1 := by
  unfold rlF
  split
  · rw [insL_len]; omega
  · omega
theorem rlJ_len (g : Gd) (i l : Nat) (L : List Int32) : ∀ k, (itr (fun k => rlF g i (l + k)) k L).length ≤ L.length + k
  | 0 => Nat.le_refl _
  | k + 1 => by
    have h1 := rlJ_len g i l L k
    have h2 := rlF_len g i (l + k) (itr (fun k => rlF g i (l + k)) k L)
    show (rlF g i (l + k) _).length ≤ _
    omega
theorem rlI_len (g : Gd) : ∀ i, (itr (rlI g) i []).length ≤ tri (nn g) i
  | 0 => Nat.le_refl _
  | i + 1 => by
    have h1 := rlI_len g i
    have h2 := rlJ_len g i (i + 1) (itr (rlI g) i []) (nn g - (i + 1))
    show (fB (i + 1) (nn g) (rlF g i) _).length ≤ tri (nn g) i + (nn g - (i + 1))
    unfold fB
    omega
theorem RL_len {g : Gd} (h : ok g) : (RL g).length ≤ 66 := Nat.le_trans (rlI_len g (nn g)) (tri_le h.n_le (Nat.le_refl _))
/-- the class's rows are these -/
noncomputable def rowsOK (s : St) (L : List Int32) : Prop := fi s 16 1 = i3 (L.length : Int) ∧ L.length ≤ 66 ∧ pre L (ia s 17)
section CR
variable {s : St}
theorem q_104 {n : Nat} {x : Int32} (hc : fi s 16 1 = i3 (n : Int)) (hn : n < 66) (hl : (ia s 17).length = 66) : m_104 16 x (H s) = some (H (sf (sa s 17 (insA x n (ia s 17))) 16 1 (i3 ((n + 1 : Nat) : Int)))) := by
  unfold m_104
  simp only [r_R, Option.bind_some, jn, cst, bP_if, rB_0, rB_1, z00, z10, ↓reduceIte, hc, hl, i3_nat]
  rw [if_pos ((i3n_lt (by omega) (by omega)).mpr hn)]
  have key : ∀ (F : Int32 × tH → (Int32 × tH → Option tH) → (Int32 × tH → Option tH) → Option tH) (K : Int32 × tH → Option tH), (∀ p nx ex (b : List Int32), p = 0 → b.length = 66 → F (i3 (p : Nat), H (sa s 17 b)) nx ex = ex (i3 (p : Nat), H (sa s 17 b))) → (∀ (p : Nat) nx ex (b : List Int32), 0 < p → p < 66 → b.length = 66 → F (i3 (p : Nat), H (sa s 17 b)) nx ex = if b.getD (p - 1) 0 ≤ x then ex (i3 (p : Nat), H (sa s 17 b)) else nx (i3 ((p - 1 : Nat) : Int), H (sa s 17 (b.set p (b.getD (p - 1) 0))))) → (∀ (p : Nat) (b : List Int32), p < 66 → b.length = 66 → K (i3 (p : Nat), H (sa s 17 b)) = some (H (sf (sa s 17 (b.set p x)) 16 1 (i3 ((n + 1 : Nat) : Int))))) → ∀ (m fuel : Nat) (b : List Int32), m < 66 → m < fuel → b.length = 66 → lp F fuel (i3 (m : Int), H (sa s 17 b)) K = some (H (sf (sa s 17 (insA x m b)) 16 1 (i3 ((n + 1 : Nat) : Int)))) := by
    intro F K h0 h1 h2 m
    induction m with
    | zero =>
      intro fuel b _ hf hb
      obtain ⟨q, rfl⟩ : ∃ q, fuel = q + 1 := ⟨fuel - 1, by omega⟩
      rw [lp_s, h0 0 _ _ b rfl hb, h2 0 b (by omega) hb]
      rfl
    | succ m ih =>
      intro fuel b hm hf hb
      obtain ⟨q, rfl⟩ : ∃ q, fuel = q + 1 := ⟨fuel - 1, by omega⟩
      rw [lp_s, h1 (m + 1) _ _ b (by omega) hm hb]
      show (if b.getD m 0 ≤ x then _ else _) = _
      unfold insA
      split
      · rw [h2 (m + 1) b hm hb]
      · exact ih q _ (by omega) (by omega) (by rw [List.length_set]; exact hb)
  rw [show H s = H (sa s 17 (ia s 17)) by rw [sa_id]]
  refine key _ _ ?_ ?_ ?_ n 4096 (ia s 17) hn (by omega) hl
  · intro p nx ex b hp hb
    subst hp
    have e : i3 ((0 : Nat) : Int) ≤ 0 := by decide +kernel
    simp only [e, Option.bind_some, jn, cst, bP_if, rB_0, rB_1, z00, z10, ↓reduceIte]
  · intro p nx ex b hp hp2 hb
    have hp3 : ¬ i3 (p : Int) ≤ 0 := by
      rw [show (0 : Int32) = i3 ((0 : Nat) : Int) from rfl, i3n_le (by omega) (by omega)]; omega
    dsimp only
    rw [if_neg hp3]
    have e2 : ∀ y, st32 b (i3 (p : Int)) y = some (b.set p y) := fun y => st32_nat (by omega) (by omega)
    simp only [r_R, Option.bind_some, jn, cst, bP_if, rB_0, rB_1, z00, z10, ↓reduceIte, i3_nat_sub hp, ia_sa, at32_nat (show p - 1 < 2147483648 by omega), i3_nat_dec hp, sa_sa, e2, Option.map_some, List.getD_eq_getElem?_getD, List.getElem?_eq_getElem (show p - 1 < b.length by omega), Option.getD_some]
  · intro p b hp hb
    simp only [r_R, Option.bind_some, jn, cst, bP_if, rB_0, rB_1, z00, z10, ↓reduceIte, ia_sa, sa_sa]
    rw [st32_nat (by omega) (by omega)]
    simp only [Option.bind_some, jn, cst, bP_if, rB_0, rB_1, z00, z10, ↓reduceIte, Option.map_some, r_R, fi_sa, hc, i3_nat_add]
theorem q_103 (h : ok (gd s 1)) (z : Sz s) : T (m_103 16 1 (H s)) (fun th => ∃ s', th = H s' ∧ sc s s' ∧ rowsOK s' (RL (gd s 1))) := by
  have ho : isG 1 := Or.inl rfl
  unfold m_103
  simp only [r_R, Option.bind_some, jn, cst, bP_if, rB_0, rB_1, z00, z10, ↓reduceIte]
  refine lpH (nn (gd s 1)) (fun k q => ∃ s', q = (i3 (k : Int), H s') ∧ sc s s' ∧ rowsOK s' (itr (rlI (gd s 1)) k [])) (fun th => ∃ s', th = H s' ∧ sc s s' ∧ rowsOK s' (RL (gd s 1))) ?_ ?_ ?_ ?_ (by have := h.n_le; omega)
  rotate_left 2
  · intro x hx
    exact T_some hx
  · exact ⟨sf s 16 1 (Int32.ofInt 0), rfl, (sc.refl s).f (Or.inl rfl), rfl, Nat.zero_le _, Nat.zero_le _, fun j hj => absurd hj (Nat.not_lt_zero _)⟩
  · rintro k _ hk ⟨s1, rfl, c1, r1⟩ nx ex hnx hex
    have g1 := c1.g ho
    have h1 : ok (gd s1 1) := by rw [g1]; exact h
    have hn := h.n_le
    simp only [r_G ho, Option.bind_some, jn, cst, bP_if, rB_0, rB_1, z00, z10, ↓reduceIte, g1, (h.T hk).2, i3_nat_add]
    refine lpH (nn (gd s 1) - (k + 1)) (fun m q => ∃ s', q = (i3 ((k + 1 + m : Nat) : Int), H s') ∧ sc s s' ∧ rowsOK s' (itr (fun m => rlF (gd s 1) k (k + 1 + m)) m (itr (rlI (gd s 1)) k []))) (fun th => ∃ s', th = H s' ∧ sc s s' ∧ rowsOK s' (itr (rlI (gd s 1)) (k + 1) [])) ?_ ?_ ?_ ?_ (by omega)
    rotate_left 3
    · exact ⟨s1, rfl, c1, r1⟩
    · rintro m _ hm ⟨s2, rfl, c2, r2⟩ nx2 ex2 hnx2 hex2
      have g2 := c2.g ho
      have h2 : ok (gd s2 1) := by rw [g2]; exact h
      have hk2 : isT (gd s2 1) (i3 (k : Int)) := by rw [g2]; exact h.T hk
      have hm2 : isT (gd s2 1) (i3 ((k + 1 + m : Nat) : Int)) := by rw [g2]; exact h.T (by omega)
      have hlen := rlJ_len (gd s 1) k (k + 1) (itr (rlI (gd s 1)) k []) m
      have hlen2 := rlI_len (gd s 1) k
      have ht := tri_le (n := nn (gd s 1)) (i := k + 1) (by omega) (by omega)
      have ht2 : tri (nn (gd s 1)) (k + 1) = tri (nn (gd s 1)) k + (nn (gd s 1) - (k + 1)) := rfl
      simp only [r_G ho, Option.bind_some, jn, cst, bP_if, rB_0, rB_1, z00, z10, ↓reduceIte, (h.T (show k + 1 + m < nn (gd s 1) by omega)).2, q_92 ho h2 hk2 hm2, q_65, q_66, i3_nat_add, g2]
      have hF : itr (fun m => rlF (gd s 1) k (k + 1 + m)) (m + 1) (itr (rlI (gd s 1)) k []) = rlF (gd s 1) k (k + 1 + m) (itr (fun m => rlF (gd s 1) k (k + 1 + m)) m (itr (rlI (gd s 1)) k [])) := rfl
      by_cases c : rlC (gd s 1) k (k + 1 + m)
      · rw [if_pos c.1, if_pos c.2, q_104 r2.1 (by omega) (by rw [c2.ln]; exact z.1)]
        simp only [Option.bind_some, jn, cst, bP_if, rB_0, rB_1, z00, z10, ↓reduceIte]
        refine hnx2 _ ⟨_, rfl, (c2.a (Or.inl rfl) (insA_len _ _ _)).f (Or.inl rfl), ?_⟩
        rw [hF, show rlF (gd s 1) k (k + 1 + m) _ = insL _ _ from if_pos c]
        refine ⟨?_, ?_, ?_⟩
        · rw [insL_len]; rfl
        · rw [insL_len]; omega
        · show pre _ (ia (sa s2 17 _) 17)
          rw [ia_sa, if_pos rfl]
          exact r2.2.2.ins (by rw [c2.ln, z.1]; omega)
      · have : T (nx2 (i3 ((k + 1 + m + 1 : Nat) : Int), H s2)) _ := hnx2 _ ⟨s2, rfl, c2, by
          rw [hF, show rlF (gd s 1) k (k + 1 + m) _ = _ from if_neg c]
          exact r2⟩
        split
        · split
          · rename_i e1 e2
            exact absurd ⟨e1, e2⟩ c
          · exact this
        · exact this
    · rintro _ ⟨s2, rfl, c2, r2⟩ nx2 ex2 hex2
      have g2 := c2.g ho
      simp only [r_G ho, Option.bind_some, jn, cst, bP_if, rB_0, rB_1, z00, z10, ↓reduceIte, g2]
      rw [if_pos (h.Te (by omega) (by omega))]
      exact hex2 _ ⟨s2, rfl, c2, r2⟩
    · rintro _ ⟨s2, rfl, c2, r2⟩
      exact hnx _ ⟨s2, rfl, c2, r2⟩
  · rintro _ ⟨s1, rfl, c1, r1⟩ nx ex hex
    have g1 := c1.g ho
    simp only [r_G ho, Option.bind_some, jn, cst, bP_if, rB_0, rB_1, z00, z10, ↓reduceIte, g1, h.Te (Nat.le_refl _) (by have := h.n_le; omega)]
    exact hex _ ⟨s1, rfl, c1, r1⟩
theorem q_63 (h : ok (gd s 1)) (z : Sz s) : ∃ s', m_63 0 (H s) = some (16, H s') ∧ sc s s' ∧ rowsOK s' (RL (gd s 1)) := by
  obtain ⟨_, e, s', rfl, c, r⟩ := q_103 h z
  refine ⟨s', ?_, c, r⟩
  unfold m_63
  simp only [r_0, Option.bind_some, jn, cst, bP_if, rB_0, rB_1, z00, z10, ↓reduceIte, e]
end CR
