section
/-! ===== ints by whole numbers ===== -/
abbrev i3 (x : Int) : Int32 := Int32.ofInt x
/-- small -/
def sm (x : Int) : Prop := -2147483648 ≤ x ∧ x < 2147483648
theorem i3_toInt {x : Int} (h : sm x) : (i3 x).toInt = x := Int32.toInt_ofInt_of_le h.1 h.2
theorem i3_lt {x y : Int} (hx : sm x) (hy : sm y) : i3 x < i3 y ↔ x < y := by rw [Int32.lt_iff_toInt_lt, i3_toInt hx, i3_toInt hy]
theorem i3_le {x y : Int} (hx : sm x) (hy : sm y) : i3 x ≤ i3 y ↔ x ≤ y := by rw [Int32.le_iff_toInt_le, i3_toInt hx, i3_toInt hy]
theorem i3_inj {x y : Int} (hx : sm x) (hy : sm y) : i3 x = i3 y ↔ x = y := by rw [← Int32.toInt_inj, i3_toInt hx, i3_toInt hy]
theorem i3_add (x y : Int) : i3 x + i3 y = i3 (x + y) := (Int32.ofInt_add x y).symm
theorem i3_sub (x y : Int) : i3 x - i3 y = i3 (x - y) := (Int32.ofInt_sub x y).symm
theorem i3_mul (x y : Int) : i3 x * i3 y = i3 (x * y) := (Int32.ofInt_mul x y).symm
theorem i3_neg (x : Int) : -i3 x = i3 (-x) := (Int32.ofInt_neg x).symm
theorem i3_div {x y : Int} (hx : sm x) (hy : sm y) : i3 x / i3 y = i3 (x.tdiv y) := by
  have a1 : Int32.minValue.toInt = -2147483648 := by decide +kernel
  have a2 : Int32.maxValue.toInt = 2147483647 := by decide +kernel
  obtain ⟨h1, h2⟩ := hx
  obtain ⟨h3, h4⟩ := hy
  exact (Int32.ofInt_tdiv (by omega) (by omega) (by omega) (by omega)).symm
theorem i3_all (x : Int32) : ∃ z : Int, sm z ∧ x = i3 z := ⟨x.toInt, ⟨by have := Int32.le_toInt x; omega, by have := Int32.toInt_lt x; omega⟩, (Int32.ofInt_toInt x).symm⟩
theorem i3_nat (n : Nat) : Int32.ofNat n = i3 (n : Int) := by
  apply Int32.toBitVec_inj.mp
  rw [Int32.toBitVec_ofInt]
  rfl
theorem i3_0 : (0 : Int32) = i3 0 := rfl
theorem i3_1 : (1 : Int32) = i3 1 := rfl
theorem i3_clamp {x : Int} (h : sm x) : (i3 x).toNatClampNeg = x.toNat := by
  show (i3 x).toInt.toNat = _
  rw [i3_toInt h]
theorem i3_8 {x : Int} (h : -128 ≤ x ∧ x < 128) : (Int8.ofInt x).toInt32 = i3 x := by
  apply Int32.toInt_inj.mp
  rw [Int8.toInt_toInt32, Int8.toInt_ofInt_of_le (by omega) (by omega), i3_toInt ⟨by omega, by omega⟩]
theorem i3_16 {x : Int} (h : -32768 ≤ x ∧ x < 32768) : (Int16.ofInt x).toInt32 = i3 x := by
  apply Int32.toInt_inj.mp
  rw [Int16.toInt_toInt32, Int16.toInt_ofInt_of_le (by omega) (by omega), i3_toInt ⟨by omega, by omega⟩]
def bI (b : Bool) : Int32 := if b = true then 1 else 0
theorem rB_bI (b : Bool) : rB (bI b) = some (bI b) := by cases b <;> rfl
theorem bI_0 (b : Bool) : bI b = 0 ↔ b = false := by cases b <;> decide
theorem bI_t : bI true = 1 := rfl
theorem bI_f : bI false = 0 := rfl
/-- an element -/
def at32 (a : List Int32) (i : Int32) : Option Int32 := if ¬ i < 0 then a[i.toNatClampNeg]? else none
def at64 (a : List Int64) (i : Int32) : Option Int64 := if ¬ i < 0 then a[i.toNatClampNeg]? else none
def st32 (a : List Int32) (i x : Int32) : Option (List Int32) := if ¬ i < 0 ∧ i.toNatClampNeg < a.length then some (a.set i.toNatClampNeg x) else none
def st64 (a : List Int64) (i : Int32) (x : Int64) : Option (List Int64) := if ¬ i < 0 ∧ i.toNatClampNeg < a.length then some (a.set i.toNatClampNeg x) else none
theorem i3_nn {k : Nat} (h : k < 2147483648) : ¬ i3 (k : Int) < 0 := by
  rw [i3_0, i3_lt ⟨by omega, by omega⟩ ⟨by omega, by omega⟩]; omega
theorem at32_nat {a : List Int32} {k : Nat} (h : k < 2147483648) : at32 a (i3 (k : Int)) = a[k]? := by
  unfold at32
  rw [if_pos (i3_nn h), i3_clamp ⟨by omega, by omega⟩]; rfl
theorem at64_nat {a : List Int64} {k : Nat} (h : k < 2147483648) : at64 a (i3 (k : Int)) = a[k]? := by
  unfold at64
  rw [if_pos (i3_nn h), i3_clamp ⟨by omega, by omega⟩]; rfl
theorem st32_nat {a : List Int32} {k : Nat} {x : Int32} (h : k < a.length) (hl : a.length ≤ 1000) : st32 a (i3 (k : Int)) x = some (a.set k x) := by
  unfold st32
  rw [i3_clamp ⟨by omega, by omega⟩, if_pos ⟨i3_nn (by omega), h⟩]; rfl
theorem st64_nat {a : List Int64} {k : Nat} {x : Int64} (h : k < a.length) (hl : a.length ≤ 1000) : st64 a (i3 (k : Int)) x = some (a.set k x) := by
  unfold st64
  rw [i3_clamp ⟨by omega, by omega⟩, if_pos ⟨i3_nn (by omega), h⟩]; rfl
theorem aI_of {th : tH} {o : Nat} {a : List Int32} {i : Int32} (h : th[o]? = some (.inl (0, .inl a))) : aI th o i = at32 a i := by
  unfold aI at32
  rw [h]
  dsimp only
  by_cases c : i < 0
  · rw [if_neg (fun e => e.2 c), if_neg (fun e => e c)]
  · rw [if_pos ⟨rfl, c⟩, if_pos c]
theorem aJ_of {th : tH} {o : Nat} {a : List Int64} {i : Int32} (h : th[o]? = some (.inl (1, .inr (.inl a)))) : aJ th o i = at64 a i := by
  unfold aJ at64
  rw [h]
  dsimp only
  by_cases c : i < 0
  · rw [if_neg (fun e => e.2 c), if_neg (fun e => e c)]
  · rw [if_pos ⟨rfl, c⟩, if_pos c]
theorem sI_of {th : tH} {o : Nat} {a : List Int32} {i x : Int32} (h : th[o]? = some (.inl (0, .inl a))) : sI th o i x = (st32 a i x).map (fun l => th.set o (.inl (0, .inl l))) := by
  unfold sI st32
  rw [h]
  dsimp only
  by_cases c : ¬ i < 0 ∧ i.toNatClampNeg < a.length
  · rw [if_pos ⟨rfl, c⟩, if_pos c]; rfl
  · rw [if_neg (fun e => c e.2), if_neg c]; rfl
theorem sJ_of {th : tH} {o : Nat} {a : List Int64} {i : Int32} {x : Int64} (h : th[o]? = some (.inl (1, .inr (.inl a)))) : sJ th o i x = (st64 a i x).map (fun l => th.set o (.inl (1, .inr (.inl l)))) := by
  unfold sJ st64
  rw [h]
  dsimp only
  by_cases c : ¬ i < 0 ∧ i.toNatClampNeg < a.length
  · rw [if_pos ⟨rfl, c⟩, if_pos c]; rfl
  · rw [if_neg (fun e => c e.2), if_neg c]; rfl
theorem cpI_of {th : tH} {j k : Nat} {f g : List Int32} {sp dp n : Nat} (hj : th[j]? = some (.inl (0, .inl f))) (hk : th[k]? = some (.inl (0, .inl g))) (h1 : sp + n ≤ f.length) (h2 : dp + n ≤ g.length) (hf : f.length ≤ 1000) (hg : g.length ≤ 1000) : cpI th j (i3 sp) k (i3 dp) (i3 n) = some (th.set k (.inl (0, .inl (t_cpy f g sp dp n)))) := by
  unfold cpI
  rw [if_pos ⟨i3_nn (by omega), i3_nn (by omega), i3_nn (by omega)⟩, hj]
  dsimp only
  rw [hk]
  dsimp only
  rw [i3_clamp ⟨by omega, by omega⟩, i3_clamp ⟨by omega, by omega⟩, i3_clamp ⟨by omega, by omega⟩]
  exact if_pos ⟨rfl, rfl, h1, h2⟩
theorem cpJ_of {th : tH} {j k : Nat} {f g : List Int64} {sp dp n : Nat} (hj : th[j]? = some (.inl (1, .inr (.inl f)))) (hk : th[k]? = some (.inl (1, .inr (.inl g)))) (h1 : sp + n ≤ f.length) (h2 : dp + n ≤ g.length) (hf : f.length ≤ 1000) (hg : g.length ≤ 1000) : cpJ th j (i3 sp) k (i3 dp) (i3 n) = some (th.set k (.inl (1, .inr (.inl (t_cpy f g sp dp n))))) := by
  unfold cpJ
  rw [if_pos ⟨i3_nn (by omega), i3_nn (by omega), i3_nn (by omega)⟩, hj]
  dsimp only
  rw [hk]
  dsimp only
  rw [i3_clamp ⟨by omega, by omega⟩, i3_clamp ⟨by omega, by omega⟩, i3_clamp ⟨by omega, by omega⟩]
  exact if_pos ⟨rfl, rfl, h1, h2⟩
/-! ===== loops ===== -/
theorem lp_s {σ X R : Type} {F : σ → (σ → Option R) → (X → Option R) → Option R} {n : Nat} {s : σ} {K : X → Option R} : lp F (n + 1) s K = F s (fun s' => lp F n s' K) K := rfl
/-- f 0, f 1, .. f (n - 1), one behind another -/
def itr {α : Type} (f : Nat → α → α) : Nat → α → α
  | 0, a => a
  | n + 1, a => f n (itr f n a)
/-- the first of n numbers of which p is so -/
def fst? (p : Nat → Bool) : Nat → Nat → Option Nat
  | 0, _ => none
  | n + 1, k => if p k = true then some k else fst? p n (k + 1)
theorem fst?_some {p : Nat → Bool} : ∀ {n k j : Nat}, fst? p n k = some j → k ≤ j ∧ j < k + n ∧ p j = true ∧ ∀ m, k ≤ m → m < j → p m = false
  | 0, _, _, h => by cases h
  | n + 1, k, j, h => by
    unfold fst? at h
    by_cases c : p k = true
    · rw [if_pos c] at h
      cases h
      exact ⟨Nat.le_refl _, by omega, c, fun m h1 h2 => by omega⟩
    · rw [if_neg c] at h
      obtain ⟨h1, h2, h3, h4⟩ := fst?_some h
      refine ⟨by omega, by omega, h3, fun m h5 h6 => ?_⟩
      by_cases e : m = k
      · subst e; simpa using c
      · exact h4 m (by omega) h6
theorem fst?_none {p : Nat → Bool} : ∀ {n k : Nat}, fst? p n k = none → ∀ m, k ≤ m → m < k + n → p m = false
  | 0, _, _, m, h1, h2 => by omega
  | n + 1, k, h, m, h1, h2 => by
    unfold fst? at h
    by_cases c : p k = true
    · rw [if_pos c] at h; cases h
    · rw [if_neg c] at h
      by_cases e : m = k
      · subst e; simpa using c
      · exact fst?_none h m (by omega) (by omega)
theorem fst?_congr {p q : Nat → Bool} : ∀ {n k : Nat}, (∀ m, k ≤ m → m < k + n → p m = q m) → fst? p n k = fst? q n k
  | 0, _, _ => rfl
  | n + 1, k, h => by
    unfold fst?
    rw [h k (Nat.le_refl _) (by omega), fst?_congr (fun m h1 h2 => h m (by omega) (by omega))]
theorem itr_congr {α : Type} {f g : Nat → α → α} {a : α} : ∀ {n : Nat}, (∀ k b, k < n → f k b = g k b) → itr f n a = itr g n a
  | 0, _ => rfl
  | n + 1, h => by
    show f n (itr f n a) = g n (itr g n a)
    rw [itr_congr (fun k b hk => h k b (by omega)), h n _ (by omega)]
theorem lp_acc {σ X R α : Type} {F : σ → (σ → Option R) → (X → Option R) → Option R} {K : X → Option R} (n : Nat) (en : Nat → α → σ) (out : α → X) (f : Nat → α → α) (I : Nat → α → Prop) (a0 : α)
    (hs : ∀ i a nx ex, i < n → I i a → F (en i a) nx ex = nx (en (i + 1) (f i a))) (hI : ∀ i a, i < n → I i a → I (i + 1) (f i a)) (he : ∀ a nx ex, I n a → F (en n a) nx ex = ex (out a)) (h0 : I 0 a0) {fuel : Nat} (hf : n < fuel) : lp F fuel (en 0 a0) K = K (out (itr f n a0)) := by
  have hi : ∀ k, k ≤ n → I k (itr f k a0) := by
    intro k
    induction k with
    | zero => intro _; exact h0
    | succ k ih => intro hk; exact hI k _ (by omega) (ih (by omega))
  have key : ∀ m fuel, m ≤ n → m < fuel → lp F fuel (en (n - m) (itr f (n - m) a0)) K = K (out (itr f n a0)) := by
    intro m
    induction m with
    | zero =>
      intro fuel _ hf
      obtain ⟨q, rfl⟩ : ∃ q, fuel = q + 1 := ⟨fuel - 1, by omega⟩
      rw [lp_s, Nat.sub_zero, he _ _ _ (hi n (Nat.le_refl _))]
    | succ m ih =>
      intro fuel hm hf
      obtain ⟨q, rfl⟩ : ∃ q, fuel = q + 1 := ⟨fuel - 1, by omega⟩
      rw [lp_s, hs _ _ _ _ (by omega) (hi _ (by omega))]
      have e : n - (m + 1) + 1 = n - m := by omega
      have := ih q (by omega) (by omega)
      rw [← e] at this
      exact this
  have := key n fuel (Nat.le_refl _) hf
  rw [Nat.sub_self] at this
  exact this
theorem lp_srch {σ X R : Type} {F : σ → (σ → Option R) → (X → Option R) → Option R} {K : X → Option R} (n : Nat) (en : Nat → σ) (x : X) (p : Nat → Bool) (r : Nat → Option R)
    (hs : ∀ i nx ex, i < n → F (en i) nx ex = if p i = true then r i else nx (en (i + 1))) (he : ∀ nx ex, F (en n) nx ex = ex x) {fuel : Nat} (hf : n < fuel) : lp F fuel (en 0) K = match fst? p n 0 with | some k => r k | none => K x := by
  have key : ∀ m fuel, m ≤ n → m < fuel → lp F fuel (en (n - m)) K = match fst? p m (n - m) with | some k => r k | none => K x := by
    intro m
    induction m with
    | zero =>
      intro fuel _ hf
      obtain ⟨q, rfl⟩ : ∃ q, fuel = q + 1 := ⟨fuel - 1, by omega⟩
      rw [lp_s, Nat.sub_zero, he]
      rfl
    | succ m ih =>
      intro fuel hm hf
      obtain ⟨q, rfl⟩ : ∃ q, fuel = q + 1 := ⟨fuel - 1, by omega⟩
      rw [lp_s, hs _ _ _ (by omega)]
      unfold fst?
      by_cases c : p (n - (m + 1)) = true
      · rw [if_pos c, if_pos c]
      · rw [if_neg c, if_neg c]
        have e : n - (m + 1) + 1 = n - m := by omega
        rw [e]
        exact ih q (by omega) (by omega)
  have := key n fuel (Nat.le_refl _) hf
  rw [Nat.sub_self] at this
  exact this
end
section
/-! ===== the memory: all cells out of their arrays and fields ===== -/
abbrev St : Type := (Nat → List Int32) × (Nat → List Int64) × (Nat → Nat → Int32) × (Option Nat × Option Nat × Nat)
def ia (s : St) (p : Nat) : List Int32 := s.1 p
def la (s : St) (p : Nat) : List Int64 := s.2.1 p
def fi (s : St) (o k : Nat) : Int32 := s.2.2.1 o k
def kr (s : St) : Option Nat := s.2.2.2.1
def tr (s : St) : Option Nat := s.2.2.2.2.1
def nm (s : St) : Nat := s.2.2.2.2.2
def sa (s : St) (p : Nat) (l : List Int32) : St := (fun q => if q = p then l else s.1 q, s.2)
def sl (s : St) (p : Nat) (l : List Int64) : St := (s.1, (fun q => if q = p then l else s.2.1 q), s.2.2)
def sf (s : St) (o k : Nat) (x : Int32) : St := (s.1, s.2.1, (fun o' k' => if o' = o ∧ k' = k then x else s.2.2.1 o' k'), s.2.2.2)
/-- a model that is kept or tried -/
def mc (s : St) (q : Nat) : tH := [
  .inr (8, [.ref (q + 1), .ref (q + 2), .ref (q + 3), .ref (q + 4), .ref (q + 13), .ref (q + 14), .ref (q + 15), .int (fi s q 7), .ref (q + 16), .int (fi s q 9), .int (fi s q 10), .ref (q + 17), .ref (q + 18), .ref (q + 19), .int (fi s q 14), .ref (q + 20), .int (fi s q 16), .null, .null, .int (fi s q 19), .int (fi s q 20), .int (fi s q 21), .int (fi s q 22), .int (fi s q 23), .ref (q + 21), .int (fi s q 25), .ref (q + 22), .int (fi s q 27), .int (fi s q 28), .int (fi s q 29), .int (fi s q 30)]),
  .inl (0, .inl (ia s (q + 1))),
  .inl (0, .inl (ia s (q + 2))),
  .inl (0, .inl (ia s (q + 3))),
  .inl (3, .inr (.inr [some (q + 5), some (q + 6), some (q + 7), some (q + 8), some (q + 9), some (q + 10), some (q + 11), some (q + 12)])),
  .inl (1, .inr (.inl (la s (q + 5)))),
  .inl (1, .inr (.inl (la s (q + 6)))),
  .inl (1, .inr (.inl (la s (q + 7)))),
  .inl (1, .inr (.inl (la s (q + 8)))),
  .inl (1, .inr (.inl (la s (q + 9)))),
  .inl (1, .inr (.inl (la s (q + 10)))),
  .inl (1, .inr (.inl (la s (q + 11)))),
  .inl (1, .inr (.inl (la s (q + 12)))),
  .inl (1, .inr (.inl (la s (q + 13)))),
  .inl (0, .inl (ia s (q + 14))),
  .inl (0, .inl (ia s (q + 15))),
  .inl (0, .inl (ia s (q + 16))),
  .inl (0, .inl (ia s (q + 17))),
  .inl (0, .inl (ia s (q + 18))),
  .inl (0, .inl (ia s (q + 19))),
  .inl (0, .inl (ia s (q + 20))),
  .inl (0, .inl (ia s (q + 21))),
  .inl (0, .inl (ia s (q + 22)))]
def tl (s : St) : Nat → tH
  | 0 => []
  | 1 => mc s 67
  | _ + 2 => mc s 67 ++ mc s 90
def H (s : St) : tH := ([
  .inr (7, [.ref 1, .ref 6, .ref 11, .ref 16, .ref 18, .ref 20, .ref 23, .ref 24, .ref 26, .ref 27, .int (fi s 0 10)]),
  .inr (2, [.ref 2, .ref 3, .ref 4, .ref 5, .int (fi s 1 4), .int (fi s 1 5), .int (fi s 1 6), .int (fi s 1 7)]),
  .inl (0, .inl (ia s 2)),
  .inl (0, .inl (ia s 3)),
  .inl (0, .inl (ia s 4)),
  .inl (0, .inl (ia s 5)),
  .inr (2, [.ref 7, .ref 8, .ref 9, .ref 10, .int (fi s 6 4), .int (fi s 6 5), .int (fi s 6 6), .int (fi s 6 7)]),
  .inl (0, .inl (ia s 7)),
  .inl (0, .inl (ia s 8)),
  .inl (0, .inl (ia s 9)),
  .inl (0, .inl (ia s 10)),
  .inr (2, [.ref 12, .ref 13, .ref 14, .ref 15, .int (fi s 11 4), .int (fi s 11 5), .int (fi s 11 6), .int (fi s 11 7)]),
  .inl (0, .inl (ia s 12)),
  .inl (0, .inl (ia s 13)),
  .inl (0, .inl (ia s 14)),
  .inl (0, .inl (ia s 15)),
  .inr (4, [.ref 17, .int (fi s 16 1)]),
  .inl (0, .inl (ia s 17)),
  .inr (0, [.ref 19]),
  .inl (0, .inl (ia s 19)),
  .inr (3, [.ref 21, .int (fi s 20 1), .int (fi s 20 2), .int (fi s 20 3), .int (fi s 20 4)]),
  .inr (0, [.ref 22]),
  .inl (0, .inl (ia s 22)),
  .inr (1, [.int (fi s 23 0), .int (fi s 23 1), .int (fi s 23 2), .int (fi s 23 3)]),
  .inr (6, [.ref 25, .int (fi s 24 1), .int (fi s 24 2), .int (fi s 24 3), .int (fi s 24 4), .int (fi s 24 5), .int (fi s 24 6)]),
  .inl (0, .inl (ia s 25)),
  .inl (2, .inr (.inr [some 28, some 30, some 32, some 34, some 36, some 38, some 40, some 42])),
  .inl (0, .inl (ia s 27)),
  .inr (5, [.ref 29, .int (fi s 28 1), .int (fi s 28 2), .int (fi s 28 3)]),
  .inl (1, .inr (.inl (la s 29))),
  .inr (5, [.ref 31, .int (fi s 30 1), .int (fi s 30 2), .int (fi s 30 3)]),
  .inl (1, .inr (.inl (la s 31))),
  .inr (5, [.ref 33, .int (fi s 32 1), .int (fi s 32 2), .int (fi s 32 3)]),
  .inl (1, .inr (.inl (la s 33))),
  .inr (5, [.ref 35, .int (fi s 34 1), .int (fi s 34 2), .int (fi s 34 3)]),
  .inl (1, .inr (.inl (la s 35))),
  .inr (5, [.ref 37, .int (fi s 36 1), .int (fi s 36 2), .int (fi s 36 3)]),
  .inl (1, .inr (.inl (la s 37))),
  .inr (5, [.ref 39, .int (fi s 38 1), .int (fi s 38 2), .int (fi s 38 3)]),
  .inl (1, .inr (.inl (la s 39))),
  .inr (5, [.ref 41, .int (fi s 40 1), .int (fi s 40 2), .int (fi s 40 3)]),
  .inl (1, .inr (.inl (la s 41))),
  .inr (5, [.ref 43, .int (fi s 42 1), .int (fi s 42 2), .int (fi s 42 3)]),
  .inl (1, .inr (.inl (la s 43))),
  .inr (8, [.ref 45, .ref 46, .ref 47, .ref 48, .ref 57, .ref 58, .ref 59, .int (fi s 44 7), .ref 60, .int (fi s 44 9), .int (fi s 44 10), .ref 61, .ref 62, .ref 63, .int (fi s 44 14), .ref 64, .int (fi s 44 16), va_rf (kr s), va_rf (tr s), .int (fi s 44 19), .int (fi s 44 20), .int (fi s 44 21), .int (fi s 44 22), .int (fi s 44 23), .ref 65, .int (fi s 44 25), .ref 66, .int (fi s 44 27), .int (fi s 44 28), .int (fi s 44 29), .int (fi s 44 30)]),
  .inl (0, .inl (ia s 45)),
  .inl (0, .inl (ia s 46)),
  .inl (0, .inl (ia s 47)),
  .inl (3, .inr (.inr [some 49, some 50, some 51, some 52, some 53, some 54, some 55, some 56])),
  .inl (1, .inr (.inl (la s 49))),
  .inl (1, .inr (.inl (la s 50))),
  .inl (1, .inr (.inl (la s 51))),
  .inl (1, .inr (.inl (la s 52))),
  .inl (1, .inr (.inl (la s 53))),
  .inl (1, .inr (.inl (la s 54))),
  .inl (1, .inr (.inl (la s 55))),
  .inl (1, .inr (.inl (la s 56))),
  .inl (1, .inr (.inl (la s 57))),
  .inl (0, .inl (ia s 58)),
  .inl (0, .inl (ia s 59)),
  .inl (0, .inl (ia s 60)),
  .inl (0, .inl (ia s 61)),
  .inl (0, .inl (ia s 62)),
  .inl (0, .inl (ia s 63)),
  .inl (0, .inl (ia s 64)),
  .inl (0, .inl (ia s 65)),
  .inl (0, .inl (ia s 66))] : tH) ++ tl s (nm s)
theorem ia_sa (s : St) (p q : Nat) (l : List Int32) : ia (sa s p l) q = if q = p then l else ia s q := rfl
theorem ia_sl (s : St) (p q : Nat) (l : List Int64) : ia (sl s p l) q = ia s q := rfl
theorem ia_sf (s : St) (o k q : Nat) (x : Int32) : ia (sf s o k x) q = ia s q := rfl
theorem la_sa (s : St) (p q : Nat) (l : List Int32) : la (sa s p l) q = la s q := rfl
theorem la_sl (s : St) (p q : Nat) (l : List Int64) : la (sl s p l) q = if q = p then l else la s q := rfl
theorem la_sf (s : St) (o k q : Nat) (x : Int32) : la (sf s o k x) q = la s q := rfl
theorem fi_sa (s : St) (p o k : Nat) (l : List Int32) : fi (sa s p l) o k = fi s o k := rfl
theorem fi_sl (s : St) (p o k : Nat) (l : List Int64) : fi (sl s p l) o k = fi s o k := rfl
theorem fi_sf (s : St) (o k o' k' : Nat) (x : Int32) : fi (sf s o k x) o' k' = if o' = o ∧ k' = k then x else fi s o' k' := rfl
theorem kr_sa (s : St) (p : Nat) (l : List Int32) : kr (sa s p l) = kr s ∧ tr (sa s p l) = tr s ∧ nm (sa s p l) = nm s := ⟨rfl, rfl, rfl⟩
theorem kr_sl (s : St) (p : Nat) (l : List Int64) : kr (sl s p l) = kr s ∧ tr (sl s p l) = tr s ∧ nm (sl s p l) = nm s := ⟨rfl, rfl, rfl⟩
theorem kr_sf (s : St) (o k : Nat) (x : Int32) : kr (sf s o k x) = kr s ∧ tr (sf s o k x) = tr s ∧ nm (sf s o k x) = nm s := ⟨rfl, rfl, rfl⟩
theorem sa_sa (s : St) (p : Nat) (l l' : List Int32) : sa (sa s p l) p l' = sa s p l' := by
  unfold sa
  refine Prod.ext (funext fun q => ?_) rfl
  show (if q = p then l' else if q = p then l else s.1 q) = if q = p then l' else s.1 q
  split <;> rfl
theorem sf_sf (s : St) (o k : Nat) (x y : Int32) : sf (sf s o k x) o k y = sf s o k y := by
  unfold sf
  refine Prod.ext rfl (Prod.ext rfl (Prod.ext (funext fun o' => funext fun k' => ?_) rfl))
  show (if o' = o ∧ k' = k then y else if o' = o ∧ k' = k then x else s.2.2.1 o' k') = if o' = o ∧ k' = k then y else s.2.2.1 o' k'
  split <;> rfl
theorem sl_sl (s : St) (p : Nat) (l l' : List Int64) : sl (sl s p l) p l' = sl s p l' := by
  unfold sl
  refine Prod.ext rfl (Prod.ext (funext fun q => ?_) rfl)
  show (if q = p then l' else if q = p then l else s.2.1 q) = if q = p then l' else s.2.1 q
  split <;> rfl
theorem sf_id (s : St) (o k : Nat) : sf s o k (fi s o k) = s := by
  refine Prod.ext rfl (Prod.ext rfl (Prod.ext (funext fun o' => funext fun k' => ?_) rfl))
  show (if o' = o ∧ k' = k then s.2.2.1 o k else s.2.2.1 o' k') = s.2.2.1 o' k'
  split
  · rename_i h; rw [h.1, h.2]
  · rfl
theorem sa_id (s : St) (p : Nat) : sa s p (ia s p) = s := by
  refine Prod.ext (funext fun q => ?_) rfl
  show (if q = p then s.1 p else s.1 q) = s.1 q
  split
  · rename_i h; rw [h]
  · rfl
theorem H_len (s : St) : (H s).length = 67 + (tl s (nm s)).length := by
  unfold H
  rw [List.length_append]
  rfl
theorem gR_rf {th : tH} {c o k : Nat} {fs : List Value} {x : Option Nat} (h : th[o]? = some (.inr (c, fs))) (hf : fs[k]? = some (va_rf x)) : gR th c o k = some x := by
  unfold gR
  rw [h]
  dsimp only
  rw [if_pos rfl, hf]
  cases x <;> rfl
/-- a garden: side, trees, wishes, seed; kinds, cells, values, sets -/
abbrev Gd : Type := Int32 × Int32 × Int32 × Int32 × List Int32 × List Int32 × List Int32 × List Int32
def sD (g : Gd) : Int32 := g.1
def tN (g : Gd) : Int32 := g.2.1
def wN (g : Gd) : Int32 := g.2.2.1
def sE (g : Gd) : Int32 := g.2.2.2.1
def kS (g : Gd) : List Int32 := g.2.2.2.2.1
def cS (g : Gd) : List Int32 := g.2.2.2.2.2.1
def vS (g : Gd) : List Int32 := g.2.2.2.2.2.2.1
def wS (g : Gd) : List Int32 := g.2.2.2.2.2.2.2
def gd (s : St) (o : Nat) : Gd := (fi s o 4, fi s o 5, fi s o 6, fi s o 7, ia s (o + 1), ia s (o + 2), ia s (o + 3), ia s (o + 4))
def md (s : St) (o : Nat) : Gd := (fi s o 9, fi s o 10, fi s o 14, fi s o 16, ia s (o + 17), ia s (o + 18), ia s (o + 19), ia s (o + 20))
def isG (o : Nat) : Prop := o = 1 ∨ o = 6 ∨ o = 11
def isC (o : Nat) : Prop := o = 18 ∨ o = 21
def isS (o : Nat) : Prop := o = 28 ∨ o = 30 ∨ o = 32 ∨ o = 34 ∨ o = 36 ∨ o = 38 ∨ o = 40 ∨ o = 42
theorem r_0 (s : St) : gC (H s) 7 0 = some () ∧ gN (H s) 7 0 0 = some 1 ∧ gN (H s) 7 0 1 = some 6 ∧ gN (H s) 7 0 2 = some 11 ∧ gN (H s) 7 0 3 = some 16 ∧ gN (H s) 7 0 4 = some 18 ∧ gN (H s) 7 0 5 = some 20 ∧ gN (H s) 7 0 6 = some 23 ∧ gN (H s) 7 0 7 = some 24 ∧ gN (H s) 7 0 8 = some 26 ∧ gN (H s) 7 0 9 = some 27 ∧ gI (H s) 7 0 10 = some (fi s 0 10) ∧ (∀ x, pI (H s) 7 0 10 x = some (H (sf s 0 10 x))) ∧ aL (H s) 26 = some (Int32.ofNat 8) ∧ (∀ i, aI (H s) 27 i = at32 (ia s 27) i) ∧ aL (H s) 27 = some (Int32.ofNat (ia s 27).length) ∧ (∀ i x, sI (H s) 27 i x = (st32 (ia s 27) i x).map (fun l => H (sa s 27 l))) := ⟨rfl, rfl, rfl, rfl, rfl, rfl, rfl, rfl, rfl, rfl, rfl, rfl, fun _ => rfl, rfl, fun _ => aI_of rfl, rfl, fun _ _ => sI_of rfl⟩
theorem r_G {o : Nat} (h : isG o) (s : St) : gC (H s) 2 o = some () ∧ gN (H s) 2 o 0 = some (o + 1) ∧ gN (H s) 2 o 1 = some (o + 2) ∧ gN (H s) 2 o 2 = some (o + 3) ∧ gN (H s) 2 o 3 = some (o + 4) ∧ gI (H s) 2 o 4 = some (sD (gd s o)) ∧ (∀ x, pI (H s) 2 o 4 x = some (H (sf s o 4 x))) ∧ gI (H s) 2 o 5 = some (tN (gd s o)) ∧ (∀ x, pI (H s) 2 o 5 x = some (H (sf s o 5 x))) ∧ gI (H s) 2 o 6 = some (wN (gd s o)) ∧ (∀ x, pI (H s) 2 o 6 x = some (H (sf s o 6 x))) ∧ gI (H s) 2 o 7 = some (sE (gd s o)) ∧ (∀ x, pI (H s) 2 o 7 x = some (H (sf s o 7 x))) ∧ (∀ i, aI (H s) (o + 1) i = at32 (kS (gd s o)) i) ∧ aL (H s) (o + 1) = some (Int32.ofNat (kS (gd s o)).length) ∧ (∀ i x, sI (H s) (o + 1) i x = (st32 (kS (gd s o)) i x).map (fun l => H (sa s (o + 1) l))) ∧ (∀ i, aI (H s) (o + 2) i = at32 (cS (gd s o)) i) ∧ aL (H s) (o + 2) = some (Int32.ofNat (cS (gd s o)).length) ∧ (∀ i x, sI (H s) (o + 2) i x = (st32 (cS (gd s o)) i x).map (fun l => H (sa s (o + 2) l))) ∧ (∀ i, aI (H s) (o + 3) i = at32 (vS (gd s o)) i) ∧ aL (H s) (o + 3) = some (Int32.ofNat (vS (gd s o)).length) ∧ (∀ i x, sI (H s) (o + 3) i x = (st32 (vS (gd s o)) i x).map (fun l => H (sa s (o + 3) l))) ∧ (∀ i, aI (H s) (o + 4) i = at32 (wS (gd s o)) i) ∧ aL (H s) (o + 4) = some (Int32.ofNat (wS (gd s o)).length) ∧ (∀ i x, sI (H s) (o + 4) i x = (st32 (wS (gd s o)) i x).map (fun l => H (sa s (o + 4) l))) := by
  rcases h with rfl | rfl | rfl
  all_goals exact ⟨rfl, rfl, rfl, rfl, rfl, rfl, fun _ => rfl, rfl, fun _ => rfl, rfl, fun _ => rfl, rfl, fun _ => rfl, fun _ => aI_of rfl, rfl, fun _ _ => sI_of rfl, fun _ => aI_of rfl, rfl, fun _ _ => sI_of rfl, fun _ => aI_of rfl, rfl, fun _ _ => sI_of rfl, fun _ => aI_of rfl, rfl, fun _ _ => sI_of rfl⟩
theorem r_R (s : St) : gC (H s) 4 16 = some () ∧ gN (H s) 4 16 0 = some 17 ∧ gI (H s) 4 16 1 = some (fi s 16 1) ∧ (∀ x, pI (H s) 4 16 1 x = some (H (sf s 16 1 x))) ∧ (∀ i, aI (H s) 17 i = at32 (ia s 17) i) ∧ aL (H s) 17 = some (Int32.ofNat (ia s 17).length) ∧ (∀ i x, sI (H s) 17 i x = (st32 (ia s 17) i x).map (fun l => H (sa s 17 l))) := ⟨rfl, rfl, rfl, fun _ => rfl, fun _ => aI_of rfl, rfl, fun _ _ => sI_of rfl⟩
theorem r_C {o : Nat} (h : isC o) (s : St) : gC (H s) 0 o = some () ∧ gN (H s) 0 o 0 = some (o + 1) ∧ (∀ i, aI (H s) (o + 1) i = at32 (ia s (o + 1)) i) ∧ aL (H s) (o + 1) = some (Int32.ofNat (ia s (o + 1)).length) ∧ (∀ i x, sI (H s) (o + 1) i x = (st32 (ia s (o + 1)) i x).map (fun l => H (sa s (o + 1) l))) := by
  rcases h with rfl | rfl
  all_goals exact ⟨rfl, rfl, fun _ => aI_of rfl, rfl, fun _ _ => sI_of rfl⟩
theorem r_M (s : St) : gC (H s) 3 20 = some () ∧ gN (H s) 3 20 0 = some 21 ∧ gI (H s) 3 20 1 = some (fi s 20 1) ∧ (∀ x, pI (H s) 3 20 1 x = some (H (sf s 20 1 x))) ∧ gI (H s) 3 20 2 = some (fi s 20 2) ∧ (∀ x, pI (H s) 3 20 2 x = some (H (sf s 20 2 x))) ∧ gI (H s) 3 20 3 = some (fi s 20 3) ∧ (∀ x, pI (H s) 3 20 3 x = some (H (sf s 20 3 x))) ∧ gI (H s) 3 20 4 = some (fi s 20 4) ∧ (∀ x, pI (H s) 3 20 4 x = some (H (sf s 20 4 x))) := ⟨rfl, rfl, rfl, fun _ => rfl, rfl, fun _ => rfl, rfl, fun _ => rfl, rfl, fun _ => rfl⟩
theorem r_P (s : St) : gC (H s) 1 23 = some () ∧ gI (H s) 1 23 0 = some (fi s 23 0) ∧ (∀ x, pI (H s) 1 23 0 x = some (H (sf s 23 0 x))) ∧ gI (H s) 1 23 1 = some (fi s 23 1) ∧ (∀ x, pI (H s) 1 23 1 x = some (H (sf s 23 1 x))) ∧ gI (H s) 1 23 2 = some (fi s 23 2) ∧ (∀ x, pI (H s) 1 23 2 x = some (H (sf s 23 2 x))) ∧ gI (H s) 1 23 3 = some (fi s 23 3) ∧ (∀ x, pI (H s) 1 23 3 x = some (H (sf s 23 3 x))) := ⟨rfl, rfl, fun _ => rfl, rfl, fun _ => rfl, rfl, fun _ => rfl, rfl, fun _ => rfl⟩
theorem r_T (s : St) : gC (H s) 6 24 = some () ∧ gN (H s) 6 24 0 = some 25 ∧ gI (H s) 6 24 1 = some (fi s 24 1) ∧ (∀ x, pI (H s) 6 24 1 x = some (H (sf s 24 1 x))) ∧ gI (H s) 6 24 2 = some (fi s 24 2) ∧ (∀ x, pI (H s) 6 24 2 x = some (H (sf s 24 2 x))) ∧ gI (H s) 6 24 3 = some (fi s 24 3) ∧ (∀ x, pI (H s) 6 24 3 x = some (H (sf s 24 3 x))) ∧ gI (H s) 6 24 4 = some (fi s 24 4) ∧ (∀ x, pI (H s) 6 24 4 x = some (H (sf s 24 4 x))) ∧ gI (H s) 6 24 5 = some (fi s 24 5) ∧ (∀ x, pI (H s) 6 24 5 x = some (H (sf s 24 5 x))) ∧ gI (H s) 6 24 6 = some (fi s 24 6) ∧ (∀ x, pI (H s) 6 24 6 x = some (H (sf s 24 6 x))) ∧ (∀ i, aI (H s) 25 i = at32 (ia s 25) i) ∧ aL (H s) 25 = some (Int32.ofNat (ia s 25).length) ∧ (∀ i x, sI (H s) 25 i x = (st32 (ia s 25) i x).map (fun l => H (sa s 25 l))) := ⟨rfl, rfl, rfl, fun _ => rfl, rfl, fun _ => rfl, rfl, fun _ => rfl, rfl, fun _ => rfl, rfl, fun _ => rfl, rfl, fun _ => rfl, fun _ => aI_of rfl, rfl, fun _ _ => sI_of rfl⟩
theorem r_S {o : Nat} (h : isS o) (s : St) : gC (H s) 5 o = some () ∧ gN (H s) 5 o 0 = some (o + 1) ∧ gI (H s) 5 o 1 = some (fi s o 1) ∧ (∀ x, pI (H s) 5 o 1 x = some (H (sf s o 1 x))) ∧ gI (H s) 5 o 2 = some (fi s o 2) ∧ (∀ x, pI (H s) 5 o 2 x = some (H (sf s o 2 x))) ∧ gI (H s) 5 o 3 = some (fi s o 3) ∧ (∀ x, pI (H s) 5 o 3 x = some (H (sf s o 3 x))) ∧ (∀ i, aJ (H s) (o + 1) i = at64 (la s (o + 1)) i) ∧ aL (H s) (o + 1) = some (Int32.ofNat (la s (o + 1)).length) ∧ (∀ i x, sJ (H s) (o + 1) i x = (st64 (la s (o + 1)) i x).map (fun l => H (sl s (o + 1) l))) := by
  rcases h with rfl | rfl | rfl | rfl | rfl | rfl | rfl | rfl
  all_goals exact ⟨rfl, rfl, rfl, fun _ => rfl, rfl, fun _ => rfl, rfl, fun _ => rfl, fun _ => aJ_of rfl, rfl, fun _ _ => sJ_of rfl⟩
theorem r_m (s : St) : gC (H s) 8 44 = some () ∧ gN (H s) 8 44 0 = some 45 ∧ gN (H s) 8 44 1 = some 46 ∧ gN (H s) 8 44 2 = some 47 ∧ gN (H s) 8 44 3 = some 48 ∧ gN (H s) 8 44 4 = some 57 ∧ gN (H s) 8 44 5 = some 58 ∧ gN (H s) 8 44 6 = some 59 ∧ gI (H s) 8 44 7 = some (fi s 44 7) ∧ (∀ x, pI (H s) 8 44 7 x = some (H (sf s 44 7 x))) ∧ gN (H s) 8 44 8 = some 60 ∧ gI (H s) 8 44 9 = some (sD (md s 44)) ∧ (∀ x, pI (H s) 8 44 9 x = some (H (sf s 44 9 x))) ∧ gI (H s) 8 44 10 = some (tN (md s 44)) ∧ (∀ x, pI (H s) 8 44 10 x = some (H (sf s 44 10 x))) ∧ gN (H s) 8 44 11 = some 61 ∧ gN (H s) 8 44 12 = some 62 ∧ gN (H s) 8 44 13 = some 63 ∧ gI (H s) 8 44 14 = some (wN (md s 44)) ∧ (∀ x, pI (H s) 8 44 14 x = some (H (sf s 44 14 x))) ∧ gN (H s) 8 44 15 = some 64 ∧ gI (H s) 8 44 16 = some (sE (md s 44)) ∧ (∀ x, pI (H s) 8 44 16 x = some (H (sf s 44 16 x))) ∧ gR (H s) 8 44 17 = some (kr s) ∧ gR (H s) 8 44 18 = some (tr s) ∧ gI (H s) 8 44 19 = some (fi s 44 19) ∧ (∀ x, pI (H s) 8 44 19 x = some (H (sf s 44 19 x))) ∧ gI (H s) 8 44 20 = some (fi s 44 20) ∧ (∀ x, pI (H s) 8 44 20 x = some (H (sf s 44 20 x))) ∧ gI (H s) 8 44 21 = some (fi s 44 21) ∧ (∀ x, pI (H s) 8 44 21 x = some (H (sf s 44 21 x))) ∧ gI (H s) 8 44 22 = some (fi s 44 22) ∧ (∀ x, pI (H s) 8 44 22 x = some (H (sf s 44 22 x))) ∧ gI (H s) 8 44 23 = some (fi s 44 23) ∧ (∀ x, pI (H s) 8 44 23 x = some (H (sf s 44 23 x))) ∧ gN (H s) 8 44 24 = some 65 ∧ gI (H s) 8 44 25 = some (fi s 44 25) ∧ (∀ x, pI (H s) 8 44 25 x = some (H (sf s 44 25 x))) ∧ gN (H s) 8 44 26 = some 66 ∧ gI (H s) 8 44 27 = some (fi s 44 27) ∧ (∀ x, pI (H s) 8 44 27 x = some (H (sf s 44 27 x))) ∧ gI (H s) 8 44 28 = some (fi s 44 28) ∧ (∀ x, pI (H s) 8 44 28 x = some (H (sf s 44 28 x))) ∧ gI (H s) 8 44 29 = some (fi s 44 29) ∧ (∀ x, pI (H s) 8 44 29 x = some (H (sf s 44 29 x))) ∧ gI (H s) 8 44 30 = some (fi s 44 30) ∧ (∀ x, pI (H s) 8 44 30 x = some (H (sf s 44 30 x))) ∧ (∀ i, aI (H s) 45 i = at32 (ia s 45) i) ∧ aL (H s) 45 = some (Int32.ofNat (ia s 45).length) ∧ (∀ i x, sI (H s) 45 i x = (st32 (ia s 45) i x).map (fun l => H (sa s 45 l))) ∧ (∀ i, aI (H s) 46 i = at32 (ia s 46) i) ∧ aL (H s) 46 = some (Int32.ofNat (ia s 46).length) ∧ (∀ i x, sI (H s) 46 i x = (st32 (ia s 46) i x).map (fun l => H (sa s 46 l))) ∧ (∀ i, aI (H s) 47 i = at32 (ia s 47) i) ∧ aL (H s) 47 = some (Int32.ofNat (ia s 47).length) ∧ (∀ i x, sI (H s) 47 i x = (st32 (ia s 47) i x).map (fun l => H (sa s 47 l))) ∧ (∀ i, aJ (H s) 57 i = at64 (la s 57) i) ∧ aL (H s) 57 = some (Int32.ofNat (la s 57).length) ∧ (∀ i x, sJ (H s) 57 i x = (st64 (la s 57) i x).map (fun l => H (sl s 57 l))) ∧ (∀ i, aI (H s) 58 i = at32 (ia s 58) i) ∧ aL (H s) 58 = some (Int32.ofNat (ia s 58).length) ∧ (∀ i x, sI (H s) 58 i x = (st32 (ia s 58) i x).map (fun l => H (sa s 58 l))) ∧ (∀ i, aI (H s) 59 i = at32 (ia s 59) i) ∧ aL (H s) 59 = some (Int32.ofNat (ia s 59).length) ∧ (∀ i x, sI (H s) 59 i x = (st32 (ia s 59) i x).map (fun l => H (sa s 59 l))) ∧ (∀ i, aI (H s) 60 i = at32 (ia s 60) i) ∧ aL (H s) 60 = some (Int32.ofNat (ia s 60).length) ∧ (∀ i x, sI (H s) 60 i x = (st32 (ia s 60) i x).map (fun l => H (sa s 60 l))) ∧ (∀ i, aI (H s) 61 i = at32 (kS (md s 44)) i) ∧ aL (H s) 61 = some (Int32.ofNat (kS (md s 44)).length) ∧ (∀ i x, sI (H s) 61 i x = (st32 (kS (md s 44)) i x).map (fun l => H (sa s 61 l))) ∧ (∀ i, aI (H s) 62 i = at32 (cS (md s 44)) i) ∧ aL (H s) 62 = some (Int32.ofNat (cS (md s 44)).length) ∧ (∀ i x, sI (H s) 62 i x = (st32 (cS (md s 44)) i x).map (fun l => H (sa s 62 l))) ∧ (∀ i, aI (H s) 63 i = at32 (vS (md s 44)) i) ∧ aL (H s) 63 = some (Int32.ofNat (vS (md s 44)).length) ∧ (∀ i x, sI (H s) 63 i x = (st32 (vS (md s 44)) i x).map (fun l => H (sa s 63 l))) ∧ (∀ i, aI (H s) 64 i = at32 (wS (md s 44)) i) ∧ aL (H s) 64 = some (Int32.ofNat (wS (md s 44)).length) ∧ (∀ i x, sI (H s) 64 i x = (st32 (wS (md s 44)) i x).map (fun l => H (sa s 64 l))) ∧ (∀ i, aI (H s) 65 i = at32 (ia s 65) i) ∧ aL (H s) 65 = some (Int32.ofNat (ia s 65).length) ∧ (∀ i x, sI (H s) 65 i x = (st32 (ia s 65) i x).map (fun l => H (sa s 65 l))) ∧ (∀ i, aI (H s) 66 i = at32 (ia s 66) i) ∧ aL (H s) 66 = some (Int32.ofNat (ia s 66).length) ∧ (∀ i x, sI (H s) 66 i x = (st32 (ia s 66) i x).map (fun l => H (sa s 66 l))) := ⟨rfl, rfl, rfl, rfl, rfl, rfl, rfl, rfl, rfl, fun _ => rfl, rfl, rfl, fun _ => rfl, rfl, fun _ => rfl, rfl, rfl, rfl, rfl, fun _ => rfl, rfl, rfl, fun _ => rfl, gR_rf rfl rfl, gR_rf rfl rfl, rfl, fun _ => rfl, rfl, fun _ => rfl, rfl, fun _ => rfl, rfl, fun _ => rfl, rfl, fun _ => rfl, rfl, rfl, fun _ => rfl, rfl, rfl, fun _ => rfl, rfl, fun _ => rfl, rfl, fun _ => rfl, rfl, fun _ => rfl, fun _ => aI_of rfl, rfl, fun _ _ => sI_of rfl, fun _ => aI_of rfl, rfl, fun _ _ => sI_of rfl, fun _ => aI_of rfl, rfl, fun _ _ => sI_of rfl, fun _ => aJ_of rfl, rfl, fun _ _ => sJ_of rfl, fun _ => aI_of rfl, rfl, fun _ _ => sI_of rfl, fun _ => aI_of rfl, rfl, fun _ _ => sI_of rfl, fun _ => aI_of rfl, rfl, fun _ _ => sI_of rfl, fun _ => aI_of rfl, rfl, fun _ _ => sI_of rfl, fun _ => aI_of rfl, rfl, fun _ _ => sI_of rfl, fun _ => aI_of rfl, rfl, fun _ _ => sI_of rfl, fun _ => aI_of rfl, rfl, fun _ _ => sI_of rfl, fun _ => aI_of rfl, rfl, fun _ _ => sI_of rfl, fun _ => aI_of rfl, rfl, fun _ _ => sI_of rfl⟩
def isL (o : Nat) : Prop := o = 49 ∨ o = 50 ∨ o = 51 ∨ o = 52 ∨ o = 53 ∨ o = 54 ∨ o = 55 ∨ o = 56
theorem r_L {o : Nat} (h : isL o) (s : St) : (∀ i, aJ (H s) o i = at64 (la s o) i) ∧ aL (H s) o = some (Int32.ofNat (la s o).length) ∧ (∀ i x, sJ (H s) o i x = (st64 (la s o) i x).map (fun l => H (sl s o l))) := by
  rcases h with rfl | rfl | rfl | rfl | rfl | rfl | rfl | rfl
  all_goals exact ⟨fun _ => aJ_of rfl, rfl, fun _ _ => sJ_of rfl⟩
theorem r_sh (s : St) : ∀ k : Nat, k < 8 → aN (H s) 26 (i3 (k : Int)) = some (28 + 2 * k) ∧ isS (28 + 2 * k)
  | 0, _ => ⟨rfl, Or.inl rfl⟩
  | 1, _ => ⟨rfl, Or.inr (Or.inl rfl)⟩
  | 2, _ => ⟨rfl, Or.inr (Or.inr (Or.inl rfl))⟩
  | 3, _ => ⟨rfl, Or.inr (Or.inr (Or.inr (Or.inl rfl)))⟩
  | 4, _ => ⟨rfl, Or.inr (Or.inr (Or.inr (Or.inr (Or.inl rfl))))⟩
  | 5, _ => ⟨rfl, Or.inr (Or.inr (Or.inr (Or.inr (Or.inr (Or.inl rfl)))))⟩
  | 6, _ => ⟨rfl, Or.inr (Or.inr (Or.inr (Or.inr (Or.inr (Or.inr (Or.inl rfl))))))⟩
  | 7, _ => ⟨rfl, Or.inr (Or.inr (Or.inr (Or.inr (Or.inr (Or.inr (Or.inr rfl))))))⟩
  | n + 8, h => absurd h (by omega)
theorem r_ml (s : St) : ∀ k : Nat, k < 8 → aN (H s) 48 (i3 (k : Int)) = some (49 + k) ∧ isL (49 + k)
  | 0, _ => ⟨rfl, Or.inl rfl⟩
  | 1, _ => ⟨rfl, Or.inr (Or.inl rfl)⟩
  | 2, _ => ⟨rfl, Or.inr (Or.inr (Or.inl rfl))⟩
  | 3, _ => ⟨rfl, Or.inr (Or.inr (Or.inr (Or.inl rfl)))⟩
  | 4, _ => ⟨rfl, Or.inr (Or.inr (Or.inr (Or.inr (Or.inl rfl))))⟩
  | 5, _ => ⟨rfl, Or.inr (Or.inr (Or.inr (Or.inr (Or.inr (Or.inl rfl)))))⟩
  | 6, _ => ⟨rfl, Or.inr (Or.inr (Or.inr (Or.inr (Or.inr (Or.inr (Or.inl rfl))))))⟩
  | 7, _ => ⟨rfl, Or.inr (Or.inr (Or.inr (Or.inr (Or.inr (Or.inr (Or.inr rfl))))))⟩
  | n + 8, h => absurd h (by omega)
def isK (s : St) (o : Nat) : Prop := (o = 67 ∧ 1 ≤ nm s) ∨ (o = 90 ∧ 2 ≤ nm s)
theorem r_k {s : St} {o : Nat} (h : isK s o) : gC (H s) 8 o = some () ∧ gI (H s) 8 o 9 = some (sD (md s o)) ∧ (∀ x, pI (H s) 8 o 9 x = some (H (sf s o 9 x))) ∧ gI (H s) 8 o 10 = some (tN (md s o)) ∧ (∀ x, pI (H s) 8 o 10 x = some (H (sf s o 10 x))) ∧ gI (H s) 8 o 14 = some (wN (md s o)) ∧ (∀ x, pI (H s) 8 o 14 x = some (H (sf s o 14 x))) ∧ gI (H s) 8 o 16 = some (sE (md s o)) ∧ (∀ x, pI (H s) 8 o 16 x = some (H (sf s o 16 x))) ∧ gN (H s) 8 o 11 = some (o + 17) ∧ (∀ i, aI (H s) (o + 17) i = at32 (kS (md s o)) i) ∧ aL (H s) (o + 17) = some (Int32.ofNat (kS (md s o)).length) ∧ (∀ i x, sI (H s) (o + 17) i x = (st32 (kS (md s o)) i x).map (fun l => H (sa s (o + 17) l))) ∧ gN (H s) 8 o 12 = some (o + 18) ∧ (∀ i, aI (H s) (o + 18) i = at32 (cS (md s o)) i) ∧ aL (H s) (o + 18) = some (Int32.ofNat (cS (md s o)).length) ∧ (∀ i x, sI (H s) (o + 18) i x = (st32 (cS (md s o)) i x).map (fun l => H (sa s (o + 18) l))) ∧ gN (H s) 8 o 13 = some (o + 19) ∧ (∀ i, aI (H s) (o + 19) i = at32 (vS (md s o)) i) ∧ aL (H s) (o + 19) = some (Int32.ofNat (vS (md s o)).length) ∧ (∀ i x, sI (H s) (o + 19) i x = (st32 (vS (md s o)) i x).map (fun l => H (sa s (o + 19) l))) ∧ gN (H s) 8 o 15 = some (o + 20) ∧ (∀ i, aI (H s) (o + 20) i = at32 (wS (md s o)) i) ∧ aL (H s) (o + 20) = some (Int32.ofNat (wS (md s o)).length) ∧ (∀ i x, sI (H s) (o + 20) i x = (st32 (wS (md s o)) i x).map (fun l => H (sa s (o + 20) l))) := by
  obtain ⟨a, b, c, k, t, n⟩ := s
  rcases h with ⟨rfl, h⟩ | ⟨rfl, h⟩
  · match n, h with
    | 1, _ => exact ⟨rfl, rfl, fun _ => rfl, rfl, fun _ => rfl, rfl, fun _ => rfl, rfl, fun _ => rfl, rfl, fun _ => aI_of rfl, rfl, fun _ _ => sI_of rfl, rfl, fun _ => aI_of rfl, rfl, fun _ _ => sI_of rfl, rfl, fun _ => aI_of rfl, rfl, fun _ _ => sI_of rfl, rfl, fun _ => aI_of rfl, rfl, fun _ _ => sI_of rfl⟩
    | n + 2, _ => exact ⟨rfl, rfl, fun _ => rfl, rfl, fun _ => rfl, rfl, fun _ => rfl, rfl, fun _ => rfl, rfl, fun _ => aI_of rfl, rfl, fun _ _ => sI_of rfl, rfl, fun _ => aI_of rfl, rfl, fun _ _ => sI_of rfl, rfl, fun _ => aI_of rfl, rfl, fun _ _ => sI_of rfl, rfl, fun _ => aI_of rfl, rfl, fun _ _ => sI_of rfl⟩
  · match n, h with
    | n + 2, _ => exact ⟨rfl, rfl, fun _ => rfl, rfl, fun _ => rfl, rfl, fun _ => rfl, rfl, fun _ => rfl, rfl, fun _ => aI_of rfl, rfl, fun _ _ => sI_of rfl, rfl, fun _ => aI_of rfl, rfl, fun _ _ => sI_of rfl, rfl, fun _ => aI_of rfl, rfl, fun _ _ => sI_of rfl, rfl, fun _ => aI_of rfl, rfl, fun _ _ => sI_of rfl⟩
end
section
/-! ===== numbers and conditions ===== -/
theorem cst : (Int8.ofInt (-2)).toInt32 = i3 (-2) ∧ (Int8.ofInt (-3)).toInt32 = i3 (-3) ∧ (Int8.ofInt (-4)).toInt32 = i3 (-4) ∧ (Int8.ofInt (-5)).toInt32 = i3 (-5) ∧ (Int8.ofInt (-6)).toInt32 = i3 (-6) ∧ (Int8.ofInt (-8)).toInt32 = i3 (-8) ∧ (Int8.ofInt (-20)).toInt32 = i3 (-20) ∧ (Int8.ofInt 6).toInt32 = i3 6 ∧ (Int8.ofInt 7).toInt32 = i3 7 ∧ (Int8.ofInt 8).toInt32 = i3 8 ∧ (Int8.ofInt 9).toInt32 = i3 9 ∧ (Int8.ofInt 10).toInt32 = i3 10 ∧ (Int8.ofInt 12).toInt32 = i3 12 ∧ (Int8.ofInt 16).toInt32 = i3 16 ∧ (Int8.ofInt 32).toInt32 = i3 32 ∧ (Int8.ofInt 40).toInt32 = i3 40 ∧ (Int8.ofInt 48).toInt32 = i3 48 ∧ (Int8.ofInt 57).toInt32 = i3 57 ∧ (Int8.ofInt 59).toInt32 = i3 59 ∧ (Int8.ofInt 97).toInt32 = i3 97 ∧ (Int8.ofInt 100).toInt32 = i3 100 ∧ (Int8.ofInt 122).toInt32 = i3 122 ∧ (Int16.ofInt 250).toInt32 = i3 250 ∧ (Int16.ofInt 255).toInt32 = i3 255 ∧ (Int16.ofInt 12345).toInt32 = i3 12345 ∧ (Int16.ofInt 1000).toInt32 = i3 1000 := by decide +kernel
noncomputable def bP (P : Prop) [Decidable P] : Int32 := if P then i3 1 else i3 0
theorem bP_if {α : Type} {P : Prop} {i1 : Decidable P} {i2 : Decidable (bP P = 0)} {x y : α} : @ite α (bP P = 0) i2 x y = @ite α P i1 y x := by
  by_cases h : P
  · have e : ¬ bP P = 0 := by
      unfold bP
      rw [if_pos h]
      decide +kernel
    rw [if_neg e, if_pos h]
  · have e : bP P = 0 := by
      unfold bP
      rw [if_neg h]
      rfl
    rw [if_pos e, if_neg h]
theorem bP_t {P : Prop} [Decidable P] (h : P) : bP P = i3 1 := if_pos h
theorem bP_f {P : Prop} [Decidable P] (h : ¬ P) : bP P = i3 0 := if_neg h
theorem rB_1 : rB (i3 1) = some (i3 1) := rfl
theorem rB_0 : rB (i3 0) = some (i3 0) := rfl
theorem rB_bP {P : Prop} [Decidable P] : rB (bP P) = some (bP P) := by
  unfold bP
  split <;> rfl
theorem i3_cl {x : Int32} (h : ¬ x < 0) : x = i3 ((x.toNatClampNeg : Nat) : Int) := by
  have h1 : ¬ x.toInt < 0 := fun e => h (Int32.lt_iff_toInt_lt.mpr e)
  have h2 : ((x.toNatClampNeg : Nat) : Int) = x.toInt := by
    show ((x.toInt.toNat : Nat) : Int) = x.toInt
    omega
  rw [h2]
  exact (Int32.ofInt_toInt x).symm
theorem cl_i3 {k : Nat} (h : k < 2147483648) : (i3 (k : Int)).toNatClampNeg = k := by
  rw [i3_clamp ⟨by omega, by omega⟩]; rfl
theorem i3n_le {a b : Nat} (ha : a < 2147483648) (hb : b < 2147483648) : i3 (a : Int) ≤ i3 (b : Int) ↔ a ≤ b := by
  rw [i3_le ⟨by omega, by omega⟩ ⟨by omega, by omega⟩]; omega
theorem i3n_lt {a b : Nat} (ha : a < 2147483648) (hb : b < 2147483648) : i3 (a : Int) < i3 (b : Int) ↔ a < b := by
  rw [i3_lt ⟨by omega, by omega⟩ ⟨by omega, by omega⟩]; omega
theorem i3n_inj {a b : Nat} (ha : a < 2147483648) (hb : b < 2147483648) : i3 (a : Int) = i3 (b : Int) ↔ a = b := by
  rw [i3_inj ⟨by omega, by omega⟩ ⟨by omega, by omega⟩]; omega
theorem i3_nat_add (k : Nat) : i3 (k : Int) + Int32.ofInt 1 = i3 ((k + 1 : Nat) : Int) := by rw [i3_add]; rfl
theorem i3_nat_sub {k : Nat} (h : 0 < k) : i3 (k : Int) - Int32.ofInt 1 = i3 ((k - 1 : Nat) : Int) := by
  rw [i3_sub]; congr 1; omega
theorem i3_nat_dec {k : Nat} (h : 0 < k) : i3 (k : Int) + Int32.ofInt (-1) = i3 ((k - 1 : Nat) : Int) := by
  rw [i3_add]; congr 1; omega
theorem i3n_nneg {k : Nat} (h : k < 2147483648) : ¬ i3 (k : Int) < 0 := i3_nn h
/-- an element of a list, by an int -/
noncomputable def rd (a : List Int32) (i : Int32) : Int32 := a.getD i.toNatClampNeg 0
theorem at_rd {a : List Int32} {i : Int32} (h0 : ¬ i < 0) (h1 : i.toNatClampNeg < a.length) : at32 a i = some (rd a i) := by
  unfold at32 rd
  rw [if_pos h0, List.getD_eq_getElem?_getD, List.getElem?_eq_getElem h1]
  rfl
theorem st_wr {a : List Int32} {i x : Int32} (h0 : ¬ i < 0) (h1 : i.toNatClampNeg < a.length) : st32 a i x = some (a.set i.toNatClampNeg x) := by
  unfold st32
  rw [if_pos ⟨h0, h1⟩]
theorem rd_i3 {a : List Int32} {k : Nat} (h : k < 2147483648) : rd a (i3 (k : Int)) = a.getD k 0 := by
  unfold rd
  rw [cl_i3 h]
noncomputable def rdJ (a : List Int64) (i : Int32) : Int64 := a.getD i.toNatClampNeg 0
theorem atJ_rd {a : List Int64} {i : Int32} (h0 : ¬ i < 0) (h1 : i.toNatClampNeg < a.length) : at64 a i = some (rdJ a i) := by
  unfold at64 rdJ
  rw [if_pos h0, List.getD_eq_getElem?_getD, List.getElem?_eq_getElem h1]
  rfl
theorem stJ_wr {a : List Int64} {i : Int32} {x : Int64} (h0 : ¬ i < 0) (h1 : i.toNatClampNeg < a.length) : st64 a i x = some (a.set i.toNatClampNeg x) := by
  unfold st64
  rw [if_pos ⟨h0, h1⟩]
/-- from 0 or more, below b -/
theorem lt_cl {x : Int32} {b : Nat} (hb : b < 2147483648) (h0 : ¬ x < 0) (h1 : ¬ i3 (b : Int) ≤ x) : x.toNatClampNeg < b := by
  rw [Int32.le_iff_toInt_le, i3_toInt ⟨by omega, by omega⟩] at h1
  have h2 : ¬ x.toInt < 0 := fun e => h0 (Int32.lt_iff_toInt_lt.mpr e)
  show x.toInt.toNat < b
  omega
theorem le_cl {x : Int32} {b : Nat} (hb : b < 2147483648) (h0 : ¬ x < 0) (h1 : x ≤ i3 (b : Int)) : x.toNatClampNeg ≤ b := by
  rw [Int32.le_iff_toInt_le, i3_toInt ⟨by omega, by omega⟩] at h1
  have h2 : ¬ x.toInt < 0 := fun e => h0 (Int32.lt_iff_toInt_lt.mpr e)
  show x.toInt.toNat ≤ b
  omega
/-! ===== loops that count up ===== -/
noncomputable def fB {α : Type} (l n : Nat) (f : Nat → α → α) (a : α) : α := itr (fun k => f (l + k)) (n - l) a
theorem lpB {σ X R α : Type} {F : σ → (σ → Option R) → (X → Option R) → Option R} {K : X → Option R} (l n : Nat) (hl : l ≤ 1000) (hn : n ≤ 1000) (en : Int32 → α → σ) (out : α → X) (f : Nat → α → α) (I : α → Prop) (a0 : α)
    (hs : ∀ k a nx ex, l ≤ k → k < n → I a → F (en (i3 (k : Int)) a) nx ex = nx (en (i3 (k : Int) + Int32.ofInt 1) (f k a))) (hI : ∀ k a, l ≤ k → k < n → I a → I (f k a)) (he : ∀ k a nx ex, n ≤ k → k ≤ 1000 → I a → F (en (i3 (k : Int)) a) nx ex = ex (out a)) (h0 : I a0) : lp F 4096 (en (i3 (l : Int)) a0) K = K (out (fB l n f a0)) := by
  have := lp_acc (F := F) (K := K) (n - l) (fun k a => en (i3 ((l + k : Nat) : Int)) a) out (fun k => f (l + k)) (fun _ a => I a) a0
    (fun i a nx ex hi ha => by
      rw [hs (l + i) a nx ex (by omega) (by omega) ha, i3_nat_add]; rfl)
    (fun i a hi ha => hI (l + i) a (by omega) (by omega) ha)
    (fun a nx ex ha => he (l + (n - l)) a nx ex (by omega) (by omega) ha) h0 (fuel := 4096) (by omega)
  exact this
theorem lp0 {σ X R α : Type} {F : σ → (σ → Option R) → (X → Option R) → Option R} {K : X → Option R} (n : Nat) (hn : n ≤ 1000) (en : Int32 → α → σ) (out : α → X) (f : Nat → α → α) (I : α → Prop) (a0 : α)
    (hs : ∀ k a nx ex, k < n → I a → F (en (i3 (k : Int)) a) nx ex = nx (en (i3 (k : Int) + Int32.ofInt 1) (f k a))) (hI : ∀ k a, k < n → I a → I (f k a)) (he : ∀ a nx ex, I a → F (en (i3 (n : Int)) a) nx ex = ex (out a)) (h0 : I a0) : lp F 4096 (en (Int32.ofInt 0) a0) K = K (out (itr f n a0)) := by
  have := lp_acc (F := F) (K := K) n (fun k a => en (i3 (k : Int)) a) out f (fun _ a => I a) a0
    (fun i a nx ex hi ha => by rw [hs i a nx ex hi ha, i3_nat_add]) (fun i a hi ha => hI i a hi ha) (fun a nx ex ha => he a nx ex ha) h0 (fuel := 4096) (by omega)
  exact this
theorem lpS {σ X R : Type} {F : σ → (σ → Option R) → (X → Option R) → Option R} {K : X → Option R} (n : Nat) (hn : n ≤ 1000) (en : Int32 → σ) (x : X) (p : Nat → Bool) (r : Nat → Option R)
    (hs : ∀ k nx ex, k < n → F (en (i3 (k : Int))) nx ex = if p k = true then r k else nx (en (i3 (k : Int) + Int32.ofInt 1))) (he : ∀ nx ex, F (en (i3 (n : Int))) nx ex = ex x) : lp F 4096 (en (Int32.ofInt 0)) K = match fst? p n 0 with | some k => r k | none => K x := by
  have := lp_srch (F := F) (K := K) n (fun k => en (i3 (k : Int))) x p r (fun i nx ex hi => by rw [hs i nx ex hi, i3_nat_add]) he (fuel := 4096) (by omega)
  exact this
/-! ===== gardens ===== -/
noncomputable def kA (g : Gd) (t : Int32) : Int32 := rd (kS g) t
noncomputable def cA (g : Gd) (t : Int32) : Int32 := rd (cS g) t
noncomputable def vA (g : Gd) (t : Int32) : Int32 := rd (vS g) t
noncomputable def wA (g : Gd) (t : Int32) : Int32 := rd (wS g) t
noncomputable def cc (g : Gd) : Int32 := sD g * sD g
abbrev isT (g : Gd) (t : Int32) : Prop := ¬ t < 0 ∧ ¬ tN g ≤ t
abbrev isW (g : Gd) (t : Int32) : Prop := ¬ t < 0 ∧ ¬ wN g ≤ t
abbrev isCl (g : Gd) (c : Int32) : Prop := ¬ c < 0 ∧ ¬ cc g ≤ c
noncomputable def nn (g : Gd) : Nat := (tN g).toNatClampNeg
noncomputable def wn (g : Gd) : Nat := (wN g).toNatClampNeg
noncomputable def dn (g : Gd) : Nat := (sD g).toNatClampNeg
noncomputable def bct (x : Int32) : Int32 := (m_173 x []).getD 0
noncomputable def ntz (x : Int32) : Int32 := (m_172 x []).getD 0
theorem q_173 (x : Int32) (th : tH) : m_173 x th = some (bct x) := rfl
theorem q_172 (x : Int32) (th : tH) : m_172 x th = some (ntz x) := by
  unfold ntz m_172
  simp only [jn]
  repeat' split
  all_goals rfl
noncomputable def all (g : Gd) : Int32 := (i3 1 <<< (tN g &&& 31)) - i3 1
abbrev st3 (g : Gd) (m : Int32) : Prop := (m &&& (all g ^^^ i3 (-1))) = 0 ∧ ¬ bct m < i3 3
noncomputable def ok (g : Gd) : Prop := (i3 3 ≤ sD g ∧ sD g ≤ i3 8) ∧ (¬ tN g < 0 ∧ tN g ≤ i3 12) ∧ (¬ wN g < 0 ∧ wN g ≤ i3 8) ∧ ((kS g).length = 12 ∧ (cS g).length = 12 ∧ (vS g).length = 12 ∧ (wS g).length = 8) ∧ (∀ t, isT g t → ¬ kA g t < 0 ∧ kA g t ≤ i3 5) ∧ (∀ t, isT g t → isCl g (cA g t)) ∧ (∀ t u, isT g t → isT g u → cA g t = cA g u → t = u) ∧ (∀ i, isW g i → st3 g (wA g i))
section OK
variable {g : Gd}
theorem ok.n_le (h : ok g) : nn g ≤ 12 := le_cl (b := 12) (by omega) h.2.1.1 h.2.1.2
theorem ok.n_eq (h : ok g) : tN g = i3 (nn g : Int) := i3_cl h.2.1.1
theorem ok.w_le (h : ok g) : wn g ≤ 8 := le_cl (b := 8) (by omega) h.2.2.1.1 h.2.2.1.2
theorem ok.w_eq (h : ok g) : wN g = i3 (wn g : Int) := i3_cl h.2.2.1.1
theorem ok.d_nn (h : ok g) : ¬ sD g < 0 := by
  have h1 := h.1.1
  rw [Int32.le_iff_toInt_le] at h1
  have e : (i3 3).toInt = 3 := by decide +kernel
  rw [e] at h1
  intro h2
  rw [Int32.lt_iff_toInt_lt] at h2
  have e2 : (0 : Int32).toInt = 0 := by decide +kernel
  omega
theorem ok.d_eq (h : ok g) : sD g = i3 (dn g : Int) := i3_cl h.d_nn
theorem ok.d_le (h : ok g) : dn g ≤ 8 := le_cl (b := 8) (by omega) h.d_nn h.1.2
theorem ok.d_ge (h : ok g) : 3 ≤ dn g := by
  have h1 := h.1.1
  rw [h.d_eq] at h1
  have := h.d_le
  exact (i3n_le (a := 3) (by omega) (by omega)).mp h1
theorem ok.d_1 (h : ok g) : i3 1 ≤ sD g := by
  have := h.d_le
  have := h.d_ge
  rw [h.d_eq]
  exact (i3n_le (a := 1) (by omega) (by omega)).mpr (by omega)
theorem ok.d_0 (h : ok g) : ¬ sD g = 0 := by
  have := h.d_le
  have := h.d_ge
  rw [h.d_eq]
  exact fun e => by
    have := (i3n_inj (b := 0) (by omega) (by omega)).mp e
    omega
theorem ok.cc_eq (h : ok g) : cc g = i3 ((dn g * dn g : Nat) : Int) := by
  unfold cc
  rw [h.d_eq, i3_mul]; rfl
theorem ok.cc_le (h : ok g) : dn g * dn g ≤ 64 := Nat.mul_le_mul h.d_le h.d_le
theorem ok.T (h : ok g) {k : Nat} (hk : k < nn g) : isT g (i3 (k : Int)) := by
  have := h.n_le
  refine ⟨i3n_nneg (by omega), ?_⟩
  rw [h.n_eq, i3n_le (by omega) (by omega)]
  omega
theorem ok.Te (h : ok g) {k : Nat} (hk : nn g ≤ k) (hk2 : k ≤ 1000) : tN g ≤ i3 (k : Int) := by
  have := h.n_le
  rw [h.n_eq, i3n_le (by omega) (by omega)]
  omega
theorem ok.W (h : ok g) {k : Nat} (hk : k < wn g) : isW g (i3 (k : Int)) := by
  have := h.w_le
  refine ⟨i3n_nneg (by omega), ?_⟩
  rw [h.w_eq, i3n_le (by omega) (by omega)]
  omega
theorem ok.We (h : ok g) {k : Nat} (hk : wn g ≤ k) (hk2 : k ≤ 1000) : wN g ≤ i3 (k : Int) := by
  have := h.w_le
  rw [h.w_eq, i3n_le (by omega) (by omega)]
  omega
theorem ok.C (h : ok g) {k : Nat} (hk : k < dn g * dn g) : isCl g (i3 (k : Int)) := by
  have := h.cc_le
  refine ⟨i3n_nneg (by omega), ?_⟩
  rw [h.cc_eq, i3n_le (by omega) (by omega)]
  omega
theorem ok.Ce (h : ok g) {k : Nat} (hk : dn g * dn g ≤ k) (hk2 : k ≤ 1000) : cc g ≤ i3 (k : Int) := by
  have := h.cc_le
  rw [h.cc_eq, i3n_le (by omega) (by omega)]
  omega
theorem ok.tl (h : ok g) {t : Int32} (ht : isT g t) : t.toNatClampNeg < nn g := lt_cl (by have := h.n_le; omega) ht.1 (by rw [← h.n_eq]; exact ht.2)
theorem ok.wl (h : ok g) {t : Int32} (ht : isW g t) : t.toNatClampNeg < wn g := lt_cl (by have := h.w_le; omega) ht.1 (by rw [← h.w_eq]; exact ht.2)
theorem ok.cl (h : ok g) {c : Int32} (hc : isCl g c) : c.toNatClampNeg < dn g * dn g := lt_cl (by have := h.cc_le; omega) hc.1 (by rw [← h.cc_eq]; exact hc.2)
theorem ok.at_k (h : ok g) {t : Int32} (ht : isT g t) : at32 (kS g) t = some (kA g t) := at_rd ht.1 (by have := h.tl ht; have := h.n_le; rw [h.2.2.2.1.1]; omega)
theorem ok.at_c (h : ok g) {t : Int32} (ht : isT g t) : at32 (cS g) t = some (cA g t) := at_rd ht.1 (by have := h.tl ht; have := h.n_le; rw [h.2.2.2.1.2.1]; omega)
theorem ok.at_v (h : ok g) {t : Int32} (ht : isT g t) : at32 (vS g) t = some (vA g t) := at_rd ht.1 (by have := h.tl ht; have := h.n_le; rw [h.2.2.2.1.2.2.1]; omega)
theorem ok.at_w (h : ok g) {t : Int32} (ht : isW g t) : at32 (wS g) t = some (wA g t) := at_rd ht.1 (by have := h.wl ht; have := h.w_le; rw [h.2.2.2.1.2.2.2]; omega)
end OK
end
section
/-! ===== the class's garden ===== -/
theorem z00 : (Int32.ofInt 0 = 0) = True := eq_true (by decide +kernel)
theorem z10 : (Int32.ofInt 1 = 0) = False := eq_false (by decide +kernel)
theorem bP2 {A B : Prop} [Decidable A] [Decidable B] : (if A then some (i3 0) else if B then some (i3 0) else some (i3 1)) = some (bP (¬ A ∧ ¬ B)) := by
  unfold bP
  by_cases a : A <;> by_cases b : B <;> simp [a, b]
noncomputable def rO (g : Gd) (c : Int32) : Int32 := c / sD g
noncomputable def cO (g : Gd) (c : Int32) : Int32 := c - c / sD g * sD g
noncomputable def cellO (g : Gd) (r c : Int32) : Int32 := if r < 0 then i3 (-1) else if sD g ≤ r then i3 (-1) else if c < 0 then i3 (-1) else if sD g ≤ c then i3 (-1) else r * sD g + c
noncomputable def trn (g : Gd) (c : Int32) : Int32 := cellO g (cO g c) (sD g - i3 1 - rO g c)
noncomputable def mir (g : Gd) (c : Int32) : Int32 := cellO g (rO g c) (sD g - i3 1 - cO g c)
noncomputable def dst (g : Gd) (a b : Int32) : Int32 := abI (rO g a - rO g b) + abI (cO g a - cO g b)
noncomputable def sqr (g : Gd) (a b : Int32) : Int32 := (rO g a - rO g b) * (rO g a - rO g b) + (cO g a - cO g b) * (cO g a - cO g b)
noncomputable def dar (g : Gd) (a b c : Int32) : Int32 := (rO g b - rO g a) * (cO g c - cO g a) - (cO g b - cO g a) * (rO g c - rO g a)
abbrev btw (g : Gd) (x a b : Int32) : Prop := dar g x a b = 0 ∧ ¬ 0 ≤ (rO g a - rO g x) * (rO g b - rO g x) + (cO g a - cO g x) * (cO g b - cO g x)
noncomputable def oI (x : Option Nat) : Int32 := match x with
  | some t => i3 (t : Int)
  | none => i3 (-1)
noncomputable def tIn (g : Gd) (c : Int32) : Int32 := oI (fst? (fun k => decide (cA g (i3 (k : Int)) = c)) (nn g) 0)
abbrev kOf (own k : Int32) : Prop := own = k ∨ k = 0 ∨ (own = i3 3 ∧ k = i3 1) ∨ (own = i3 5 ∧ k = i3 2)
noncomputable def bit (t : Int32) : Int32 := i3 1 <<< (t &&& 31)
noncomputable def rowF (g : Gd) (a b : Int32) (k : Nat) (m : Int32) : Int32 := if kOf (kA g (i3 (k : Int))) (i3 4) then m else if dar g (cA g a) (cA g b) (cA g (i3 (k : Int))) = 0 then m ||| bit (i3 (k : Int)) else m
noncomputable def rowS (g : Gd) (a b : Int32) : Int32 := itr (rowF g a b) (nn g) (i3 0)
abbrev inR (g : Gd) (m : Int32) : Prop := isT g (ntz m) ∧ isT g (ntz (m &&& (m - i3 1))) ∧ (m &&& (rowS g (ntz m) (ntz (m &&& (m - i3 1))) ^^^ i3 (-1))) = 0
noncomputable def cntF (g : Gd) (q : Int32) (k : Nat) (m : Int32) : Int32 := if kOf (kA g (i3 (k : Int))) q then m + i3 1 else m
noncomputable def cnt (g : Gd) (q : Int32) : Int32 := itr (cntF g q) (nn g) (i3 0)
noncomputable def wwF (g : Gd) (t : Int32) (k : Nat) (m : Int32) : Int32 := if (wA g (i3 (k : Int)) &&& bit t) = 0 then m else m + i3 1
noncomputable def ww (g : Gd) (t : Int32) : Int32 := itr (wwF g t) (wn g) (i3 0)
noncomputable def wmF (g : Gd) (k : Nat) (m : Int32) : Int32 := if inR g (wA g (i3 (k : Int))) then m + i3 1 else m
noncomputable def wm (g : Gd) : Int32 := itr (wmF g) (wn g) (i3 0)
section CG
variable {s : St} {o : Nat}
theorem q_65 (x : Int32) (th : tH) : m_65 x th = some (ntz x) := by
  unfold m_65
  rw [q_172]; rfl
theorem q_66 (x : Int32) (th : tH) : m_66 x th = some (ntz (x &&& (x - i3 1))) := by
  unfold m_66
  rw [q_172]; rfl
theorem q_70 (ho : isG o) : m_70 o (H s) = some (cc (gd s o)) := by
  unfold m_70
  simp only [r_G ho, Option.bind_some, jn, cst, bP_if, rB_0, rB_1, z00, z10, ↓reduceIte]
  rfl
theorem q_71 (ho : isG o) (c : Int32) : m_71 o c (H s) = some (bP (isCl (gd s o) c)) := by
  unfold m_71
  simp only [r_G ho, Option.bind_some, jn, cst, bP_if, rB_0, rB_1, z00, z10, ↓reduceIte, q_70 ho]
  exact bP2
theorem q_72 (ho : isG o) (h : ok (gd s o)) (c : Int32) : m_72 o c (H s) = some (rO (gd s o) c) := by
  unfold m_72
  simp only [r_G ho, Option.bind_some, jn, cst, bP_if, rB_0, rB_1, z00, z10, ↓reduceIte, dvI, h.d_1, h.d_0]
  rfl
theorem q_73 (ho : isG o) (h : ok (gd s o)) (c : Int32) : m_73 o c (H s) = some (cO (gd s o) c) := by
  unfold m_73
  simp only [r_G ho, Option.bind_some, jn, cst, bP_if, rB_0, rB_1, z00, z10, ↓reduceIte, rmI, h.d_1, h.d_0]
  rfl
theorem q_74 (ho : isG o) (r c : Int32) : m_74 o r c (H s) = some (cellO (gd s o) r c) := by
  unfold m_74
  simp only [r_G ho, Option.bind_some, jn, cst, bP_if, rB_0, rB_1, z00, z10, ↓reduceIte]
  unfold cellO
  ((repeat' split) <;> (first | rfl | (exfalso; simp_all only [isT, isCl, isW, st3, btw, kOf, not_true_eq_false, not_false_eq_true, and_true, true_and, and_self, and_false, false_and, or_true, true_or, or_false, false_or, not_and]; done) | grind))
theorem q_75 (ho : isG o) (h : ok (gd s o)) (c : Int32) : m_75 o c (H s) = some (trn (gd s o) c) := by
  unfold m_75
  simp only [r_G ho, Option.bind_some, jn, cst, bP_if, rB_0, rB_1, z00, z10, ↓reduceIte, q_72 ho h, q_73 ho h, q_74 ho]
  rfl
theorem q_76 (ho : isG o) (h : ok (gd s o)) (c : Int32) : m_76 o c (H s) = some (mir (gd s o) c) := by
  unfold m_76
  simp only [r_G ho, Option.bind_some, jn, cst, bP_if, rB_0, rB_1, z00, z10, ↓reduceIte, q_72 ho h, q_73 ho h, q_74 ho]
  rfl
theorem q_77 (ho : isG o) (h : ok (gd s o)) (a b : Int32) : m_77 o a b (H s) = some (dst (gd s o) a b) := by
  unfold m_77
  simp only [r_G ho, Option.bind_some, jn, cst, bP_if, rB_0, rB_1, z00, z10, ↓reduceIte, q_72 ho h, q_73 ho h]
  rfl
theorem q_78 (ho : isG o) (h : ok (gd s o)) (a b : Int32) : m_78 o a b (H s) = some (sqr (gd s o) a b) := by
  unfold m_78
  simp only [r_G ho, Option.bind_some, jn, cst, bP_if, rB_0, rB_1, z00, z10, ↓reduceIte, q_72 ho h, q_73 ho h]
  rfl
theorem q_79 (ho : isG o) (h : ok (gd s o)) (a b c : Int32) : m_79 o a b c (H s) = some (dar (gd s o) a b c) := by
  unfold m_79
  simp only [r_G ho, Option.bind_some, jn, cst, bP_if, rB_0, rB_1, z00, z10, ↓reduceIte, q_72 ho h, q_73 ho h]
  rfl
theorem q_80 (ho : isG o) (h : ok (gd s o)) (a b c : Int32) : m_80 o a b c (H s) = some (bP (btw (gd s o) a b c)) := by
  unfold m_80
  simp only [r_G ho, Option.bind_some, jn, cst, bP_if, rB_0, rB_1, z00, z10, ↓reduceIte, q_72 ho h, q_73 ho h, q_79 ho h]
  unfold bP
  ((repeat' split) <;> (first | rfl | (exfalso; simp_all only [isT, isCl, isW, st3, btw, kOf, not_true_eq_false, not_false_eq_true, and_true, true_and, and_self, and_false, false_and, or_true, true_or, or_false, false_or, not_and]; done) | grind))
theorem q_81 (ho : isG o) (t : Int32) : m_81 o t (H s) = some (bP (isT (gd s o) t)) := by
  unfold m_81
  simp only [r_G ho, Option.bind_some, jn, cst, bP_if, rB_0, rB_1, z00, z10, ↓reduceIte]
  exact bP2
theorem q_82 (ho : isG o) : m_82 o (H s) = some (all (gd s o)) := by
  unfold m_82
  simp only [r_G ho, Option.bind_some, jn, cst, bP_if, rB_0, rB_1, z00, z10, ↓reduceIte]
  rfl
theorem q_83 (ho : isG o) (h : ok (gd s o)) (c : Int32) : m_83 o c (H s) = some (tIn (gd s o) c) := by
  unfold m_83
  simp only [r_G ho, Option.bind_some, jn, cst, bP_if, rB_0, rB_1, z00, z10, ↓reduceIte]
  refine (lpS (nn (gd s o)) (by have := h.n_le; omega) (fun t => t) () (fun k => decide (cA (gd s o) (i3 (k : Int)) = c)) (fun k => some (i3 (k : Int))) ?_ ?_).trans ?_
  · intro k nx ex hk
    simp only [(h.T hk).2, h.at_c (h.T hk), Option.bind_some, jn, cst, bP_if, rB_0, rB_1, z00, z10, ↓reduceIte, decide_eq_true_eq]
  · intro nx ex
    simp only [h.Te (Nat.le_refl _) (by have := h.n_le; omega), Option.bind_some, jn, cst, bP_if, rB_0, rB_1, z00, z10, ↓reduceIte]
  · unfold tIn oI
    cases fst? (fun k => decide (cA (gd s o) (i3 (k : Int)) = c)) (nn (gd s o)) 0 <;> rfl
theorem q_84 (ho : isG o) (h : ok (gd s o)) (c : Int32) : m_84 o c (H s) = some (bP (tIn (gd s o) c = i3 (-1))) := by
  unfold m_84
  simp only [r_G ho, Option.bind_some, jn, cst, bP_if, rB_0, rB_1, z00, z10, ↓reduceIte, q_83 ho h]
  unfold bP
  ((repeat' split) <;> (first | rfl | (exfalso; simp_all only [isT, isCl, isW, st3, btw, kOf, not_true_eq_false, not_false_eq_true, and_true, true_and, and_self, and_false, false_and, or_true, true_or, or_false, false_or, not_and]; done) | grind))
theorem q_85 (ho : isG o) (h : ok (gd s o)) {t : Int32} (ht : isT (gd s o) t) (k : Int32) : m_85 o t k (H s) = some (bP (kOf (kA (gd s o) t) k)) := by
  unfold m_85
  simp only [r_G ho, Option.bind_some, jn, cst, bP_if, rB_0, rB_1, z00, z10, ↓reduceIte, h.at_k ht]
  unfold bP
  ((repeat' split) <;> (first | rfl | (exfalso; simp_all only [isT, isCl, isW, st3, btw, kOf, not_true_eq_false, not_false_eq_true, and_true, true_and, and_self, and_false, false_and, or_true, true_or, or_false, false_or, not_and]; done) | grind))
theorem q_86 (ho : isG o) (h : ok (gd s o)) (k : Int32) : m_86 o k (H s) = some (cnt (gd s o) k) := by
  unfold m_86
  simp only [r_G ho, Option.bind_some, jn, cst, bP_if, rB_0, rB_1, z00, z10, ↓reduceIte]
  refine (lp0 (nn (gd s o)) (by have := h.n_le; omega) (fun t a => (a, t)) (fun a => a) (cntF (gd s o) k) (fun _ => True) (i3 0) ?_ (fun _ _ _ _ => trivial) ?_ trivial).trans rfl
  · intro j a nx ex hk _
    simp only [(h.T hk).2, q_85 ho h (h.T hk), Option.bind_some, jn, cst, bP_if, rB_0, rB_1, z00, z10, ↓reduceIte]
    unfold cntF
    ((repeat' split) <;> (first | rfl | (exfalso; simp_all only [isT, isCl, isW, st3, btw, kOf, not_true_eq_false, not_false_eq_true, and_true, true_and, and_self, and_false, false_and, or_true, true_or, or_false, false_or, not_and]; done) | grind))
  · intro a nx ex _
    simp only [h.Te (Nat.le_refl _) (by have := h.n_le; omega), Option.bind_some, jn, cst, bP_if, rB_0, rB_1, z00, z10, ↓reduceIte]
theorem q_87 (ho : isG o) (h : ok (gd s o)) {t : Int32} (ht : isT (gd s o) t) : m_87 o t (H s) = some (bP (¬ kOf (kA (gd s o) t) (i3 1))) := by
  unfold m_87
  simp only [r_G ho, Option.bind_some, jn, cst, bP_if, rB_0, rB_1, z00, z10, ↓reduceIte, q_85 ho h ht]
  unfold bP
  ((repeat' split) <;> (first | rfl | (exfalso; simp_all only [isT, isCl, isW, st3, btw, kOf, not_true_eq_false, not_false_eq_true, and_true, true_and, and_self, and_false, false_and, or_true, true_or, or_false, false_or, not_and]; done) | grind))
theorem q_88 (ho : isG o) : m_88 o (H s) = some (bP (¬ i3 12 ≤ tN (gd s o) ∧ ¬ cc (gd s o) ≤ tN (gd s o))) := by
  unfold m_88
  simp only [r_G ho, Option.bind_some, jn, cst, bP_if, rB_0, rB_1, z00, z10, ↓reduceIte, q_70 ho]
  exact bP2
theorem q_92 (ho : isG o) (h : ok (gd s o)) {a b : Int32} (ha : isT (gd s o) a) (hb : isT (gd s o) b) : m_92 o a b (H s) = some (rowS (gd s o) a b) := by
  unfold m_92
  simp only [r_G ho, Option.bind_some, jn, cst, bP_if, rB_0, rB_1, z00, z10, ↓reduceIte]
  refine (lp0 (nn (gd s o)) (by have := h.n_le; omega) (fun t a => (a, t)) (fun a => a) (rowF (gd s o) a b) (fun _ => True) (i3 0) ?_ (fun _ _ _ _ => trivial) ?_ trivial).trans rfl
  · intro k m nx ex hk _
    simp only [(h.T hk).2, q_85 ho h (h.T hk), h.at_c (h.T hk), h.at_c ha, h.at_c hb, q_79 ho h, Option.bind_some, jn, cst, bP_if, rB_0, rB_1, z00, z10, ↓reduceIte]
    unfold rowF bit
    ((repeat' split) <;> (first | rfl | (exfalso; simp_all only [isT, isCl, isW, st3, btw, kOf, not_true_eq_false, not_false_eq_true, and_true, true_and, and_self, and_false, false_and, or_true, true_or, or_false, false_or, not_and]; done) | grind))
  · intro a nx ex _
    simp only [h.Te (Nat.le_refl _) (by have := h.n_le; omega), Option.bind_some, jn, cst, bP_if, rB_0, rB_1, z00, z10, ↓reduceIte]
theorem q_93 (ho : isG o) (m : Int32) : m_93 o m (H s) = some (bP (st3 (gd s o) m)) := by
  unfold m_93
  simp only [r_G ho, Option.bind_some, jn, cst, bP_if, rB_0, rB_1, z00, z10, ↓reduceIte, q_82 ho, q_173]
  unfold bP
  ((repeat' split) <;> (first | rfl | (exfalso; simp_all only [isT, isCl, isW, st3, btw, kOf, not_true_eq_false, not_false_eq_true, and_true, true_and, and_self, and_false, false_and, or_true, true_or, or_false, false_or, not_and]; done) | grind))
theorem q_94 (ho : isG o) (h : ok (gd s o)) (m : Int32) : m_94 o m (H s) = some (bP (inR (gd s o) m)) := by
  unfold m_94
  simp only [r_G ho, Option.bind_some, jn, cst, bP_if, rB_0, rB_1, z00, z10, ↓reduceIte, q_65, q_66, q_81 ho]
  unfold bP
  by_cases c1 : isT (gd s o) (ntz m)
  · by_cases c2 : isT (gd s o) (ntz (m &&& (m - i3 1)))
    · simp only [if_pos c1, if_pos c2, q_92 ho h c1 c2, Option.bind_some, jn, cst, bP_if, rB_0, rB_1, z00, z10, ↓reduceIte]
      unfold inR
      by_cases c3 : (m &&& (rowS (gd s o) (ntz m) (ntz (m &&& (m - i3 1))) ^^^ i3 (-1))) = 0
      · rw [if_pos c3, if_pos ⟨c1, c2, c3⟩]
      · rw [if_neg c3, if_neg (fun e => c3 e.2.2)]
    · simp only [if_pos c1, if_neg c2, Option.bind_some, jn, cst, bP_if, rB_0, rB_1, z00, z10, ↓reduceIte]
      rw [if_neg (fun e => c2 e.2.1)]
  · simp only [if_neg c1, Option.bind_some, jn, cst, bP_if, rB_0, rB_1, z00, z10, ↓reduceIte]
    rw [if_neg (fun e => c1 e.1)]
theorem q_95 (ho : isG o) (t : Int32) : m_95 o t (H s) = some (bP (isW (gd s o) t)) := by
  unfold m_95
  simp only [r_G ho, Option.bind_some, jn, cst, bP_if, rB_0, rB_1, z00, z10, ↓reduceIte]
  exact bP2
theorem q_97 (ho : isG o) (h : ok (gd s o)) (t : Int32) : m_97 o t (H s) = some (ww (gd s o) t) := by
  unfold m_97
  simp only [r_G ho, Option.bind_some, jn, cst, bP_if, rB_0, rB_1, z00, z10, ↓reduceIte]
  refine (lp0 (wn (gd s o)) (by have := h.w_le; omega) (fun t a => (a, t)) (fun a => a) (wwF (gd s o) t) (fun _ => True) (i3 0) ?_ (fun _ _ _ _ => trivial) ?_ trivial).trans rfl
  · intro k m nx ex hk _
    simp only [(h.W hk).2, h.at_w (h.W hk), Option.bind_some, jn, cst, bP_if, rB_0, rB_1, z00, z10, ↓reduceIte]
    unfold wwF bit
    ((repeat' split) <;> (first | rfl | (exfalso; simp_all only [isT, isCl, isW, st3, btw, kOf, not_true_eq_false, not_false_eq_true, and_true, true_and, and_self, and_false, false_and, or_true, true_or, or_false, false_or, not_and]; done) | grind))
  · intro a nx ex _
    simp only [h.We (Nat.le_refl _) (by have := h.w_le; omega), Option.bind_some, jn, cst, bP_if, rB_0, rB_1, z00, z10, ↓reduceIte]
theorem q_98 (ho : isG o) (h : ok (gd s o)) : m_98 o (H s) = some (wm (gd s o)) := by
  unfold m_98
  simp only [r_G ho, Option.bind_some, jn, cst, bP_if, rB_0, rB_1, z00, z10, ↓reduceIte]
  refine (lp0 (wn (gd s o)) (by have := h.w_le; omega) (fun t a => (a, t)) (fun a => a) (wmF (gd s o)) (fun _ => True) (i3 0) ?_ (fun _ _ _ _ => trivial) ?_ trivial).trans rfl
  · intro k m nx ex hk _
    simp only [(h.W hk).2, h.at_w (h.W hk), q_94 ho h, Option.bind_some, jn, cst, bP_if, rB_0, rB_1, z00, z10, ↓reduceIte]
    unfold wmF
    ((repeat' split) <;> (first | rfl | (exfalso; simp_all only [isT, isCl, isW, st3, btw, kOf, not_true_eq_false, not_false_eq_true, and_true, true_and, and_self, and_false, false_and, or_true, true_or, or_false, false_or, not_and]; done) | grind))
  · intro a nx ex _
    simp only [h.We (Nat.le_refl _) (by have := h.w_le; omega), Option.bind_some, jn, cst, bP_if, rB_0, rB_1, z00, z10, ↓reduceIte]
abbrev fel (g : Gd) : Prop := ¬ tN g ≤ 0 ∧ ww g (tN g - i3 1) = 0
theorem q_90 (ho : isG o) (h : ok (gd s o)) : m_90 o (H s) = some (bP (fel (gd s o))) := by
  unfold m_90
  simp only [r_G ho, Option.bind_some, jn, cst, bP_if, rB_0, rB_1, z00, z10, ↓reduceIte, q_97 ho h]
  unfold bP
  ((repeat' split) <;> (first | rfl | (exfalso; simp_all only [isT, isCl, isW, st3, btw, kOf, not_true_eq_false, not_false_eq_true, and_true, true_and, and_self, and_false, false_and, or_true, true_or, or_false, false_or, not_and]; done) | grind))
noncomputable def nfF (g : Gd) : Nat → Int32 → Int32
  | 0, c => c
  | n + 1, c => if tIn g c = i3 (-1) then c else nfF g n (if cc g ≤ c + i3 1 then i3 0 else c + i3 1)
noncomputable def nxf (g : Gd) (c : Int32) : Int32 := nfF g (dn g * dn g) c
theorem q_100 (ho : isG o) (h : ok (gd s o)) (c : Int32) : m_100 o c (H s) = some (nxf (gd s o) c) := by
  unfold m_100
  simp only [r_G ho, Option.bind_some, jn, cst, bP_if, rB_0, rB_1, z00, z10, ↓reduceIte, q_70 ho, q_84 ho h]
  have key : ∀ (n : Nat) (fuel : Nat) (c : Int32), n ≤ dn (gd s o) * dn (gd s o) → n < fuel → lp (fun (s1 : Int32 × Int32) (nx2 : Int32 × Int32 → Option Int32) (ex3 : Int32 → Option Int32) => if cc (gd s o) ≤ s1.2 then ex3 s1.1 else if tIn (gd s o) s1.1 = i3 (-1) then ex3 s1.1 else if cc (gd s o) ≤ s1.1 + i3 1 then nx2 (i3 0, s1.2 + i3 1) else nx2 (s1.1 + i3 1, s1.2 + i3 1)) fuel (c, i3 ((dn (gd s o) * dn (gd s o) - n : Nat) : Int)) (fun x4 => some x4) = some (nfF (gd s o) n c) := by
    intro n
    induction n with
    | zero =>
      intro fuel c _ hf
      obtain ⟨q, rfl⟩ : ∃ q, fuel = q + 1 := ⟨fuel - 1, by omega⟩
      rw [lp_s]
      simp only [Nat.sub_zero, h.Ce (Nat.le_refl _) (by have := h.cc_le; omega), Option.bind_some, jn, cst, bP_if, rB_0, rB_1, z00, z10, ↓reduceIte]
      rfl
    | succ n ih =>
      intro fuel c hn hf
      obtain ⟨q, rfl⟩ : ∃ q, fuel = q + 1 := ⟨fuel - 1, by omega⟩
      rw [lp_s]
      have hc := (h.C (k := dn (gd s o) * dn (gd s o) - (n + 1)) (by omega)).2
      have e : i3 ((dn (gd s o) * dn (gd s o) - (n + 1) : Nat) : Int) + i3 1 = i3 ((dn (gd s o) * dn (gd s o) - n : Nat) : Int) := by
        rw [i3_nat_add]; congr 2; omega
      simp only [hc, e, ih q _ (show n ≤ dn (gd s o) * dn (gd s o) by omega) (show n < q by omega), Option.bind_some, jn, cst, bP_if, rB_0, rB_1, z00, z10, ↓reduceIte]
      show _ = some (if tIn (gd s o) c = i3 (-1) then c else nfF (gd s o) n (if cc (gd s o) ≤ c + i3 1 then i3 0 else c + i3 1))
      ((repeat' split) <;> (first | rfl | (exfalso; simp_all only [isT, isCl, isW, st3, btw, kOf, not_true_eq_false, not_false_eq_true, and_true, true_and, and_self, and_false, false_and, or_true, true_or, or_false, false_or, not_and]; done) | grind))
  have := key (dn (gd s o) * dn (gd s o)) 4096 c (Nat.le_refl _) (by have := h.cc_le; omega)
  rw [Nat.sub_self] at this
  exact this
end CG
end
section
/-! ===== runs that come to an end ===== -/
noncomputable def T {α : Type} (m : Option α) (Q : α → Prop) : Prop := ∃ x, m = some x ∧ Q x
theorem T_some {α : Type} {x : α} {Q : α → Prop} (h : Q x) : T (some x) Q := ⟨x, rfl, h⟩
theorem T_bind {α β : Type} {m : Option α} {f : α → Option β} {P : α → Prop} {Q : β → Prop} (h : T m P) (k : ∀ x, P x → T (f x) Q) : T (m.bind f) Q := by
  obtain ⟨x, e, hx⟩ := h
  rw [e]
  exact k x hx
theorem T_imp {α : Type} {m : Option α} {P Q : α → Prop} (h : T m P) (k : ∀ x, P x → Q x) : T m Q := by
  obtain ⟨x, e, hx⟩ := h
  exact ⟨x, e, k x hx⟩
theorem lpH {σ X R : Type} {F : σ → (σ → Option R) → (X → Option R) → Option R} {K : X → Option R} {Q : R → Prop} (n : Nat) (I : Nat → σ → Prop) (J : X → Prop)
    (hs : ∀ k s, k < n → I k s → ∀ nx ex, (∀ s', I (k + 1) s' → T (nx s') Q) → (∀ x, J x → T (ex x) Q) → T (F s nx ex) Q)
    (he : ∀ s, I n s → ∀ nx ex, (∀ x, J x → T (ex x) Q) → T (F s nx ex) Q) (hK : ∀ x, J x → T (K x) Q) {s : σ} (h0 : I 0 s) (hn : n < 4096) : T (lp F 4096 s K) Q := by
  have key : ∀ m fuel, m ≤ n → m < fuel → ∀ s, I (n - m) s → T (lp F fuel s K) Q := by
    intro m
    induction m with
    | zero =>
      intro fuel _ hf s hI
      obtain ⟨q, rfl⟩ : ∃ q, fuel = q + 1 := ⟨fuel - 1, by omega⟩
      rw [lp_s]
      exact he s hI _ _ hK
    | succ m ih =>
      intro fuel hm hf s hI
      obtain ⟨q, rfl⟩ : ∃ q, fuel = q + 1 := ⟨fuel - 1, by omega⟩
      rw [lp_s]
      refine hs (n - (m + 1)) s (by omega) hI _ _ (fun s' h' => ih q (by omega) (by omega) s' ?_) hK
      rw [show n - (m + 1) + 1 = n - m by omega] at h'
      exact h'
  exact key n 4096 (Nat.le_refl _) hn s (by rw [Nat.sub_self]; exact h0)
/-! ===== what is only scratched ===== -/
noncomputable def sA (p : Nat) : Prop := p = 17 ∨ p = 19 ∨ p = 22 ∨ p = 65 ∨ p = 66
noncomputable def sF (o k : Nat) : Prop := o = 16 ∨ o = 20 ∨ o = 23 ∨ (o = 24 ∧ 2 ≤ k) ∨ (o = 44 ∧ 19 ≤ k)
noncomputable def sc (s s' : St) : Prop := (∀ p, ¬ sA p → ia s' p = ia s p) ∧ (∀ p, p ≠ 57 → la s' p = la s p) ∧ (∀ o k, ¬ sF o k → fi s' o k = fi s o k) ∧ s'.2.2.2 = s.2.2.2 ∧ (∀ p, (ia s' p).length = (ia s p).length) ∧ (∀ p, (la s' p).length = (la s p).length)
section SC
variable {s s' s2 : St}
theorem sc.refl (s : St) : sc s s := ⟨fun _ _ => rfl, fun _ _ => rfl, fun _ _ _ => rfl, rfl, fun _ => rfl, fun _ => rfl⟩
theorem sc.trans (h : sc s s') (k : sc s' s2) : sc s s2 := ⟨fun p hp => (k.1 p hp).trans (h.1 p hp), fun p hp => (k.2.1 p hp).trans (h.2.1 p hp), fun o q hq => (k.2.2.1 o q hq).trans (h.2.2.1 o q hq), k.2.2.2.1.trans h.2.2.2.1, fun p => (k.2.2.2.2.1 p).trans (h.2.2.2.2.1 p), fun p => (k.2.2.2.2.2 p).trans (h.2.2.2.2.2 p)⟩
theorem sc.f {o k : Nat} {x : Int32} (hf : sF o k) (h : sc s s') : sc s (sf s' o k x) := h.trans ⟨fun _ _ => rfl, fun _ _ => rfl, fun o' k' hk => by
    rw [fi_sf, if_neg]
    rintro ⟨rfl, rfl⟩
    exact hk hf, rfl, fun _ => rfl, fun _ => rfl⟩
theorem sc.a {p : Nat} {l : List Int32} (hp : sA p) (hl : l.length = (ia s' p).length) (h : sc s s') : sc s (sa s' p l) := h.trans ⟨fun q hq => by
    rw [ia_sa, if_neg]
    rintro rfl
    exact hq hp, fun _ _ => rfl, fun _ _ _ => rfl, rfl, fun q => by
    rw [ia_sa]
    split
    · rename_i e; rw [e]; exact hl
    · rfl, fun _ => rfl⟩
theorem sc.l {l : List Int64} (hl : l.length = (la s' 57).length) (h : sc s s') : sc s (sl s' 57 l) := h.trans ⟨fun _ _ => rfl, fun q hq => by
    rw [la_sl, if_neg hq], fun _ _ _ => rfl, rfl, fun _ => rfl, fun q => by
    rw [la_sl]
    split
    · rename_i e; rw [e]; exact hl
    · rfl⟩
theorem sc.ln (h : sc s s') (p : Nat) : (ia s' p).length = (ia s p).length := h.2.2.2.2.1 p
theorem sc.g (h : sc s s') {o : Nat} (ho : isG o) : gd s' o = gd s o := by
  have f := fun k hk => h.2.2.1 o k hk
  have a := fun p hp => h.1 p hp
  unfold gd
  rcases ho with rfl | rfl | rfl
  all_goals rw [f 4 (by unfold sF; omega), f 5 (by unfold sF; omega), f 6 (by unfold sF; omega), f 7 (by unfold sF; omega), a _ (by unfold sA; omega), a _ (by unfold sA; omega), a _ (by unfold sA; omega), a _ (by unfold sA; omega)]
theorem sc.m (h : sc s s') {o : Nat} (ho : o = 44 ∨ o = 67 ∨ o = 90) : md s' o = md s o := by
  have f := fun k hk => h.2.2.1 o k hk
  have a := fun p hp => h.1 p hp
  unfold md
  rcases ho with rfl | rfl | rfl
  all_goals rw [f 9 (by unfold sF; omega), f 10 (by unfold sF; omega), f 14 (by unfold sF; omega), f 16 (by unfold sF; omega), a _ (by unfold sA; omega), a _ (by unfold sA; omega), a _ (by unfold sA; omega), a _ (by unfold sA; omega)]
end SC
/-- the arrays that are scratched have their sizes -/
noncomputable def Sz (s : St) : Prop := (ia s 17).length = 66 ∧ (ia s 19).length = 64 ∧ (ia s 22).length = 64 ∧ (ia s 65).length = 3 ∧ (ia s 66).length = 70 ∧ (la s 57).length = 40
theorem sc.z {s s' : St} (h : sc s s') (z : Sz s) : Sz s' := by
  unfold Sz
  rw [h.ln, h.ln, h.ln, h.ln, h.ln, h.2.2.2.2.2]
  exact z
/-! ===== a set is put among others ===== -/
noncomputable def insA (x : Int32) : Nat → List Int32 → List Int32
  | 0, a => a.set 0 x
  | n + 1, a => if a.getD n 0 ≤ x then a.set (n + 1) x else insA x n (a.set (n + 1) (a.getD n 0))
theorem insA_len (x : Int32) : ∀ (n : Nat) (a : List Int32), (insA x n a).length = a.length
  | 0, a => List.length_set
  | n + 1, a => by
    unfold insA
    split
    · exact List.length_set
    · rw [insA_len x n]; exact List.length_set
theorem insA_hi (x : Int32) : ∀ (n : Nat) (a : List Int32) (j : Nat), n < j → (insA x n a)[j]? = a[j]?
  | 0, a, j, h => List.getElem?_set_ne (by omega)
  | n + 1, a, j, h => by
    unfold insA
    split
    · exact List.getElem?_set_ne (by omega)
    · rw [insA_hi x n _ j (by omega)]; exact List.getElem?_set_ne (by omega)
theorem insA_eq (x : Int32) : ∀ (n : Nat) (a b : List Int32), n < a.length → n < b.length → (∀ j, j < n → a[j]? = b[j]?) → ∀ j, j ≤ n → (insA x n a)[j]? = (insA x n b)[j]?
  | 0, a, b, ha, hb, h, j, hj => by
    obtain rfl : j = 0 := by omega
    show (a.set 0 x)[0]? = (b.set 0 x)[0]?
    rw [List.getElem?_set_self ha, List.getElem?_set_self hb]
  | n + 1, a, b, ha, hb, h, j, hj => by
    have e : a.getD n 0 = b.getD n 0 := by
      rw [List.getD_eq_getElem?_getD, List.getD_eq_getElem?_getD, h n (by omega)]
    unfold insA
    rw [e]
    split
    · by_cases c : j = n + 1
      · subst c
        rw [List.getElem?_set_self ha, List.getElem?_set_self hb]
      · rw [List.getElem?_set_ne (by omega), List.getElem?_set_ne (by omega), h j (by omega)]
    · by_cases c : j = n + 1
      · subst c
        rw [insA_hi x n _ _ (by omega), insA_hi x n _ _ (by omega), List.getElem?_set_self ha, List.getElem?_set_self hb]
      · exact insA_eq x n _ _ (by rw [List.length_set]; omega) (by rw [List.length_set]; omega) (fun i hi => by
          rw [List.getElem?_set_ne (by omega), List.getElem?_set_ne (by omega), h i (by omega)]) j (by omega)
/-- a list and one more -/
noncomputable def insL (x : Int32) (L : List Int32) : List Int32 := insA x L.length (L ++ [0])
theorem insL_len (x : Int32) (L : List Int32) : (insL x L).length = L.length + 1 := by
  unfold insL
  rw [insA_len, List.length_append]; rfl
/-- an array begins with a list -/
noncomputable def pre (L a : List Int32) : Prop := L.length ≤ a.length ∧ ∀ j, j < L.length → a[j]? = L[j]?
theorem pre.ins {x : Int32} {L a : List Int32} (h : pre L a) (hl : L.length < a.length) : pre (insL x L) (insA x L.length a) := by
  refine ⟨by rw [insL_len, insA_len]; omega, fun j hj => ?_⟩
  rw [insL_len] at hj
  unfold insL
  refine insA_eq x _ _ _ hl (by rw [List.length_append]; exact Nat.lt_succ_self _) (fun i hi => ?_) j (by omega)
  rw [h.2 i hi, List.getElem?_append_left hi]
theorem pre.at {L a : List Int32} (h : pre L a) {k : Nat} (hk : k < L.length) (hl : L.length ≤ 1000) : at32 a (i3 (k : Int)) = some (L.getD k 0) := by
  rw [at32_nat (by omega), h.2 k hk, List.getD_eq_getElem?_getD, List.getElem?_eq_getElem hk]
  rfl
/-! ===== all rows ===== -/
abbrev rlC (g : Gd) (i j : Nat) : Prop := ntz (rowS g (i3 (i : Int)) (i3 (j : Int))) = i3 (i : Int) ∧ ntz (rowS g (i3 (i : Int)) (i3 (j : Int)) &&& (rowS g (i3 (i : Int)) (i3 (j : Int)) - i3 1)) = i3 (j : Int)
noncomputable def rlF (g : Gd) (i j : Nat) (L : List Int32) : List Int32 := if rlC g i j then insL (rowS g (i3 (i : Int)) (i3 (j : Int))) L else L
noncomputable def rlI (g : Gd) (i : Nat) (L : List Int32) : List Int32 := fB (i + 1) (nn g) (rlF g i) L
noncomputable def RL (g : Gd) : List Int32 := itr (rlI g) (nn g) []
noncomputable def tri (n : Nat) : Nat → Nat
  | 0 => 0
  | i + 1 => tri n i + (n - (i + 1))
theorem tri_le {n i : Nat} (hn : n ≤ 12) (hi : i ≤ n) : tri n i ≤ 66 := by
  have h : ∀ n, n < 13 → ∀ i, i < 13 → (i ≤ n → tri n i ≤ 66) := by decide +kernel
  exact h n (by omega) i (by omega) hi
theorem rlF_len (g : Gd) (i j : Nat) (L : List Int32) : (rlF g i j L).length ≤ L.length + 1 := by
  unfold rlF
  split
  · rw [insL_len]; omega
  · omega
theorem rlJ_len (g : Gd) (i l : Nat) (L : List Int32) : ∀ k, (itr (fun k => rlF g i (l + k)) k L).length ≤ L.length + k
  | 0 => Nat.le_refl _
  | k + 1 => by
    have h1 := rlJ_len g i l L k
    have h2 := rlF_len g i (l + k) (itr (fun k => rlF g i (l + k)) k L)
    show (rlF g i (l + k) _).length ≤ _
    omega
theorem rlI_len (g : Gd) : ∀ i, (itr (rlI g) i []).length ≤ tri (nn g) i
  | 0 => Nat.le_refl _
  | i + 1 => by
    have h1 := rlI_len g i
    have h2 := rlJ_len g i (i + 1) (itr (rlI g) i []) (nn g - (i + 1))
    show (fB (i + 1) (nn g) (rlF g i) _).length ≤ tri (nn g) i + (nn g - (i + 1))
    unfold fB
    omega
theorem RL_len {g : Gd} (h : ok g) : (RL g).length ≤ 66 := Nat.le_trans (rlI_len g (nn g)) (tri_le h.n_le (Nat.le_refl _))
/-- the class's rows are these -/
noncomputable def rowsOK (s : St) (L : List Int32) : Prop := fi s 16 1 = i3 (L.length : Int) ∧ L.length ≤ 66 ∧ pre L (ia s 17)
section CR
variable {s : St}
theorem q_104 {n : Nat} {x : Int32} (hc : fi s 16 1 = i3 (n : Int)) (hn : n < 66) (hl : (ia s 17).length = 66) : m_104 16 x (H s) = some (H (sf (sa s 17 (insA x n (ia s 17))) 16 1 (i3 ((n + 1 : Nat) : Int)))) := by
  unfold m_104
  simp only [r_R, Option.bind_some, jn, cst, bP_if, rB_0, rB_1, z00, z10, ↓reduceIte, hc, hl, i3_nat]
  rw [if_pos ((i3n_lt (by omega) (by omega)).mpr hn)]
  have key : ∀ (F : Int32 × tH → (Int32 × tH → Option tH) → (Int32 × tH → Option tH) → Option tH) (K : Int32 × tH → Option tH), (∀ p nx ex (b : List Int32), p = 0 → b.length = 66 → F (i3 (p : Nat), H (sa s 17 b)) nx ex = ex (i3 (p : Nat), H (sa s 17 b))) → (∀ (p : Nat) nx ex (b : List Int32), 0 < p → p < 66 → b.length = 66 → F (i3 (p : Nat), H (sa s 17 b)) nx ex = if b.getD (p - 1) 0 ≤ x then ex (i3 (p : Nat), H (sa s 17 b)) else nx (i3 ((p - 1 : Nat) : Int), H (sa s 17 (b.set p (b.getD (p - 1) 0))))) → (∀ (p : Nat) (b : List Int32), p < 66 → b.length = 66 → K (i3 (p : Nat), H (sa s 17 b)) = some (H (sf (sa s 17 (b.set p x)) 16 1 (i3 ((n + 1 : Nat) : Int))))) → ∀ (m fuel : Nat) (b : List Int32), m < 66 → m < fuel → b.length = 66 → lp F fuel (i3 (m : Int), H (sa s 17 b)) K = some (H (sf (sa s 17 (insA x m b)) 16 1 (i3 ((n + 1 : Nat) : Int)))) := by
    intro F K h0 h1 h2 m
    induction m with
    | zero =>
      intro fuel b _ hf hb
      obtain ⟨q, rfl⟩ : ∃ q, fuel = q + 1 := ⟨fuel - 1, by omega⟩
      rw [lp_s, h0 0 _ _ b rfl hb, h2 0 b (by omega) hb]
      rfl
    | succ m ih =>
      intro fuel b hm hf hb
      obtain ⟨q, rfl⟩ : ∃ q, fuel = q + 1 := ⟨fuel - 1, by omega⟩
      rw [lp_s, h1 (m + 1) _ _ b (by omega) hm hb]
      show (if b.getD m 0 ≤ x then _ else _) = _
      unfold insA
      split
      · rw [h2 (m + 1) b hm hb]
      · exact ih q _ (by omega) (by omega) (by rw [List.length_set]; exact hb)
  rw [show H s = H (sa s 17 (ia s 17)) by rw [sa_id]]
  refine key _ _ ?_ ?_ ?_ n 4096 (ia s 17) hn (by omega) hl
  · intro p nx ex b hp hb
    subst hp
    have e : i3 ((0 : Nat) : Int) ≤ 0 := by decide +kernel
    simp only [e, Option.bind_some, jn, cst, bP_if, rB_0, rB_1, z00, z10, ↓reduceIte]
  · intro p nx ex b hp hp2 hb
    have hp3 : ¬ i3 (p : Int) ≤ 0 := by
      rw [show (0 : Int32) = i3 ((0 : Nat) : Int) from rfl, i3n_le (by omega) (by omega)]; omega
    dsimp only
    rw [if_neg hp3]
    have e2 : ∀ y, st32 b (i3 (p : Int)) y = some (b.set p y) := fun y => st32_nat (by omega) (by omega)
    simp only [r_R, Option.bind_some, jn, cst, bP_if, rB_0, rB_1, z00, z10, ↓reduceIte, i3_nat_sub hp, ia_sa, at32_nat (show p - 1 < 2147483648 by omega), i3_nat_dec hp, sa_sa, e2, Option.map_some, List.getD_eq_getElem?_getD, List.getElem?_eq_getElem (show p - 1 < b.length by omega), Option.getD_some]
  · intro p b hp hb
    simp only [r_R, Option.bind_some, jn, cst, bP_if, rB_0, rB_1, z00, z10, ↓reduceIte, ia_sa, sa_sa]
    rw [st32_nat (by omega) (by omega)]
    simp only [Option.bind_some, jn, cst, bP_if, rB_0, rB_1, z00, z10, ↓reduceIte, Option.map_some, r_R, fi_sa, hc, i3_nat_add]
theorem q_103 (h : ok (gd s 1)) (z : Sz s) : T (m_103 16 1 (H s)) (fun th => ∃ s', th = H s' ∧ sc s s' ∧ rowsOK s' (RL (gd s 1))) := by
  have ho : isG 1 := Or.inl rfl
  unfold m_103
  simp only [r_R, Option.bind_some, jn, cst, bP_if, rB_0, rB_1, z00, z10, ↓reduceIte]
  refine lpH (nn (gd s 1)) (fun k q => ∃ s', q = (i3 (k : Int), H s') ∧ sc s s' ∧ rowsOK s' (itr (rlI (gd s 1)) k [])) (fun th => ∃ s', th = H s' ∧ sc s s' ∧ rowsOK s' (RL (gd s 1))) ?_ ?_ ?_ ?_ (by have := h.n_le; omega)
  rotate_left 2
  · intro x hx
    exact T_some hx
  · exact ⟨sf s 16 1 (Int32.ofInt 0), rfl, (sc.refl s).f (Or.inl rfl), rfl, Nat.zero_le _, Nat.zero_le _, fun j hj => absurd hj (Nat.not_lt_zero _)⟩
  · rintro k _ hk ⟨s1, rfl, c1, r1⟩ nx ex hnx hex
    have g1 := c1.g ho
    have h1 : ok (gd s1 1) := by rw [g1]; exact h
    have hn := h.n_le
    simp only [r_G ho, Option.bind_some, jn, cst, bP_if, rB_0, rB_1, z00, z10, ↓reduceIte, g1, (h.T hk).2, i3_nat_add]
    refine lpH (nn (gd s 1) - (k + 1)) (fun m q => ∃ s', q = (i3 ((k + 1 + m : Nat) : Int), H s') ∧ sc s s' ∧ rowsOK s' (itr (fun m => rlF (gd s 1) k (k + 1 + m)) m (itr (rlI (gd s 1)) k []))) (fun th => ∃ s', th = H s' ∧ sc s s' ∧ rowsOK s' (itr (rlI (gd s 1)) (k + 1) [])) ?_ ?_ ?_ ?_ (by omega)
    rotate_left 3
    · exact ⟨s1, rfl, c1, r1⟩
    · rintro m _ hm ⟨s2, rfl, c2, r2⟩ nx2 ex2 hnx2 hex2
      have g2 := c2.g ho
      have h2 : ok (gd s2 1) := by rw [g2]; exact h
      have hk2 : isT (gd s2 1) (i3 (k : Int)) := by rw [g2]; exact h.T hk
      have hm2 : isT (gd s2 1) (i3 ((k + 1 + m : Nat) : Int)) := by rw [g2]; exact h.T (by omega)
      have hlen := rlJ_len (gd s 1) k (k + 1) (itr (rlI (gd s 1)) k []) m
      have hlen2 := rlI_len (gd s 1) k
      have ht := tri_le (n := nn (gd s 1)) (i := k + 1) (by omega) (by omega)
      have ht2 : tri (nn (gd s 1)) (k + 1) = tri (nn (gd s 1)) k + (nn (gd s 1) - (k + 1)) := rfl
      simp only [r_G ho, Option.bind_some, jn, cst, bP_if, rB_0, rB_1, z00, z10, ↓reduceIte, (h.T (show k + 1 + m < nn (gd s 1) by omega)).2, q_92 ho h2 hk2 hm2, q_65, q_66, i3_nat_add, g2]
      have hF : itr (fun m => rlF (gd s 1) k (k + 1 + m)) (m + 1) (itr (rlI (gd s 1)) k []) = rlF (gd s 1) k (k + 1 + m) (itr (fun m => rlF (gd s 1) k (k + 1 + m)) m (itr (rlI (gd s 1)) k [])) := rfl
      by_cases c : rlC (gd s 1) k (k + 1 + m)
      · rw [if_pos c.1, if_pos c.2, q_104 r2.1 (by omega) (by rw [c2.ln]; exact z.1)]
        simp only [Option.bind_some, jn, cst, bP_if, rB_0, rB_1, z00, z10, ↓reduceIte]
        refine hnx2 _ ⟨_, rfl, (c2.a (Or.inl rfl) (insA_len _ _ _)).f (Or.inl rfl), ?_⟩
        rw [hF, show rlF (gd s 1) k (k + 1 + m) _ = insL _ _ from if_pos c]
        refine ⟨?_, ?_, ?_⟩
        · rw [insL_len]; rfl
        · rw [insL_len]; omega
        · show pre _ (ia (sa s2 17 _) 17)
          rw [ia_sa, if_pos rfl]
          exact r2.2.2.ins (by rw [c2.ln, z.1]; omega)
      · have : T (nx2 (i3 ((k + 1 + m + 1 : Nat) : Int), H s2)) _ := hnx2 _ ⟨s2, rfl, c2, by
          rw [hF, show rlF (gd s 1) k (k + 1 + m) _ = _ from if_neg c]
          exact r2⟩
        split
        · split
          · rename_i e1 e2
            exact absurd ⟨e1, e2⟩ c
          · exact this
        · exact this
    · rintro _ ⟨s2, rfl, c2, r2⟩ nx2 ex2 hex2
      have g2 := c2.g ho
      simp only [r_G ho, Option.bind_some, jn, cst, bP_if, rB_0, rB_1, z00, z10, ↓reduceIte, g2]
      rw [if_pos (h.Te (by omega) (by omega))]
      exact hex2 _ ⟨s2, rfl, c2, r2⟩
    · rintro _ ⟨s2, rfl, c2, r2⟩
      exact hnx _ ⟨s2, rfl, c2, r2⟩
  · rintro _ ⟨s1, rfl, c1, r1⟩ nx ex hex
    have g1 := c1.g ho
    simp only [r_G ho, Option.bind_some, jn, cst, bP_if, rB_0, rB_1, z00, z10, ↓reduceIte, g1, h.Te (Nat.le_refl _) (by have := h.n_le; omega)]
    exact hex _ ⟨s1, rfl, c1, r1⟩
theorem q_63 (h : ok (gd s 1)) (z : Sz s) : ∃ s', m_63 0 (H s) = some (16, H s') ∧ sc s s' ∧ rowsOK s' (RL (gd s 1)) := by
  obtain ⟨_, e, s', rfl, c, r⟩ := q_103 h z
  refine ⟨s', ?_, c, r⟩
  unfold m_63
  simp only [r_0, Option.bind_some, jn, cst, bP_if, rB_0, rB_1, z00, z10, ↓reduceIte, e]
end CR
end
section
/-! ===== what is told of the rows (class) ===== -/
noncomputable def lg (L : List Int32) (k : Nat) : Int32 := L.getD k 0
noncomputable def coF (L : List Int32) (q : Int32) (k : Nat) (m : Int32) : Int32 := if bct (lg L k) = q then m + i3 1 else m
noncomputable def co (L : List Int32) (q : Int32) : Int32 := itr (coF L q) L.length (i3 0)
noncomputable def cwF (L : List Int32) (t q : Int32) (k : Nat) (m : Int32) : Int32 := if (lg L k &&& bit t) = 0 then m else if bct (lg L k) < q then m else m + i3 1
noncomputable def cw (L : List Int32) (t q : Int32) : Int32 := itr (cwF L t q) L.length (i3 0)
noncomputable def tiF (L : List Int32) (k : Nat) (m : Int32) : Int32 := if bct (lg L k) < i3 3 then m else m ||| lg L k
noncomputable def ti (L : List Int32) : Int32 := itr (tiF L) L.length (i3 0)
noncomputable def flF (L : List Int32) (k : Nat) (m : Int32) : Int32 := if bct (lg L k) ≤ bct m then m else lg L k
noncomputable def fl (L : List Int32) : Int32 := itr (flF L) L.length (i3 0)
/-- the i-th of so many -/
noncomputable def pkF (L : List Int32) (q i : Int32) : Nat → Nat → Int32 → Int32
  | 0, _, _ => i3 0
  | n + 1, k, a => if bct (lg L k) = q then if a = i then lg L k else pkF L q i n (k + 1) (a + i3 1) else pkF L q i n (k + 1) a
noncomputable def pk (L : List Int32) (q i : Int32) : Int32 := pkF L q i L.length 0 (i3 0)
theorem rowsOK.at {s : St} {L : List Int32} (r : rowsOK s L) {k : Nat} (hk : k < L.length) : at32 (ia s 17) (i3 (k : Int)) = some (lg L k) := r.2.2.at hk (by have := r.2.1; omega)
theorem rowsOK.lt {s : St} {L : List Int32} (r : rowsOK s L) {k : Nat} (hk : k < L.length) : ¬ fi s 16 1 ≤ i3 (k : Int) := by
  have := r.2.1
  rw [r.1, i3n_le (by omega) (by omega)]; omega
theorem rowsOK.ge {s : St} {L : List Int32} (r : rowsOK s L) : fi s 16 1 ≤ i3 (L.length : Int) := by
  have := r.2.1
  rw [r.1, i3n_le (by omega) (by omega)]; omega
section RQ
variable {s : St} {L : List Int32}
theorem q_64 (k : Int32) (th : tH) : m_64 k th = some (bP (¬ k < i3 2 ∧ k ≤ i3 12)) := by
  unfold m_64
  simp only [Option.bind_some, jn, cst, bP_if, rB_0, rB_1, z00, z10, ↓reduceIte]
  unfold bP
  ((repeat' split) <;> (first | rfl | (exfalso; simp_all only [isT, isCl, isW, st3, btw, kOf, not_true_eq_false, not_false_eq_true, and_true, true_and, and_self, and_false, false_and, or_true, true_or, or_false, false_or, not_and]; done) | grind))
theorem q_105 (r : rowsOK s L) (q : Int32) : m_105 16 q (H s) = some (co L q) := by
  have hl := r.2.1
  unfold m_105
  simp only [r_R, Option.bind_some, jn, cst, bP_if, rB_0, rB_1, z00, z10, ↓reduceIte]
  refine (lp0 L.length (by omega) (fun t a => (a, t)) (fun a => a) (coF L q) (fun _ => True) (i3 0) ?_ (fun _ _ _ _ => trivial) ?_ trivial).trans rfl
  · intro k m nx ex hk _
    simp only [r.lt hk, r.at hk, q_173, Option.bind_some, jn, cst, bP_if, rB_0, rB_1, z00, z10, ↓reduceIte]
    unfold coF
    ((repeat' split) <;> (first | rfl | (exfalso; simp_all only [isT, isCl, isW, st3, btw, kOf, not_true_eq_false, not_false_eq_true, and_true, true_and, and_self, and_false, false_and, or_true, true_or, or_false, false_or, not_and]; done) | grind))
  · intro a nx ex _
    simp only [r.ge, Option.bind_some, jn, cst, bP_if, rB_0, rB_1, z00, z10, ↓reduceIte]
theorem q_106 (r : rowsOK s L) : m_106 16 (H s) = some (i3 (L.length : Int) - co L (i3 2)) := by
  unfold m_106
  simp only [r_R, Option.bind_some, jn, cst, bP_if, rB_0, rB_1, z00, z10, ↓reduceIte, q_105 r, r.1]
theorem q_107 (r : rowsOK s L) (t q : Int32) : m_107 16 t q (H s) = some (cw L t q) := by
  have hl := r.2.1
  unfold m_107
  simp only [r_R, Option.bind_some, jn, cst, bP_if, rB_0, rB_1, z00, z10, ↓reduceIte]
  refine (lp0 L.length (by omega) (fun t a => (a, t)) (fun a => a) (cwF L t q) (fun _ => True) (i3 0) ?_ (fun _ _ _ _ => trivial) ?_ trivial).trans rfl
  · intro k m nx ex hk _
    simp only [r.lt hk, r.at hk, q_173, Option.bind_some, jn, cst, bP_if, rB_0, rB_1, z00, z10, ↓reduceIte]
    unfold cwF bit
    ((repeat' split) <;> (first | rfl | (exfalso; simp_all only [isT, isCl, isW, st3, btw, kOf, not_true_eq_false, not_false_eq_true, and_true, true_and, and_self, and_false, false_and, or_true, true_or, or_false, false_or, not_and]; done) | grind))
  · intro a nx ex _
    simp only [r.ge, Option.bind_some, jn, cst, bP_if, rB_0, rB_1, z00, z10, ↓reduceIte]
theorem q_108 (r : rowsOK s L) (t : Int32) : m_108 16 t (H s) = some (cw L t (i3 3) - cw L t (i3 4)) := by
  unfold m_108
  simp only [r_R, Option.bind_some, jn, cst, bP_if, rB_0, rB_1, z00, z10, ↓reduceIte, q_107 r]
theorem q_109 (r : rowsOK s L) : m_109 16 (H s) = some (ti L) := by
  have hl := r.2.1
  unfold m_109
  simp only [r_R, Option.bind_some, jn, cst, bP_if, rB_0, rB_1, z00, z10, ↓reduceIte]
  refine (lp0 L.length (by omega) (fun t a => (a, t)) (fun a => a) (tiF L) (fun _ => True) (i3 0) ?_ (fun _ _ _ _ => trivial) ?_ trivial).trans rfl
  · intro k m nx ex hk _
    simp only [r.lt hk, r.at hk, q_173, Option.bind_some, jn, cst, bP_if, rB_0, rB_1, z00, z10, ↓reduceIte]
    unfold tiF
    ((repeat' split) <;> (first | rfl | (exfalso; simp_all only [isT, isCl, isW, st3, btw, kOf, not_true_eq_false, not_false_eq_true, and_true, true_and, and_self, and_false, false_and, or_true, true_or, or_false, false_or, not_and]; done) | grind))
  · intro a nx ex _
    simp only [r.ge, Option.bind_some, jn, cst, bP_if, rB_0, rB_1, z00, z10, ↓reduceIte]
theorem q_111 (r : rowsOK s L) : m_111 16 (H s) = some (fl L) := by
  have hl := r.2.1
  unfold m_111
  simp only [r_R, Option.bind_some, jn, cst, bP_if, rB_0, rB_1, z00, z10, ↓reduceIte]
  refine (lp0 L.length (by omega) (fun t a => (a, t)) (fun a => a) (flF L) (fun _ => True) (i3 0) ?_ (fun _ _ _ _ => trivial) ?_ trivial).trans rfl
  · intro k m nx ex hk _
    simp only [r.lt hk, r.at hk, q_173, Option.bind_some, jn, cst, bP_if, rB_0, rB_1, z00, z10, ↓reduceIte]
    unfold flF
    ((repeat' split) <;> (first | rfl | (exfalso; simp_all only [isT, isCl, isW, st3, btw, kOf, not_true_eq_false, not_false_eq_true, and_true, true_and, and_self, and_false, false_and, or_true, true_or, or_false, false_or, not_and]; done) | grind))
  · intro a nx ex _
    simp only [r.ge, Option.bind_some, jn, cst, bP_if, rB_0, rB_1, z00, z10, ↓reduceIte]
/-- a loop with a count, that may end ahead -/
theorem lpP {σ X R α : Type} {F : σ → (σ → Option R) → (X → Option R) → Option R} {K : X → Option R} (N : Nat) (hN : N ≤ 1000) (en : Int32 → α → σ) (x : X) (p : Nat → α → Option R) (f : Nat → α → α) (d : Option R)
    (hs : ∀ k a nx ex, k < N → F (en (i3 (k : Int)) a) nx ex = match p k a with | some r => some r | none => nx (en (i3 (k : Int) + Int32.ofInt 1) (f k a))) (he : ∀ a nx ex, F (en (i3 (N : Int)) a) nx ex = ex x) (hK : K x = d) (g : Nat → Nat → α → Option R) (g0 : ∀ k a, g 0 k a = d) (gs : ∀ n k a, k < N → g (n + 1) k a = match p k a with | some r => some r | none => g n (k + 1) (f k a)) (a0 : α) : lp F 4096 (en (Int32.ofInt 0) a0) K = g N 0 a0 := by
  have key : ∀ m fuel a, m ≤ N → m < fuel → lp F fuel (en (i3 ((N - m : Nat) : Int)) a) K = g m (N - m) a := by
    intro m
    induction m with
    | zero =>
      intro fuel a _ hf
      obtain ⟨q, rfl⟩ : ∃ q, fuel = q + 1 := ⟨fuel - 1, by omega⟩
      rw [lp_s, Nat.sub_zero, he, g0, hK]
    | succ m ih =>
      intro fuel a hm hf
      obtain ⟨q, rfl⟩ : ∃ q, fuel = q + 1 := ⟨fuel - 1, by omega⟩
      rw [lp_s, hs _ _ _ _ (by omega), gs _ _ _ (by omega)]
      cases p (N - (m + 1)) a with
      | some r => rfl
      | none =>
        dsimp only
        rw [i3_nat_add, show N - (m + 1) + 1 = N - m by omega]
        exact ih q _ (by omega) (by omega)
  have := key N 4096 a0 (Nat.le_refl _) (by omega)
  rw [Nat.sub_self] at this
  exact this
theorem q_110 (r : rowsOK s L) (q i : Int32) : m_110 16 q i (H s) = some (pk L q i) := by
  have hl := r.2.1
  unfold m_110
  simp only [r_R, Option.bind_some, jn, cst, bP_if, rB_0, rB_1, z00, z10, ↓reduceIte]
  refine (lpP L.length (by omega) (fun t a => (a, t)) () (fun k a => if bct (lg L k) = q then if a = i then some (lg L k) else none else none) (fun k a => if bct (lg L k) = q then a + i3 1 else a) (some (i3 0)) ?_ ?_ rfl (fun n k a => some (pkF L q i n k a)) (fun _ _ => rfl) ?_ (i3 0)).trans rfl
  · intro k m nx ex hk
    simp only [r.lt hk, r.at hk, q_173, Option.bind_some, jn, cst, bP_if, rB_0, rB_1, z00, z10, ↓reduceIte]
    ((repeat' split) <;> (first | rfl | (exfalso; simp_all only [isT, isCl, isW, st3, btw, kOf, not_true_eq_false, not_false_eq_true, and_true, true_and, and_self, and_false, false_and, or_true, true_or, or_false, false_or, not_and]; done) | grind))
  · intro a nx ex
    simp only [r.ge, Option.bind_some, jn, cst, bP_if, rB_0, rB_1, z00, z10, ↓reduceIte]
  · intro n k a hk
    show some (if bct (lg L k) = q then if a = i then lg L k else pkF L q i n (k + 1) (a + i3 1) else pkF L q i n (k + 1) a) = _
    ((repeat' split) <;> (first | rfl | (exfalso; simp_all only [isT, isCl, isW, st3, btw, kOf, not_true_eq_false, not_false_eq_true, and_true, true_and, and_self, and_false, false_and, or_true, true_or, or_false, false_or, not_and]; done) | grind))
end RQ
/-! ===== the smallest gap (class) ===== -/
abbrev Gp : Type := Int32 × Int32 × Int32 × Int32
noncomputable def gp (s : St) : Gp := (fi s 23 0, fi s 23 1, fi s 23 2, fi s 23 3)
noncomputable def ofr (g : Gd) (m t : Int32) (a : Gp) : Gp := if isT g (ntz m) ∧ isT g (ntz (m &&& (m - i3 1))) then if a.2.1 = i3 (-1) ∨ dar g (cA g (ntz m)) (cA g (ntz (m &&& (m - i3 1)))) (cA g t) * dar g (cA g (ntz m)) (cA g (ntz (m &&& (m - i3 1)))) (cA g t) * a.2.2.2 < a.2.2.1 * sqr g (cA g (ntz m)) (cA g (ntz (m &&& (m - i3 1)))) then (m, t, dar g (cA g (ntz m)) (cA g (ntz (m &&& (m - i3 1)))) (cA g t) * dar g (cA g (ntz m)) (cA g (ntz (m &&& (m - i3 1)))) (cA g t), sqr g (cA g (ntz m)) (cA g (ntz (m &&& (m - i3 1))))) else a else a
noncomputable def gpF (g : Gd) (m : Int32) (t : Nat) (a : Gp) : Gp := if (m &&& bit (i3 (t : Int))) = 0 ∧ ¬ kOf (kA g (i3 (t : Int))) (i3 4) then ofr g m (i3 (t : Int)) a else a
noncomputable def gpI (g : Gd) (L : List Int32) (i : Nat) (a : Gp) : Gp := itr (gpF g (lg L i)) (nn g) a
noncomputable def gpA (g : Gd) (L : List Int32) (a : Gp) : Gp := itr (gpI g L) L.length a
section GP
variable {s : St}
theorem q_127 (h : ok (gd s 1)) {m t : Int32} (ht : isT (gd s 1) t) : ∃ s', m_127 23 1 m t (H s) = some (H s') ∧ sc s s' ∧ gp s' = ofr (gd s 1) m t (gp s) ∧ s'.1 = s.1 ∧ fi s' 16 1 = fi s 16 1 := by
  have ho : isG 1 := Or.inl rfl
  have b : ∀ k, sF 23 k := fun k => Or.inr (Or.inr (Or.inl rfl))
  unfold m_127
  simp only [r_P, Option.bind_some, jn, cst, bP_if, rB_0, rB_1, z00, z10, ↓reduceIte, q_65, q_66, q_81 ho]
  unfold ofr
  by_cases c1 : isT (gd s 1) (ntz m)
  · by_cases c2 : isT (gd s 1) (ntz (m &&& (m - i3 1)))
    · simp only [if_pos c1, if_pos c2, if_pos (And.intro c1 c2), r_G ho, h.at_c c1, h.at_c c2, h.at_c ht, q_79 ho h, q_78 ho h, r_P, Option.bind_some, jn, cst, bP_if, rB_0, rB_1, z00, z10, ↓reduceIte]
      have e : gp s = (fi s 23 0, fi s 23 1, fi s 23 2, fi s 23 3) := rfl
      by_cases c3 : fi s 23 1 = i3 (-1)
      · rw [if_pos c3, if_pos (show (gp s).2.1 = i3 (-1) ∨ _ from Or.inl c3)]
        exact ⟨_, rfl, ((((sc.refl s).f (b 0)).f (b 1)).f (b 2)).f (b 3), rfl, rfl, rfl⟩
      · rw [if_neg c3]
        by_cases c4 : fi s 23 2 * sqr (gd s 1) (cA (gd s 1) (ntz m)) (cA (gd s 1) (ntz (m &&& (m - i3 1)))) ≤ dar (gd s 1) (cA (gd s 1) (ntz m)) (cA (gd s 1) (ntz (m &&& (m - i3 1)))) (cA (gd s 1) t) * dar (gd s 1) (cA (gd s 1) (ntz m)) (cA (gd s 1) (ntz (m &&& (m - i3 1)))) (cA (gd s 1) t) * fi s 23 3
        · rw [if_pos c4, if_neg (fun e => e.elim (fun e => c3 e) (fun e => absurd c4 (Int32.not_le.mpr e)))]
          exact ⟨_, rfl, sc.refl s, rfl, rfl, rfl⟩
        · rw [if_neg c4, if_pos (show _ ∨ _ * (gp s).2.2.2 < (gp s).2.2.1 * _ from Or.inr (Int32.not_le.mp c4))]
          exact ⟨_, rfl, ((((sc.refl s).f (b 0)).f (b 1)).f (b 2)).f (b 3), rfl, rfl, rfl⟩
    · simp only [if_pos c1, if_neg c2, if_neg (fun e : _ ∧ _ => c2 e.2), Option.bind_some, jn, cst, bP_if, rB_0, rB_1, z00, z10, ↓reduceIte]
      exact ⟨_, rfl, sc.refl s, rfl, rfl, rfl⟩
  · simp only [if_neg c1, if_neg (fun e : _ ∧ _ => c1 e.1), Option.bind_some, jn, cst, bP_if, rB_0, rB_1, z00, z10, ↓reduceIte]
    exact ⟨_, rfl, sc.refl s, rfl, rfl, rfl⟩
theorem q_126 {L : List Int32} (h : ok (gd s 1)) (r : rowsOK s L) : T (m_126 23 1 16 (H s)) (fun th => ∃ s', th = H s' ∧ sc s s' ∧ gp s' = gpA (gd s 1) L (fi s 23 0, i3 (-1), fi s 23 2, fi s 23 3)) := by
  have ho : isG 1 := Or.inl rfl
  have hl := r.2.1
  unfold m_126
  simp only [r_P, Option.bind_some, jn, cst, bP_if, rB_0, rB_1, z00, z10, ↓reduceIte]
  refine lpH L.length (fun k q => ∃ s', q = (i3 (k : Int), H s') ∧ sc s s' ∧ gp s' = itr (gpI (gd s 1) L) k (fi s 23 0, i3 (-1), fi s 23 2, fi s 23 3) ∧ rowsOK s' L) (fun th => ∃ s', th = H s' ∧ sc s s' ∧ gp s' = gpA (gd s 1) L (fi s 23 0, i3 (-1), fi s 23 2, fi s 23 3)) ?_ ?_ ?_ ?_ (by omega)
  · rintro k _ hk ⟨s1, rfl, c1, e1, r1⟩ nx ex hnx hex
    have g1 := c1.g ho
    simp only [r_R, Option.bind_some, jn, cst, bP_if, rB_0, rB_1, z00, z10, ↓reduceIte, r1.lt hk]
    refine lpH (nn (gd s 1)) (fun m q => ∃ s', q = (i3 (m : Int), H s') ∧ sc s s' ∧ gp s' = itr (gpF (gd s 1) (lg L k)) m (itr (gpI (gd s 1) L) k (fi s 23 0, i3 (-1), fi s 23 2, fi s 23 3)) ∧ rowsOK s' L) (fun th => ∃ s', th = H s' ∧ sc s s' ∧ gp s' = itr (gpI (gd s 1) L) (k + 1) (fi s 23 0, i3 (-1), fi s 23 2, fi s 23 3) ∧ rowsOK s' L) ?_ ?_ ?_ ?_ (by have := h.n_le; omega)
    · rintro m _ hm ⟨s2, rfl, c2, e2, r2⟩ nx2 ex2 hnx2 hex2
      have g2 := c2.g ho
      have h2 : ok (gd s2 1) := by rw [g2]; exact h
      have hm2 : isT (gd s2 1) (i3 (m : Int)) := by rw [g2]; exact h.T hm
      simp only [r_G ho, r_R, Option.bind_some, jn, cst, bP_if, rB_0, rB_1, z00, z10, ↓reduceIte, hm2.2, r2.at hk, q_85 ho h2 hm2, i3_nat_add]
      have hF : ∀ A, itr (gpF (gd s 1) (lg L k)) (m + 1) A = gpF (gd s 1) (lg L k) m (itr (gpF (gd s 1) (lg L k)) m A) := fun A => rfl
      obtain ⟨s3, e3, c3, p3, a3, f3⟩ := q_127 h2 (m := lg L k) hm2
      have no : ¬ ((lg L k &&& bit (i3 (m : Int))) = 0 ∧ ¬ kOf (kA (gd s2 1) (i3 (m : Int))) (i3 4)) → T (nx2 (i3 ((m + 1 : Nat) : Int), H s2)) (fun th => ∃ s', th = H s' ∧ sc s s' ∧ gp s' = gpA (gd s 1) L (fi s 23 0, i3 (-1), fi s 23 2, fi s 23 3)) := fun c => hnx2 _ ⟨s2, rfl, c2, by
        rw [hF, ← e2]
        unfold gpF
        rw [if_neg (by rw [← g2]; exact c)], r2⟩
      by_cases c : (lg L k &&& bit (i3 (m : Int))) = 0
      · have c' : (lg L k &&& Int32.ofInt 1 <<< (i3 (m : Int) &&& 31)) = 0 := c
        rw [if_pos c']
        by_cases d : kOf (kA (gd s2 1) (i3 (m : Int))) (i3 4)
        · rw [if_pos d]
          exact no (fun e => e.2 d)
        · rw [if_neg d]
          simp only [r2.at hk, Option.bind_some, jn, cst, bP_if, rB_0, rB_1, z00, z10, ↓reduceIte, e3]
          refine hnx2 _ ⟨s3, rfl, c2.trans c3, ?_, ?_⟩
          · rw [hF, ← e2, p3, g2]
            unfold gpF
            rw [if_pos ⟨c, by rw [← g2]; exact d⟩]
          · refine ⟨by rw [f3]; exact r2.1, r2.2.1, ?_⟩
            show pre L (s3.1 17)
            rw [a3]
            exact r2.2.2
      · have c' : ¬ (lg L k &&& Int32.ofInt 1 <<< (i3 (m : Int) &&& 31)) = 0 := c
        rw [if_neg c']
        exact no (fun e => c e.1)
    · rintro _ ⟨s2, rfl, c2, e2, r2⟩ nx2 ex2 hex2
      have g2 := c2.g ho
      simp only [r_G ho, Option.bind_some, jn, cst, bP_if, rB_0, rB_1, z00, z10, ↓reduceIte, g2, h.Te (Nat.le_refl _) (by have := h.n_le; omega)]
      exact hex2 _ ⟨s2, rfl, c2, e2, r2⟩
    · rintro _ ⟨s2, rfl, c2, e2, r2⟩
      simp only [i3_nat_add]
      exact hnx _ ⟨s2, rfl, c2, e2, r2⟩
    · exact ⟨s1, rfl, c1, e1, r1⟩
  · rintro _ ⟨s1, rfl, c1, e1, r1⟩ nx ex hex
    simp only [r_R, Option.bind_some, jn, cst, bP_if, rB_0, rB_1, z00, z10, ↓reduceIte, r1.ge]
    exact hex _ ⟨s1, rfl, c1, e1⟩
  · intro x hx
    exact T_some hx
  · exact ⟨sf s 23 1 (Int32.ofInt (-1)), rfl, (sc.refl s).f (Or.inr (Or.inr (Or.inl rfl))), rfl, r⟩
end GP
end
section
/-! ===== lines through cells, moves (class) ===== -/
theorem gd1_sa {s : St} {p : Nat} {l : List Int32} (h : 5 < p) : gd (sa s p l) 1 = gd s 1 := by
  unfold gd
  simp only [fi_sa, ia_sa, if_neg (show ¬ 1 + 1 = p by omega), if_neg (show ¬ 1 + 2 = p by omega), if_neg (show ¬ 1 + 3 = p by omega), if_neg (show ¬ 1 + 4 = p by omega)]
theorem cellO_cl {g : Gd} (h : ok g) {r c : Int32} (hn : ¬ cellO g r c = i3 (-1)) : isCl g (cellO g r c) := by
  unfold cellO at hn ⊢
  by_cases c1 : r < 0
  · rw [if_pos c1] at hn; exact absurd rfl hn
  by_cases c2 : sD g ≤ r
  · rw [if_neg c1, if_pos c2] at hn; exact absurd rfl hn
  by_cases c3 : c < 0
  · rw [if_neg c1, if_neg c2, if_pos c3] at hn; exact absurd rfl hn
  by_cases c4 : sD g ≤ c
  · rw [if_neg c1, if_neg c2, if_neg c3, if_pos c4] at hn; exact absurd rfl hn
  rw [if_neg c1, if_neg c2, if_neg c3, if_neg c4]
  have hd := h.d_le
  have e1 := i3_cl c1
  have e2 := i3_cl c3
  have b1 : r.toNatClampNeg < dn g := lt_cl (by omega) c1 (by rw [← h.d_eq]; exact c2)
  have b2 : c.toNatClampNeg < dn g := lt_cl (by omega) c3 (by rw [← h.d_eq]; exact c4)
  rw [e1, e2, h.d_eq, i3_mul, i3_add]
  generalize r.toNatClampNeg = a at *
  generalize c.toNatClampNeg = b at *
  have e : ((a : Int) * (dn g : Int) + (b : Int)) = ((a * dn g + b : Nat) : Int) := by
    rw [Int.natCast_add, Int.natCast_mul]
  rw [e]
  refine h.C ?_
  have : (a + 1) * dn g ≤ dn g * dn g := Nat.mul_le_mul_right _ (by omega)
  rw [Nat.add_mul] at this
  omega
noncomputable def redF (i : Nat) (a : Int32 × Int32) : Int32 × Int32 := if a.1 - a.1 / i3 (8 - (i : Int)) * i3 (8 - (i : Int)) = 0 then if a.2 - a.2 / i3 (8 - (i : Int)) * i3 (8 - (i : Int)) = 0 then (a.1 / i3 (8 - (i : Int)), a.2 / i3 (8 - (i : Int))) else a else a
noncomputable def red (a : Int32 × Int32) : Int32 × Int32 := itr redF 7 a
noncomputable def stp (g : Gd) (r c : Int32) (d : Int32 × Int32) (k : Nat) (l : List Int32) : List Int32 := if cellO g (r + i3 ((k : Int) - 8) * d.1) (c + i3 ((k : Int) - 8) * d.2) = i3 (-1) then l else l.set (cellO g (r + i3 ((k : Int) - 8) * d.1) (c + i3 ((k : Int) - 8) * d.2)).toNatClampNeg (rd l (cellO g (r + i3 ((k : Int) - 8) * d.1) (c + i3 ((k : Int) - 8) * d.2)) + i3 1)
noncomputable def lnA (g : Gd) (m : Int32) (l : List Int32) : List Int32 := if isT g (ntz m) ∧ isT g (ntz (m &&& (m - i3 1))) then itr (stp g (rO g (cA g (ntz m))) (cO g (cA g (ntz m))) (red (rO g (cA g (ntz (m &&& (m - i3 1)))) - rO g (cA g (ntz m)), cO g (cA g (ntz (m &&& (m - i3 1)))) - cO g (cA g (ntz m))))) 17 l else l
theorem stp_len (g : Gd) (r c : Int32) (d : Int32 × Int32) (k : Nat) (l : List Int32) : (stp g r c d k l).length = l.length := by
  unfold stp
  split
  · rfl
  · exact List.length_set
theorem itr_len {f : Nat → List Int32 → List Int32} (h : ∀ k l, (f k l).length = l.length) : ∀ (n : Nat) (l : List Int32), (itr f n l).length = l.length
  | 0, l => rfl
  | n + 1, l => (h n _).trans (itr_len h n l)
theorem lnA_len (g : Gd) (m : Int32) (l : List Int32) : (lnA g m l).length = l.length := by
  unfold lnA
  split
  · exact itr_len (stp_len g _ _ _) 17 l
  · rfl
noncomputable def zer : List Int32 := List.replicate 64 (i3 0)
theorem itr_zero : ∀ (n : Nat) (l : List Int32), n ≤ l.length → itr (fun k (l : List Int32) => l.set k (i3 0)) n l = List.replicate n (i3 0) ++ l.drop n
  | 0, l, _ => rfl
  | n + 1, l, h => by
    show (itr (fun k (l : List Int32) => l.set k (i3 0)) n l).set n (i3 0) = _
    rw [itr_zero n l (by omega), List.set_append_right _ _ (by rw [List.length_replicate]; exact Nat.le_refl _), List.length_replicate, Nat.sub_self, List.drop_eq_getElem_cons (by omega), List.set_cons_zero, List.replicate_succ', List.append_assoc]
    rfl
theorem lp_red {R : Type} (d e : Int32) (K : Int32 × Int32 → Option R) : lp (fun (s19 : Int32 × Int32 × Int32) nx20 ex21 => if s19.2.2 ≤ (Int32.ofInt 1) then ex21 (s19.1, s19.2.1) else (rmI s19.1 s19.2.2).bind fun x35 => if x35 = 0 then (rmI s19.2.1 s19.2.2).bind fun x38 => if x38 = 0 then (dvI s19.1 s19.2.2).bind fun x39 => (dvI s19.2.1 s19.2.2).bind fun x40 => nx20 (x39, x40, (s19.2.2 + Int32.ofInt (-1))) else nx20 (s19.1, s19.2.1, (s19.2.2 + Int32.ofInt (-1))) else nx20 (s19.1, s19.2.1, (s19.2.2 + Int32.ofInt (-1)))) 4096 (d, e, i3 8) K = K (red (d, e)) := by
  refine (lp_acc 7 (fun i (a : Int32 × Int32) => (a.1, a.2, i3 (8 - (i : Int)))) (fun a => a) redF (fun _ _ => True) (d, e) ?_ (fun _ _ _ _ => trivial) ?_ trivial (fuel := 4096) (by omega)).trans rfl
  · intro i a nx ex hi _
    have e0 : ¬ i3 (8 - (i : Int)) = 0 := by
      rw [i3_0, i3_inj ⟨by omega, by omega⟩ ⟨by omega, by omega⟩]; omega
    have e1 : ¬ i3 (8 - (i : Int)) ≤ Int32.ofInt 1 := by
      rw [i3_le ⟨by omega, by omega⟩ ⟨by omega, by omega⟩]; omega
    have e2 : i3 (8 - (i : Int)) + Int32.ofInt (-1) = i3 (8 - ((i + 1 : Nat) : Int)) := by
      rw [i3_add, show (8 - (i : Int)) + -1 = 8 - ((i + 1 : Nat) : Int) by omega]
    simp only [rmI, dvI, e0, e1, e2, Option.bind_some, jn, cst, bP_if, rB_0, rB_1, z00, z10, ↓reduceIte]
    unfold redF
    ((repeat' split) <;> (first | rfl | (exfalso; simp_all only [isT, isCl, isW, st3, btw, kOf, not_true_eq_false, not_false_eq_true, and_true, true_and, and_self, and_false, false_and, or_true, true_or, or_false, false_or, not_and]; done) | grind))
  · intro a nx ex _
    have e1 : i3 (8 - ((7 : Nat) : Int)) ≤ Int32.ofInt 1 := by decide +kernel
    simp only [e1, Option.bind_some, jn, cst, bP_if, rB_0, rB_1, z00, z10, ↓reduceIte]
theorem lp_stp {s : St} {o : Nat} (ho : isC o) (h : ok (gd s 1)) (hl : (ia s (o + 1)).length = 64) (r c : Int32) (d : Int32 × Int32) : lp (fun (s23 : Int32 × tH) nx24 ex25 => if i3 8 < s23.1 then ex25 s23.2 else (m_74 1 (r + (s23.1 * d.1)) (c + (s23.1 * d.2)) s23.2).bind fun x27 => if x27 = (Int32.ofInt (-1)) then nx24 ((s23.1 + Int32.ofInt 1), s23.2) else (gN s23.2 0 o 0).bind fun o30 => (aI s23.2 o30 x27).bind fun x31 => (sI s23.2 o30 x27 (x31 + (Int32.ofInt 1))).bind fun th32 => nx24 ((s23.1 + Int32.ofInt 1), th32)) 4096 (i3 (-8), H s) (fun (x26 : tH) => some x26) = some (H (sa s (o + 1) (itr (stp (gd s 1) r c d) 17 (ia s (o + 1))))) := by
  have hg : isG 1 := Or.inl rfl
  have ho5 : 5 < o + 1 := by rcases ho with rfl | rfl <;> omega
  have e0 : (i3 (-8), H s) = (fun i (l : List Int32) => (i3 ((i : Int) - 8), H (sa s (o + 1) l))) 0 (ia s (o + 1)) := by
    show (i3 (-8), H s) = (i3 (((0 : Nat) : Int) - 8), H (sa s (o + 1) (ia s (o + 1))))
    rw [sa_id]; rfl
  rw [e0]
  refine (lp_acc 17 (fun i (l : List Int32) => (i3 ((i : Int) - 8), H (sa s (o + 1) l))) (fun l => H (sa s (o + 1) l)) (stp (gd s 1) r c d) (fun _ l => l.length = 64) (ia s (o + 1)) ?_ ?_ ?_ hl (fuel := 4096) (by omega)).trans rfl
  · intro i l nx ex hi hll
    have e1 : ¬ i3 8 < i3 ((i : Int) - 8) := by
      rw [i3_lt ⟨by omega, by omega⟩ ⟨by omega, by omega⟩]; omega
    have e2 : i3 ((i : Int) - 8) + Int32.ofInt 1 = i3 (((i + 1 : Nat) : Int) - 8) := by
      rw [i3_add, show ((i : Int) - 8) + 1 = ((i + 1 : Nat) : Int) - 8 by omega]
    simp only [e1, e2, q_74 hg, gd1_sa ho5, Option.bind_some, jn, cst, bP_if, rB_0, rB_1, z00, z10, ↓reduceIte]
    unfold stp
    by_cases c3 : cellO (gd s 1) (r + i3 ((i : Int) - 8) * d.1) (c + i3 ((i : Int) - 8) * d.2) = i3 (-1)
    · rw [if_pos c3, if_pos c3]
    · have hc := cellO_cl h c3
      have hb := h.cl hc
      have hb2 := h.cc_le
      rw [if_neg c3, if_neg c3]
      simp only [r_C ho, Option.bind_some, jn, cst, bP_if, rB_0, rB_1, z00, z10, ↓reduceIte, ia_sa, at_rd hc.1 (show _ < l.length by omega), st_wr hc.1 (show _ < l.length by omega), Option.map_some, sa_sa]
  · intro i l hi hll
    exact (stp_len _ _ _ _ _ _).trans hll
  · intro l nx ex hll
    have e1 : i3 8 < i3 (((17 : Nat) : Int) - 8) := by decide +kernel
    simp only [e1, Option.bind_some, jn, cst, bP_if, rB_0, rB_1, z00, z10, ↓reduceIte]
section CX
variable {s : St} {o : Nat}
theorem q_113 (ho : isC o) (hl : (ia s (o + 1)).length = 64) : m_113 o (H s) = some (H (sa s (o + 1) zer)) := by
  unfold m_113
  simp only [r_C ho, Option.bind_some, jn, cst, bP_if, rB_0, rB_1, z00, z10, ↓reduceIte]
  have h := lp_acc (R := tH) (X := tH) (K := fun x4 => some x4) (F := fun (s1 : Int32 × tH) nx2 ex3 => (gN s1.2 0 o 0).bind fun o5 => (aL s1.2 o5).bind fun x6 => if x6 ≤ s1.1 then ex3 s1.2 else (gN s1.2 0 o 0).bind fun o7 => (sI s1.2 o7 s1.1 (Int32.ofInt 0)).bind fun th8 => nx2 ((s1.1 + Int32.ofInt 1), th8)) 64 (fun i (l : List Int32) => (i3 (i : Int), H (sa s (o + 1) l))) (fun l => H (sa s (o + 1) l)) (fun k l => l.set k (i3 0)) (fun _ l => l.length = 64) (ia s (o + 1)) ?_ ?_ ?_ hl (fuel := 4096) (by omega)
  · rw [sa_id] at h
    refine h.trans ?_
    rw [itr_zero 64 _ (by omega), List.drop_eq_nil_of_le (by omega), List.append_nil]
    rfl
  · intro i l nx ex hi hll
    have e : ∀ y, st32 l (i3 (i : Int)) y = some (l.set i y) := fun y => st32_nat (by omega) (by omega)
    have e2 : ¬ i3 ((64 : Nat) : Int) ≤ i3 (i : Int) := by rw [i3n_le (by omega) (by omega)]; omega
    simp only [r_C ho, Option.bind_some, jn, cst, bP_if, rB_0, rB_1, z00, z10, ↓reduceIte, ia_sa, hll, i3_nat, e2, e, Option.map_some, sa_sa, i3_nat_add]
  · intro i l hi hll
    exact (List.length_set).trans hll
  · intro l nx ex hll
    have e2 : i3 ((64 : Nat) : Int) ≤ i3 ((64 : Nat) : Int) := by rw [i3n_le (by omega) (by omega)]; omega
    simp only [r_C ho, Option.bind_some, jn, cst, bP_if, rB_0, rB_1, z00, z10, ↓reduceIte, ia_sa, hll, i3_nat, e2]
theorem q_115 (ho : isC o) (h : ok (gd s 1)) (hl : (ia s (o + 1)).length = 64) (m : Int32) : m_115 o 1 m (H s) = some (H (sa s (o + 1) (lnA (gd s 1) m (ia s (o + 1))))) := by
  have hg : isG 1 := Or.inl rfl
  have ho5 : 5 < o + 1 := by rcases ho with rfl | rfl <;> omega
  unfold m_115
  simp only [r_C ho, Option.bind_some, jn, cst, bP_if, rB_0, rB_1, z00, z10, ↓reduceIte, q_65, q_66, q_81 hg]
  unfold lnA
  by_cases c1 : isT (gd s 1) (ntz m)
  · by_cases c2 : isT (gd s 1) (ntz (m &&& (m - i3 1)))
    · simp only [if_pos c1, if_pos c2, if_pos (And.intro c1 c2), r_G hg, h.at_c c1, h.at_c c2, q_72 hg h, q_73 hg h, Option.bind_some, jn, cst, bP_if, rB_0, rB_1, z00, z10, ↓reduceIte]
      refine (lp_red _ _ _).trans ?_
      exact lp_stp ho h hl _ _ _
    · simp only [if_pos c1, if_neg c2, if_neg (fun e : _ ∧ _ => c2 e.2), Option.bind_some, jn, cst, bP_if, rB_0, rB_1, z00, z10, ↓reduceIte, sa_id]
  · simp only [if_neg c1, if_neg (fun e : _ ∧ _ => c1 e.1), Option.bind_some, jn, cst, bP_if, rB_0, rB_1, z00, z10, ↓reduceIte, sa_id]
end CX
noncomputable def crF (g : Gd) (L : List Int32) (q : Int32) (k : Nat) (l : List Int32) : List Int32 := if bct (lg L k) < q then l else lnA g (lg L k) l
noncomputable def cr (g : Gd) (L : List Int32) (q : Int32) : List Int32 := itr (crF g L q) L.length zer
theorem crF_len (g : Gd) (L : List Int32) (q : Int32) (k : Nat) (l : List Int32) : (crF g L q k l).length = l.length := by
  unfold crF
  split
  · rfl
  · exact lnA_len _ _ _
theorem cr_len (g : Gd) (L : List Int32) (q : Int32) : (cr g L q).length = 64 := (itr_len (crF_len g L q) _ _).trans rfl
section CY
variable {s : St} {L : List Int32}
theorem q_114 (h : ok (gd s 1)) (z : Sz s) (r : rowsOK s L) (q : Int32) : m_114 18 1 16 q (H s) = some (H (sa s 19 (cr (gd s 1) L q))) := by
  have hg : isG 1 := Or.inl rfl
  have hc : isC 18 := Or.inl rfl
  have hl := r.2.1
  unfold m_114
  simp only [r_C hc, q_113 hc z.2.1, Option.bind_some, jn, cst, bP_if, rB_0, rB_1, z00, z10, ↓reduceIte]
  refine (lp0 L.length (by omega) (fun t (l : List Int32) => (t, H (sa s 19 l))) (fun l => H (sa s 19 l)) (crF (gd s 1) L q) (fun l => l.length = 64) zer ?_ ?_ ?_ rfl).trans rfl
  · intro k l nx ex hk hll
    have r' : rowsOK (sa s 19 l) L := r
    have h' : ok (gd (sa s 19 l) 1) := by rw [gd1_sa (by omega)]; exact h
    have e : m_115 18 1 (lg L k) (H (sa s 19 l)) = some (H (sa s 19 (lnA (gd s 1) (lg L k) l))) := by
      rw [q_115 hc h' (show (ia (sa s 19 l) (18 + 1)).length = 64 from hll) (lg L k), gd1_sa (by omega)]
      show some (H (sa (sa s 19 l) 19 (lnA (gd s 1) (lg L k) l))) = _
      rw [sa_sa]
    simp only [r_R, r'.lt hk, r'.at hk, q_173, Option.bind_some, jn, cst, bP_if, rB_0, rB_1, z00, z10, ↓reduceIte, e]
    unfold crF
    ((repeat' split) <;> (first | rfl | (exfalso; simp_all only [isT, isCl, isW, st3, btw, kOf, not_true_eq_false, not_false_eq_true, and_true, true_and, and_self, and_false, false_and, or_true, true_or, or_false, false_or, not_and]; done) | grind))
  · intro k l hk hll
    exact (crF_len _ _ _ _ _).trans hll
  · intro l nx ex _
    have r' : rowsOK (sa s 19 l) L := r
    simp only [r_R, r'.ge, Option.bind_some, jn, cst, bP_if, rB_0, rB_1, z00, z10, ↓reduceIte]
end CY
end
section
/-! ===== the best of all moves (class) ===== -/
abbrev Wt : Type := Int32 × List Int32
abbrev Mv : Type := Int32 × Int32 × Int32
noncomputable def mv (s : St) : Mv := (fi s 20 2, fi s 20 3, fi s 20 4)
noncomputable def but (m t : Int32) : Int32 := m &&& (bit t ^^^ i3 (-1))
noncomputable def wtF (g : Gd) (L : List Int32) (t : Int32) (k : Nat) (a : Wt) : Wt := if bct (but (lg L k) t) < i3 3 then if bct (but (lg L k) t) = i3 2 then if kOf (kA g t) (i3 4) then a else (a.1, lnA g (but (lg L k) t) a.2) else a else (a.1 + i3 1, a.2)
noncomputable def wT (g : Gd) (L : List Int32) (t : Int32) : Wt := itr (wtF g L t) L.length (i3 0, zer)
noncomputable def wvF (g : Gd) (t : Int32) (k : Nat) (a : Wt) : Wt := if inR g (but (wA g (i3 (k : Int))) t) then if but (wA g (i3 (k : Int))) t = wA g (i3 (k : Int)) then (a.1 + i3 1, a.2) else if kOf (kA g t) (i3 4) then a else (a.1, lnA g (but (wA g (i3 (k : Int))) t) a.2) else a
noncomputable def wV (g : Gd) (t : Int32) : Wt := itr (wvF g t) (wn g) (i3 0, zer)
noncomputable def ocF (g : Gd) (w : Wt) (t : Int32) (k : Nat) (a : Mv) : Mv := if w.1 + rd w.2 (i3 (k : Int)) ≤ a.2.2 then a else if tIn g (i3 (k : Int)) = i3 (-1) then (t, i3 (k : Int), w.1 + rd w.2 (i3 (k : Int))) else a
noncomputable def oc (g : Gd) (w : Wt) (t : Int32) (a : Mv) : Mv := itr (ocF g w t) (dn g * dn g) a
noncomputable def mtF (g : Gd) (L : List Int32) (k : Nat) (a : Mv) : Mv := if kOf (kA g (i3 (k : Int))) (i3 1) then a else oc g (wT g L (i3 (k : Int))) (i3 (k : Int)) a
noncomputable def mT (g : Gd) (L : List Int32) : Mv := itr (mtF g L) (nn g) (i3 (-1), i3 (-1), i3 (-1))
noncomputable def mwF (g : Gd) (k : Nat) (a : Mv) : Mv := if kOf (kA g (i3 (k : Int))) (i3 1) then a else oc g (wV g (i3 (k : Int))) (i3 (k : Int)) a
noncomputable def mW (g : Gd) : Mv := itr (mwF g) (nn g) (i3 (-1), i3 (-1), i3 (-1))
theorem wtF_len (g : Gd) (L : List Int32) (t : Int32) (k : Nat) (a : Wt) : (wtF g L t k a).2.length = a.2.length := by
  unfold wtF
  repeat' split
  · rfl
  · exact lnA_len _ _ _
  · rfl
  · rfl
theorem wvF_len (g : Gd) (t : Int32) (k : Nat) (a : Wt) : (wvF g t k a).2.length = a.2.length := by
  unfold wvF
  repeat' split
  · rfl
  · rfl
  · exact lnA_len _ _ _
  · rfl
theorem wT_len (g : Gd) (L : List Int32) (t : Int32) : (wT g L t).2.length = 64 := by
  unfold wT
  generalize L.length = n
  induction n with
  | zero => rfl
  | succ n ih => exact (wtF_len _ _ _ _ _).trans ih
theorem wV_len (g : Gd) (t : Int32) : (wV g t).2.length = 64 := by
  unfold wV
  generalize wn g = n
  induction n with
  | zero => rfl
  | succ n ih => exact (wvF_len _ _ _ _).trans ih
theorem sa_sf (s : St) (p o k : Nat) (l : List Int32) (x : Int32) : sa (sf s o k x) p l = sf (sa s p l) o k x := rfl
/-- the state of the scales -/
noncomputable def wst (s : St) (a : Wt) : St := sf (sa s 22 a.2) 20 1 a.1
theorem wst_sf (s : St) (a : Wt) (x : Int32) : sf (wst s a) 20 1 x = wst s (x, a.2) := sf_sf _ _ _ _ _
theorem wst_sa (s : St) (a : Wt) (l : List Int32) : sa (wst s a) 22 l = wst s (a.1, l) := by
  unfold wst
  rw [sa_sf, sa_sa]
theorem gd1_wst (s : St) (a : Wt) : gd (wst s a) 1 = gd s 1 := rfl
section MO
variable {s : St} {L : List Int32}
theorem q_122 : m_122 20 (H s) = some (H (sf (sf (sf s 20 2 (i3 (-1))) 20 3 (i3 (-1))) 20 4 (i3 (-1)))) := by
  unfold m_122
  simp only [r_M, Option.bind_some, jn, cst, bP_if, rB_0, rB_1, z00, z10, ↓reduceIte]
theorem q_115w (h : ok (gd s 1)) {a : Wt} (hl : a.2.length = 64) (m : Int32) : m_115 21 1 m (H (wst s a)) = some (H (wst s (a.1, lnA (gd s 1) m a.2))) := by
  have e := q_115 (s := wst s a) (o := 21) (Or.inr rfl) h hl m
  rw [e]
  show some (H (sa (wst s a) 22 (lnA (gd s 1) m a.2))) = _
  rw [wst_sa]
theorem q_120 (h : ok (gd s 1)) (z : Sz s) (r : rowsOK s L) {t : Int32} (ht : isT (gd s 1) t) : m_120 20 1 16 t (H s) = some (H (wst s (wT (gd s 1) L t))) := by
  have hg : isG 1 := Or.inl rfl
  have hc : isC 21 := Or.inr rfl
  have hl := r.2.1
  have e0 : m_113 21 (H (sf s 20 1 (Int32.ofInt 0))) = some (H (wst s (i3 0, zer))) := by
    rw [q_113 (s := sf s 20 1 (Int32.ofInt 0)) hc z.2.2.1]
    rfl
  unfold m_120
  simp only [r_M, e0, Option.bind_some, jn, cst, bP_if, rB_0, rB_1, z00, z10, ↓reduceIte]
  refine (lp0 L.length (by omega) (fun t (a : Wt) => (t, H (wst s a))) (fun a => H (wst s a)) (wtF (gd s 1) L t) (fun a => a.2.length = 64) (i3 0, zer) ?_ ?_ ?_ rfl).trans rfl
  · intro k a nx ex hk hll
    have r' : rowsOK (wst s a) L := r
    have h' : ok (gd (wst s a) 1) := h
    have ht' : isT (gd (wst s a) 1) t := ht
    have e1 : fi (wst s a) 20 1 = a.1 := rfl
    have e85 : m_85 1 t (Int32.ofInt 4) (H (wst s a)) = some (bP (kOf (kA (gd s 1) t) (i3 4))) := q_85 hg h' ht' _
    simp only [r_R, r_M, r'.lt hk, r'.at hk, q_173, Option.bind_some, jn, cst, bP_if, rB_0, rB_1, z00, z10, ↓reduceIte, e85, q_115w h hll, wst_sf, e1]
    unfold wtF but bit
    ((repeat' split) <;> (first | rfl | (exfalso; simp_all only [isT, isCl, isW, st3, btw, kOf, not_true_eq_false, not_false_eq_true, and_true, true_and, and_self, and_false, false_and, or_true, true_or, or_false, false_or, not_and]; done) | grind))
  · intro k a hk hll
    exact (wtF_len _ _ _ _ _).trans hll
  · intro a nx ex _
    have r' : rowsOK (wst s a) L := r
    simp only [r_R, r'.ge, Option.bind_some, jn, cst, bP_if, rB_0, rB_1, z00, z10, ↓reduceIte]
theorem q_121 (h : ok (gd s 1)) (z : Sz s) {t : Int32} (ht : isT (gd s 1) t) : m_121 20 1 t (H s) = some (H (wst s (wV (gd s 1) t))) := by
  have hg : isG 1 := Or.inl rfl
  have hc : isC 21 := Or.inr rfl
  have e0 : m_113 21 (H (sf s 20 1 (Int32.ofInt 0))) = some (H (wst s (i3 0, zer))) := by
    rw [q_113 (s := sf s 20 1 (Int32.ofInt 0)) hc z.2.2.1]
    rfl
  unfold m_121
  simp only [r_M, e0, Option.bind_some, jn, cst, bP_if, rB_0, rB_1, z00, z10, ↓reduceIte]
  refine (lp0 (wn (gd s 1)) (by have := h.w_le; omega) (fun t (a : Wt) => (t, H (wst s a))) (fun a => H (wst s a)) (wvF (gd s 1) t) (fun a => a.2.length = 64) (i3 0, zer) ?_ ?_ ?_ rfl).trans rfl
  · intro k a nx ex hk hll
    have h' : ok (gd (wst s a) 1) := h
    have ht' : isT (gd (wst s a) 1) t := ht
    have e1 : fi (wst s a) 20 1 = a.1 := rfl
    have e85 : m_85 1 t (Int32.ofInt 4) (H (wst s a)) = some (bP (kOf (kA (gd s 1) t) (i3 4))) := q_85 hg h' ht' _
    have e94 : ∀ m, m_94 1 m (H (wst s a)) = some (bP (inR (gd s 1) m)) := fun m => q_94 hg h' m
    have eW : ¬ wN (gd (wst s a) 1) ≤ i3 (k : Int) := (h.W hk).2
    have eA : at32 (wS (gd (wst s a) 1)) (i3 (k : Int)) = some (wA (gd s 1) (i3 (k : Int))) := h.at_w (h.W hk)
    simp only [r_G hg, r_M, eW, eA, Option.bind_some, jn, cst, bP_if, rB_0, rB_1, z00, z10, ↓reduceIte, e94, e85, q_115w h hll, wst_sf, e1]
    unfold wvF but bit
    ((repeat' split) <;> (first | rfl | (exfalso; simp_all only [isT, isCl, isW, st3, btw, kOf, not_true_eq_false, not_false_eq_true, and_true, true_and, and_self, and_false, false_and, or_true, true_or, or_false, false_or, not_and]; done) | grind))
  · intro k a hk hll
    exact (wvF_len _ _ _ _).trans hll
  · intro a nx ex _
    simp only [r_G hg, gd1_wst, h.We (Nat.le_refl _) (by have := h.w_le; omega), Option.bind_some, jn, cst, bP_if, rB_0, rB_1, z00, z10, ↓reduceIte]
theorem q_123 (h : ok (gd s 1)) {w : Wt} (hw : w.2.length = 64) (e1 : fi s 20 1 = w.1) (e2 : ia s 22 = w.2) (t : Int32) : T (m_123 20 1 t (H s)) (fun th => ∃ s', th = H s' ∧ sc s s' ∧ mv s' = oc (gd s 1) w t (mv s) ∧ s'.1 = s.1 ∧ fi s' 16 1 = fi s 16 1) := by
  have hg : isG 1 := Or.inl rfl
  have hc : isC 21 := Or.inr rfl
  have hcc := h.cc_le
  have b : ∀ k, sF 20 k := fun k => Or.inr (Or.inl rfl)
  unfold m_123
  simp only [r_M, Option.bind_some, jn, cst, bP_if, rB_0, rB_1, z00, z10, ↓reduceIte]
  refine lpH (dn (gd s 1) * dn (gd s 1)) (fun k q => ∃ s', q = (i3 (k : Int), H s') ∧ sc s s' ∧ mv s' = itr (ocF (gd s 1) w t) k (mv s) ∧ s'.1 = s.1 ∧ fi s' 16 1 = fi s 16 1 ∧ fi s' 20 1 = w.1) (fun th => ∃ s', th = H s' ∧ sc s s' ∧ mv s' = oc (gd s 1) w t (mv s) ∧ s'.1 = s.1 ∧ fi s' 16 1 = fi s 16 1) ?_ ?_ ?_ ?_ (by omega)
  · rintro k _ hk ⟨s1, rfl, c1, m1, a1, f1, w1⟩ nx ex hnx hex
    have g1 := c1.g hg
    have h1 : ok (gd s1 1) := by rw [g1]; exact h
    have hC := h.C hk
    have e3 : ia s1 22 = w.2 := by
      show s1.1 22 = _
      rw [a1]; exact e2
    have hr : at32 w.2 (i3 (k : Int)) = some (rd w.2 (i3 (k : Int))) := at_rd hC.1 (by rw [cl_i3 (by omega)]; omega)
    have em : mv s1 = (fi s1 20 2, fi s1 20 3, fi s1 20 4) := rfl
    have hF : itr (ocF (gd s 1) w t) (k + 1) (mv s) = ocF (gd s 1) w t k (mv s1) := by rw [m1]; rfl
    simp only [q_70 hg, r_M, r_C hc, Option.bind_some, jn, cst, bP_if, rB_0, rB_1, z00, z10, ↓reduceIte, g1, hC.2, w1, show (21 : Nat) + 1 = 22 from rfl, e3, hr, q_84 hg h1, i3_nat_add]
    have no : ocF (gd s 1) w t k (mv s1) = mv s1 → T (nx (i3 ((k + 1 : Nat) : Int), H s1)) (fun th => ∃ s', th = H s' ∧ sc s s' ∧ mv s' = oc (gd s 1) w t (mv s) ∧ s'.1 = s.1 ∧ fi s' 16 1 = fi s 16 1) := fun e => hnx _ ⟨s1, rfl, c1, by rw [hF, e], a1, f1, w1⟩
    unfold ocF at no hF
    by_cases c : w.1 + rd w.2 (i3 (k : Int)) ≤ fi s1 20 4
    · rw [if_pos c]
      exact no (if_pos c)
    · rw [if_neg c]
      by_cases d : tIn (gd s 1) (i3 (k : Int)) = i3 (-1)
      · rw [if_pos d]
        have x1 : fi (sf (sf s1 20 2 t) 20 3 (i3 (k : Int))) 20 1 = w.1 := w1
        have x2 : ia (sf (sf s1 20 2 t) 20 3 (i3 (k : Int))) 22 = w.2 := e3
        simp only [r_M, Option.bind_some, jn, cst, bP_if, rB_0, rB_1, z00, z10, ↓reduceIte, x1, x2, hr]
        refine hnx _ ⟨_, rfl, ((c1.f (b 2)).f (b 3)).f (b 4), ?_, a1, f1, w1⟩
        refine Eq.trans ?_ hF.symm
        rw [if_neg (show ¬ w.1 + rd w.2 (i3 (k : Int)) ≤ (mv s1).2.2 from c), if_pos d]
        rfl
      · rw [if_neg d]
        refine no ?_
        rw [if_neg (show ¬ w.1 + rd w.2 (i3 (k : Int)) ≤ (mv s1).2.2 from c), if_neg d]
  · rintro _ ⟨s1, rfl, c1, m1, a1, f1, w1⟩ nx ex hex
    have g1 := c1.g hg
    simp only [q_70 hg, Option.bind_some, jn, cst, bP_if, rB_0, rB_1, z00, z10, ↓reduceIte, g1, h.Ce (Nat.le_refl _) (by have := h.cc_le; omega)]
    exact hex _ ⟨s1, rfl, c1, m1, a1, f1⟩
  · intro x hx
    exact T_some hx
  · exact ⟨s, rfl, sc.refl s, rfl, rfl, rfl, e1⟩
theorem sc_wst (z : Sz s) {a : Wt} (ha : a.2.length = 64) : sc s (wst s a) := ((sc.refl s).a (Or.inr (Or.inr (Or.inl rfl))) (by rw [z.2.2.1]; exact ha)).f (Or.inr (Or.inl rfl))
theorem q_117 (h : ok (gd s 1)) (z : Sz s) (r : rowsOK s L) : T (m_117 20 1 16 (H s)) (fun th => ∃ s', th = H s' ∧ sc s s' ∧ mv s' = mT (gd s 1) L ∧ rowsOK s' L) := by
  have hg : isG 1 := Or.inl rfl
  have b : ∀ k, sF 20 k := fun k => Or.inr (Or.inl rfl)
  unfold m_117
  simp only [r_M, q_122, Option.bind_some, jn, cst, bP_if, rB_0, rB_1, z00, z10, ↓reduceIte]
  refine lpH (nn (gd s 1)) (fun k q => ∃ s', q = (i3 (k : Int), H s') ∧ sc s s' ∧ mv s' = itr (mtF (gd s 1) L) k (i3 (-1), i3 (-1), i3 (-1)) ∧ rowsOK s' L) (fun th => ∃ s', th = H s' ∧ sc s s' ∧ mv s' = mT (gd s 1) L ∧ rowsOK s' L) ?_ ?_ ?_ ?_ (by have := h.n_le; omega)
  · rintro k _ hk ⟨s1, rfl, c1, m1, r1⟩ nx ex hnx hex
    have g1 := c1.g hg
    have h1 : ok (gd s1 1) := by rw [g1]; exact h
    have z1 := c1.z z
    have ht : isT (gd s1 1) (i3 (k : Int)) := by rw [g1]; exact h.T hk
    have hF : itr (mtF (gd s 1) L) (k + 1) (i3 (-1), i3 (-1), i3 (-1)) = mtF (gd s 1) L k (mv s1) := by rw [m1]; rfl
    simp only [r_G hg, Option.bind_some, jn, cst, bP_if, rB_0, rB_1, z00, z10, ↓reduceIte, ht.2, q_87 hg h1 ht, i3_nat_add]
    by_cases c : kOf (kA (gd s1 1) (i3 (k : Int))) (i3 1)
    · rw [if_neg (fun e => e c)]
      refine hnx _ ⟨s1, rfl, c1, ?_, r1⟩
      rw [hF]
      unfold mtF
      rw [if_pos (by rw [← g1]; exact c)]
    · rw [if_pos c]
      simp only [q_120 h1 z1 r1 ht, Option.bind_some, jn, cst, bP_if, rB_0, rB_1, z00, z10, ↓reduceIte]
      have hw := wT_len (gd s1 1) L (i3 (k : Int))
      obtain ⟨_, e2, s2, rfl, c2, m2, a2, f2⟩ := q_123 (s := wst s1 (wT (gd s1 1) L (i3 (k : Int)))) h1 hw rfl rfl (i3 (k : Int))
      rw [e2]
      simp only [Option.bind_some, jn, cst, bP_if, rB_0, rB_1, z00, z10, ↓reduceIte]
      refine hnx _ ⟨s2, rfl, (c1.trans (sc_wst z1 hw)).trans c2, ?_, ?_⟩
      · rw [hF, m2]
        unfold mtF
        rw [if_neg (by rw [← g1]; exact c), ← g1]
        rfl
      · refine ⟨by rw [f2]; exact r1.1, r1.2.1, ?_⟩
        show pre L (s2.1 17)
        rw [a2]
        exact r1.2.2
  · rintro _ ⟨s1, rfl, c1, m1, r1⟩ nx ex hex
    have g1 := c1.g hg
    simp only [r_G hg, Option.bind_some, jn, cst, bP_if, rB_0, rB_1, z00, z10, ↓reduceIte, g1, h.Te (Nat.le_refl _) (by have := h.n_le; omega)]
    exact hex _ ⟨s1, rfl, c1, m1, r1⟩
  · intro x hx
    exact T_some hx
  · exact ⟨_, rfl, (((sc.refl s).f (b 2)).f (b 3)).f (b 4), rfl, r⟩
theorem q_118 (h : ok (gd s 1)) (z : Sz s) : T (m_118 20 1 (H s)) (fun th => ∃ s', th = H s' ∧ sc s s' ∧ mv s' = mW (gd s 1)) := by
  have hg : isG 1 := Or.inl rfl
  have b : ∀ k, sF 20 k := fun k => Or.inr (Or.inl rfl)
  unfold m_118
  simp only [r_M, q_122, Option.bind_some, jn, cst, bP_if, rB_0, rB_1, z00, z10, ↓reduceIte]
  refine lpH (nn (gd s 1)) (fun k q => ∃ s', q = (i3 (k : Int), H s') ∧ sc s s' ∧ mv s' = itr (mwF (gd s 1)) k (i3 (-1), i3 (-1), i3 (-1))) (fun th => ∃ s', th = H s' ∧ sc s s' ∧ mv s' = mW (gd s 1)) ?_ ?_ ?_ ?_ (by have := h.n_le; omega)
  · rintro k _ hk ⟨s1, rfl, c1, m1⟩ nx ex hnx hex
    have g1 := c1.g hg
    have h1 : ok (gd s1 1) := by rw [g1]; exact h
    have z1 := c1.z z
    have ht : isT (gd s1 1) (i3 (k : Int)) := by rw [g1]; exact h.T hk
    have hF : itr (mwF (gd s 1)) (k + 1) (i3 (-1), i3 (-1), i3 (-1)) = mwF (gd s 1) k (mv s1) := by rw [m1]; rfl
    simp only [r_G hg, Option.bind_some, jn, cst, bP_if, rB_0, rB_1, z00, z10, ↓reduceIte, ht.2, q_87 hg h1 ht, i3_nat_add]
    by_cases c : kOf (kA (gd s1 1) (i3 (k : Int))) (i3 1)
    · rw [if_neg (fun e => e c)]
      refine hnx _ ⟨s1, rfl, c1, ?_⟩
      rw [hF]
      unfold mwF
      rw [if_pos (by rw [← g1]; exact c)]
    · rw [if_pos c]
      simp only [q_121 h1 z1 ht, Option.bind_some, jn, cst, bP_if, rB_0, rB_1, z00, z10, ↓reduceIte]
      have hw := wV_len (gd s1 1) (i3 (k : Int))
      obtain ⟨_, e2, s2, rfl, c2, m2, a2, f2⟩ := q_123 (s := wst s1 (wV (gd s1 1) (i3 (k : Int)))) h1 hw rfl rfl (i3 (k : Int))
      rw [e2]
      simp only [Option.bind_some, jn, cst, bP_if, rB_0, rB_1, z00, z10, ↓reduceIte]
      refine hnx _ ⟨s2, rfl, (c1.trans (sc_wst z1 hw)).trans c2, ?_⟩
      rw [hF, m2]
      unfold mwF
      rw [if_neg (by rw [← g1]; exact c), ← g1]
      rfl
  · rintro _ ⟨s1, rfl, c1, m1⟩ nx ex hex
    have g1 := c1.g hg
    simp only [r_G hg, Option.bind_some, jn, cst, bP_if, rB_0, rB_1, z00, z10, ↓reduceIte, g1, h.Te (Nat.le_refl _) (by have := h.n_le; omega)]
    exact hex _ ⟨s1, rfl, c1, m1⟩
  · intro x hx
    exact T_some hx
  · exact ⟨_, rfl, (((sc.refl s).f (b 2)).f (b 3)).f (b 4), rfl⟩
noncomputable def tel (a : Mv) (w : Int32) : Int32 := if w = 0 then a.1 else if w = i3 1 then a.2.1 else a.2.2
theorem q_124 (w : Int32) : m_124 20 w (H s) = some (tel (mv s) w) := by
  unfold m_124
  simp only [r_M, Option.bind_some, jn, cst, bP_if, rB_0, rB_1, z00, z10, ↓reduceIte]
  unfold tel mv
  ((repeat' split) <;> (first | rfl | (exfalso; simp_all only [isT, isCl, isW, st3, btw, kOf, not_true_eq_false, not_false_eq_true, and_true, true_and, and_self, and_false, false_and, or_true, true_or, or_false, false_or, not_and]; done) | grind))
theorem q_119 (h : ok (gd s 1)) (z : Sz s) (r : rowsOK s L) {t c : Int32} (ht : isT (gd s 1) t) (hc : isCl (gd s 1) c) : m_119 20 1 16 t c (H s) = some ((wT (gd s 1) L t).1 + rd (wT (gd s 1) L t).2 c, H (wst s (wT (gd s 1) L t))) := by
  have h1 := h.cl hc
  have h2 := h.cc_le
  have h3 := wT_len (gd s 1) L t
  unfold m_119
  have x1 : fi (wst s (wT (gd s 1) L t)) 20 1 = (wT (gd s 1) L t).1 := rfl
  have x2 : ia (wst s (wT (gd s 1) L t)) 22 = (wT (gd s 1) L t).2 := rfl
  simp only [r_M, r_C (Or.inr rfl : isC 21), q_120 h z r ht, x1, x2, show (21 : Nat) + 1 = 22 from rfl, at_rd hc.1 (show _ < (wT (gd s 1) L t).2.length by omega), Option.bind_some, jn, cst, bP_if, rB_0, rB_1, z00, z10, ↓reduceIte]
end MO
end
section
/-! ===== what is seen, shapes (class) ===== -/
theorem lpL {σ X R : Type} {F : σ → (σ → Option R) → (X → Option R) → Option R} {K : X → Option R} (l n : Nat) (hl : l ≤ 1000) (hn : n ≤ 1000) (en : Int32 → σ) (x : X) (p : Nat → Bool) (r : Nat → Option R)
    (hs : ∀ k nx ex, l ≤ k → k < n → F (en (i3 (k : Int))) nx ex = if p k = true then r k else nx (en (i3 (k : Int) + Int32.ofInt 1))) (he : ∀ k nx ex, n ≤ k → k ≤ 1000 → F (en (i3 (k : Int))) nx ex = ex x) : lp F 4096 (en (i3 (l : Int))) K = match fst? p (n - l) l with | some k => r k | none => K x := by
  have key : ∀ m fuel, m ≤ n - l → m < fuel → lp F fuel (en (i3 ((l + (n - l - m) : Nat) : Int))) K = match fst? p m (l + (n - l - m)) with | some k => r k | none => K x := by
    intro m
    induction m with
    | zero =>
      intro fuel _ hf
      obtain ⟨q, rfl⟩ : ∃ q, fuel = q + 1 := ⟨fuel - 1, by omega⟩
      rw [lp_s, he _ _ _ (by omega) (by omega)]
      rfl
    | succ m ih =>
      intro fuel hm hf
      obtain ⟨q, rfl⟩ : ∃ q, fuel = q + 1 := ⟨fuel - 1, by omega⟩
      rw [lp_s, hs _ _ _ (by omega) (by omega)]
      unfold fst?
      by_cases c : p (l + (n - l - (m + 1))) = true
      · rw [if_pos c, if_pos c]
      · rw [if_neg c, if_neg c, i3_nat_add, show l + (n - l - (m + 1)) + 1 = l + (n - l - m) by omega]
        exact ih q (by omega) (by omega)
  have := key (n - l) 4096 (Nat.le_refl _) (by omega)
  rw [Nat.sub_self] at this
  exact this
noncomputable def hidF (g : Gd) (t c : Int32) (k : Nat) (m : Int32) : Int32 := if kOf (kA g (i3 (k : Int))) (i3 2) then m else if btw g (cA g (i3 (k : Int))) (cA g t) c then if m = i3 (-1) then i3 (k : Int) else if dst g (cA g m) c ≤ dst g (cA g (i3 (k : Int))) c then m else i3 (k : Int) else m
noncomputable def hid (g : Gd) (t c : Int32) : Int32 := itr (hidF g t c) (nn g) (i3 (-1))
abbrev sen (g : Gd) (t c : Int32) : Prop := ¬ cA g t = c ∧ hid g t c = i3 (-1)
noncomputable def vwF (g : Gd) (c : Int32) (k : Nat) (m : Int32) : Int32 := if sen g (i3 (k : Int)) c then m ||| bit (i3 (k : Int)) else m
noncomputable def vw (g : Gd) (c : Int32) : Int32 := itr (vwF g c) (nn g) (i3 0)
abbrev als (g : Gd) (c : Int32) : Prop := fst? (fun k => decide (¬ sen g (i3 (k : Int)) c)) (nn g) 0 = none
noncomputable def seeF (g : Gd) (t : Int32) (k : Nat) (m : Int32) : Int32 := if sen g t (cA g (i3 (k : Int))) then m + i3 1 else m
noncomputable def see (g : Gd) (t : Int32) : Int32 := itr (seeF g t) (nn g) (i3 0)
noncomputable def ntoF (g : Gd) (t : Int32) (k : Nat) (m : Int32) : Int32 := if i3 (k : Int) = t then m else if m = 0 then dst g (cA g (i3 (k : Int))) (cA g t) else if m ≤ dst g (cA g (i3 (k : Int))) (cA g t) then m else dst g (cA g (i3 (k : Int))) (cA g t)
noncomputable def nto (g : Gd) (t : Int32) : Int32 := itr (ntoF g t) (nn g) (i3 0)
noncomputable def lno (g : Gd) (c w : Int32) : Int32 := if w < 0 ∨ 2 < w then rO g c + cO g c else if w = 0 then rO g c else if w = 1 then cO g c else rO g c - cO g c + sD g - i3 1
noncomputable def frlF (g : Gd) (w : Int32) (k : Nat) (m : Int32) : Int32 := m ||| (i3 1 <<< (lno g (cA g (i3 (k : Int))) w &&& 31))
noncomputable def frl (g : Gd) (w : Int32) : Int32 := (if i3 2 ≤ w then i3 2 * sD g - i3 1 else sD g) - bct (itr (frlF g w) (nn g) (i3 0))
noncomputable def img (g : Gd) (n : Nat) (b : Int32) (c : Int32) : Int32 := if b = 0 then itr (fun _ => trn g) n c else mir g (itr (fun _ => trn g) n c)
abbrev own (g : Gd) (n : Nat) (b : Int32) : Prop := fst? (fun k => decide (tIn g (img g n b (cA g (i3 (k : Int)))) = i3 (-1))) (nn g) 0 = none
noncomputable def ownF (g : Gd) (n : Nat) (m : Int32) : Int32 := if own g n (i3 0) then if own g n (i3 1) then m + i3 1 + i3 1 else m + i3 1 else if own g n (i3 1) then m + i3 1 else m
noncomputable def owns (g : Gd) : Int32 := itr (ownF g) 4 (i3 0)
noncomputable def sodF (g : Gd) (c : Int32) (k : Nat) (m : Int32) : Int32 := m + dst g (cA g (i3 (k : Int))) c
noncomputable def sod (g : Gd) (c : Int32) : Int32 := itr (sodF g c) (nn g) (i3 0)
noncomputable def midF (g : Gd) (k : Nat) (m : Int32) : Int32 := if sod g m ≤ sod g (i3 (k : Int)) then m else i3 (k : Int)
noncomputable def mid (g : Gd) : Int32 := fB 1 (dn g * dn g) (midF g) (i3 0)
noncomputable def nprF (g : Gd) (i j : Nat) (a : Int32 × Int32) : Int32 × Int32 := if a.1 = i3 (-1) then (dst g (cA g (i3 (i : Int))) (cA g (i3 (j : Int))), i3 100 * i3 (i : Int) + i3 (j : Int)) else if a.1 ≤ dst g (cA g (i3 (i : Int))) (cA g (i3 (j : Int))) then a else (dst g (cA g (i3 (i : Int))) (cA g (i3 (j : Int))), i3 100 * i3 (i : Int) + i3 (j : Int))
noncomputable def nprI (g : Gd) (i : Nat) (a : Int32 × Int32) : Int32 × Int32 := fB (i + 1) (nn g) (nprF g i) a
noncomputable def npr (g : Gd) : Int32 × Int32 := itr (nprI g) (nn g) (i3 (-1), i3 (-1))
noncomputable def garF (g : Gd) (i j k : Nat) (m : Int32) : Int32 := mxI m (abI (dar g (cA g (i3 (i : Int))) (cA g (i3 (j : Int))) (cA g (i3 (k : Int)))))
noncomputable def garJ (g : Gd) (i j : Nat) (m : Int32) : Int32 := fB (j + 1) (nn g) (garF g i j) m
noncomputable def garI (g : Gd) (i : Nat) (m : Int32) : Int32 := fB (i + 1) (nn g) (garJ g i) m
noncomputable def gar (g : Gd) : Int32 := itr (garI g) (nn g) (i3 0)
abbrev tkn (g : Gd) (r c : Int32) : Prop := ¬ cellO g r c = i3 (-1) ∧ ¬ tIn g (cellO g r c) = i3 (-1)
abbrev eos (g : Gd) (a b : Int32) : Prop := tkn g (rO g a - (cO g b - cO g a)) (cO g a + (rO g b - rO g a)) ∧ tkn g (rO g b - (cO g b - cO g a)) (cO g b + (rO g b - rO g a))
noncomputable def csqF (g : Gd) (i j : Nat) (m : Int32) : Int32 := if i3 (i : Int) = i3 (j : Int) then m else if eos g (cA g (i3 (i : Int))) (cA g (i3 (j : Int))) then m + i3 1 else m
noncomputable def csqI (g : Gd) (i : Nat) (m : Int32) : Int32 := itr (csqF g i) (nn g) m
noncomputable def csq (g : Gd) : Int32 := itr (csqI g) (nn g) (i3 0)
abbrev ooh (g : Gd) (x a b c : Int32) : Prop := (¬ dar g a b x < 0 ∧ ¬ dar g b c x < 0 ∧ ¬ dar g c a x < 0) ∨ (¬ 0 < dar g a b x ∧ ¬ 0 < dar g b c x ∧ ¬ 0 < dar g c a x)
abbrev itq (g : Gd) (t a b : Int32) (k : Nat) : Prop := ¬ i3 (k : Int) = t ∧ ¬ dar g (cA g a) (cA g b) (cA g (i3 (k : Int))) = 0 ∧ ooh g (cA g t) (cA g a) (cA g b) (cA g (i3 (k : Int)))
abbrev ito (g : Gd) (t a : Int32) (b : Nat) : Prop := ¬ t = a ∧ ¬ t = i3 (b : Int) ∧ ¬ fst? (fun k => decide (itq g t a (i3 (b : Int)) k)) (nn g - (b + 1)) (b + 1) = none
abbrev icq (g : Gd) (t : Int32) (a b : Nat) : Prop := btw g (cA g t) (cA g (i3 (a : Int))) (cA g (i3 (b : Int))) ∨ ito g t (i3 (a : Int)) b
abbrev icr (g : Gd) (t : Int32) (a : Nat) : Prop := ¬ fst? (fun b => decide (icq g t a b)) (nn g - (a + 1)) (a + 1) = none
abbrev crn (g : Gd) (t : Int32) : Prop := fst? (fun a => decide (icr g t a)) (nn g) 0 = none
theorem mat_bP {p : Nat → Bool} {n l : Nat} : (match fst? p n l with | some _ => some (i3 0) | none => some (i3 1)) = some (bP (fst? p n l = none)) := by
  unfold bP
  cases fst? p n l <;> simp
theorem mat_bN {p : Nat → Bool} {n l : Nat} : (match fst? p n l with | some _ => some (i3 1) | none => some (i3 0)) = some (bP (¬ fst? p n l = none)) := by
  unfold bP
  cases fst? p n l <;> simp
section SI
variable {s : St} {o : Nat}
theorem q_144 (ho : isG o) (h : ok (gd s o)) {a b : Int32} (ha : isT (gd s o) a) (hb : isT (gd s o) b) (c : Int32) : m_144 o a b c (H s) = some (bP (¬ dst (gd s o) (cA (gd s o) b) c ≤ dst (gd s o) (cA (gd s o) a) c)) := by
  unfold m_144
  simp only [r_G ho, h.at_c ha, h.at_c hb, q_77 ho h, Option.bind_some, jn, cst, bP_if, rB_0, rB_1, z00, z10, ↓reduceIte]
  unfold bP
  ((repeat' split) <;> (first | rfl | (exfalso; simp_all only [isT, isCl, isW, st3, btw, kOf, not_true_eq_false, not_false_eq_true, and_true, true_and, and_self, and_false, false_and, or_true, true_or, or_false, false_or, not_and]; done) | grind))
theorem hidF_T {g : Gd} (h : ok g) {t c : Int32} {k : Nat} (hk : k < nn g) {m : Int32} (hm : m = i3 (-1) ∨ isT g m) : hidF g t c k m = i3 (-1) ∨ isT g (hidF g t c k m) := by
  unfold hidF
  repeat' split
  all_goals first | exact hm | exact Or.inr (h.T hk)
theorem q_143 (ho : isG o) (h : ok (gd s o)) {t : Int32} (ht : isT (gd s o) t) (c : Int32) : m_143 o t c (H s) = some (hid (gd s o) t c) := by
  unfold m_143
  simp only [r_G ho, Option.bind_some, jn, cst, bP_if, rB_0, rB_1, z00, z10, ↓reduceIte]
  refine (lp0 (nn (gd s o)) (by have := h.n_le; omega) (fun t a => (a, t)) (fun a => a) (hidF (gd s o) t c) (fun m => m = i3 (-1) ∨ isT (gd s o) m) (i3 (-1)) ?_ (fun k m hk hm => hidF_T h hk hm) ?_ (Or.inl rfl)).trans rfl
  · intro k m nx ex hk hm
    simp only [(h.T hk).2, q_85 ho h (h.T hk), h.at_c (h.T hk), h.at_c ht, q_80 ho h, Option.bind_some, jn, cst, bP_if, rB_0, rB_1, z00, z10, ↓reduceIte]
    unfold hidF
    by_cases c1 : kOf (kA (gd s o) (i3 (k : Int))) (i3 2)
    · rw [if_pos c1, if_pos c1]
    rw [if_neg c1, if_neg c1]
    by_cases c2 : btw (gd s o) (cA (gd s o) (i3 (k : Int))) (cA (gd s o) t) c
    · rw [if_pos c2, if_pos c2]
      by_cases c3 : m = i3 (-1)
      · rw [if_pos c3, if_pos c3]
      · rw [if_neg c3, if_neg c3]
        have hm' : isT (gd s o) m := hm.elim (fun e => absurd e c3) id
        simp only [q_144 ho h (h.T hk) hm' c, Option.bind_some, jn, cst, bP_if, rB_0, rB_1, z00, z10, ↓reduceIte]
        ((repeat' split) <;> (first | rfl | (exfalso; simp_all only [isT, isCl, isW, st3, btw, kOf, not_true_eq_false, not_false_eq_true, and_true, true_and, and_self, and_false, false_and, or_true, true_or, or_false, false_or, not_and]; done) | grind))
    · rw [if_neg c2, if_neg c2]
  · intro a nx ex _
    simp only [h.Te (Nat.le_refl _) (by have := h.n_le; omega), Option.bind_some, jn, cst, bP_if, rB_0, rB_1, z00, z10, ↓reduceIte]
theorem q_145 (ho : isG o) (h : ok (gd s o)) {t : Int32} (ht : isT (gd s o) t) (c : Int32) : m_145 o t c (H s) = some (bP (sen (gd s o) t c)) := by
  unfold m_145
  simp only [r_G ho, h.at_c ht, q_143 ho h ht, Option.bind_some, jn, cst, bP_if, rB_0, rB_1, z00, z10, ↓reduceIte]
  unfold bP sen
  ((repeat' split) <;> (first | rfl | (exfalso; simp_all only [isT, isCl, isW, st3, btw, kOf, not_true_eq_false, not_false_eq_true, and_true, true_and, and_self, and_false, false_and, or_true, true_or, or_false, false_or, not_and]; done) | grind))
theorem q_146 (ho : isG o) (h : ok (gd s o)) (c : Int32) : m_146 o c (H s) = some (vw (gd s o) c) := by
  unfold m_146
  simp only [r_G ho, Option.bind_some, jn, cst, bP_if, rB_0, rB_1, z00, z10, ↓reduceIte]
  refine (lp0 (nn (gd s o)) (by have := h.n_le; omega) (fun t a => (a, t)) (fun a => a) (vwF (gd s o) c) (fun _ => True) (i3 0) ?_ (fun _ _ _ _ => trivial) ?_ trivial).trans rfl
  · intro k m nx ex hk _
    simp only [(h.T hk).2, q_145 ho h (h.T hk), Option.bind_some, jn, cst, bP_if, rB_0, rB_1, z00, z10, ↓reduceIte]
    unfold vwF bit
    ((repeat' split) <;> (first | rfl | (exfalso; simp_all only [isT, isCl, isW, st3, btw, kOf, not_true_eq_false, not_false_eq_true, and_true, true_and, and_self, and_false, false_and, or_true, true_or, or_false, false_or, not_and]; done) | grind))
  · intro a nx ex _
    simp only [h.Te (Nat.le_refl _) (by have := h.n_le; omega), Option.bind_some, jn, cst, bP_if, rB_0, rB_1, z00, z10, ↓reduceIte]
theorem q_147 (ho : isG o) (h : ok (gd s o)) (c : Int32) : m_147 o c (H s) = some (bP (als (gd s o) c)) := by
  unfold m_147
  simp only [r_G ho, Option.bind_some, jn, cst, bP_if, rB_0, rB_1, z00, z10, ↓reduceIte]
  refine (lpS (nn (gd s o)) (by have := h.n_le; omega) (fun t => t) () (fun k => decide (¬ sen (gd s o) (i3 (k : Int)) c)) (fun _ => some (i3 0)) ?_ ?_).trans mat_bP
  · intro k nx ex hk
    simp only [(h.T hk).2, q_145 ho h (h.T hk), Option.bind_some, jn, cst, bP_if, rB_0, rB_1, z00, z10, ↓reduceIte, decide_eq_true_eq]
    ((repeat' split) <;> (first | rfl | (exfalso; simp_all only [isT, isCl, isW, st3, btw, kOf, not_true_eq_false, not_false_eq_true, and_true, true_and, and_self, and_false, false_and, or_true, true_or, or_false, false_or, not_and]; done) | grind))
  · intro nx ex
    simp only [h.Te (Nat.le_refl _) (by have := h.n_le; omega), Option.bind_some, jn, cst, bP_if, rB_0, rB_1, z00, z10, ↓reduceIte]
theorem q_148 (ho : isG o) (h : ok (gd s o)) {t : Int32} (ht : isT (gd s o) t) : m_148 o t (H s) = some (see (gd s o) t) := by
  unfold m_148
  simp only [r_G ho, Option.bind_some, jn, cst, bP_if, rB_0, rB_1, z00, z10, ↓reduceIte]
  refine (lp0 (nn (gd s o)) (by have := h.n_le; omega) (fun t a => (a, t)) (fun a => a) (seeF (gd s o) t) (fun _ => True) (i3 0) ?_ (fun _ _ _ _ => trivial) ?_ trivial).trans rfl
  · intro k m nx ex hk _
    simp only [(h.T hk).2, h.at_c (h.T hk), q_145 ho h ht, Option.bind_some, jn, cst, bP_if, rB_0, rB_1, z00, z10, ↓reduceIte]
    unfold seeF
    ((repeat' split) <;> (first | rfl | (exfalso; simp_all only [isT, isCl, isW, st3, btw, kOf, not_true_eq_false, not_false_eq_true, and_true, true_and, and_self, and_false, false_and, or_true, true_or, or_false, false_or, not_and]; done) | grind))
  · intro a nx ex _
    simp only [h.Te (Nat.le_refl _) (by have := h.n_le; omega), Option.bind_some, jn, cst, bP_if, rB_0, rB_1, z00, z10, ↓reduceIte]
theorem q_128 (ho : isG o) (h : ok (gd s o)) {t : Int32} (ht : isT (gd s o) t) : m_128 o t (H s) = some (nto (gd s o) t) := by
  unfold m_128
  simp only [r_G ho, Option.bind_some, jn, cst, bP_if, rB_0, rB_1, z00, z10, ↓reduceIte]
  refine (lp0 (nn (gd s o)) (by have := h.n_le; omega) (fun t a => (a, t)) (fun a => a) (ntoF (gd s o) t) (fun _ => True) (i3 0) ?_ (fun _ _ _ _ => trivial) ?_ trivial).trans rfl
  · intro k m nx ex hk _
    simp only [(h.T hk).2, h.at_c (h.T hk), h.at_c ht, q_77 ho h, Option.bind_some, jn, cst, bP_if, rB_0, rB_1, z00, z10, ↓reduceIte]
    unfold ntoF
    ((repeat' split) <;> (first | rfl | (exfalso; simp_all only [isT, isCl, isW, st3, btw, kOf, not_true_eq_false, not_false_eq_true, and_true, true_and, and_self, and_false, false_and, or_true, true_or, or_false, false_or, not_and]; done) | grind))
  · intro a nx ex _
    simp only [h.Te (Nat.le_refl _) (by have := h.n_le; omega), Option.bind_some, jn, cst, bP_if, rB_0, rB_1, z00, z10, ↓reduceIte]
theorem three {w : Int32} (h : ¬ (w < 0 ∨ 2 < w)) (h0 : ¬ w = 0) (h1 : ¬ w = 1) : w = 2 := by
  have a : ¬ w.toInt < 0 := fun e => h (Or.inl (Int32.lt_iff_toInt_lt.mpr e))
  have b : ¬ 2 < w.toInt := fun e => h (Or.inr (Int32.lt_iff_toInt_lt.mpr e))
  have c : ¬ w.toInt = 0 := fun e => h0 (Int32.toInt_inj.mp e)
  have d : ¬ w.toInt = 1 := fun e => h1 (Int32.toInt_inj.mp e)
  exact Int32.toInt_inj.mp (show w.toInt = 2 by omega)
theorem q_133 (ho : isG o) (h : ok (gd s o)) (c w : Int32) : m_133 o c w (H s) = some (lno (gd s o) c w) := by
  unfold m_133
  simp only [r_G ho, q_72 ho h, q_73 ho h, Option.bind_some, jn, cst, bP_if, rB_0, rB_1, z00, z10, ↓reduceIte]
  unfold lno
  by_cases c1 : w < 0 ∨ 2 < w
  · rw [if_pos c1, if_pos c1]
  rw [if_neg c1, if_neg c1]
  by_cases c2 : w = 0
  · rw [if_pos c2, if_pos c2]
  rw [if_neg c2, if_neg c2]
  by_cases c3 : w = 1
  · rw [if_pos c3, if_pos c3]
  rw [if_neg c3, if_neg c3, if_pos (three c1 c2 c3)]
theorem q_132 (ho : isG o) (h : ok (gd s o)) (w : Int32) : m_132 o w (H s) = some (frl (gd s o) w) := by
  unfold m_132
  simp only [r_G ho, Option.bind_some, jn, cst, bP_if, rB_0, rB_1, z00, z10, ↓reduceIte]
  refine (lp0 (nn (gd s o)) (by have := h.n_le; omega) (fun t a => (a, t)) (fun a => a) (frlF (gd s o) w) (fun _ => True) (i3 0) ?_ (fun _ _ _ _ => trivial) ?_ trivial).trans ?_
  · intro k m nx ex hk _
    simp only [(h.T hk).2, h.at_c (h.T hk), q_133 ho h, Option.bind_some, jn, cst, bP_if, rB_0, rB_1, z00, z10, ↓reduceIte]
    rfl
  · intro a nx ex _
    simp only [h.Te (Nat.le_refl _) (by have := h.n_le; omega), Option.bind_some, jn, cst, bP_if, rB_0, rB_1, z00, z10, ↓reduceIte]
  · simp only [q_173, Option.bind_some, jn, cst, bP_if, rB_0, rB_1, z00, z10, ↓reduceIte]
    unfold frl
    ((repeat' split) <;> (first | rfl | (exfalso; simp_all only [isT, isCl, isW, st3, btw, kOf, not_true_eq_false, not_false_eq_true, and_true, true_and, and_self, and_false, false_and, or_true, true_or, or_false, false_or, not_and]; done) | grind))
theorem q_135 (ho : isG o) (h : ok (gd s o)) {n : Nat} (hn : n < 4) (b : Int32) : m_135 o (i3 (n : Int)) b (H s) = some (bP (own (gd s o) n b)) := by
  unfold m_135
  simp only [r_G ho, Option.bind_some, jn, cst, bP_if, rB_0, rB_1, z00, z10, ↓reduceIte]
  refine (lpS (nn (gd s o)) (by have := h.n_le; omega) (fun t => t) () (fun k => decide (tIn (gd s o) (img (gd s o) n b (cA (gd s o) (i3 (k : Int)))) = i3 (-1))) (fun _ => some (i3 0)) ?_ ?_).trans mat_bP
  · intro k nx ex hk
    simp only [(h.T hk).2, h.at_c (h.T hk), Option.bind_some, jn, cst, bP_if, rB_0, rB_1, z00, z10, ↓reduceIte, decide_eq_true_eq]
    refine (lp0 n (by omega) (fun t c => (c, t)) (fun c => c) (fun _ => trn (gd s o)) (fun _ => True) _ ?_ (fun _ _ _ _ => trivial) ?_ trivial).trans ?_
    · intro j c nx2 ex2 hj _
      have e : ¬ i3 (n : Int) ≤ i3 (j : Int) := by rw [i3n_le (by omega) (by omega)]; omega
      simp only [e, q_75 ho h, Option.bind_some, jn, cst, bP_if, rB_0, rB_1, z00, z10, ↓reduceIte]
    · intro c nx2 ex2 _
      have e : i3 (n : Int) ≤ i3 (n : Int) := by rw [i3n_le (by omega) (by omega)]; omega
      simp only [e, Option.bind_some, jn, cst, bP_if, rB_0, rB_1, z00, z10, ↓reduceIte]
    · simp only [q_84 ho h, q_76 ho h, Option.bind_some, jn, cst, bP_if, rB_0, rB_1, z00, z10, ↓reduceIte]
      unfold img
      ((repeat' split) <;> (first | rfl | (exfalso; simp_all only [isT, isCl, isW, st3, btw, kOf, not_true_eq_false, not_false_eq_true, and_true, true_and, and_self, and_false, false_and, or_true, true_or, or_false, false_or, not_and]; done) | grind))
  · intro nx ex
    simp only [h.Te (Nat.le_refl _) (by have := h.n_le; omega), Option.bind_some, jn, cst, bP_if, rB_0, rB_1, z00, z10, ↓reduceIte]
theorem q_134 (ho : isG o) (h : ok (gd s o)) : m_134 o (H s) = some (owns (gd s o)) := by
  unfold m_134
  simp only [Option.bind_some, jn, cst, bP_if, rB_0, rB_1, z00, z10, ↓reduceIte]
  refine (lp0 4 (by omega) (fun t a => (a, t)) (fun a => a) (ownF (gd s o)) (fun _ => True) (i3 0) ?_ (fun _ _ _ _ => trivial) ?_ trivial).trans rfl
  · intro k m nx ex hk _
    have e : ¬ Int32.ofInt 4 ≤ i3 (k : Int) := by
      show ¬ i3 ((4 : Nat) : Int) ≤ i3 (k : Int)
      rw [i3n_le (by omega) (by omega)]; omega
    simp only [e, q_135 ho h hk, Option.bind_some, jn, cst, bP_if, rB_0, rB_1, z00, z10, ↓reduceIte]
    unfold ownF
    ((repeat' split) <;> (first | rfl | (exfalso; simp_all only [isT, isCl, isW, st3, btw, kOf, not_true_eq_false, not_false_eq_true, and_true, true_and, and_self, and_false, false_and, or_true, true_or, or_false, false_or, not_and]; done) | grind))
  · intro a nx ex _
    have e : Int32.ofInt 4 ≤ i3 ((4 : Nat) : Int) := by decide +kernel
    simp only [e, Option.bind_some, jn, cst, bP_if, rB_0, rB_1, z00, z10, ↓reduceIte]
theorem q_131 (ho : isG o) (h : ok (gd s o)) (c : Int32) : m_131 o c (H s) = some (sod (gd s o) c) := by
  unfold m_131
  simp only [r_G ho, Option.bind_some, jn, cst, bP_if, rB_0, rB_1, z00, z10, ↓reduceIte]
  refine (lp0 (nn (gd s o)) (by have := h.n_le; omega) (fun t a => (a, t)) (fun a => a) (sodF (gd s o) c) (fun _ => True) (i3 0) ?_ (fun _ _ _ _ => trivial) ?_ trivial).trans rfl
  · intro k m nx ex hk _
    simp only [(h.T hk).2, h.at_c (h.T hk), q_77 ho h, Option.bind_some, jn, cst, bP_if, rB_0, rB_1, z00, z10, ↓reduceIte]
    rfl
  · intro a nx ex _
    simp only [h.Te (Nat.le_refl _) (by have := h.n_le; omega), Option.bind_some, jn, cst, bP_if, rB_0, rB_1, z00, z10, ↓reduceIte]
theorem q_130 (ho : isG o) (h : ok (gd s o)) : m_130 o (H s) = some (mid (gd s o)) := by
  have hcc := h.cc_le
  unfold m_130
  simp only [q_70 ho, q_131 ho h, Option.bind_some, jn, cst, bP_if, rB_0, rB_1, z00, z10, ↓reduceIte]
  refine (lpB 1 (dn (gd s o) * dn (gd s o)) (by omega) (by omega) (fun t a => (a, t)) (fun a => a) (midF (gd s o)) (fun _ => True) (i3 0) ?_ (fun _ _ _ _ _ => trivial) ?_ trivial).trans rfl
  · intro k m nx ex _ hk _
    simp only [(h.C hk).2, Option.bind_some, jn, cst, bP_if, rB_0, rB_1, z00, z10, ↓reduceIte]
    unfold midF
    ((repeat' split) <;> (first | rfl | (exfalso; simp_all only [isT, isCl, isW, st3, btw, kOf, not_true_eq_false, not_false_eq_true, and_true, true_and, and_self, and_false, false_and, or_true, true_or, or_false, false_or, not_and]; done) | grind))
  · intro k a nx ex hk hk2 _
    simp only [h.Ce hk hk2, Option.bind_some, jn, cst, bP_if, rB_0, rB_1, z00, z10, ↓reduceIte]
theorem q_129 (ho : isG o) (h : ok (gd s o)) : m_129 o (H s) = some (npr (gd s o)).2 := by
  have hn := h.n_le
  unfold m_129
  simp only [r_G ho, Option.bind_some, jn, cst, bP_if, rB_0, rB_1, z00, z10, ↓reduceIte]
  refine (lp0 (nn (gd s o)) (by have := h.n_le; omega) (fun t (a : Int32 × Int32) => (a.1, a.2, t)) (fun a => a.2) (nprI (gd s o)) (fun _ => True) (i3 (-1), i3 (-1)) ?_ (fun _ _ _ _ => trivial) ?_ trivial).trans rfl
  · intro k m nx ex hk _
    simp only [(h.T hk).2, h.at_c (h.T hk), i3_nat_add, Option.bind_some, jn, cst, bP_if, rB_0, rB_1, z00, z10, ↓reduceIte]
    refine (lpB (k + 1) (nn (gd s o)) (by omega) (by omega) (fun t (a : Int32 × Int32) => (a.1, a.2, t)) (fun a => a) (nprF (gd s o) k) (fun _ => True) m ?_ (fun _ _ _ _ _ => trivial) ?_ trivial).trans rfl
    · intro j a nx2 ex2 _ hj _
      simp only [(h.T hj).2, h.at_c (h.T hj), q_77 ho h, Option.bind_some, jn, cst, bP_if, rB_0, rB_1, z00, z10, ↓reduceIte]
      unfold nprF
      ((repeat' split) <;> (first | rfl | (exfalso; simp_all only [isT, isCl, isW, st3, btw, kOf, not_true_eq_false, not_false_eq_true, and_true, true_and, and_self, and_false, false_and, or_true, true_or, or_false, false_or, not_and]; done) | grind))
    · intro j a nx2 ex2 hj hj2 _
      simp only [h.Te hj hj2, Option.bind_some, jn, cst, bP_if, rB_0, rB_1, z00, z10, ↓reduceIte]
  · intro a nx ex _
    simp only [h.Te (Nat.le_refl _) (by have := h.n_le; omega), Option.bind_some, jn, cst, bP_if, rB_0, rB_1, z00, z10, ↓reduceIte]
theorem q_136 (ho : isG o) (h : ok (gd s o)) : m_136 o (H s) = some (gar (gd s o)) := by
  have hn := h.n_le
  unfold m_136
  simp only [r_G ho, Option.bind_some, jn, cst, bP_if, rB_0, rB_1, z00, z10, ↓reduceIte]
  refine (lp0 (nn (gd s o)) (by have := h.n_le; omega) (fun t a => (a, t)) (fun a => a) (garI (gd s o)) (fun _ => True) (i3 0) ?_ (fun _ _ _ _ => trivial) ?_ trivial).trans rfl
  · intro k m nx ex hk _
    simp only [(h.T hk).2, h.at_c (h.T hk), i3_nat_add, Option.bind_some, jn, cst, bP_if, rB_0, rB_1, z00, z10, ↓reduceIte]
    refine (lpB (k + 1) (nn (gd s o)) (by omega) (by omega) (fun t a => (a, t)) (fun a => a) (garJ (gd s o) k) (fun _ => True) m ?_ (fun _ _ _ _ _ => trivial) ?_ trivial).trans rfl
    · intro j a nx2 ex2 _ hj _
      simp only [(h.T hj).2, h.at_c (h.T hj), i3_nat_add, Option.bind_some, jn, cst, bP_if, rB_0, rB_1, z00, z10, ↓reduceIte]
      refine (lpB (j + 1) (nn (gd s o)) (by omega) (by omega) (fun t a => (a, t)) (fun a => a) (garF (gd s o) k j) (fun _ => True) a ?_ (fun _ _ _ _ _ => trivial) ?_ trivial).trans rfl
      · intro i b nx3 ex3 _ hi _
        simp only [(h.T hi).2, h.at_c (h.T hi), q_79 ho h, Option.bind_some, jn, cst, bP_if, rB_0, rB_1, z00, z10, ↓reduceIte]
        rfl
      · intro i b nx3 ex3 hi hi2 _
        simp only [h.Te hi hi2, Option.bind_some, jn, cst, bP_if, rB_0, rB_1, z00, z10, ↓reduceIte]
    · intro j a nx2 ex2 hj hj2 _
      simp only [h.Te hj hj2, Option.bind_some, jn, cst, bP_if, rB_0, rB_1, z00, z10, ↓reduceIte]
  · intro a nx ex _
    simp only [h.Te (Nat.le_refl _) (by have := h.n_le; omega), Option.bind_some, jn, cst, bP_if, rB_0, rB_1, z00, z10, ↓reduceIte]
theorem q_139 (ho : isG o) (h : ok (gd s o)) (r c : Int32) : m_139 o r c (H s) = some (bP (tkn (gd s o) r c)) := by
  unfold m_139
  simp only [q_74 ho, q_84 ho h, Option.bind_some, jn, cst, bP_if, rB_0, rB_1, z00, z10, ↓reduceIte]
  unfold bP tkn
  ((repeat' split) <;> (first | rfl | (exfalso; simp_all only [isT, isCl, isW, st3, btw, kOf, not_true_eq_false, not_false_eq_true, and_true, true_and, and_self, and_false, false_and, or_true, true_or, or_false, false_or, not_and]; done) | grind))
theorem q_138 (ho : isG o) (h : ok (gd s o)) (a b : Int32) : m_138 o a b (H s) = some (bP (eos (gd s o) a b)) := by
  unfold m_138
  simp only [q_72 ho h, q_73 ho h, q_139 ho h, Option.bind_some, jn, cst, bP_if, rB_0, rB_1, z00, z10, ↓reduceIte]
  unfold bP eos
  by_cases c1 : tkn (gd s o) (rO (gd s o) a - (cO (gd s o) b - cO (gd s o) a)) (cO (gd s o) a + (rO (gd s o) b - rO (gd s o) a))
  · rw [if_pos c1]
    by_cases c2 : tkn (gd s o) (rO (gd s o) b - (cO (gd s o) b - cO (gd s o) a)) (cO (gd s o) b + (rO (gd s o) b - rO (gd s o) a))
    · rw [if_pos c2, if_pos ⟨c1, c2⟩]
    · rw [if_neg c2, if_neg (fun e => c2 e.2)]
  · rw [if_neg c1, if_neg (fun e => c1 e.1)]
theorem q_137 (ho : isG o) (h : ok (gd s o)) : m_137 o (H s) = some (csq (gd s o) / i3 4) := by
  unfold m_137
  simp only [r_G ho, Option.bind_some, jn, cst, bP_if, rB_0, rB_1, z00, z10, ↓reduceIte]
  refine (lp0 (nn (gd s o)) (by have := h.n_le; omega) (fun t a => (a, t)) (fun a => a) (csqI (gd s o)) (fun _ => True) (i3 0) ?_ (fun _ _ _ _ => trivial) ?_ trivial).trans ?_
  · intro k m nx ex hk _
    simp only [(h.T hk).2, h.at_c (h.T hk), Option.bind_some, jn, cst, bP_if, rB_0, rB_1, z00, z10, ↓reduceIte]
    refine (lp0 (nn (gd s o)) (by have := h.n_le; omega) (fun t a => (a, t)) (fun a => a) (csqF (gd s o) k) (fun _ => True) m ?_ (fun _ _ _ _ => trivial) ?_ trivial).trans rfl
    · intro j a nx2 ex2 hj _
      simp only [(h.T hj).2, h.at_c (h.T hj), q_138 ho h, Option.bind_some, jn, cst, bP_if, rB_0, rB_1, z00, z10, ↓reduceIte]
      unfold csqF
      ((repeat' split) <;> (first | rfl | (exfalso; simp_all only [isT, isCl, isW, st3, btw, kOf, not_true_eq_false, not_false_eq_true, and_true, true_and, and_self, and_false, false_and, or_true, true_or, or_false, false_or, not_and]; done) | grind))
    · intro a nx2 ex2 _
      simp only [h.Te (Nat.le_refl _) (by have := h.n_le; omega), Option.bind_some, jn, cst, bP_if, rB_0, rB_1, z00, z10, ↓reduceIte]
  · intro a nx ex _
    simp only [h.Te (Nat.le_refl _) (by have := h.n_le; omega), Option.bind_some, jn, cst, bP_if, rB_0, rB_1, z00, z10, ↓reduceIte]
  · have e : ¬ Int32.ofInt 4 = 0 := by decide +kernel
    simp only [dvI, e, Option.bind_some, jn, cst, bP_if, rB_0, rB_1, z00, z10, ↓reduceIte]
    rfl
theorem q_142 (ho : isG o) (h : ok (gd s o)) (x a b c : Int32) : m_142 o x a b c (H s) = some (bP (ooh (gd s o) x a b c)) := by
  unfold m_142
  simp only [q_79 ho h, Option.bind_some, jn, cst, bP_if, rB_0, rB_1, z00, z10, ↓reduceIte]
  unfold bP ooh
  by_cases c1 : dar (gd s o) a b x < 0 <;> by_cases c2 : dar (gd s o) b c x < 0 <;> by_cases c3 : dar (gd s o) c a x < 0 <;> by_cases d1 : 0 < dar (gd s o) a b x <;> by_cases d2 : 0 < dar (gd s o) b c x <;> by_cases d3 : 0 < dar (gd s o) c a x <;> simp only [c1, c2, c3, d1, d2, d3, z00, z10, ↓reduceIte, not_true_eq_false, not_false_eq_true, and_true, true_and, and_self, and_false, false_and, or_true, true_or, or_false, false_or, rB_0, rB_1]
theorem q_141 (ho : isG o) (h : ok (gd s o)) {t a : Int32} {b : Nat} (ht : isT (gd s o) t) (ha : isT (gd s o) a) (hb : b < nn (gd s o)) : m_141 o t a (i3 (b : Int)) (H s) = some (bP (ito (gd s o) t a b)) := by
  have hn := h.n_le
  unfold m_141
  simp only [r_G ho, Option.bind_some, jn, cst, bP_if, rB_0, rB_1, z00, z10, ↓reduceIte]
  by_cases c1 : t = a
  · rw [if_pos c1, bP_f (fun e => e.1 c1)]
  rw [if_neg c1]
  by_cases c2 : t = i3 (b : Int)
  · rw [if_pos c2, bP_f (fun e => e.2.1 c2)]
  rw [if_neg c2]
  simp only [i3_nat_add]
  refine (lpL (b + 1) (nn (gd s o)) (by omega) (by omega) (fun t => t) () (fun k => decide (itq (gd s o) t a (i3 (b : Int)) k)) (fun _ => some (i3 1)) ?_ ?_).trans ?_
  · intro k nx ex _ hk
    simp only [(h.T hk).2, h.at_c (h.T hk), h.at_c (h.T hb), h.at_c ht, h.at_c ha, q_79 ho h, q_142 ho h, Option.bind_some, jn, cst, bP_if, rB_0, rB_1, z00, z10, ↓reduceIte, decide_eq_true_eq]
    unfold itq
    by_cases d1 : i3 (k : Int) = t
    · rw [if_pos d1, if_neg (fun e => e.1 d1)]
    rw [if_neg d1]
    by_cases d2 : dar (gd s o) (cA (gd s o) a) (cA (gd s o) (i3 (b : Int))) (cA (gd s o) (i3 (k : Int))) = 0
    · rw [if_pos d2, if_neg (fun e => e.2.1 d2)]
    rw [if_neg d2]
    by_cases d3 : ooh (gd s o) (cA (gd s o) t) (cA (gd s o) a) (cA (gd s o) (i3 (b : Int))) (cA (gd s o) (i3 (k : Int)))
    · rw [if_pos d3, if_pos ⟨d1, d2, d3⟩]
    · rw [if_neg d3, if_neg (fun e => d3 e.2.2)]
  · intro k nx ex hk hk2
    simp only [h.Te hk hk2, Option.bind_some, jn, cst, bP_if, rB_0, rB_1, z00, z10, ↓reduceIte]
  · refine mat_bN.trans ?_
    unfold bP ito
    simp only [c1, c2, not_false_eq_true, true_and]
theorem q_140 (ho : isG o) (h : ok (gd s o)) {t : Int32} (ht : isT (gd s o) t) : m_140 o t (H s) = some (bP (crn (gd s o) t)) := by
  have hn := h.n_le
  unfold m_140
  simp only [r_G ho, h.at_c ht, Option.bind_some, jn, cst, bP_if, rB_0, rB_1, z00, z10, ↓reduceIte]
  refine (lpS (nn (gd s o)) (by have := h.n_le; omega) (fun t => t) () (fun a => decide (icr (gd s o) t a)) (fun _ => some (i3 0)) ?_ ?_).trans mat_bP
  · intro a nx ex ha
    simp only [(h.T ha).2, h.at_c (h.T ha), i3_nat_add, Option.bind_some, jn, cst, bP_if, rB_0, rB_1, z00, z10, ↓reduceIte, decide_eq_true_eq]
    refine (lpL (a + 1) (nn (gd s o)) (by omega) (by omega) (fun t => t) () (fun b => decide (icq (gd s o) t a b)) (fun _ => some (i3 0)) ?_ ?_).trans ?_
    · intro b nx2 ex2 _ hb
      simp only [(h.T hb).2, h.at_c (h.T hb), q_80 ho h, q_141 ho h ht (h.T ha) hb, Option.bind_some, jn, cst, bP_if, rB_0, rB_1, z00, z10, ↓reduceIte, decide_eq_true_eq]
      unfold icq
      by_cases d1 : btw (gd s o) (cA (gd s o) t) (cA (gd s o) (i3 (a : Int))) (cA (gd s o) (i3 (b : Int)))
      · rw [if_pos d1, if_pos (Or.inl d1)]
      rw [if_neg d1]
      by_cases d2 : ito (gd s o) t (i3 (a : Int)) b
      · rw [if_pos d2, if_pos (Or.inr d2)]
      · rw [if_neg d2, if_neg (fun e => e.elim d1 d2)]
    · intro b nx2 ex2 hb hb2
      simp only [h.Te hb hb2, Option.bind_some, jn, cst, bP_if, rB_0, rB_1, z00, z10, ↓reduceIte]
    · unfold icr
      cases fst? (fun b => decide (icq (gd s o) t a b)) (nn (gd s o) - (a + 1)) (a + 1) <;> simp
  · intro nx ex
    simp only [h.Te (Nat.le_refl _) (by have := h.n_le; omega), Option.bind_some, jn, cst, bP_if, rB_0, rB_1, z00, z10, ↓reduceIte]
end SI
end
section
/-! ===== what no answer rests on ===== -/
noncomputable def qA (p : Nat) : Prop := sA p ∨ p = 27 ∨ p = 60 ∨ p = 7 ∨ p = 8 ∨ p = 9 ∨ p = 10
noncomputable def qF (o k : Nat) : Prop := sF o k ∨ o = 6
/-- but for what is scratched, counted as refused, or drafted -/
noncomputable def qq (s s' : St) : Prop := (∀ p, ¬ qA p → ia s' p = ia s p) ∧ (∀ p, p ≠ 57 → la s' p = la s p) ∧ (∀ o k, ¬ qF o k → fi s' o k = fi s o k) ∧ s'.2.2.2 = s.2.2.2 ∧ (∀ p, (ia s' p).length = (ia s p).length) ∧ (∀ p, (la s' p).length = (la s p).length)
section QQ
variable {s s' s2 : St}
theorem qq.refl (s : St) : qq s s := ⟨fun _ _ => rfl, fun _ _ => rfl, fun _ _ _ => rfl, rfl, fun _ => rfl, fun _ => rfl⟩
theorem qq.trans (h : qq s s') (k : qq s' s2) : qq s s2 := ⟨fun p hp => (k.1 p hp).trans (h.1 p hp), fun p hp => (k.2.1 p hp).trans (h.2.1 p hp), fun o q hq => (k.2.2.1 o q hq).trans (h.2.2.1 o q hq), k.2.2.2.1.trans h.2.2.2.1, fun p => (k.2.2.2.2.1 p).trans (h.2.2.2.2.1 p), fun p => (k.2.2.2.2.2 p).trans (h.2.2.2.2.2 p)⟩
theorem sc.q (h : sc s s') : qq s s' := ⟨fun p hp => h.1 p (fun e => hp (Or.inl e)), h.2.1, fun o k hk => h.2.2.1 o k (fun e => hk (Or.inl e)), h.2.2.2⟩
theorem qq.f {o k : Nat} {x : Int32} (hf : qF o k) (h : qq s s') : qq s (sf s' o k x) := h.trans ⟨fun _ _ => rfl, fun _ _ => rfl, fun o' k' hk => by
    rw [fi_sf, if_neg]
    rintro ⟨rfl, rfl⟩
    exact hk hf, rfl, fun _ => rfl, fun _ => rfl⟩
theorem qq.a {p : Nat} {l : List Int32} (hp : qA p) (hl : l.length = (ia s' p).length) (h : qq s s') : qq s (sa s' p l) := h.trans ⟨fun q hq => by
    rw [ia_sa, if_neg]
    rintro rfl
    exact hq hp, fun _ _ => rfl, fun _ _ _ => rfl, rfl, fun q => by
    rw [ia_sa]
    split
    · rename_i e; rw [e]; exact hl
    · rfl, fun _ => rfl⟩
theorem qq.ln (h : qq s s') (p : Nat) : (ia s' p).length = (ia s p).length := h.2.2.2.2.1 p
theorem qq.g (h : qq s s') {o : Nat} (ho : o = 1 ∨ o = 11) : gd s' o = gd s o := by
  have f := fun k hk => h.2.2.1 o k hk
  have a := fun p hp => h.1 p hp
  unfold gd
  rcases ho with rfl | rfl
  all_goals rw [f 4 (by unfold qF sF; omega), f 5 (by unfold qF sF; omega), f 6 (by unfold qF sF; omega), f 7 (by unfold qF sF; omega), a _ (by unfold qA sA; omega), a _ (by unfold qA sA; omega), a _ (by unfold qA sA; omega), a _ (by unfold qA sA; omega)]
theorem qq.m (h : qq s s') {o : Nat} (ho : o = 44 ∨ o = 67 ∨ o = 90) : md s' o = md s o := by
  have f := fun k hk => h.2.2.1 o k hk
  have a := fun p hp => h.1 p hp
  unfold md
  rcases ho with rfl | rfl | rfl
  all_goals rw [f 9 (by unfold qF sF; omega), f 10 (by unfold qF sF; omega), f 14 (by unfold qF sF; omega), f 16 (by unfold qF sF; omega), a _ (by unfold qA sA; omega), a _ (by unfold qA sA; omega), a _ (by unfold qA sA; omega), a _ (by unfold qA sA; omega)]
theorem qq.z (h : qq s s') (z : Sz s) : Sz s' := by
  unfold Sz
  rw [h.ln, h.ln, h.ln, h.ln, h.ln, h.2.2.2.2.2]
  exact z
end QQ
noncomputable def isB (x : Int32) : Prop := x = i3 (-2) ∨ x = i3 (-3) ∨ x = i3 (-4) ∨ x = i3 (-5) ∨ x = i3 (-6)
theorem q_59k {s : St} (hl : (ia s 27).length = 5) {x : Int32} {k : Nat} (hk : k < 5) (e : i3 (-2) - x = i3 (k : Int)) : m_59 0 x (H s) = some (x, H (sa s 27 ((ia s 27).set k ((ia s 27).getD k 0 + i3 1)))) := by
  unfold m_59
  have e1 : ¬ i3 (k : Int) < 0 := i3n_nneg (by omega)
  have e2 : ¬ i3 ((5 : Nat) : Int) ≤ i3 (k : Int) := by rw [i3n_le (by omega) (by omega)]; omega
  have e3 : at32 (ia s 27) (i3 (k : Int)) = some ((ia s 27).getD k 0) := by
    rw [at32_nat (by omega), List.getD_eq_getElem?_getD, List.getElem?_eq_getElem (by omega)]; rfl
  have e4 : ∀ y, st32 (ia s 27) (i3 (k : Int)) y = some ((ia s 27).set k y) := fun y => st32_nat (by omega) (by omega)
  have e10 : (Int8.ofInt (-2)).toInt32 - x = i3 (k : Int) := by rw [cst.1]; exact e
  rw [e10]
  simp only [r_0, Option.bind_some, jn, cst, bP_if, rB_0, rB_1, z00, z10, ↓reduceIte, e1, hl, i3_nat, e2, e3, e4, Option.map_some]
theorem q_59 {s : St} (hl : (ia s 27).length = 5) {x : Int32} (hx : isB x) : ∃ s', m_59 0 x (H s) = some (x, H s') ∧ qq s s' := by
  have q : ∀ l : List Int32, l.length = (ia s 27).length → qq s (sa s 27 l) := fun l h => (qq.refl s).a (Or.inr (Or.inl rfl)) h
  rcases hx with h | h | h | h | h
  · exact ⟨_, q_59k hl (k := 0) (by omega) (by rw [h]; decide +kernel), q _ List.length_set⟩
  · exact ⟨_, q_59k hl (k := 1) (by omega) (by rw [h]; decide +kernel), q _ List.length_set⟩
  · exact ⟨_, q_59k hl (k := 2) (by omega) (by rw [h]; decide +kernel), q _ List.length_set⟩
  · exact ⟨_, q_59k hl (k := 3) (by omega) (by rw [h]; decide +kernel), q _ List.length_set⟩
  · exact ⟨_, q_59k hl (k := 4) (by omega) (by rw [h]; decide +kernel), q _ List.length_set⟩
theorem q_189k {s : St} (hl : (ia s 60).length = 8) {x : Int32} {k : Nat} (hk : k < 8) (e : -x = i3 (k : Int)) : m_189 44 x (H s) = some (x, H (sa s 60 ((ia s 60).set k ((ia s 60).getD k 0 + i3 1)))) := by
  unfold m_189
  have e3 : at32 (ia s 60) (i3 (k : Int)) = some ((ia s 60).getD k 0) := by
    rw [at32_nat (by omega), List.getD_eq_getElem?_getD, List.getElem?_eq_getElem (by omega)]; rfl
  have e4 : ∀ y, st32 (ia s 60) (i3 (k : Int)) y = some ((ia s 60).set k y) := fun y => st32_nat (by omega) (by omega)
  simp only [r_m, Option.bind_some, jn, cst, bP_if, rB_0, rB_1, z00, z10, ↓reduceIte, e, e3, e4, Option.map_some]
theorem q_189 {s : St} (hl : (ia s 60).length = 8) {x : Int32} (hx : isB x) : ∃ s', m_189 44 x (H s) = some (x, H s') ∧ qq s s' := by
  have q : ∀ l : List Int32, l.length = (ia s 60).length → qq s (sa s 60 l) := fun l h => (qq.refl s).a (Or.inr (Or.inr (Or.inl rfl))) h
  rcases hx with h | h | h | h | h
  · exact ⟨_, q_189k hl (k := 2) (by omega) (by rw [h]; decide +kernel), q _ List.length_set⟩
  · exact ⟨_, q_189k hl (k := 3) (by omega) (by rw [h]; decide +kernel), q _ List.length_set⟩
  · exact ⟨_, q_189k hl (k := 4) (by omega) (by rw [h]; decide +kernel), q _ List.length_set⟩
  · exact ⟨_, q_189k hl (k := 5) (by omega) (by rw [h]; decide +kernel), q _ List.length_set⟩
  · exact ⟨_, q_189k hl (k := 6) (by omega) (by rw [h]; decide +kernel), q _ List.length_set⟩
theorem isB2 : isB (i3 (-2)) := Or.inl rfl
theorem isB3 : isB (i3 (-3)) := Or.inr (Or.inl rfl)
theorem isB4 : isB (i3 (-4)) := Or.inr (Or.inr (Or.inl rfl))
theorem isB5 : isB (i3 (-5)) := Or.inr (Or.inr (Or.inr (Or.inl rfl)))
theorem isB6 : isB (i3 (-6)) := Or.inr (Or.inr (Or.inr (Or.inr rfl)))
/-- a call that changes nothing that counts, and its answer -/
noncomputable def Ans {α : Type} (s : St) (m : Option (α × tH)) (v : α) : Prop := ∃ s', m = some (v, H s') ∧ qq s s'
theorem Ans.id {α : Type} {s : St} {v : α} : Ans s (some (v, H s)) v := ⟨s, rfl, qq.refl s⟩
theorem Ans.bnd {α β : Type} {s : St} {m : Option (α × tH)} {v : α} {f : α × tH → Option (β × tH)} {w : β} (h : Ans s m v) (k : ∀ s', qq s s' → Ans s' (f (v, H s')) w) : Ans s (m.bind f) w := by
  obtain ⟨s1, e1, q1⟩ := h
  obtain ⟨s2, e2, q2⟩ := k s1 q1
  rw [e1]
  exact ⟨s2, e2, q1.trans q2⟩
theorem Ans.cf {s : St} (hl : (ia s 27).length = 5) {x : Int32} (hx : isB x) : Ans s ((m_59 0 x (H s)).bind fun q => some (q.1, q.2)) x := by
  obtain ⟨s1, e1, q1⟩ := q_59 hl hx
  rw [e1]
  exact ⟨s1, rfl, q1⟩
theorem Ans.mf {s : St} (hl : (ia s 60).length = 8) {x : Int32} (hx : isB x) : Ans s ((m_189 44 x (H s)).bind fun q => some (q.1, q.2)) x := by
  obtain ⟨s1, e1, q1⟩ := q_189 hl hx
  rw [e1]
  exact ⟨s1, rfl, q1⟩
end
section
/-! ===== the class's answers ===== -/
noncomputable def Cq (s : St) : Prop := ok (gd s 1) ∧ Sz s ∧ (ia s 27).length = 5
theorem qq.c {s s' : St} (h : qq s s') (c : Cq s) : Cq s' := ⟨by rw [h.g (Or.inl rfl)]; exact c.1, h.z c.2.1, by rw [h.ln]; exact c.2.2⟩
theorem g1 : isG 1 := Or.inl rfl
theorem Ans.rows {β : Type} {s : St} {f : Nat × tH → Option (β × tH)} {w : β} (c : Cq s) (k : ∀ s', Cq s' → gd s' 1 = gd s 1 → rowsOK s' (RL (gd s 1)) → Ans s' (f (16, H s')) w) : Ans s ((m_63 0 (H s)).bind f) w := by
  obtain ⟨s1, e1, q1, r1⟩ := q_63 c.1 c.2.1
  obtain ⟨s2, e2, q2⟩ := k s1 (q1.q.c c) (q1.g g1) r1
  rw [e1]
  exact ⟨s2, e2, q1.q.trans q2⟩
theorem Ans.scr {β : Type} {s s' : St} {m : Option (β × tH)} {w : β} (h : sc s s') (k : Ans s' m w) : Ans s m w := by
  obtain ⟨s2, e2, q2⟩ := k
  exact ⟨s2, e2, h.q.trans q2⟩
theorem five {w : Int32} (h : ¬ w < 0) (h4 : w ≤ i3 4) : w = 0 ∨ w = 1 ∨ w = 2 ∨ w = 3 ∨ w = 4 := by
  have a : ¬ w.toInt < 0 := fun e => h (Int32.lt_iff_toInt_lt.mpr e)
  have b : w.toInt ≤ 4 := Int32.le_iff_toInt_le.mp h4
  have c : w.toInt = 0 ∨ w.toInt = 1 ∨ w.toInt = 2 ∨ w.toInt = 3 ∨ w.toInt = 4 := by omega
  rcases c with c | c | c | c | c
  · exact Or.inl (Int32.toInt_inj.mp c)
  · exact Or.inr (Or.inl (Int32.toInt_inj.mp c))
  · exact Or.inr (Or.inr (Or.inl (Int32.toInt_inj.mp c)))
  · exact Or.inr (Or.inr (Or.inr (Or.inl (Int32.toInt_inj.mp c))))
  · exact Or.inr (Or.inr (Or.inr (Or.inr (Int32.toInt_inj.mp c))))
noncomputable def vTreeOf (g : Gd) (t w : Int32) : Int32 := if isT g t then if w < 0 then i3 (-2) else if w ≤ i3 4 then if w = 0 then kA g t else if w = 1 then cA g t else if w = 2 then vA g t else if w = 3 then cw (RL g) t (i3 2) else cw (RL g) t (i3 3) else i3 (-2) else i3 (-2)
noncomputable def vTreeAt (g : Gd) (c : Int32) : Int32 := if isCl g c then tIn g c else i3 (-2)
noncomputable def vMany (g : Gd) (k : Int32) : Int32 := if ¬ k < i3 2 ∧ k ≤ i3 12 then co (RL g) k else i3 (-2)
noncomputable def nT (L : List Int32) : Int32 := i3 (L.length : Int) - co L (i3 2)
noncomputable def vRowAt (g : Gd) (k i : Int32) : Int32 := if ¬ k < i3 2 ∧ k ≤ i3 12 then if 0 ≤ i then if pk (RL g) k i = 0 then i3 (-5) else pk (RL g) k i else i3 (-2) else i3 (-2)
noncomputable def vLong (g : Gd) : Int32 := if fl (RL g) = 0 then i3 (-5) else fl (RL g)
noncomputable def vAlone (g : Gd) : Int32 := all g &&& (ti (RL g) ^^^ i3 (-1))
noncomputable def vThrough (g : Gd) (t u : Int32) : Int32 := if isT g t then if isT g u then if t = u then i3 (-2) else if kOf (kA g t) (i3 4) then i3 (-5) else if kOf (kA g u) (i3 4) then i3 (-5) else rowS g t u else i3 (-2) else i3 (-2)
noncomputable def vInLine (g : Gd) (m : Int32) : Int32 := if st3 g m then if inR g m then i3 1 else i3 0 else i3 (-2)
noncomputable def vMissed (g : Gd) (t : Int32) : Int32 := if isT g t then cw (RL g) t (i3 3) - cw (RL g) t (i3 4) else i3 (-2)
noncomputable def lsF (L : List Int32) (k : Nat) (m : Int32) : Int32 := if cw L m (i3 3) - cw L m (i3 4) ≤ cw L (i3 (k : Int)) (i3 3) - cw L (i3 (k : Int)) (i3 4) then m else i3 (k : Int)
noncomputable def vLeast (g : Gd) : Int32 := if tN g = 0 then i3 (-5) else fB 1 (nn g) (lsF (RL g)) (i3 0)
noncomputable def vBest (g : Gd) (w : Int32) : Int32 := if w < 0 then i3 (-2) else if w ≤ i3 2 then tel (mT g (RL g)) w else i3 (-2)
noncomputable def vBestFor (g : Gd) (w : Int32) : Int32 := if w < 0 then i3 (-2) else if w ≤ i3 2 then tel (mW g) w else i3 (-2)
noncomputable def nomv (g : Gd) (t c : Int32) : Int32 := if isT g t then if isCl g c then if kOf (kA g t) (i3 1) then i3 (-5) else if tIn g c = i3 (-1) then i3 0 else i3 (-5) else i3 (-2) else i3 (-2)
noncomputable def vMoved (g : Gd) (t c : Int32) : Int32 := if nomv g t c = 0 then (wT g (RL g) t).1 + rd (wT g (RL g) t).2 c else nomv g t c
noncomputable def mayF (g : Gd) (k : Nat) (m : Int64) : Int64 := if tIn g (i3 (k : Int)) = i3 (-1) then if rd (cr g (RL g) (i3 2)) (i3 (k : Int)) = 0 then m ||| ((Int64.ofNat 1) <<< ((Int32.toInt64 (i3 (k : Int))) &&& 63)) else m else m
noncomputable def vMay (g : Gd) : Int64 := itr (mayF g) (dn g * dn g) (Int64.ofNat 0)
noncomputable def vMost (m : Int32) : Int32 := if m < i3 1 then i3 (-2) else if m ≤ i3 5 then if m = i3 1 then i3 1 else i3 2 * m else i3 (-2)
noncomputable def vView (g : Gd) (c : Int32) : Int32 := if isCl g c then vw g c else i3 (-2)
noncomputable def ovF (g : Gd) (k : Nat) (m : Int64) : Int64 := if tIn g (i3 (k : Int)) = i3 (-1) then if als g (i3 (k : Int)) then m ||| ((Int64.ofNat 1) <<< ((Int32.toInt64 (i3 (k : Int))) &&& 63)) else m else m
noncomputable def vOver (g : Gd) : Int64 := itr (ovF g) (dn g * dn g) (Int64.ofNat 0)
noncomputable def vBehind (g : Gd) (t c : Int32) : Int32 := if isT g t then if isCl g c then if cA g t = c then i3 (-2) else hid g t c else i3 (-2) else i3 (-2)
noncomputable def vPaths (g : Gd) (w : Int32) : Int32 := if w < 0 then i3 (-2) else if w ≤ i3 3 then frl g w else i3 (-2)
noncomputable def vWishOf (g : Gd) (i : Int32) : Int32 := if isW g i then wA g i else i3 (-2)
noncomputable def vMet (g : Gd) (i : Int32) : Int32 := if i = i3 (-1) then wm g else if isW g i then if inR g (wA g i) then i3 1 else i3 0 else i3 (-2)
noncomputable def vMiddle (g : Gd) : Int32 := if tN g = 0 then i3 (-5) else mid g
noncomputable def vNearest (g : Gd) : Int32 := if i3 2 ≤ tN g then (npr g).2 else i3 (-5)
noncomputable def crnF (g : Gd) (k : Nat) (m : Int32) : Int32 := if crn g (i3 (k : Int)) then m ||| bit (i3 (k : Int)) else m
noncomputable def vCorners (g : Gd) : Int32 := itr (crnF g) (nn g) (i3 0)
noncomputable def vPointed (g : Gd) (c : Int32) : Int32 := if isCl g c then rd (cr g (RL g) (i3 3)) c else i3 (-2)
noncomputable def vGap (g : Gd) (a : Gp) (w : Int32) : Int32 := if w < 0 then i3 (-2) else if w ≤ i3 1 then if (gpA g (RL g) a).2.1 = i3 (-1) then i3 (-5) else if w = 0 then (gpA g (RL g) a).1 else (gpA g (RL g) a).2.1 else i3 (-2)
section CQ
variable {s : St}
theorem a_18 (c : Cq s) (t w : Int32) : Ans s (m_18 0 t w (H s)) (vTreeOf (gd s 1) t w) := by
  unfold m_18 vTreeOf
  simp only [r_0, q_81 g1, Option.bind_some, jn, cst, bP_if, rB_0, rB_1, z00, z10, ↓reduceIte]
  by_cases c1 : isT (gd s 1) t
  · rw [if_pos c1, if_pos c1]
    by_cases c2 : w < 0
    · rw [if_pos c2, if_pos c2]
      exact Ans.cf c.2.2 isB2
    · rw [if_neg c2, if_neg c2]
      by_cases c3 : w ≤ i3 4
      · rw [if_pos c3, if_pos c3]
        have e1 : at32 (kS (gd s 1)) t = some (kA (gd s 1) t) := c.1.at_k c1
        have e2 : at32 (cS (gd s 1)) t = some (cA (gd s 1) t) := c.1.at_c c1
        have e3 : at32 (vS (gd s 1)) t = some (vA (gd s 1) t) := c.1.at_v c1
        have R : ∀ q, Ans s ((m_63 0 (H s)).bind fun q7 => (m_107 q7.1 t q q7.2).bind fun x8 => some (x8, q7.2)) (cw (RL (gd s 1)) t q) := fun q => Ans.rows c (fun s' _ _ r => by
          simp only [q_107 r, Option.bind_some, jn, cst, bP_if, rB_0, rB_1, z00, z10, ↓reduceIte]
          exact Ans.id)
        rcases five c2 c3 with rfl | rfl | rfl | rfl | rfl
        · rw [if_neg (by decide +kernel), if_pos rfl, if_pos rfl]
          simp only [r_G g1, show (1 : Nat) + 1 = 2 from rfl, e1, Option.bind_some, jn, cst, bP_if, rB_0, rB_1, z00, z10, ↓reduceIte]
          exact Ans.id
        · rw [if_neg (by decide +kernel), if_neg (by decide +kernel), if_pos rfl, if_neg (by decide +kernel), if_pos rfl]
          simp only [r_G g1, e2, Option.bind_some, jn, cst, bP_if, rB_0, rB_1, z00, z10, ↓reduceIte]
          exact Ans.id
        · rw [if_neg (by decide +kernel), if_neg (by decide +kernel), if_neg (by decide +kernel), if_pos rfl, if_neg (by decide +kernel), if_neg (by decide +kernel), if_pos rfl]
          simp only [r_G g1, e3, Option.bind_some, jn, cst, bP_if, rB_0, rB_1, z00, z10, ↓reduceIte]
          exact Ans.id
        · rw [if_neg (by decide +kernel), if_neg (by decide +kernel), if_neg (by decide +kernel), if_neg (by decide +kernel), if_pos rfl, if_neg (by decide +kernel), if_neg (by decide +kernel), if_neg (by decide +kernel), if_pos rfl]
          exact R _
        · rw [if_pos (by decide +kernel), if_neg (by decide +kernel), if_neg (by decide +kernel), if_neg (by decide +kernel), if_neg (by decide +kernel)]
          exact R _
      · rw [if_neg c3, if_neg c3]
        exact Ans.cf c.2.2 isB2
  · rw [if_neg c1, if_neg c1]
    exact Ans.cf c.2.2 isB2
theorem a_19 (c : Cq s) (x : Int32) : Ans s (m_19 0 x (H s)) (vTreeAt (gd s 1) x) := by
  unfold m_19 vTreeAt
  simp only [r_0, q_71 g1, q_83 g1 c.1, Option.bind_some, jn, cst, bP_if, rB_0, rB_1, z00, z10, ↓reduceIte]
  by_cases c1 : isCl (gd s 1) x
  · rw [if_pos c1, if_pos c1]
    exact Ans.id
  · rw [if_neg c1, if_neg c1]
    exact Ans.cf c.2.2 isB2
theorem a_20 (c : Cq s) (k : Int32) : Ans s (m_20 0 k (H s)) (vMany (gd s 1) k) := by
  unfold m_20 vMany
  simp only [r_0, q_64, Option.bind_some, jn, cst, bP_if, rB_0, rB_1, z00, z10, ↓reduceIte]
  by_cases c1 : ¬ k < i3 2 ∧ k ≤ i3 12
  · rw [if_pos c1, if_pos c1]
    refine Ans.rows c (fun s' _ _ r => ?_)
    simp only [q_105 r, Option.bind_some, jn, cst, bP_if, rB_0, rB_1, z00, z10, ↓reduceIte]
    exact Ans.id
  · rw [if_neg c1, if_neg c1]
    exact Ans.cf c.2.2 isB2
theorem a_21 (c : Cq s) : Ans s (m_21 0 (H s)) (nT (RL (gd s 1))) := by
  unfold m_21 nT
  simp only [r_0, Option.bind_some, jn, cst, bP_if, rB_0, rB_1, z00, z10, ↓reduceIte]
  refine Ans.rows c (fun s' _ _ r => ?_)
  simp only [q_106 r, Option.bind_some, jn, cst, bP_if, rB_0, rB_1, z00, z10, ↓reduceIte]
  exact Ans.id
theorem a_22 (c : Cq s) (k i : Int32) : Ans s (m_22 0 k i (H s)) (vRowAt (gd s 1) k i) := by
  unfold m_22 vRowAt
  simp only [r_0, q_64, Option.bind_some, jn, cst, bP_if, rB_0, rB_1, z00, z10, ↓reduceIte]
  by_cases c1 : ¬ k < i3 2 ∧ k ≤ i3 12
  · rw [if_pos c1, if_pos c1]
    by_cases c2 : 0 ≤ i
    · rw [if_pos c2, if_pos c2]
      refine Ans.rows c (fun s' cc _ r => ?_)
      simp only [q_110 r, Option.bind_some, jn, cst, bP_if, rB_0, rB_1, z00, z10, ↓reduceIte]
      by_cases c3 : pk (RL (gd s 1)) k i = 0
      · rw [if_pos c3, if_pos c3]
        exact Ans.cf cc.2.2 isB5
      · rw [if_neg c3, if_neg c3]
        exact Ans.id
    · rw [if_neg c2, if_neg c2]
      exact Ans.cf c.2.2 isB2
  · rw [if_neg c1, if_neg c1]
    exact Ans.cf c.2.2 isB2
theorem a_23 (c : Cq s) : Ans s (m_23 0 (H s)) (vLong (gd s 1)) := by
  unfold m_23 vLong
  simp only [r_0, Option.bind_some, jn, cst, bP_if, rB_0, rB_1, z00, z10, ↓reduceIte]
  refine Ans.rows c (fun s' cc _ r => ?_)
  simp only [q_111 r, Option.bind_some, jn, cst, bP_if, rB_0, rB_1, z00, z10, ↓reduceIte]
  by_cases c3 : fl (RL (gd s 1)) = 0
  · rw [if_pos c3, if_pos c3]
    exact Ans.cf cc.2.2 isB5
  · rw [if_neg c3, if_neg c3]
    exact Ans.id
theorem a_24 (c : Cq s) : Ans s (m_24 0 (H s)) (vAlone (gd s 1)) := by
  unfold m_24 vAlone
  simp only [r_0, q_82 g1, Option.bind_some, jn, cst, bP_if, rB_0, rB_1, z00, z10, ↓reduceIte]
  refine Ans.rows c (fun s' cc _ r => ?_)
  simp only [q_109 r, Option.bind_some, jn, cst, bP_if, rB_0, rB_1, z00, z10, ↓reduceIte]
  exact Ans.id
theorem a_25 (c : Cq s) (t u : Int32) : Ans s (m_25 0 t u (H s)) (vThrough (gd s 1) t u) := by
  unfold m_25 vThrough
  simp only [r_0, q_81 g1, Option.bind_some, jn, cst, bP_if, rB_0, rB_1, z00, z10, ↓reduceIte]
  by_cases c1 : isT (gd s 1) t
  · rw [if_pos c1, if_pos c1]
    by_cases c2 : isT (gd s 1) u
    · rw [if_pos c2, if_pos c2]
      by_cases c3 : t = u
      · rw [if_pos c3, if_pos c3]
        exact Ans.cf c.2.2 isB2
      · rw [if_neg c3, if_neg c3]
        simp only [q_85 g1 c.1 c1, q_85 g1 c.1 c2, q_92 g1 c.1 c1 c2, Option.bind_some, jn, cst, bP_if, rB_0, rB_1, z00, z10, ↓reduceIte]
        by_cases c4 : kOf (kA (gd s 1) t) (i3 4)
        · rw [if_pos c4, if_pos c4]
          exact Ans.cf c.2.2 isB5
        · rw [if_neg c4, if_neg c4]
          by_cases c5 : kOf (kA (gd s 1) u) (i3 4)
          · rw [if_pos c5, if_pos c5]
            exact Ans.cf c.2.2 isB5
          · rw [if_neg c5, if_neg c5]
            exact Ans.id
    · rw [if_neg c2, if_neg c2]
      exact Ans.cf c.2.2 isB2
  · rw [if_neg c1, if_neg c1]
    exact Ans.cf c.2.2 isB2
theorem a_26 (c : Cq s) (m : Int32) : Ans s (m_26 0 m (H s)) (vInLine (gd s 1) m) := by
  unfold m_26 vInLine
  simp only [r_0, q_93 g1, q_94 g1 c.1, Option.bind_some, jn, cst, bP_if, rB_0, rB_1, z00, z10, ↓reduceIte]
  by_cases c1 : st3 (gd s 1) m
  · rw [if_pos c1, if_pos c1]
    by_cases c2 : inR (gd s 1) m
    · rw [if_pos c2, if_pos c2]
      exact Ans.id
    · rw [if_neg c2, if_neg c2]
      exact Ans.id
  · rw [if_neg c1, if_neg c1]
    exact Ans.cf c.2.2 isB2
theorem a_30 (c : Cq s) (w : Int32) : ∃ a b d, Ans s (m_30 0 w (H s)) (vGap (gd s 1) (a, i3 (-1), b, d) w) := by
  unfold m_30 vGap
  simp only [r_0, Option.bind_some, jn, cst, bP_if, rB_0, rB_1, z00, z10, ↓reduceIte]
  by_cases c1 : w < 0
  · refine ⟨0, 0, 0, ?_⟩
    rw [if_pos c1, if_pos c1]
    exact Ans.cf c.2.2 isB2
  rw [if_neg c1]
  by_cases c2 : w ≤ i3 1
  · rw [if_pos c2]
    obtain ⟨s1, e1, q1, r1⟩ := q_63 c.1 c.2.1
    have cc := q1.q.c c
    obtain ⟨_, e2, s2, rfl, q2, p2⟩ := q_126 cc.1 r1
    rw [q1.g g1] at p2
    refine ⟨fi s1 23 0, fi s1 23 2, fi s1 23 3, ?_⟩
    rw [if_neg c1, if_pos c2, e1]
    simp only [Option.bind_some, jn, cst, bP_if, rB_0, rB_1, z00, z10, ↓reduceIte]
    rw [e2]
    simp only [r_0, r_P, Option.bind_some, jn, cst, bP_if, rB_0, rB_1, z00, z10, ↓reduceIte]
    refine Ans.scr (q1.trans q2) ?_
    rw [← p2]
    show Ans s2 (if fi s2 23 1 = _ then _ else _) (if fi s2 23 1 = _ then _ else if w = 0 then fi s2 23 0 else fi s2 23 1)
    by_cases c3 : fi s2 23 1 = i3 (-1)
    · rw [if_pos c3, if_pos c3]
      exact Ans.cf (q2.q.c cc).2.2 isB5
    · rw [if_neg c3, if_neg c3]
      by_cases c4 : w = 0
      · rw [if_pos c4, if_pos c4]
        exact Ans.id
      · rw [if_neg c4, if_neg c4]
        exact Ans.id
  · refine ⟨0, 0, 0, ?_⟩
    rw [if_neg c2, if_neg c1, if_neg c2]
    exact Ans.cf c.2.2 isB2
theorem a_31 (c : Cq s) (t : Int32) : Ans s (m_31 0 t (H s)) (vMissed (gd s 1) t) := by
  unfold m_31 vMissed
  simp only [r_0, q_81 g1, Option.bind_some, jn, cst, bP_if, rB_0, rB_1, z00, z10, ↓reduceIte]
  by_cases c1 : isT (gd s 1) t
  · rw [if_pos c1, if_pos c1]
    refine Ans.rows c (fun s' cc _ r => ?_)
    simp only [q_108 r, Option.bind_some, jn, cst, bP_if, rB_0, rB_1, z00, z10, ↓reduceIte]
    exact Ans.id
  · rw [if_neg c1, if_neg c1]
    exact Ans.cf c.2.2 isB2
theorem a_32 (c : Cq s) : Ans s (m_32 0 (H s)) (vLeast (gd s 1)) := by
  have h := c.1
  have hn := h.n_le
  unfold m_32 vLeast
  simp only [r_0, r_G g1, Option.bind_some, jn, cst, bP_if, rB_0, rB_1, z00, z10, ↓reduceIte]
  by_cases c1 : tN (gd s 1) = 0
  · rw [if_pos c1, if_pos c1]
    exact Ans.cf c.2.2 isB5
  · rw [if_neg c1, if_neg c1]
    refine Ans.rows c (fun s' cc e r => ?_)
    simp only [r_0, r_G g1, e, q_108 r, Option.bind_some, jn, cst, bP_if, rB_0, rB_1, z00, z10, ↓reduceIte]
    refine ⟨s', ?_, qq.refl s'⟩
    refine (lpB 1 (nn (gd s 1)) (by omega) (by omega) (fun t a => (a, t)) (fun a => a) (lsF (RL (gd s 1))) (fun _ => True) (i3 0) ?_ (fun _ _ _ _ _ => trivial) ?_ trivial).trans rfl
    · intro k m nx ex _ hk _
      simp only [(h.T hk).2, Option.bind_some, jn, cst, bP_if, rB_0, rB_1, z00, z10, ↓reduceIte]
      unfold lsF
      ((repeat' split) <;> (first | rfl | (exfalso; simp_all only [isT, isCl, isW, st3, btw, kOf, not_true_eq_false, not_false_eq_true, and_true, true_and, and_self, and_false, false_and, or_true, true_or, or_false, false_or, not_and]; done) | grind))
    · intro k a nx ex hk hk2 _
      simp only [h.Te hk hk2, Option.bind_some, jn, cst, bP_if, rB_0, rB_1, z00, z10, ↓reduceIte]
theorem a_33 (c : Cq s) (w : Int32) : Ans s (m_33 0 w (H s)) (vBest (gd s 1) w) := by
  unfold m_33 vBest
  simp only [r_0, Option.bind_some, jn, cst, bP_if, rB_0, rB_1, z00, z10, ↓reduceIte]
  by_cases c1 : w < 0
  · rw [if_pos c1, if_pos c1]
    exact Ans.cf c.2.2 isB2
  rw [if_neg c1, if_neg c1]
  by_cases c2 : w ≤ i3 2
  · rw [if_pos c2, if_pos c2]
    refine Ans.rows c (fun s' cc e r => ?_)
    obtain ⟨_, e2, s2, rfl, q2, p2, -⟩ := q_117 cc.1 cc.2.1 r
    simp only [Option.bind_some, jn, cst, bP_if, rB_0, rB_1, z00, z10, ↓reduceIte]
    rw [e2]
    simp only [r_0, q_124, Option.bind_some, jn, cst, bP_if, rB_0, rB_1, z00, z10, ↓reduceIte, p2, e]
    exact ⟨s2, rfl, q2.q⟩
  · rw [if_neg c2, if_neg c2]
    exact Ans.cf c.2.2 isB2
theorem q_67 (c : Cq s) (t x : Int32) : m_67 0 t x (H s) = some (nomv (gd s 1) t x) := by
  unfold m_67 nomv
  simp only [r_0, q_81 g1, q_71 g1, q_84 g1 c.1, Option.bind_some, jn, cst, bP_if, rB_0, rB_1, z00, z10, ↓reduceIte]
  by_cases c1 : isT (gd s 1) t
  · simp only [if_pos c1, q_87 g1 c.1 c1, Option.bind_some, jn, cst, bP_if, rB_0, rB_1, z00, z10, ↓reduceIte]
    ((repeat' split) <;> (first | rfl | (exfalso; simp_all only [isT, isCl, isW, st3, btw, kOf, not_true_eq_false, not_false_eq_true, and_true, true_and, and_self, and_false, false_and, or_true, true_or, or_false, false_or, not_and]; done) | grind))
  · simp only [if_neg c1]
theorem nomv_B {g : Gd} {t x : Int32} (h : ¬ nomv g t x = 0) : isB (nomv g t x) := by
  unfold nomv at h ⊢
  by_cases c1 : isT g t
  · rw [if_pos c1] at h ⊢
    by_cases c2 : isCl g x
    · rw [if_pos c2] at h ⊢
      by_cases c3 : kOf (kA g t) (i3 1)
      · rw [if_pos c3]; exact isB5
      · rw [if_neg c3] at h ⊢
        by_cases c4 : tIn g x = i3 (-1)
        · rw [if_pos c4] at h
          exact absurd rfl h
        · rw [if_neg c4]; exact isB5
    · rw [if_neg c2]; exact isB2
  · rw [if_neg c1]; exact isB2
theorem nomv_0 {g : Gd} {t x : Int32} (h : nomv g t x = 0) : isT g t ∧ isCl g x ∧ ¬ kOf (kA g t) (i3 1) ∧ tIn g x = i3 (-1) := by
  unfold nomv at h
  have n5 : ¬ i3 (-5) = 0 := by decide +kernel
  have n2 : ¬ i3 (-2) = 0 := by decide +kernel
  by_cases c1 : isT g t
  · rw [if_pos c1] at h
    by_cases c2 : isCl g x
    · rw [if_pos c2] at h
      by_cases c3 : kOf (kA g t) (i3 1)
      · rw [if_pos c3] at h; exact absurd h n5
      · rw [if_neg c3] at h
        by_cases c4 : tIn g x = i3 (-1)
        · exact ⟨c1, c2, c3, c4⟩
        · rw [if_neg c4] at h; exact absurd h n5
    · rw [if_neg c2] at h; exact absurd h n2
  · rw [if_neg c1] at h; exact absurd h n2
theorem a_34 (c : Cq s) (t x : Int32) : Ans s (m_34 0 t x (H s)) (vMoved (gd s 1) t x) := by
  unfold m_34 vMoved
  simp only [r_0, q_67 c, Option.bind_some, jn, cst, bP_if, rB_0, rB_1, z00, z10, ↓reduceIte]
  by_cases c1 : nomv (gd s 1) t x = 0
  · rw [if_pos c1, if_pos c1]
    obtain ⟨h1, h2, h3, h4⟩ := nomv_0 c1
    refine Ans.rows c (fun s' cc e r => ?_)
    rw [← e] at h1 h2 r ⊢
    simp only [q_119 cc.1 cc.2.1 r h1 h2, Option.bind_some, jn, cst, bP_if, rB_0, rB_1, z00, z10, ↓reduceIte]
    exact ⟨_, rfl, (sc_wst cc.2.1 (wT_len _ _ _)).q⟩
  · rw [if_neg c1, if_neg c1]
    exact Ans.cf c.2.2 (nomv_B c1)
theorem a_35 (c : Cq s) : Ans s (m_35 0 (H s)) (vMay (gd s 1)) := by
  unfold m_35 vMay
  simp only [r_0, Option.bind_some, jn, cst, bP_if, rB_0, rB_1, z00, z10, ↓reduceIte]
  refine Ans.rows c (fun s' cc e r => ?_)
  have h := cc.1
  have hcc := h.cc_le
  simp only [q_114 cc.1 cc.2.1 r, Option.bind_some, jn, cst, bP_if, rB_0, rB_1, z00, z10, ↓reduceIte]
  have eg : gd (sa s' 19 (cr (gd s' 1) (RL (gd s 1)) (Int32.ofInt 2))) 1 = gd s' 1 := gd1_sa (by omega)
  have hl := cr_len (gd s' 1) (RL (gd s 1)) (Int32.ofInt 2)
  have h' : ok (gd (sa s' 19 (cr (gd s' 1) (RL (gd s 1)) (Int32.ofInt 2))) 1) := by rw [eg]; exact h
  have ei : ia (sa s' 19 (cr (gd s' 1) (RL (gd s 1)) (Int32.ofInt 2))) 19 = cr (gd s' 1) (RL (gd s 1)) (Int32.ofInt 2) := rfl
  refine ⟨sa s' 19 (cr (gd s' 1) (RL (gd s 1)) (Int32.ofInt 2)), ?_, (qq.refl s').a (Or.inl (Or.inr (Or.inl rfl))) (by rw [hl, cc.2.1.2.1])⟩
  simp only [r_0, q_70 g1, q_84 g1 h', r_C (Or.inl rfl : isC 18), show (18 : Nat) + 1 = 19 from rfl, eg, ei, Option.bind_some, jn, cst, bP_if, rB_0, rB_1, z00, z10, ↓reduceIte]
  rw [← e]
  refine (lp0 (dn (gd s' 1) * dn (gd s' 1)) (by have := h.cc_le; omega) (fun t (a : Int64) => (a, t)) (fun a => a) (mayF (gd s' 1)) (fun _ => True) (Int64.ofNat 0) ?_ (fun _ _ _ _ => trivial) ?_ trivial).trans rfl
  · intro k m nx ex hk _
    have hr : at32 (cr (gd s' 1) (RL (gd s' 1)) (Int32.ofInt 2)) (i3 (k : Int)) = some (rd (cr (gd s' 1) (RL (gd s' 1)) (Int32.ofInt 2)) (i3 (k : Int))) := at_rd (h.C hk).1 (by rw [cl_i3 (by omega), cr_len]; omega)
    simp only [(h.C hk).2, hr, Option.bind_some, jn, cst, bP_if, rB_0, rB_1, z00, z10, ↓reduceIte]
    unfold mayF
    ((repeat' split) <;> (first | rfl | (exfalso; simp_all only [isT, isCl, isW, st3, btw, kOf, not_true_eq_false, not_false_eq_true, and_true, true_and, and_self, and_false, false_and, or_true, true_or, or_false, false_or, not_and]; done) | grind))
  · intro a nx ex _
    simp only [h.Ce (Nat.le_refl _) (by have := h.cc_le; omega), Option.bind_some, jn, cst, bP_if, rB_0, rB_1, z00, z10, ↓reduceIte]
theorem a_36 (c : Cq s) (m : Int32) : Ans s (m_36 0 m (H s)) (vMost m) := by
  unfold m_36 vMost
  simp only [r_0, Option.bind_some, jn, cst, bP_if, rB_0, rB_1, z00, z10, ↓reduceIte]
  by_cases c1 : m < i3 1
  · rw [if_pos c1, if_pos c1]
    exact Ans.cf c.2.2 isB2
  rw [if_neg c1, if_neg c1]
  by_cases c2 : m ≤ i3 5
  · rw [if_pos c2, if_pos c2]
    by_cases c3 : m = i3 1
    · rw [if_pos c3, if_pos c3]
      exact Ans.id
    · rw [if_neg c3, if_neg c3]
      exact Ans.id
  · rw [if_neg c2, if_neg c2]
    exact Ans.cf c.2.2 isB2
theorem a_37 (c : Cq s) (x : Int32) : Ans s (m_37 0 x (H s)) (vView (gd s 1) x) := by
  unfold m_37 vView
  simp only [r_0, q_71 g1, q_146 g1 c.1, Option.bind_some, jn, cst, bP_if, rB_0, rB_1, z00, z10, ↓reduceIte]
  by_cases c1 : isCl (gd s 1) x
  · rw [if_pos c1, if_pos c1]
    exact Ans.id
  · rw [if_neg c1, if_neg c1]
    exact Ans.cf c.2.2 isB2
theorem a_38 (c : Cq s) : m_38 0 (H s) = some (vOver (gd s 1)) := by
  have h := c.1
  unfold m_38 vOver
  simp only [r_0, q_70 g1, q_84 g1 h, q_147 g1 h, Option.bind_some, jn, cst, bP_if, rB_0, rB_1, z00, z10, ↓reduceIte]
  refine (lp0 (dn (gd s 1) * dn (gd s 1)) (by have := h.cc_le; omega) (fun t (a : Int64) => (a, t)) (fun a => a) (ovF (gd s 1)) (fun _ => True) (Int64.ofNat 0) ?_ (fun _ _ _ _ => trivial) ?_ trivial).trans rfl
  · intro k m nx ex hk _
    simp only [(h.C hk).2, Option.bind_some, jn, cst, bP_if, rB_0, rB_1, z00, z10, ↓reduceIte]
    unfold ovF
    ((repeat' split) <;> (first | rfl | (exfalso; simp_all only [isT, isCl, isW, st3, btw, kOf, not_true_eq_false, not_false_eq_true, and_true, true_and, and_self, and_false, false_and, or_true, true_or, or_false, false_or, not_and]; done) | grind))
  · intro a nx ex _
    simp only [h.Ce (Nat.le_refl _) (by have := h.cc_le; omega), Option.bind_some, jn, cst, bP_if, rB_0, rB_1, z00, z10, ↓reduceIte]
theorem a_39 (c : Cq s) (t x : Int32) : Ans s (m_39 0 t x (H s)) (vBehind (gd s 1) t x) := by
  unfold m_39 vBehind
  simp only [r_0, q_81 g1, q_71 g1, Option.bind_some, jn, cst, bP_if, rB_0, rB_1, z00, z10, ↓reduceIte]
  by_cases c1 : isT (gd s 1) t
  · rw [if_pos c1, if_pos c1]
    by_cases c2 : isCl (gd s 1) x
    · rw [if_pos c2, if_pos c2]
      simp only [r_G g1, c.1.at_c c1, q_143 g1 c.1 c1, Option.bind_some, jn, cst, bP_if, rB_0, rB_1, z00, z10, ↓reduceIte]
      by_cases c3 : cA (gd s 1) t = x
      · rw [if_pos c3, if_pos c3]
        exact Ans.cf c.2.2 isB2
      · rw [if_neg c3, if_neg c3]
        exact Ans.id
    · rw [if_neg c2, if_neg c2]
      exact Ans.cf c.2.2 isB2
  · rw [if_neg c1, if_neg c1]
    exact Ans.cf c.2.2 isB2
theorem a_40 (c : Cq s) (w : Int32) : Ans s (m_40 0 w (H s)) (vPaths (gd s 1) w) := by
  unfold m_40 vPaths
  simp only [r_0, q_132 g1 c.1, Option.bind_some, jn, cst, bP_if, rB_0, rB_1, z00, z10, ↓reduceIte]
  by_cases c1 : w < 0
  · rw [if_pos c1, if_pos c1]
    exact Ans.cf c.2.2 isB2
  rw [if_neg c1, if_neg c1]
  by_cases c2 : w ≤ i3 3
  · rw [if_pos c2, if_pos c2]
    exact Ans.id
  · rw [if_neg c2, if_neg c2]
    exact Ans.cf c.2.2 isB2
theorem a_41 (c : Cq s) (i : Int32) : Ans s (m_41 0 i (H s)) (vWishOf (gd s 1) i) := by
  unfold m_41 vWishOf
  simp only [r_0, q_95 g1, Option.bind_some, jn, cst, bP_if, rB_0, rB_1, z00, z10, ↓reduceIte]
  by_cases c1 : isW (gd s 1) i
  · rw [if_pos c1, if_pos c1]
    simp only [r_G g1, c.1.at_w c1, Option.bind_some, jn, cst, bP_if, rB_0, rB_1, z00, z10, ↓reduceIte]
    exact Ans.id
  · rw [if_neg c1, if_neg c1]
    exact Ans.cf c.2.2 isB2
theorem a_42a (c : Cq s) : Ans s (m_42 0 (i3 (-1)) (H s)) (wm (gd s 1)) := by
  unfold m_42
  rw [(r_0 s).1, Option.bind_some, if_pos rfl, (r_0 s).2.1, Option.bind_some, q_98 g1 c.1]
  exact Ans.id
theorem a_42b (c : Cq s) {i : Int32} (c0 : ¬ i = i3 (-1)) : Ans s (m_42 0 i (H s)) (if isW (gd s 1) i then if inR (gd s 1) (wA (gd s 1) i) then i3 1 else i3 0 else i3 (-2)) := by
  unfold m_42
  rw [(r_0 s).1, Option.bind_some, if_neg c0]
  by_cases c1 : isW (gd s 1) i
  · rw [if_pos c1]
    have ew := c.1.at_w c1
    generalize wA (gd s 1) i = w at ew ⊢
    simp only [r_0, q_95 g1, Option.bind_some, jn, cst, bP_if, rB_0, rB_1, z00, z10, ↓reduceIte, if_pos c1, r_G g1, ew, q_94 g1 c.1]
    by_cases c2 : inR (gd s 1) w
    · rw [if_pos c2, if_pos c2]
      exact Ans.id
    · rw [if_neg c2, if_neg c2]
      exact Ans.id
  · rw [if_neg c1, (r_0 s).2.1, Option.bind_some, q_95 g1, Option.bind_some, bP_if, if_neg c1, cst.1]
    exact Ans.cf c.2.2 isB2
theorem a_42 (c : Cq s) (i : Int32) : Ans s (m_42 0 i (H s)) (vMet (gd s 1) i) := by
  unfold vMet
  by_cases c0 : i = i3 (-1)
  · rw [if_pos c0, c0]
    exact a_42a c
  · rw [if_neg c0]
    exact a_42b c c0
theorem a_43 (c : Cq s) (w : Int32) : Ans s (m_43 0 w (H s)) (vBestFor (gd s 1) w) := by
  unfold m_43 vBestFor
  simp only [r_0, Option.bind_some, jn, cst, bP_if, rB_0, rB_1, z00, z10, ↓reduceIte]
  by_cases c1 : w < 0
  · rw [if_pos c1, if_pos c1]
    exact Ans.cf c.2.2 isB2
  rw [if_neg c1, if_neg c1]
  by_cases c2 : w ≤ i3 2
  · rw [if_pos c2, if_pos c2]
    obtain ⟨_, e2, s2, rfl, q2, p2⟩ := q_118 c.1 c.2.1
    rw [e2]
    simp only [r_0, q_124, Option.bind_some, jn, cst, bP_if, rB_0, rB_1, z00, z10, ↓reduceIte, p2]
    exact ⟨s2, rfl, q2.q⟩
  · rw [if_neg c2, if_neg c2]
    exact Ans.cf c.2.2 isB2
theorem a_44 (c : Cq s) : m_44 0 (H s) = some (owns (gd s 1)) := by
  unfold m_44
  simp only [r_0, q_134 g1 c.1, Option.bind_some, jn, cst, bP_if, rB_0, rB_1, z00, z10, ↓reduceIte]
theorem a_45 (c : Cq s) : Ans s (m_45 0 (H s)) (vMiddle (gd s 1)) := by
  unfold m_45 vMiddle
  simp only [r_0, r_G g1, q_130 g1 c.1, Option.bind_some, jn, cst, bP_if, rB_0, rB_1, z00, z10, ↓reduceIte]
  by_cases c1 : tN (gd s 1) = 0
  · rw [if_pos c1, if_pos c1]
    exact Ans.cf c.2.2 isB5
  · rw [if_neg c1, if_neg c1]
    exact Ans.id
theorem a_46 (c : Cq s) : Ans s (m_46 0 (H s)) (vNearest (gd s 1)) := by
  unfold m_46 vNearest
  simp only [r_0, r_G g1, q_129 g1 c.1, Option.bind_some, jn, cst, bP_if, rB_0, rB_1, z00, z10, ↓reduceIte]
  by_cases c1 : i3 2 ≤ tN (gd s 1)
  · rw [if_pos c1, if_pos c1]
    exact Ans.id
  · rw [if_neg c1, if_neg c1]
    exact Ans.cf c.2.2 isB5
theorem a_47 (c : Cq s) : m_47 0 (H s) = some (gar (gd s 1)) := by
  unfold m_47
  simp only [r_0, q_136 g1 c.1, Option.bind_some, jn, cst, bP_if, rB_0, rB_1, z00, z10, ↓reduceIte]
theorem a_48 (c : Cq s) : m_48 0 (H s) = some (csq (gd s 1) / i3 4) := by
  unfold m_48
  simp only [r_0, q_137 g1 c.1, Option.bind_some, jn, cst, bP_if, rB_0, rB_1, z00, z10, ↓reduceIte]
theorem a_49 (c : Cq s) : m_49 0 (H s) = some (vCorners (gd s 1)) := by
  have h := c.1
  unfold m_49 vCorners
  simp only [r_0, r_G g1, Option.bind_some, jn, cst, bP_if, rB_0, rB_1, z00, z10, ↓reduceIte]
  refine (lp0 (nn (gd s 1)) (by have := h.n_le; omega) (fun t a => (a, t)) (fun a => a) (crnF (gd s 1)) (fun _ => True) (i3 0) ?_ (fun _ _ _ _ => trivial) ?_ trivial).trans rfl
  · intro k m nx ex hk _
    simp only [(h.T hk).2, q_140 g1 h (h.T hk), Option.bind_some, jn, cst, bP_if, rB_0, rB_1, z00, z10, ↓reduceIte]
    unfold crnF bit
    ((repeat' split) <;> (first | rfl | (exfalso; simp_all only [isT, isCl, isW, st3, btw, kOf, not_true_eq_false, not_false_eq_true, and_true, true_and, and_self, and_false, false_and, or_true, true_or, or_false, false_or, not_and]; done) | grind))
  · intro a nx ex _
    simp only [h.Te (Nat.le_refl _) (by have := h.n_le; omega), Option.bind_some, jn, cst, bP_if, rB_0, rB_1, z00, z10, ↓reduceIte]
theorem a_50 (c : Cq s) (x : Int32) : Ans s (m_50 0 x (H s)) (vPointed (gd s 1) x) := by
  unfold m_50 vPointed
  simp only [r_0, q_71 g1, Option.bind_some, jn, cst, bP_if, rB_0, rB_1, z00, z10, ↓reduceIte]
  by_cases c1 : isCl (gd s 1) x
  · rw [if_pos c1, if_pos c1]
    refine Ans.rows c (fun s' cc e r => ?_)
    rw [← e] at r c1 ⊢
    have hb := cc.1.cl c1
    have hb2 := cc.1.cc_le
    have hl := cr_len (gd s' 1) (RL (gd s' 1)) (Int32.ofInt 3)
    have ei : ia (sa s' 19 (cr (gd s' 1) (RL (gd s' 1)) (Int32.ofInt 3))) 19 = cr (gd s' 1) (RL (gd s' 1)) (Int32.ofInt 3) := rfl
    simp only [q_114 cc.1 cc.2.1 r, r_0, r_C (Or.inl rfl : isC 18), show (18 : Nat) + 1 = 19 from rfl, ei, at_rd c1.1 (show _ < (cr (gd s' 1) (RL (gd s' 1)) (Int32.ofInt 3)).length by omega), Option.bind_some, jn, cst, bP_if, rB_0, rB_1, z00, z10, ↓reduceIte]
    exact ⟨_, rfl, (qq.refl s').a (Or.inl (Or.inr (Or.inl rfl))) (by rw [hl, cc.2.1.2.1])⟩
  · rw [if_neg c1, if_neg c1]
    exact Ans.cf c.2.2 isB2
end CQ
end
