/-! ===== ints by whole numbers ===== -/
abbrev i3 (x : Int) : Int32 := Int32.ofInt x
/-- small -/
def sm (x : Int) : Prop := -2147483648 ≤ x ∧ x < 2147483648
theorem i3_toInt {x : Int} (h : sm x) : (i3 x).toInt = x := Int32.toInt_ofInt_of_le h.1 h.2
theorem i3_lt {x y : Int} (hx : sm x) (hy : sm y) : i3 x < i3 y ↔ x < y := by rw [Int32.lt_iff_toInt_lt, i3_toInt hx, i3_toInt hy]
theorem i3_le {x y : Int} (hx : sm x) (hy : sm y) : i3 x ≤ i3 y ↔ x ≤ y := by rw [Int32.le_iff_toInt_le, i3_toInt hx, i3_toInt hy]
theorem i3_inj {x y : Int} (hx : sm x) (hy : sm y) : i3 x = i3 y ↔ x = y := by rw [← Int32.toInt_inj, i3_toInt hx, i3_toInt hy]
theorem i3_add (x y : Int) : i3 x + i3 y = i3 (x + y) := (Int32.ofInt_add x y).symm
theorem i3_sub (x y : Int) : i3 x - i3 y = i3 (x - y) := (Int32.ofInt_sub x y).symm
theorem i3_mul (x y : Int) : i3 x * i3 y = i3 (x * y) := (Int32.ofInt_mul x y).symm
theorem i3_neg (x : Int) : -i3 x = i3 (-x) := (Int32.ofInt_neg x).symm
theorem i3_div {x y : Int} (hx : sm x) (hy : sm y) : i3 x / i3 y = i3 (x.tdiv y) := by
  have a1 : Int32.minValue.toInt = -2147483648 := by decide +kernel
  have a2 : Int32.maxValue.toInt = 2147483647 := by decide +kernel
  obtain ⟨h1, h2⟩ := hx
  obtain ⟨h3, h4⟩ := hy
  exact (Int32.ofInt_tdiv (by omega) (by omega) (by omega) (by omega)).symm
theorem i3_all (x : Int32) : ∃ z : Int, sm z ∧ x = i3 z := ⟨x.toInt, ⟨by have := Int32.le_toInt x; omega, by have := Int32.toInt_lt x; omega⟩, (Int32.ofInt_toInt x).symm⟩
theorem i3_nat (n : Nat) : Int32.ofNat n = i3 (n : Int) := by
  apply Int32.toBitVec_inj.mp
  rw [Int32.toBitVec_ofInt]
  rfl
theorem i3_0 : (0 : Int32) = i3 0 := rfl
theorem i3_1 : (1 : Int32) = i3 1 := rfl
theorem i3_clamp {x : Int} (h : sm x) : (i3 x).toNatClampNeg = x.toNat := by
  show (i3 x).toInt.toNat = _
  rw [i3_toInt h]
theorem i3_8 {x : Int} (h : -128 ≤ x ∧ x < 128) : (Int8.ofInt x).toInt32 = i3 x := by
  apply Int32.toInt_inj.mp
  rw [Int8.toInt_toInt32, Int8.toInt_ofInt_of_le (by omega) (by omega), i3_toInt ⟨by omega, by omega⟩]
theorem i3_16 {x : Int} (h : -32768 ≤ x ∧ x < 32768) : (Int16.ofInt x).toInt32 = i3 x := by
  apply Int32.toInt_inj.mp
  rw [Int16.toInt_toInt32, Int16.toInt_ofInt_of_le (by omega) (by omega), i3_toInt ⟨by omega, by omega⟩]
def bI (b : Bool) : Int32 := if b = true then 1 else 0
theorem rB_bI (b : Bool) : rB (bI b) = some (bI b) := by cases b <;> rfl
theorem bI_0 (b : Bool) : bI b = 0 ↔ b = false := by cases b <;> decide
theorem bI_t : bI true = 1 := rfl
theorem bI_f : bI false = 0 := rfl
/-- an element -/
def at32 (a : List Int32) (i : Int32) : Option Int32 := if ¬ i < 0 then a[i.toNatClampNeg]? else none
def at64 (a : List Int64) (i : Int32) : Option Int64 := if ¬ i < 0 then a[i.toNatClampNeg]? else none
def st32 (a : List Int32) (i x : Int32) : Option (List Int32) := if ¬ i < 0 ∧ i.toNatClampNeg < a.length then some (a.set i.toNatClampNeg x) else none
def st64 (a : List Int64) (i : Int32) (x : Int64) : Option (List Int64) := if ¬ i < 0 ∧ i.toNatClampNeg < a.length then some (a.set i.toNatClampNeg x) else none
theorem i3_nn {k : Nat} (h : k < 2147483648) : ¬ i3 (k : Int) < 0 := by
  rw [i3_0, i3_lt ⟨by omega, by omega⟩ ⟨by omega, by omega⟩]; omega
theorem at32_nat {a : List Int32} {k : Nat} (h : k < 2147483648) : at32 a (i3 (k : Int)) = a[k]? := by
  unfold at32
  rw [if_pos (i3_nn h), i3_clamp ⟨by omega, by omega⟩]; rfl
theorem at64_nat {a : List Int64} {k : Nat} (h : k < 2147483648) : at64 a (i3 (k : Int)) = a[k]? := by
  unfold at64
  rw [if_pos (i3_nn h), i3_clamp ⟨by omega, by omega⟩]; rfl
theorem st32_nat {a : List Int32} {k : Nat} {x : Int32} (h : k < a.length) (hl : a.length ≤ 1000) : st32 a (i3 (k : Int)) x = some (a.set k x) := by
  unfold st32
  rw [i3_clamp ⟨by omega, by omega⟩, if_pos ⟨i3_nn (by omega), h⟩]; rfl
theorem st64_nat {a : List Int64} {k : Nat} {x : Int64} (h : k < a.length) (hl : a.length ≤ 1000) : st64 a (i3 (k : Int)) x = some (a.set k x) := by
  unfold st64
  rw [i3_clamp ⟨by omega, by omega⟩, if_pos ⟨i3_nn (by omega), h⟩]; rfl
theorem aI_of {th : tH} {o : Nat} {a : List Int32} {i : Int32} (h : th[o]? = some (.inl (0, .inl a))) : aI th o i = at32 a i := by
  unfold aI at32
  rw [h]
  dsimp only
  by_cases c : i < 0
  · rw [if_neg (fun e => e.2 c), if_neg (fun e => e c)]
  · rw [if_pos ⟨rfl, c⟩, if_pos c]
theorem aJ_of {th : tH} {o : Nat} {a : List Int64} {i : Int32} (h : th[o]? = some (.inl (1, .inr (.inl a)))) : aJ th o i = at64 a i := by
  unfold aJ at64
  rw [h]
  dsimp only
  by_cases c : i < 0
  · rw [if_neg (fun e => e.2 c), if_neg (fun e => e c)]
  · rw [if_pos ⟨rfl, c⟩, if_pos c]
theorem sI_of {th : tH} {o : Nat} {a : List Int32} {i x : Int32} (h : th[o]? = some (.inl (0, .inl a))) : sI th o i x = (st32 a i x).map (fun l => th.set o (.inl (0, .inl l))) := by
  unfold sI st32
  rw [h]
  dsimp only
  by_cases c : ¬ i < 0 ∧ i.toNatClampNeg < a.length
  · rw [if_pos ⟨rfl, c⟩, if_pos c]; rfl
  · rw [if_neg (fun e => c e.2), if_neg c]; rfl
theorem sJ_of {th : tH} {o : Nat} {a : List Int64} {i : Int32} {x : Int64} (h : th[o]? = some (.inl (1, .inr (.inl a)))) : sJ th o i x = (st64 a i x).map (fun l => th.set o (.inl (1, .inr (.inl l)))) := by
  unfold sJ st64
  rw [h]
  dsimp only
  by_cases c : ¬ i < 0 ∧ i.toNatClampNeg < a.length
  · rw [if_pos ⟨rfl, c⟩, if_pos c]; rfl
  · rw [if_neg (fun e => c e.2), if_neg c]; rfl
theorem cpI_of {th : tH} {j k : Nat} {f g : List Int32} {sp dp n : Nat} (hj : th[j]? = some (.inl (0, .inl f))) (hk : th[k]? = some (.inl (0, .inl g))) (h1 : sp + n ≤ f.length) (h2 : dp + n ≤ g.length) (hf : f.length ≤ 1000) (hg : g.length ≤ 1000) : cpI th j (i3 sp) k (i3 dp) (i3 n) = some (th.set k (.inl (0, .inl (t_cpy f g sp dp n)))) := by
  unfold cpI
  rw [if_pos ⟨i3_nn (by omega), i3_nn (by omega), i3_nn (by omega)⟩, hj]
  dsimp only
  rw [hk]
  dsimp only
  rw [i3_clamp ⟨by omega, by omega⟩, i3_clamp ⟨by omega, by omega⟩, i3_clamp ⟨by omega, by omega⟩]
  exact if_pos ⟨rfl, rfl, h1, h2⟩
theorem cpJ_of {th : tH} {j k : Nat} {f g : List Int64} {sp dp n : Nat} (hj : th[j]? = some (.inl (1, .inr (.inl f)))) (hk : th[k]? = some (.inl (1, .inr (.inl g)))) (h1 : sp + n ≤ f.length) (h2 : dp + n ≤ g.length) (hf : f.length ≤ 1000) (hg : g.length ≤ 1000) : cpJ th j (i3 sp) k (i3 dp) (i3 n) = some (th.set k (.inl (1, .inr (.inl (t_cpy f g sp dp n))))) := by
  unfold cpJ
  rw [if_pos ⟨i3_nn (by omega), i3_nn (by omega), i3_nn (by omega)⟩, hj]
  dsimp only
  rw [hk]
  dsimp only
  rw [i3_clamp ⟨by omega, by omega⟩, i3_clamp ⟨by omega, by omega⟩, i3_clamp ⟨by omega, by omega⟩]
  exact if_pos ⟨rfl, rfl, h1, h2⟩
/-! ===== loops ===== -/
theorem lp_s {σ X R : Type} {F : σ → (σ → Option R) → (X → Option R) → Option R} {n : Nat} {s : σ} {K : X → Option R} : lp F (n + 1) s K = F s (fun s' => lp F n s' K) K := rfl
/-- f 0, f 1, .. f (n - 1), one behind another -/
def itr {α : Type} (f : Nat → α → α) : Nat → α → α
  | 0, a => a
  | n + 1, a => f n (itr f n a)
/-- the first of n numbers of which p is so -/
def fst? (p : Nat → Bool) : Nat → Nat → Option Nat
  | 0, _ => none
  | n + 1, k => if p k = true then some k else fst? p n (k + 1)
theorem fst?_some {p : Nat → Bool} : ∀ {n k j : Nat}, fst? p n k = some j → k ≤ j ∧ j < k + n ∧ p j = true ∧ ∀ m, k ≤ m → m < j → p m = false
  | 0, _, _, h => by cases h
  | n + 1, k, j, h => by
    unfold fst? at h
    by_cases c : p k = true
    · rw [if_pos c] at h
      cases h
      exact ⟨Nat.le_refl _, by omega, c, fun m h1 h2 => by omega⟩
    · rw [if_neg c] at h
      obtain ⟨h1, h2, h3, h4⟩ := fst?_some h
      refine ⟨by omega, by omega, h3, fun m h5 h6 => ?_⟩
      by_cases e : m = k
      · subst e; simpa using c
      · exact h4 m (by omega) h6
theorem fst?_none {p : Nat → Bool} : ∀ {n k : Nat}, fst? p n k = none → ∀ m, k ≤ m → m < k + n → p m = false
  | 0, _, _, m, h1, h2 => by omega
  | n + 1, k, h, m, h1, h2 => by
    unfold fst? at h
    by_cases c : p k = true
    · rw [if_pos c] at h; cases h
    · rw [if_neg c] at h
      by_cases e : m = k
      · subst e; simpa using c
      · exact fst?_none h m (by omega) (by omega)
theorem fst?_congr {p q : Nat → Bool} : ∀ {n k : Nat}, (∀ m, k ≤ m → m < k + n → p m = q m) → fst? p n k = fst? q n k
  | 0, _, _ => rfl
  | n + 1, k, h => by
    unfold fst?
    rw [h k (Nat.le_refl _) (by omega), fst?_congr (fun m h1 h2 => h m (by omega) (by omega))]
theorem itr_congr {α : Type} {f g : Nat → α → α} {a : α} : ∀ {n : Nat}, (∀ k b, k < n → f k b = g k b) → itr f n a = itr g n a
  | 0, _ => rfl
  | n + 1, h => by
    show f n (itr f n a) = g n (itr g n a)
    rw [itr_congr (fun k b hk => h k b (by omega)), h n _ (by omega)]
theorem lp_acc {σ X R α : Type} {F : σ → (σ → Option R) → (X → Option R) → Option R} {K : X → Option R} (n : Nat) (en : Nat → α → σ) (out : α → X) (f : Nat → α → α) (I : Nat → α → Prop) (a0 : α)
    (hs : ∀ i a nx ex, i < n → I i a → F (en i a) nx ex = nx (en (i + 1) (f i a))) (hI : ∀ i a, i < n → I i a → I (i + 1) (f i a)) (he : ∀ a nx ex, I n a → F (en n a) nx ex = ex (out a)) (h0 : I 0 a0) {fuel : Nat} (hf : n < fuel) : lp F fuel (en 0 a0) K = K (out (itr f n a0)) := by
  have hi : ∀ k, k ≤ n → I k (itr f k a0) := by
    intro k
    induction k with
    | zero => intro _; exact h0
    | succ k ih => intro hk; exact hI k _ (by omega) (ih (by omega))
  have key : ∀ m fuel, m ≤ n → m < fuel → lp F fuel (en (n - m) (itr f (n - m) a0)) K = K (out (itr f n a0)) := by
    intro m
    induction m with
    | zero =>
      intro fuel _ hf
      obtain ⟨q, rfl⟩ : ∃ q, fuel = q + 1 := ⟨fuel - 1, by omega⟩
      rw [lp_s, Nat.sub_zero, he _ _ _ (hi n (Nat.le_refl _))]
    | succ m ih =>
      intro fuel hm hf
      obtain ⟨q, rfl⟩ : ∃ q, fuel = q + 1 := ⟨fuel - 1, by omega⟩
      rw [lp_s, hs _ _ _ _ (by omega) (hi _ (by omega))]
      have e : n - (m + 1) + 1 = n - m := by omega
      have := ih q (by omega) (by omega)
      rw [← e] at this
      exact this
  have := key n fuel (Nat.le_refl _) hf
  rw [Nat.sub_self] at this
  exact this
theorem lp_srch {σ X R : Type} {F : σ → (σ → Option R) → (X → Option R) → Option R} {K : X → Option R} (n : Nat) (en : Nat → σ) (x : X) (p : Nat → Bool) (r : Nat → Option R)
    (hs : ∀ i nx ex, i < n → F (en i) nx ex = if p i = true then r i else nx (en (i + 1))) (he : ∀ nx ex, F (en n) nx ex = ex x) {fuel : Nat} (hf : n < fuel) : lp F fuel (en 0) K = match fst? p n 0 with | some k => r k | none => K x := by
  have key : ∀ m fuel, m ≤ n → m < fuel → lp F fuel (en (n - m)) K = match fst? p m (n - m) with | some k => r k | none => K x := by
    intro m
    induction m with
    | zero =>
      intro fuel _ hf
      obtain ⟨q, rfl⟩ : ∃ q, fuel = q + 1 := ⟨fuel - 1, by omega⟩
      rw [lp_s, Nat.sub_zero, he]
      rfl
    | succ m ih =>
      intro fuel hm hf
      obtain ⟨q, rfl⟩ : ∃ q, fuel = q + 1 := ⟨fuel - 1, by omega⟩
      rw [lp_s, hs _ _ _ (by omega)]
      unfold fst?
      by_cases c : p (n - (m + 1)) = true
      · rw [if_pos c, if_pos c]
      · rw [if_neg c, if_neg c]
        have e : n - (m + 1) + 1 = n - m := by omega
        rw [e]
        exact ih q (by omega) (by omega)
  have := key n fuel (Nat.le_refl _) hf
  rw [Nat.sub_self] at this
  exact this
