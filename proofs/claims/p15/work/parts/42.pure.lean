/-! ===== numbers and conditions ===== -/
theorem cst : (Int8.ofInt (-2)).toInt32 = i3 (-2) ∧ (Int8.ofInt (-3)).toInt32 = i3 (-3) ∧ (Int8.ofInt (-4)).toInt32 = i3 (-4) ∧ (Int8.ofInt (-5)).toInt32 = i3 (-5) ∧ (Int8.ofInt (-6)).toInt32 = i3 (-6) ∧ (Int8.ofInt (-8)).toInt32 = i3 (-8) ∧ (Int8.ofInt (-20)).toInt32 = i3 (-20) ∧ (Int8.ofInt 6).toInt32 = i3 6 ∧ (Int8.ofInt 7).toInt32 = i3 7 ∧ (Int8.ofInt 8).toInt32 = i3 8 ∧ (Int8.ofInt 9).toInt32 = i3 9 ∧ (Int8.ofInt 10).toInt32 = i3 10 ∧ (Int8.ofInt 12).toInt32 = i3 12 ∧ (Int8.ofInt 16).toInt32 = i3 16 ∧ (Int8.ofInt 32).toInt32 = i3 32 ∧ (Int8.ofInt 40).toInt32 = i3 40 ∧ (Int8.ofInt 48).toInt32 = i3 48 ∧ (Int8.ofInt 57).toInt32 = i3 57 ∧ (Int8.ofInt 59).toInt32 = i3 59 ∧ (Int8.ofInt 97).toInt32 = i3 97 ∧ (Int8.ofInt 100).toInt32 = i3 100 ∧ (Int8.ofInt 122).toInt32 = i3 122 ∧ (Int16.ofInt 250).toInt32 = i3 250 ∧ (Int16.ofInt 255).toInt32 = i3 255 ∧ (Int16.ofInt 12345).toInt32 = i3 12345 ∧ (Int16.ofInt 1000).toInt32 = i3 1000 := by decide +kernel
noncomputable def bP (P : Prop) [Decidable P] : Int32 := if P then i3 1 else i3 0
theorem bP_if {α : Type} {P : Prop} {i1 : Decidable P} {i2 : Decidable (bP P = 0)} {x y : α} : @ite α (bP P = 0) i2 x y = @ite α P i1 y x := by
  by_cases h : P
  · have e : ¬ bP P = 0 := by
      unfold bP
      rw [if_pos h]
      decide +kernel
    rw [if_neg e, if_pos h]
  · have e : bP P = 0 := by
      unfold bP
      rw [if_neg h]
      rfl
    rw [if_pos e, if_neg h]
theorem bP_t {P : Prop} [Decidable P] (h : P) : bP P = i3 1 := if_pos h
theorem bP_f {P : Prop} [Decidable P] (h : ¬ P) : bP P = i3 0 := if_neg h
theorem rB_1 : rB (i3 1) = some (i3 1) := rfl
theorem rB_0 : rB (i3 0) = some (i3 0) := rfl
theorem rB_bP {P : Prop} [Decidable P] : rB (bP P) = some (bP P) := by
  unfold bP
  split <;> rfl
theorem i3_cl {x : Int32} (h : ¬ x < 0) : x = i3 ((x.toNatClampNeg : Nat) : Int) := by
  have h1 : ¬ x.toInt < 0 := fun e => h (Int32.lt_iff_toInt_lt.mpr e)
  have h2 : ((x.toNatClampNeg : Nat) : Int) = x.toInt := by
    show ((x.toInt.toNat : Nat) : Int) = x.toInt
    omega
  rw [h2]
  exact (Int32.ofInt_toInt x).symm
theorem cl_i3 {k : Nat} (h : k < 2147483648) : (i3 (k : Int)).toNatClampNeg = k := by
  rw [i3_clamp ⟨by omega, by omega⟩]; rfl
theorem i3n_le {a b : Nat} (ha : a < 2147483648) (hb : b < 2147483648) : i3 (a : Int) ≤ i3 (b : Int) ↔ a ≤ b := by
  rw [i3_le ⟨by omega, by omega⟩ ⟨by omega, by omega⟩]; omega
theorem i3n_lt {a b : Nat} (ha : a < 2147483648) (hb : b < 2147483648) : i3 (a : Int) < i3 (b : Int) ↔ a < b := by
  rw [i3_lt ⟨by omega, by omega⟩ ⟨by omega, by omega⟩]; omega
theorem i3n_inj {a b : Nat} (ha : a < 2147483648) (hb : b < 2147483648) : i3 (a : Int) = i3 (b : Int) ↔ a = b := by
  rw [i3_inj ⟨by omega, by omega⟩ ⟨by omega, by omega⟩]; omega
theorem i3_nat_add (k : Nat) : i3 (k : Int) + Int32.ofInt 1 = i3 ((k + 1 : Nat) : Int) := by rw [i3_add]; rfl
theorem i3_nat_sub {k : Nat} (h : 0 < k) : i3 (k : Int) - Int32.ofInt 1 = i3 ((k - 1 : Nat) : Int) := by
  rw [i3_sub]; congr 1; omega
theorem i3_nat_dec {k : Nat} (h : 0 < k) : i3 (k : Int) + Int32.ofInt (-1) = i3 ((k - 1 : Nat) : Int) := by
  rw [i3_add]; congr 1; omega
theorem i3n_nneg {k : Nat} (h : k < 2147483648) : ¬ i3 (k : Int) < 0 := i3_nn h
/-- an element of a list, by an int -/
noncomputable def rd (a : List Int32) (i : Int32) : Int32 := a.getD i.toNatClampNeg 0
theorem at_rd {a : List Int32} {i : Int32} (h0 : ¬ i < 0) (h1 : i.toNatClampNeg < a.length) : at32 a i = some (rd a i) := by
  unfold at32 rd
  rw [if_pos h0, List.getD_eq_getElem?_getD, List.getElem?_eq_getElem h1]
  rfl
theorem st_wr {a : List Int32} {i x : Int32} (h0 : ¬ i < 0) (h1 : i.toNatClampNeg < a.length) : st32 a i x = some (a.set i.toNatClampNeg x) := by
  unfold st32
  rw [if_pos ⟨h0, h1⟩]
theorem rd_i3 {a : List Int32} {k : Nat} (h : k < 2147483648) : rd a (i3 (k : Int)) = a.getD k 0 := by
  unfold rd
  rw [cl_i3 h]
noncomputable def rdJ (a : List Int64) (i : Int32) : Int64 := a.getD i.toNatClampNeg 0
theorem atJ_rd {a : List Int64} {i : Int32} (h0 : ¬ i < 0) (h1 : i.toNatClampNeg < a.length) : at64 a i = some (rdJ a i) := by
  unfold at64 rdJ
  rw [if_pos h0, List.getD_eq_getElem?_getD, List.getElem?_eq_getElem h1]
  rfl
theorem stJ_wr {a : List Int64} {i : Int32} {x : Int64} (h0 : ¬ i < 0) (h1 : i.toNatClampNeg < a.length) : st64 a i x = some (a.set i.toNatClampNeg x) := by
  unfold st64
  rw [if_pos ⟨h0, h1⟩]
/-- from 0 or more, below b -/
theorem lt_cl {x : Int32} {b : Nat} (hb : b < 2147483648) (h0 : ¬ x < 0) (h1 : ¬ i3 (b : Int) ≤ x) : x.toNatClampNeg < b := by
  rw [Int32.le_iff_toInt_le, i3_toInt ⟨by omega, by omega⟩] at h1
  have h2 : ¬ x.toInt < 0 := fun e => h0 (Int32.lt_iff_toInt_lt.mpr e)
  show x.toInt.toNat < b
  omega
theorem le_cl {x : Int32} {b : Nat} (hb : b < 2147483648) (h0 : ¬ x < 0) (h1 : x ≤ i3 (b : Int)) : x.toNatClampNeg ≤ b := by
  rw [Int32.le_iff_toInt_le, i3_toInt ⟨by omega, by omega⟩] at h1
  have h2 : ¬ x.toInt < 0 := fun e => h0 (Int32.lt_iff_toInt_lt.mpr e)
  show x.toInt.toNat ≤ b
  omega
/-! ===== loops that count up ===== -/
noncomputable def fB {α : Type} (l n : Nat) (f : Nat → α → α) (a : α) : α := itr (fun k => f (l + k)) (n - l) a
theorem lpB {σ X R α : Type} {F : σ → (σ → Option R) → (X → Option R) → Option R} {K : X → Option R} (l n : Nat) (hl : l ≤ 1000) (hn : n ≤ 1000) (en : Int32 → α → σ) (out : α → X) (f : Nat → α → α) (I : α → Prop) (a0 : α)
    (hs : ∀ k a nx ex, l ≤ k → k < n → I a → F (en (i3 (k : Int)) a) nx ex = nx (en (i3 (k : Int) + Int32.ofInt 1) (f k a))) (hI : ∀ k a, l ≤ k → k < n → I a → I (f k a)) (he : ∀ k a nx ex, n ≤ k → k ≤ 1000 → I a → F (en (i3 (k : Int)) a) nx ex = ex (out a)) (h0 : I a0) : lp F 4096 (en (i3 (l : Int)) a0) K = K (out (fB l n f a0)) := by
  have := lp_acc (F := F) (K := K) (n - l) (fun k a => en (i3 ((l + k : Nat) : Int)) a) out (fun k => f (l + k)) (fun _ a => I a) a0
    (fun i a nx ex hi ha => by
      rw [hs (l + i) a nx ex (by omega) (by omega) ha, i3_nat_add]; rfl)
    (fun i a hi ha => hI (l + i) a (by omega) (by omega) ha)
    (fun a nx ex ha => he (l + (n - l)) a nx ex (by omega) (by omega) ha) h0 (fuel := 4096) (by omega)
  exact this
theorem lp0 {σ X R α : Type} {F : σ → (σ → Option R) → (X → Option R) → Option R} {K : X → Option R} (n : Nat) (hn : n ≤ 1000) (en : Int32 → α → σ) (out : α → X) (f : Nat → α → α) (I : α → Prop) (a0 : α)
    (hs : ∀ k a nx ex, k < n → I a → F (en (i3 (k : Int)) a) nx ex = nx (en (i3 (k : Int) + Int32.ofInt 1) (f k a))) (hI : ∀ k a, k < n → I a → I (f k a)) (he : ∀ a nx ex, I a → F (en (i3 (n : Int)) a) nx ex = ex (out a)) (h0 : I a0) : lp F 4096 (en (Int32.ofInt 0) a0) K = K (out (itr f n a0)) := by
  have := lp_acc (F := F) (K := K) n (fun k a => en (i3 (k : Int)) a) out f (fun _ a => I a) a0
    (fun i a nx ex hi ha => by rw [hs i a nx ex hi ha, i3_nat_add]) (fun i a hi ha => hI i a hi ha) (fun a nx ex ha => he a nx ex ha) h0 (fuel := 4096) (by omega)
  exact this
theorem lpS {σ X R : Type} {F : σ → (σ → Option R) → (X → Option R) → Option R} {K : X → Option R} (n : Nat) (hn : n ≤ 1000) (en : Int32 → σ) (x : X) (p : Nat → Bool) (r : Nat → Option R)
    (hs : ∀ k nx ex, k < n → F (en (i3 (k : Int))) nx ex = if p k = true then r k else nx (en (i3 (k : Int) + Int32.ofInt 1))) (he : ∀ nx ex, F (en (i3 (n : Int))) nx ex = ex x) : lp F 4096 (en (Int32.ofInt 0)) K = match fst? p n 0 with | some k => r k | none => K x := by
  have := lp_srch (F := F) (K := K) n (fun k => en (i3 (k : Int))) x p r (fun i nx ex hi => by rw [hs i nx ex hi, i3_nat_add]) he (fuel := 4096) (by omega)
  exact this
/-! ===== gardens ===== -/
noncomputable def kA (g : Gd) (t : Int32) : Int32 := rd (kS g) t
noncomputable def cA (g : Gd) (t : Int32) : Int32 := rd (cS g) t
noncomputable def vA (g : Gd) (t : Int32) : Int32 := rd (vS g) t
noncomputable def wA (g : Gd) (t : Int32) : Int32 := rd (wS g) t
noncomputable def cc (g : Gd) : Int32 := sD g * sD g
abbrev isT (g : Gd) (t : Int32) : Prop := ¬ t < 0 ∧ ¬ tN g ≤ t
abbrev isW (g : Gd) (t : Int32) : Prop := ¬ t < 0 ∧ ¬ wN g ≤ t
abbrev isCl (g : Gd) (c : Int32) : Prop := ¬ c < 0 ∧ ¬ cc g ≤ c
noncomputable def nn (g : Gd) : Nat := (tN g).toNatClampNeg
noncomputable def wn (g : Gd) : Nat := (wN g).toNatClampNeg
noncomputable def dn (g : Gd) : Nat := (sD g).toNatClampNeg
noncomputable def bct (x : Int32) : Int32 := (m_173 x []).getD 0
noncomputable def ntz (x : Int32) : Int32 := (m_172 x []).getD 0
theorem q_173 (x : Int32) (th : tH) : m_173 x th = some (bct x) := rfl
theorem q_172 (x : Int32) (th : tH) : m_172 x th = some (ntz x) := by
  unfold ntz m_172
  simp only [jn]
  repeat' split
  all_goals rfl
noncomputable def all (g : Gd) : Int32 := (i3 1 <<< (tN g &&& 31)) - i3 1
abbrev st3 (g : Gd) (m : Int32) : Prop := (m &&& (all g ^^^ i3 (-1))) = 0 ∧ ¬ bct m < i3 3
noncomputable def ok (g : Gd) : Prop := (i3 3 ≤ sD g ∧ sD g ≤ i3 8) ∧ (¬ tN g < 0 ∧ tN g ≤ i3 12) ∧ (¬ wN g < 0 ∧ wN g ≤ i3 8) ∧ ((kS g).length = 12 ∧ (cS g).length = 12 ∧ (vS g).length = 12 ∧ (wS g).length = 8) ∧ (∀ t, isT g t → ¬ kA g t < 0 ∧ kA g t ≤ i3 5) ∧ (∀ t, isT g t → isCl g (cA g t)) ∧ (∀ t u, isT g t → isT g u → cA g t = cA g u → t = u) ∧ (∀ i, isW g i → st3 g (wA g i))
section OK
variable {g : Gd}
theorem ok.n_le (h : ok g) : nn g ≤ 12 := le_cl (b := 12) (by omega) h.2.1.1 h.2.1.2
theorem ok.n_eq (h : ok g) : tN g = i3 (nn g : Int) := i3_cl h.2.1.1
theorem ok.w_le (h : ok g) : wn g ≤ 8 := le_cl (b := 8) (by omega) h.2.2.1.1 h.2.2.1.2
theorem ok.w_eq (h : ok g) : wN g = i3 (wn g : Int) := i3_cl h.2.2.1.1
theorem ok.d_nn (h : ok g) : ¬ sD g < 0 := by
  have h1 := h.1.1
  rw [Int32.le_iff_toInt_le] at h1
  have e : (i3 3).toInt = 3 := by decide +kernel
  rw [e] at h1
  intro h2
  rw [Int32.lt_iff_toInt_lt] at h2
  have e2 : (0 : Int32).toInt = 0 := by decide +kernel
  omega
theorem ok.d_eq (h : ok g) : sD g = i3 (dn g : Int) := i3_cl h.d_nn
theorem ok.d_le (h : ok g) : dn g ≤ 8 := le_cl (b := 8) (by omega) h.d_nn h.1.2
theorem ok.d_ge (h : ok g) : 3 ≤ dn g := by
  have h1 := h.1.1
  rw [h.d_eq] at h1
  have := h.d_le
  exact (i3n_le (a := 3) (by omega) (by omega)).mp h1
theorem ok.d_1 (h : ok g) : i3 1 ≤ sD g := by
  have := h.d_le
  have := h.d_ge
  rw [h.d_eq]
  exact (i3n_le (a := 1) (by omega) (by omega)).mpr (by omega)
theorem ok.d_0 (h : ok g) : ¬ sD g = 0 := by
  have := h.d_le
  have := h.d_ge
  rw [h.d_eq]
  exact fun e => by
    have := (i3n_inj (b := 0) (by omega) (by omega)).mp e
    omega
theorem ok.cc_eq (h : ok g) : cc g = i3 ((dn g * dn g : Nat) : Int) := by
  unfold cc
  rw [h.d_eq, i3_mul]; rfl
theorem ok.cc_le (h : ok g) : dn g * dn g ≤ 64 := Nat.mul_le_mul h.d_le h.d_le
theorem ok.T (h : ok g) {k : Nat} (hk : k < nn g) : isT g (i3 (k : Int)) := by
  have := h.n_le
  refine ⟨i3n_nneg (by omega), ?_⟩
  rw [h.n_eq, i3n_le (by omega) (by omega)]
  omega
theorem ok.Te (h : ok g) {k : Nat} (hk : nn g ≤ k) (hk2 : k ≤ 1000) : tN g ≤ i3 (k : Int) := by
  have := h.n_le
  rw [h.n_eq, i3n_le (by omega) (by omega)]
  omega
theorem ok.W (h : ok g) {k : Nat} (hk : k < wn g) : isW g (i3 (k : Int)) := by
  have := h.w_le
  refine ⟨i3n_nneg (by omega), ?_⟩
  rw [h.w_eq, i3n_le (by omega) (by omega)]
  omega
theorem ok.We (h : ok g) {k : Nat} (hk : wn g ≤ k) (hk2 : k ≤ 1000) : wN g ≤ i3 (k : Int) := by
  have := h.w_le
  rw [h.w_eq, i3n_le (by omega) (by omega)]
  omega
theorem ok.C (h : ok g) {k : Nat} (hk : k < dn g * dn g) : isCl g (i3 (k : Int)) := by
  have := h.cc_le
  refine ⟨i3n_nneg (by omega), ?_⟩
  rw [h.cc_eq, i3n_le (by omega) (by omega)]
  omega
theorem ok.Ce (h : ok g) {k : Nat} (hk : dn g * dn g ≤ k) (hk2 : k ≤ 1000) : cc g ≤ i3 (k : Int) := by
  have := h.cc_le
  rw [h.cc_eq, i3n_le (by omega) (by omega)]
  omega
theorem ok.tl (h : ok g) {t : Int32} (ht : isT g t) : t.toNatClampNeg < nn g := lt_cl (by have := h.n_le; omega) ht.1 (by rw [← h.n_eq]; exact ht.2)
theorem ok.wl (h : ok g) {t : Int32} (ht : isW g t) : t.toNatClampNeg < wn g := lt_cl (by have := h.w_le; omega) ht.1 (by rw [← h.w_eq]; exact ht.2)
theorem ok.cl (h : ok g) {c : Int32} (hc : isCl g c) : c.toNatClampNeg < dn g * dn g := lt_cl (by have := h.cc_le; omega) hc.1 (by rw [← h.cc_eq]; exact hc.2)
theorem ok.at_k (h : ok g) {t : Int32} (ht : isT g t) : at32 (kS g) t = some (kA g t) := at_rd ht.1 (by have := h.tl ht; have := h.n_le; rw [h.2.2.2.1.1]; omega)
theorem ok.at_c (h : ok g) {t : Int32} (ht : isT g t) : at32 (cS g) t = some (cA g t) := at_rd ht.1 (by have := h.tl ht; have := h.n_le; rw [h.2.2.2.1.2.1]; omega)
theorem ok.at_v (h : ok g) {t : Int32} (ht : isT g t) : at32 (vS g) t = some (vA g t) := at_rd ht.1 (by have := h.tl ht; have := h.n_le; rw [h.2.2.2.1.2.2.1]; omega)
theorem ok.at_w (h : ok g) {t : Int32} (ht : isW g t) : at32 (wS g) t = some (wA g t) := at_rd ht.1 (by have := h.wl ht; have := h.w_le; rw [h.2.2.2.1.2.2.2]; omega)
end OK
