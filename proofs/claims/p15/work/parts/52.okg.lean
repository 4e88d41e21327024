/-! ===== gardens stay gardens ===== -/
theorem i32_and_or (a b c : Int32) : a &&& (b ||| c) = (a &&& b) ||| (a &&& c) := by
  apply Int32.toBitVec_inj.mp
  rw [Int32.toBitVec_and, Int32.toBitVec_or, Int32.toBitVec_or, Int32.toBitVec_and, Int32.toBitVec_and]
  ext i
  simp [Bool.and_or_distrib_left]
theorem d1_lt {d x : Nat} (h : 0 < d) : d - 1 - x < d := by omega
theorem d1_sub {d x : Nat} (h : x < d) : ((d : Int) - 1 - (x : Int)) = ((d - 1 - x : Nat) : Int) := by omega
theorem d1_inj {d x y : Nat} (hx : x < d) (hy : y < d) (e : d - 1 - x = d - 1 - y) : x = y := by omega
theorem tIn_none {g : Gd} (h : ok g) {c : Int32} : tIn g c = i3 (-1) ↔ ∀ t, isT g t → ¬ cA g t = c := by
  have hn := h.n_le
  unfold tIn
  cases hf : fst? (fun k => decide (cA g (i3 (k : Int)) = c)) (nn g) 0 with
  | none =>
    refine ⟨fun _ t ht e => ?_, fun _ => rfl⟩
    have h1 := fst?_none hf t.toNatClampNeg (Nat.zero_le _) (by have := h.tl ht; omega)
    rw [← i3_cl ht.1] at h1
    exact absurd e (by simpa using h1)
  | some k =>
    obtain ⟨h1, h2, h3, h4⟩ := fst?_some hf
    refine ⟨fun e => ?_, fun e => absurd (of_decide_eq_true h3) (e _ (h.T (by omega)))⟩
    have e' : i3 (k : Int) = i3 (-1) := e
    rw [i3_inj ⟨by omega, by omega⟩ ⟨by omega, by omega⟩] at e'
    omega
theorem tIn_some {g : Gd} (h : ok g) {t : Int32} (ht : isT g t) : tIn g (cA g t) = t := by
  have hn := h.n_le
  unfold tIn
  cases hf : fst? (fun k => decide (cA g (i3 (k : Int)) = cA g t)) (nn g) 0 with
  | none =>
    have h1 := fst?_none hf t.toNatClampNeg (Nat.zero_le _) (by have := h.tl ht; omega)
    rw [← i3_cl ht.1] at h1
    simp at h1
  | some k =>
    obtain ⟨h1, h2, h3, h4⟩ := fst?_some hf
    exact h.2.2.2.2.2.2.1 _ _ (h.T (by omega)) ht (of_decide_eq_true h3)
theorem rd_set {l : List Int32} {i j x : Int32} (hi : ¬ i < 0) (hj : ¬ j < 0) (hl : i.toNatClampNeg < l.length) : rd (l.set i.toNatClampNeg x) j = if j = i then x else rd l j := by
  unfold rd
  rw [List.getD_eq_getElem?_getD, List.getElem?_set]
  by_cases e : j = i
  · subst e
    simp [hl]
  · have e2 : ¬ i.toNatClampNeg = j.toNatClampNeg := fun e2 => e (by rw [i3_cl hi, i3_cl hj, e2])
    rw [if_neg e2, if_neg e, List.getD_eq_getElem?_getD]
theorem ok_uE {g : Gd} (h : ok g) (x : Int32) : ok (uE g x) := h
theorem ok_uW0 {g : Gd} (h : ok g) : ok (uW g (i3 0)) := ⟨h.1, h.2.1, ⟨by show ¬ i3 0 < 0; decide +kernel, by show i3 0 ≤ i3 8; decide +kernel⟩, h.2.2.2.1, h.2.2.2.2.1, h.2.2.2.2.2.1, h.2.2.2.2.2.2.1, fun i hi => absurd (show i3 0 ≤ i by
  have := hi.1
  rw [Int32.lt_iff_toInt_lt] at this
  rw [Int32.le_iff_toInt_le]
  have e : (0 : Int32).toInt = 0 := by decide +kernel
  have e2 : (i3 0).toInt = 0 := by decide +kernel
  omega) hi.2⟩
theorem ok_uD {g : Gd} (h : ok g) (h0 : tN g ≤ 0) {x : Int32} (h1 : i3 3 ≤ x) (h2 : x ≤ i3 8) : ok (uD g x) := by
  have no : ∀ t, ¬ isT g t := fun t ht => by
    have a := ht.1
    have b := ht.2
    rw [Int32.lt_iff_toInt_lt] at a
    rw [Int32.le_iff_toInt_le] at b h0
    have e : (0 : Int32).toInt = 0 := by decide +kernel
    omega
  exact ⟨⟨h1, h2⟩, h.2.1, h.2.2.1, h.2.2.2.1, fun t ht => absurd ht (no t), fun t ht => absurd ht (no t), fun t u ht => absurd ht (no t), h.2.2.2.2.2.2.2⟩
/-- a tree in another cell -/
noncomputable def mvT (g : Gd) (t c : Int32) : Gd := uC g ((cS g).set t.toNatClampNeg c)
theorem cA_mvT {g : Gd} (h : ok g) {t : Int32} (ht : isT g t) (c : Int32) {u : Int32} (hu : isT g u) : cA (mvT g t c) u = if u = t then c else cA g u := by
  have h1 := h.tl ht
  have h2 := h.n_le
  exact rd_set ht.1 hu.1 (by rw [h.2.2.2.1.2.1]; omega)
theorem ok_mvT {g : Gd} (h : ok g) {t c : Int32} (ht : isT g t) (hc : isCl g c) (hf : tIn g c = i3 (-1)) : ok (mvT g t c) := by
  have hF := (tIn_none h).mp hf
  refine ⟨h.1, h.2.1, h.2.2.1, ⟨h.2.2.2.1.1, (List.length_set).trans h.2.2.2.1.2.1, h.2.2.2.1.2.2⟩, h.2.2.2.2.1, fun u hu => ?_, fun u v hu hv e => ?_, h.2.2.2.2.2.2.2⟩
  · rw [cA_mvT h ht c hu]
    split
    · exact hc
    · exact h.2.2.2.2.2.1 u hu
  · rw [cA_mvT h ht c hu, cA_mvT h ht c hv] at e
    by_cases e1 : u = t <;> by_cases e2 : v = t
    · rw [e1, e2]
    · rw [if_pos e1, if_neg e2] at e
      exact absurd e.symm (hF v hv)
    · rw [if_neg e1, if_pos e2] at e
      exact absurd e (hF u hu)
    · rw [if_neg e1, if_neg e2] at e
      exact h.2.2.2.2.2.2.1 u v hu hv e
/-- one more tree -/
noncomputable def addT (g : Gd) (k c a : Int32) : Gd := (sD g, tN g + i3 1, wN g, sE g, (kS g).set (nn g) k, (cS g).set (nn g) c, (vS g).set (nn g) a, wS g)
/-- all trees, as bits -/
theorem all_eq {g : Gd} (h : ok g) : all g = i3 ((2 ^ nn g - 1 : Nat) : Int) := by
  have hn := h.n_le
  unfold all
  rw [h.n_eq]
  have : ∀ n : Nat, n < 13 → (i3 1 <<< (i3 (n : Int) &&& 31)) - i3 1 = i3 ((2 ^ n - 1 : Nat) : Int) := by decide +kernel
  exact this _ (by omega)
theorem st3_up {a b m : Int32} (hab : b ^^^ i3 (-1) = (a ^^^ i3 (-1)) &&& (b ^^^ i3 (-1))) (h : m &&& (a ^^^ i3 (-1)) = 0) : m &&& (b ^^^ i3 (-1)) = 0 := by
  rw [hab, ← Int32.and_assoc, h]
  exact Int32.zero_and
theorem ok_addT {g : Gd} (h : ok g) (hn : ¬ i3 12 ≤ tN g) {k c a : Int32} (hk : ¬ k < 0 ∧ k ≤ i3 5) (hc : isCl g c) (hf : tIn g c = i3 (-1)) : ok (addT g k c a) := by
  have hF := (tIn_none h).mp hf
  have n1 := h.n_le
  have n2 : nn g < 12 := by
    rw [h.n_eq, show i3 12 = i3 ((12 : Nat) : Int) from rfl, i3n_le (by omega) (by omega)] at hn
    omega
  have e1 : tN g + i3 1 = i3 ((nn g + 1 : Nat) : Int) := by rw [h.n_eq]; exact i3_nat_add _
  have tT : tN (addT g k c a) = i3 ((nn g + 1 : Nat) : Int) := e1
  have hT : ∀ t, isT (addT g k c a) t → t = i3 (nn g : Int) ∨ isT g t := fun t ht => by
    have b := ht.2
    rw [tT] at b
    have b1 := lt_cl (by omega) ht.1 b
    have b2 := i3_cl ht.1
    by_cases e : t.toNatClampNeg = nn g
    · left; rw [b2, e]
    · right
      rw [b2]
      exact h.T (by omega)
  have hN : ∀ t, isT g t → ¬ t = i3 (nn g : Int) := fun t ht e => by
    have b := h.tl ht
    rw [e, cl_i3 (by omega)] at b
    omega
  have cn : (i3 (nn g : Int)).toNatClampNeg = nn g := cl_i3 (by omega)
  have nnn : ¬ i3 (nn g : Int) < 0 := i3n_nneg (by omega)
  have R : ∀ (l : List Int32) (x t : Int32), l.length = 12 → ¬ t < 0 → rd (l.set (nn g) x) t = if t = i3 (nn g : Int) then x else rd l t := fun l x t hl ht => by
    have := rd_set (l := l) (x := x) nnn ht (by rw [cn]; omega)
    rw [cn] at this
    exact this
  refine ⟨h.1, ⟨?_, ?_⟩, h.2.2.1, ⟨(List.length_set).trans h.2.2.2.1.1, (List.length_set).trans h.2.2.2.1.2.1, (List.length_set).trans h.2.2.2.1.2.2.1, h.2.2.2.1.2.2.2⟩, fun t ht => ?_, fun t ht => ?_, fun t u ht hu e => ?_, fun i hi => ?_⟩
  · rw [tT]; exact i3n_nneg (by omega)
  · rw [tT, show i3 12 = i3 ((12 : Nat) : Int) from rfl, i3n_le (by omega) (by omega)]; omega
  · have er : kA (addT g k c a) t = _ := R (kS g) k t h.2.2.2.1.1 ht.1
    rw [er]
    rcases hT t ht with e | e
    · rw [if_pos e]; exact hk
    · rw [if_neg (hN t e)]; exact h.2.2.2.2.1 t e
  · have er : cA (addT g k c a) t = _ := R (cS g) c t h.2.2.2.1.2.1 ht.1
    rw [er]
    rcases hT t ht with e | e
    · rw [if_pos e]; exact hc
    · rw [if_neg (hN t e)]; exact h.2.2.2.2.2.1 t e
  · have e1 : cA (addT g k c a) t = _ := R (cS g) c t h.2.2.2.1.2.1 ht.1
    have e2 : cA (addT g k c a) u = _ := R (cS g) c u h.2.2.2.1.2.1 hu.1
    rw [e1, e2] at e
    rcases hT t ht with f1 | f1 <;> rcases hT u hu with f2 | f2
    · rw [f1, f2]
    · rw [if_pos f1, if_neg (hN u f2)] at e
      exact absurd e.symm (hF u f2)
    · rw [if_neg (hN t f1), if_pos f2] at e
      exact absurd e (hF t f1)
    · rw [if_neg (hN t f1), if_neg (hN u f2)] at e
      exact h.2.2.2.2.2.2.1 t u f1 f2 e
  · have w := h.2.2.2.2.2.2.2 i hi
    refine ⟨?_, w.2⟩
    refine st3_up ?_ w.1
    show (i3 1 <<< ((tN g + i3 1) &&& 31)) - i3 1 ^^^ i3 (-1) = (all g ^^^ i3 (-1)) &&& ((i3 1 <<< ((tN g + i3 1) &&& 31)) - i3 1 ^^^ i3 (-1))
    rw [e1, all_eq h]
    have : ∀ n : Nat, n < 12 → (i3 1 <<< (i3 ((n + 1 : Nat) : Int) &&& 31)) - i3 1 ^^^ i3 (-1) = (i3 ((2 ^ n - 1 : Nat) : Int) ^^^ i3 (-1)) &&& ((i3 1 <<< (i3 ((n + 1 : Nat) : Int) &&& 31)) - i3 1 ^^^ i3 (-1)) := by decide +kernel
    exact this _ n2
/-- one more wish -/
noncomputable def addW (g : Gd) (m : Int32) : Gd := uS (uW g (wN g + i3 1)) ((wS g).set (wn g) m)
theorem ok_addW {g : Gd} (h : ok g) (hw : ¬ i3 8 ≤ wN g) {m : Int32} (hm : st3 g m) : ok (addW g m) := by
  have n1 := h.w_le
  have n2 : wn g < 8 := by
    rw [h.w_eq, show i3 8 = i3 ((8 : Nat) : Int) from rfl, i3n_le (by omega) (by omega)] at hw
    omega
  have e1 : wN g + i3 1 = i3 ((wn g + 1 : Nat) : Int) := by rw [h.w_eq]; exact i3_nat_add _
  have tT : wN (addW g m) = i3 ((wn g + 1 : Nat) : Int) := e1
  have cn : (i3 (wn g : Int)).toNatClampNeg = wn g := cl_i3 (by omega)
  have nnn : ¬ i3 (wn g : Int) < 0 := i3n_nneg (by omega)
  refine ⟨h.1, h.2.1, ⟨?_, ?_⟩, ⟨h.2.2.2.1.1, h.2.2.2.1.2.1, h.2.2.2.1.2.2.1, (List.length_set).trans h.2.2.2.1.2.2.2⟩, h.2.2.2.2.1, h.2.2.2.2.2.1, h.2.2.2.2.2.2.1, fun i hi => ?_⟩
  · rw [tT]; exact i3n_nneg (by omega)
  · rw [tT, show i3 8 = i3 ((8 : Nat) : Int) from rfl, i3n_le (by omega) (by omega)]; omega
  · have er : wA (addW g m) i = if i = i3 (wn g : Int) then m else rd (wS g) i := by
      have := rd_set (l := wS g) (x := m) nnn hi.1 (by rw [cn, h.2.2.2.1.2.2.2]; omega)
      rw [cn] at this
      exact this
    rw [er]
    by_cases e : i = i3 (wn g : Int)
    · rw [if_pos e]; exact hm
    · rw [if_neg e]
      refine h.2.2.2.2.2.2.2 i ?_
      have b := hi.2
      rw [tT] at b
      have b1 := lt_cl (by omega) hi.1 b
      have b2 := i3_cl hi.1
      have : ¬ i.toNatClampNeg = wn g := fun e' => e (by rw [b2, e'])
      rw [b2]
      exact h.W (by omega)
/-- counting that comes to nothing -/
theorem itr_zero_cnt {p : Nat → Prop} {hd : ∀ k, Decidable (p k)} : ∀ (n : Nat), n ≤ 1000 → ∃ m, m ≤ n ∧ itr (fun k (a : Int32) => if p k then a else a + i3 1) n (i3 0) = i3 (m : Int) ∧ (m = 0 → ∀ k, k < n → p k)
  | 0, _ => ⟨0, Nat.le_refl _, rfl, fun _ k hk => absurd hk (Nat.not_lt_zero _)⟩
  | n + 1, hn => by
    obtain ⟨m, h1, h2, h3⟩ := itr_zero_cnt (p := p) (hd := hd) n (by omega)
    by_cases c : p n
    · refine ⟨m, by omega, ?_, fun e k hk => ?_⟩
      · show (if p n then _ else _) = _
        rw [if_pos c, h2]
      · by_cases ek : k = n
        · rw [ek]; exact c
        · exact h3 e k (by omega)
    · refine ⟨m + 1, by omega, ?_, fun e => by omega⟩
      show (if p n then _ else _) = _
      rw [if_neg c, h2]
      exact i3_nat_add m
theorem ww_zero {g : Gd} (h : ok g) {t : Int32} (hz : ww g t = 0) {i : Int32} (hi : isW g i) : wA g i &&& bit t = 0 := by
  have hw := h.w_le
  obtain ⟨m, h1, h2, h3⟩ := itr_zero_cnt (p := fun k => (wA g (i3 (k : Int)) &&& bit t) = 0) (hd := fun _ => inferInstance) (wn g) (by omega)
  have e : ww g t = i3 (m : Int) := h2
  rw [e] at hz
  have hm : m = 0 := (i3n_inj (b := 0) (by omega) (by omega)).mp hz
  have := h3 hm i.toNatClampNeg (h.wl hi)
  rw [← i3_cl hi.1] at this
  exact this
theorem ok_fell {g : Gd} (h : ok g) (hf : fel g) : ok (uT g (tN g - i3 1)) := by
  have hn := h.n_le
  have n0 : 0 < nn g := by
    have := hf.1
    rw [h.n_eq, show (0 : Int32) = i3 ((0 : Nat) : Int) from rfl, i3n_le (by omega) (by omega)] at this
    omega
  have e1 : tN g - i3 1 = i3 ((nn g - 1 : Nat) : Int) := by rw [h.n_eq]; exact i3_nat_sub n0
  have tT : tN (uT g (tN g - i3 1)) = i3 ((nn g - 1 : Nat) : Int) := e1
  have hT : ∀ t, isT (uT g (tN g - i3 1)) t → isT g t := fun t ht => by
    have b := ht.2
    rw [tT] at b
    have b1 := lt_cl (by omega) ht.1 b
    rw [i3_cl ht.1]
    exact h.T (by omega)
  refine ⟨h.1, ⟨?_, ?_⟩, h.2.2.1, h.2.2.2.1, fun t ht => h.2.2.2.2.1 t (hT t ht), fun t ht => h.2.2.2.2.2.1 t (hT t ht), fun t u ht hu => h.2.2.2.2.2.2.1 t u (hT t ht) (hT u hu), fun i hi => ?_⟩
  · rw [tT]; exact i3n_nneg (by omega)
  · rw [tT, show i3 12 = i3 ((12 : Nat) : Int) from rfl, i3n_le (by omega) (by omega)]; omega
  · have w := h.2.2.2.2.2.2.2 i hi
    have z := ww_zero h hf.2 hi
    refine ⟨?_, w.2⟩
    show wA g i &&& ((i3 1 <<< ((tN g - i3 1) &&& 31)) - i3 1 ^^^ i3 (-1)) = 0
    rw [e1] at z ⊢
    have w1 := w.1
    rw [all_eq h] at w1
    have key : ∀ n : Nat, n < 13 → 0 < n → (i3 1 <<< (i3 ((n - 1 : Nat) : Int) &&& 31)) - i3 1 ^^^ i3 (-1) = (i3 ((2 ^ n - 1 : Nat) : Int) ^^^ i3 (-1)) ||| (i3 1 <<< (i3 ((n - 1 : Nat) : Int) &&& 31)) := by decide +kernel
    rw [key _ (by omega) n0, i32_and_or, w1]
    show 0 ||| (wA g i &&& bit (i3 ((nn g - 1 : Nat) : Int))) = 0
    rw [z]
    rfl
/-! ===== rows and columns as whole numbers ===== -/
theorem i3_divN {a d : Nat} (ha : a < 1000) (hd : 0 < d ∧ d < 1000) : i3 (a : Int) / i3 (d : Int) = i3 ((a / d : Nat) : Int) := by
  rw [i3_div ⟨by omega, by omega⟩ ⟨by omega, by omega⟩]
  rfl
theorem i3_modN {a d : Nat} (ha : a < 1000) (hd : 0 < d ∧ d < 1000) : i3 (a : Int) - i3 (a : Int) / i3 (d : Int) * i3 (d : Int) = i3 ((a % d : Nat) : Int) := by
  rw [i3_divN ha hd, i3_mul, i3_sub]
  congr 1
  have := Nat.div_add_mod a d
  have e : (a : Int) = ((d * (a / d) + a % d : Nat) : Int) := by rw [this]
  rw [e, Int.natCast_add, Int.natCast_mul, Int.mul_comm]
  omega
section RC
variable {g : Gd}
theorem ok.ro (h : ok g) {k : Nat} (hk : k < 1000) : rO g (i3 (k : Int)) = i3 ((k / dn g : Nat) : Int) := by
  have h1 := h.d_le
  have h2 := h.d_ge
  show i3 (k : Int) / sD g = _
  rw [h.d_eq, i3_divN hk (by omega)]
theorem ok.co (h : ok g) {k : Nat} (hk : k < 1000) : cO g (i3 (k : Int)) = i3 ((k % dn g : Nat) : Int) := by
  have h1 := h.d_le
  have h2 := h.d_ge
  show i3 (k : Int) - i3 (k : Int) / sD g * sD g = _
  rw [h.d_eq, i3_modN hk (by omega)]
theorem ok.cell (h : ok g) {r c : Nat} (hr : r < dn g) (hc : c < dn g) : cellO g (i3 (r : Int)) (i3 (c : Int)) = i3 ((r * dn g + c : Nat) : Int) := by
  have h1 := h.d_le
  unfold cellO
  rw [h.d_eq, if_neg (i3n_nneg (by omega)), if_neg (by rw [i3n_le (by omega) (by omega)]; omega), if_neg (i3n_nneg (by omega)), if_neg (by rw [i3n_le (by omega) (by omega)]; omega), i3_mul, i3_add]
  rfl
theorem cell_rc {d k : Nat} (hk : k < d * d) : k / d < d ∧ k % d < d := ⟨Nat.div_lt_of_lt_mul hk, Nat.mod_lt _ (Nat.pos_of_ne_zero (fun e => by rw [e] at hk; omega))⟩
theorem ok_trn (h : ok g) {k : Nat} (hk : k < dn g * dn g) : trn g (i3 (k : Int)) = i3 (((k % dn g) * dn g + (dn g - 1 - k / dn g) : Nat) : Int) := by
  have h1 := h.d_le
  have h2 := h.d_ge
  have h3 := h.cc_le
  have h4 := cell_rc hk
  unfold trn
  rw [h.ro (by omega), h.co (by omega)]
  have e : sD g - i3 1 - i3 ((k / dn g : Nat) : Int) = i3 ((dn g - 1 - k / dn g : Nat) : Int) := by
    rw [h.d_eq, i3_sub, i3_sub, d1_sub h4.1]
  rw [e, h.cell h4.2 (d1_lt (by omega))]
theorem ok_mir (h : ok g) {k : Nat} (hk : k < dn g * dn g) : mir g (i3 (k : Int)) = i3 (((k / dn g) * dn g + (dn g - 1 - k % dn g) : Nat) : Int) := by
  have h1 := h.d_le
  have h2 := h.d_ge
  have h3 := h.cc_le
  have h4 := cell_rc hk
  unfold mir
  rw [h.ro (by omega), h.co (by omega)]
  have e : sD g - i3 1 - i3 ((k % dn g : Nat) : Int) = i3 ((dn g - 1 - k % dn g : Nat) : Int) := by
    rw [h.d_eq, i3_sub, i3_sub, d1_sub h4.2]
  rw [e, h.cell h4.1 (d1_lt (by omega))]
theorem rc_lt {d r c : Nat} (hr : r < d) (hc : c < d) : r * d + c < d * d := by
  have : (r + 1) * d ≤ d * d := Nat.mul_le_mul_right _ hr
  rw [Nat.add_mul] at this
  omega
theorem rc_div {d r c : Nat} (hc : c < d) : (r * d + c) / d = r := by
  rw [Nat.mul_comm, Nat.mul_add_div (by omega), Nat.div_eq_of_lt hc, Nat.add_zero]
theorem rc_mod {d r c : Nat} (hc : c < d) : (r * d + c) % d = c := by
  rw [Nat.mul_comm, Nat.mul_add_mod, Nat.mod_eq_of_lt hc]
theorem rc_inj {d a b : Nat} (h1 : a / d = b / d) (h2 : a % d = b % d) : a = b := by
  rw [← Nat.div_add_mod a d, ← Nat.div_add_mod b d, h1, h2]
/-- all cells changed one way -/
noncomputable def mpF (f : Int32 → Int32) (k : Nat) (l : List Int32) : List Int32 := l.set k (f (l.getD k 0))
noncomputable def mpC (g : Gd) (f : Int32 → Int32) : Gd := uC g (itr (mpF f) (nn g) (cS g))
theorem mpF_get {f : Int32 → Int32} : ∀ (n : Nat) (l : List Int32), n ≤ l.length → (itr (mpF f) n l).length = l.length ∧ ∀ j, (itr (mpF f) n l).getD j 0 = if j < n then f (l.getD j 0) else l.getD j 0
  | 0, l, _ => ⟨rfl, fun j => by rw [if_neg (Nat.not_lt_zero _)]; rfl⟩
  | n + 1, l, hn => by
    obtain ⟨h1, h2⟩ := mpF_get (f := f) n l (by omega)
    refine ⟨(List.length_set).trans h1, fun j => ?_⟩
    show ((itr (mpF f) n l).set n (f ((itr (mpF f) n l).getD n 0))).getD j 0 = _
    rw [List.getD_eq_getElem?_getD, List.getElem?_set]
    by_cases e : n = j
    · subst e
      rw [if_pos rfl, if_pos (by omega), if_pos (by omega), h2 n, if_neg (by omega)]
      rfl
    · rw [if_neg e, ← List.getD_eq_getElem?_getD, h2 j]
      by_cases c : j < n
      · rw [if_pos c, if_pos (by omega)]
      · rw [if_neg c, if_neg (by omega)]
theorem cA_mpC {f : Int32 → Int32} (h : ok g) {t : Int32} (ht : isT g t) : cA (mpC g f) t = f (cA g t) := by
  have h1 := h.tl ht
  have h2 := (mpF_get (f := f) (nn g) (cS g) (by rw [h.2.2.2.1.2.1]; exact h.n_le)).2 t.toNatClampNeg
  rw [if_pos h1] at h2
  exact h2
theorem ok_mpC {f : Int32 → Int32} (h : ok g) (hf : ∀ c, isCl g c → isCl g (f c)) (hi : ∀ c d, isCl g c → isCl g d → f c = f d → c = d) : ok (mpC g f) := by
  have h2 := (mpF_get (f := f) (nn g) (cS g) (by rw [h.2.2.2.1.2.1]; exact h.n_le)).1
  refine ⟨h.1, h.2.1, h.2.2.1, ⟨h.2.2.2.1.1, h2.trans h.2.2.2.1.2.1, h.2.2.2.1.2.2⟩, h.2.2.2.2.1, fun u hu => ?_, fun u v hu hv e => ?_, h.2.2.2.2.2.2.2⟩
  · rw [cA_mpC h hu]
    exact hf _ (h.2.2.2.2.2.1 u hu)
  · rw [cA_mpC h hu, cA_mpC h hv] at e
    exact h.2.2.2.2.2.2.1 u v hu hv (hi _ _ (h.2.2.2.2.2.1 u hu) (h.2.2.2.2.2.1 v hv) e)
theorem trn_cl (h : ok g) {c : Int32} (hc : isCl g c) : isCl g (trn g c) := by
  have hk := h.cl hc
  have h4 := cell_rc hk
  rw [i3_cl hc.1, ok_trn h hk]
  exact h.C (rc_lt h4.2 (d1_lt (by have := h.d_ge; omega)))
theorem mir_cl (h : ok g) {c : Int32} (hc : isCl g c) : isCl g (mir g c) := by
  have hk := h.cl hc
  have h4 := cell_rc hk
  rw [i3_cl hc.1, ok_mir h hk]
  exact h.C (rc_lt h4.1 (d1_lt (by have := h.d_ge; omega)))
theorem trn_inj (h : ok g) {c d : Int32} (hc : isCl g c) (hd : isCl g d) (e : trn g c = trn g d) : c = d := by
  have k1 := h.cl hc
  have k2 := h.cl hd
  have r1 := cell_rc k1
  have r2 := cell_rc k2
  have b := h.cc_le
  have l1 := rc_lt r1.2 (d1_lt (x := c.toNatClampNeg / dn g) (show 0 < dn g by have := h.d_ge; omega))
  have l2 := rc_lt r2.2 (d1_lt (x := d.toNatClampNeg / dn g) (show 0 < dn g by have := h.d_ge; omega))
  rw [i3_cl hc.1, i3_cl hd.1, ok_trn h k1, ok_trn h k2, i3n_inj (by omega) (by omega)] at e
  have e1 := congrArg (· / dn g) e
  have e2 := congrArg (· % dn g) e
  have dp : 0 < dn g := by have := h.d_ge; omega
  rw [rc_div (d1_lt dp), rc_div (d1_lt dp)] at e1
  rw [rc_mod (d1_lt dp), rc_mod (d1_lt dp)] at e2
  rw [i3_cl hc.1, i3_cl hd.1, rc_inj (d1_inj r1.1 r2.1 e2) e1]
theorem mir_inj (h : ok g) {c d : Int32} (hc : isCl g c) (hd : isCl g d) (e : mir g c = mir g d) : c = d := by
  have k1 := h.cl hc
  have k2 := h.cl hd
  have r1 := cell_rc k1
  have r2 := cell_rc k2
  have b := h.cc_le
  have l1 := rc_lt r1.1 (d1_lt (x := c.toNatClampNeg % dn g) (show 0 < dn g by have := h.d_ge; omega))
  have l2 := rc_lt r2.1 (d1_lt (x := d.toNatClampNeg % dn g) (show 0 < dn g by have := h.d_ge; omega))
  rw [i3_cl hc.1, i3_cl hd.1, ok_mir h k1, ok_mir h k2, i3n_inj (by omega) (by omega)] at e
  have e1 := congrArg (· / dn g) e
  have e2 := congrArg (· % dn g) e
  have dp : 0 < dn g := by have := h.d_ge; omega
  rw [rc_div (d1_lt dp), rc_div (d1_lt dp)] at e1
  rw [rc_mod (d1_lt dp), rc_mod (d1_lt dp)] at e2
  rw [i3_cl hc.1, i3_cl hd.1, rc_inj e1 (d1_inj r1.2 r2.2 e2)]
theorem ok_turn (h : ok g) : ok (mpC g (trn g)) := ok_mpC h (fun _ hc => trn_cl h hc) (fun _ _ hc hd e => trn_inj h hc hd e)
theorem ok_mirr (h : ok g) : ok (mpC g (mir g)) := ok_mpC h (fun _ hc => mir_cl h hc) (fun _ _ hc hd e => mir_inj h hc hd e)
/-- there is room -/
theorem inj_le : ∀ (n m : Nat) (f : Nat → Nat), (∀ i, i < m → f i < n) → (∀ i j, i < m → j < m → f i = f j → i = j) → m ≤ n
  | 0, m, f, h1, _ => by
    by_cases e : m = 0
    · omega
    · exact absurd (h1 0 (by omega)) (Nat.not_lt_zero _)
  | n + 1, 0, f, _, _ => Nat.zero_le _
  | n + 1, m + 1, f, h1, h2 => by
    have := inj_le n m (fun i => if f i = n then f m else f i) (fun i hi => by
      by_cases e : f i = n
      · rw [if_pos e]
        have a := h1 m (by omega)
        have b : f m ≠ n := fun e2 => by
          have := h2 i m (by omega) (by omega) (by omega)
          omega
        omega
      · rw [if_neg e]
        have := h1 i (by omega)
        omega) (fun i j hi hj e => by
      by_cases e1 : f i = n <;> by_cases e2 : f j = n
      · exact h2 i j (by omega) (by omega) (by omega)
      · rw [if_pos e1, if_neg e2] at e
        have := h2 m j (by omega) (by omega) e
        omega
      · rw [if_neg e1, if_pos e2] at e
        have := h2 i m (by omega) (by omega) e
        omega
      · rw [if_neg e1, if_neg e2] at e
        exact h2 i j (by omega) (by omega) e)
    omega
theorem free_ex (h : ok g) (hr : ¬ cc g ≤ tN g) : ∃ k, k < dn g * dn g ∧ tIn g (i3 (k : Int)) = i3 (-1) := by
  refine Classical.byContradiction fun hno => ?_
  have hn := h.n_le
  have hcc := h.cc_le
  have no : ∀ k, k < dn g * dn g → ∃ t, t < nn g ∧ cA g (i3 (t : Int)) = i3 (k : Int) := fun k hk => by
    refine Classical.byContradiction fun hn2 => hno ⟨k, hk, (tIn_none h).mpr (fun t ht e => hn2 ⟨t.toNatClampNeg, h.tl ht, ?_⟩)⟩
    rw [← i3_cl ht.1]; exact e
  have hf : ∀ k, ∃ t, k < dn g * dn g → t < nn g ∧ cA g (i3 (t : Int)) = i3 (k : Int) := fun k => by
    by_cases hk : k < dn g * dn g
    · obtain ⟨t, ht⟩ := no k hk
      exact ⟨t, fun _ => ht⟩
    · exact ⟨0, fun e => absurd e hk⟩
  obtain ⟨f, hf⟩ := Classical.axiomOfChoice hf
  have := inj_le (nn g) (dn g * dn g) f (fun i hi => (hf i hi).1) (fun i j hi hj e => by
    have a := (hf i hi).2
    have b := (hf j hj).2
    rw [e, b] at a
    exact ((i3n_inj (by omega) (by omega)).mp a).symm)
  rw [h.cc_eq, h.n_eq, i3n_le (by omega) (by omega)] at hr
  exact hr this
end RC
