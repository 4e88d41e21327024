/-! ===== a line through the cells ===== -/
theorem mul8 {x y : Int} (h1 : -8 ≤ x ∧ x ≤ 8) (h2 : -7 ≤ y ∧ y ≤ 7) : -56 ≤ x * y ∧ x * y ≤ 56 := by
  have key : ∀ a : Fin 17, ∀ b : Fin 15, -56 ≤ ((a.1 : Int) - 8) * ((b.1 : Int) - 7) ∧ ((a.1 : Int) - 8) * ((b.1 : Int) - 7) ≤ 56 := by decide +kernel
  have := key ⟨(x + 8).toNat, by omega⟩ ⟨(y + 7).toNat, by omega⟩
  dsimp only at this
  rw [show (((x + 8).toNat : Nat) : Int) - 8 = x by omega, show (((y + 7).toNat : Nat) : Int) - 7 = y by omega] at this
  exact this
noncomputable def gcI (i j : Nat) : Int := (Int.gcd ((i : Int) - 7) ((j : Int) - 7) : Int)
noncomputable def rkB (i j : Nat) : Bool := (i == 7 && j == 7) || (decide (red (i3 ((i : Int) - 7), i3 ((j : Int) - 7)) = (i3 (((i : Int) - 7) / gcI i j), i3 (((j : Int) - 7) / gcI i j))) && decide (((i : Int) - 7) = gcI i j * (((i : Int) - 7) / gcI i j)) && decide (((j : Int) - 7) = gcI i j * (((j : Int) - 7) / gcI i j)) && decide (-7 ≤ ((i : Int) - 7) / gcI i j ∧ ((i : Int) - 7) / gcI i j ≤ 7) && decide (-7 ≤ ((j : Int) - 7) / gcI i j ∧ ((j : Int) - 7) / gcI i j ≤ 7) && (List.range 15).any fun s => (List.range 15).any fun t => decide (((s : Int) - 7) * (((i : Int) - 7) / gcI i j) + ((t : Int) - 7) * (((j : Int) - 7) / gcI i j) = 1))
theorem rk_ok : (List.range 15).all (fun i => (List.range 15).all fun j => rkB i j) = true := by decide +kernel
theorem red_ok {x y : Int} (hx : -7 ≤ x ∧ x ≤ 7) (hy : -7 ≤ y ∧ y ≤ 7) (hne : x ≠ 0 ∨ y ≠ 0) : ∃ e u v s t : Int, red (i3 x, i3 y) = (i3 u, i3 v) ∧ x = e * u ∧ y = e * v ∧ s * u + t * v = 1 ∧ e ≠ 0 ∧ (-7 ≤ u ∧ u ≤ 7) ∧ (-7 ≤ v ∧ v ≤ 7) := by
  have k := allN (n := 15) (allN (n := 15) rk_ok (m := (x + 7).toNat) (by omega)) (m := (y + 7).toNat) (by omega)
  unfold rkB at k
  have ex : (((x + 7).toNat : Nat) : Int) - 7 = x := by omega
  have ey : (((y + 7).toNat : Nat) : Int) - 7 = y := by omega
  rw [ex, ey] at k
  generalize gcI (x + 7).toNat (y + 7).toNat = e at k
  rw [Bool.or_eq_true] at k
  rcases k with k | k
  · exfalso
    rw [Bool.and_eq_true, beq_iff_eq, beq_iff_eq] at k
    omega
  · simp only [Bool.and_eq_true, decide_eq_true_eq, List.any_eq_true, List.mem_range] at k
    obtain ⟨⟨⟨⟨⟨k1, k2⟩, k3⟩, k4⟩, k5⟩, s, -, t, -, k6⟩ := k
    refine ⟨e, x / e, y / e, (s : Int) - 7, (t : Int) - 7, k1, k2, k3, k6, ?_, k4, k5⟩
    intro e0
    rw [e0, Int.zero_mul] at k2 k3
    omega
theorem on_line {e u v s t X Y : Int} (h1 : s * u + t * v = 1) (he : e ≠ 0) : (e * u) * Y - (e * v) * X = 0 ↔ ∃ k, X = k * u ∧ Y = k * v := by
  constructor
  · intro h
    have h2 : u * Y = v * X := by
      refine Int.eq_of_mul_eq_mul_left he ?_
      grind
    exact ⟨s * X + t * Y, by grind, by grind⟩
  · rintro ⟨k, rfl, rfl⟩
    grind
theorem cb_0 {p : Nat → Bool} : ∀ n, (∀ k, k < n → p k = false) → cb p n = 0
  | 0, _ => rfl
  | n + 1, h => by
    show cb p n + (p n).toNat = 0
    rw [cb_0 n (fun k hk => h k (by omega)), h n (by omega)]
    rfl
theorem cb_1 {p : Nat → Bool} {k0 : Nat} (h0 : p k0 = true) : ∀ n, k0 < n → (∀ k, k < n → k ≠ k0 → p k = false) → cb p n = 1
  | 0, h, _ => absurd h (Nat.not_lt_zero _)
  | n + 1, h, hu => by
    show cb p n + (p n).toNat = 1
    by_cases e : k0 = n
    · subst e
      rw [cb_0 k0 (fun k hk => hu k (by omega) (by omega)), h0]
      rfl
    · rw [cb_1 h0 n (by omega) (fun k hk hn => hu k (by omega) hn), hu n (by omega) (fun e' => e e'.symm)]
      rfl
theorem i3_t : i3 (((true).toNat : Nat) : Int) = i3 1 := rfl
theorem i3_f : i3 (((false).toNat : Nat) : Int) = 0 := rfl
section HI
variable {g : Gd}
theorem cO_hit (h : ok g) {X Y : Int} (hX : -100 ≤ X ∧ X ≤ 100) (hY : -100 ≤ Y ∧ Y ≤ 100) {c : Nat} (hc : c < dn g * dn g) : cellO g (i3 X) (i3 Y) = i3 (c : Int) ↔ X = px (dn g) c ∧ Y = py (dn g) c := by
  have hd := h.d_le
  have hcc := h.cc_le
  have hr := cell_rc hc
  by_cases b : (0 ≤ X ∧ X < (dn g : Int)) ∧ 0 ≤ Y ∧ Y < (dn g : Int)
  · obtain ⟨⟨b1, b2⟩, b3, b4⟩ := b
    obtain ⟨x, rfl⟩ := Int.eq_ofNat_of_zero_le b1
    obtain ⟨y, rfl⟩ := Int.eq_ofNat_of_zero_le b3
    have hx : x < dn g := by omega
    have hy : y < dn g := by omega
    have hlt := rc_lt hx hy
    rw [h.cell hx hy, i3n_inj (by omega) (by omega)]
    unfold px py
    constructor
    · intro e
      rw [← e, rc_div hy, rc_mod hy]
      exact ⟨rfl, rfl⟩
    · rintro ⟨e1, e2⟩
      have e1' : x = c / dn g := by omega
      have e2' : y = c % dn g := by omega
      rw [e1', e2']
      exact Nat.div_add_mod' c (dn g)
  · have e : cellO g (i3 X) (i3 Y) = i3 (-1) := by
      unfold cellO
      by_cases c1 : i3 X < 0
      · rw [if_pos c1]
      by_cases c2 : sD g ≤ i3 X
      · rw [if_neg c1, if_pos c2]
      by_cases c3 : i3 Y < 0
      · rw [if_neg c1, if_neg c2, if_pos c3]
      by_cases c4 : sD g ≤ i3 Y
      · rw [if_neg c1, if_neg c2, if_neg c3, if_pos c4]
      exfalso
      apply b
      rw [i3_0, i3_lt ⟨by omega, by omega⟩ ⟨by omega, by omega⟩] at c1 c3
      rw [h.d_eq, i3_le ⟨by omega, by omega⟩ ⟨by omega, by omega⟩] at c2 c4
      omega
    rw [e, i3_inj ⟨by omega, by omega⟩ ⟨by omega, by omega⟩]
    constructor
    · intro e; omega
    · rintro ⟨e1, e2⟩
      exfalso
      apply b
      have a1 : (0 : Int) ≤ ((c / dn g : Nat) : Int) := Int.natCast_nonneg _
      have a2 : (0 : Int) ≤ ((c % dn g : Nat) : Int) := Int.natCast_nonneg _
      unfold px at e1
      unfold py at e2
      omega
noncomputable def hitB (D : Nat) (R C u v : Int) (c k : Nat) : Bool := decide (R + ((k : Int) - 8) * u = px D c ∧ C + ((k : Int) - 8) * v = py D c)
theorem stp_rd (h : ok g) {R C u v : Int} (hR : 0 ≤ R ∧ R ≤ 7) (hC : 0 ≤ C ∧ C ≤ 7) (hu : -7 ≤ u ∧ u ≤ 7) (hv : -7 ≤ v ∧ v ≤ 7) {c : Nat} (hc : c < dn g * dn g) {k : Nat} (hk : k < 17) {l : List Int32} (hl : l.length = 64) : rd (stp g (i3 R) (i3 C) (i3 u, i3 v) k l) (i3 (c : Int)) = rd l (i3 (c : Int)) + i3 (((hitB (dn g) R C u v c k).toNat : Nat) : Int) := by
  have hcc := h.cc_le
  have m1 := mul8 (x := (k : Int) - 8) (by omega) hu
  have m2 := mul8 (x := (k : Int) - 8) (by omega) hv
  have e1 : i3 R + i3 ((k : Int) - 8) * i3 u = i3 (R + ((k : Int) - 8) * u) := by rw [i3_mul, i3_add]
  have e2 : i3 C + i3 ((k : Int) - 8) * i3 v = i3 (C + ((k : Int) - 8) * v) := by rw [i3_mul, i3_add]
  unfold stp hitB
  dsimp only
  rw [e1, e2]
  generalize ((k : Int) - 8) * u = a at *
  generalize ((k : Int) - 8) * v = b at *
  have hh := cO_hit h (X := R + a) (Y := C + b) (by omega) (by omega) hc
  rw [show decide (R + a = px (dn g) c ∧ C + b = py (dn g) c) = decide (cellO g (i3 (R + a)) (i3 (C + b)) = i3 (c : Int)) from decide_eq_decide.mpr hh.symm]
  by_cases e : cellO g (i3 (R + a)) (i3 (C + b)) = i3 (-1)
  · have ne : ¬ i3 (-1) = i3 (c : Int) := by
      rw [i3_inj ⟨by omega, by omega⟩ ⟨by omega, by omega⟩]
      omega
    rw [if_pos e, e, decide_eq_false ne, i3_f, Int32.add_zero]
  · have hcl := cellO_cl h e
    have hb := h.cl hcl
    rw [if_neg e, rd_set hcl.1 (i3n_nneg (by omega)) (by omega)]
    by_cases e3 : cellO g (i3 (R + a)) (i3 (C + b)) = i3 (c : Int)
    · rw [if_pos e3.symm, decide_eq_true e3, e3, i3_t]
    · rw [if_neg (fun q => e3 q.symm), decide_eq_false e3, i3_f, Int32.add_zero]
theorem itr_stp (h : ok g) {R C u v : Int} (hR : 0 ≤ R ∧ R ≤ 7) (hC : 0 ≤ C ∧ C ≤ 7) (hu : -7 ≤ u ∧ u ≤ 7) (hv : -7 ≤ v ∧ v ≤ 7) {c : Nat} (hc : c < dn g * dn g) {l : List Int32} (hl : l.length = 64) : ∀ n, n ≤ 17 → rd (itr (stp g (i3 R) (i3 C) (i3 u, i3 v)) n l) (i3 (c : Int)) = rd l (i3 (c : Int)) + i3 ((cb (hitB (dn g) R C u v c) n : Nat) : Int)
  | 0, _ => (Int32.add_zero _).symm
  | n + 1, hn => by
    show rd (stp g (i3 R) (i3 C) (i3 u, i3 v) n (itr (stp g (i3 R) (i3 C) (i3 u, i3 v)) n l)) (i3 (c : Int)) = rd l (i3 (c : Int)) + i3 ((cb (hitB (dn g) R C u v c) n + (hitB (dn g) R C u v c n).toNat : Nat) : Int)
    rw [stp_rd h hR hC hu hv hc (by omega) ((itr_len (stp_len g _ _ _) n l).trans hl), itr_stp h hR hC hu hv hc hl n (by omega), Int32.add_assoc, i3_add, Int.natCast_add]
/-- what a line adds -/
theorem lnA_rd (h : ok g) {m a b : Nat} (hm : m < 4096) (ha : a < nn g) (hb : b < nn g) (hab : a ≠ b) (la' : lo m = a) (lb' : lo2 m = b) {c : Nat} (hc : c < dn g * dn g) {l : List Int32} (hl : l.length = 64) : rd (lnA g (i3 (m : Int)) l) (i3 (c : Int)) = rd l (i3 (c : Int)) + i3 (((decide (dt (dn g) (cN g a) (cN g b) c = 0)).toNat : Nat) : Int) := by
  have hcc := h.cc_le
  unfold lnA
  rw [ntz_eq hm, ntz2_eq hm, la', lb', if_pos ⟨h.T ha, h.T hb⟩]
  have ca := h.cNe ha
  have cb' := h.cNe hb
  have pa := p_bd h.d_le ca.2
  have pb := p_bd h.d_le cb'.2
  have pc' := p_bd h.d_le hc
  have e1 : rO g (i3 (cN g a : Int)) = i3 (px (dn g) (cN g a)) := h.ro (by omega)
  have e2 : rO g (i3 (cN g b : Int)) = i3 (px (dn g) (cN g b)) := h.ro (by omega)
  have e3 : cO g (i3 (cN g a : Int)) = i3 (py (dn g) (cN g a)) := h.co (by omega)
  have e4 : cO g (i3 (cN g b : Int)) = i3 (py (dn g) (cN g b)) := h.co (by omega)
  rw [ca.1, cb'.1, e1, e2, e3, e4, i3_sub, i3_sub]
  obtain ⟨e, u, v, s, t, r1, r2, r3, r4, r5, r6, r7⟩ := red_ok (x := px (dn g) (cN g b) - px (dn g) (cN g a)) (y := py (dn g) (cN g b) - py (dn g) (cN g a)) (by omega) (by omega) (pt_ne (h.cNi ha hb hab))
  rw [r1, itr_stp h ⟨pa.1, pa.2.1⟩ ⟨pa.2.2.1, pa.2.2.2⟩ r6 r7 hc hl 17 (Nat.le_refl _)]
  refine congrArg (fun n : Nat => rd l (i3 (c : Int)) + i3 (n : Int)) ?_
  have hl' := on_line (X := px (dn g) c - px (dn g) (cN g a)) (Y := py (dn g) c - py (dn g) (cN g a)) r4 r5
  unfold dt
  rw [r2, r3]
  generalize px (dn g) (cN g a) = R at *
  generalize py (dn g) (cN g a) = C at *
  have uv : u ≠ 0 ∨ v ≠ 0 := by
    by_cases e1 : u = 0
    · right
      intro e2
      rw [e1, e2, Int.mul_zero, Int.mul_zero] at r4
      omega
    · exact Or.inl e1
  by_cases hit : ∃ k, px (dn g) c - R = k * u ∧ py (dn g) c - C = k * v
  · rw [decide_eq_true (hl'.mpr hit)]
    obtain ⟨k, k1, k2⟩ := hit
    have kb : -8 ≤ k ∧ k ≤ 8 := by
      refine Classical.byContradiction fun hn => ?_
      have big : ∀ w : Int, w ≠ 0 → -7 ≤ k * w ∧ k * w ≤ 7 → False := fun w hw hb => by
        have ab : 8 < k.natAbs := by omega
        have a2 : 1 ≤ w.natAbs := by omega
        have a3 : (k * w).natAbs ≤ 7 := by omega
        rw [Int.natAbs_mul] at a3
        have := Nat.mul_le_mul (show 9 ≤ k.natAbs by omega) a2
        omega
      rcases uv with q | q
      · exact big u q (by omega)
      · exact big v q (by omega)
    have k0 : (((k + 8).toNat : Nat) : Int) - 8 = k := by omega
    refine (cb_1 (k0 := (k + 8).toNat) ?_ 17 (by omega) ?_)
    · unfold hitB
      rw [k0]
      exact decide_eq_true ⟨by omega, by omega⟩
    · intro q hq hne
      unfold hitB
      refine decide_eq_false ?_
      rintro ⟨q1, q2⟩
      apply hne
      have w1 : ((q : Int) - 8) * u = k * u := by omega
      have w2 : ((q : Int) - 8) * v = k * v := by omega
      have w : (q : Int) - 8 = k := by
        rcases uv with z | z
        · exact Int.eq_of_mul_eq_mul_right z w1
        · exact Int.eq_of_mul_eq_mul_right z w2
      omega
  · rw [decide_eq_false (fun q => hit (hl'.mp q))]
    refine cb_0 17 ?_
    intro k hk
    unfold hitB
    refine decide_eq_false ?_
    rintro ⟨q1, q2⟩
    exact hit ⟨(k : Int) - 8, by omega, by omega⟩
end HI
