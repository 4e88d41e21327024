/-! ===== the class changes its garden ===== -/
theorem t_cpy_all {α : Type} {f g : List α} {n : Nat} (hf : f.length = n) (hg : g.length = n) : t_cpy f g 0 0 n = f := by
  unfold t_cpy
  rw [List.take_zero, List.nil_append, List.drop_zero, Nat.zero_add, List.take_of_length_le (by omega), List.drop_eq_nil_of_le (by omega), List.append_nil]
theorem r_cp {s : St} {a b : Nat} (ha : isG a) (hb : isG b) : (∀ {n : Nat}, (ia s (a + 1)).length = n → (ia s (b + 1)).length = n → n ≤ 1000 → cpI (H s) (b + 1) (i3 ((0 : Nat) : Int)) (a + 1) (i3 ((0 : Nat) : Int)) (i3 (n : Int)) = some (H (sa s (a + 1) (ia s (b + 1))))) ∧ (∀ {n : Nat}, (ia s (a + 2)).length = n → (ia s (b + 2)).length = n → n ≤ 1000 → cpI (H s) (b + 2) (i3 ((0 : Nat) : Int)) (a + 2) (i3 ((0 : Nat) : Int)) (i3 (n : Int)) = some (H (sa s (a + 2) (ia s (b + 2))))) ∧ (∀ {n : Nat}, (ia s (a + 3)).length = n → (ia s (b + 3)).length = n → n ≤ 1000 → cpI (H s) (b + 3) (i3 ((0 : Nat) : Int)) (a + 3) (i3 ((0 : Nat) : Int)) (i3 (n : Int)) = some (H (sa s (a + 3) (ia s (b + 3))))) ∧ (∀ {n : Nat}, (ia s (a + 4)).length = n → (ia s (b + 4)).length = n → n ≤ 1000 → cpI (H s) (b + 4) (i3 ((0 : Nat) : Int)) (a + 4) (i3 ((0 : Nat) : Int)) (i3 (n : Int)) = some (H (sa s (a + 4) (ia s (b + 4))))) := by
  have key : ∀ {j k n : Nat} {f g : List Int32}, (H s)[j]? = some (.inl (0, .inl f)) → (H s)[k]? = some (.inl (0, .inl g)) → g.length = n → f.length = n → n ≤ 1000 → cpI (H s) j (i3 ((0 : Nat) : Int)) k (i3 ((0 : Nat) : Int)) (i3 (n : Int)) = some ((H s).set k (.inl (0, .inl f))) := by
    intro j k n f g hj hk hg hf hn
    rw [cpI_of hj hk (by omega) (by omega) (by omega) (by omega), t_cpy_all hf hg]
  rcases ha with rfl | rfl | rfl <;> rcases hb with rfl | rfl | rfl
  all_goals exact ⟨fun h1 h2 h3 => key rfl rfl h1 h2 h3, fun h1 h2 h3 => key rfl rfl h1 h2 h3, fun h1 h2 h3 => key rfl rfl h1 h2 h3, fun h1 h2 h3 => key rfl rfl h1 h2 h3⟩
theorem gd_ne {s : St} {a b : Nat} (ha : isG a) (hb : isG b) (hab : a ≠ b) (g : Gd) : gd (wG s a g) b = gd s b := by
  rcases ha with rfl | rfl | rfl <;> rcases hb with rfl | rfl | rfl
  all_goals first | exact absurd rfl hab | rfl
section CM
variable {s : St} {o : Nat}
theorem q_69 {a b : Nat} (ha : isG a) (hb : isG b) (hab : a ≠ b) (h1 : sh (gd s a)) (h2 : sh (gd s b)) : m_69 a b (H s) = some (H (wG s a (gd s b))) := by
  unfold m_69
  obtain ⟨a1, a2, a3, a4⟩ := h1
  obtain ⟨b1, b2, b3, b4⟩ := h2
  have G : ∀ g : Gd, gd (wG s a g) b = gd s b := fun g => gd_ne ha hb hab g
  have z0 : (Int32.ofInt 0) = i3 ((0 : Nat) : Int) := rfl
  have z12 : (Int8.ofInt 12).toInt32 = i3 ((12 : Nat) : Int) := by decide +kernel
  have z8 : (Int8.ofInt 8).toInt32 = i3 ((8 : Nat) : Int) := by decide +kernel
  have I1 : ∀ g : Gd, ia (wG s a g) (b + 1) = ia s (b + 1) := fun g => congrArg kS (G g)
  have I2 : ∀ g : Gd, ia (wG s a g) (b + 2) = ia s (b + 2) := fun g => congrArg cS (G g)
  have I3 : ∀ g : Gd, ia (wG s a g) (b + 3) = ia s (b + 3) := fun g => congrArg vS (G g)
  have I4 : ∀ g : Gd, ia (wG s a g) (b + 4) = ia s (b + 4) := fun g => congrArg wS (G g)
  have J2 : ∀ g : Gd, ia (wG s a g) (a + 2) = cS g := fun g => congrArg cS (gd_wG s a g)
  have J3 : ∀ g : Gd, ia (wG s a g) (a + 3) = vS g := fun g => congrArg vS (gd_wG s a g)
  have J4 : ∀ g : Gd, ia (wG s a g) (a + 4) = wS g := fun g => congrArg wS (gd_wG s a g)
  rw [(r_G ha s).1, Option.bind_some, (r_G hb s).2.1, Option.bind_some, (r_G ha s).2.1, Option.bind_some, z0, z12, (r_cp ha hb).1 a1 b1 (by omega), Option.bind_some, sa_g1]
  rw [(r_G hb _).2.2.1, Option.bind_some, (r_G ha _).2.2.1, Option.bind_some, (r_cp ha hb).2.1 (by rw [J2]; exact a2) (by rw [I2]; exact b2) (by omega), Option.bind_some, sa_g2, wG_wG, gd_wG, I2]
  rw [(r_G hb _).2.2.2.1, Option.bind_some, (r_G ha _).2.2.2.1, Option.bind_some, (r_cp ha hb).2.2.1 (by rw [J3]; exact a3) (by rw [I3]; exact b3) (by omega), Option.bind_some, sa_g3, wG_wG, gd_wG, I3]
  rw [(r_G hb _).2.2.2.2.1, Option.bind_some, (r_G ha _).2.2.2.2.1, Option.bind_some, z8, (r_cp ha hb).2.2.2 (by rw [J4]; exact a4) (by rw [I4]; exact b4) (by omega), Option.bind_some, sa_g4, wG_wG, gd_wG, I4]
  simp only [r_G hb, r_G ha, Option.bind_some, sf_g4, sf_g5, sf_g6, sf_g7, wG_wG, gd_wG, G]
  rfl
theorem q_89 (ho : isG o) (h : ok (gd s o)) (hn : ¬ i3 12 ≤ tN (gd s o)) (k c a : Int32) : m_89 o k c a (H s) = some (H (wG s o (addT (gd s o) k c a))) := by
  have n1 := h.n_le
  have n2 : nn (gd s o) < 12 := by
    rw [h.n_eq, show i3 12 = i3 ((12 : Nat) : Int) from rfl, i3n_le (by omega) (by omega)] at hn
    omega
  unfold m_89
  have e1 : ∀ y, st32 (kS (gd s o)) (tN (gd s o)) y = some ((kS (gd s o)).set (nn (gd s o)) y) := fun y => st_wr h.2.1.1 (by rw [h.2.2.2.1.1]; exact n2)
  have e2 : ∀ y, st32 (cS (gd s o)) (tN (gd s o)) y = some ((cS (gd s o)).set (nn (gd s o)) y) := fun y => st_wr h.2.1.1 (by rw [h.2.2.2.1.2.1]; exact n2)
  have e3 : ∀ y, st32 (vS (gd s o)) (tN (gd s o)) y = some ((vS (gd s o)).set (nn (gd s o)) y) := fun y => st_wr h.2.1.1 (by rw [h.2.2.2.1.2.2.1]; exact n2)
  have x1 : ∀ (g : Gd) l, tN (uK g l) = tN g := fun _ _ => rfl
  have x2 : ∀ (g : Gd) l, tN (uC g l) = tN g := fun _ _ => rfl
  have x3 : ∀ (g : Gd) l, tN (uV g l) = tN g := fun _ _ => rfl
  have x4 : ∀ (g : Gd) l, cS (uK g l) = cS g := fun _ _ => rfl
  have x5 : ∀ (g : Gd) l, vS (uC g l) = vS g := fun _ _ => rfl
  have x6 : ∀ (g : Gd) l, vS (uK g l) = vS g := fun _ _ => rfl
  simp only [r_G ho, Option.bind_some, jn, cst, bP_if, rB_0, rB_1, z00, z10, ↓reduceIte, hn, e1, Option.map_some, fun s => sa_g1 s o, gd_wG, x1, x4, e2, fun s => sa_g2 s o, wG_wG, x2, x5, x6, e3, fun s => sa_g3 s o, x3, sf_g5]
  rfl
theorem q_91 (ho : isG o) (hn : ¬ tN (gd s o) ≤ 0) : m_91 o (H s) = some (H (wG s o (uT (gd s o) (tN (gd s o) - i3 1)))) := by
  unfold m_91
  simp only [r_G ho, Option.bind_some, jn, cst, bP_if, rB_0, rB_1, z00, z10, ↓reduceIte, hn, sf_g5]
theorem q_96 (ho : isG o) (h : ok (gd s o)) (hn : ¬ i3 8 ≤ wN (gd s o)) (m : Int32) : m_96 o m (H s) = some (H (wG s o (addW (gd s o) m))) := by
  have n1 := h.w_le
  have n2 : wn (gd s o) < 8 := by
    rw [h.w_eq, show i3 8 = i3 ((8 : Nat) : Int) from rfl, i3n_le (by omega) (by omega)] at hn
    omega
  unfold m_96
  have e1 : ∀ y, st32 (wS (gd s o)) (wN (gd s o)) y = some ((wS (gd s o)).set (wn (gd s o)) y) := fun y => st_wr h.2.2.1.1 (by rw [h.2.2.2.1.2.2.2]; exact n2)
  have x1 : ∀ (g : Gd) l, wN (uS g l) = wN g := fun _ _ => rfl
  simp only [r_G ho, Option.bind_some, jn, cst, bP_if, rB_0, rB_1, z00, z10, ↓reduceIte, hn, e1, Option.map_some, fun s => sa_g4 s o, gd_wG, x1, sf_g6, wG_wG]
  rfl
end CM
/-! ===== draws ===== -/
noncomputable def nxs (x : Int32) : Int32 := x * Int32.ofNat 1103515245 + i3 12345
noncomputable def up16 (x : Int32) : Int32 := (Int32.toUInt32 x >>> (Int32.toUInt32 (i3 16) &&& Int32.toUInt32 31)).toInt32
noncomputable def dr (x n : Int32) : Int32 := up16 x - up16 x / n * n
theorem up16_eq (x : Int32) : ∃ k : Nat, k < 65536 ∧ up16 x = i3 (k : Int) := by
  have e : Int32.toUInt32 (i3 16) &&& Int32.toUInt32 31 = 16 := by decide +kernel
  refine ⟨(Int32.toUInt32 x >>> 16).toNat, ?_, ?_⟩
  · rw [UInt32.toNat_shiftRight]
    have h1 := (Int32.toUInt32 x).toNat_lt
    have h2 : (16 : UInt32).toNat % 32 = 16 := by decide +kernel
    rw [h2, Nat.shiftRight_eq_div_pow]
    omega
  · unfold up16
    rw [e]
    apply Int32.toBitVec_inj.mp
    rw [Int32.toBitVec_ofInt]
    show (Int32.toUInt32 x >>> 16).toBitVec = BitVec.ofInt 32 ((Int32.toUInt32 x >>> 16).toBitVec.toNat : Int)
    rw [BitVec.ofInt_natCast, BitVec.ofNat_toNat, BitVec.setWidth_eq]
theorem dr_bd {n : Nat} (hn : 0 < n ∧ n < 1000) (x : Int32) : ∃ k : Nat, k < n ∧ dr x (i3 (n : Int)) = i3 (k : Int) := by
  obtain ⟨k, hk, e⟩ := up16_eq x
  refine ⟨k % n, Nat.mod_lt _ hn.1, ?_⟩
  unfold dr
  rw [e, i3_div ⟨by omega, by omega⟩ ⟨by omega, by omega⟩, i3_mul, i3_sub]
  congr 1
  show (k : Int) - ((k / n : Nat) : Int) * (n : Int) = _
  have h1 := Nat.div_add_mod k n
  have e2 : (k : Int) = ((n * (k / n) + k % n : Nat) : Int) := by rw [h1]
  rw [e2, Int.natCast_add, Int.natCast_mul, Int.mul_comm]
  omega
/-- a tree by draws -/
noncomputable def drw (g : Gd) : Gd := addT (uE g (nxs (nxs (nxs (sE g))))) (dr (nxs (sE g)) (i3 6)) (nxf g (dr (nxs (nxs (sE g))) (cc g))) (dr (nxs (nxs (nxs (sE g)))) (i3 10))
section DR
variable {g : Gd}
/-- the next that is free is found -/
theorem nfF_free (h : ok g) {f : Nat} (hf : f < dn g * dn g) (hff : tIn g (i3 (f : Int)) = i3 (-1)) : ∀ (n k : Nat), k < dn g * dn g → (if k ≤ f then f - k else dn g * dn g + f - k) < n → isCl g (nfF g n (i3 (k : Int))) ∧ tIn g (nfF g n (i3 (k : Int))) = i3 (-1)
  | 0, k, hk, hd => absurd hd (Nat.not_lt_zero _)
  | n + 1, k, hk, hd => by
    have hcc := h.cc_le
    show isCl g (if tIn g (i3 (k : Int)) = i3 (-1) then i3 (k : Int) else nfF g n (if cc g ≤ i3 (k : Int) + i3 1 then i3 0 else i3 (k : Int) + i3 1)) ∧ tIn g (if tIn g (i3 (k : Int)) = i3 (-1) then i3 (k : Int) else nfF g n (if cc g ≤ i3 (k : Int) + i3 1 then i3 0 else i3 (k : Int) + i3 1)) = i3 (-1)
    by_cases c : tIn g (i3 (k : Int)) = i3 (-1)
    · rw [if_pos c]
      exact ⟨h.C hk, c⟩
    · rw [if_neg c]
      have hkf : k ≠ f := fun e => c (by rw [e]; exact hff)
      have e1 : i3 (k : Int) + i3 1 = i3 ((k + 1 : Nat) : Int) := i3_nat_add k
      rw [e1]
      by_cases c2 : k + 1 < dn g * dn g
      · rw [if_neg (h.C c2).2]
        refine nfF_free h hf hff n (k + 1) c2 ?_
        split at hd <;> split <;> omega
      · rw [if_pos (h.Ce (by omega) (by omega))]
        refine nfF_free h hf hff n 0 (by omega) ?_
        rw [if_pos (Nat.zero_le _)]
        split at hd <;> omega
theorem nxf_free (h : ok g) (hr : ¬ cc g ≤ tN g) {c : Int32} (hc : isCl g c) : isCl g (nxf g c) ∧ tIn g (nxf g c) = i3 (-1) := by
  obtain ⟨f, hf, hff⟩ := free_ex h hr
  have hk := h.cl hc
  unfold nxf
  rw [i3_cl hc.1]
  refine nfF_free h hf hff _ _ hk ?_
  split <;> omega
theorem drw_cell (h : ok g) (hr : ¬ cc g ≤ tN g) : isCl g (nxf g (dr (nxs (nxs (sE g))) (cc g))) ∧ tIn g (nxf g (dr (nxs (nxs (sE g))) (cc g))) = i3 (-1) := by
  have h1 := h.d_ge
  have h2 := h.cc_le
  have h3 : 9 ≤ dn g * dn g := Nat.mul_le_mul h1 h1
  obtain ⟨k, hk, e⟩ := dr_bd (n := dn g * dn g) (by omega) (nxs (nxs (sE g)))
  refine nxf_free h hr ?_
  rw [h.cc_eq, e]
  exact h.C hk
theorem nfF_uE (g : Gd) (x : Int32) : ∀ (n : Nat) (c : Int32), nfF (uE g x) n c = nfF g n c
  | 0, c => rfl
  | n + 1, c => by
    show (if tIn g c = i3 (-1) then c else nfF (uE g x) n (if cc g ≤ c + i3 1 then i3 0 else c + i3 1)) = (if tIn g c = i3 (-1) then c else nfF g n (if cc g ≤ c + i3 1 then i3 0 else c + i3 1))
    rw [nfF_uE g x n]
theorem ok_addE (h : ok g) (hn : ¬ i3 12 ≤ tN g) (x : Int32) {k c : Int32} (a : Int32) (hk : ¬ k < 0 ∧ k ≤ i3 5) (hc : isCl g c) (hf : tIn g c = i3 (-1)) : ok (addT (uE g x) k c a) := ok_addT (g := uE g x) (ok_uE h x) hn hk hc hf
theorem ok_drw (h : ok g) (hn : ¬ i3 12 ≤ tN g) (hr : ¬ cc g ≤ tN g) : ok (drw g) := by
  obtain ⟨k, hk, e⟩ := dr_bd (n := 6) (by omega) (nxs (sE g))
  have hc := drw_cell h hr
  unfold drw
  refine ok_addE h hn _ _ ?_ hc.1 hc.2
  have e' : dr (nxs (sE g)) (i3 6) = i3 (k : Int) := e
  rw [e']
  exact ⟨i3n_nneg (by omega), (i3n_le (b := 5) (by omega) (by omega)).mpr (by omega)⟩
end DR
section CD
variable {s : St} {o : Nat}
theorem q_99 (ho : isG o) {n : Int32} (h1 : i3 1 ≤ n) (h0 : ¬ n = 0) : m_99 o n (H s) = some (dr (nxs (sE (gd s o))) n, H (wG s o (uE (gd s o) (nxs (sE (gd s o)))))) := by
  have x1 : ∀ (g : Gd) x, sE (uE g x) = x := fun _ _ => rfl
  unfold m_99
  simp only [r_G ho, Option.bind_some, jn, cst, bP_if, rB_0, rB_1, z00, z10, ↓reduceIte, rmI, h1, h0, sf_g7, gd_wG, x1]
  rfl
theorem q_101 (ho : isG o) (h : ok (gd s o)) (hn : ¬ i3 12 ≤ tN (gd s o)) : m_101 o (H s) = some (H (wG s o (drw (gd s o)))) := by
  have d1 : i3 1 ≤ cc (gd s o) := by
    have h1 := h.d_ge
    have h2 := h.cc_le
    have h3 : 9 ≤ dn (gd s o) * dn (gd s o) := Nat.mul_le_mul h1 h1
    rw [h.cc_eq]
    exact (i3n_le (a := 1) (by omega) (by omega)).mpr (by omega)
  have d0 : ¬ cc (gd s o) = 0 := by
    have h1 := h.d_ge
    have h2 := h.cc_le
    have h3 : 9 ≤ dn (gd s o) * dn (gd s o) := Nat.mul_le_mul h1 h1
    rw [h.cc_eq]
    exact fun e => by
      have := (i3n_inj (b := 0) (by omega) (by omega)).mp e
      omega
  have a1 : i3 1 ≤ (Int8.ofInt 6).toInt32 := by decide +kernel
  have a0 : ¬ (Int8.ofInt 6).toInt32 = 0 := by decide +kernel
  have b1 : i3 1 ≤ (Int8.ofInt 10).toInt32 := by decide +kernel
  have b0 : ¬ (Int8.ofInt 10).toInt32 = 0 := by decide +kernel
  have y1 : ∀ (g : Gd) x, cc (uE g x) = cc g := fun _ _ => rfl
  have y2 : ∀ (g : Gd) x y, uE (uE g x) y = uE g y := fun _ _ _ => rfl
  have y3 : ∀ (g : Gd) x, sE (uE g x) = x := fun _ _ => rfl
  have y4 : ∀ (g : Gd) x c, nxf (uE g x) c = nxf g c := fun g x c => nfF_uE g x _ c
  have k1 : ∀ x, ok (gd (wG s o (uE (gd s o) x)) o) := fun x => by rw [gd_wG]; exact ok_uE h x
  have k2 : ∀ x, ¬ i3 12 ≤ tN (gd (wG s o (uE (gd s o) x)) o) := fun x => by rw [gd_wG]; exact hn
  unfold m_101
  rw [(r_G ho s).1, Option.bind_some, q_99 ho a1 a0, Option.bind_some, q_70 ho, Option.bind_some, gd_wG, y1, q_99 ho d1 d0, Option.bind_some, wG_wG, gd_wG, y2, y3, q_100 ho (k1 _), Option.bind_some, q_99 ho b1 b0, Option.bind_some, wG_wG, gd_wG, y2, y3, q_89 ho (k1 _) (k2 _), Option.bind_some, wG_wG, gd_wG]
  rw [show (Int8.ofInt 6).toInt32 = i3 6 from by decide +kernel, show (Int8.ofInt 10).toInt32 = i3 10 from by decide +kernel, y4]
  unfold drw
  rfl
end CD
/-! ===== the garden at 1 becomes another ===== -/
theorem eM_wG {s : St} {o : Nat} (ho : isG o) {g : Gd} (h1 : sh g) (h2 : sh (gd s o)) : eM s (wG s o g) := by
  obtain ⟨a1, a2, a3, a4⟩ := h1
  obtain ⟨b1, b2, b3, b4⟩ := h2
  have e1 : (ia s (o + 1)).length = 12 := b1
  have e2 : (ia s (o + 2)).length = 12 := b2
  have e3 : (ia s (o + 3)).length = 12 := b3
  have e4 : (ia s (o + 4)).length = 8 := b4
  have ho' : o ≤ 11 := by rcases ho with rfl | rfl | rfl <;> omega
  refine ⟨fun p hp _ => ?_, fun _ _ _ => rfl, fun o' k' h' _ => ?_, rfl, fun p _ => ?_, fun _ _ => rfl⟩
  · rw [ia_wG, if_neg (by omega), if_neg (by omega), if_neg (by omega), if_neg (by omega)]
  · rw [fi_wG, if_neg (by omega), if_neg (by omega), if_neg (by omega), if_neg (by omega)]
  · rw [ia_wG]
    split
    · rename_i e; rw [e, a1, e1]
    split
    · rename_i _ e; rw [e, a2, e2]
    split
    · rename_i _ _ e; rw [e, a3, e3]
    split
    · rename_i _ _ _ e; rw [e, a4, e4]
    rfl
theorem CI_wG {s : St} (c : CI s) {g : Gd} (h : ok g) (hT : ∀ k, k < 8 → isT (gd s 1) (fi s (28 + 2 * k) 3) → isT g (fi s (28 + 2 * k) 3)) : CI (wG s 1 g) := by
  obtain ⟨⟨c1, z, l27⟩, c2, c3, c4, c5, c6⟩ := c
  have em := eM_wG g1 h.sh c1.sh
  have g1' : gd (wG s 1 g) 1 = g := gd_wG s 1 g
  refine ⟨⟨by rw [g1']; exact h, ?_, l27⟩, c2, c3, c4, c5, fun k hk => ?_⟩
  · exact z
  · have f1 : ∀ j, fi (wG s 1 g) (28 + 2 * k) j = fi s (28 + 2 * k) j := fun j => by
      rw [fi_wG, if_neg (by omega), if_neg (by omega), if_neg (by omega), if_neg (by omega)]
    unfold shO
    rw [f1, f1, f1, g1']
    obtain ⟨d1, d2, d3, d4, d5⟩ := c6 k hk
    exact ⟨d1, d2, d3, d4, d5.elim Or.inl (fun e => Or.inr ⟨hT k hk e.1, e.2⟩)⟩
theorem ab_wG (s : St) (g : Gd) : abC (wG s 1 g) = (g, (abC s).2) := by
  unfold abC
  rw [gd_wG]
  refine congrArg _ (Prod.ext rfl (Prod.ext rfl (funext fun k => ?_)))
  show (if k < 8 then shC (wG s 1 g) k else none) = if k < 8 then shC s k else none
  split
  · unfold shC
    have f1 : ∀ j, fi (wG s 1 g) (28 + 2 * k) j = fi s (28 + 2 * k) j := fun j => by
      rw [fi_wG, if_neg (by omega), if_neg (by omega), if_neg (by omega), if_neg (by omega)]
    rw [f1, f1]
    rfl
  · rfl
theorem CC.set {α : Type} {s : St} (c : CI s) {g : Gd} (h : ok g) (hT : ∀ t, isT (gd s 1) t → isT g t) (v : α) : CC s (some (v, H (wG s 1 g))) v (g, (abC s).2) := ⟨_, rfl, CI_wG c h (fun _ _ ht => hT _ ht), eM_wG g1 h.sh c.1.1.sh, ab_wG s g⟩
