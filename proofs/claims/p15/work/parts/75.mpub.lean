/-! ===== the reference's calls that change the garden ===== -/
section MP
variable {s : St}
theorem p_9 (s : St) (x : Int32) : pI (H s) 8 44 9 x = some (H (wM s 44 (uD (md s 44) x))) := congrArg (fun z => some (H z)) (sf_m9 s 44 x)
theorem p_10 (s : St) (x : Int32) : pI (H s) 8 44 10 x = some (H (wM s 44 (uT (md s 44) x))) := congrArg (fun z => some (H z)) (sf_m10 s 44 x)
theorem p_14 (s : St) (x : Int32) : pI (H s) 8 44 14 x = some (H (wM s 44 (uW (md s 44) x))) := congrArg (fun z => some (H z)) (sf_m14 s 44 x)
theorem p_16 (s : St) (x : Int32) : pI (H s) 8 44 16 x = some (H (wM s 44 (uE (md s 44) x))) := congrArg (fun z => some (H z)) (sf_m16 s 44 x)
theorem sI63 (s : St) {t x : Int32} (h0 : ¬ t < 0) (h1 : t.toNatClampNeg < (vS (md s 44)).length) : sI (H s) 63 t x = some (H (wM s 44 (uV (md s 44) ((vS (md s 44)).set t.toNatClampNeg x)))) := by
  rw [show sI (H s) 63 t x = (st32 (vS (md s 44)) t x).map (fun l => H (sa s 63 l)) from sI_of rfl, st_wr h0 h1, Option.map_some]
  exact congrArg (fun z => some (H z)) (sa_m19 s 44 _)
theorem sI64 (s : St) {t x : Int32} (h0 : ¬ t < 0) (h1 : t.toNatClampNeg < (wS (md s 44)).length) : sI (H s) 64 t x = some (H (wM s 44 (uS (md s 44) ((wS (md s 44)).set t.toNatClampNeg x)))) := by
  rw [show sI (H s) 64 t x = (st32 (wS (md s 44)) t x).map (fun l => H (sa s 64 l)) from sI_of rfl, st_wr h0 h1, Option.map_some]
  exact congrArg (fun z => some (H z)) (sa_m20 s 44 _)
theorem n_lt {g : Gd} (h : ok g) (hn : ¬ i3 12 ≤ tN g) : nn g < 12 := by
  have n1 := h.n_le
  rw [h.n_eq, show i3 12 = i3 ((12 : Nat) : Int) from rfl, i3n_le (by omega) (by omega)] at hn
  omega
theorem w_lt {g : Gd} (h : ok g) (hn : ¬ i3 8 ≤ wN g) : wn g < 8 := by
  have n1 := h.w_le
  rw [h.w_eq, show i3 8 = i3 ((8 : Nat) : Int) from rfl, i3n_le (by omega) (by omega)] at hn
  omega
theorem q_212 (h : ok (md s 44)) (hn : ¬ i3 12 ≤ tN (md s 44)) (k c a : Int32) : m_212 44 k c a (H s) = some (H (wM s 44 (addT (md s 44) k c a))) := by
  have n2 := n_lt h hn
  have gt : ∀ t : St, gI (H t) 8 44 10 = some (tN (md t 44)) := fun _ => rfl
  have g11 : ∀ t : St, gN (H t) 8 44 11 = some 61 := fun _ => rfl
  have g12 : ∀ t : St, gN (H t) 8 44 12 = some 62 := fun _ => rfl
  have g13 : ∀ t : St, gN (H t) 8 44 13 = some 63 := fun _ => rfl
  have b1 : (tN (md s 44)).toNatClampNeg < (kS (md s 44)).length := by rw [h.2.2.2.1.1]; exact n2
  have b2 : (tN (md s 44)).toNatClampNeg < (cS (md s 44)).length := by rw [h.2.2.2.1.2.1]; exact n2
  have b3 : (tN (md s 44)).toNatClampNeg < (vS (md s 44)).length := by rw [h.2.2.2.1.2.2.1]; exact n2
  unfold m_212
  rw [(r_m s).1, Option.bind_some, g11, Option.bind_some, gt, Option.bind_some, sI61 s h.2.1.1 b1, Option.bind_some, g12, Option.bind_some, gt, Option.bind_some, md_wM]
  have e2 := sI62 (wM s 44 (uK (md s 44) ((kS (md s 44)).set (tN (md s 44)).toNatClampNeg k))) (t := tN (md s 44)) (x := c) h.2.1.1 (by rw [md_wM]; exact b2)
  rw [md_wM, wM_wM] at e2
  rw [show tN (uK (md s 44) ((kS (md s 44)).set (tN (md s 44)).toNatClampNeg k)) = tN (md s 44) from rfl, e2, Option.bind_some, g13, Option.bind_some, gt, Option.bind_some, md_wM]
  generalize hg : uC (uK (md s 44) ((kS (md s 44)).set (tN (md s 44)).toNatClampNeg k)) _ = g2
  have et : tN g2 = tN (md s 44) := by rw [← hg]; rfl
  have ev : vS g2 = vS (md s 44) := by rw [← hg]; rfl
  have e3 := sI63 (wM s 44 g2) (t := tN g2) (x := a) (by rw [et]; exact h.2.1.1) (by rw [md_wM, ev, et]; exact b3)
  rw [md_wM, wM_wM] at e3
  rw [e3, Option.bind_some, gt, Option.bind_some, p_10, Option.bind_some, md_wM, wM_wM, ← hg]
  rfl
theorem q_210 (h : ok (md s 44)) {t : Int32} (ht : isT (md s 44) t) : m_210 44 t (H s) = some (ww (md s 44) t) := by
  unfold m_210
  rw [(r_m s).1, Option.bind_some]
  refine (lp0 (wn (md s 44)) (by have := h.w_le; omega) (fun t a => (a, t)) (fun a => a) (wwF (md s 44) t) (fun _ => True) (i3 0) ?_ (fun _ _ _ _ => trivial) ?_ trivial).trans rfl
  · intro k m nx ex hk _
    dsimp only
    rw [(r_g s).2.2.2.1, Option.bind_some, if_neg (h.W hk).2, (r_g s).2.2.2.2.2.2.2.2.1, Option.bind_some, (r_g s).2.2.2.2.2.2.2.2.2.2.2.2, h.at_w (h.W hk), Option.bind_some, q_195, Option.bind_some, jnE, bP_if]
    dsimp only
    have e := hs_T h ht (wA (md s 44) (i3 (k : Int)))
    unfold wwF
    by_cases d : wA (md s 44) (i3 (k : Int)) &&& bit t = 0
    · rw [if_neg (fun q => (e.mp q) d), if_pos d, add0]
    · rw [if_pos (e.mpr d), if_neg d]
  · intro a nx ex _
    dsimp only
    rw [(r_g s).2.2.2.1, Option.bind_some, if_pos (h.We (Nat.le_refl _) (by have := h.w_le; omega))]
theorem last_T {g : Gd} (h : ok g) (h0 : ¬ tN g ≤ 0) : isT g (tN g - i3 1) := by
  have hn := h.n_le
  have n0 : 0 < nn g := by
    rw [h.n_eq, show (0 : Int32) = i3 ((0 : Nat) : Int) from rfl, i3n_le (by omega) (by omega)] at h0
    omega
  have e : tN g - i3 1 = i3 ((nn g - 1 : Nat) : Int) := by
    rw [h.n_eq]
    exact i3_nat_sub n0
  rw [e]
  exact h.T (by omega)
theorem q_218 (h : ok (md s 44)) : m_218 44 (H s) = some (bP (fel (md s 44))) := by
  unfold m_218
  rw [(r_m s).1, Option.bind_some, (r_g s).2.2.1, Option.bind_some, jnE, jnE]
  by_cases d1 : tN (md s 44) ≤ 0
  · rw [if_pos d1, bP_f (fun e => e.1 d1)]
    rfl
  · rw [if_neg d1, Option.bind_some, q_210 h (last_T h d1), Option.bind_some]
    by_cases d2 : ww (md s 44) (tN (md s 44) - i3 1) = 0
    · rw [if_pos (show ww (md s 44) (tN (md s 44) - Int32.ofInt 1) = 0 from d2), bP_t ⟨d1, d2⟩]
      rfl
    · rw [if_neg (show ¬ ww (md s 44) (tN (md s 44) - Int32.ofInt 1) = 0 from d2), bP_f (fun e => d2 e.2)]
      rfl
theorem e_9 (c : MI s) (n : Int32) : MC s (m_211 44 n (H s)) (vSide (md s 44) n) (gSide (md s 44) n, (abM s).2) := by
  unfold m_211 vSide gSide
  rw [(r_m s).1, Option.bind_some, jc.2.2.2.1, jc.2.2.2.2.2.2.2.1, q_190, Option.bind_some, bP_if]
  by_cases c1 : n < i3 3
  · rw [if_neg (fun e => e.1 c1), if_pos c1, if_pos c1, cst.1]
    exact MC.ref c isB2
  rw [if_neg c1, if_neg c1]
  by_cases c2 : n ≤ i3 8
  · rw [if_pos ⟨c1, Int32.not_lt.mpr c2⟩, if_pos c2, if_pos c2, (r_g s).2.2.1, Option.bind_some]
    by_cases c3 : tN (md s 44) ≤ 0
    · rw [if_pos c3, if_pos c3, if_pos c3, (r_g s).2.1, Option.bind_some, p_9, Option.bind_some]
      refine MC.set c (ok_uD c.1.1 c3 (ge3 c1) c2) (fun t ht => ?_) _
      have a := ht.1
      have b := ht.2
      rw [Int32.lt_iff_toInt_lt] at a
      rw [Int32.le_iff_toInt_le] at b c3
      have e : (0 : Int32).toInt = 0 := by decide +kernel
      omega
    · rw [if_neg c3, if_neg c3, if_neg c3, cst.2.2.2.1]
      exact MC.ref c isB5
  · rw [if_neg (fun e => e.2 (Int32.not_le.mp c2)), if_neg c2, if_neg c2, cst.1]
    exact MC.ref c isB2
theorem e_10 (c : MI s) (k x a : Int32) : MC s (m_213 44 k x a (H s)) (vTree (md s 44) k x a) (gTree (md s 44) k x a, (abM s).2) := by
  have c12 : (Int8.ofInt 12).toInt32 = i3 12 := by decide +kernel
  have c6 : (Int8.ofInt (-6)).toInt32 = i3 (-6) := by decide +kernel
  unfold m_213 vTree gTree
  rw [(r_m s).1, Option.bind_some, jc.1, jc.2.2.2.2.2.1, q_190, Option.bind_some, jnE, bP_if]
  by_cases c1 : k < 0
  · rw [if_neg (fun e => e.1 c1), if_pos c1, if_pos c1, cst.1]
    exact MC.ref c isB2
  rw [if_neg c1, if_neg c1]
  by_cases c2 : i3 5 < k
  · rw [if_neg (fun e => e.2 c2), if_pos c2, if_pos c2, cst.1]
    exact MC.ref c isB2
  rw [if_neg c2, if_neg c2, if_pos ⟨c1, c2⟩, q_193 c.1.1, Option.bind_some, bP_if]
  by_cases c3 : isCl (md s 44) x
  · rw [if_pos c3, if_pos c3, if_pos c3, jc.2.2.2.2.2.2.2.2.1, q_190, Option.bind_some, bP_if]
    by_cases c4 : a < 0
    · rw [if_neg (fun e => e.1 c4), if_pos c4, if_pos c4, cst.1]
      exact MC.ref c isB2
    rw [if_neg c4, if_neg c4]
    by_cases c5 : a ≤ i3 9
    · rw [if_pos ⟨c4, Int32.not_lt.mpr c5⟩, if_pos c5, if_pos c5, q_194 c.1.1, Option.bind_some]
      by_cases c6' : tIn (md s 44) x = i3 (-1)
      · rw [if_pos (show _ = Int32.ofInt (-1) from c6'), if_pos c6', if_pos c6', (r_g s).2.2.1, Option.bind_some, c12]
        by_cases c7 : tN (md s 44) < i3 12
        · have n7 : ¬ tN (md s 44) = i3 12 := fun e => by rw [e] at c7; exact absurd c7 (by decide +kernel)
          have c8 := not12 c7
          have gt : ∀ t : St, gI (H t) 8 44 10 = some (tN (md t 44)) := fun _ => rfl
          rw [if_neg n7, if_pos c7, if_pos c7, q_212 c.1.1 c8, Option.bind_some, gt, Option.bind_some, md_wM]
          exact MC.set c (ok_addT c.1.1 c8 ⟨c1, le5 c2⟩ c3 c6') (fun t ht => addT_T c.1.1 c8 _ _ _ ht) _
        · have e7 : tN (md s 44) = i3 12 := by
            have a1 := c.1.1.2.1.2
            rw [Int32.le_iff_toInt_le] at a1
            rw [Int32.lt_iff_toInt_lt] at c7
            exact Int32.toInt_inj.mp (by omega)
          rw [if_pos e7, if_neg c7, if_neg c7, c6]
          exact MC.ref c isB6
      · rw [if_neg (show ¬ _ = Int32.ofInt (-1) from c6'), if_neg c6', if_neg c6', cst.2.2.2.1]
        exact MC.ref c isB5
    · rw [if_neg (fun e => e.2 (Int32.not_le.mp c5)), if_neg c5, if_neg c5, cst.1]
      exact MC.ref c isB2
  · rw [if_neg c3, if_neg c3, if_neg c3, cst.1]
    exact MC.ref c isB2
theorem shr_toInt {x : Int32} {k : Nat} (hk : k < 31) : (x >>> (i3 (k : Int) &&& 31)).toInt = x.toInt / 2 ^ k := by
  have e3 : ((i3 (k : Int) &&& 31).toBitVec.smod 32).toNat = k := by
    have : ∀ k : Nat, k < 31 → ((i3 (k : Int) &&& 31).toBitVec.smod 32).toNat = k := by decide +kernel
    exact this k hk
  show (x >>> (i3 (k : Int) &&& 31)).toBitVec.toInt = x.toBitVec.toInt / 2 ^ k
  rw [Int32.toBitVec_shiftRight]
  unfold BitVec.sshiftRight'
  rw [e3, BitVec.toInt_sshiftRight, Int.shiftRight_eq_div_pow]
  simp
theorem st3M_iff {g : Gd} (h : ok g) (x : Int32) : st3M g x ↔ st3 g x := by
  have hn := h.n_le
  have hp := p12 hn
  rw [st3_iff h]
  have key : ∀ X : Nat, X < 2147483648 → ((i3 (X : Int) >>> (tN g &&& 31) = 0) ↔ X < 2 ^ nn g) := fun X hX => by
    have e0 : (i3 (X : Int) >>> (tN g &&& 31) = 0) ↔ (i3 (X : Int) >>> (i3 (nn g : Int) &&& 31)).toInt = 0 := by
      rw [h.n_eq]
      exact ⟨fun e => by rw [e]; decide +kernel, fun e => Int32.toInt_inj.mp (e.trans (by decide +kernel))⟩
    have e1 : (X : Int) / 2 ^ nn g = ((X / 2 ^ nn g : Nat) : Int) := by
      rw [Int.natCast_ediv, Int.natCast_pow]
      rfl
    rw [e0, shr_toInt (by omega), i3_toInt ⟨by omega, by omega⟩, e1]
    have pp : 0 < 2 ^ nn g := Nat.two_pow_pos _
    constructor
    · intro e
      have e' : X / 2 ^ nn g = 0 := by omega
      exact (Nat.div_eq_zero_iff_lt pp).mp e'
    · intro e
      rw [Nat.div_eq_of_lt e]
      rfl
  constructor
  · rintro ⟨a, b, d⟩
    have ex := i3_cl a
    have hX : x.toNatClampNeg < 2147483648 := by
      show x.toInt.toNat < _
      have := Int32.toInt_lt x
      omega
    rw [ex] at b
    have b' := (key _ hX).mp b
    refine ⟨x.toNatClampNeg, b', ex, ?_⟩
    rw [ex, bs_eq (by omega), bct_eq (by omega)] at d
    have := pc_le x.toNatClampNeg
    exact (i3n_le (a := 3) (by omega) (by omega)).mp d
  · rintro ⟨m, h1, rfl, h3⟩
    have := pc_le m
    refine ⟨i3n_nneg (by omega), (key m (by omega)).mpr h1, ?_⟩
    rw [bs_eq (by omega), bct_eq (by omega)]
    exact (i3n_le (a := 3) (by omega) (by omega)).mpr h3
theorem e_11 (c : MI s) (m : Int32) : MC s (m_214 44 m (H s)) (vWish (md s 44) m) (gWish (md s 44) m, (abM s).2) := by
  have c8' : (Int8.ofInt 8).toInt32 = i3 8 := by decide +kernel
  have c6 : (Int8.ofInt (-6)).toInt32 = i3 (-6) := by decide +kernel
  have h := c.1.1
  have iff := st3M_iff h m
  unfold m_214 vWish gWish
  rw [(r_m s).1, Option.bind_some, jnE]
  by_cases c1 : m < 0
  · have n : ¬ st3 (md s 44) m := fun e => (iff.mpr e).1 c1
    rw [if_pos c1, if_neg n, if_neg n, cst.1]
    exact MC.ref c isB2
  rw [if_neg c1, (r_g s).2.2.1, Option.bind_some]
  by_cases c2 : (m >>> (tN (md s 44) &&& 31)) = 0
  · rw [if_pos c2, q_196, Option.bind_some]
    by_cases c3 : i3 3 ≤ bs m
    · have y : st3 (md s 44) m := iff.mp ⟨c1, c2, c3⟩
      rw [if_pos (show Int32.ofInt 3 ≤ bs m from c3), if_pos y, if_pos y, (r_g s).2.2.2.1, Option.bind_some, c8']
      by_cases c4 : wN (md s 44) < i3 8
      · have n4 : ¬ wN (md s 44) = i3 8 := fun e => by rw [e] at c4; exact absurd c4 (by decide +kernel)
        have c5 := not8 c4
        have n2 := w_lt h c5
        have gw : ∀ t : St, gI (H t) 8 44 14 = some (wN (md t 44)) := fun _ => rfl
        have e2 := sI64 (wM s 44 (uW (md s 44) (wN (md s 44) + i3 1))) (t := wN (md s 44)) (x := m) h.2.2.1.1 (by rw [md_wM]; show _ < (wS (md s 44)).length; rw [h.2.2.2.1.2.2.2]; exact n2)
        rw [md_wM, wM_wM] at e2
        rw [if_neg n4, if_pos c4, if_pos c4, (r_g s).2.2.2.2.2.2.2.2.1, Option.bind_some, Option.bind_some, p_14, Option.bind_some, e2, Option.bind_some, gw, Option.bind_some, md_wM]
        exact MC.set c (ok_addW h c5 y) (fun t ht => ht) _
      · have e4 : wN (md s 44) = i3 8 := by
          have a1 := h.2.2.1.2
          rw [Int32.le_iff_toInt_le] at a1
          rw [Int32.lt_iff_toInt_lt] at c4
          exact Int32.toInt_inj.mp (by omega)
        rw [if_pos e4, if_neg c4, if_neg c4, c6]
        exact MC.ref c isB6
    · have n : ¬ st3 (md s 44) m := fun e => c3 (iff.mpr e).2.2
      rw [if_neg (show ¬ Int32.ofInt 3 ≤ bs m from c3), if_neg n, if_neg n, cst.1]
      exact MC.ref c isB2
  · have n : ¬ st3 (md s 44) m := fun e => c2 (iff.mpr e).2.1
    rw [if_neg c2, if_neg n, if_neg n, cst.1]
    exact MC.ref c isB2
theorem e_12 (c : MI s) : MC s (m_215 44 (H s)) (wN (md s 44)) (uW (md s 44) (i3 0), (abM s).2) := by
  unfold m_215
  rw [(r_m s).1, Option.bind_some, (r_g s).2.2.2.1, Option.bind_some, p_14, Option.bind_some]
  exact MC.set c (ok_uW0 c.1.1) (fun t ht => ht) _
theorem e_13 (c : MI s) (t x : Int32) : MC s (m_217 44 t x (H s)) (vMove (md s 44) t x) (gMove (md s 44) t x, (abM s).2) := by
  obtain ⟨s1, e1, q1, k1⟩ := q_216 c.1 t x
  unfold m_217 vMove gMove
  rw [(r_m s).1, Option.bind_some, e1, Option.bind_some]
  dsimp only
  by_cases c1 : nomv (md s 44) t x = 0
  · obtain rfl := k1 c1
    obtain ⟨h1, h2, h3, h4⟩ := nomv_0 c1
    have hl := c.1.1.tl h1
    have hn := c.1.1.n_le
    rw [if_pos c1, if_pos c1, if_pos c1, (r_g s1).2.2.2.2.2.2.1, Option.bind_some, (r_g s1).2.2.2.2.2.2.2.2.2.2.1, c.1.1.at_c h1, Option.bind_some, Option.bind_some, sI62 s1 h1.1 (by rw [c.1.1.2.2.2.1.2.1]; omega), Option.bind_some]
    exact MC.set c (ok_mvT c.1.1 h1 h2 h4) (fun t ht => ht) _
  · rw [if_neg c1, if_neg c1, if_neg c1]
    exact ⟨s1, rfl, q1.eM.mi c, q1.eC, q1.eM.ab c.2.2.2.1.1⟩
theorem e_14 (c : MI s) : MC s (m_219 44 (H s)) (vFell (md s 44)) (gFell (md s 44), (abM s).2) := by
  unfold m_219 vFell gFell
  rw [(r_m s).1, Option.bind_some, q_218 c.1.1, Option.bind_some, bP_if]
  by_cases c1 : fel (md s 44)
  · have h := ok_fell c.1.1 c1
    have gt : ∀ t : St, gI (H t) 8 44 10 = some (tN (md t 44)) := fun _ => rfl
    obtain ⟨s1, e1, i1, m1, a1, em⟩ := q_207 (MJ_wM c.mj h)
    rw [if_pos c1, if_pos c1, if_pos c1, gt, Option.bind_some, p_10, Option.bind_some]
    show MC s ((m_207 44 (H (wM s 44 (uT (md s 44) (tN (md s 44) - i3 1))))).bind _) _ _
    rw [e1, Option.bind_some, gt, Option.bind_some, em, md_wM]
    exact ⟨s1, rfl, i1, (eC_wM h.sh c.1.1.sh).trans m1, a1.trans (ab_wM c.2.2.2.1.1 _)⟩
  · rw [if_neg c1, if_neg c1, if_neg c1, cst.2.2.2.1]
    exact MC.ref c isB5
theorem e_55 (c : MI s) (v : Int32) : MC s (m_297 44 v (H s)) (sE (md s 44)) (uE (md s 44) v, (abM s).2) := by
  unfold m_297
  rw [(r_m s).1, Option.bind_some, (r_g s).2.2.2.2.1, Option.bind_some, p_16, Option.bind_some]
  exact MC.set c (ok_uE c.1.1 v) (fun t ht => ht) _
/-! ===== the reference's tape ===== -/
theorem tape_MI (c : MI s) {l : List Int32} {n : Int32} (hl : l.length = 250) (h0 : ¬ n < 0) (h1 : n ≤ i3 250) : MI (sf (sa s 59 l) 44 7 n) ∧ eC s (sf (sa s 59 l) 44 7 n) ∧ abM (sf (sa s 59 l) 44 7 n) = ((abM s).1, (abM s).2.1, (l, n), (abM s).2.2.2) := by
  obtain ⟨c1, c2, c3, c4, c5⟩ := c
  have hmd : ∀ o, (o = 44 ∨ o = 67 ∨ o = 90) → md (sf (sa s 59 l) 44 7 n) o = md s o := fun o ho => by rcases ho with rfl | rfl | rfl <;> rfl
  refine ⟨⟨c1, c2, ⟨hl, h0, h1⟩, ⟨c4.1, fun o ho => ?_, fun o ho => ?_⟩, c5⟩, ((eC.refl s).a (by omega) (fun _ => by rw [hl, c3.1])).f (by omega), ?_⟩
  · rw [hmd o (c4.1.o (Or.inl ho))]
    exact c4.2.1 o ho
  · rw [hmd o (c4.1.o (Or.inr ho))]
    exact c4.2.2 o ho
  · have kp : kpM (sf (sa s 59 l) 44 7 n) = kpM s := by
      unfold kpM
      have e0 : kr (sf (sa s 59 l) 44 7 n) = kr s := rfl
      rw [e0]
      rcases c4.1 with ⟨-, a, b⟩ | ⟨-, a, b⟩ | ⟨-, a, b⟩ | ⟨-, a, b⟩ | ⟨-, a, b⟩ <;> rw [a] <;> rfl
    unfold abM
    rw [kp]
    rfl
theorem MC.tape {α : Type} (c : MI s) {l : List Int32} {n : Int32} (hl : l.length = 250) (h0 : ¬ n < 0) (h1 : n ≤ i3 250) (v : α) : MC s (some (v, H (sf (sa s 59 l) 44 7 n))) v ((abM s).1, (abM s).2.1, (l, n), (abM s).2.2.2) := by
  obtain ⟨a, b, d⟩ := tape_MI c hl h0 h1
  exact ⟨_, rfl, a, b, d⟩
theorem e_15 (c : MI s) (x : Int32) : MC s (m_220 44 x (H s)) (vFeed (ia s 59, fi s 44 7) x) ((abM s).1, (abM s).2.1, tFeed (ia s 59, fi s 44 7) x, (abM s).2.2.2) := by
  obtain ⟨t1, t2, t3⟩ := c.2.2.1
  have c250 : (Int16.ofInt 250).toInt32 = i3 250 := by decide +kernel
  have c6 : (Int8.ofInt (-6)).toInt32 = i3 (-6) := by decide +kernel
  have g7 : ∀ t : St, gI (H t) 8 44 7 = some (fi t 44 7) := fun _ => rfl
  have g6 : ∀ t : St, gN (H t) 8 44 6 = some 59 := fun _ => rfl
  have p7 : ∀ (t : St) x, pI (H t) 8 44 7 x = some (H (sf t 44 7 x)) := fun _ _ => rfl
  have s59 : ∀ (t : St) i x, sI (H t) 59 i x = (st32 (ia t 59) i x).map (fun l => H (sa t 59 l)) := fun _ _ _ => sI_of rfl
  unfold m_220 vFeed tFeed
  rw [(r_m s).1, Option.bind_some, jc.1, jc.2.2.2.2.2.2.2.2.2.2.2.2.1, q_190, Option.bind_some, bP_if]
  by_cases c1 : x < 0
  · rw [if_neg (fun e => e.1 c1), if_pos c1, if_pos c1, cst.1]
    exact MC.refE c isB2
  rw [if_neg c1, if_neg c1]
  by_cases c2 : x ≤ i3 255
  · rw [if_pos ⟨c1, Int32.not_lt.mpr c2⟩, if_pos c2, if_pos c2, g7, Option.bind_some, c250]
    by_cases c3 : fi s 44 7 < i3 250
    · have n3 : ¬ fi s 44 7 = i3 250 := fun e => by rw [e] at c3; exact absurd c3 (by decide +kernel)
      have hb : (fi s 44 7).toNatClampNeg < 250 := lt_cl (b := 250) (by omega) t2 (Int32.not_le.mpr c3)
      have en := i3_cl t2
      have e2 : fi s 44 7 + i3 1 = i3 (((fi s 44 7).toNatClampNeg + 1 : Nat) : Int) := by
        rw [← i3_nat_add, ← en]
      have i59 : ∀ y, ia (sf s 44 7 y) 59 = ia s 59 := fun _ => rfl
      have f7 : ∀ (l : List Int32) y, fi (sa (sf s 44 7 y) 59 l) 44 7 = y := fun _ _ => rfl
      rw [if_neg n3, if_pos (show (ia s 59, fi s 44 7).2 < i3 250 from c3), if_pos (show (ia s 59, fi s 44 7).2 < i3 250 from c3), g6, Option.bind_some, Option.bind_some, p7, Option.bind_some, s59, i59, st_wr t2 (by rw [t1]; exact hb), Option.map_some, Option.bind_some, g7, Option.bind_some, f7]
      exact MC.tape c (l := (ia s 59).set (fi s 44 7).toNatClampNeg x) (n := fi s 44 7 + i3 1) ((List.length_set).trans t1) (by rw [e2]; exact i3n_nneg (by omega)) (by rw [e2]; exact (i3n_le (b := 250) (by omega) (by omega)).mpr (by omega)) _
    · have e3 : fi s 44 7 = i3 250 := by
        rw [Int32.le_iff_toInt_le] at t3
        rw [Int32.lt_iff_toInt_lt] at c3
        exact Int32.toInt_inj.mp (by omega)
      rw [if_pos e3, if_neg (show ¬ (ia s 59, fi s 44 7).2 < i3 250 from c3), if_neg (show ¬ (ia s 59, fi s 44 7).2 < i3 250 from c3), c6]
      exact MC.refE c isB6
  · rw [if_neg (fun e => e.2 (Int32.not_le.mp c2)), if_neg c2, if_neg c2, cst.1]
    exact MC.refE c isB2
theorem e_16 (c : MI s) : MC s (m_221 44 (H s)) (fi s 44 7) ((abM s).1, (abM s).2.1, (ia s 59, i3 0), (abM s).2.2.2) := by
  have g7 : ∀ t : St, gI (H t) 8 44 7 = some (fi t 44 7) := fun _ => rfl
  have p7 : ∀ (t : St) x, pI (H t) 8 44 7 x = some (H (sf t 44 7 x)) := fun _ _ => rfl
  unfold m_221
  rw [(r_m s).1, Option.bind_some, g7, Option.bind_some, p7, Option.bind_some]
  have := MC.tape c (l := ia s 59) (n := i3 0) c.2.2.1.1 (by decide +kernel) (by decide +kernel) (fi s 44 7)
  rw [sa_id] at this
  exact this
end MP
