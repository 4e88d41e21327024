/-! ===== the reference in truth: turnings, the best move, plantings ===== -/
section MT
variable {s : St}
theorem q_292 (h : ok (md s 44)) : m_292 44 (H s) = some (cnt (md s 44) (i3 1)) := by
  unfold m_292
  rw [(r_m s).1, Option.bind_some]
  refine (lp0 (nn (md s 44)) (by have := h.n_le; omega) (fun t a => (a, t)) (fun a => a) (cntF (md s 44) (i3 1)) (fun _ => True) (i3 0) ?_ (fun _ _ _ _ => trivial) ?_ trivial).trans rfl
  · intro k m nx ex hk _
    dsimp only
    rw [(r_g s).2.2.1, Option.bind_some, if_neg (h.T hk).2, q_197 h (h.T hk), Option.bind_some, jnE, bP_if]
    dsimp only
    unfold cntF
    by_cases d : kOf (kA (md s 44) (i3 (k : Int))) (i3 1)
    · rw [if_pos d, if_pos d]
    · rw [if_neg d, if_neg d, add0]
  · intro a nx ex _
    dsimp only
    rw [(r_g s).2.2.1, Option.bind_some, if_pos (h.Te (Nat.le_refl _) (by have := h.n_le; omega))]
theorem dvz {g : Gd} (h : ¬ sD g = 0) (a : Int32) : dvI a (sD g) = some (rO g a) := if_neg h
theorem rmz {g : Gd} (h : ¬ sD g = 0) (a : Int32) : rmI a (sD g) = some (cO g a) := if_neg h
theorem q_281d (h : ¬ sD (md s 44) = 0) (c : Int32) : m_281 44 c (H s) = some (trM (md s 44) c) := by
  unfold m_281 trM
  simp only [r_g, Option.bind_some, dvz h, rmz h]
theorem q_282d (h : ¬ sD (md s 44) = 0) (c : Int32) : m_282 44 c (H s) = some (miM (md s 44) c) := by
  unfold m_282 miM
  simp only [r_g, Option.bind_some, dvz h, rmz h]
theorem trM_eq {g : Gd} (h : ok g) {c : Int32} (hc : isCl g c) : trM g c = trn g c := by
  have hk := h.cl hc
  have h1 := h.d_le
  have h3 := h.cc_le
  have h4 := cell_rc hk
  rw [i3_cl hc.1, ok_trn h hk]
  unfold trM
  rw [h.ro (by omega), h.co (by omega), h.d_eq, i3_mul, i3_add, i3_sub, i3_sub]
  congr 1
  rw [Int.natCast_add, Int.natCast_mul]
  generalize c.toNatClampNeg / dn g = r at h4
  generalize c.toNatClampNeg % dn g = q at h4
  generalize (q : Int) * (dn g : Int) = z
  omega
theorem miM_eq {g : Gd} (h : ok g) {c : Int32} (hc : isCl g c) : miM g c = mir g c := by
  have hk := h.cl hc
  have h1 := h.d_le
  have h3 := h.cc_le
  have h4 := cell_rc hk
  rw [i3_cl hc.1, ok_mir h hk]
  unfold miM
  rw [h.ro (by omega), h.co (by omega), h.d_eq, i3_mul, i3_add, i3_sub, i3_sub]
  congr 1
  rw [Int.natCast_add, Int.natCast_mul]
  generalize c.toNatClampNeg / dn g = r at h4
  generalize c.toNatClampNeg % dn g = q at h4
  generalize (r : Int) * (dn g : Int) = z
  omega
theorem mp_eq {f f' : Int32 → Int32} : ∀ (n : Nat) (l : List Int32), n ≤ l.length → (∀ k, k < n → f (l.getD k 0) = f' (l.getD k 0)) → itr (mpF f) n l = itr (mpF f') n l
  | 0, _, _, _ => rfl
  | n + 1, l, hn, hf => by
    show mpF f n (itr (mpF f) n l) = mpF f' n (itr (mpF f') n l)
    rw [mp_eq n l (by omega) (fun k hk => hf k (by omega))]
    unfold mpF
    have e := (mpF_get (f := f') n l (by omega)).2 n
    rw [if_neg (Nat.lt_irrefl _)] at e
    have e2 : (itr (fun k l => l.set k (f' (l.getD k 0))) n l).getD n 0 = l.getD n 0 := e
    rw [e2, hf n (by omega)]
theorem mpC_eq {g : Gd} (h : ok g) {f f' : Int32 → Int32} (hf : ∀ c, isCl g c → f c = f' c) : mpC g f = mpC g f' := by
  unfold mpC
  exact congrArg (uC g) (mp_eq (nn g) (cS g) (by rw [h.2.2.2.1.2.1]; exact h.n_le) (fun k hk => by
    have h1 := h.2.2.2.2.2.1 _ (h.T hk)
    have e : cA g (i3 (k : Int)) = (cS g).getD k 0 := rd_i3 (by have := h.n_le; omega)
    rw [e] at h1
    exact hf _ h1))
theorem H_uM (s : St) : H s = H (wM s 44 (uC (md s 44) (cS (md s 44)))) := by
  rw [show uC (md s 44) (cS (md s 44)) = md s 44 from rfl, wM_id]
theorem e_tm (c : MI s) {f f' : Int32 → Int32} {M : Int32 → tH → Option Int32} (hM : ∀ (t : St), sD (md t 44) = sD (md s 44) → ∀ x, M x (H t) = some (f x)) (hf : ∀ c, isCl (md s 44) c → f c = f' c) (hk : ok (mpC (md s 44) f')) : MC s (lp (fun (s1 : Int32 × tH) nx2 ex3 => (gI s1.2 8 44 10).bind fun x6 => if x6 ≤ s1.1 then ex3 s1.2 else (gN s1.2 8 44 12).bind fun o7 => (gN s1.2 8 44 12).bind fun o8 => (aI s1.2 o8 s1.1).bind fun x9 => (M x9 s1.2).bind fun x10 => (sI s1.2 o7 s1.1 x10).bind fun th11 => nx2 ((s1.1 + Int32.ofInt 1), th11)) 4096 ((Int32.ofInt 0), H s) (fun (x4 : tH) => (m_292 44 x4).bind fun x5 => some (x5, x4))) (cnt (md s 44) (i3 1)) (mpC (md s 44) f', (abM s).2) := by
  have h := c.1.1
  have hn := h.n_le
  have gt : ∀ t : St, gI (H t) 8 44 10 = some (tN (md t 44)) := fun _ => rfl
  have g12 : ∀ t : St, gN (H t) 8 44 12 = some 62 := fun _ => rfl
  have a62 : ∀ (t : St) i, aI (H t) 62 i = at32 (cS (md t 44)) i := fun _ _ => aI_of rfl
  have L := lp0 (R := Int32 × tH) (X := tH) (K := fun (x4 : tH) => (m_292 44 x4).bind fun x5 => some (x5, x4)) (F := fun (s1 : Int32 × tH) nx2 ex3 => (gI s1.2 8 44 10).bind fun x6 => if x6 ≤ s1.1 then ex3 s1.2 else (gN s1.2 8 44 12).bind fun o7 => (gN s1.2 8 44 12).bind fun o8 => (aI s1.2 o8 s1.1).bind fun x9 => (M x9 s1.2).bind fun x10 => (sI s1.2 o7 s1.1 x10).bind fun th11 => nx2 ((s1.1 + Int32.ofInt 1), th11)) (nn (md s 44)) (by have := h.n_le; omega) (fun t (l : List Int32) => (t, H (wM s 44 (uC (md s 44) l)))) (fun l => H (wM s 44 (uC (md s 44) l))) (mpF f) (fun l => l.length = 12) (cS (md s 44)) ?_ ?_ ?_ h.2.2.2.1.2.1
  · rw [← H_uM] at L
    rw [L]
    have e0 : uC (md s 44) (itr (mpF f) (nn (md s 44)) (cS (md s 44))) = mpC (md s 44) f' := mpC_eq h hf
    rw [e0]
    have e1 := q_292 (s := wM s 44 (mpC (md s 44) f')) (by rw [md_wM]; exact hk)
    rw [md_wM] at e1
    rw [e1, Option.bind_some]
    exact MC.set c hk (fun t ht => ht) _
  · intro k l nx ex hk hl
    have e1 : ¬ tN (uC (md s 44) l) ≤ i3 (k : Int) := (h.T hk).2
    have e2 : at32 (cS (uC (md s 44) l)) (i3 (k : Int)) = some (l.getD k 0) := by
      show at32 l _ = _
      rw [at32_nat (by omega), List.getD_eq_getElem?_getD, List.getElem?_eq_getElem (by omega)]; rfl
    have e4 := sI62 (wM s 44 (uC (md s 44) l)) (t := i3 (k : Int)) (x := f (l.getD k 0)) (i3n_nneg (by omega)) (by rw [md_wM, cl_i3 (by omega)]; show k < l.length; omega)
    rw [md_wM, wM_wM, cl_i3 (by omega)] at e4
    dsimp only
    rw [gt, Option.bind_some, md_wM, if_neg e1, g12, Option.bind_some, Option.bind_some, a62, md_wM, e2, Option.bind_some, hM _ (by rw [md_wM]; rfl), Option.bind_some, e4, Option.bind_some]
    rfl
  · intro k l _ hl
    exact (List.length_set).trans hl
  · intro l nx ex hl
    have e1 : tN (uC (md s 44) l) ≤ i3 (nn (md s 44) : Int) := h.Te (Nat.le_refl _) (by have := h.n_le; omega)
    dsimp only
    rw [gt, Option.bind_some, md_wM, if_pos e1]
theorem e_51 (c : MI s) : MC s (m_293 44 (H s)) (cnt (md s 44) (i3 1)) (mpC (md s 44) (trn (md s 44)), (abM s).2) := by
  have d0 := c.1.1.d_0
  unfold m_293
  rw [(r_m s).1, Option.bind_some]
  refine e_tm c (f := trM (md s 44)) (M := fun x th => m_281 44 x th) (fun t et x => ?_) (fun x hx => trM_eq c.1.1 hx) (ok_turn c.1.1)
  rw [q_281d (by rw [et]; exact d0)]
  unfold trM rO cO
  rw [et]
theorem e_52 (c : MI s) : MC s (m_294 44 (H s)) (cnt (md s 44) (i3 1)) (mpC (md s 44) (mir (md s 44)), (abM s).2) := by
  have d0 := c.1.1.d_0
  unfold m_294
  rw [(r_m s).1, Option.bind_some]
  refine e_tm c (f := miM (md s 44)) (M := fun x th => m_282 44 x th) (fun t et x => ?_) (fun x hx => miM_eq c.1.1 hx) (ok_mirr c.1.1)
  rw [q_282d (by rw [et]; exact d0)]
  unfold miM rO cO
  rw [et]
/-! ===== improve ===== -/
noncomputable def mvP (g : Gd) (a : Mv) : Prop := a = (i3 (-1), i3 (-1), i3 (-1)) ∨ (isT g a.1 ∧ isCl g a.2.1 ∧ tIn g a.2.1 = i3 (-1))
theorem fb_P {g : Gd} (h : ok g) (V : Gd → Int32) : mvP g (fb g V) := by
  unfold fb
  refine itr_inv _ _ (Or.inl rfl) (fun k b hk hb => ?_)
  unfold fbF
  split
  · exact hb
  · refine itr_inv _ _ hb (fun q a hq ha => ?_)
    unfold fcF
    split
    · rename_i e
      split
      · exact ha
      · exact Or.inr ⟨h.T hk, h.C hq, e⟩
    · exact ha
theorem t3_nat (L : List Int32) : ∀ n, ∃ j, j ≤ n ∧ itr (t3F L) n (i3 0) = i3 (j : Int)
  | 0 => ⟨0, Nat.le_refl _, rfl⟩
  | n + 1 => by
    obtain ⟨j, hj, e⟩ := t3_nat L n
    have e2 : itr (t3F L) (n + 1) (i3 0) = if bct (lg L n) < i3 3 then i3 (j : Int) else i3 (j : Int) + i3 1 := by
      show t3F L n (itr (t3F L) n (i3 0)) = _
      rw [e]
      rfl
    rw [e2]
    split
    · exact ⟨j, by omega, rfl⟩
    · exact ⟨j + 1, by omega, i3_nat_add j⟩
noncomputable def xImp (g : Gd) : Int32 := if t3 (RL g) < (fb g V3).2.2 then (fb g V3).2.2 else t3 (RL g)
noncomputable def gxImp (g : Gd) : Gd := if t3 (RL g) < (fb g V3).2.2 then mvT g (fb g V3).1 (fb g V3).2.1 else g
theorem imp_ok {g : Gd} (h : ok g) (d : t3 (RL g) < (fb g V3).2.2) : isT g (fb g V3).1 ∧ isCl g (fb g V3).2.1 ∧ tIn g (fb g V3).2.1 = i3 (-1) := by
  rcases fb_P h V3 with e | e
  · rw [e] at d
    obtain ⟨j, hj, ej⟩ := t3_nat (RL g) (RL g).length
    have hl := RL_len h
    have e2 : t3 (RL g) = i3 (j : Int) := ej
    rw [e2] at d
    have d2 : i3 (j : Int) < i3 (-1) := d
    rw [i3_lt ⟨by omega, by omega⟩ ⟨by omega, by omega⟩] at d2
    omega
  · exact e
theorem e_53 (c : MI s) : MC s (m_267 44 (H s)) (xImp (md s 44)) (gxImp (md s 44), (abM s).2) := by
  have g30 : ∀ t : St, gI (H t) 8 44 30 = some (fi t 44 30) := fun _ => rfl
  have g29 : ∀ t : St, gI (H t) 8 44 29 = some (fi t 44 29) := fun _ => rfl
  have g28 : ∀ t : St, gI (H t) 8 44 28 = some (fi t 44 28) := fun _ => rfl
  have g12 : ∀ t : St, gN (H t) 8 44 12 = some 62 := fun _ => rfl
  obtain ⟨s1, e1, q1⟩ := q_243 c.1.1 c.1.2.1
  have m1 : md s1 44 = md s 44 := q1.1.m (Or.inl rfl)
  obtain ⟨s2, e2, q2, b2⟩ := q_262 (s := s1) (by rw [m1]; exact c.1.1) (q1.1.z c.1.2.1) (w := Int32.ofInt 0) (V := V3) (Or.inl ⟨rfl, rfl⟩)
  rw [m1] at b2
  have q12 : qq s s2 := (q1.1.trans q2).q
  have c2 := q12.eM.mi c
  have m2 : md s2 44 = md s 44 := q12.m (Or.inl rfl)
  have x1 : fi s2 44 28 = (fb (md s 44) V3).1 := congrArg (·.1) b2
  have x2 : fi s2 44 29 = (fb (md s 44) V3).2.1 := congrArg (·.2.1) b2
  have x3 : fi s2 44 30 = (fb (md s 44) V3).2.2 := congrArg (·.2.2) b2
  unfold m_267 xImp gxImp
  rw [(r_m s).1, Option.bind_some, e1, Option.bind_some]
  dsimp only
  rw [e2, Option.bind_some, g30, Option.bind_some, x3]
  by_cases d1 : t3 (RL (md s 44)) < (fb (md s 44) V3).2.2
  · obtain ⟨k1, k2, k3⟩ := imp_ok c.1.1 d1
    have hl := c.1.1.tl k1
    have hn := c.1.1.n_le
    have e4 := sI62 s2 (t := (fb (md s 44) V3).1) (x := (fb (md s 44) V3).2.1) k1.1 (by rw [m2, c.1.1.2.2.2.1.2.1]; omega)
    rw [m2] at e4
    have x4 : fi (wM s2 44 (uC (md s 44) ((cS (md s 44)).set (fb (md s 44) V3).1.toNatClampNeg (fb (md s 44) V3).2.1))) 44 30 = fi s2 44 30 := rfl
    rw [if_pos d1, if_pos d1, if_pos d1, g12, Option.bind_some, g28, Option.bind_some, g29, Option.bind_some, x1, x2, e4, Option.bind_some, g30, Option.bind_some, x4, x3]
    have hk := ok_mvT c.1.1 k1 k2 k3
    obtain ⟨s3, y1, y2, y3, y4⟩ := MC.set (s := s2) c2 hk (fun t ht => by rw [m2] at ht; exact ht) (fb (md s 44) V3).2.2
    refine ⟨s3, y1, y2, q12.eC.trans y3, ?_⟩
    rw [y4, q12.eM.ab c.2.2.2.1.1]
  · rw [if_neg d1, if_neg d1, if_neg d1]
    exact ⟨s2, rfl, c2, q12.eC, q12.eM.ab c.2.2.2.1.1⟩
/-! ===== plant ===== -/
theorem q_295 {n : Int32} (h0 : ¬ n = 0) : m_295 44 n (H s) = some (dr (nxs (sE (md s 44))) n, H (wM s 44 (uE (md s 44) (nxs (sE (md s 44)))))) := by
  have x1 : ∀ (g : Gd) x, sE (uE g x) = x := fun _ _ => rfl
  have c1 : (Int16.ofInt 12345).toInt32 = i3 12345 := by decide +kernel
  have c2 : (Int8.ofInt 16).toInt32 = i3 16 := by decide +kernel
  have gE : ∀ t : St, gI (H t) 8 44 16 = some (sE (md t 44)) := fun _ => rfl
  unfold m_295
  rw [(r_m s).1, Option.bind_some, gE, Option.bind_some, p_16, Option.bind_some, gE, Option.bind_some, md_wM, x1, c1, c2]
  unfold rmI
  rw [if_neg h0, Option.bind_some]
  rfl
theorem uE_uE (g : Gd) (x y : Int32) : uE (uE g x) y = uE g y := rfl
theorem tN_uE (g : Gd) (x : Int32) : tN (uE g x) = tN g := rfl
theorem cc_uE (g : Gd) (x : Int32) : cc (uE g x) = cc g := rfl
theorem tIn_uE (g : Gd) (x c : Int32) : tIn (uE g x) c = tIn g c := rfl
theorem isCl_uE {g : Gd} {c : Int32} (x : Int32) (h : isCl g c) : isCl (uE g x) c := h
theorem sE_uE (g : Gd) (x : Int32) : sE (uE g x) = x := rfl
theorem cc_0 {g : Gd} (h : ok g) : ¬ cc g = 0 := by
  have h1 := h.d_ge
  have h2 := h.cc_le
  have h3 : 9 ≤ dn g * dn g := Nat.mul_le_mul h1 h1
  rw [h.cc_eq]
  exact fun e => by
    have := (i3n_inj (b := 0) (by omega) (by omega)).mp e
    omega
/-- the next cell, the first one behind the last -/
theorem nx_cl {g : Gd} (h : ok g) {c : Int32} (hc : isCl g c) : rmI (c + i3 1) (cc g) = some (if cc g ≤ c + i3 1 then i3 0 else c + i3 1) ∧ isCl g (if cc g ≤ c + i3 1 then i3 0 else c + i3 1) := by
  have hk := h.cl hc
  have h2 := h.cc_le
  have h0 := cc_0 h
  have e1 : c + i3 1 = i3 ((c.toNatClampNeg + 1 : Nat) : Int) := by
    rw [← i3_nat_add, ← i3_cl hc.1]
  unfold rmI
  rw [if_neg h0, e1]
  have e2 : i3 ((c.toNatClampNeg + 1 : Nat) : Int) - i3 ((c.toNatClampNeg + 1 : Nat) : Int) / cc g * cc g = i3 (((c.toNatClampNeg + 1) % (dn g * dn g) : Nat) : Int) := by
    rw [h.cc_eq]
    exact i3_modN (by omega) (by omega)
  rw [e2]
  by_cases d : dn g * dn g ≤ c.toNatClampNeg + 1
  · have d' : cc g ≤ i3 ((c.toNatClampNeg + 1 : Nat) : Int) := h.Ce d (by omega)
    have e3 : c.toNatClampNeg + 1 = dn g * dn g := by omega
    rw [if_pos d']
    refine ⟨?_, h.C (k := 0) (by omega)⟩
    rw [e3, Nat.mod_self]
    rfl
  · have d' := (h.C (k := c.toNatClampNeg + 1) (by omega))
    rw [if_neg d'.2, Nat.mod_eq_of_lt (by omega)]
    exact ⟨rfl, d'⟩
theorem lp_nx {g : Gd} (h : ok g) {s1 : St} (hs : md s1 44 = g) {R : Type} (K : Int32 → Option R) : ∀ (n fuel : Nat) (c : Int32), isCl g c → tIn g (nfF g n c) = i3 (-1) → n < fuel → lp (fun (s12 : Int32) nx13 ex14 => (m_194 44 s12 (H s1)).bind fun x18 => if x18 = (Int32.ofInt (-1)) then ex14 s12 else (m_192 44 (H s1)).bind fun x19 => (rmI (s12 + (Int32.ofInt 1)) x19).bind fun x20 => nx13 x20) fuel c K = K (nfF g n c)
  | n, 0, c, _, _, hf => absurd hf (Nat.not_lt_zero _)
  | 0, fuel + 1, c, hc, ht, hf => by
    have ht' : tIn g c = i3 (-1) := ht
    have h1 : ok (md s1 44) := by rw [hs]; exact h
    rw [lp_s, q_194 h1, Option.bind_some, hs, if_pos (show _ = Int32.ofInt (-1) from ht')]
    rfl
  | n + 1, fuel + 1, c, hc, ht, hf => by
    have h1 : ok (md s1 44) := by rw [hs]; exact h
    have en : nfF g (n + 1) c = if tIn g c = i3 (-1) then c else nfF g n (if cc g ≤ c + i3 1 then i3 0 else c + i3 1) := rfl
    rw [en] at ht ⊢
    rw [lp_s, q_194 h1, Option.bind_some, hs]
    by_cases d : tIn g c = i3 (-1)
    · rw [if_pos (show _ = Int32.ofInt (-1) from d), if_pos d]
    · rw [if_neg d] at ht
      obtain ⟨e1, e2⟩ := nx_cl h hc
      have gen : ∀ (f : Int32 → Option R), (m_192 44 (H s1)).bind f = f (cc g) := fun f => by
        rw [q_192, hs]
        rfl
      rw [if_neg (show ¬ _ = Int32.ofInt (-1) from d), if_neg d]
      refine (gen _).trans ?_
      dsimp only
      rw [e1, Option.bind_some]
      exact lp_nx h hs K n fuel _ e2 ht (by omega)
theorem e_54 (c : MI s) (n : Int32) : MC s (m_296 44 n (H s)) (vPlant (md s 44) n) (gPlant (md s 44) n, (abM s).2) := by
  have c12 : (Int8.ofInt 12).toInt32 = i3 12 := by decide +kernel
  have c6 : (Int8.ofInt 6).toInt32 = i3 6 := by decide +kernel
  have c10 : (Int8.ofInt 10).toInt32 = i3 10 := by decide +kernel
  have z6 : ¬ i3 6 = 0 := by decide +kernel
  have z10 : ¬ i3 10 = 0 := by decide +kernel
  have gt : ∀ t : St, gI (H t) 8 44 10 = some (tN (md t 44)) := fun _ => rfl
  unfold m_296 vPlant gPlant
  rw [(r_m s).1, Option.bind_some, jc.2.1, jc.2.2.2.2.2.2.2.2.2.1, q_190, Option.bind_some, bP_if, c12, c6, c10]
  by_cases c1 : n < i3 1
  · rw [if_neg (fun e => e.1 c1), if_pos c1, if_pos c1, cst.1]
    exact MC.ref c isB2
  rw [if_neg c1, if_neg c1]
  by_cases c2 : n ≤ i3 12
  · rw [if_pos ⟨c1, Int32.not_lt.mpr c2⟩, if_pos c2, if_pos c2]
    have n0 : ¬ n < 0 := by
      rw [Int32.lt_iff_toInt_lt] at c1 ⊢
      have e : (0 : Int32).toInt = 0 := by decide +kernel
      have e2 : (i3 1).toInt = 1 := by decide +kernel
      omega
    have n12 : n.toNatClampNeg ≤ 12 := le_cl (b := 12) (by omega) n0 c2
    have en := i3_cl n0
    have hP := plG_ok n.toNatClampNeg (md s 44) c.1.1
    suffices T (lp (fun (s2 : Int32 × tH) nx3 ex4 => if n ≤ s2.1 then ex4 (s2.1, s2.2) else (gI s2.2 8 44 10).bind fun x6 => if i3 12 ≤ x6 then ex4 (s2.1, s2.2) else (gI s2.2 8 44 10).bind fun x7 => (m_192 44 s2.2).bind fun x8 => if x8 ≤ x7 then ex4 (s2.1, s2.2) else (m_295 44 (i3 6) s2.2).bind fun q9 => (m_192 44 q9.2).bind fun x10 => (m_295 44 x10 q9.2).bind fun q11 => lp (fun (s12 : Int32) nx13 ex14 => (m_194 44 s12 q11.2).bind fun x18 => if x18 = (Int32.ofInt (-1)) then ex14 s12 else (m_192 44 q11.2).bind fun x19 => (rmI (s12 + (Int32.ofInt 1)) x19).bind fun x20 => nx13 x20) 4096 q11.1 (fun (x15 : Int32) => (m_295 44 (i3 10) q11.2).bind fun q16 => (m_212 44 q9.1 x15 q16.1 q16.2).bind fun th17 => nx3 ((s2.1 + Int32.ofInt 1), th17))) 4096 ((Int32.ofInt 0), H s) (fun (x5 : Int32 × tH) => some (x5.1, x5.2))) (fun r => r = (i3 ((plG n.toNatClampNeg (md s 44)).2 : Int), H (wM s 44 (plG n.toNatClampNeg (md s 44)).1))) by
      obtain ⟨r, e1, rfl⟩ := this
      refine Eq.mp (congrArg (fun z => MC s z _ _) e1.symm) ?_
      exact MC.set c hP.1 hP.2 _
    refine lpH n.toNatClampNeg (fun k q => ∃ g', q = (i3 (k : Int), H (wM s 44 g')) ∧ ok g' ∧ plG n.toNatClampNeg (md s 44) = ((plG (n.toNatClampNeg - k) g').1, (plG (n.toNatClampNeg - k) g').2 + k)) (fun x => x = (i3 ((plG n.toNatClampNeg (md s 44)).2 : Int), H (wM s 44 (plG n.toNatClampNeg (md s 44)).1))) ?_ ?_ ?_ ?_ (by omega)
    · rintro k _ hk ⟨g', rfl, h', e'⟩ nx ex hnx hex
      have e1 : ¬ n ≤ i3 (k : Int) := by rw [en, i3n_le (by omega) (by omega)]; omega
      obtain ⟨d, hd⟩ : ∃ d, n.toNatClampNeg - k = d + 1 := ⟨n.toNatClampNeg - k - 1, by omega⟩
      have hd2 : n.toNatClampNeg - (k + 1) = d := by omega
      rw [hd, plG_s] at e'
      have stop : ¬ room g' → T (ex (i3 (k : Int), H (wM s 44 g'))) (fun r => r = (i3 ((plG n.toNatClampNeg (md s 44)).2 : Int), H (wM s 44 (plG n.toNatClampNeg (md s 44)).1))) := fun hr => by
        refine hex _ ?_
        rw [if_neg hr] at e'
        rw [e']
        show (i3 (k : Int), _) = (i3 ((0 + k : Nat) : Int), _)
        rw [Nat.zero_add]
      dsimp only
      rw [if_neg e1, gt, Option.bind_some, md_wM]
      by_cases r1 : i3 12 ≤ tN g'
      · rw [if_pos r1]
        exact stop (fun e => e.1 r1)
      rw [if_neg r1, Option.bind_some, q_192, Option.bind_some, md_wM]
      by_cases r2 : cc g' ≤ tN g'
      · rw [if_pos r2]
        exact stop (fun e => e.2 r2)
      have hr : room g' := ⟨r1, r2⟩
      rw [if_pos hr] at e'
      have hcell := drw_cell h' r2
      have q1 := q_295 (s := wM s 44 g') z6
      rw [md_wM, wM_wM] at q1
      have q2 := q_295 (s := wM s 44 (uE g' (nxs (sE g')))) (n := cc g') (cc_0 h')
      rw [md_wM, wM_wM, sE_uE, uE_uE] at q2
      have q3 := q_295 (s := wM s 44 (uE g' (nxs (nxs (sE g'))))) z10
      rw [md_wM, wM_wM, sE_uE, uE_uE] at q3
      have hu : ∀ x, ok (uE g' x) := fun x => ok_uE h' x
      have q4 := fun k c a => q_212 (s := wM s 44 (uE g' (nxs (nxs (nxs (sE g')))))) (by rw [md_wM]; exact hu _) (by rw [md_wM, tN_uE]; exact r1) k c a
      have q4' : ∀ k c a, m_212 44 k c a (H (wM s 44 (uE g' (nxs (nxs (nxs (sE g'))))))) = some (H (wM s 44 (addT (uE g' (nxs (nxs (nxs (sE g'))))) k c a))) := fun k c a => by
        have := q4 k c a
        rw [md_wM, wM_wM] at this
        exact this
      have hdr : isCl g' (dr (nxs (nxs (sE g'))) (cc g')) := by
        have h1 := h'.d_ge
        have h2 := h'.cc_le
        have h3 : 9 ≤ dn g' * dn g' := Nat.mul_le_mul h1 h1
        obtain ⟨q, hq, e⟩ := dr_bd (n := dn g' * dn g') (by omega) (nxs (nxs (sE g')))
        rw [h'.cc_eq, e]
        exact h'.C hq
      have lpn := fun K => lp_nx (R := Int32 × tH) (hu (nxs (nxs (sE g')))) (s1 := wM s 44 (uE g' (nxs (nxs (sE g'))))) (md_wM _ _ _) K (dn g' * dn g') 4096 (dr (nxs (nxs (sE g'))) (cc g')) (isCl_uE _ hdr) (by rw [nfF_uE, tIn_uE]; exact hcell.2) (by have := h'.cc_le; omega)
      rw [if_neg r2, q1, Option.bind_some]
      dsimp only
      rw [q_192, Option.bind_some, md_wM, cc_uE, q2, Option.bind_some]
      dsimp only
      rw [lpn, q3, Option.bind_some]
      dsimp only
      rw [q4', Option.bind_some, i3_nat_add, nfF_uE]
      refine hnx _ ⟨drw g', rfl, ok_drw h' hr.1 hr.2, ?_⟩
      rw [hd2]
      refine e'.trans (Prod.ext rfl ?_)
      show (plG d (drw g')).2 + 1 + k = (plG d (drw g')).2 + (k + 1)
      omega
    · rintro _ ⟨g', rfl, h', e'⟩ nx ex hex
      have e1 : n ≤ i3 (n.toNatClampNeg : Int) := by rw [← en]; exact Int32.le_refl _
      dsimp only
      rw [if_pos e1]
      refine hex _ ?_
      rw [e', Nat.sub_self]
      show (i3 (n.toNatClampNeg : Int), _) = (i3 ((0 + n.toNatClampNeg : Nat) : Int), _)
      rw [Nat.zero_add]
      rfl
    · intro x hx
      rw [hx]
      exact T_some rfl
    · exact ⟨md s 44, by rw [wM_id]; rfl, c.1.1, rfl⟩
  · rw [if_neg (fun e => e.2 (Int32.not_le.mp c2)), if_neg c2, if_neg c2, cst.1]
    exact MC.ref c isB2
end MT
