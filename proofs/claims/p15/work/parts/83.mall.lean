/-! ===== the reference reads a whole tape ===== -/
section MAL
variable {s : St} {b : List Int32} {n : Nat} {t : Tk} {g : Gd} {d : List Int32} {w : Int32}
theorem q_230 (h : rst s b n t g d) (c1 : wN g < i3 8) : PM s b n (m_230 44 (H s)) (pWish b n g t w) := by
  have hok := h.2.2.2.2.1
  have hn := hok.n_le
  obtain ⟨s0, e0, k0, u0⟩ := h.look
  unfold m_230 pWish
  rw [(r_m s).1, Option.bind_some, e0, Option.bind_some, if_pos c1]
  have hst := fun ht => pWl_ok (b := b) (n := n) hok 13 0 (i3 0) t 0 rfl (Nat.two_pow_pos _) rfl rfl ht
  generalize hP : pWl b n g 13 0 (i3 0) t = P at hst ⊢
  refine PM.u ?_ u0
  suffices T (lp (fun (s2 : Int32 × Int32 × tH) nx3 ex4 => jn (fun (v11 : Unit) => (gI s2.2.2 8 44 20).bind fun x13 => jn (fun (v14 : Unit) => (m_225 44 s2.2.2).bind fun q16 => (rB q16.1).bind fun y17 => some (y17, q16.2)) (fun j15 => if x13 = (Int32.ofInt 2) then (gI s2.2.2 8 44 22).bind fun x18 => (m_191 44 x18 s2.2.2).bind fun x19 => if x19 = 0 then j15 () else (gI s2.2.2 8 44 22).bind fun x20 => (m_195 s2.1 x20 s2.2.2).bind fun x21 => if x21 = 0 then (gI s2.2.2 8 44 22).bind fun x22 => (m_224 44 s2.2.2).bind fun th23 => nx3 ((s2.1 ||| ((Int32.ofInt 1) <<< (x22 &&& 31))), (s2.2.1 + Int32.ofInt 1), th23) else j15 () else j15 ())) (fun j12 => if s2.2.1 < (Int32.ofInt 3) then j12 () else (gI s2.2.2 8 44 20).bind fun x27 => if x27 = (Int32.ofInt 2) then j12 () else ex4 (s2.1, s2.2.2))) 4096 ((Int32.ofInt 0), (Int32.ofInt 0), H s0) (fun (x5 : Int32 × tH) => (gN x5.2 8 44 15).bind fun o6 => (gI x5.2 8 44 14).bind fun x7 => (pI x5.2 8 44 14 (x7 + (Int32.ofInt 1))).bind fun th8 => (sI th8 o6 x7 x5.1).bind fun th9 => (rB (Int32.ofInt 1)).bind fun y10 => some (y10, th9))) (fun r => ∃ s', r = (bB P.1, H s') ∧ uu s0 s' ∧ (P.1 = true → ∃ d', rst s' b n P.2.2 (addW g P.2.1) d') ∧ (P.1 = false → fi s' 44 23 = i3 (P.2.2.2.1 : Int))) by
    obtain ⟨r, e, s', rfl, u, y, no⟩ := this
    by_cases c2 : P.1 = true
    · rw [if_pos c2]
      exact ⟨s', e.trans (by rw [c2]), u, fun _ => y c2, fun e => (by cases e)⟩
    · have c2' : P.1 = false := by simpa using c2
      rw [if_neg c2]
      exact ⟨s', e.trans (by rw [c2']), u, fun e => (by cases e), fun _ => no c2'⟩
  refine lpH 13 (fun k q => ∃ s1 m t1, ∃ M : Nat, q = (m, i3 (k : Int), H s1) ∧ uu s0 s1 ∧ rst s1 b n (adv b n t1.2.2) g d ∧ pWl b n g (13 - k) k m t1 = P ∧ M < 2 ^ nn g ∧ m = i3 (M : Int) ∧ pc M = k) (fun x => ∃ s1, x = (P.2.1, H s1) ∧ uu s0 s1 ∧ rst s1 b n P.2.2 g d ∧ P.1 = true) ?_ ?_ ?_ ?_ (by omega)
  · rintro k _ hk ⟨s1, m, t1, M, rfl, u1, k1, e1, hM, hm, hp⟩ nx ex hnx hex
    have hp2 := p12 hn
    obtain ⟨f, hf⟩ : ∃ f, 13 - k = f + 1 := ⟨12 - k, by omega⟩
    have hf2 : 13 - (k + 1) = f := by omega
    rw [hf] at e1
    unfold pWl at e1
    generalize adv b n t1.2.2 = t2 at k1 e1
    obtain ⟨g20, g22, -⟩ := g_20 k1
    have e3 : (i3 (k : Int) < Int32.ofInt 3) ↔ k < 3 := i3n_lt (b := 3) (by omega) (by omega)
    have wr : P = (false, m, t2) → T ((m_225 44 (H s1)).bind fun q16 => (rB q16.1).bind fun y17 => some (y17, q16.2)) (fun r => ∃ s', r = (bB P.1, H s') ∧ uu s0 s' ∧ (P.1 = true → ∃ d', rst s' b n P.2.2 (addW g P.2.1) d') ∧ (P.1 = false → fi s' 44 23 = i3 (P.2.2.2.1 : Int))) := fun e => by
      rw [q_225, Option.bind_some, e]
      exact T_some ⟨_, rfl, u1.trans k1.wr.1, fun e => (by cases e), fun _ => k1.wr.2⟩
    dsimp only
    rw [jnE]
    have key : (k < 3 ∨ t2.1 = i3 2) → T ((gI (H s1) 8 44 20).bind fun x13 => jn (fun (v14 : Unit) => (m_225 44 (H s1)).bind fun q16 => (rB q16.1).bind fun y17 => some (y17, q16.2)) (fun j15 => if x13 = (Int32.ofInt 2) then (gI (H s1) 8 44 22).bind fun x18 => (m_191 44 x18 (H s1)).bind fun x19 => if x19 = 0 then j15 () else (gI (H s1) 8 44 22).bind fun x20 => (m_195 m x20 (H s1)).bind fun x21 => if x21 = 0 then (gI (H s1) 8 44 22).bind fun x22 => (m_224 44 (H s1)).bind fun th23 => nx ((m ||| ((Int32.ofInt 1) <<< (x22 &&& 31))), (i3 (k : Int) + Int32.ofInt 1), th23) else j15 () else j15 ())) (fun r => ∃ s', r = (bB P.1, H s') ∧ uu s0 s' ∧ (P.1 = true → ∃ d', rst s' b n P.2.2 (addW g P.2.1) d') ∧ (P.1 = false → fi s' 44 23 = i3 (P.2.2.2.1 : Int))) := fun c => by
      rw [if_pos c] at e1
      rw [g20, Option.bind_some, jnE, g22]
      by_cases d1 : t2.1 = i3 2
      · have PT := num_T (b := b) hok d1
        rw [if_pos (show t2.1 = Int32.ofInt 2 from d1), Option.bind_some, q_191 k1.ok, Option.bind_some, bP_if, k1.2.2.2.1]
        by_cases c2 : inN b t2 (i3 0) (tN g - i3 1)
        · have en := num_M z0 c2
          have hT := in_T hok c2
          obtain ⟨j, hj, ej⟩ := mask_T hok hT
          rw [if_pos c2] at e1
          rw [if_pos (PT.mpr c2), Option.bind_some, q_195, Option.bind_some, bP_if, Option.bind_some, en]
          by_cases c3 : (m &&& bit (num b t2)) = 0
          · have nh : ¬ hs m (num b t2) := fun e => (hs_T hok hT m).mp e c3
            rw [if_pos c3] at e1
            obtain ⟨s3, e4, k4, u4⟩ := k1.look
            rw [if_neg nh, e4, Option.bind_some, i3_nat_add]
            have c3' := c3
            rw [ej, hm] at c3'
            have hb := (and_bit (by omega) (by omega)).mp c3'
            refine hnx _ ⟨s3, _, t2, M ||| 2 ^ j, rfl, u1.trans u4, k4, by rw [hf2]; exact e1, or_lt hM hj, ?_, ?_⟩
            · show m ||| bit (num b t2) = _
              rw [hm, ej, bit_eq (by omega), i3_or]
            · rw [pc_or (by omega) hb, hp]
          · rw [if_neg c3] at e1
            rw [if_pos ((hs_T hok hT m).mpr c3)]
            exact wr e1.symm
        · rw [if_neg c2] at e1
          rw [if_neg (fun e => c2 (PT.mp e))]
          exact wr e1.symm
      · rw [if_neg (fun e => d1 e.1)] at e1
        rw [if_neg (show ¬ t2.1 = Int32.ofInt 2 from d1)]
        exact wr e1.symm
    by_cases d1 : k < 3
    · rw [if_pos (e3.mpr d1)]
      exact key (Or.inl d1)
    · rw [if_neg (fun e => d1 (e3.mp e)), g20, Option.bind_some]
      by_cases d2 : t2.1 = i3 2
      · rw [if_pos (show t2.1 = Int32.ofInt 2 from d2)]
        have := key (Or.inr d2)
        rw [g20] at this
        exact this
      · rw [if_neg (show ¬ t2.1 = Int32.ofInt 2 from d2)]
        rw [if_neg (fun e => e.elim d1 d2)] at e1
        refine hex _ ?_
        rw [← e1]
        exact ⟨s1, rfl, u1, k1, rfl⟩
  · rintro _ ⟨s1, m, t1, M, rfl, u1, k1, e1, hM, hm, hp⟩ nx ex hex
    have := pc_le M
    omega
  · rintro _ ⟨s1, rfl, u1, k1, hp⟩
    have hk := ok_addW hok (not8 c1) (hst hp)
    obtain ⟨k2, u2⟩ := k1.wg hk
    have n2 := w_lt hok (not8 c1)
    have e2 := sI64 (wM s1 44 (uW g (wN g + i3 1))) (t := wN g) (x := P.2.1) hok.2.2.1.1 (by rw [md_wM]; show _ < (wS g).length; rw [hok.2.2.2.1.2.2.2]; exact n2)
    rw [md_wM, wM_wM] at e2
    have e2' : sI (H (wM s1 44 (uW g (wN g + Int32.ofInt 1)))) 64 (wN g) P.2.1 = _ := e2
    dsimp only
    rw [(r_g s1).2.2.2.2.2.2.2.2.1, Option.bind_some, (g_20 k1).2.2.2, Option.bind_some, p_14, Option.bind_some, k1.2.2.2.1, e2', Option.bind_some]
    exact T_some ⟨_, by rw [hp]; rfl, u1.trans u2, fun _ => ⟨_, k2⟩, fun e => (by rw [hp] at e; cases e)⟩
  · exact ⟨s0, i3 0, t, 0, rfl, uu.refl s0, k0, hP, Nat.two_pow_pos _, rfl, rfl⟩
/-- a statement, or nothing that begins one -/
noncomputable def sM (b : List Int32) (n : Nat) (g : Gd) (t : Tk) (w : Int32) : PR := if t.1 = i3 1 then pStm b n g t w else (false, g, t, w)
theorem q_232 (h : rst s b n t g d) : PM s b n (m_232 44 (H s)) (sM b n g t w) := by
  have hok := h.2.2.2.2.1
  have W0 : m_226 44 1006 (H s) = some (bP (t.1 = i3 1 ∧ wrd b t 0)) := W5 h (k := 0) (by omega)
  have W1 : m_226 44 1007 (H s) = some (bP (t.1 = i3 1 ∧ wrd b t 1)) := W5 h (k := 1) (by omega)
  have W2 : m_226 44 1008 (H s) = some (bP (t.1 = i3 1 ∧ wrd b t 2)) := W5 h (k := 2) (by omega)
  have W3 : m_226 44 1009 (H s) = some (bP (t.1 = i3 1 ∧ wrd b t 3)) := W5 h (k := 3) (by omega)
  have W4 : m_226 44 1010 (H s) = some (bP (t.1 = i3 1 ∧ wrd b t 4)) := W5 h (k := 4) (by omega)
  have c12 : (Int8.ofInt 12).toInt32 = i3 12 := by decide +kernel
  have c8 : (Int8.ofInt 8).toInt32 = i3 8 := by decide +kernel
  have gt := (g_20 h).2.2.1
  have gw' := (g_20 h).2.2.2
  have X : ∀ i j, i < 5 → j < 5 → i ≠ j → wrd b t i → ¬ (t.1 = i3 1 ∧ wrd b t j) := fun i j hi hj hne hw e => hne (wrd_x hi hj hw e.2)
  unfold m_232 sM
  rw [(r_m s).1, Option.bind_some, W0, Option.bind_some, jnE, bP_if]
  by_cases c1 : t.1 = i3 1
  · rw [if_pos c1]
    unfold pStm
    by_cases w0 : wrd b t 0
    · rw [if_pos ⟨c1, w0⟩, if_pos w0, gt, Option.bind_some]
      by_cases z : tN g = 0
      · rw [if_pos z]
        exact m_side h (by rw [z]; decide +kernel)
      · have pz : 0 < tN g := by
          have hn := hok.n_le
          rw [hok.n_eq] at z ⊢
          have : ¬ nn g = 0 := fun e => z (by rw [e]; rfl)
          exact (i3n_lt (a := 0) (by omega) (by omega)).mpr (by omega)
        rw [if_neg z, W1, Option.bind_some, jnE, bP_if, if_neg (X 0 1 (by omega) (by omega) (by omega) w0), W2, Option.bind_some, jnE, bP_if, if_neg (X 0 2 (by omega) (by omega) (by omega) w0), W3, Option.bind_some, bP_if, if_neg (X 0 3 (by omega) (by omega) (by omega) w0), W4, Option.bind_some, jnE, bP_if, if_neg (X 0 4 (by omega) (by omega) (by omega) w0)]
        unfold pSide
        rw [if_pos pz]
        exact h.no
    rw [if_neg (fun e => w0 e.2), if_neg w0, W1, Option.bind_some, jnE, bP_if]
    by_cases w1 : wrd b t 1
    · rw [if_pos ⟨c1, w1⟩, if_pos w1, gt, Option.bind_some, c12]
      by_cases z : i3 12 ≤ tN g
      · rw [if_pos z, W2, Option.bind_some, jnE, bP_if, if_neg (X 1 2 (by omega) (by omega) (by omega) w1), W3, Option.bind_some, bP_if, if_neg (X 1 3 (by omega) (by omega) (by omega) w1), W4, Option.bind_some, jnE, bP_if, if_neg (X 1 4 (by omega) (by omega) (by omega) w1)]
        unfold pTree
        rw [if_pos z]
        exact h.no
      · rw [if_neg z]
        exact m_tree h z
    rw [if_neg (fun e => w1 e.2), if_neg w1, W2, Option.bind_some, jnE, bP_if]
    by_cases w2 : wrd b t 2
    · rw [if_pos ⟨c1, w2⟩, if_pos w2, gw', Option.bind_some, c8]
      by_cases z : i3 8 ≤ wN g
      · rw [if_pos z, W3, Option.bind_some, bP_if, if_neg (X 2 3 (by omega) (by omega) (by omega) w2), W4, Option.bind_some, jnE, bP_if, if_neg (X 2 4 (by omega) (by omega) (by omega) w2)]
        unfold pWish
        rw [if_neg (Int32.not_lt.mpr z)]
        exact h.no
      · rw [if_neg z]
        obtain ⟨s1, e1, u1, y1, n1⟩ := q_230 (w := w) h (Int32.not_le.mp z)
        rw [e1, Option.bind_some]
        dsimp only
        rw [bB_rB]
        exact ⟨s1, rfl, u1, y1, n1⟩
    rw [if_neg (fun e => w2 e.2), if_neg w2, W3, Option.bind_some, bP_if]
    by_cases w3 : wrd b t 3
    · rw [if_pos ⟨c1, w3⟩, if_pos w3]
      obtain ⟨s1, e1, u1, y1, n1⟩ := q_231 (w := w) h
      rw [e1, Option.bind_some]
      dsimp only
      rw [bB_rB]
      exact ⟨s1, rfl, u1, y1, n1⟩
    rw [if_neg (fun e => w3 e.2), if_neg w3, W4, Option.bind_some, jnE, bP_if]
    by_cases w4 : wrd b t 4
    · rw [if_pos ⟨c1, w4⟩, if_pos w4, q_218 h.ok, Option.bind_some, bP_if, h.2.2.2.1]
      by_cases z : fel g
      · rw [if_pos z]
        exact m_fell h z
      · rw [if_neg z]
        unfold pFell
        rw [if_neg z]
        exact h.no
    · rw [if_neg (fun e => w4 e.2), if_neg w4]
      exact h.no
  · rw [if_neg c1, if_neg (fun e => c1 e.1), W1, Option.bind_some, jnE, bP_if, if_neg (fun e => c1 e.1), W2, Option.bind_some, jnE, bP_if, if_neg (fun e => c1 e.1), W3, Option.bind_some, bP_if, if_neg (fun e => c1 e.1), W4, Option.bind_some, jnE, bP_if, if_neg (fun e => c1 e.1)]
    exact h.no
/-- what a tape comes to, once a statement was read -/
noncomputable def ctn (b : List Int32) (n f k : Nat) (g : Gd) (t : Tk) (w : Int32) (P : Bool × Nat × Gd × Int32) : Prop := (t.1 = i3 0 → P = (true, k, g, w)) ∧ (¬ t.1 = i3 0 → t.1 = i3 3 → pAl b n f (k + 1) g (adv b n t.2.2) w = P) ∧ (¬ t.1 = i3 0 → ¬ t.1 = i3 3 → P.1 = false ∧ P.2.1 = t.2.1)
theorem q_233 (h : tpM s b n) (hg : ok (md s 44)) (hd : (ia s 65).length = 3) : T (m_233 44 (H s)) (fun r => ∃ s', r = (bB (rdG b n (md s 44)).1, H s') ∧ uv s s' ∧ ((rdG b n (md s 44)).1 = true → md s' 44 = (rdG b n (md s 44)).2.2.1 ∧ ok (rdG b n (md s 44)).2.2.1 ∧ fi s' 44 25 = i3 ((rdG b n (md s 44)).2.1 : Int)) ∧ ((rdG b n (md s 44)).1 = false → fi s' 44 23 = i3 ((rdG b n (md s 44)).2.1 : Int))) := by
  have hn := h.2.2.2
  have p25 : ∀ (t : St) x, pI (H t) 8 44 25 x = some (H (sf t 44 25 x)) := fun _ _ => rfl
  have g25 : ∀ t : St, gI (H t) 8 44 25 = some (fi t 44 25) := fun _ => rfl
  generalize hS : sf (sf s 44 25 (Int32.ofInt 1)) 44 19 (Int32.ofInt 0) = S
  have hT : tpM S b n := by rw [← hS]; exact h
  have f19 : fi S 44 19 = i3 ((0 : Nat) : Int) := by rw [← hS]; rfl
  have f25 : fi S 44 25 = i3 1 := by rw [← hS]; rfl
  have mS : md S 44 = md s 44 := by rw [← hS]; rfl
  have dS : ia S 65 = ia s 65 := by rw [← hS]; rfl
  have uS : uv s S := by rw [← hS]; exact (((uu.refl s).v).f (by omega)).f (by omega)
  obtain ⟨s1, e1, k1, u1⟩ := q_224 hT (e := 0) (Nat.zero_le _) f19
  have aS : ∀ p, ia s1 p = ia S p := fun p => congrFun u1.1 p
  have m1 : md s1 44 = md s 44 := by
    rw [← mS]
    unfold md
    rw [u1.2.2.1 44 9 (by omega), u1.2.2.1 44 10 (by omega), u1.2.2.1 44 14 (by omega), u1.2.2.1 44 16 (by omega), aS, aS, aS, aS]
  have r1 : rst s1 b n (adv b n 0) (md s 44) (ia s 65) := ⟨⟨by rw [aS]; exact hT.1, hT.2.1, by rw [u1.2.2.1 44 7 (by omega)]; exact hT.2.2.1, hn⟩, k1, ⟨0, Nat.zero_le _, rfl⟩, m1, hg, by rw [aS, dS], hd⟩
  have f25' : fi s1 44 25 = i3 1 := by rw [u1.2.2.1 44 25 (by omega)]; exact f25
  have gw0 : gw (md s 44) (tN (md s 44)) := ⟨hg, hg.2.1.1, Int32.le_refl _⟩
  unfold m_233
  rw [(r_m s).1, Option.bind_some, p25, Option.bind_some, (p_t _).1, Option.bind_some, hS, e1, Option.bind_some]
  show T _ (fun r => ∃ s', r = (bB (rdG b n (md s 44)).1, H s') ∧ _)
  have hR : rdG b n (md s 44) = pAl b n 250 1 (md s 44) (adv b n 0) (tN (md s 44)) := rfl
  rw [hR]
  generalize hP : pAl b n 250 1 (md s 44) (adv b n 0) (tN (md s 44)) = P
  have us1 : uv s s1 := uS.trans u1.u.v
  have tk0 : tkO b n (adv b n 0) := ⟨0, Nat.zero_le _, rfl⟩
  generalize adv b n 0 = t0 at r1 hP tk0
  -- one statement: it fails and so does the tape, or what is behind it goes on
  have stm : ∀ (f k : Nat) (g : Gd) (t : Tk) (w : Int32), tkO b n t → pAl b n (f + 1) k g t w = P → ((sM b n g t w).1 = false → P.1 = false ∧ P.2.1 = (sM b n g t w).2.2.1.2.1) ∧ ((sM b n g t w).1 = true → ctn b n f k (sM b n g t w).2.1 (sM b n g t w).2.2.1 (sM b n g t w).2.2.2 P ∧ t.2.1 + 1 ≤ (sM b n g t w).2.2.1.2.1) := fun f k g t w htk e => by
    rw [pAl] at e
    unfold sM
    by_cases c1 : t.1 = i3 1
    · rw [if_pos c1] at e ⊢
      obtain ⟨a1, a2, a3⟩ := pStm_tk (g := g) (w := w) htk
      have b1 := htk.bd.2.2 (by rw [c1]; decide +kernel)
      generalize pStm b n g t w = r at e a1 a2 a3 ⊢
      by_cases c2 : r.1 = true
      · rw [if_pos c2] at e
        refine ⟨fun q => (by rw [c2] at q; cases q), fun _ => ⟨⟨fun c3 => ?_, fun c3 c4 => ?_, fun c3 c4 => ?_⟩, by have := a3 c2; omega⟩⟩
        · rw [if_pos c3] at e
          exact e.symm
        · rw [if_neg c3, if_pos c4] at e
          exact e
        · rw [if_neg c3, if_neg c4] at e
          rw [← e]
          exact ⟨rfl, rfl⟩
      · rw [if_neg c2] at e
        refine ⟨fun _ => ?_, fun q => absurd q c2⟩
        rw [← e]
        exact ⟨rfl, rfl⟩
    · rw [if_neg c1] at e
      rw [if_neg c1]
      refine ⟨fun _ => ?_, fun q => (by cases q)⟩
      rw [← e]
      exact ⟨rfl, rfl⟩
  obtain ⟨st1, st2⟩ := stm 249 1 (md s 44) t0 (tN (md s 44)) tk0 hP
  obtain ⟨s2, e2, u2, y2, n2⟩ := q_232 (w := tN (md s 44)) r1
  have ho2 : gw (sM b n (md s 44) t0 (tN (md s 44))).2.1 (sM b n (md s 44) t0 (tN (md s 44))).2.2.2 := by
    unfold sM
    split
    · exact pStm_ok gw0
    · exact gw0
  have f252 : fi s2 44 25 = i3 1 := (u2.2.2.1 44 25 (by omega)).trans f25'
  generalize sM b n (md s 44) t0 (tN (md s 44)) = r at st1 st2 e2 y2 n2 ho2
  rw [e2, Option.bind_some]
  dsimp only
  have fail : ∀ (s' : St) (x : Nat), uv s s' → P.1 = false → P.2.1 = x → fi s' 44 23 = i3 (x : Int) → T ((rB (Int32.ofInt 0)).bind fun y22 => some (y22, H s')) (fun r => ∃ s', r = (bB P.1, H s') ∧ uv s s' ∧ (P.1 = true → md s' 44 = P.2.2.1 ∧ ok P.2.2.1 ∧ fi s' 44 25 = i3 (P.2.1 : Int)) ∧ (P.1 = false → fi s' 44 23 = i3 (P.2.1 : Int))) := fun s' x u p1 p2 f => T_some ⟨s', by rw [p1]; rfl, u, fun e => (by rw [p1] at e; cases e), fun _ => by rw [p2]; exact f⟩
  by_cases c1 : r.1 = true
  · obtain ⟨d2, k2⟩ := y2 c1
    obtain ⟨ct, cp⟩ := st2 c1
    rw [c1, if_neg (show ¬ bB true = 0 by decide +kernel)]
    refine lpH 250 (fun j q => ∃ s1 g1 t1 w1 d1, q = H s1 ∧ uv s s1 ∧ rst s1 b n t1 g1 d1 ∧ gw g1 w1 ∧ fi s1 44 25 = i3 ((j + 1 : Nat) : Int) ∧ j + 1 ≤ t1.2.1 ∧ ctn b n (249 - j) (j + 1) g1 t1 w1 P) (fun x => ∃ s1, x = H s1 ∧ uv s s1 ∧ P.1 = true ∧ md s1 44 = P.2.2.1 ∧ ok P.2.2.1 ∧ fi s1 44 25 = i3 (P.2.1 : Int)) ?_ ?_ ?_ ?_ (by omega)
    · rintro j _ hj ⟨s3, g3, t3, w3, d3, rfl, u3, k3, w3', f3, b3, ⟨c31, c32, c33⟩⟩ nx ex hnx hex
      have g20 := (g_20 k3).1
      skip
      rw [g20, Option.bind_some]
      by_cases z0' : t3.1 = i3 0
      · rw [if_pos (show t3.1 = 0 from z0')]
        have eP := c31 z0'
        refine hex _ ⟨s3, rfl, u3, ?_, ?_, ?_, ?_⟩
        · rw [eP]
        · rw [eP]; exact k3.2.2.2.1
        · rw [eP]; exact w3'.1
        · rw [eP]; exact f3
      rw [if_neg (show ¬ t3.1 = 0 from z0'), Option.bind_some]
      by_cases z3 : t3.1 = i3 3
      · have bd3 := k3.2.2.1.bd
        have bb := bd3.2.2 z0'
        obtain ⟨s4, e4, k4, u4⟩ := k3.look
        have b4 := adv_bd (b := b) bd3.2.1
        have tk4 := k4.2.2.1
        obtain ⟨f, hf⟩ : ∃ f, 249 - j = f + 1 := ⟨248 - j, by omega⟩
        have eA := c32 z0' z3
        rw [hf] at eA
        rw [if_pos (show t3.1 = Int32.ofInt 3 from z3), e4, Option.bind_some]
        generalize adv b n t3.2.2 = t4 at k4 b4 tk4 eA
        obtain ⟨st3', st4⟩ := stm f (j + 1 + 1) g3 t4 w3 tk4 eA
        obtain ⟨s5, e5, u5, y5, n5⟩ := q_232 (w := w3) k4
        have ho5 : gw (sM b n g3 t4 w3).2.1 (sM b n g3 t4 w3).2.2.2 := by
          unfold sM
          split
          · exact pStm_ok w3'
          · exact w3'
        have f5 : fi s5 44 25 = i3 ((j + 1 : Nat) : Int) := ((u5.2.2.1 44 25 (by omega)).trans (u4.2.2.1 44 25 (by omega))).trans f3
        have us5 : uv s s5 := u3.trans (u4.trans u5).v
        generalize sM b n g3 t4 w3 = r5 at st3' st4 e5 y5 n5 ho5
        rw [e5, Option.bind_some]
        dsimp only
        by_cases c5 : r5.1 = true
        · obtain ⟨d5, k5⟩ := y5 c5
          obtain ⟨ct5, cp5⟩ := st4 c5
          rw [c5, if_neg (show ¬ bB true = 0 by decide +kernel), g25, Option.bind_some, f5, p25, Option.bind_some, i3_nat_add]
          refine hnx _ ⟨_, r5.2.1, r5.2.2.1, r5.2.2.2, d5, rfl, us5.f (by omega), ?_, ho5, rfl, by omega, ?_⟩
          · obtain ⟨h1, h2, h3, h4, h5, h6, h7⟩ := k5
            exact ⟨h1, h2, h3, h4, h5, h6, h7⟩
          · rw [show 249 - (j + 1) = f by omega]
            exact ct5
        · have c5' : r5.1 = false := by simpa using c5
          rw [c5', if_pos (show bB false = 0 by decide +kernel)]
          obtain ⟨p1, p2⟩ := st3' c5'
          exact fail s5 _ us5 p1 p2 (n5 c5')
      · rw [if_neg (show ¬ t3.1 = Int32.ofInt 3 from z3), q_225, Option.bind_some]
        obtain ⟨p1, p2⟩ := c33 z0' z3
        exact fail _ _ (u3.trans k3.wr.1.v) p1 p2 k3.wr.2
    · rintro _ ⟨s3, g3, t3, w3, d3, rfl, u3, k3, w3', f3, b3, -⟩ nx ex hex
      have bd3 := k3.2.2.1.bd
      omega
    · rintro _ ⟨s3, rfl, u3, p1, p2, p3, p4⟩
      exact T_some ⟨s3, by rw [p1]; rfl, u3, fun _ => ⟨p2, p3, p4⟩, fun e => (by rw [p1] at e; cases e)⟩
    · exact ⟨s2, r.2.1, r.2.2.1, r.2.2.2, d2, rfl, us1.trans u2.v, k2, ho2, f252, by omega, ct⟩
  · have c1' : r.1 = false := by simpa using c1
    rw [c1', if_pos (show bB false = 0 by decide +kernel)]
    obtain ⟨p1, p2⟩ := st1 c1'
    exact fail s2 _ (us1.trans u2.v) p1 p2 (n2 c1')
end MAL
