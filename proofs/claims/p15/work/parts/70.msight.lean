/-! ===== the reference's paths, symmetries and sight ===== -/
section MD
variable {s : St}
theorem jnE {α β : Type} (f : α → β) (g : (α → β) → β) : jn f g = g f := rfl
noncomputable def lnM (g : Gd) (w c : Int32) : Int32 := if w = 0 then rO g c else if w = i3 1 then cO g c else if w = i3 2 then rO g c - cO g c + sD g - i3 1 else rO g c + cO g c
theorem q_277 (h : ok (md s 44)) (w c : Int32) : m_277 44 w c (H s) = some (lnM (md s 44) w c) := by
  unfold m_277 lnM
  rw [(r_m s).1, Option.bind_some, (r_g s).2.1, Option.bind_some, h.dv, Option.bind_some, Option.bind_some, h.rm, Option.bind_some]
  unfold jn
  dsimp only
  by_cases c1 : w = 0
  · rw [if_pos c1, if_pos c1]
  rw [if_neg c1, if_neg c1]
  by_cases c2 : w = i3 1
  · rw [if_pos (show w = Int32.ofInt 1 from c2), if_pos c2]
  rw [if_neg (show ¬ w = Int32.ofInt 1 from c2), if_neg c2]
  by_cases c3 : w = i3 2
  · rw [if_pos (show w = Int32.ofInt 2 from c3), if_pos c3]
    rfl
  · rw [if_neg (show ¬ w = Int32.ofInt 2 from c3), if_neg c3]
noncomputable def bnM (g : Gd) (w : Int32) : Nat := if i3 2 ≤ w then 2 * dn g - 1 else dn g
noncomputable def poF (g : Gd) (w : Int32) (k j : Nat) (m : Int32) : Int32 := if lnM g w (cA g (i3 (j : Int))) = i3 (k : Int) then m &&& i3 0 else m &&& i3 1
noncomputable def po (g : Gd) (w : Int32) (k : Nat) : Int32 := itr (poF g w k) (nn g) (i3 1)
noncomputable def paF (g : Gd) (w : Int32) (k : Nat) (m : Int32) : Int32 := if po g w k = 0 then m + i3 0 else m + i3 1
noncomputable def pas (g : Gd) (w : Int32) : Int32 := itr (paF g w) (bnM g w) (i3 0)
noncomputable def xPaths (g : Gd) (w : Int32) : Int32 := if w < 0 then i3 (-2) else if w ≤ i3 3 then pas g w else i3 (-2)
theorem three03 {w : Int32} : (¬ w < i3 0 ∧ ¬ i3 3 < w) ↔ (¬ w < 0 ∧ w ≤ i3 3) := ⟨fun e => ⟨e.1, Int32.not_lt.mp e.2⟩, fun e => ⟨e.1, Int32.not_lt.mpr e.2⟩⟩
theorem pasL (h : ok (md s 44)) (w b : Int32) (hb : b = i3 (bnM (md s 44) w : Int)) : lp (fun (s4 : Int32 × Int32) nx5 ex6 => if b ≤ s4.2 then ex6 s4.1 else lp (fun (s8 : Int32 × Int32) nx9 ex10 => (gI (H s) 8 44 10).bind fun x15 => if x15 ≤ s8.2 then ex10 s8.1 else (gN (H s) 8 44 12).bind fun o16 => (aI (H s) o16 s8.2).bind fun x17 => (m_277 44 w x17 (H s)).bind fun x18 => jn (fun (v19 : Int32 × Int32) => nx9 ((v19.2 &&& v19.1), (s8.2 + Int32.ofInt 1))) (fun j20 => if x18 = s4.2 then j20 ((Int32.ofInt 0), s8.1) else j20 ((Int32.ofInt 1), s8.1))) 4096 ((Int32.ofInt 1), (Int32.ofInt 0)) (fun (x11 : Int32) => jn (fun (v12 : Int32 × Int32) => nx5 ((v12.2 + v12.1), (s4.2 + Int32.ofInt 1))) (fun j13 => if x11 = 0 then j13 ((Int32.ofInt 0), s4.1) else j13 ((Int32.ofInt 1), s4.1)))) 4096 ((Int32.ofInt 0), (Int32.ofInt 0)) (fun (x7 : Int32) => some (x7, H s)) = some (pas (md s 44) w, H s) := by
  have hd := h.d_le
  have hB : bnM (md s 44) w ≤ 16 := by
    unfold bnM
    split <;> omega
  rw [hb]
  refine (lp0 (bnM (md s 44) w) (by omega) (fun t a => (a, t)) (fun a => a) (paF (md s 44) w) (fun _ => True) (i3 0) ?_ (fun _ _ _ _ => trivial) ?_ trivial).trans rfl
  · intro k m nx ex hk _
    dsimp only
    rw [if_neg (nle hk (by omega))]
    refine (lp0 (nn (md s 44)) (by have := h.n_le; omega) (fun t a => (a, t)) (fun a => a) (poF (md s 44) w k) (fun _ => True) (i3 1) ?_ (fun _ _ _ _ => trivial) ?_ trivial).trans ?_
    · intro j a nx2 ex2 hj _
      dsimp only
      rw [(r_g s).2.2.1, Option.bind_some, if_neg (h.T hj).2, (r_g s).2.2.2.2.2.2.1, Option.bind_some, (r_g s).2.2.2.2.2.2.2.2.2.2.1, h.at_c (h.T hj), Option.bind_some, q_277 h, Option.bind_some]
      unfold jn poF
      dsimp only
      by_cases d : lnM (md s 44) w (cA (md s 44) (i3 (j : Int))) = i3 (k : Int)
      · rw [if_pos d, if_pos d]
      · rw [if_neg d, if_neg d]
    · intro a nx2 ex2 _
      dsimp only
      rw [(r_g s).2.2.1, Option.bind_some, if_pos (h.Te (Nat.le_refl _) (by have := h.n_le; omega))]
    · unfold jn paF
      dsimp only
      by_cases d : po (md s 44) w k = 0
      · rw [if_pos d]
        exact if_pos d
      · rw [if_neg d]
        exact if_neg d
  · intro a nx ex _
    dsimp only
    rw [if_pos (Int32.le_refl _)]
theorem d_39 (c : Mq s) (w : Int32) : Ans s (m_278 44 w (H s)) (xPaths (md s 44) w) := by
  have h := c.1
  have hd := h.d_le
  have hd3 := h.d_ge
  unfold m_278 xPaths
  rw [(r_m s).1, Option.bind_some, jc.1, jc.2.2.2.1, q_190, Option.bind_some, bP_if]
  by_cases c1 : w < 0
  · rw [if_neg (fun e => (three03.mp e).1 c1), if_pos c1, cst.1]
    exact Ans.mf c.2.2 isB2
  rw [if_neg c1]
  by_cases c2 : w ≤ i3 3
  · rw [if_pos (three03.mpr ⟨c1, c2⟩), if_pos c2]
    refine ⟨s, ?_, qq.refl s⟩
    rw [(r_g s).2.1, jnE]
    by_cases c3 : i3 2 ≤ w
    · rw [if_pos (show Int32.ofInt 2 ≤ w from c3), Option.bind_some]
      refine pasL h w _ ?_
      rw [h.d_eq, show Int32.ofInt 2 = i3 2 from rfl, i3_mul, show Int32.ofInt 1 = i3 1 from rfl, i3_sub]
      unfold bnM
      rw [if_pos c3]
      congr 1
      omega
    · rw [if_neg (show ¬ Int32.ofInt 2 ≤ w from c3), Option.bind_some]
      refine pasL h w _ ?_
      rw [h.d_eq]
      unfold bnM
      rw [if_neg c3]
  · rw [if_neg (fun e => c2 (three03.mp e).2), if_neg c2, cst.1]
    exact Ans.mf c.2.2 isB2
/-- symmetries -/
noncomputable def imM (g : Gd) (k j : Nat) : Int32 := itr (fun _ => trM g) (k % 4) (if 4 ≤ k then miM g (cA g (i3 (j : Int))) else cA g (i3 (j : Int)))
noncomputable def alF (g : Gd) (k j : Nat) (m : Int32) : Int32 := if tIn g (imM g k j) = i3 (-1) then m &&& i3 0 else m &&& i3 1
noncomputable def al' (g : Gd) (k : Nat) : Int32 := itr (alF g k) (nn g) (i3 1)
noncomputable def akF (g : Gd) (k : Nat) (m : Int32) : Int32 := if al' g k = 0 then m + i3 0 else m + i3 1
noncomputable def xAlike (g : Gd) : Int32 := itr (akF g) 8 (i3 0)
theorem c8e : (Int8.ofInt 8).toInt32 = i3 ((8 : Nat) : Int) := by decide +kernel
theorem rm4 {k : Nat} (hk : k < 8) : rmI (i3 (k : Int)) (Int32.ofInt 4) = some (i3 ((k % 4 : Nat) : Int)) := by
  have : ∀ k : Fin 8, rmI (i3 (k.1 : Int)) (Int32.ofInt 4) = some (i3 ((k.1 % 4 : Nat) : Int)) := by decide +kernel
  exact this ⟨k, hk⟩
theorem trL (h : ok (md s 44)) {R : Type} {k : Nat} (hk : k < 8) (c : Int32) (K : Int32 → Option R) : lp (fun (s15 : Int32 × Int32) nx16 ex17 => (rmI (i3 (k : Int)) (Int32.ofInt 4)).bind fun x23 => if x23 ≤ s15.2 then ex17 s15.1 else (m_281 44 s15.1 (H s)).bind fun x24 => nx16 (x24, (s15.2 + Int32.ofInt 1))) 4096 (c, (Int32.ofInt 0)) K = K (itr (fun _ => trM (md s 44)) (k % 4) c) := by
  refine (lp0 (k % 4) (by omega) (fun t a => (a, t)) (fun a => a) (fun _ => trM (md s 44)) (fun _ => True) c ?_ (fun _ _ _ _ => trivial) ?_ trivial).trans rfl
  · intro j a nx ex hj _
    dsimp only
    rw [rm4 hk, Option.bind_some, if_neg (nle hj (by omega)), q_281 h, Option.bind_some]
  · intro a nx ex _
    dsimp only
    rw [rm4 hk, Option.bind_some, if_pos (Int32.le_refl _)]
theorem q_283 (h : ok (md s 44)) : m_283 44 (H s) = some (xAlike (md s 44)) := by
  unfold m_283
  rw [(r_m s).1, Option.bind_some, c8e]
  refine (lp0 8 (by omega) (fun t a => (a, t)) (fun a => a) (akF (md s 44)) (fun _ => True) (i3 0) ?_ (fun _ _ _ _ => trivial) ?_ trivial).trans rfl
  · intro k m nx ex hk _
    dsimp only
    rw [if_neg (nle hk (by omega))]
    refine (lp0 (nn (md s 44)) (by have := h.n_le; omega) (fun t a => (a, t)) (fun a => a) (alF (md s 44) k) (fun _ => True) (i3 1) ?_ (fun _ _ _ _ => trivial) ?_ trivial).trans ?_
    · intro j a nx2 ex2 hj _
      dsimp only
      rw [(r_g s).2.2.1, Option.bind_some, if_neg (h.T hj).2, (r_g s).2.2.2.2.2.2.1, jnE]
      have e4 : (Int32.ofInt 4 ≤ i3 (k : Int)) ↔ 4 ≤ k := i3n_le (a := 4) (by omega) (by omega)
      have key : ∀ c, imM (md s 44) k j = itr (fun _ => trM (md s 44)) (k % 4) c → ((m_194 44 (itr (fun _ => trM (md s 44)) (k % 4) c) (H s)).bind fun x19 => jn (fun (v20 : Int32 × Int32) => nx2 ((v20.2 &&& v20.1), (i3 (j : Int) + Int32.ofInt 1))) (fun j21 => if x19 = (Int32.ofInt (-1)) then j21 ((Int32.ofInt 0), a) else j21 ((Int32.ofInt 1), a))) = nx2 (alF (md s 44) k j a, i3 (j : Int) + Int32.ofInt 1) := by
        intro c e
        rw [← e, q_194 h, Option.bind_some]
        unfold jn alF
        dsimp only
        by_cases d : tIn (md s 44) (imM (md s 44) k j) = i3 (-1)
        · rw [if_pos d, if_pos d]
        · rw [if_neg d, if_neg d]
      by_cases c4 : 4 ≤ k
      · rw [if_pos (e4.mpr c4), Option.bind_some, (r_g s).2.2.2.2.2.2.2.2.2.2.1, h.at_c (h.T hj), Option.bind_some, q_282 h, Option.bind_some]
        refine (trL h hk _ _).trans (key _ ?_)
        unfold imM
        rw [if_pos c4]
      · rw [if_neg (fun e => c4 (e4.mp e)), Option.bind_some, (r_g s).2.2.2.2.2.2.2.2.2.2.1, h.at_c (h.T hj), Option.bind_some]
        refine (trL h hk _ _).trans (key _ ?_)
        unfold imM
        rw [if_neg c4]
    · intro a nx2 ex2 _
      dsimp only
      rw [(r_g s).2.2.1, Option.bind_some, if_pos (h.Te (Nat.le_refl _) (by have := h.n_le; omega))]
    · unfold jn akF
      dsimp only
      by_cases d : al' (md s 44) k = 0
      · rw [if_pos d]
        exact if_pos d
      · rw [if_neg d]
        exact if_neg d
  · intro a nx ex _
    dsimp only
    rw [if_pos (Int32.le_refl _)]
/-- what stands between -/
abbrev hC1 (g : Gd) (t c : Int32) (k : Nat) : Prop := ¬ i3 (k : Int) = t ∧ ¬ cA g (i3 (k : Int)) = c ∧ ¬ kOf (kA g (i3 (k : Int))) (i3 2) ∧ dar g (cA g t) c (cA g (i3 (k : Int))) = 0
abbrev hC2 (g : Gd) (t c : Int32) (k : Nat) : Prop := ¬ sqr g (cA g t) c ≤ sqr g (cA g t) (cA g (i3 (k : Int))) ∧ ¬ sqr g (cA g t) c ≤ sqr g c (cA g (i3 (k : Int)))
noncomputable def hmF (g : Gd) (t c : Int32) (k : Nat) (m : Int32) : Int32 := if hC1 g t c k ∧ hC2 g t c k then if m = i3 (-1) then i3 (k : Int) else if sqr g c (cA g m) ≤ sqr g c (cA g (i3 (k : Int))) then m else i3 (k : Int) else m
noncomputable def hidM (g : Gd) (t c : Int32) : Int32 := itr (hmF g t c) (nn g) (i3 (-1))
theorem bwL (h : ok (md s 44)) {t : Int32} (ht : isT (md s 44) t) (c : Int32) {k : Nat} (hk : k < nn (md s 44)) {R : Type} (J : Int32 → Option R) : jn J (fun j7 => jn (fun (v43 : Unit) => j7 (Int32.ofInt 0)) (fun j44 => if i3 (k : Int) = t then j44 () else (gN (H s) 8 44 12).bind fun o45 => (aI (H s) o45 (i3 (k : Int))).bind fun x46 => if x46 = c then j44 () else (m_198 44 (i3 (k : Int)) (H s)).bind fun x47 => if x47 = 0 then (gN (H s) 8 44 12).bind fun o48 => (aI (H s) o48 t).bind fun x49 => (gN (H s) 8 44 12).bind fun o50 => (aI (H s) o50 (i3 (k : Int))).bind fun x51 => (m_236 44 x49 c x51 (H s)).bind fun x52 => if x52 = 0 then j44 () else j7 (Int32.ofInt 1) else j44 ())) = J (bP (hC1 (md s 44) t c k)) := by
  rw [jnE, jnE]
  by_cases d1 : i3 (k : Int) = t
  · rw [if_pos d1, show bP (hC1 (md s 44) t c k) = i3 0 from if_neg (fun e => e.1 d1)]
  rw [if_neg d1, (r_g s).2.2.2.2.2.2.1, Option.bind_some, (r_g s).2.2.2.2.2.2.2.2.2.2.1, h.at_c (h.T hk), Option.bind_some]
  by_cases d2 : cA (md s 44) (i3 (k : Int)) = c
  · rw [if_pos d2, show bP (hC1 (md s 44) t c k) = i3 0 from if_neg (fun e => e.2.1 d2)]
  rw [if_neg d2, q_198 h (h.T hk), Option.bind_some, bP_if]
  by_cases d3 : kOf (kA (md s 44) (i3 (k : Int))) (i3 2)
  · rw [if_pos d3, show bP (hC1 (md s 44) t c k) = i3 0 from if_neg (fun e => e.2.2.1 d3)]
  rw [if_neg d3, Option.bind_some, (r_g s).2.2.2.2.2.2.2.2.2.2.1, h.at_c ht, Option.bind_some, Option.bind_some, (r_g s).2.2.2.2.2.2.2.2.2.2.1, h.at_c (h.T hk), Option.bind_some, q_236 h, Option.bind_some, bP_if]
  by_cases d4 : dar (md s 44) (cA (md s 44) t) c (cA (md s 44) (i3 (k : Int))) = 0
  · rw [if_pos d4, show bP (hC1 (md s 44) t c k) = i3 1 from if_pos ⟨d1, d2, d3, d4⟩]
  · rw [if_neg d4, show bP (hC1 (md s 44) t c k) = i3 0 from if_neg (fun e => d4 e.2.2.2)]
theorem bwJ (h : ok (md s 44)) {t : Int32} (ht : isT (md s 44) t) (c v : Int32) {k : Nat} (hk : k < nn (md s 44)) {R : Type} (J : Int32 × Int32 → Option R) : jn J (fun j17 => jn (fun (v33 : Int32) => j17 ((Int32.ofInt 0), v33)) (fun j34 => if sqr (md s 44) (cA (md s 44) t) c ≤ sqr (md s 44) (cA (md s 44) t) (cA (md s 44) (i3 (k : Int))) then j34 v else (gN (H s) 8 44 12).bind fun o35 => (aI (H s) o35 (i3 (k : Int))).bind fun x36 => (m_238 44 c x36 (H s)).bind fun x37 => (gN (H s) 8 44 12).bind fun o38 => (aI (H s) o38 t).bind fun x39 => (m_238 44 x39 c (H s)).bind fun x40 => if x40 ≤ x37 then j34 v else j17 ((Int32.ofInt 1), v))) = J (bP (hC2 (md s 44) t c k), v) := by
  rw [jnE, jnE]
  by_cases d1 : sqr (md s 44) (cA (md s 44) t) c ≤ sqr (md s 44) (cA (md s 44) t) (cA (md s 44) (i3 (k : Int)))
  · rw [if_pos d1, show bP (hC2 (md s 44) t c k) = i3 0 from if_neg (fun e => e.1 d1)]
  rw [if_neg d1, (r_g s).2.2.2.2.2.2.1, Option.bind_some, (r_g s).2.2.2.2.2.2.2.2.2.2.1, h.at_c (h.T hk), Option.bind_some, q_238 h, Option.bind_some, Option.bind_some, (r_g s).2.2.2.2.2.2.2.2.2.2.1, h.at_c ht, Option.bind_some, q_238 h, Option.bind_some]
  by_cases d2 : sqr (md s 44) (cA (md s 44) t) c ≤ sqr (md s 44) c (cA (md s 44) (i3 (k : Int)))
  · rw [if_pos d2, show bP (hC2 (md s 44) t c k) = i3 0 from if_neg (fun e => e.2 d2)]
  · rw [if_neg d2, show bP (hC2 (md s 44) t c k) = i3 1 from if_pos ⟨d1, d2⟩]
theorem bP_and {P Q : Prop} {i : Decidable P} {j : Decidable Q} : (@bP P i &&& @bP Q j) = 0 ↔ ¬ (P ∧ Q) := by
  unfold bP
  by_cases p : P
  · by_cases q : Q
    · rw [if_pos p, if_pos q]
      exact ⟨fun e => absurd e (by decide +kernel), fun e => absurd ⟨p, q⟩ e⟩
    · rw [if_pos p, if_neg q]
      exact ⟨fun _ e => q e.2, fun _ => by decide +kernel⟩
  · by_cases q : Q
    · rw [if_neg p, if_pos q]
      exact ⟨fun _ e => p e.1, fun _ => by decide +kernel⟩
    · rw [if_neg p, if_neg q]
      exact ⟨fun _ e => p e.1, fun _ => by decide +kernel⟩
theorem hmF_ok {g : Gd} (h : ok g) {t c : Int32} {k : Nat} {m : Int32} (hk : k < nn g) (hm : m = i3 (-1) ∨ isT g m) : hmF g t c k m = i3 (-1) ∨ isT g (hmF g t c k m) := by
  unfold hmF
  split
  · split
    · exact Or.inr (h.T hk)
    · split
      · exact hm
      · exact Or.inr (h.T hk)
  · exact hm
theorem q_272 (h : ok (md s 44)) {t : Int32} (ht : isT (md s 44) t) (c : Int32) : m_272 44 t c (H s) = some (hidM (md s 44) t c) := by
  unfold m_272
  rw [(r_m s).1, Option.bind_some]
  refine (lp0 (nn (md s 44)) (by have := h.n_le; omega) (fun t a => (a, t)) (fun a => a) (hmF (md s 44) t c) (fun m => m = i3 (-1) ∨ isT (md s 44) m) (i3 (-1)) ?_ (fun k m hk hm => hmF_ok h hk hm) ?_ (Or.inl rfl)).trans rfl
  · intro k m nx ex hk hm
    dsimp only
    rw [(r_g s).2.2.1, Option.bind_some, if_neg (h.T hk).2]
    refine (bwL h ht c hk _).trans ?_
    rw [(r_g s).2.2.2.2.2.2.1, Option.bind_some, (r_g s).2.2.2.2.2.2.2.2.2.2.1, h.at_c ht, Option.bind_some, Option.bind_some, (r_g s).2.2.2.2.2.2.2.2.2.2.1, h.at_c (h.T hk), Option.bind_some, q_238 h, Option.bind_some, Option.bind_some, (r_g s).2.2.2.2.2.2.2.2.2.2.1, h.at_c ht, Option.bind_some, q_238 h, Option.bind_some]
    refine (bwJ h ht c _ hk _).trans ?_
    rw [jnE, jnE]
    dsimp only
    unfold hmF
    by_cases d1 : hC1 (md s 44) t c k ∧ hC2 (md s 44) t c k
    · rw [if_neg (fun e => bP_and.mp e d1), if_pos d1, jnE]
      by_cases d2 : m = i3 (-1)
      · rw [if_pos (show m = Int32.ofInt (-1) from d2), if_pos d2]
      · have tm : isT (md s 44) m := hm.resolve_left d2
        rw [if_neg (show ¬ m = Int32.ofInt (-1) from d2), if_neg d2, Option.bind_some, (r_g s).2.2.2.2.2.2.2.2.2.2.1, h.at_c (h.T hk), Option.bind_some, q_238 h, Option.bind_some, Option.bind_some, (r_g s).2.2.2.2.2.2.2.2.2.2.1, h.at_c tm, Option.bind_some, q_238 h, Option.bind_some]
        by_cases d3 : sqr (md s 44) c (cA (md s 44) m) ≤ sqr (md s 44) c (cA (md s 44) (i3 (k : Int)))
        · rw [if_pos d3, if_pos d3]
        · rw [if_neg d3, if_neg d3]
    · rw [if_pos (bP_and.mpr d1), if_neg d1]
  · intro a nx ex _
    dsimp only
    rw [(r_g s).2.2.1, Option.bind_some, if_pos (h.Te (Nat.le_refl _) (by have := h.n_le; omega))]
end MD
