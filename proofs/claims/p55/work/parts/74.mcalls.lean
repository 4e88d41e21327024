section
/-! ===== what the reference holds ===== -/
noncomputable def shM (s : St) (k : Nat) : Rw := if lg (ia s 45) k = i3 1 then some (lg (ia s 46) k, lg (ia s 47) k, la s (49 + k)) else none
noncomputable def kpM (s : St) : Option Gd := (kr s).map (fun o => md s o)
noncomputable def abM (s : St) : Ab := (md s 44, kpM s, (ia s 59, fi s 44 7), fun k => if k < 8 then shM s k else none)
noncomputable def KT (s : St) : Prop := (nm s = 0 ∧ kr s = none ∧ tr s = none) ∨ (nm s = 1 ∧ kr s = some 67 ∧ tr s = none) ∨ (nm s = 1 ∧ kr s = none ∧ tr s = some 67) ∨ (nm s = 2 ∧ kr s = some 67 ∧ tr s = some 90) ∨ (nm s = 2 ∧ kr s = some 90 ∧ tr s = some 67)
noncomputable def KO (s : St) : Prop := KT s ∧ (∀ o, kr s = some o → ok (md s o)) ∧ (∀ o, tr s = some o → sh (md s o))
noncomputable def sl8 (s : St) : Prop := (ia s 45).length = 8 ∧ (ia s 46).length = 8 ∧ (ia s 47).length = 8 ∧ (ia s 58).length = 8
noncomputable def smO (s : St) (k : Nat) : Prop := (la s (49 + k)).length = 40 ∧ (lg (ia s 45) k = i3 0 ∨ lg (ia s 45) k = i3 1 ∨ lg (ia s 45) k = i3 2) ∧ (lg (ia s 45) k = i3 1 → ¬ lg (ia s 47) k < 0 ∧ lg (ia s 47) k ≤ i3 40) ∧ (lg (ia s 45) k = i3 2 → isT (md s 44) (lg (ia s 58) k))
/-- a shelf, but a tree on it may be gone -/
noncomputable def smN (s : St) (k : Nat) : Prop := (la s (49 + k)).length = 40 ∧ (lg (ia s 45) k = i3 0 ∨ lg (ia s 45) k = i3 1 ∨ lg (ia s 45) k = i3 2) ∧ (lg (ia s 45) k = i3 1 → ¬ lg (ia s 47) k < 0 ∧ lg (ia s 47) k ≤ i3 40) ∧ (lg (ia s 45) k = i3 2 → ¬ lg (ia s 58) k < 0)
noncomputable def MI (s : St) : Prop := Mq s ∧ sl8 s ∧ ((ia s 59).length = 250 ∧ ¬ fi s 44 7 < 0 ∧ fi s 44 7 ≤ i3 250) ∧ KO s ∧ ∀ k, k < 8 → smO s k
noncomputable def MJ (s : St) : Prop := Mq s ∧ sl8 s ∧ ((ia s 59).length = 250 ∧ ¬ fi s 44 7 < 0 ∧ fi s 44 7 ≤ i3 250) ∧ KO s ∧ ∀ k, k < 8 → smN s k
theorem MI.mj {s : St} (c : MI s) : MJ s := ⟨c.1, c.2.1, c.2.2.1, c.2.2.2.1, fun k hk => by
  obtain ⟨d1, d2, d3, d4⟩ := c.2.2.2.2 k hk
  exact ⟨d1, d2, d3, fun e => (d4 e).1⟩⟩
section MI
variable {s s' : St}
theorem KT.o (h : KT s) {o : Nat} (ho : kr s = some o ∨ tr s = some o) : o = 44 ∨ o = 67 ∨ o = 90 := by
  rcases h with ⟨-, a, b⟩ | ⟨-, a, b⟩ | ⟨-, a, b⟩ | ⟨-, a, b⟩ | ⟨-, a, b⟩ <;> rw [a, b] at ho <;> rcases ho with e | e <;> (try cases e) <;> simp
theorem eM.m (h : eM s s') {o : Nat} (ho : o = 44 ∨ o = 67 ∨ o = 90) : md s' o = md s o := by
  have f := fun k hk => h.2.2.1 o k (by omega) hk
  have a := fun p hp hq => h.1 p hp hq
  unfold md
  rcases ho with rfl | rfl | rfl
  all_goals rw [f 9 (by unfold qF sF; omega), f 10 (by unfold qF sF; omega), f 14 (by unfold qF sF; omega), f 16 (by unfold qF sF; omega), a _ (by omega) (by unfold qA sA; omega), a _ (by omega) (by unfold qA sA; omega), a _ (by omega) (by unfold qA sA; omega), a _ (by omega) (by unfold qA sA; omega)]
theorem eM.krn (h : eM s s') : kr s' = kr s ∧ tr s' = tr s ∧ nm s' = nm s := by
  have e := h.2.2.2.1
  exact ⟨congrArg (·.1) e, congrArg (·.2.1) e, congrArg (·.2.2) e⟩
theorem eM.sz (h : eM s s') (z : Sz s) : Sz s' := by
  unfold Sz
  rw [h.2.2.2.2.1 17 (by omega), h.2.2.2.2.1 19 (by omega), h.2.2.2.2.1 22 (by omega), h.2.2.2.2.1 65 (by omega), h.2.2.2.2.1 66 (by omega), h.2.2.2.2.2 57 (by omega)]
  exact z
theorem eM.mq (h : eM s s') (c : Mq s) : Mq s' := ⟨by rw [h.m (Or.inl rfl)]; exact c.1, h.sz c.2.1, (h.2.2.2.2.1 60 (by omega)).trans c.2.2⟩
theorem eM.ko (h : eM s s') (c : KO s) : KO s' := by
  obtain ⟨k1, k2, k3⟩ := h.krn
  refine ⟨?_, fun o ho => ?_, fun o ho => ?_⟩
  · unfold KT
    rw [k1, k2, k3]
    exact c.1
  · rw [k1] at ho
    rw [h.m (c.1.o (Or.inl ho))]
    exact c.2.1 o ho
  · rw [k2] at ho
    rw [h.m (c.1.o (Or.inr ho))]
    exact c.2.2 o ho
theorem eM.mi (h : eM s s') (c : MI s) : MI s' := by
  obtain ⟨c1, c2, c3, c4, c5⟩ := c
  have a : ∀ p, 44 ≤ p → p < 60 → ia s' p = ia s p := fun p h1 h2 => h.1 p h1 (by unfold qA sA; omega)
  have f7 : fi s' 44 7 = fi s 44 7 := h.2.2.1 44 7 (by omega) (by unfold qF sF; omega)
  refine ⟨h.mq c1, ?_, ?_, h.ko c4, fun k hk => ?_⟩
  · unfold sl8
    rw [a 45 (by omega) (by omega), a 46 (by omega) (by omega), a 47 (by omega) (by omega), a 58 (by omega) (by omega)]
    exact c2
  · rw [a 59 (by omega) (by omega), f7]
    exact c3
  · unfold smO
    rw [a 45 (by omega) (by omega), a 47 (by omega) (by omega), a 58 (by omega) (by omega), h.2.1 (49 + k) (by omega) (by omega), h.m (Or.inl rfl)]
    exact c5 k hk
theorem eM.ab (h : eM s s') (c : KT s) : abM s' = abM s := by
  have a : ∀ p, 44 ≤ p → p < 60 → ia s' p = ia s p := fun p h1 h2 => h.1 p h1 (by unfold qA sA; omega)
  have kp : kpM s' = kpM s := by
    unfold kpM
    rw [h.krn.1]
    cases e : kr s with
    | none => rfl
    | some o =>
      show some (md s' o) = some (md s o)
      rw [h.m (c.o (Or.inl e))]
  unfold abM
  rw [h.m (Or.inl rfl), kp, a 59 (by omega) (by omega), h.2.2.1 44 7 (by omega) (by unfold qF sF; omega)]
  refine congrArg _ (congrArg _ (congrArg _ (funext fun k => ?_)))
  split
  · rename_i hk
    unfold shM
    rw [a 45 (by omega) (by omega), a 46 (by omega) (by omega), a 47 (by omega) (by omega), h.2.1 (49 + k) (by omega) (by omega)]
  · rfl
end MI
/-- a call of the reference's: its answer, and what it holds then -/
noncomputable def MC {α : Type} (s : St) (m : Option (α × tH)) (v : α) (A : Ab) : Prop := ∃ s', m = some (v, H s') ∧ MI s' ∧ eC s s' ∧ abM s' = A
theorem Ans.mc {α : Type} {s : St} {m : Option (α × tH)} {v : α} (c : MI s) (h : Ans s m v) : MC s m v (abM s) := by
  obtain ⟨s1, e, q⟩ := h
  exact ⟨s1, e, q.eM.mi c, q.eC, q.eM.ab c.2.2.2.1.1⟩
theorem MC.ref {s : St} (c : MI s) {x : Int32} (hx : isB x) : MC s ((m_189 44 x (H s)).bind fun q => some (q.1, q.2)) x (md s 44, (abM s).2) := (Ans.mf c.1.2.2 hx).mc c
theorem MC.refE {s : St} (c : MI s) {x : Int32} (hx : isB x) : MC s ((m_189 44 x (H s)).bind fun q => some (q.1, q.2)) x ((abM s).1, (abM s).2.1, (abM s).2.2.1, (abM s).2.2.2) := MC.ref c hx
theorem MC.id {α : Type} {s : St} (c : MI s) (v : α) : MC s (some (v, H s)) v (md s 44, (abM s).2) := ⟨s, rfl, c, eC.refl s, rfl⟩
section WM
variable {s : St}
theorem md_w67 (s : St) (g : Gd) : md (wM s 44 g) 67 = md s 67 := rfl
theorem md_w90 (s : St) (g : Gd) : md (wM s 44 g) 90 = md s 90 := rfl
theorem KO_w {g : Gd} (c : KO s) : KO (wM s 44 g) := by
  refine ⟨c.1, fun o ho => ?_, fun o ho => ?_⟩
  · rcases c.1.o (Or.inl ho) with rfl | rfl | rfl
    · rcases c.1 with ⟨-, a, b⟩ | ⟨-, a, b⟩ | ⟨-, a, b⟩ | ⟨-, a, b⟩ | ⟨-, a, b⟩ <;> (have ho' : kr s = some 44 := ho) <;> rw [a] at ho' <;> cases ho'
    · exact c.2.1 67 ho
    · exact c.2.1 90 ho
  · rcases c.1.o (Or.inr ho) with rfl | rfl | rfl
    · rcases c.1 with ⟨-, a, b⟩ | ⟨-, a, b⟩ | ⟨-, a, b⟩ | ⟨-, a, b⟩ | ⟨-, a, b⟩ <;> (have ho' : tr s = some 44 := ho) <;> rw [b] at ho' <;> cases ho'
    · exact c.2.2 67 ho
    · exact c.2.2 90 ho
theorem ab_wM (c : KT s) (g : Gd) : abM (wM s 44 g) = (g, (abM s).2) := by
  have kp : kpM (wM s 44 g) = kpM s := by
    unfold kpM
    have e0 : kr (wM s 44 g) = kr s := rfl
    rw [e0]
    rcases c with ⟨-, a, b⟩ | ⟨-, a, b⟩ | ⟨-, a, b⟩ | ⟨-, a, b⟩ | ⟨-, a, b⟩ <;> rw [a] <;> rfl
  unfold abM
  rw [md_wM, kp]
  rfl
theorem eC_wM {g : Gd} (h1 : sh g) (h2 : sh (md s 44)) : eC s (wM s 44 g) := by
  obtain ⟨a1, a2, a3, a4⟩ := h1
  obtain ⟨b1, b2, b3, b4⟩ := h2
  have e1 : (ia s 61).length = 12 := b1
  have e2 : (ia s 62).length = 12 := b2
  have e3 : (ia s 63).length = 12 := b3
  have e4 : (ia s 64).length = 8 := b4
  refine ⟨fun p hp _ => ?_, fun _ _ => rfl, fun o k ho _ => ?_, fun p _ => ?_, fun _ _ => rfl⟩
  · rw [ia_wM, if_neg (by omega), if_neg (by omega), if_neg (by omega), if_neg (by omega)]
  · rw [fi_wM, if_neg (by omega), if_neg (by omega), if_neg (by omega), if_neg (by omega)]
  · rw [ia_wM]
    split
    · rename_i e; rw [e, a1, e1]
    split
    · rename_i _ e; rw [e, a2, e2]
    split
    · rename_i _ _ e; rw [e, a3, e3]
    split
    · rename_i _ _ _ e; rw [e, a4, e4]
    rfl
theorem MJ_wM (c : MJ s) {g : Gd} (h : ok g) : MJ (wM s 44 g) := by
  obtain ⟨⟨c1, z, l60⟩, c2, c3, c4, c5⟩ := c
  exact ⟨⟨by rw [md_wM]; exact h, z, l60⟩, c2, c3, KO_w c4, fun k hk => c5 k hk⟩
theorem MI_wM (c : MI s) {g : Gd} (h : ok g) (ht : ∀ t, isT (md s 44) t → isT g t) : MI (wM s 44 g) := by
  obtain ⟨⟨c1, z, l60⟩, c2, c3, c4, c5⟩ := c
  refine ⟨⟨by rw [md_wM]; exact h, z, l60⟩, c2, c3, KO_w c4, fun k hk => ?_⟩
  obtain ⟨d1, d2, d3, d4⟩ := c5 k hk
  unfold smO
  rw [md_wM]
  exact ⟨d1, d2, d3, fun e => ht _ (d4 e)⟩
theorem MC.set {α : Type} (c : MI s) {g : Gd} (h : ok g) (ht : ∀ t, isT (md s 44) t → isT g t) (v : α) : MC s (some (v, H (wM s 44 g))) v (g, (abM s).2) := ⟨_, rfl, MI_wM c h ht, eC_wM h.sh c.1.1.sh, ab_wM c.2.2.2.1.1 g⟩
/-! ===== shelves follow ===== -/
noncomputable def foF (g : Gd) (d : List Int32) (k : Nat) (l : List Int32) : List Int32 := if lg l k = i3 2 then if lg d k < tN g then l else l.set k (i3 0) else l
noncomputable def fol (g : Gd) (d l : List Int32) : List Int32 := itr (foF g d) 8 l
theorem lg_set (l : List Int32) {i k : Nat} {x : Int32} (hi : i < l.length) : lg (l.set i x) k = if k = i then x else lg l k := by
  unfold lg
  rw [List.getD_eq_getElem?_getD, List.getD_eq_getElem?_getD, List.getElem?_set]
  by_cases e : i = k
  · subst e
    rw [if_pos rfl, if_pos hi, if_pos rfl]
    rfl
  · rw [if_neg e, if_neg (fun q => e q.symm)]
theorem foF_len (g : Gd) (d : List Int32) (k : Nat) (l : List Int32) : (foF g d k l).length = l.length := by
  unfold foF
  split
  · split
    · rfl
    · exact List.length_set
  · rfl
theorem fo_len (g : Gd) (d : List Int32) : ∀ (n : Nat) (l : List Int32), (itr (foF g d) n l).length = l.length
  | 0, _ => rfl
  | n + 1, l => (foF_len g d n _).trans (fo_len g d n l)
theorem fo_at (g : Gd) (d : List Int32) {l : List Int32} (hl : l.length = 8) : ∀ (n : Nat), n ≤ 8 → ∀ k, lg (itr (foF g d) n l) k = if k < n ∧ lg l k = i3 2 ∧ ¬ lg d k < tN g then i3 0 else lg l k
  | 0, _, k => by rw [if_neg (fun e => Nat.not_lt_zero _ e.1)]; rfl
  | n + 1, hn, k => by
    have ih := fo_at g d hl n (by omega)
    have hln := fo_len g d n l
    show lg (foF g d n (itr (foF g d) n l)) k = _
    have en : lg (itr (foF g d) n l) n = lg l n := by
      rw [ih n, if_neg (fun e => Nat.lt_irrefl _ e.1)]
    rw [show foF g d n (itr (foF g d) n l) = if lg (itr (foF g d) n l) n = i3 2 then if lg d n < tN g then itr (foF g d) n l else (itr (foF g d) n l).set n (i3 0) else itr (foF g d) n l from rfl, en]
    by_cases c1 : lg l n = i3 2
    · rw [if_pos c1]
      by_cases c2 : lg d n < tN g
      · rw [if_pos c2, ih k]
        by_cases e : k = n
        · subst e
          rw [if_neg (fun e => Nat.lt_irrefl _ e.1), if_neg (fun e => e.2.2 c2)]
        · by_cases e2 : k < n
          · simp only [e2, show k < n + 1 by omega]
          · simp only [e2, show ¬ k < n + 1 by omega]
      · rw [if_neg c2, lg_set _ (by omega), ih k]
        by_cases e : k = n
        · subst e
          rw [if_pos rfl, if_pos ⟨by omega, c1, c2⟩]
        · rw [if_neg e]
          by_cases e2 : k < n
          · simp only [e2, show k < n + 1 by omega]
          · simp only [e2, show ¬ k < n + 1 by omega]
    · rw [if_neg c1, ih k]
      by_cases e : k = n
      · subst e
        rw [if_neg (fun e => Nat.lt_irrefl _ e.1), if_neg (fun e => c1 e.2.1)]
      · by_cases e2 : k < n
        · simp only [e2, show k < n + 1 by omega]
        · simp only [e2, show ¬ k < n + 1 by omega]
theorem fol_at (g : Gd) (d : List Int32) {l : List Int32} (hl : l.length = 8) {k : Nat} (hk : k < 8) : lg (fol g d l) k = if lg l k = i3 2 ∧ ¬ lg d k < tN g then i3 0 else lg l k := by
  unfold fol
  rw [fo_at g d hl 8 (Nat.le_refl _) k]
  simp only [hk, true_and]
theorem at_lg {l : List Int32} {k : Nat} (hk : k < l.length) (h2 : l.length ≤ 1000) : at32 l (i3 (k : Int)) = some (lg l k) := by
  rw [at32_nat (by omega), List.getElem?_eq_getElem hk]
  unfold lg
  rw [List.getD_eq_getElem?_getD, List.getElem?_eq_getElem hk]
  rfl
theorem q_207' (h1 : (ia s 45).length = 8) (h2 : (ia s 58).length = 8) : m_207 44 (H s) = some (H (sa s 45 (fol (md s 44) (ia s 58) (ia s 45)))) := by
  have c8 : (Int8.ofInt 8).toInt32 = i3 ((8 : Nat) : Int) := by decide +kernel
  have g0 : ∀ t : St, gN (H t) 8 44 0 = some 45 := fun _ => rfl
  have g5 : ∀ t : St, gN (H t) 8 44 5 = some 58 := fun _ => rfl
  have g10 : ∀ t : St, gI (H t) 8 44 10 = some (tN (md t 44)) := fun _ => rfl
  have a45 : ∀ (t : St) i, aI (H t) 45 i = at32 (ia t 45) i := fun _ _ => aI_of rfl
  have a58 : ∀ (t : St) i, aI (H t) 58 i = at32 (ia t 58) i := fun _ _ => aI_of rfl
  have s45 : ∀ (t : St) i x, sI (H t) 45 i x = (st32 (ia t 45) i x).map (fun l => H (sa t 45 l)) := fun _ _ _ => sI_of rfl
  have e0 : H s = H (sa s 45 (ia s 45)) := by rw [sa_id]
  unfold m_207
  rw [(r_m s).1, Option.bind_some, c8]
  have L := lp0 (R := tH) (X := tH) (K := fun (x4 : tH) => some x4) 8 (by omega) (fun t (l : List Int32) => (t, H (sa s 45 l))) (fun l => H (sa s 45 l)) (foF (md s 44) (ia s 58)) (fun l => l.length = 8) (ia s 45) (F := fun (s1 : Int32 × tH) nx2 ex3 => if i3 ((8 : Nat) : Int) ≤ s1.1 then ex3 s1.2 else (gN s1.2 8 44 0).bind fun o5 => (aI s1.2 o5 s1.1).bind fun x6 => jn (fun (v7 : tH) => nx2 ((s1.1 + Int32.ofInt 1), v7)) (fun j8 => if x6 = (Int32.ofInt 2) then (gN s1.2 8 44 5).bind fun o9 => (aI s1.2 o9 s1.1).bind fun x10 => (gI s1.2 8 44 10).bind fun x11 => if x10 < x11 then j8 s1.2 else (gN s1.2 8 44 0).bind fun o12 => (sI s1.2 o12 s1.1 (Int32.ofInt 0)).bind fun th13 => j8 th13 else j8 s1.2)) ?_ ?_ ?_ h1
  · rw [← e0] at L
    exact L
  · intro k l nx ex hk hl
    have i45 : ia (sa s 45 l) 45 = l := rfl
    have i58 : ia (sa s 45 l) 58 = ia s 58 := rfl
    have md' : md (sa s 45 l) 44 = md s 44 := rfl
    dsimp only
    rw [if_neg (nle hk (by omega)), g0, Option.bind_some, a45, i45, at_lg (by omega) (by omega), Option.bind_some, jnE]
    unfold foF
    by_cases d1 : lg l k = i3 2
    · rw [if_pos (show lg l k = Int32.ofInt 2 from d1), if_pos d1, g5, Option.bind_some, a58, i58, at_lg (by omega) (by omega), Option.bind_some, g10, Option.bind_some, md']
      by_cases d2 : lg (ia s 58) k < tN (md s 44)
      · rw [if_pos d2, if_pos d2]
      · rw [if_neg d2, if_neg d2, Option.bind_some, s45, i45, st32_nat (by omega) (by omega), Option.map_some, Option.bind_some, sa_sa]
    · rw [if_neg (show ¬ lg l k = Int32.ofInt 2 from d1), if_neg d1]
  · intro k l _ hl
    rw [foF_len]; exact hl
  · intro l nx ex hl
    dsimp only
    rw [if_pos (Int32.le_refl _)]
theorem q_207 (c : MJ s) : ∃ s', m_207 44 (H s) = some (H s') ∧ MI s' ∧ eC s s' ∧ abM s' = abM s ∧ md s' 44 = md s 44 := by
  obtain ⟨c1, ⟨l1, l2, l3, l4⟩, c3, c4, c5⟩ := c
  have hlen : (fol (md s 44) (ia s 58) (ia s 45)).length = 8 := (fo_len _ _ 8 _).trans l1
  have hat := fun k (hk : k < 8) => fol_at (md s 44) (ia s 58) l1 hk
  have e0 := q_207' l1 l4
  generalize fol (md s 44) (ia s 58) (ia s 45) = F at hlen hat e0
  have a45 : ia (sa s 45 F) 45 = F := rfl
  have an : ∀ p, p ≠ 45 → ia (sa s 45 F) p = ia s p := fun p hp => by rw [ia_sa, if_neg hp]
  have fn : ∀ o k, fi (sa s 45 F) o k = fi s o k := fun _ _ => rfl
  have ln : ∀ p, la (sa s 45 F) p = la s p := fun _ => rfl
  have mn : ∀ o, (o = 44 ∨ o = 67 ∨ o = 90) → md (sa s 45 F) o = md s o := fun o ho => by
    unfold md
    rw [fn, fn, fn, fn, an _ (by omega), an _ (by omega), an _ (by omega), an _ (by omega)]
  have m44 := mn 44 (Or.inl rfl)
  have kr0 : kr (sa s 45 F) = kr s := rfl
  have tr0 : tr (sa s 45 F) = tr s := rfl
  have nm0 : nm (sa s 45 F) = nm s := rfl
  refine ⟨sa s 45 F, e0, ⟨⟨by rw [m44]; exact c1.1, ?_, by rw [an 60 (by omega)]; exact c1.2.2⟩, ?_, ?_, ⟨?_, fun o ho => ?_, fun o ho => ?_⟩, fun k hk => ?_⟩, (eC.refl s).a (by omega) (fun _ => by rw [hlen, l1]), ?_, m44⟩
  · unfold Sz
    rw [an 17 (by omega), an 19 (by omega), an 22 (by omega), an 65 (by omega), an 66 (by omega), ln]
    exact c1.2.1
  · unfold sl8
    rw [a45, an 46 (by omega), an 47 (by omega), an 58 (by omega)]
    exact ⟨hlen, l2, l3, l4⟩
  · rw [an 59 (by omega), fn]
    exact c3
  · unfold KT
    rw [kr0, tr0, nm0]
    exact c4.1
  · rw [kr0] at ho
    rw [mn o (c4.1.o (Or.inl ho))]
    exact c4.2.1 o ho
  · rw [tr0] at ho
    rw [mn o (c4.1.o (Or.inr ho))]
    exact c4.2.2 o ho
  · obtain ⟨d1, d2, d3, d4⟩ := c5 k hk
    unfold smO
    rw [ln, a45, an 47 (by omega), an 58 (by omega), m44, hat k hk]
    by_cases e : lg (ia s 45) k = i3 2 ∧ ¬ lg (ia s 58) k < tN (md s 44)
    · rw [if_pos e]
      exact ⟨d1, Or.inl rfl, fun e => absurd e (by decide +kernel), fun e => absurd e (by decide +kernel)⟩
    · rw [if_neg e]
      refine ⟨d1, d2, d3, fun e2 => ⟨d4 e2, fun e3 => e ⟨e2, Int32.not_lt.mpr e3⟩⟩⟩
  · have kp : kpM (sa s 45 F) = kpM s := by
      unfold kpM
      rw [kr0]
      cases hk : kr s with
      | none => rfl
      | some o =>
        show some (md (sa s 45 F) o) = some (md s o)
        rw [mn o (c4.1.o (Or.inl hk))]
    unfold abM
    rw [m44, kp, an 59 (by omega), fn]
    refine congrArg _ (congrArg _ (congrArg _ (funext fun k => ?_)))
    by_cases hk : k < 8
    · rw [if_pos hk, if_pos hk]
      unfold shM
      rw [a45, an 46 (by omega), an 47 (by omega), ln, hat k hk]
      by_cases e : lg (ia s 45) k = i3 2 ∧ ¬ lg (ia s 58) k < tN (md s 44)
      · rw [if_pos e, if_neg (by decide +kernel), if_neg (by rw [e.1]; decide +kernel)]
      · rw [if_neg e]
    · rw [if_neg hk, if_neg hk]
end WM
end
section
/-! ===== the reference's calls that change the garden ===== -/
section MP
variable {s : St}
theorem p_9 (s : St) (x : Int32) : pI (H s) 8 44 9 x = some (H (wM s 44 (uD (md s 44) x))) := congrArg (fun z => some (H z)) (sf_m9 s 44 x)
theorem p_10 (s : St) (x : Int32) : pI (H s) 8 44 10 x = some (H (wM s 44 (uT (md s 44) x))) := congrArg (fun z => some (H z)) (sf_m10 s 44 x)
theorem p_14 (s : St) (x : Int32) : pI (H s) 8 44 14 x = some (H (wM s 44 (uW (md s 44) x))) := congrArg (fun z => some (H z)) (sf_m14 s 44 x)
theorem p_16 (s : St) (x : Int32) : pI (H s) 8 44 16 x = some (H (wM s 44 (uE (md s 44) x))) := congrArg (fun z => some (H z)) (sf_m16 s 44 x)
theorem sI63 (s : St) {t x : Int32} (h0 : ¬ t < 0) (h1 : t.toNatClampNeg < (vS (md s 44)).length) : sI (H s) 63 t x = some (H (wM s 44 (uV (md s 44) ((vS (md s 44)).set t.toNatClampNeg x)))) := by
  rw [show sI (H s) 63 t x = (st32 (vS (md s 44)) t x).map (fun l => H (sa s 63 l)) from sI_of rfl, st_wr h0 h1, Option.map_some]
  exact congrArg (fun z => some (H z)) (sa_m19 s 44 _)
theorem sI64 (s : St) {t x : Int32} (h0 : ¬ t < 0) (h1 : t.toNatClampNeg < (wS (md s 44)).length) : sI (H s) 64 t x = some (H (wM s 44 (uS (md s 44) ((wS (md s 44)).set t.toNatClampNeg x)))) := by
  rw [show sI (H s) 64 t x = (st32 (wS (md s 44)) t x).map (fun l => H (sa s 64 l)) from sI_of rfl, st_wr h0 h1, Option.map_some]
  exact congrArg (fun z => some (H z)) (sa_m20 s 44 _)
theorem n_lt {g : Gd} (h : ok g) (hn : ¬ i3 12 ≤ tN g) : nn g < 12 := by
  have n1 := h.n_le
  rw [h.n_eq, show i3 12 = i3 ((12 : Nat) : Int) from rfl, i3n_le (by omega) (by omega)] at hn
  omega
theorem w_lt {g : Gd} (h : ok g) (hn : ¬ i3 8 ≤ wN g) : wn g < 8 := by
  have n1 := h.w_le
  rw [h.w_eq, show i3 8 = i3 ((8 : Nat) : Int) from rfl, i3n_le (by omega) (by omega)] at hn
  omega
theorem q_212 (h : ok (md s 44)) (hn : ¬ i3 12 ≤ tN (md s 44)) (k c a : Int32) : m_212 44 k c a (H s) = some (H (wM s 44 (addT (md s 44) k c a))) := by
  have n2 := n_lt h hn
  have gt : ∀ t : St, gI (H t) 8 44 10 = some (tN (md t 44)) := fun _ => rfl
  have g11 : ∀ t : St, gN (H t) 8 44 11 = some 61 := fun _ => rfl
  have g12 : ∀ t : St, gN (H t) 8 44 12 = some 62 := fun _ => rfl
  have g13 : ∀ t : St, gN (H t) 8 44 13 = some 63 := fun _ => rfl
  have b1 : (tN (md s 44)).toNatClampNeg < (kS (md s 44)).length := by rw [h.2.2.2.1.1]; exact n2
  have b2 : (tN (md s 44)).toNatClampNeg < (cS (md s 44)).length := by rw [h.2.2.2.1.2.1]; exact n2
  have b3 : (tN (md s 44)).toNatClampNeg < (vS (md s 44)).length := by rw [h.2.2.2.1.2.2.1]; exact n2
  unfold m_212
  rw [(r_m s).1, Option.bind_some, g11, Option.bind_some, gt, Option.bind_some, sI61 s h.2.1.1 b1, Option.bind_some, g12, Option.bind_some, gt, Option.bind_some, md_wM]
  have e2 := sI62 (wM s 44 (uK (md s 44) ((kS (md s 44)).set (tN (md s 44)).toNatClampNeg k))) (t := tN (md s 44)) (x := c) h.2.1.1 (by rw [md_wM]; exact b2)
  rw [md_wM, wM_wM] at e2
  rw [show tN (uK (md s 44) ((kS (md s 44)).set (tN (md s 44)).toNatClampNeg k)) = tN (md s 44) from rfl, e2, Option.bind_some, g13, Option.bind_some, gt, Option.bind_some, md_wM]
  generalize hg : uC (uK (md s 44) ((kS (md s 44)).set (tN (md s 44)).toNatClampNeg k)) _ = g2
  have et : tN g2 = tN (md s 44) := by rw [← hg]; rfl
  have ev : vS g2 = vS (md s 44) := by rw [← hg]; rfl
  have e3 := sI63 (wM s 44 g2) (t := tN g2) (x := a) (by rw [et]; exact h.2.1.1) (by rw [md_wM, ev, et]; exact b3)
  rw [md_wM, wM_wM] at e3
  rw [e3, Option.bind_some, gt, Option.bind_some, p_10, Option.bind_some, md_wM, wM_wM, ← hg]
  rfl
theorem q_210 (h : ok (md s 44)) {t : Int32} (ht : isT (md s 44) t) : m_210 44 t (H s) = some (ww (md s 44) t) := by
  unfold m_210
  rw [(r_m s).1, Option.bind_some]
  refine (lp0 (wn (md s 44)) (by have := h.w_le; omega) (fun t a => (a, t)) (fun a => a) (wwF (md s 44) t) (fun _ => True) (i3 0) ?_ (fun _ _ _ _ => trivial) ?_ trivial).trans rfl
  · intro k m nx ex hk _
    dsimp only
    rw [(r_g s).2.2.2.1, Option.bind_some, if_neg (h.W hk).2, (r_g s).2.2.2.2.2.2.2.2.1, Option.bind_some, (r_g s).2.2.2.2.2.2.2.2.2.2.2.2, h.at_w (h.W hk), Option.bind_some, q_195, Option.bind_some, jnE, bP_if]
    dsimp only
    have e := hs_T h ht (wA (md s 44) (i3 (k : Int)))
    unfold wwF
    by_cases d : wA (md s 44) (i3 (k : Int)) &&& bit t = 0
    · rw [if_neg (fun q => (e.mp q) d), if_pos d, add0]
    · rw [if_pos (e.mpr d), if_neg d]
  · intro a nx ex _
    dsimp only
    rw [(r_g s).2.2.2.1, Option.bind_some, if_pos (h.We (Nat.le_refl _) (by have := h.w_le; omega))]
theorem last_T {g : Gd} (h : ok g) (h0 : ¬ tN g ≤ 0) : isT g (tN g - i3 1) := by
  have hn := h.n_le
  have n0 : 0 < nn g := by
    rw [h.n_eq, show (0 : Int32) = i3 ((0 : Nat) : Int) from rfl, i3n_le (by omega) (by omega)] at h0
    omega
  have e : tN g - i3 1 = i3 ((nn g - 1 : Nat) : Int) := by
    rw [h.n_eq]
    exact i3_nat_sub n0
  rw [e]
  exact h.T (by omega)
theorem q_218 (h : ok (md s 44)) : m_218 44 (H s) = some (bP (fel (md s 44))) := by
  unfold m_218
  rw [(r_m s).1, Option.bind_some, (r_g s).2.2.1, Option.bind_some, jnE, jnE]
  by_cases d1 : tN (md s 44) ≤ 0
  · rw [if_pos d1, bP_f (fun e => e.1 d1)]
    rfl
  · rw [if_neg d1, Option.bind_some, q_210 h (last_T h d1), Option.bind_some]
    by_cases d2 : ww (md s 44) (tN (md s 44) - i3 1) = 0
    · rw [if_pos (show ww (md s 44) (tN (md s 44) - Int32.ofInt 1) = 0 from d2), bP_t ⟨d1, d2⟩]
      rfl
    · rw [if_neg (show ¬ ww (md s 44) (tN (md s 44) - Int32.ofInt 1) = 0 from d2), bP_f (fun e => d2 e.2)]
      rfl
theorem e_9 (c : MI s) (n : Int32) : MC s (m_211 44 n (H s)) (vSide (md s 44) n) (gSide (md s 44) n, (abM s).2) := by
  unfold m_211 vSide gSide
  rw [(r_m s).1, Option.bind_some, jc.2.2.2.1, jc.2.2.2.2.2.2.2.1, q_190, Option.bind_some, bP_if]
  by_cases c1 : n < i3 3
  · rw [if_neg (fun e => e.1 c1), if_pos c1, if_pos c1, cst.1]
    exact MC.ref c isB2
  rw [if_neg c1, if_neg c1]
  by_cases c2 : n ≤ i3 8
  · rw [if_pos ⟨c1, Int32.not_lt.mpr c2⟩, if_pos c2, if_pos c2, (r_g s).2.2.1, Option.bind_some]
    by_cases c3 : tN (md s 44) ≤ 0
    · rw [if_pos c3, if_pos c3, if_pos c3, (r_g s).2.1, Option.bind_some, p_9, Option.bind_some]
      refine MC.set c (ok_uD c.1.1 c3 (ge3 c1) c2) (fun t ht => ?_) _
      have a := ht.1
      have b := ht.2
      rw [Int32.lt_iff_toInt_lt] at a
      rw [Int32.le_iff_toInt_le] at b c3
      have e : (0 : Int32).toInt = 0 := by decide +kernel
      omega
    · rw [if_neg c3, if_neg c3, if_neg c3, cst.2.2.2.1]
      exact MC.ref c isB5
  · rw [if_neg (fun e => e.2 (Int32.not_le.mp c2)), if_neg c2, if_neg c2, cst.1]
    exact MC.ref c isB2
theorem e_10 (c : MI s) (k x a : Int32) : MC s (m_213 44 k x a (H s)) (vTree (md s 44) k x a) (gTree (md s 44) k x a, (abM s).2) := by
  have c12 : (Int8.ofInt 12).toInt32 = i3 12 := by decide +kernel
  have c6 : (Int8.ofInt (-6)).toInt32 = i3 (-6) := by decide +kernel
  unfold m_213 vTree gTree
  rw [(r_m s).1, Option.bind_some, jc.1, jc.2.2.2.2.2.1, q_190, Option.bind_some, jnE, bP_if]
  by_cases c1 : k < 0
  · rw [if_neg (fun e => e.1 c1), if_pos c1, if_pos c1, cst.1]
    exact MC.ref c isB2
  rw [if_neg c1, if_neg c1]
  by_cases c2 : i3 5 < k
  · rw [if_neg (fun e => e.2 c2), if_pos c2, if_pos c2, cst.1]
    exact MC.ref c isB2
  rw [if_neg c2, if_neg c2, if_pos ⟨c1, c2⟩, q_193 c.1.1, Option.bind_some, bP_if]
  by_cases c3 : isCl (md s 44) x
  · rw [if_pos c3, if_pos c3, if_pos c3, jc.2.2.2.2.2.2.2.2.1, q_190, Option.bind_some, bP_if]
    by_cases c4 : a < 0
    · rw [if_neg (fun e => e.1 c4), if_pos c4, if_pos c4, cst.1]
      exact MC.ref c isB2
    rw [if_neg c4, if_neg c4]
    by_cases c5 : a ≤ i3 9
    · rw [if_pos ⟨c4, Int32.not_lt.mpr c5⟩, if_pos c5, if_pos c5, q_194 c.1.1, Option.bind_some]
      by_cases c6' : tIn (md s 44) x = i3 (-1)
      · rw [if_pos (show _ = Int32.ofInt (-1) from c6'), if_pos c6', if_pos c6', (r_g s).2.2.1, Option.bind_some, c12]
        by_cases c7 : tN (md s 44) < i3 12
        · have n7 : ¬ tN (md s 44) = i3 12 := fun e => by rw [e] at c7; exact absurd c7 (by decide +kernel)
          have c8 := not12 c7
          have gt : ∀ t : St, gI (H t) 8 44 10 = some (tN (md t 44)) := fun _ => rfl
          rw [if_neg n7, if_pos c7, if_pos c7, q_212 c.1.1 c8, Option.bind_some, gt, Option.bind_some, md_wM]
          exact MC.set c (ok_addT c.1.1 c8 ⟨c1, le5 c2⟩ c3 c6') (fun t ht => addT_T c.1.1 c8 _ _ _ ht) _
        · have e7 : tN (md s 44) = i3 12 := by
            have a1 := c.1.1.2.1.2
            rw [Int32.le_iff_toInt_le] at a1
            rw [Int32.lt_iff_toInt_lt] at c7
            exact Int32.toInt_inj.mp (by omega)
          rw [if_pos e7, if_neg c7, if_neg c7, c6]
          exact MC.ref c isB6
      · rw [if_neg (show ¬ _ = Int32.ofInt (-1) from c6'), if_neg c6', if_neg c6', cst.2.2.2.1]
        exact MC.ref c isB5
    · rw [if_neg (fun e => e.2 (Int32.not_le.mp c5)), if_neg c5, if_neg c5, cst.1]
      exact MC.ref c isB2
  · rw [if_neg c3, if_neg c3, if_neg c3, cst.1]
    exact MC.ref c isB2
theorem shr_toInt {x : Int32} {k : Nat} (hk : k < 31) : (x >>> (i3 (k : Int) &&& 31)).toInt = x.toInt / 2 ^ k := by
  have e3 : ((i3 (k : Int) &&& 31).toBitVec.smod 32).toNat = k := by
    have : ∀ k : Nat, k < 31 → ((i3 (k : Int) &&& 31).toBitVec.smod 32).toNat = k := by decide +kernel
    exact this k hk
  show (x >>> (i3 (k : Int) &&& 31)).toBitVec.toInt = x.toBitVec.toInt / 2 ^ k
  rw [Int32.toBitVec_shiftRight]
  unfold BitVec.sshiftRight'
  rw [e3, BitVec.toInt_sshiftRight, Int.shiftRight_eq_div_pow]
  simp
theorem st3M_iff {g : Gd} (h : ok g) (x : Int32) : st3M g x ↔ st3 g x := by
  have hn := h.n_le
  have hp := p12 hn
  rw [st3_iff h]
  have key : ∀ X : Nat, X < 2147483648 → ((i3 (X : Int) >>> (tN g &&& 31) = 0) ↔ X < 2 ^ nn g) := fun X hX => by
    have e0 : (i3 (X : Int) >>> (tN g &&& 31) = 0) ↔ (i3 (X : Int) >>> (i3 (nn g : Int) &&& 31)).toInt = 0 := by
      rw [h.n_eq]
      exact ⟨fun e => by rw [e]; decide +kernel, fun e => Int32.toInt_inj.mp (e.trans (by decide +kernel))⟩
    have e1 : (X : Int) / 2 ^ nn g = ((X / 2 ^ nn g : Nat) : Int) := by
      rw [Int.natCast_ediv, Int.natCast_pow]
      rfl
    rw [e0, shr_toInt (by omega), i3_toInt ⟨by omega, by omega⟩, e1]
    have pp : 0 < 2 ^ nn g := Nat.two_pow_pos _
    constructor
    · intro e
      have e' : X / 2 ^ nn g = 0 := by omega
      exact (Nat.div_eq_zero_iff_lt pp).mp e'
    · intro e
      rw [Nat.div_eq_of_lt e]
      rfl
  constructor
  · rintro ⟨a, b, d⟩
    have ex := i3_cl a
    have hX : x.toNatClampNeg < 2147483648 := by
      show x.toInt.toNat < _
      have := Int32.toInt_lt x
      omega
    rw [ex] at b
    have b' := (key _ hX).mp b
    refine ⟨x.toNatClampNeg, b', ex, ?_⟩
    rw [ex, bs_eq (by omega), bct_eq (by omega)] at d
    have := pc_le x.toNatClampNeg
    exact (i3n_le (a := 3) (by omega) (by omega)).mp d
  · rintro ⟨m, h1, rfl, h3⟩
    have := pc_le m
    refine ⟨i3n_nneg (by omega), (key m (by omega)).mpr h1, ?_⟩
    rw [bs_eq (by omega), bct_eq (by omega)]
    exact (i3n_le (a := 3) (by omega) (by omega)).mpr h3
theorem e_11 (c : MI s) (m : Int32) : MC s (m_214 44 m (H s)) (vWish (md s 44) m) (gWish (md s 44) m, (abM s).2) := by
  have c8' : (Int8.ofInt 8).toInt32 = i3 8 := by decide +kernel
  have c6 : (Int8.ofInt (-6)).toInt32 = i3 (-6) := by decide +kernel
  have h := c.1.1
  have iff := st3M_iff h m
  unfold m_214 vWish gWish
  rw [(r_m s).1, Option.bind_some, jnE]
  by_cases c1 : m < 0
  · have n : ¬ st3 (md s 44) m := fun e => (iff.mpr e).1 c1
    rw [if_pos c1, if_neg n, if_neg n, cst.1]
    exact MC.ref c isB2
  rw [if_neg c1, (r_g s).2.2.1, Option.bind_some]
  by_cases c2 : (m >>> (tN (md s 44) &&& 31)) = 0
  · rw [if_pos c2, q_196, Option.bind_some]
    by_cases c3 : i3 3 ≤ bs m
    · have y : st3 (md s 44) m := iff.mp ⟨c1, c2, c3⟩
      rw [if_pos (show Int32.ofInt 3 ≤ bs m from c3), if_pos y, if_pos y, (r_g s).2.2.2.1, Option.bind_some, c8']
      by_cases c4 : wN (md s 44) < i3 8
      · have n4 : ¬ wN (md s 44) = i3 8 := fun e => by rw [e] at c4; exact absurd c4 (by decide +kernel)
        have c5 := not8 c4
        have n2 := w_lt h c5
        have gw : ∀ t : St, gI (H t) 8 44 14 = some (wN (md t 44)) := fun _ => rfl
        have e2 := sI64 (wM s 44 (uW (md s 44) (wN (md s 44) + i3 1))) (t := wN (md s 44)) (x := m) h.2.2.1.1 (by rw [md_wM]; show _ < (wS (md s 44)).length; rw [h.2.2.2.1.2.2.2]; exact n2)
        rw [md_wM, wM_wM] at e2
        rw [if_neg n4, if_pos c4, if_pos c4, (r_g s).2.2.2.2.2.2.2.2.1, Option.bind_some, Option.bind_some, p_14, Option.bind_some, e2, Option.bind_some, gw, Option.bind_some, md_wM]
        exact MC.set c (ok_addW h c5 y) (fun t ht => ht) _
      · have e4 : wN (md s 44) = i3 8 := by
          have a1 := h.2.2.1.2
          rw [Int32.le_iff_toInt_le] at a1
          rw [Int32.lt_iff_toInt_lt] at c4
          exact Int32.toInt_inj.mp (by omega)
        rw [if_pos e4, if_neg c4, if_neg c4, c6]
        exact MC.ref c isB6
    · have n : ¬ st3 (md s 44) m := fun e => c3 (iff.mpr e).2.2
      rw [if_neg (show ¬ Int32.ofInt 3 ≤ bs m from c3), if_neg n, if_neg n, cst.1]
      exact MC.ref c isB2
  · have n : ¬ st3 (md s 44) m := fun e => c2 (iff.mpr e).2.1
    rw [if_neg c2, if_neg n, if_neg n, cst.1]
    exact MC.ref c isB2
theorem e_12 (c : MI s) : MC s (m_215 44 (H s)) (wN (md s 44)) (uW (md s 44) (i3 0), (abM s).2) := by
  unfold m_215
  rw [(r_m s).1, Option.bind_some, (r_g s).2.2.2.1, Option.bind_some, p_14, Option.bind_some]
  exact MC.set c (ok_uW0 c.1.1) (fun t ht => ht) _
theorem e_13 (c : MI s) (t x : Int32) : MC s (m_217 44 t x (H s)) (vMove (md s 44) t x) (gMove (md s 44) t x, (abM s).2) := by
  obtain ⟨s1, e1, q1, k1⟩ := q_216 c.1 t x
  unfold m_217 vMove gMove
  rw [(r_m s).1, Option.bind_some, e1, Option.bind_some]
  dsimp only
  by_cases c1 : nomv (md s 44) t x = 0
  · obtain rfl := k1 c1
    obtain ⟨h1, h2, h3, h4⟩ := nomv_0 c1
    have hl := c.1.1.tl h1
    have hn := c.1.1.n_le
    rw [if_pos c1, if_pos c1, if_pos c1, (r_g s1).2.2.2.2.2.2.1, Option.bind_some, (r_g s1).2.2.2.2.2.2.2.2.2.2.1, c.1.1.at_c h1, Option.bind_some, Option.bind_some, sI62 s1 h1.1 (by rw [c.1.1.2.2.2.1.2.1]; omega), Option.bind_some]
    exact MC.set c (ok_mvT c.1.1 h1 h2 h4) (fun t ht => ht) _
  · rw [if_neg c1, if_neg c1, if_neg c1]
    exact ⟨s1, rfl, q1.eM.mi c, q1.eC, q1.eM.ab c.2.2.2.1.1⟩
theorem e_14 (c : MI s) : MC s (m_219 44 (H s)) (vFell (md s 44)) (gFell (md s 44), (abM s).2) := by
  unfold m_219 vFell gFell
  rw [(r_m s).1, Option.bind_some, q_218 c.1.1, Option.bind_some, bP_if]
  by_cases c1 : fel (md s 44)
  · have h := ok_fell c.1.1 c1
    have gt : ∀ t : St, gI (H t) 8 44 10 = some (tN (md t 44)) := fun _ => rfl
    obtain ⟨s1, e1, i1, m1, a1, em⟩ := q_207 (MJ_wM c.mj h)
    rw [if_pos c1, if_pos c1, if_pos c1, gt, Option.bind_some, p_10, Option.bind_some]
    show MC s ((m_207 44 (H (wM s 44 (uT (md s 44) (tN (md s 44) - i3 1))))).bind _) _ _
    rw [e1, Option.bind_some, gt, Option.bind_some, em, md_wM]
    exact ⟨s1, rfl, i1, (eC_wM h.sh c.1.1.sh).trans m1, a1.trans (ab_wM c.2.2.2.1.1 _)⟩
  · rw [if_neg c1, if_neg c1, if_neg c1, cst.2.2.2.1]
    exact MC.ref c isB5
theorem e_55 (c : MI s) (v : Int32) : MC s (m_297 44 v (H s)) (sE (md s 44)) (uE (md s 44) v, (abM s).2) := by
  unfold m_297
  rw [(r_m s).1, Option.bind_some, (r_g s).2.2.2.2.1, Option.bind_some, p_16, Option.bind_some]
  exact MC.set c (ok_uE c.1.1 v) (fun t ht => ht) _
/-! ===== the reference's tape ===== -/
theorem tape_MI (c : MI s) {l : List Int32} {n : Int32} (hl : l.length = 250) (h0 : ¬ n < 0) (h1 : n ≤ i3 250) : MI (sf (sa s 59 l) 44 7 n) ∧ eC s (sf (sa s 59 l) 44 7 n) ∧ abM (sf (sa s 59 l) 44 7 n) = ((abM s).1, (abM s).2.1, (l, n), (abM s).2.2.2) := by
  obtain ⟨c1, c2, c3, c4, c5⟩ := c
  have hmd : ∀ o, (o = 44 ∨ o = 67 ∨ o = 90) → md (sf (sa s 59 l) 44 7 n) o = md s o := fun o ho => by rcases ho with rfl | rfl | rfl <;> rfl
  refine ⟨⟨c1, c2, ⟨hl, h0, h1⟩, ⟨c4.1, fun o ho => ?_, fun o ho => ?_⟩, c5⟩, ((eC.refl s).a (by omega) (fun _ => by rw [hl, c3.1])).f (by omega), ?_⟩
  · rw [hmd o (c4.1.o (Or.inl ho))]
    exact c4.2.1 o ho
  · rw [hmd o (c4.1.o (Or.inr ho))]
    exact c4.2.2 o ho
  · have kp : kpM (sf (sa s 59 l) 44 7 n) = kpM s := by
      unfold kpM
      have e0 : kr (sf (sa s 59 l) 44 7 n) = kr s := rfl
      rw [e0]
      rcases c4.1 with ⟨-, a, b⟩ | ⟨-, a, b⟩ | ⟨-, a, b⟩ | ⟨-, a, b⟩ | ⟨-, a, b⟩ <;> rw [a] <;> rfl
    unfold abM
    rw [kp]
    rfl
theorem MC.tape {α : Type} (c : MI s) {l : List Int32} {n : Int32} (hl : l.length = 250) (h0 : ¬ n < 0) (h1 : n ≤ i3 250) (v : α) : MC s (some (v, H (sf (sa s 59 l) 44 7 n))) v ((abM s).1, (abM s).2.1, (l, n), (abM s).2.2.2) := by
  obtain ⟨a, b, d⟩ := tape_MI c hl h0 h1
  exact ⟨_, rfl, a, b, d⟩
theorem e_15 (c : MI s) (x : Int32) : MC s (m_220 44 x (H s)) (vFeed (ia s 59, fi s 44 7) x) ((abM s).1, (abM s).2.1, tFeed (ia s 59, fi s 44 7) x, (abM s).2.2.2) := by
  obtain ⟨t1, t2, t3⟩ := c.2.2.1
  have c250 : (Int16.ofInt 250).toInt32 = i3 250 := by decide +kernel
  have c6 : (Int8.ofInt (-6)).toInt32 = i3 (-6) := by decide +kernel
  have g7 : ∀ t : St, gI (H t) 8 44 7 = some (fi t 44 7) := fun _ => rfl
  have g6 : ∀ t : St, gN (H t) 8 44 6 = some 59 := fun _ => rfl
  have p7 : ∀ (t : St) x, pI (H t) 8 44 7 x = some (H (sf t 44 7 x)) := fun _ _ => rfl
  have s59 : ∀ (t : St) i x, sI (H t) 59 i x = (st32 (ia t 59) i x).map (fun l => H (sa t 59 l)) := fun _ _ _ => sI_of rfl
  unfold m_220 vFeed tFeed
  rw [(r_m s).1, Option.bind_some, jc.1, jc.2.2.2.2.2.2.2.2.2.2.2.2.1, q_190, Option.bind_some, bP_if]
  by_cases c1 : x < 0
  · rw [if_neg (fun e => e.1 c1), if_pos c1, if_pos c1, cst.1]
    exact MC.refE c isB2
  rw [if_neg c1, if_neg c1]
  by_cases c2 : x ≤ i3 255
  · rw [if_pos ⟨c1, Int32.not_lt.mpr c2⟩, if_pos c2, if_pos c2, g7, Option.bind_some, c250]
    by_cases c3 : fi s 44 7 < i3 250
    · have n3 : ¬ fi s 44 7 = i3 250 := fun e => by rw [e] at c3; exact absurd c3 (by decide +kernel)
      have hb : (fi s 44 7).toNatClampNeg < 250 := lt_cl (b := 250) (by omega) t2 (Int32.not_le.mpr c3)
      have en := i3_cl t2
      have e2 : fi s 44 7 + i3 1 = i3 (((fi s 44 7).toNatClampNeg + 1 : Nat) : Int) := by
        rw [← i3_nat_add, ← en]
      have i59 : ∀ y, ia (sf s 44 7 y) 59 = ia s 59 := fun _ => rfl
      have f7 : ∀ (l : List Int32) y, fi (sa (sf s 44 7 y) 59 l) 44 7 = y := fun _ _ => rfl
      rw [if_neg n3, if_pos (show (ia s 59, fi s 44 7).2 < i3 250 from c3), if_pos (show (ia s 59, fi s 44 7).2 < i3 250 from c3), g6, Option.bind_some, Option.bind_some, p7, Option.bind_some, s59, i59, st_wr t2 (by rw [t1]; exact hb), Option.map_some, Option.bind_some, g7, Option.bind_some, f7]
      exact MC.tape c (l := (ia s 59).set (fi s 44 7).toNatClampNeg x) (n := fi s 44 7 + i3 1) ((List.length_set).trans t1) (by rw [e2]; exact i3n_nneg (by omega)) (by rw [e2]; exact (i3n_le (b := 250) (by omega) (by omega)).mpr (by omega)) _
    · have e3 : fi s 44 7 = i3 250 := by
        rw [Int32.le_iff_toInt_le] at t3
        rw [Int32.lt_iff_toInt_lt] at c3
        exact Int32.toInt_inj.mp (by omega)
      rw [if_pos e3, if_neg (show ¬ (ia s 59, fi s 44 7).2 < i3 250 from c3), if_neg (show ¬ (ia s 59, fi s 44 7).2 < i3 250 from c3), c6]
      exact MC.refE c isB6
  · rw [if_neg (fun e => e.2 (Int32.not_le.mp c2)), if_neg c2, if_neg c2, cst.1]
    exact MC.refE c isB2
theorem e_16 (c : MI s) : MC s (m_221 44 (H s)) (fi s 44 7) ((abM s).1, (abM s).2.1, (ia s 59, i3 0), (abM s).2.2.2) := by
  have g7 : ∀ t : St, gI (H t) 8 44 7 = some (fi t 44 7) := fun _ => rfl
  have p7 : ∀ (t : St) x, pI (H t) 8 44 7 x = some (H (sf t 44 7 x)) := fun _ _ => rfl
  unfold m_221
  rw [(r_m s).1, Option.bind_some, g7, Option.bind_some, p7, Option.bind_some]
  have := MC.tape c (l := ia s 59) (n := i3 0) c.2.2.1.1 (by decide +kernel) (by decide +kernel) (fi s 44 7)
  rw [sa_id] at this
  exact this
end MP
end
section
/-! ===== the reference in truth: turnings, the best move, plantings ===== -/
section MT
variable {s : St}
theorem q_292 (h : ok (md s 44)) : m_292 44 (H s) = some (cnt (md s 44) (i3 1)) := by
  unfold m_292
  rw [(r_m s).1, Option.bind_some]
  refine (lp0 (nn (md s 44)) (by have := h.n_le; omega) (fun t a => (a, t)) (fun a => a) (cntF (md s 44) (i3 1)) (fun _ => True) (i3 0) ?_ (fun _ _ _ _ => trivial) ?_ trivial).trans rfl
  · intro k m nx ex hk _
    dsimp only
    rw [(r_g s).2.2.1, Option.bind_some, if_neg (h.T hk).2, q_197 h (h.T hk), Option.bind_some, jnE, bP_if]
    dsimp only
    unfold cntF
    by_cases d : kOf (kA (md s 44) (i3 (k : Int))) (i3 1)
    · rw [if_pos d, if_pos d]
    · rw [if_neg d, if_neg d, add0]
  · intro a nx ex _
    dsimp only
    rw [(r_g s).2.2.1, Option.bind_some, if_pos (h.Te (Nat.le_refl _) (by have := h.n_le; omega))]
theorem dvz {g : Gd} (h : ¬ sD g = 0) (a : Int32) : dvI a (sD g) = some (rO g a) := if_neg h
theorem rmz {g : Gd} (h : ¬ sD g = 0) (a : Int32) : rmI a (sD g) = some (cO g a) := if_neg h
theorem q_281d (h : ¬ sD (md s 44) = 0) (c : Int32) : m_281 44 c (H s) = some (trM (md s 44) c) := by
  unfold m_281 trM
  simp only [r_g, Option.bind_some, dvz h, rmz h]
theorem q_282d (h : ¬ sD (md s 44) = 0) (c : Int32) : m_282 44 c (H s) = some (miM (md s 44) c) := by
  unfold m_282 miM
  simp only [r_g, Option.bind_some, dvz h, rmz h]
theorem trM_eq {g : Gd} (h : ok g) {c : Int32} (hc : isCl g c) : trM g c = trn g c := by
  have hk := h.cl hc
  have h1 := h.d_le
  have h3 := h.cc_le
  have h4 := cell_rc hk
  rw [i3_cl hc.1, ok_trn h hk]
  unfold trM
  rw [h.ro (by omega), h.co (by omega), h.d_eq, i3_mul, i3_add, i3_sub, i3_sub]
  congr 1
  rw [Int.natCast_add, Int.natCast_mul]
  generalize c.toNatClampNeg / dn g = r at h4
  generalize c.toNatClampNeg % dn g = q at h4
  generalize (q : Int) * (dn g : Int) = z
  omega
theorem miM_eq {g : Gd} (h : ok g) {c : Int32} (hc : isCl g c) : miM g c = mir g c := by
  have hk := h.cl hc
  have h1 := h.d_le
  have h3 := h.cc_le
  have h4 := cell_rc hk
  rw [i3_cl hc.1, ok_mir h hk]
  unfold miM
  rw [h.ro (by omega), h.co (by omega), h.d_eq, i3_mul, i3_add, i3_sub, i3_sub]
  congr 1
  rw [Int.natCast_add, Int.natCast_mul]
  generalize c.toNatClampNeg / dn g = r at h4
  generalize c.toNatClampNeg % dn g = q at h4
  generalize (r : Int) * (dn g : Int) = z
  omega
theorem mp_eq {f f' : Int32 → Int32} : ∀ (n : Nat) (l : List Int32), n ≤ l.length → (∀ k, k < n → f (l.getD k 0) = f' (l.getD k 0)) → itr (mpF f) n l = itr (mpF f') n l
  | 0, _, _, _ => rfl
  | n + 1, l, hn, hf => by
    show mpF f n (itr (mpF f) n l) = mpF f' n (itr (mpF f') n l)
    rw [mp_eq n l (by omega) (fun k hk => hf k (by omega))]
    unfold mpF
    have e := (mpF_get (f := f') n l (by omega)).2 n
    rw [if_neg (Nat.lt_irrefl _)] at e
    have e2 : (itr (fun k l => l.set k (f' (l.getD k 0))) n l).getD n 0 = l.getD n 0 := e
    rw [e2, hf n (by omega)]
theorem mpC_eq {g : Gd} (h : ok g) {f f' : Int32 → Int32} (hf : ∀ c, isCl g c → f c = f' c) : mpC g f = mpC g f' := by
  unfold mpC
  exact congrArg (uC g) (mp_eq (nn g) (cS g) (by rw [h.2.2.2.1.2.1]; exact h.n_le) (fun k hk => by
    have h1 := h.2.2.2.2.2.1 _ (h.T hk)
    have e : cA g (i3 (k : Int)) = (cS g).getD k 0 := rd_i3 (by have := h.n_le; omega)
    rw [e] at h1
    exact hf _ h1))
theorem H_uM (s : St) : H s = H (wM s 44 (uC (md s 44) (cS (md s 44)))) := by
  rw [show uC (md s 44) (cS (md s 44)) = md s 44 from rfl, wM_id]
theorem e_tm (c : MI s) {f f' : Int32 → Int32} {M : Int32 → tH → Option Int32} (hM : ∀ (t : St), sD (md t 44) = sD (md s 44) → ∀ x, M x (H t) = some (f x)) (hf : ∀ c, isCl (md s 44) c → f c = f' c) (hk : ok (mpC (md s 44) f')) : MC s (lp (fun (s1 : Int32 × tH) nx2 ex3 => (gI s1.2 8 44 10).bind fun x6 => if x6 ≤ s1.1 then ex3 s1.2 else (gN s1.2 8 44 12).bind fun o7 => (gN s1.2 8 44 12).bind fun o8 => (aI s1.2 o8 s1.1).bind fun x9 => (M x9 s1.2).bind fun x10 => (sI s1.2 o7 s1.1 x10).bind fun th11 => nx2 ((s1.1 + Int32.ofInt 1), th11)) 4096 ((Int32.ofInt 0), H s) (fun (x4 : tH) => (m_292 44 x4).bind fun x5 => some (x5, x4))) (cnt (md s 44) (i3 1)) (mpC (md s 44) f', (abM s).2) := by
  have h := c.1.1
  have hn := h.n_le
  have gt : ∀ t : St, gI (H t) 8 44 10 = some (tN (md t 44)) := fun _ => rfl
  have g12 : ∀ t : St, gN (H t) 8 44 12 = some 62 := fun _ => rfl
  have a62 : ∀ (t : St) i, aI (H t) 62 i = at32 (cS (md t 44)) i := fun _ _ => aI_of rfl
  have L := lp0 (R := Int32 × tH) (X := tH) (K := fun (x4 : tH) => (m_292 44 x4).bind fun x5 => some (x5, x4)) (F := fun (s1 : Int32 × tH) nx2 ex3 => (gI s1.2 8 44 10).bind fun x6 => if x6 ≤ s1.1 then ex3 s1.2 else (gN s1.2 8 44 12).bind fun o7 => (gN s1.2 8 44 12).bind fun o8 => (aI s1.2 o8 s1.1).bind fun x9 => (M x9 s1.2).bind fun x10 => (sI s1.2 o7 s1.1 x10).bind fun th11 => nx2 ((s1.1 + Int32.ofInt 1), th11)) (nn (md s 44)) (by have := h.n_le; omega) (fun t (l : List Int32) => (t, H (wM s 44 (uC (md s 44) l)))) (fun l => H (wM s 44 (uC (md s 44) l))) (mpF f) (fun l => l.length = 12) (cS (md s 44)) ?_ ?_ ?_ h.2.2.2.1.2.1
  · rw [← H_uM] at L
    rw [L]
    have e0 : uC (md s 44) (itr (mpF f) (nn (md s 44)) (cS (md s 44))) = mpC (md s 44) f' := mpC_eq h hf
    rw [e0]
    have e1 := q_292 (s := wM s 44 (mpC (md s 44) f')) (by rw [md_wM]; exact hk)
    rw [md_wM] at e1
    rw [e1, Option.bind_some]
    exact MC.set c hk (fun t ht => ht) _
  · intro k l nx ex hk hl
    have e1 : ¬ tN (uC (md s 44) l) ≤ i3 (k : Int) := (h.T hk).2
    have e2 : at32 (cS (uC (md s 44) l)) (i3 (k : Int)) = some (l.getD k 0) := by
      show at32 l _ = _
      rw [at32_nat (by omega), List.getD_eq_getElem?_getD, List.getElem?_eq_getElem (by omega)]; rfl
    have e4 := sI62 (wM s 44 (uC (md s 44) l)) (t := i3 (k : Int)) (x := f (l.getD k 0)) (i3n_nneg (by omega)) (by rw [md_wM, cl_i3 (by omega)]; show k < l.length; omega)
    rw [md_wM, wM_wM, cl_i3 (by omega)] at e4
    dsimp only
    rw [gt, Option.bind_some, md_wM, if_neg e1, g12, Option.bind_some, Option.bind_some, a62, md_wM, e2, Option.bind_some, hM _ (by rw [md_wM]; rfl), Option.bind_some, e4, Option.bind_some]
    rfl
  · intro k l _ hl
    exact (List.length_set).trans hl
  · intro l nx ex hl
    have e1 : tN (uC (md s 44) l) ≤ i3 (nn (md s 44) : Int) := h.Te (Nat.le_refl _) (by have := h.n_le; omega)
    dsimp only
    rw [gt, Option.bind_some, md_wM, if_pos e1]
theorem e_51 (c : MI s) : MC s (m_293 44 (H s)) (cnt (md s 44) (i3 1)) (mpC (md s 44) (trn (md s 44)), (abM s).2) := by
  have d0 := c.1.1.d_0
  unfold m_293
  rw [(r_m s).1, Option.bind_some]
  refine e_tm c (f := trM (md s 44)) (M := fun x th => m_281 44 x th) (fun t et x => ?_) (fun x hx => trM_eq c.1.1 hx) (ok_turn c.1.1)
  rw [q_281d (by rw [et]; exact d0)]
  unfold trM rO cO
  rw [et]
theorem e_52 (c : MI s) : MC s (m_294 44 (H s)) (cnt (md s 44) (i3 1)) (mpC (md s 44) (mir (md s 44)), (abM s).2) := by
  have d0 := c.1.1.d_0
  unfold m_294
  rw [(r_m s).1, Option.bind_some]
  refine e_tm c (f := miM (md s 44)) (M := fun x th => m_282 44 x th) (fun t et x => ?_) (fun x hx => miM_eq c.1.1 hx) (ok_mirr c.1.1)
  rw [q_282d (by rw [et]; exact d0)]
  unfold miM rO cO
  rw [et]
/-! ===== improve ===== -/
noncomputable def mvP (g : Gd) (a : Mv) : Prop := a = (i3 (-1), i3 (-1), i3 (-1)) ∨ (isT g a.1 ∧ isCl g a.2.1 ∧ tIn g a.2.1 = i3 (-1))
theorem fb_P {g : Gd} (h : ok g) (V : Gd → Int32) : mvP g (fb g V) := by
  unfold fb
  refine itr_inv _ _ (Or.inl rfl) (fun k b hk hb => ?_)
  unfold fbF
  split
  · exact hb
  · refine itr_inv _ _ hb (fun q a hq ha => ?_)
    unfold fcF
    split
    · rename_i e
      split
      · exact ha
      · exact Or.inr ⟨h.T hk, h.C hq, e⟩
    · exact ha
theorem t3_nat (L : List Int32) : ∀ n, ∃ j, j ≤ n ∧ itr (t3F L) n (i3 0) = i3 (j : Int)
  | 0 => ⟨0, Nat.le_refl _, rfl⟩
  | n + 1 => by
    obtain ⟨j, hj, e⟩ := t3_nat L n
    have e2 : itr (t3F L) (n + 1) (i3 0) = if bct (lg L n) < i3 3 then i3 (j : Int) else i3 (j : Int) + i3 1 := by
      show t3F L n (itr (t3F L) n (i3 0)) = _
      rw [e]
      rfl
    rw [e2]
    split
    · exact ⟨j, by omega, rfl⟩
    · exact ⟨j + 1, by omega, i3_nat_add j⟩
noncomputable def xImp (g : Gd) : Int32 := if t3 (RL g) < (fb g V3).2.2 then (fb g V3).2.2 else t3 (RL g)
noncomputable def gxImp (g : Gd) : Gd := if t3 (RL g) < (fb g V3).2.2 then mvT g (fb g V3).1 (fb g V3).2.1 else g
theorem imp_ok {g : Gd} (h : ok g) (d : t3 (RL g) < (fb g V3).2.2) : isT g (fb g V3).1 ∧ isCl g (fb g V3).2.1 ∧ tIn g (fb g V3).2.1 = i3 (-1) := by
  rcases fb_P h V3 with e | e
  · rw [e] at d
    obtain ⟨j, hj, ej⟩ := t3_nat (RL g) (RL g).length
    have hl := RL_len h
    have e2 : t3 (RL g) = i3 (j : Int) := ej
    rw [e2] at d
    have d2 : i3 (j : Int) < i3 (-1) := d
    rw [i3_lt ⟨by omega, by omega⟩ ⟨by omega, by omega⟩] at d2
    omega
  · exact e
theorem e_53 (c : MI s) : MC s (m_267 44 (H s)) (xImp (md s 44)) (gxImp (md s 44), (abM s).2) := by
  have g30 : ∀ t : St, gI (H t) 8 44 30 = some (fi t 44 30) := fun _ => rfl
  have g29 : ∀ t : St, gI (H t) 8 44 29 = some (fi t 44 29) := fun _ => rfl
  have g28 : ∀ t : St, gI (H t) 8 44 28 = some (fi t 44 28) := fun _ => rfl
  have g12 : ∀ t : St, gN (H t) 8 44 12 = some 62 := fun _ => rfl
  obtain ⟨s1, e1, q1⟩ := q_243 c.1.1 c.1.2.1
  have m1 : md s1 44 = md s 44 := q1.1.m (Or.inl rfl)
  obtain ⟨s2, e2, q2, b2⟩ := q_262 (s := s1) (by rw [m1]; exact c.1.1) (q1.1.z c.1.2.1) (w := Int32.ofInt 0) (V := V3) (Or.inl ⟨rfl, rfl⟩)
  rw [m1] at b2
  have q12 : qq s s2 := (q1.1.trans q2).q
  have c2 := q12.eM.mi c
  have m2 : md s2 44 = md s 44 := q12.m (Or.inl rfl)
  have x1 : fi s2 44 28 = (fb (md s 44) V3).1 := congrArg (·.1) b2
  have x2 : fi s2 44 29 = (fb (md s 44) V3).2.1 := congrArg (·.2.1) b2
  have x3 : fi s2 44 30 = (fb (md s 44) V3).2.2 := congrArg (·.2.2) b2
  unfold m_267 xImp gxImp
  rw [(r_m s).1, Option.bind_some, e1, Option.bind_some]
  dsimp only
  rw [e2, Option.bind_some, g30, Option.bind_some, x3]
  by_cases d1 : t3 (RL (md s 44)) < (fb (md s 44) V3).2.2
  · obtain ⟨k1, k2, k3⟩ := imp_ok c.1.1 d1
    have hl := c.1.1.tl k1
    have hn := c.1.1.n_le
    have e4 := sI62 s2 (t := (fb (md s 44) V3).1) (x := (fb (md s 44) V3).2.1) k1.1 (by rw [m2, c.1.1.2.2.2.1.2.1]; omega)
    rw [m2] at e4
    have x4 : fi (wM s2 44 (uC (md s 44) ((cS (md s 44)).set (fb (md s 44) V3).1.toNatClampNeg (fb (md s 44) V3).2.1))) 44 30 = fi s2 44 30 := rfl
    rw [if_pos d1, if_pos d1, if_pos d1, g12, Option.bind_some, g28, Option.bind_some, g29, Option.bind_some, x1, x2, e4, Option.bind_some, g30, Option.bind_some, x4, x3]
    have hk := ok_mvT c.1.1 k1 k2 k3
    obtain ⟨s3, y1, y2, y3, y4⟩ := MC.set (s := s2) c2 hk (fun t ht => by rw [m2] at ht; exact ht) (fb (md s 44) V3).2.2
    refine ⟨s3, y1, y2, q12.eC.trans y3, ?_⟩
    rw [y4, q12.eM.ab c.2.2.2.1.1]
  · rw [if_neg d1, if_neg d1, if_neg d1]
    exact ⟨s2, rfl, c2, q12.eC, q12.eM.ab c.2.2.2.1.1⟩
/-! ===== plant ===== -/
theorem q_295 {n : Int32} (h0 : ¬ n = 0) : m_295 44 n (H s) = some (dr (nxs (sE (md s 44))) n, H (wM s 44 (uE (md s 44) (nxs (sE (md s 44)))))) := by
  have x1 : ∀ (g : Gd) x, sE (uE g x) = x := fun _ _ => rfl
  have c1 : (Int16.ofInt 12345).toInt32 = i3 12345 := by decide +kernel
  have c2 : (Int8.ofInt 16).toInt32 = i3 16 := by decide +kernel
  have gE : ∀ t : St, gI (H t) 8 44 16 = some (sE (md t 44)) := fun _ => rfl
  unfold m_295
  rw [(r_m s).1, Option.bind_some, gE, Option.bind_some, p_16, Option.bind_some, gE, Option.bind_some, md_wM, x1, c1, c2]
  unfold rmI
  rw [if_neg h0, Option.bind_some]
  rfl
theorem uE_uE (g : Gd) (x y : Int32) : uE (uE g x) y = uE g y := rfl
theorem tN_uE (g : Gd) (x : Int32) : tN (uE g x) = tN g := rfl
theorem cc_uE (g : Gd) (x : Int32) : cc (uE g x) = cc g := rfl
theorem tIn_uE (g : Gd) (x c : Int32) : tIn (uE g x) c = tIn g c := rfl
theorem isCl_uE {g : Gd} {c : Int32} (x : Int32) (h : isCl g c) : isCl (uE g x) c := h
theorem sE_uE (g : Gd) (x : Int32) : sE (uE g x) = x := rfl
theorem cc_0 {g : Gd} (h : ok g) : ¬ cc g = 0 := by
  have h1 := h.d_ge
  have h2 := h.cc_le
  have h3 : 9 ≤ dn g * dn g := Nat.mul_le_mul h1 h1
  rw [h.cc_eq]
  exact fun e => by
    have := (i3n_inj (b := 0) (by omega) (by omega)).mp e
    omega
/-- the next cell, the first one behind the last -/
theorem nx_cl {g : Gd} (h : ok g) {c : Int32} (hc : isCl g c) : rmI (c + i3 1) (cc g) = some (if cc g ≤ c + i3 1 then i3 0 else c + i3 1) ∧ isCl g (if cc g ≤ c + i3 1 then i3 0 else c + i3 1) := by
  have hk := h.cl hc
  have h2 := h.cc_le
  have h0 := cc_0 h
  have e1 : c + i3 1 = i3 ((c.toNatClampNeg + 1 : Nat) : Int) := by
    rw [← i3_nat_add, ← i3_cl hc.1]
  unfold rmI
  rw [if_neg h0, e1]
  have e2 : i3 ((c.toNatClampNeg + 1 : Nat) : Int) - i3 ((c.toNatClampNeg + 1 : Nat) : Int) / cc g * cc g = i3 (((c.toNatClampNeg + 1) % (dn g * dn g) : Nat) : Int) := by
    rw [h.cc_eq]
    exact i3_modN (by omega) (by omega)
  rw [e2]
  by_cases d : dn g * dn g ≤ c.toNatClampNeg + 1
  · have d' : cc g ≤ i3 ((c.toNatClampNeg + 1 : Nat) : Int) := h.Ce d (by omega)
    have e3 : c.toNatClampNeg + 1 = dn g * dn g := by omega
    rw [if_pos d']
    refine ⟨?_, h.C (k := 0) (by omega)⟩
    rw [e3, Nat.mod_self]
    rfl
  · have d' := (h.C (k := c.toNatClampNeg + 1) (by omega))
    rw [if_neg d'.2, Nat.mod_eq_of_lt (by omega)]
    exact ⟨rfl, d'⟩
theorem lp_nx {g : Gd} (h : ok g) {s1 : St} (hs : md s1 44 = g) {R : Type} (K : Int32 → Option R) : ∀ (n fuel : Nat) (c : Int32), isCl g c → tIn g (nfF g n c) = i3 (-1) → n < fuel → lp (fun (s12 : Int32) nx13 ex14 => (m_194 44 s12 (H s1)).bind fun x18 => if x18 = (Int32.ofInt (-1)) then ex14 s12 else (m_192 44 (H s1)).bind fun x19 => (rmI (s12 + (Int32.ofInt 1)) x19).bind fun x20 => nx13 x20) fuel c K = K (nfF g n c)
  | n, 0, c, _, _, hf => absurd hf (Nat.not_lt_zero _)
  | 0, fuel + 1, c, hc, ht, hf => by
    have ht' : tIn g c = i3 (-1) := ht
    have h1 : ok (md s1 44) := by rw [hs]; exact h
    rw [lp_s, q_194 h1, Option.bind_some, hs, if_pos (show _ = Int32.ofInt (-1) from ht')]
    rfl
  | n + 1, fuel + 1, c, hc, ht, hf => by
    have h1 : ok (md s1 44) := by rw [hs]; exact h
    have en : nfF g (n + 1) c = if tIn g c = i3 (-1) then c else nfF g n (if cc g ≤ c + i3 1 then i3 0 else c + i3 1) := rfl
    rw [en] at ht ⊢
    rw [lp_s, q_194 h1, Option.bind_some, hs]
    by_cases d : tIn g c = i3 (-1)
    · rw [if_pos (show _ = Int32.ofInt (-1) from d), if_pos d]
    · rw [if_neg d] at ht
      obtain ⟨e1, e2⟩ := nx_cl h hc
      have gen : ∀ (f : Int32 → Option R), (m_192 44 (H s1)).bind f = f (cc g) := fun f => by
        rw [q_192, hs]
        rfl
      rw [if_neg (show ¬ _ = Int32.ofInt (-1) from d), if_neg d]
      refine (gen _).trans ?_
      dsimp only
      rw [e1, Option.bind_some]
      exact lp_nx h hs K n fuel _ e2 ht (by omega)
theorem e_54 (c : MI s) (n : Int32) : MC s (m_296 44 n (H s)) (vPlant (md s 44) n) (gPlant (md s 44) n, (abM s).2) := by
  have c12 : (Int8.ofInt 12).toInt32 = i3 12 := by decide +kernel
  have c6 : (Int8.ofInt 6).toInt32 = i3 6 := by decide +kernel
  have c10 : (Int8.ofInt 10).toInt32 = i3 10 := by decide +kernel
  have z6 : ¬ i3 6 = 0 := by decide +kernel
  have z10 : ¬ i3 10 = 0 := by decide +kernel
  have gt : ∀ t : St, gI (H t) 8 44 10 = some (tN (md t 44)) := fun _ => rfl
  unfold m_296 vPlant gPlant
  rw [(r_m s).1, Option.bind_some, jc.2.1, jc.2.2.2.2.2.2.2.2.2.1, q_190, Option.bind_some, bP_if, c12, c6, c10]
  by_cases c1 : n < i3 1
  · rw [if_neg (fun e => e.1 c1), if_pos c1, if_pos c1, cst.1]
    exact MC.ref c isB2
  rw [if_neg c1, if_neg c1]
  by_cases c2 : n ≤ i3 12
  · rw [if_pos ⟨c1, Int32.not_lt.mpr c2⟩, if_pos c2, if_pos c2]
    have n0 : ¬ n < 0 := by
      rw [Int32.lt_iff_toInt_lt] at c1 ⊢
      have e : (0 : Int32).toInt = 0 := by decide +kernel
      have e2 : (i3 1).toInt = 1 := by decide +kernel
      omega
    have n12 : n.toNatClampNeg ≤ 12 := le_cl (b := 12) (by omega) n0 c2
    have en := i3_cl n0
    have hP := plG_ok n.toNatClampNeg (md s 44) c.1.1
    suffices T (lp (fun (s2 : Int32 × tH) nx3 ex4 => if n ≤ s2.1 then ex4 (s2.1, s2.2) else (gI s2.2 8 44 10).bind fun x6 => if i3 12 ≤ x6 then ex4 (s2.1, s2.2) else (gI s2.2 8 44 10).bind fun x7 => (m_192 44 s2.2).bind fun x8 => if x8 ≤ x7 then ex4 (s2.1, s2.2) else (m_295 44 (i3 6) s2.2).bind fun q9 => (m_192 44 q9.2).bind fun x10 => (m_295 44 x10 q9.2).bind fun q11 => lp (fun (s12 : Int32) nx13 ex14 => (m_194 44 s12 q11.2).bind fun x18 => if x18 = (Int32.ofInt (-1)) then ex14 s12 else (m_192 44 q11.2).bind fun x19 => (rmI (s12 + (Int32.ofInt 1)) x19).bind fun x20 => nx13 x20) 4096 q11.1 (fun (x15 : Int32) => (m_295 44 (i3 10) q11.2).bind fun q16 => (m_212 44 q9.1 x15 q16.1 q16.2).bind fun th17 => nx3 ((s2.1 + Int32.ofInt 1), th17))) 4096 ((Int32.ofInt 0), H s) (fun (x5 : Int32 × tH) => some (x5.1, x5.2))) (fun r => r = (i3 ((plG n.toNatClampNeg (md s 44)).2 : Int), H (wM s 44 (plG n.toNatClampNeg (md s 44)).1))) by
      obtain ⟨r, e1, rfl⟩ := this
      refine Eq.mp (congrArg (fun z => MC s z _ _) e1.symm) ?_
      exact MC.set c hP.1 hP.2 _
    refine lpH n.toNatClampNeg (fun k q => ∃ g', q = (i3 (k : Int), H (wM s 44 g')) ∧ ok g' ∧ plG n.toNatClampNeg (md s 44) = ((plG (n.toNatClampNeg - k) g').1, (plG (n.toNatClampNeg - k) g').2 + k)) (fun x => x = (i3 ((plG n.toNatClampNeg (md s 44)).2 : Int), H (wM s 44 (plG n.toNatClampNeg (md s 44)).1))) ?_ ?_ ?_ ?_ (by omega)
    · rintro k _ hk ⟨g', rfl, h', e'⟩ nx ex hnx hex
      have e1 : ¬ n ≤ i3 (k : Int) := by rw [en, i3n_le (by omega) (by omega)]; omega
      obtain ⟨d, hd⟩ : ∃ d, n.toNatClampNeg - k = d + 1 := ⟨n.toNatClampNeg - k - 1, by omega⟩
      have hd2 : n.toNatClampNeg - (k + 1) = d := by omega
      rw [hd, plG_s] at e'
      have stop : ¬ room g' → T (ex (i3 (k : Int), H (wM s 44 g'))) (fun r => r = (i3 ((plG n.toNatClampNeg (md s 44)).2 : Int), H (wM s 44 (plG n.toNatClampNeg (md s 44)).1))) := fun hr => by
        refine hex _ ?_
        rw [if_neg hr] at e'
        rw [e']
        show (i3 (k : Int), _) = (i3 ((0 + k : Nat) : Int), _)
        rw [Nat.zero_add]
      dsimp only
      rw [if_neg e1, gt, Option.bind_some, md_wM]
      by_cases r1 : i3 12 ≤ tN g'
      · rw [if_pos r1]
        exact stop (fun e => e.1 r1)
      rw [if_neg r1, Option.bind_some, q_192, Option.bind_some, md_wM]
      by_cases r2 : cc g' ≤ tN g'
      · rw [if_pos r2]
        exact stop (fun e => e.2 r2)
      have hr : room g' := ⟨r1, r2⟩
      rw [if_pos hr] at e'
      have hcell := drw_cell h' r2
      have q1 := q_295 (s := wM s 44 g') z6
      rw [md_wM, wM_wM] at q1
      have q2 := q_295 (s := wM s 44 (uE g' (nxs (sE g')))) (n := cc g') (cc_0 h')
      rw [md_wM, wM_wM, sE_uE, uE_uE] at q2
      have q3 := q_295 (s := wM s 44 (uE g' (nxs (nxs (sE g'))))) z10
      rw [md_wM, wM_wM, sE_uE, uE_uE] at q3
      have hu : ∀ x, ok (uE g' x) := fun x => ok_uE h' x
      have q4 := fun k c a => q_212 (s := wM s 44 (uE g' (nxs (nxs (nxs (sE g')))))) (by rw [md_wM]; exact hu _) (by rw [md_wM, tN_uE]; exact r1) k c a
      have q4' : ∀ k c a, m_212 44 k c a (H (wM s 44 (uE g' (nxs (nxs (nxs (sE g'))))))) = some (H (wM s 44 (addT (uE g' (nxs (nxs (nxs (sE g'))))) k c a))) := fun k c a => by
        have := q4 k c a
        rw [md_wM, wM_wM] at this
        exact this
      have hdr : isCl g' (dr (nxs (nxs (sE g'))) (cc g')) := by
        have h1 := h'.d_ge
        have h2 := h'.cc_le
        have h3 : 9 ≤ dn g' * dn g' := Nat.mul_le_mul h1 h1
        obtain ⟨q, hq, e⟩ := dr_bd (n := dn g' * dn g') (by omega) (nxs (nxs (sE g')))
        rw [h'.cc_eq, e]
        exact h'.C hq
      have lpn := fun K => lp_nx (R := Int32 × tH) (hu (nxs (nxs (sE g')))) (s1 := wM s 44 (uE g' (nxs (nxs (sE g'))))) (md_wM _ _ _) K (dn g' * dn g') 4096 (dr (nxs (nxs (sE g'))) (cc g')) (isCl_uE _ hdr) (by rw [nfF_uE, tIn_uE]; exact hcell.2) (by have := h'.cc_le; omega)
      rw [if_neg r2, q1, Option.bind_some]
      dsimp only
      rw [q_192, Option.bind_some, md_wM, cc_uE, q2, Option.bind_some]
      dsimp only
      rw [lpn, q3, Option.bind_some]
      dsimp only
      rw [q4', Option.bind_some, i3_nat_add, nfF_uE]
      refine hnx _ ⟨drw g', rfl, ok_drw h' hr.1 hr.2, ?_⟩
      rw [hd2]
      refine e'.trans (Prod.ext rfl ?_)
      show (plG d (drw g')).2 + 1 + k = (plG d (drw g')).2 + (k + 1)
      omega
    · rintro _ ⟨g', rfl, h', e'⟩ nx ex hex
      have e1 : n ≤ i3 (n.toNatClampNeg : Int) := by rw [← en]; exact Int32.le_refl _
      dsimp only
      rw [if_pos e1]
      refine hex _ ?_
      rw [e', Nat.sub_self]
      show (i3 (n.toNatClampNeg : Int), _) = (i3 ((0 + n.toNatClampNeg : Nat) : Int), _)
      rw [Nat.zero_add]
      rfl
    · intro x hx
      rw [hx]
      exact T_some rfl
    · exact ⟨md s 44, by rw [wM_id]; rfl, c.1.1, rfl⟩
  · rw [if_neg (fun e => e.2 (Int32.not_le.mp c2)), if_neg c2, if_neg c2, cst.1]
    exact MC.ref c isB2
end MT
end
section
/-! ===== the reference takes gardens over ===== -/
noncomputable def isMd (s : St) (o : Nat) : Prop := o = 44 ∨ isK s o
theorem isMd.o {s : St} {o : Nat} (h : isMd s o) : o = 44 ∨ o = 67 ∨ o = 90 := by
  rcases h with h | ⟨h, -⟩ | ⟨h, -⟩
  · exact Or.inl h
  · exact Or.inr (Or.inl h)
  · exact Or.inr (Or.inr h)
section MK
variable {s : St}
theorem r_d {o : Nat} (h : isMd s o) : gC (H s) 8 o = some () ∧ (gI (H s) 8 o 9 = some (sD (md s o)) ∧ gI (H s) 8 o 10 = some (tN (md s o)) ∧ gI (H s) 8 o 14 = some (wN (md s o)) ∧ gI (H s) 8 o 16 = some (sE (md s o))) ∧ (gN (H s) 8 o 11 = some (o + 17) ∧ gN (H s) 8 o 12 = some (o + 18) ∧ gN (H s) 8 o 13 = some (o + 19) ∧ gN (H s) 8 o 15 = some (o + 20)) := by
  rcases h with rfl | h
  · exact ⟨rfl, ⟨rfl, rfl, rfl, rfl⟩, rfl, rfl, rfl, rfl⟩
  · obtain ⟨a, b, c, k, t, n⟩ := s
    rcases h with ⟨rfl, h⟩ | ⟨rfl, h⟩
    · match n, h with
      | 1, _ => exact ⟨rfl, ⟨rfl, rfl, rfl, rfl⟩, rfl, rfl, rfl, rfl⟩
      | n + 2, _ => exact ⟨rfl, ⟨rfl, rfl, rfl, rfl⟩, rfl, rfl, rfl, rfl⟩
    · match n, h with
      | n + 2, _ => exact ⟨rfl, ⟨rfl, rfl, rfl, rfl⟩, rfl, rfl, rfl, rfl⟩
theorem r_dp {o : Nat} (h : isMd s o) : (∀ x, pI (H s) 8 o 9 x = some (H (sf s o 9 x))) ∧ (∀ x, pI (H s) 8 o 10 x = some (H (sf s o 10 x))) ∧ (∀ x, pI (H s) 8 o 14 x = some (H (sf s o 14 x))) ∧ (∀ x, pI (H s) 8 o 16 x = some (H (sf s o 16 x))) := by
  rcases h with rfl | h
  · exact ⟨fun _ => rfl, fun _ => rfl, fun _ => rfl, fun _ => rfl⟩
  · have k := r_k (s := s) (o := o) h
    exact ⟨k.2.2.1, k.2.2.2.2.1, k.2.2.2.2.2.2.1, k.2.2.2.2.2.2.2.2.1⟩
theorem r_da {o : Nat} (h : isMd s o) (q : Nat) (hq : q = 17 ∨ q = 18 ∨ q = 19 ∨ q = 20) : (∀ i, aI (H s) (o + q) i = at32 (ia s (o + q)) i) ∧ aL (H s) (o + q) = some (Int32.ofNat (ia s (o + q)).length) ∧ (∀ i x, sI (H s) (o + q) i x = (st32 (ia s (o + q)) i x).map (fun l => H (sa s (o + q) l))) := by
  rcases h with rfl | h
  · rcases hq with rfl | rfl | rfl | rfl <;> exact ⟨fun _ => aI_of rfl, rfl, fun _ _ => sI_of rfl⟩
  · obtain ⟨a, b, c, k, t, n⟩ := s
    rcases h with ⟨rfl, h⟩ | ⟨rfl, h⟩
    · match n, h with
      | 1, _ => rcases hq with rfl | rfl | rfl | rfl <;> exact ⟨fun _ => aI_of rfl, rfl, fun _ _ => sI_of rfl⟩
      | n + 2, _ => rcases hq with rfl | rfl | rfl | rfl <;> exact ⟨fun _ => aI_of rfl, rfl, fun _ _ => sI_of rfl⟩
    · match n, h with
      | n + 2, _ => rcases hq with rfl | rfl | rfl | rfl <;> exact ⟨fun _ => aI_of rfl, rfl, fun _ _ => sI_of rfl⟩
theorem cpy_get (l : List Int32) : ∀ (n : Nat) (x : List Int32), n ≤ x.length → (itr (fun k (x : List Int32) => x.set k (l.getD k 0)) n x).length = x.length ∧ ∀ j, (itr (fun k (x : List Int32) => x.set k (l.getD k 0)) n x)[j]? = if j < n then some (l.getD j 0) else x[j]?
  | 0, x, _ => ⟨rfl, fun j => by rw [if_neg (Nat.not_lt_zero _)]; rfl⟩
  | n + 1, x, hn => by
    obtain ⟨h1, h2⟩ := cpy_get l n x (by omega)
    refine ⟨(List.length_set).trans h1, fun j => ?_⟩
    show ((itr (fun k (x : List Int32) => x.set k (l.getD k 0)) n x).set n (l.getD n 0))[j]? = _
    rw [List.getElem?_set]
    by_cases e : n = j
    · subst e
      rw [if_pos rfl, if_pos (by omega), if_pos (by omega)]
    · rw [if_neg e, h2 j]
      by_cases c : j < n
      · rw [if_pos c, if_pos (by omega)]
      · rw [if_neg c, if_neg (by omega)]
theorem cpy_eq {l x : List Int32} (h : x.length = l.length) : itr (fun k (x : List Int32) => x.set k (l.getD k 0)) l.length x = l := by
  obtain ⟨h1, h2⟩ := cpy_get l l.length x (by omega)
  apply List.ext_getElem?
  intro j
  rw [h2 j]
  by_cases c : j < l.length
  · rw [if_pos c, List.getD_eq_getElem?_getD, List.getElem?_eq_getElem c]
    rfl
  · rw [if_neg c, List.getElem?_eq_none (by omega), List.getElem?_eq_none (by omega)]
theorem q_299 {p q : Nat} {l x0 : List Int32} (S : List Int32 → St) (hl : l.length ≤ 1000) (hx : x0.length = l.length) (hA : ∀ x i, aI (H (S x)) p i = at32 l i) (hL : ∀ x, aL (H (S x)) p = some (Int32.ofNat l.length)) (hS : ∀ x i y, x.length = l.length → sI (H (S x)) q i y = (st32 x i y).map (fun l => H (S l))) : m_299 p q (H (S x0)) = some (H (S l)) := by
  unfold m_299
  refine (lp0 l.length hl (fun t x => (t, H (S x))) (fun x => H (S x)) (fun k (x : List Int32) => x.set k (l.getD k 0)) (fun x => x.length = l.length) x0 ?_ ?_ ?_ hx).trans ?_
  · intro k x nx ex hk hxl
    dsimp only
    have e1 : ¬ Int32.ofNat l.length ≤ i3 (k : Int) := by rw [i3_nat]; exact nle hk hl
    rw [hL, Option.bind_some, if_neg e1, hA, at32_nat (by omega), List.getElem?_eq_getElem hk, Option.bind_some, hS _ _ _ hxl, st32_nat (by omega) (by omega), Option.map_some, Option.bind_some, List.getD_eq_getElem?_getD, List.getElem?_eq_getElem hk]
    rfl
  · intro k x _ hxl
    exact (List.length_set).trans hxl
  · intro x nx ex hxl
    dsimp only
    have e1 : Int32.ofNat l.length ≤ i3 (l.length : Int) := by rw [i3_nat]; exact Int32.le_refl _
    rw [hL, Option.bind_some, if_pos e1]
  · rw [cpy_eq hx]
theorem md_ne (s : St) (g : Gd) {a b : Nat} (ha : a = 44 ∨ a = 67 ∨ a = 90) (hb : b = 44 ∨ b = 67 ∨ b = 90) (hab : a ≠ b) : md (wM s a g) b = md s b := by
  unfold md
  rw [fi_wM, if_neg (by omega), if_neg (by omega), if_neg (by omega), if_neg (by omega), fi_wM, if_neg (by omega), if_neg (by omega), if_neg (by omega), if_neg (by omega), fi_wM, if_neg (by omega), if_neg (by omega), if_neg (by omega), if_neg (by omega), fi_wM, if_neg (by omega), if_neg (by omega), if_neg (by omega), if_neg (by omega), ia_wM, if_neg (by omega), if_neg (by omega), if_neg (by omega), if_neg (by omega), ia_wM, if_neg (by omega), if_neg (by omega), if_neg (by omega), if_neg (by omega), ia_wM, if_neg (by omega), if_neg (by omega), if_neg (by omega), if_neg (by omega), ia_wM, if_neg (by omega), if_neg (by omega), if_neg (by omega), if_neg (by omega)]
theorem q_300 {a b : Nat} (ha : isMd s a) (hb : isMd s b) (hab : a ≠ b) (h1 : sh (md s a)) (h2 : sh (md s b)) : m_300 a b (H s) = some (H (wM s a (md s b))) := by
  have A : ∀ g : Gd, isMd (wM s a g) a := fun _ => ha
  have B : ∀ g : Gd, isMd (wM s a g) b := fun _ => hb
  have N : ∀ g : Gd, md (wM s a g) b = md s b := fun g => md_ne s g ha.o hb.o hab
  obtain ⟨a1, a2, a3, a4⟩ := h1
  obtain ⟨b1, b2, b3, b4⟩ := h2
  have cK : ∀ g : Gd, (kS g).length = 12 → m_299 (b + 17) (a + 17) (H (wM s a g)) = some (H (wM s a (uK g (kS (md s b))))) := fun g hg => by
    have := q_299 (p := b + 17) (q := a + 17) (l := kS (md s b)) (x0 := kS g) (fun x => wM s a (uK g x)) (by omega) (by omega) (fun x i => by
      rw [(r_da (B _) 17 (Or.inl rfl)).1 i]
      exact congrArg (fun z => at32 z i) (congrArg kS (N (uK g x)))) (fun x => by
      rw [(r_da (B _) 17 (Or.inl rfl)).2.1]
      exact congrArg (fun z => some (Int32.ofNat (List.length z))) (congrArg kS (N (uK g x)))) (fun x i y _ => by
      have e := (r_da (A (uK g x)) 17 (Or.inl rfl)).2.2 i y
      have e2 : ia (wM s a (uK g x)) (a + 17) = x := congrArg kS (md_wM s a (uK g x))
      rw [e2] at e
      rw [e]
      congr 1
      funext l
      rw [sa_m17, wM_wM, md_wM]
      rfl)
    exact this
  have cC : ∀ g : Gd, (cS g).length = 12 → m_299 (b + 18) (a + 18) (H (wM s a g)) = some (H (wM s a (uC g (cS (md s b))))) := fun g hg => by
    have := q_299 (p := b + 18) (q := a + 18) (l := cS (md s b)) (x0 := cS g) (fun x => wM s a (uC g x)) (by omega) (by omega) (fun x i => by
      rw [(r_da (B _) 18 (by omega)).1 i]
      exact congrArg (fun z => at32 z i) (congrArg cS (N (uC g x)))) (fun x => by
      rw [(r_da (B _) 18 (by omega)).2.1]
      exact congrArg (fun z => some (Int32.ofNat (List.length z))) (congrArg cS (N (uC g x)))) (fun x i y _ => by
      have e := (r_da (A (uC g x)) 18 (by omega)).2.2 i y
      have e2 : ia (wM s a (uC g x)) (a + 18) = x := congrArg cS (md_wM s a (uC g x))
      rw [e2] at e
      rw [e]
      congr 1
      funext l
      rw [sa_m18, wM_wM, md_wM]
      rfl)
    exact this
  have cV : ∀ g : Gd, (vS g).length = 12 → m_299 (b + 19) (a + 19) (H (wM s a g)) = some (H (wM s a (uV g (vS (md s b))))) := fun g hg => by
    have := q_299 (p := b + 19) (q := a + 19) (l := vS (md s b)) (x0 := vS g) (fun x => wM s a (uV g x)) (by omega) (by omega) (fun x i => by
      rw [(r_da (B _) 19 (by omega)).1 i]
      exact congrArg (fun z => at32 z i) (congrArg vS (N (uV g x)))) (fun x => by
      rw [(r_da (B _) 19 (by omega)).2.1]
      exact congrArg (fun z => some (Int32.ofNat (List.length z))) (congrArg vS (N (uV g x)))) (fun x i y _ => by
      have e := (r_da (A (uV g x)) 19 (by omega)).2.2 i y
      have e2 : ia (wM s a (uV g x)) (a + 19) = x := congrArg vS (md_wM s a (uV g x))
      rw [e2] at e
      rw [e]
      congr 1
      funext l
      rw [sa_m19, wM_wM, md_wM]
      rfl)
    exact this
  have cW : ∀ g : Gd, (wS g).length = 8 → m_299 (b + 20) (a + 20) (H (wM s a g)) = some (H (wM s a (uS g (wS (md s b))))) := fun g hg => by
    have := q_299 (p := b + 20) (q := a + 20) (l := wS (md s b)) (x0 := wS g) (fun x => wM s a (uS g x)) (by omega) (by omega) (fun x i => by
      rw [(r_da (B _) 20 (by omega)).1 i]
      exact congrArg (fun z => at32 z i) (congrArg wS (N (uS g x)))) (fun x => by
      rw [(r_da (B _) 20 (by omega)).2.1]
      exact congrArg (fun z => some (Int32.ofNat (List.length z))) (congrArg wS (N (uS g x)))) (fun x i y _ => by
      have e := (r_da (A (uS g x)) 20 (by omega)).2.2 i y
      have e2 : ia (wM s a (uS g x)) (a + 20) = x := congrArg wS (md_wM s a (uS g x))
      rw [e2] at e
      rw [e]
      congr 1
      funext l
      rw [sa_m20, wM_wM, md_wM]
      rfl)
    exact this
  unfold m_300
  rw [(r_d ha).1, Option.bind_some, (r_d hb).2.1.1, Option.bind_some, (r_dp ha).1, Option.bind_some, sf_m9]
  generalize hg1 : uD (md s a) (sD (md s b)) = g1
  rw [(r_d (B g1)).2.1.2.1, Option.bind_some, N, (r_dp (A g1)).2.1, Option.bind_some, sf_m10, wM_wM, md_wM]
  generalize hg2 : uT g1 (tN (md s b)) = g2
  rw [(r_d (B g2)).2.2.1, Option.bind_some, (r_d (A g2)).2.2.1, Option.bind_some, cK g2 (by rw [← hg2, ← hg1]; exact a1), Option.bind_some]
  generalize hg3 : uK g2 (kS (md s b)) = g3
  rw [(r_d (B g3)).2.2.2.1, Option.bind_some, (r_d (A g3)).2.2.2.1, Option.bind_some, cC g3 (by rw [← hg3, ← hg2, ← hg1]; exact a2), Option.bind_some]
  generalize hg4 : uC g3 (cS (md s b)) = g4
  rw [(r_d (B g4)).2.2.2.2.1, Option.bind_some, (r_d (A g4)).2.2.2.2.1, Option.bind_some, cV g4 (by rw [← hg4, ← hg3, ← hg2, ← hg1]; exact a3), Option.bind_some]
  generalize hg5 : uV g4 (vS (md s b)) = g5
  rw [(r_d (B g5)).2.1.2.2.1, Option.bind_some, N, (r_dp (A g5)).2.2.1, Option.bind_some, sf_m14, wM_wM, md_wM]
  generalize hg6 : uW g5 (wN (md s b)) = g6
  rw [(r_d (B g6)).2.2.2.2.2, Option.bind_some, (r_d (A g6)).2.2.2.2.2, Option.bind_some, cW g6 (by rw [← hg6, ← hg5, ← hg4, ← hg3, ← hg2, ← hg1]; exact a4), Option.bind_some]
  generalize hg7 : uS g6 (wS (md s b)) = g7
  rw [(r_d (B g7)).2.1.2.2.2, Option.bind_some, N, (r_dp (A g7)).2.2.2, Option.bind_some, sf_m16, wM_wM, md_wM, ← hg7, ← hg6, ← hg5, ← hg4, ← hg3, ← hg2, ← hg1]
  rfl
theorem g_kr (s : St) : gR (H s) 8 44 17 = some (kr s) := gR_rf rfl rfl
theorem g_tr (s : St) : gR (H s) 8 44 18 = some (tr s) := gR_rf rfl rfl
theorem KO.kK (c : KO s) {o : Nat} (h : kr s = some o) : isK s o := by
  unfold isK
  rcases c.1 with ⟨n, a, b⟩ | ⟨n, a, b⟩ | ⟨n, a, b⟩ | ⟨n, a, b⟩ | ⟨n, a, b⟩ <;> rw [a] at h <;> cases h <;> rw [n] <;> omega
theorem KO.tK (c : KO s) {o : Nat} (h : tr s = some o) : isK s o := by
  unfold isK
  rcases c.1 with ⟨n, a, b⟩ | ⟨n, a, b⟩ | ⟨n, a, b⟩ | ⟨n, a, b⟩ | ⟨n, a, b⟩ <;> rw [b] at h <;> cases h <;> rw [n] <;> omega
theorem isK.ne {o : Nat} (h : isK s o) : o ≠ 44 := by
  rcases h with ⟨rfl, -⟩ | ⟨rfl, -⟩ <;> omega
theorem e_57 (c : MI s) : MC s (m_302 44 (H s)) (vBack (abM s).2.1) (gBack (md s 44) (abM s).2.1, (abM s).2) := by
  have e0 : (abM s).2.1 = (kr s).map (fun o => md s o) := rfl
  unfold m_302
  rw [(r_m s).1, Option.bind_some, g_kr, Option.bind_some, e0]
  cases hk : kr s with
  | none =>
    dsimp only [Option.map]
    rw [cst.2.2.2.1]
    exact MC.ref c isB5
  | some o =>
    have kK := c.2.2.2.1.kK hk
    have hok := c.2.2.2.1.2.1 o hk
    obtain ⟨s1, e1, i1, m1, a1, em⟩ := q_207 (MJ_wM c.mj hok)
    dsimp only [Option.map]
    rw [Option.bind_some, Option.bind_some, q_300 (Or.inl rfl) (Or.inr kK) (fun e => kK.ne e.symm) c.1.1.sh hok.sh, Option.bind_some, e1, Option.bind_some]
    exact ⟨s1, rfl, i1, (eC_wM hok.sh c.1.1.sh).trans m1, a1.trans (ab_wM c.2.2.2.1.1 _)⟩
end MK
end
section
/-! ===== the reference's shelves ===== -/
section MS
variable {s : St}
theorem j07 (x : Int32) (th : tH) : m_190 (Int32.toInt64 x) (Int64.ofNat 0) (Int64.ofNat 7) th = some (bP (¬ x < 0 ∧ x < i3 8)) := by
  rw [jc.1, jc.2.2.2.2.2.2.1, q_190]
  refine congrArg some (bP_congr ⟨fun e => ⟨e.1, ?_⟩, fun e => ⟨e.1, fun k => ?_⟩⟩)
  · have a := e.2
    rw [Int32.lt_iff_toInt_lt, i3_toInt ⟨by omega, by omega⟩] at a ⊢
    omega
  · have a := e.2
    rw [Int32.lt_iff_toInt_lt, i3_toInt ⟨by omega, by omega⟩] at a k
    omega
theorem j0u (u : Nat) (hu : u < 1000) (e : Int64.ofNat u = Int32.toInt64 (i3 (u : Int))) (x : Int32) (th : tH) : m_190 (Int32.toInt64 x) (Int64.ofNat 0) (Int64.ofNat u) th = some (bP (¬ x < 0 ∧ x ≤ i3 (u : Int))) := by
  rw [jc.1, e, q_190]
  exact congrArg some (bP_congr ⟨fun e => ⟨e.1, Int32.not_lt.mp e.2⟩, fun e => ⟨e.1, Int32.not_lt.mpr e.2⟩⟩)
theorem j04 (x : Int32) (th : tH) : m_190 (Int32.toInt64 x) (Int64.ofNat 0) (Int64.ofNat 4) th = some (bP (¬ x < 0 ∧ x ≤ i3 4)) := j0u 4 (by omega) jc.2.2.2.2.1 x th
theorem j05 (x : Int32) (th : tH) : m_190 (Int32.toInt64 x) (Int64.ofNat 0) (Int64.ofNat 5) th = some (bP (¬ x < 0 ∧ x ≤ i3 5)) := j0u 5 (by omega) jc.2.2.2.2.2.1 x th
theorem j012 (x : Int32) (th : tH) : m_190 (Int32.toInt64 x) (Int64.ofNat 0) (Int64.ofNat 12) th = some (bP (¬ x < 0 ∧ x ≤ i3 12)) := j0u 12 (by omega) jc.2.2.2.2.2.2.2.2.2.1 x th
theorem j040 (x : Int32) (th : tH) : m_190 (Int32.toInt64 x) (Int64.ofNat 0) (Int64.ofNat 40) th = some (bP (¬ x < 0 ∧ x ≤ i3 40)) := j0u 40 (by omega) jc.2.2.2.2.2.2.2.2.2.2.2.1 x th
theorem n_0 (s : St) : gN (H s) 8 44 0 = some 45 ∧ gN (H s) 8 44 1 = some 46 ∧ gN (H s) 8 44 2 = some 47 ∧ gN (H s) 8 44 3 = some 48 ∧ gN (H s) 8 44 4 = some 57 ∧ gN (H s) 8 44 5 = some 58 := ⟨rfl, rfl, rfl, rfl, rfl, rfl⟩
theorem a_m (s : St) : (∀ i, aI (H s) 45 i = at32 (ia s 45) i) ∧ (∀ i, aI (H s) 46 i = at32 (ia s 46) i) ∧ (∀ i, aI (H s) 47 i = at32 (ia s 47) i) ∧ (∀ i, aI (H s) 58 i = at32 (ia s 58) i) ∧ (∀ i, aJ (H s) 57 i = at64 (la s 57) i) := ⟨fun _ => aI_of rfl, fun _ => aI_of rfl, fun _ => aI_of rfl, fun _ => aI_of rfl, fun _ => aJ_of rfl⟩
theorem s_m (s : St) : (∀ i x, sI (H s) 45 i x = (st32 (ia s 45) i x).map (fun l => H (sa s 45 l))) ∧ (∀ i x, sI (H s) 46 i x = (st32 (ia s 46) i x).map (fun l => H (sa s 46 l))) ∧ (∀ i x, sI (H s) 47 i x = (st32 (ia s 47) i x).map (fun l => H (sa s 47 l))) ∧ (∀ i x, sI (H s) 58 i x = (st32 (ia s 58) i x).map (fun l => H (sa s 58 l))) ∧ (∀ i x, sJ (H s) 57 i x = (st64 (la s 57) i x).map (fun l => H (sl s 57 l))) := ⟨fun _ _ => sI_of rfl, fun _ _ => sI_of rfl, fun _ _ => sI_of rfl, fun _ _ => sI_of rfl, fun _ _ => sJ_of rfl⟩
theorem at_sh {l : List Int32} {x : Int32} (hl : l.length = 8) (h0 : ¬ x < 0) (h1 : x < i3 8) : at32 l x = some (lg l x.toNatClampNeg) := by
  have hk := sh_nat h0 h1
  rw [i3_cl h0, at_lg (by omega) (by omega), cl_i3 (by omega)]
theorem st_sh {l : List Int32} {x : Int32} (y : Int32) (hl : l.length = 8) (h0 : ¬ x < 0) (h1 : x < i3 8) : st32 l x y = some (l.set x.toNatClampNeg y) := st_wr h0 (by have := sh_nat h0 h1; omega)
theorem r_o {x : Int32} (s : St) (h0 : ¬ x < 0) (h1 : x < i3 8) : aN (H s) 48 x = some (49 + x.toNatClampNeg) ∧ isL (49 + x.toNatClampNeg) := by
  have := r_ml s _ (sh_nat h0 h1)
  rw [← i3_cl h0] at this
  exact this
/-- one shelf of the reference is another -/
noncomputable def wR (s : St) (k : Nat) (x so n d : Int32) (l : List Int64) : St := sl (sa (sa (sa (sa s 45 ((ia s 45).set k x)) 46 ((ia s 46).set k so)) 47 ((ia s 47).set k n)) 58 ((ia s 58).set k d)) (49 + k) l
theorem ia_wR (s : St) (k : Nat) (x so n d : Int32) (l : List Int64) (p : Nat) : ia (wR s k x so n d l) p = if p = 58 then (ia s 58).set k d else if p = 47 then (ia s 47).set k n else if p = 46 then (ia s 46).set k so else if p = 45 then (ia s 45).set k x else ia s p := rfl
theorem la_wR (s : St) (k : Nat) (x so n d : Int32) (l : List Int64) (p : Nat) : la (wR s k x so n d l) p = if p = 49 + k then l else la s p := rfl
theorem fi_wR (s : St) (k : Nat) (x so n d : Int32) (l : List Int64) (o j : Nat) : fi (wR s k x so n d l) o j = fi s o j := rfl
theorem wR_I (c : MI s) {k : Nat} (hk : k < 8) {x so n d : Int32} {l : List Int64} (hl : l.length = 40) (hx : x = i3 0 ∨ x = i3 1 ∨ x = i3 2) (hn : x = i3 1 → ¬ n < 0 ∧ n ≤ i3 40) (hd : x = i3 2 → isT (md s 44) d) : MI (wR s k x so n d l) ∧ eC s (wR s k x so n d l) ∧ abM (wR s k x so n d l) = ((abM s).1, (abM s).2.1, (abM s).2.2.1, upR (abM s).2.2.2 k (if x = i3 1 then some (so, n, l) else none)) := by
  obtain ⟨c1, ⟨l1, l2, l3, l4⟩, c3, c4, c5⟩ := c
  generalize hS : wR s k x so n d l = S
  have fn : ∀ o j, fi S o j = fi s o j := fun o j => by rw [← hS]; rfl
  have ln : ∀ p, la S p = if p = 49 + k then l else la s p := fun p => by rw [← hS]; rfl
  have an : ∀ p, p ≠ 45 → p ≠ 46 → p ≠ 47 → p ≠ 58 → ia S p = ia s p := fun p h1 h2 h3 h4 => by rw [← hS, ia_wR, if_neg h4, if_neg h3, if_neg h2, if_neg h1]
  have a45 : ia S 45 = (ia s 45).set k x := by rw [← hS]; rfl
  have a46 : ia S 46 = (ia s 46).set k so := by rw [← hS]; rfl
  have a47 : ia S 47 = (ia s 47).set k n := by rw [← hS]; rfl
  have a58 : ia S 58 = (ia s 58).set k d := by rw [← hS]; rfl
  have kr0 : kr S = kr s := by rw [← hS]; rfl
  have tr0 : tr S = tr s := by rw [← hS]; rfl
  have nm0 : nm S = nm s := by rw [← hS]; rfl
  have mn : ∀ o, (o = 44 ∨ o = 67 ∨ o = 90) → md S o = md s o := fun o ho => by
    unfold md
    rw [fn, fn, fn, fn, an _ (by omega) (by omega) (by omega) (by omega), an _ (by omega) (by omega) (by omega) (by omega), an _ (by omega) (by omega) (by omega) (by omega), an _ (by omega) (by omega) (by omega) (by omega)]
  have m44 := mn 44 (Or.inl rfl)
  have la57 : la S 57 = la s 57 := by rw [ln, if_neg (by omega)]
  refine ⟨⟨⟨by rw [m44]; exact c1.1, ?_, by rw [an 60 (by omega) (by omega) (by omega) (by omega)]; exact c1.2.2⟩, ?_, ?_, ⟨?_, fun o ho => ?_, fun o ho => ?_⟩, fun j hj => ?_⟩, ?_, ?_⟩
  · unfold Sz
    rw [an 17 (by omega) (by omega) (by omega) (by omega), an 19 (by omega) (by omega) (by omega) (by omega), an 22 (by omega) (by omega) (by omega) (by omega), an 65 (by omega) (by omega) (by omega) (by omega), an 66 (by omega) (by omega) (by omega) (by omega), la57]
    exact c1.2.1
  · unfold sl8
    rw [a45, a46, a47, a58, List.length_set, List.length_set, List.length_set, List.length_set]
    exact ⟨l1, l2, l3, l4⟩
  · rw [an 59 (by omega) (by omega) (by omega) (by omega), fn]
    exact c3
  · unfold KT
    rw [kr0, tr0, nm0]
    exact c4.1
  · rw [kr0] at ho
    rw [mn o (c4.1.o (Or.inl ho))]
    exact c4.2.1 o ho
  · rw [tr0] at ho
    rw [mn o (c4.1.o (Or.inr ho))]
    exact c4.2.2 o ho
  · obtain ⟨d1, d2, d3, d4⟩ := c5 j hj
    unfold smO
    rw [a45, a47, a58, m44, ln, lg_set _ (by omega), lg_set _ (by omega), lg_set _ (by omega)]
    by_cases e : j = k
    · rw [if_pos e, if_pos e, if_pos e, if_pos (by omega)]
      exact ⟨hl, hx, hn, hd⟩
    · rw [if_neg e, if_neg e, if_neg e, if_neg (by omega)]
      exact ⟨d1, d2, d3, d4⟩
  · refine ⟨fun p hp _ => an p (by omega) (by omega) (by omega) (by omega), fun p hp => ?_, fun o j ho _ => fn o j, fun p _ => ?_, fun p _ => ?_⟩
    · rw [ln, if_neg (by omega)]
    · rw [← hS, ia_wR]
      split
      · rename_i e; rw [e, List.length_set]
      split
      · rename_i e; rw [e, List.length_set]
      split
      · rename_i e; rw [e, List.length_set]
      split
      · rename_i e; rw [e, List.length_set]
      rfl
    · rw [ln]
      split
      · rename_i e
        rw [e, hl, (c5 k hk).1]
      · rfl
  · have kp : kpM S = kpM s := by
      unfold kpM
      rw [kr0]
      cases hk : kr s with
      | none => rfl
      | some o =>
        show some (md S o) = some (md s o)
        rw [mn o (c4.1.o (Or.inl hk))]
    unfold abM
    rw [m44, kp, an 59 (by omega) (by omega) (by omega) (by omega), fn]
    refine congrArg _ (congrArg _ (congrArg _ (funext fun j => ?_)))
    show (if j < 8 then shM S j else none) = if j = k then (if x = i3 1 then some (so, n, l) else none) else (if j < 8 then shM s j else none)
    by_cases hj : j < 8
    · rw [if_pos hj, if_pos hj]
      unfold shM
      rw [a45, a46, a47, ln, lg_set _ (by omega), lg_set _ (by omega), lg_set _ (by omega)]
      by_cases e : j = k
      · rw [if_pos e, if_pos e, if_pos e, if_pos (show 49 + j = 49 + k by omega), if_pos e]
      · rw [if_neg e, if_neg e, if_neg e, if_neg (show ¬ 49 + j = 49 + k by omega), if_neg e]
    · rw [if_neg hj, if_neg (show ¬ j = k by omega), if_neg hj]
theorem MC.shelf {α : Type} (c : MI s) {k : Nat} (hk : k < 8) {x so n d : Int32} {l : List Int64} (hl : l.length = 40) (hx : x = i3 0 ∨ x = i3 1 ∨ x = i3 2) (hn : x = i3 1 → ¬ n < 0 ∧ n ≤ i3 40) (hd : x = i3 2 → isT (md s 44) d) (v : α) : MC s (some (v, H (wR s k x so n d l))) v ((abM s).1, (abM s).2.1, (abM s).2.2.1, upR (abM s).2.2.2 k (if x = i3 1 then some (so, n, l) else none)) := by
  obtain ⟨a, b, d⟩ := wR_I c hk hl hx hn hd
  exact ⟨_, rfl, a, b, d⟩
theorem set_lg {l : List Int32} {k : Nat} (hk : k < l.length) : l.set k (lg l k) = l := by
  apply List.ext_getElem?
  intro i
  rw [List.getElem?_set]
  split
  · rename_i e
    subst e
    try rw [if_pos hk]
    unfold lg
    rw [List.getD_eq_getElem?_getD, List.getElem?_eq_getElem hk]
    rfl
  · rfl
theorem abM_sh {k : Nat} (hk : k < 8) : (abM s).2.2.2 k = shM s k := if_pos hk
theorem e_2 (c : MI s) (x so n : Int32) : MC s (m_199 44 x so n (H s)) (vRow x so n) ((abM s).1, (abM s).2.1, (abM s).2.2.1, sRow (abM s).2.2.2 x so n) := by
  have c40 : (Int8.ofInt 40).toInt32 = i3 ((40 : Nat) : Int) := by decide +kernel
  unfold m_199 vRow sRow
  rw [(r_m s).1, Option.bind_some, j07, Option.bind_some, jnE, bP_if]
  by_cases c1 : x < 0
  · rw [if_neg (fun e => e.1 c1), if_pos c1, if_pos c1, cst.1]
    exact MC.refE c isB2
  rw [if_neg c1, if_neg c1]
  by_cases c2 : x < i3 8
  · rw [if_pos ⟨c1, c2⟩, if_pos c2, if_pos c2, j04, Option.bind_some, bP_if]
    by_cases c3 : so < 0
    · rw [if_neg (fun e => e.1 c3), if_pos c3, if_pos c3, cst.1]
      exact MC.refE c isB2
    rw [if_neg c3, if_neg c3]
    by_cases c4 : i3 4 < so
    · rw [if_neg (fun e => Int32.not_lt.mpr e.2 c4), if_pos c4, if_pos c4, cst.1]
      exact MC.refE c isB2
    rw [if_neg c4, if_neg c4, if_pos ⟨c3, Int32.not_lt.mp c4⟩, j040, Option.bind_some, bP_if]
    by_cases c5 : n < 0
    · rw [if_neg (fun e => e.1 c5), if_pos c5, if_pos c5, cst.1]
      exact MC.refE c isB2
    rw [if_neg c5, if_neg c5]
    by_cases c6 : n ≤ i3 40
    · rw [if_pos ⟨c5, c6⟩, if_pos c6, if_pos c6]
      have hk := sh_nat c1 c2
      obtain ⟨l1, l2, l3, l4⟩ := c.2.1
      have d1 := (c.2.2.2.2 _ hk).1
      rw [(n_0 s).1, Option.bind_some, (s_m s).1, st_sh _ l1 c1 c2, Option.map_some, Option.bind_some]
      generalize hs1 : sa s 45 ((ia s 45).set x.toNatClampNeg (Int32.ofInt 1)) = s1
      have i46 : ia s1 46 = ia s 46 := by rw [← hs1]; rfl
      rw [(n_0 s1).2.1, Option.bind_some, (s_m s1).2.1, i46, st_sh _ l2 c1 c2, Option.map_some, Option.bind_some]
      generalize hs2 : sa s1 46 ((ia s 46).set x.toNatClampNeg so) = s2
      have i47 : ia s2 47 = ia s 47 := by rw [← hs2, ← hs1]; rfl
      rw [(n_0 s2).2.2.1, Option.bind_some, (s_m s2).2.2.1, i47, st_sh _ l3 c1 c2, Option.map_some, Option.bind_some, c40]
      generalize hs3 : sa s2 47 ((ia s 47).set x.toNatClampNeg n) = s3
      have l3' : la s3 (49 + x.toNatClampNeg) = la s (49 + x.toNatClampNeg) := by rw [← hs3, ← hs2, ← hs1]; rfl
      have L := lp0 (R := Int32 × tH) (X := tH) (K := fun (x16 : tH) => some ((Int32.ofInt 1), x16)) (F := fun (s13 : Int32 × tH) nx14 ex15 => if i3 ((40 : Nat) : Int) ≤ s13.1 then ex15 s13.2 else (gN s13.2 8 44 3).bind fun o17 => (aN s13.2 o17 x).bind fun o18 => (sJ s13.2 o18 s13.1 (Int64.ofNat 0)).bind fun th19 => nx14 ((s13.1 + Int32.ofInt 1), th19)) 40 (by omega) (fun t (l : List Int64) => (t, H (sl s3 (49 + x.toNatClampNeg) l))) (fun l => H (sl s3 (49 + x.toNatClampNeg) l)) (fun k (l : List Int64) => l.set k (Int64.ofNat 0)) (fun l => l.length = 40) (la s3 (49 + x.toNatClampNeg)) ?_ ?_ ?_ (by rw [l3']; exact d1)
      · rw [sl_id] at L
        refine Eq.mp (congrArg (fun z => MC s z _ _) L.symm) ?_
        rw [itr_zJ 40 _ (by rw [l3', d1]; exact Nat.le_refl _), List.drop_eq_nil_of_le (by rw [l3', d1]; exact Nat.le_refl _), List.append_nil]
        have eW : sl s3 (49 + x.toNatClampNeg) zJ = wR s x.toNatClampNeg (i3 1) so n (lg (ia s 58) x.toNatClampNeg) zJ := by
          unfold wR
          rw [set_lg (by omega), ← hs3, ← hs2, ← hs1]
          exact congrArg (fun z => sl z _ zJ) (sa_id _ 58).symm
        show MC s (some (i3 1, H (sl s3 (49 + x.toNatClampNeg) zJ))) _ _
        rw [eW]
        have := MC.shelf c hk (x := i3 1) (so := so) (n := n) (d := lg (ia s 58) x.toNatClampNeg) (l := zJ) rfl (Or.inr (Or.inl rfl)) (fun _ => ⟨c5, c6⟩) (fun e => absurd e (by decide +kernel)) (i3 1)
        rw [if_pos rfl] at this
        exact this
      · intro i l nx ex hi hll
        have el : la (sl s3 (49 + x.toNatClampNeg) l) (49 + x.toNatClampNeg) = l := by rw [la_sl, if_pos rfl]
        dsimp only
        rw [if_neg (nle hi (by omega)), (n_0 _).2.2.2.1, Option.bind_some, (r_o _ c1 c2).1, Option.bind_some, (r_L (r_o s c1 c2).2 _).2.2, el, st64_nat (by omega) (by omega), Option.map_some, Option.bind_some, sl_sl]
      · intro i l _ hll
        exact (List.length_set).trans hll
      · intro l nx ex hll
        dsimp only
        rw [if_pos (Int32.le_refl _)]
    · rw [if_neg (fun e => c6 e.2), if_neg c6, if_neg c6, cst.1]
      exact MC.refE c isB2
  · rw [if_neg (fun e => c2 e.2), if_neg c2, if_neg c2, cst.1]
    exact MC.refE c isB2
theorem e_7 (c : MI s) (x t : Int32) : MC s (m_206 44 x t (H s)) (vShow (md s 44) x t) ((abM s).1, (abM s).2.1, (abM s).2.2.1, sShow (md s 44) (abM s).2.2.2 x t) := by
  unfold m_206 vShow sShow
  rw [(r_m s).1, Option.bind_some, j07, Option.bind_some, jnE, bP_if]
  by_cases c1 : x < 0
  · rw [if_neg (fun e => e.1 c1), if_pos c1, if_pos c1, cst.1]
    exact MC.refE c isB2
  rw [if_neg c1, if_neg c1]
  by_cases c2 : x < i3 8
  · rw [if_pos ⟨c1, c2⟩, if_pos c2, if_pos c2, jnE]
    have hk := sh_nat c1 c2
    obtain ⟨l1, l2, l3, l4⟩ := c.2.1
    have d1 := (c.2.2.2.2 _ hk).1
    have put : ∀ y : Int32, (y = i3 0 ∨ y = i3 2) → (y = i3 2 → isT (md s 44) t) → MC s ((sI (H s) 45 x y).bind fun th10 => (gN th10 8 44 5).bind fun o11 => (sI th10 o11 x t).bind fun th12 => some ((Int32.ofInt 1), th12)) (i3 1) ((abM s).1, (abM s).2.1, (abM s).2.2.1, upR (abM s).2.2.2 x.toNatClampNeg none) := fun y hy hyt => by
      have n1 : ¬ y = i3 1 := by rcases hy with rfl | rfl <;> decide +kernel
      rw [(s_m s).1, st_sh _ l1 c1 c2, Option.map_some, Option.bind_some]
      generalize hs1 : sa s 45 ((ia s 45).set x.toNatClampNeg y) = s1
      have i58 : ia s1 58 = ia s 58 := by rw [← hs1]; rfl
      rw [(n_0 s1).2.2.2.2.2, Option.bind_some, (s_m s1).2.2.2.1, i58, st_sh _ l4 c1 c2, Option.map_some, Option.bind_some]
      have eW : sa s1 58 ((ia s 58).set x.toNatClampNeg t) = wR s x.toNatClampNeg y (lg (ia s 46) x.toNatClampNeg) (lg (ia s 47) x.toNatClampNeg) t (la s (49 + x.toNatClampNeg)) := by
        unfold wR
        rw [set_lg (by omega), set_lg (by omega), ← hs1]
        have e1 : sa (sa s 45 ((ia s 45).set x.toNatClampNeg y)) 46 (ia s 46) = sa s 45 ((ia s 45).set x.toNatClampNeg y) := sa_id _ 46
        rw [e1]
        have e2 : sa (sa s 45 ((ia s 45).set x.toNatClampNeg y)) 47 (ia s 47) = sa s 45 ((ia s 45).set x.toNatClampNeg y) := sa_id _ 47
        rw [e2]
        exact (sl_id _ (49 + x.toNatClampNeg)).symm
      rw [eW]
      have := MC.shelf c hk (x := y) (so := lg (ia s 46) x.toNatClampNeg) (n := lg (ia s 47) x.toNatClampNeg) (d := t) (l := la s (49 + x.toNatClampNeg)) d1 (hy.elim Or.inl (fun e => Or.inr (Or.inr e))) (fun e => absurd e n1) hyt (i3 1)
      rw [if_neg n1] at this
      exact this
    by_cases c3 : t = i3 (-1)
    · rw [if_pos (show t = Int32.ofInt (-1) from c3), if_pos c3, if_pos c3, (n_0 s).1, Option.bind_some, jnE, if_pos (show t = Int32.ofInt (-1) from c3)]
      exact put (i3 0) (Or.inl rfl) (fun e => absurd e (by decide +kernel))
    rw [if_neg (show ¬ t = Int32.ofInt (-1) from c3), if_neg c3, if_neg c3, q_191 c.1.1, Option.bind_some, bP_if]
    by_cases c4 : isT (md s 44) t
    · rw [if_pos c4, if_pos c4, if_pos c4, (n_0 s).1, Option.bind_some, jnE, if_neg (show ¬ t = Int32.ofInt (-1) from c3)]
      exact put (i3 2) (Or.inr rfl) (fun _ => c4)
    · rw [if_neg c4, if_neg c4, if_neg c4, cst.1]
      exact MC.refE c isB2
  · rw [if_neg (fun e => c2 e.2), if_neg c2, if_neg c2, cst.1]
    exact MC.refE c isB2
/-- whether a shelf holds no row -/
theorem q_201 (c : MI s) (x : Int32) : ∃ v s', m_201 44 x (H s) = some (v, H s') ∧ qq s s' ∧ ((v = 0 ∧ s' = s ∧ ¬ x < 0 ∧ x < i3 8 ∧ lg (ia s 45) x.toNatClampNeg = i3 1) ∨ (¬ v = 0 ∧ ¬ (¬ x < 0 ∧ x < i3 8 ∧ lg (ia s 45) x.toNatClampNeg = i3 1))) := by
  obtain ⟨l1, l2, l3, l4⟩ := c.2.1
  have n2 : ¬ i3 (-2) = 0 := by decide +kernel
  have n3 : ¬ i3 (-3) = 0 := by decide +kernel
  have n4 : ¬ i3 (-4) = 0 := by decide +kernel
  unfold m_201
  rw [(r_m s).1, Option.bind_some, j07, Option.bind_some, bP_if]
  by_cases c1 : ¬ x < 0 ∧ x < i3 8
  · have hk := sh_nat c1.1 c1.2
    obtain ⟨d1, d2, d3, d4⟩ := c.2.2.2.2 _ hk
    rw [if_pos c1, (n_0 s).1, Option.bind_some, (a_m s).1, at_sh l1 c1.1 c1.2, Option.bind_some]
    by_cases c2 : lg (ia s 45) x.toNatClampNeg = i3 2
    · obtain ⟨s1, e1, q1⟩ := Ans.mf c.1.2.2 isB3
      rw [if_pos (show _ = Int32.ofInt 2 from c2), cst.2.1]
      exact ⟨_, s1, e1, q1, Or.inr ⟨n3, fun e => by rw [e.2.2] at c2; exact absurd c2 (by decide +kernel)⟩⟩
    · rw [if_neg (show ¬ _ = Int32.ofInt 2 from c2), Option.bind_some, (a_m s).1, at_sh l1 c1.1 c1.2, Option.bind_some, jnE]
      by_cases c3 : lg (ia s 45) x.toNatClampNeg = 0
      · obtain ⟨s1, e1, q1⟩ := Ans.mf c.1.2.2 isB4
        rw [if_pos c3, cst.2.2.1]
        exact ⟨_, s1, e1, q1, Or.inr ⟨n4, fun e => by rw [e.2.2] at c3; exact absurd c3 (by decide +kernel)⟩⟩
      · rw [if_neg c3]
        have h1 : lg (ia s 45) x.toNatClampNeg = i3 1 := by
          rcases d2 with e | e | e
          · exact absurd e c3
          · exact e
          · exact absurd e c2
        exact ⟨_, s, rfl, qq.refl s, Or.inl ⟨rfl, rfl, c1.1, c1.2, h1⟩⟩
  · obtain ⟨s1, e1, q1⟩ := Ans.mf c.1.2.2 isB2
    rw [if_neg c1, cst.1]
    exact ⟨_, s1, e1, q1, Or.inr ⟨n2, fun e => c1 ⟨e.1, e.2.1⟩⟩⟩
theorem q_200 (so : Int32) (v : Int64) (th : tH) : m_200 so v th = some (fitJ so v) := by
  unfold m_200
  simp only [jn]
  exact fit_ifs _ _
theorem sz_k {n : Int32} (h0 : ¬ n < 0) (h1 : n ≤ i3 40) : ∃ k : Nat, k < 1000 ∧ n = i3 (k : Int) := ⟨_, by have := le_cl (b := 40) (by omega) h0 h1; omega, i3_cl h0⟩
theorem i_40 {n i : Int32} (h1 : n ≤ i3 40) (c4 : ¬ i < 0 ∧ ¬ n ≤ i) : i.toNatClampNeg < 40 := by
  have a := c4.1
  have b := c4.2
  rw [Int32.lt_iff_toInt_lt] at a
  rw [Int32.le_iff_toInt_le] at b h1
  have e : (0 : Int32).toInt = 0 := by decide +kernel
  have e2 : (i3 40).toInt = 40 := by decide +kernel
  show i.toInt.toNat < 40
  omega
theorem e_3 (c : MI s) (x i : Int32) (v : Int64) : ∃ w, MC s (m_202 44 x i v (H s)) w ((abM s).1, (abM s).2.1, (abM s).2.2.1, sSet (abM s).2.2.2 x i v) := by
  obtain ⟨l1, l2, l3, l4⟩ := c.2.1
  obtain ⟨w, s1, e1, q1, hw⟩ := q_201 c x
  unfold m_202
  rw [(r_m s).1, Option.bind_some, e1, Option.bind_some]
  dsimp only
  have eS : sSet (abM s).2.2.2 x i v = if x < 0 then (abM s).2.2.2 else if x < i3 8 then (match (abM s).2.2.2 x.toNatClampNeg with | none => (abM s).2.2.2 | some r => if ¬ i < 0 ∧ ¬ r.2.1 ≤ i then upR (abM s).2.2.2 x.toNatClampNeg (some (r.1, r.2.1, r.2.2.set i.toNatClampNeg (fitJ r.1 v))) else (abM s).2.2.2) else (abM s).2.2.2 := rfl
  rcases hw with ⟨rfl, rfl, c1, c2, c3⟩ | ⟨w0, hn⟩
  · have hk := sh_nat c1 c2
    obtain ⟨d1, d2, d3, d4⟩ := c.2.2.2.2 _ hk
    have sz := d3 c3
    have hsh : (abM s1).2.2.2 x.toNatClampNeg = some (lg (ia s1 46) x.toNatClampNeg, lg (ia s1 47) x.toNatClampNeg, la s1 (49 + x.toNatClampNeg)) := by
      rw [abM_sh hk]
      exact if_pos c3
    rw [eS, if_neg c1, if_pos c2, hsh]
    dsimp only
    have P := pred_iff (x := i) (sz_k sz.1 sz.2)
    rw [if_pos rfl, (n_0 s1).2.2.1, Option.bind_some, (a_m s1).2.2.1, at_sh l3 c1 c2, Option.bind_some, jc.1, q_190, Option.bind_some, bP_if]
    by_cases c4 : ¬ i < 0 ∧ ¬ lg (ia s1 47) x.toNatClampNeg ≤ i
    · have hb := i_40 sz.2 c4
      rw [if_pos (P.mpr c4), if_pos c4, (n_0 s1).2.2.2.1, Option.bind_some, (r_o s1 c1 c2).1, Option.bind_some, (n_0 s1).2.1, Option.bind_some, (a_m s1).2.1, at_sh l2 c1 c2, Option.bind_some, q_200, Option.bind_some, (r_L (r_o s1 c1 c2).2 s1).2.2, stJ_wr c4.1 (by rw [d1]; exact hb), Option.map_some, Option.bind_some]
      generalize hl : (la s1 (49 + x.toNatClampNeg)).set i.toNatClampNeg (fitJ (lg (ia s1 46) x.toNatClampNeg) v) = l
      have ll : l.length = 40 := by rw [← hl, List.length_set]; exact d1
      have eW : sl s1 (49 + x.toNatClampNeg) l = wR s1 x.toNatClampNeg (lg (ia s1 45) x.toNatClampNeg) (lg (ia s1 46) x.toNatClampNeg) (lg (ia s1 47) x.toNatClampNeg) (lg (ia s1 58) x.toNatClampNeg) l := by
        unfold wR
        rw [set_lg (by omega), set_lg (by omega), set_lg (by omega), set_lg (by omega), sa_id, sa_id, sa_id, sa_id]
      refine ⟨i3 1, ?_⟩
      show MC s1 (some (i3 1, H (sl s1 (49 + x.toNatClampNeg) l))) _ _
      rw [eW]
      have := MC.shelf c hk (x := lg (ia s1 45) x.toNatClampNeg) (so := lg (ia s1 46) x.toNatClampNeg) (n := lg (ia s1 47) x.toNatClampNeg) (d := lg (ia s1 58) x.toNatClampNeg) (l := l) ll d2 d3 d4 (i3 1)
      rw [if_pos c3] at this
      exact this
    · rw [if_neg (fun e => c4 (P.mp e)), if_neg c4, cst.1]
      exact ⟨_, MC.refE c isB2⟩
  · have eS2 : sSet (abM s).2.2.2 x i v = (abM s).2.2.2 := by
      rw [eS]
      by_cases c1 : x < 0
      · rw [if_pos c1]
      · rw [if_neg c1]
        by_cases c2 : x < i3 8
        · rw [if_pos c2, abM_sh (sh_nat c1 c2), show shM s x.toNatClampNeg = none from if_neg (fun e => hn ⟨c1, c2, e⟩)]
        · rw [if_neg c2]
    rw [eS2, if_neg w0]
    exact ⟨w, s1, rfl, q1.eM.mi c, q1.eC, q1.eM.ab c.2.2.2.1.1⟩
theorem e_5 (c : MI s) (x i : Int32) : m_204 44 x i (H s) = some (elV (abM s).2.2.2 x i) := by
  obtain ⟨l1, l2, l3, l4⟩ := c.2.1
  unfold m_204 elV
  rw [(r_m s).1, Option.bind_some, j07, Option.bind_some, jnE, jnE, bP_if]
  by_cases c1 : x < 0
  · rw [if_neg (fun e => e.1 c1), if_pos c1]
  rw [if_neg c1]
  by_cases c2 : x < i3 8
  · have hk := sh_nat c1 c2
    obtain ⟨d1, d2, d3, d4⟩ := c.2.2.2.2 _ hk
    rw [if_pos ⟨c1, c2⟩, if_pos c2, abM_sh hk, (n_0 s).1, Option.bind_some, (a_m s).1, at_sh l1 c1 c2, Option.bind_some]
    unfold shM
    by_cases c3 : lg (ia s 45) x.toNatClampNeg = i3 1
    · have sz := d3 c3
      have P := pred_iff (x := i) (sz_k sz.1 sz.2)
      have q9 := q_190 i (i3 0) (lg (ia s 47) x.toNatClampNeg - Int32.ofInt 1) (H s)
      rw [← jc.1] at q9
      rw [if_pos (show _ = Int32.ofInt 1 from c3), if_pos c3, (n_0 s).2.2.1, Option.bind_some, (a_m s).2.2.1, at_sh l3 c1 c2, Option.bind_some, q9, Option.bind_some, bP_if]
      dsimp only
      by_cases c4 : ¬ i < 0 ∧ ¬ lg (ia s 47) x.toNatClampNeg ≤ i
      · have hb := i_40 sz.2 c4
        rw [if_pos (P.mpr c4), if_pos c4, (n_0 s).2.2.2.1, Option.bind_some, (r_o s c1 c2).1, Option.bind_some, (r_L (r_o s c1 c2).2 s).1, atJ_rd c4.1 (by rw [d1]; exact hb), Option.bind_some]
      · rw [if_neg (fun e => c4 (P.mp e)), if_neg c4]
    · rw [if_neg (show ¬ _ = Int32.ofInt 1 from c3), if_neg c3]
  · rw [if_neg (fun e => c2 e.2), if_neg c2]
theorem e_6 (c : MI s) (x : Int32) : ∃ w, m_205 44 x (H s) = some w := by
  obtain ⟨l1, l2, l3, l4⟩ := c.2.1
  unfold m_205
  rw [(r_m s).1, Option.bind_some, j07, Option.bind_some, jnE, bP_if]
  by_cases c1 : ¬ x < 0 ∧ x < i3 8
  · rw [if_pos c1, (n_0 s).1, Option.bind_some, (a_m s).1, at_sh l1 c1.1 c1.2, Option.bind_some]
    by_cases c2 : lg (ia s 45) x.toNatClampNeg = 0
    · rw [if_pos c2]
      exact ⟨_, rfl⟩
    · rw [if_neg c2, Option.bind_some, (a_m s).1, at_sh l1 c1.1 c1.2, Option.bind_some, jnE]
      by_cases c3 : lg (ia s 45) x.toNatClampNeg = i3 1
      · rw [if_pos (show _ = Int32.ofInt 1 from c3), (n_0 s).2.1, Option.bind_some, (a_m s).2.1, at_sh l2 c1.1 c1.2, Option.bind_some]
        exact ⟨_, rfl⟩
      · rw [if_neg (show ¬ _ = Int32.ofInt 1 from c3), (n_0 s).2.2.2.2.2, Option.bind_some, (a_m s).2.2.2.1, at_sh l4 c1.1 c1.2, Option.bind_some]
        exact ⟨_, rfl⟩
  · rw [if_neg c1]
    exact ⟨_, rfl⟩
end MS
end
section
/-! ===== the reference's shelves: copy, judge, says, status ===== -/
section MS2
variable {s : St}
theorem jv_lt {x y : Int64} : lg_cmp x y < 0 ↔ x.toInt < y.toInt := by
  unfold lg_cmp
  by_cases c1 : x > y
  · rw [if_pos c1]
    have := Int64.lt_iff_toInt_lt.mp c1
    refine ⟨fun e => absurd e (by decide +kernel), fun e => ?_⟩
    omega
  · rw [if_neg c1]
    have n1 : ¬ y.toInt < x.toInt := fun e => c1 (Int64.lt_iff_toInt_lt.mpr e)
    by_cases c2 : x = y
    · rw [if_pos c2]
      refine ⟨fun e => absurd e (by decide +kernel), fun e => ?_⟩
      rw [c2] at e
      omega
    · rw [if_neg c2]
      have n2 : x.toInt ≠ y.toInt := fun e => c2 (Int64.toInt_inj.mp e)
      exact ⟨fun _ => by omega, fun _ => by decide +kernel⟩
theorem jv_gt {x y : Int64} : 0 < lg_cmp x y ↔ y.toInt < x.toInt := by
  unfold lg_cmp
  by_cases c1 : x > y
  · rw [if_pos c1]
    have := Int64.lt_iff_toInt_lt.mp c1
    exact ⟨fun _ => this, fun _ => by decide +kernel⟩
  · rw [if_neg c1]
    have n1 : ¬ y.toInt < x.toInt := fun e => c1 (Int64.lt_iff_toInt_lt.mpr e)
    refine ⟨fun e => ?_, fun e => absurd e n1⟩
    by_cases c2 : x = y
    · rw [if_pos c2] at e
      exact absurd e (by decide +kernel)
    · rw [if_neg c2] at e
      exact absurd e (by decide +kernel)
abbrev jT (g : Gd) (v : Int64) : Prop := 0 ≤ v.toInt ∧ v.toInt < nn g
theorem q_190v {g : Gd} (h : ok g) (v : Int64) (th : tH) : m_190 v (Int64.ofNat 0) (Int32.toInt64 (tN g - Int32.ofInt 1)) th = some (bP (jT g v)) := by
  have n12 := h.n_le
  have e0 : (Int64.ofNat 0).toInt = 0 := by decide +kernel
  have en : (Int32.toInt64 (tN g - Int32.ofInt 1)).toInt = (nn g : Int) - 1 := by
    have : tN g - Int32.ofInt 1 = i3 ((nn g : Int) - 1) := by rw [h.n_eq]; exact i3_sub _ _
    rw [Int32.toInt_toInt64, this, i3_toInt ⟨by omega, by omega⟩]
  unfold m_190 jn
  dsimp only
  by_cases c1 : lg_cmp v (Int64.ofNat 0) < 0
  · have := jv_lt.mp c1
    rw [if_pos c1, bP_f (fun e => by omega)]; rfl
  · rw [if_neg c1]
    have n1 : ¬ v.toInt < (Int64.ofNat 0).toInt := fun e => c1 (jv_lt.mpr e)
    by_cases c2 : 0 < lg_cmp v (Int32.toInt64 (tN g - Int32.ofInt 1))
    · have := jv_gt.mp c2
      rw [if_pos c2, bP_f (fun e => by omega)]; rfl
    · have n2 : ¬ (Int32.toInt64 (tN g - Int32.ofInt 1)).toInt < v.toInt := fun e => c2 (jv_gt.mpr e)
      rw [if_neg c2, bP_t ⟨by omega, by omega⟩]; rfl
theorem jT_T {g : Gd} (h : ok g) {v : Int64} (hv : jT g v) : isT g (Int64.toInt32 v) := by
  have n12 := h.n_le
  obtain ⟨a, b⟩ := hv
  have ev : (Int64.toInt32 v).toInt = v.toInt := by
    rw [Int64.toInt_toInt32, Int.bmod_eq_of_le (by omega) (by omega)]
  refine ⟨fun e => ?_, fun e => ?_⟩
  · have := Int32.lt_iff_toInt_lt.mp e
    rw [ev] at this
    have e2 : (0 : Int32).toInt = 0 := by decide +kernel
    omega
  · have := Int32.le_iff_toInt_le.mp e
    rw [ev, h.n_eq, i3_toInt ⟨by omega, by omega⟩] at this
    omega
/-! copy -/
noncomputable def p1F (f : List Int64) (i k : Nat) (l : List Int64) : List Int64 := l.set k (f.getD (i + k) 0)
noncomputable def p2F (f : List Int64) (j k : Nat) (l : List Int64) : List Int64 := l.set (j + k) (f.getD k 0)
theorem p1_get (f : List Int64) (i : Nat) : ∀ (n : Nat) (l : List Int64), n ≤ l.length → (itr (p1F f i) n l).length = l.length ∧ ∀ q, (itr (p1F f i) n l).getD q 0 = if q < n then f.getD (i + q) 0 else l.getD q 0
  | 0, l, _ => ⟨rfl, fun q => by rw [if_neg (Nat.not_lt_zero _)]; rfl⟩
  | n + 1, l, hn => by
    obtain ⟨h1, h2⟩ := p1_get f i n l (by omega)
    refine ⟨(List.length_set).trans h1, fun q => ?_⟩
    show ((itr (p1F f i) n l).set n (f.getD (i + n) 0)).getD q 0 = _
    rw [List.getD_eq_getElem?_getD, List.getElem?_set]
    by_cases e : n = q
    · subst e
      rw [if_pos rfl, if_pos (by omega), if_pos (by omega)]
      rfl
    · rw [if_neg e, ← List.getD_eq_getElem?_getD, h2 q]
      by_cases c : q < n
      · rw [if_pos c, if_pos (by omega)]
      · rw [if_neg c, if_neg (by omega)]
theorem p2_get (f : List Int64) (j : Nat) : ∀ (n : Nat) (l : List Int64), j + n ≤ l.length → (itr (p2F f j) n l).length = l.length ∧ ∀ q, (itr (p2F f j) n l).getD q 0 = if j ≤ q ∧ q < j + n then f.getD (q - j) 0 else l.getD q 0
  | 0, l, _ => ⟨rfl, fun q => by rw [if_neg (by omega)]; rfl⟩
  | n + 1, l, hn => by
    obtain ⟨h1, h2⟩ := p2_get f j n l (by omega)
    refine ⟨(List.length_set).trans h1, fun q => ?_⟩
    show ((itr (p2F f j) n l).set (j + n) (f.getD n 0)).getD q 0 = _
    rw [List.getD_eq_getElem?_getD, List.getElem?_set]
    by_cases e : j + n = q
    · subst e
      rw [if_pos rfl, if_pos (by omega), if_pos (by omega), show j + n - j = n by omega]
      rfl
    · rw [if_neg e, ← List.getD_eq_getElem?_getD, h2 q]
      by_cases c : j ≤ q ∧ q < j + n
      · rw [if_pos c, if_pos (by omega)]
      · rw [if_neg c, if_neg (by omega)]
theorem ext_getD {l l' : List Int64} (h : l.length = l'.length) (e : ∀ i, l.getD i 0 = l'.getD i 0) : l = l' := by
  apply List.ext_getElem?
  intro i
  by_cases c : i < l.length
  · have := e i
    rw [List.getD_eq_getElem?_getD, List.getD_eq_getElem?_getD, List.getElem?_eq_getElem c, List.getElem?_eq_getElem (by omega)] at this
    rw [List.getElem?_eq_getElem c, List.getElem?_eq_getElem (by omega)]
    exact congrArg some this
  · rw [List.getElem?_eq_none (by omega), List.getElem?_eq_none (by omega)]
theorem cp_eq {f g h : List Int64} {i j n : Nat} (h1 : i + n ≤ f.length) (h2 : j + n ≤ g.length) (h3 : n ≤ h.length) : itr (p2F (itr (p1F f i) n h) j) n g = t_cpy f g i j n := by
  have a := p1_get f i n h h3
  have b := p2_get (itr (p1F f i) n h) j n g h2
  refine ext_getD (b.1.trans (t_cpy_len h1 h2).symm) (fun q => ?_)
  rw [b.2 q, t_cpy_get 0 h1 h2 q]
  show _ = if j ≤ q ∧ q < j + n then f.getD (i + (q - j)) 0 else g.getD q 0
  by_cases c : j ≤ q ∧ q < j + n
  · rw [if_pos c, if_pos c, a.2 (q - j), if_pos (by omega)]
  · rw [if_neg c, if_neg c]
theorem at64_lg {l : List Int64} {k : Nat} (hk : k < l.length) (h2 : l.length ≤ 1000) : at64 l (i3 (k : Int)) = some (l.getD k 0) := by
  rw [at64_nat (by omega), List.getElem?_eq_getElem hk, List.getD_eq_getElem?_getD, List.getElem?_eq_getElem hk]
  rfl
/-- the two loops of copy -/
theorem cp_lp (c : MI s) {p q : Int32} (p1 : ¬ p < 0) (p2 : p < i3 8) (q1 : ¬ q < 0) (q2 : q < i3 8) {I J N : Nat} (hI : I + N ≤ 40) (hJ : J + N ≤ 40) (hp : lg (ia s 45) p.toNatClampNeg = i3 1) (hq : lg (ia s 45) q.toNatClampNeg = i3 1) : MC s (lp (fun (s35 : Int32 × tH) nx36 ex37 => if i3 (N : Int) ≤ s35.1 then ex37 s35.2 else (gN s35.2 8 44 4).bind fun o49 => (gN s35.2 8 44 3).bind fun o50 => (aN s35.2 o50 p).bind fun o51 => (aJ s35.2 o51 (i3 (I : Int) + s35.1)).bind fun x52 => (sJ s35.2 o49 s35.1 x52).bind fun th53 => nx36 ((s35.1 + Int32.ofInt 1), th53)) 4096 ((Int32.ofInt 0), H s) (fun (x38 : tH) => lp (fun (s39 : Int32 × tH) nx40 ex41 => if i3 (N : Int) ≤ s39.1 then ex41 s39.2 else (gN s39.2 8 44 3).bind fun o43 => (aN s39.2 o43 q).bind fun o44 => (gN s39.2 8 44 4).bind fun o45 => (aJ s39.2 o45 s39.1).bind fun x46 => (sJ s39.2 o44 (i3 (J : Int) + s39.1) x46).bind fun th47 => nx40 ((s39.1 + Int32.ofInt 1), th47)) 4096 ((Int32.ofInt 0), x38) (fun (x42 : tH) => some (i3 (N : Int), x42)))) (i3 (N : Int)) ((abM s).1, (abM s).2.1, (abM s).2.2.1, upR (abM s).2.2.2 q.toNatClampNeg (some (lg (ia s 46) q.toNatClampNeg, lg (ia s 47) q.toNatClampNeg, t_cpy (la s (49 + p.toNatClampNeg)) (la s (49 + q.toNatClampNeg)) I J N))) := by
  have kp := sh_nat p1 p2
  have kq := sh_nat q1 q2
  obtain ⟨l1, l2, l3, l4⟩ := c.2.1
  obtain ⟨dp1, -⟩ := c.2.2.2.2 _ kp
  obtain ⟨dq1, dq2, dq3, dq4⟩ := c.2.2.2.2 _ kq
  have z57 : (la s 57).length = 40 := c.1.2.1.2.2.2.2.2
  generalize hR : itr (p1F (la s (49 + p.toNatClampNeg)) I) N (la s 57) = R
  have lR : R.length = 40 := by rw [← hR, (p1_get _ I N _ (by omega)).1]; exact z57
  -- the second loop
  have L2 := lp0 (R := Int32 × tH) (X := tH) (K := fun (x42 : tH) => some (i3 (N : Int), x42)) (F := fun (s39 : Int32 × tH) nx40 ex41 => if i3 (N : Int) ≤ s39.1 then ex41 s39.2 else (gN s39.2 8 44 3).bind fun o43 => (aN s39.2 o43 q).bind fun o44 => (gN s39.2 8 44 4).bind fun o45 => (aJ s39.2 o45 s39.1).bind fun x46 => (sJ s39.2 o44 (i3 (J : Int) + s39.1) x46).bind fun th47 => nx40 ((s39.1 + Int32.ofInt 1), th47)) N (by omega) (fun t (l : List Int64) => (t, H (sl (sl s 57 R) (49 + q.toNatClampNeg) l))) (fun l => H (sl (sl s 57 R) (49 + q.toNatClampNeg) l)) (p2F R J) (fun l => l.length = 40) (la s (49 + q.toNatClampNeg)) ?_ ?_ ?_ dq1
  -- the first loop
  have L1 := lp0 (R := Int32 × tH) (X := tH) (K := fun (x38 : tH) => lp (fun (s39 : Int32 × tH) nx40 ex41 => if i3 (N : Int) ≤ s39.1 then ex41 s39.2 else (gN s39.2 8 44 3).bind fun o43 => (aN s39.2 o43 q).bind fun o44 => (gN s39.2 8 44 4).bind fun o45 => (aJ s39.2 o45 s39.1).bind fun x46 => (sJ s39.2 o44 (i3 (J : Int) + s39.1) x46).bind fun th47 => nx40 ((s39.1 + Int32.ofInt 1), th47)) 4096 ((Int32.ofInt 0), x38) (fun (x42 : tH) => some (i3 (N : Int), x42))) (F := fun (s35 : Int32 × tH) nx36 ex37 => if i3 (N : Int) ≤ s35.1 then ex37 s35.2 else (gN s35.2 8 44 4).bind fun o49 => (gN s35.2 8 44 3).bind fun o50 => (aN s35.2 o50 p).bind fun o51 => (aJ s35.2 o51 (i3 (I : Int) + s35.1)).bind fun x52 => (sJ s35.2 o49 s35.1 x52).bind fun th53 => nx36 ((s35.1 + Int32.ofInt 1), th53)) N (by omega) (fun t (l : List Int64) => (t, H (sl s 57 l))) (fun l => H (sl s 57 l)) (p1F (la s (49 + p.toNatClampNeg)) I) (fun l => l.length = 40) (la s 57) ?_ ?_ ?_ z57
  · rw [sl_id, hR] at L1
    have lq : la (sl s 57 R) (49 + q.toNatClampNeg) = la s (49 + q.toNatClampNeg) := by rw [la_sl, if_neg (by omega)]
    have e0 : sl (sl s 57 R) (49 + q.toNatClampNeg) (la s (49 + q.toNatClampNeg)) = sl s 57 R := by
      have := sl_id (sl s 57 R) (49 + q.toNatClampNeg)
      rw [lq] at this
      exact this
    rw [e0] at L2
    refine Eq.mp (congrArg (fun z => MC s z _ _) (L1.trans L2).symm) ?_
    rw [← hR, cp_eq (by omega) (by omega) (by omega), hR]
    -- what is held now
    have sc0 : sc s (sl s 57 R) := (sc.refl s).l (by rw [lR, z57])
    have c0 := sc0.q.eM.mi c
    have ab0 := sc0.q.eM.ab c.2.2.2.1.1
    have a0 : ∀ p, ia (sl s 57 R) p = ia s p := fun _ => rfl
    generalize hs0 : sl s 57 R = s0 at c0 ab0 a0
    have lcp : (t_cpy (la s (49 + p.toNatClampNeg)) (la s (49 + q.toNatClampNeg)) I J N).length = 40 := by rw [t_cpy_len (by omega) (by omega)]; exact dq1
    generalize t_cpy (la s (49 + p.toNatClampNeg)) (la s (49 + q.toNatClampNeg)) I J N = W at lcp
    have eW : sl s0 (49 + q.toNatClampNeg) W = wR s0 q.toNatClampNeg (lg (ia s 45) q.toNatClampNeg) (lg (ia s 46) q.toNatClampNeg) (lg (ia s 47) q.toNatClampNeg) (lg (ia s 58) q.toNatClampNeg) W := by
      unfold wR
      rw [a0, a0, a0, a0, set_lg (by omega), set_lg (by omega), set_lg (by omega), set_lg (by omega), ← a0 45, sa_id, ← a0 46, sa_id, ← a0 47, sa_id, ← a0 58, sa_id]
    have m0 : md s0 44 = md s 44 := by rw [← hs0]; exact sc0.m (Or.inl rfl)
    obtain ⟨y1, y2, y3⟩ := wR_I c0 kq (x := lg (ia s 45) q.toNatClampNeg) (so := lg (ia s 46) q.toNatClampNeg) (n := lg (ia s 47) q.toNatClampNeg) (d := lg (ia s 58) q.toNatClampNeg) (l := W) lcp dq2 dq3 (by rw [m0]; exact dq4)
    rw [if_pos hq, ab0] at y3
    refine ⟨_, rfl, ?_, ?_, ?_⟩
    · rw [eW]; exact y1
    · rw [eW]
      have := sc0.q.eC
      rw [hs0] at this
      exact this.trans y2
    · rw [eW]; exact y3
  · intro k l nx ex hk hl
    have e1 : la (sl s 57 l) (49 + p.toNatClampNeg) = la s (49 + p.toNatClampNeg) := by rw [la_sl, if_neg (by omega)]
    have e2 : la (sl s 57 l) 57 = l := rfl
    have e3 : i3 (I : Int) + i3 (k : Int) = i3 ((I + k : Nat) : Int) := by rw [i3_add]; rfl
    dsimp only
    rw [if_neg (nle hk (by omega)), (n_0 _).2.2.2.2.1, Option.bind_some, (n_0 _).2.2.2.1, Option.bind_some, (r_o _ p1 p2).1, Option.bind_some, (r_L (r_o s p1 p2).2 _).1, e1, e3, at64_lg (by omega) (by omega), Option.bind_some, (s_m _).2.2.2.2, e2, st64_nat (by omega) (by omega), Option.map_some, Option.bind_some, sl_sl]
    rfl
  · intro k l _ hl
    exact (List.length_set).trans hl
  · intro l nx ex hl
    dsimp only
    rw [if_pos (Int32.le_refl _)]
  · intro k l nx ex hk hl
    have e1 : la (sl (sl s 57 R) (49 + q.toNatClampNeg) l) (49 + q.toNatClampNeg) = l := by rw [la_sl, if_pos rfl]
    have e2 : la (sl (sl s 57 R) (49 + q.toNatClampNeg) l) 57 = R := by rw [la_sl, if_neg (by omega)]; rfl
    have e3 : i3 (J : Int) + i3 (k : Int) = i3 ((J + k : Nat) : Int) := by rw [i3_add]; rfl
    dsimp only
    rw [if_neg (nle hk (by omega)), (n_0 _).2.2.2.1, Option.bind_some, (r_o _ q1 q2).1, Option.bind_some, (n_0 _).2.2.2.2.1, Option.bind_some, (a_m _).2.2.2.2, e2, at64_lg (by omega) (by omega), Option.bind_some, (r_L (r_o s q1 q2).2 _).2.2, e1, e3, st64_nat (by omega) (by omega), Option.map_some, Option.bind_some, sl_sl]
    rfl
  · intro k l _ hl
    exact (List.length_set).trans hl
  · intro l nx ex hl
    dsimp only
    rw [if_pos (Int32.le_refl _)]
theorem MC.refA (c : MI s) {x : Int32} (hx : isB x) : MC s ((m_189 44 x (H s)).bind fun q => some (q.1, q.2)) x (abM s) := MC.ref c hx
theorem e_4 (c : MI s) (p q i j n : Int32) : ∃ w, MC s (m_203 44 p q i j n (H s)) w ((abM s).1, (abM s).2.1, (abM s).2.2.1, sCopy (abM s).2.2.2 p q i j n) := by
  obtain ⟨l1, l2, l3, l4⟩ := c.2.1
  have eS : sCopy (abM s).2.2.2 p q i j n = if p < 0 then (abM s).2.2.2 else if p < i3 8 then if q < 0 then (abM s).2.2.2 else if q < i3 8 then (match (abM s).2.2.2 p.toNatClampNeg, (abM s).2.2.2 q.toNatClampNeg with | some a, some b => if a.1 = b.1 ∧ strt a.2.1 i n ∧ strt b.2.1 j n then upR (abM s).2.2.2 q.toNatClampNeg (some (b.1, b.2.1, t_cpy a.2.2 b.2.2 i.toNatClampNeg j.toNatClampNeg n.toNatClampNeg)) else (abM s).2.2.2 | _, _ => (abM s).2.2.2) else (abM s).2.2.2 else (abM s).2.2.2 := rfl
  unfold m_203
  rw [(r_m s).1, Option.bind_some, j07, Option.bind_some, jnE, bP_if, eS]
  by_cases p1 : p < 0
  · rw [if_neg (fun e => e.1 p1), if_pos p1, cst.1]
    exact ⟨_, MC.refE c isB2⟩
  rw [if_neg p1]
  by_cases p2 : p < i3 8
  · rw [if_pos ⟨p1, p2⟩, if_pos p2, j07, Option.bind_some, bP_if]
    by_cases q1 : q < 0
    · rw [if_neg (fun e => e.1 q1), if_pos q1, cst.1]
      exact ⟨_, MC.refE c isB2⟩
    rw [if_neg q1]
    by_cases q2 : q < i3 8
    · have kp := sh_nat p1 p2
      have kq := sh_nat q1 q2
      obtain ⟨dp1, dp2, dp3, dp4⟩ := c.2.2.2.2 _ kp
      obtain ⟨dq1, dq2, dq3, dq4⟩ := c.2.2.2.2 _ kq
      rw [if_pos ⟨q1, q2⟩, if_pos q2, abM_sh kp, abM_sh kq, (n_0 s).1, Option.bind_some, (a_m s).1, at_sh l1 p1 p2, Option.bind_some, jnE]
      have np : ¬ lg (ia s 45) p.toNatClampNeg = i3 1 → shM s p.toNatClampNeg = none := fun e => if_neg e
      have nq : ¬ lg (ia s 45) q.toNatClampNeg = i3 1 → shM s q.toNatClampNeg = none := fun e => if_neg e
      have eN : ∀ (a b : Rw), (a = none ∨ b = none) → (match a, b with | some a, some b => if a.1 = b.1 ∧ strt a.2.1 i n ∧ strt b.2.1 j n then upR (abM s).2.2.2 q.toNatClampNeg (some (b.1, b.2.1, t_cpy a.2.2 b.2.2 i.toNatClampNeg j.toNatClampNeg n.toNatClampNeg)) else (abM s).2.2.2 | _, _ => (abM s).2.2.2) = (abM s).2.2.2 := fun a b hab => by
        rcases hab with rfl | rfl
        · rfl
        · cases a <;> rfl
      by_cases a2 : lg (ia s 45) p.toNatClampNeg = i3 2
      · rw [if_pos (show _ = Int32.ofInt 2 from a2), eN _ _ (Or.inl (np (by rw [a2]; decide +kernel))), cst.2.1]
        exact ⟨_, MC.refE c isB3⟩
      rw [if_neg (show ¬ _ = Int32.ofInt 2 from a2), Option.bind_some, (a_m s).1, at_sh l1 q1 q2, Option.bind_some]
      by_cases b2 : lg (ia s 45) q.toNatClampNeg = i3 2
      · rw [if_pos (show _ = Int32.ofInt 2 from b2), eN _ _ (Or.inr (nq (by rw [b2]; decide +kernel))), cst.2.1]
        exact ⟨_, MC.refE c isB3⟩
      rw [if_neg (show ¬ _ = Int32.ofInt 2 from b2), Option.bind_some, (a_m s).1, at_sh l1 p1 p2, Option.bind_some, jnE]
      by_cases a1 : lg (ia s 45) p.toNatClampNeg = i3 1
      · have n0 : ¬ lg (ia s 45) p.toNatClampNeg = 0 := by rw [a1]; decide +kernel
        rw [if_pos (show _ = Int32.ofInt 1 from a1), Option.bind_some, (a_m s).1, at_sh l1 q1 q2, Option.bind_some]
        by_cases b1 : lg (ia s 45) q.toNatClampNeg = i3 1
        · have m0 : ¬ lg (ia s 45) q.toNatClampNeg = 0 := by rw [b1]; decide +kernel
          rw [if_pos (show _ = Int32.ofInt 1 from b1), (n_0 s).2.1, Option.bind_some, (a_m s).2.1, at_sh l2 p1 p2, Option.bind_some, Option.bind_some, (a_m s).2.1, at_sh l2 q1 q2, Option.bind_some]
          rw [show shM s p.toNatClampNeg = some _ from if_pos a1, show shM s q.toNatClampNeg = some _ from if_pos b1]
          dsimp only
          by_cases so : lg (ia s 46) p.toNatClampNeg = lg (ia s 46) q.toNatClampNeg
          · rw [if_pos so, Option.bind_some, (a_m s).1, at_sh l1 p1 p2, Option.bind_some, jnE, if_neg n0, Option.bind_some, (a_m s).1, at_sh l1 q1 q2, Option.bind_some, if_neg m0, jnE]
            have sp := dp3 a1
            have sq := dq3 b1
            by_cases f1 : n < 0
            · rw [if_pos f1, if_neg (fun e => e.2.1.2.1 f1), cst.1]
              exact ⟨_, MC.refE c isB2⟩
            rw [if_neg f1]
            by_cases f2 : i < 0
            · rw [if_pos f2, if_neg (fun e => e.2.1.1 f2), cst.1]
              exact ⟨_, MC.refE c isB2⟩
            rw [if_neg f2]
            by_cases f3 : j < 0
            · rw [if_pos f3, if_neg (fun e => e.2.2.1 f3), cst.1]
              exact ⟨_, MC.refE c isB2⟩
            rw [if_neg f3, (n_0 s).2.2.1, Option.bind_some, (a_m s).2.2.1, at_sh l3 p1 p2, Option.bind_some]
            have big : ∀ z f : Int32, (¬ z < 0 ∧ z ≤ i3 40) → strt z f n → ¬ z < n := fun z f hz hs e => by
              obtain ⟨u1, u2, u3⟩ := hs
              have ez := i3_cl hz.1
              have en := i3_cl u2
              have zb : z.toNatClampNeg ≤ 40 := le_cl (b := 40) (by omega) hz.1 hz.2
              have nb : n.toNatClampNeg < 2147483648 := by
                have := Int32.toInt_lt n
                show n.toInt.toNat < 2147483648
                omega
              have e5 : z - n = i3 ((z.toNatClampNeg : Int) - (n.toNatClampNeg : Int)) := by
                conv => lhs; rw [ez, en]
                exact i3_sub _ _
              rw [e5, Int32.lt_iff_toInt_lt, i3_toInt ⟨by omega, by omega⟩] at u3
              rw [ez, en, i3n_lt (by omega) (by omega)] at e
              have f0 : ¬ f.toInt < 0 := fun e => u1 (Int32.lt_iff_toInt_lt.mpr e)
              omega
            by_cases f4 : lg (ia s 47) p.toNatClampNeg < n
            · rw [if_pos f4, if_neg (fun e => big _ _ sp e.2.1 f4), cst.1]
              exact ⟨_, MC.refE c isB2⟩
            rw [if_neg f4, Option.bind_some, (a_m s).2.2.1, at_sh l3 q1 q2, Option.bind_some]
            by_cases f5 : lg (ia s 47) q.toNatClampNeg < n
            · rw [if_pos f5, if_neg (fun e => big _ _ sq e.2.2 f5), cst.1]
              exact ⟨_, MC.refE c isB2⟩
            rw [if_neg f5, Option.bind_some, (a_m s).2.2.1, at_sh l3 p1 p2, Option.bind_some]
            by_cases f6 : lg (ia s 47) p.toNatClampNeg - n < i
            · rw [if_pos f6, if_neg (fun e => e.2.1.2.2 f6), cst.1]
              exact ⟨_, MC.refE c isB2⟩
            rw [if_neg f6, Option.bind_some, (a_m s).2.2.1, at_sh l3 q1 q2, Option.bind_some]
            by_cases f7 : j ≤ lg (ia s 47) q.toNatClampNeg - n
            · have sI' : strt (lg (ia s 47) p.toNatClampNeg) i n := ⟨f2, f1, f6⟩
              have sJ' : strt (lg (ia s 47) q.toNatClampNeg) j n := ⟨f3, f1, Int32.not_lt.mpr f7⟩
              have bI := st_bd sp sI'
              have bJ := st_bd sq sJ'
              rw [if_pos f7, if_pos ⟨so, sI', sJ'⟩]
              have := cp_lp c p1 p2 q1 q2 (I := i.toNatClampNeg) (J := j.toNatClampNeg) (N := n.toNatClampNeg) bI bJ a1 b1
              rw [← i3_cl f1, ← i3_cl f2, ← i3_cl f3] at this
              exact ⟨_, this⟩
            · rw [if_neg f7, if_neg (fun e => f7 (Int32.not_lt.mp e.2.2.2.2)), cst.1]
              exact ⟨_, MC.refE c isB2⟩
          · rw [if_neg so, if_neg (fun e => so e.1), cst.2.1]
            exact ⟨_, MC.refE c isB3⟩
        · have m0 : lg (ia s 45) q.toNatClampNeg = 0 := by
            rcases dq2 with e | e | e
            · exact e
            · exact absurd e b1
            · exact absurd e b2
          rw [if_neg (show ¬ _ = Int32.ofInt 1 from b1), eN _ _ (Or.inr (nq b1)), Option.bind_some, (a_m s).1, at_sh l1 p1 p2, Option.bind_some, jnE, if_neg n0, Option.bind_some, (a_m s).1, at_sh l1 q1 q2, Option.bind_some, if_pos m0, cst.2.2.1]
          exact ⟨_, MC.refE c isB4⟩
      · have n0 : lg (ia s 45) p.toNatClampNeg = 0 := by
          rcases dp2 with e | e | e
          · exact e
          · exact absurd e a1
          · exact absurd e a2
        rw [if_neg (show ¬ _ = Int32.ofInt 1 from a1), eN _ _ (Or.inl (np a1)), Option.bind_some, (a_m s).1, at_sh l1 p1 p2, Option.bind_some, jnE, if_pos n0, cst.2.2.1]
        exact ⟨_, MC.refE c isB4⟩
    · rw [if_neg (fun e => q2 e.2), if_neg q2, cst.1]
      exact ⟨_, MC.refE c isB2⟩
  · rw [if_neg (fun e => p2 e.2), if_neg p2, cst.1]
    exact ⟨_, MC.refE c isB2⟩
end MS2
end
section
/-! ===== the reference: judge, says, status come to an end ===== -/
section MS3
variable {s : St}
theorem MC.idA (c : MI s) (v : Int32) : MC s (some (v, H s)) v (abM s) := MC.id c v
theorem e_27 (c : MI s) (x n : Int32) : ∃ v, MC s (m_254 44 x n (H s)) v (abM s) := by
  obtain ⟨l1, l2, l3, l4⟩ := c.2.1
  have h := c.1.1
  unfold m_254
  rw [(r_m s).1, Option.bind_some, j07, Option.bind_some, jnE, bP_if]
  by_cases c1 : ¬ x < 0 ∧ x < i3 8
  · rw [if_pos c1, j012, Option.bind_some, bP_if]
    by_cases c2 : ¬ n < 0 ∧ n ≤ i3 12
    · have hk := sh_nat c1.1 c1.2
      have n12 : n.toNatClampNeg ≤ 12 := le_cl (b := 12) (by omega) c2.1 c2.2
      have en := i3_cl c2.1
      obtain ⟨w, s1, e1, q1, hw⟩ := q_201 c x
      rw [if_pos c2, e1, Option.bind_some]
      dsimp only
      rcases hw with ⟨rfl, rfl, c3, c4, c5⟩ | ⟨w0, hn⟩
      · obtain ⟨d1, d2, d3, d4⟩ := c.2.2.2.2 _ hk
        rw [if_pos rfl, (n_0 s1).2.2.1, Option.bind_some, (a_m s1).2.2.1, at_sh l3 c1.1 c1.2, Option.bind_some]
        by_cases c6 : n ≤ lg (ia s1 47) x.toNatClampNeg
        · rw [if_pos c6]
          have rows : ∀ k : Nat, k < 40 → aJ (H s1) (49 + x.toNatClampNeg) (i3 (k : Int)) = some ((la s1 (49 + x.toNatClampNeg)).getD k 0) := fun k hk => by
            rw [(r_L (r_o s1 c1.1 c1.2).2 s1).1, at64_lg (by omega) (by omega)]
          generalize (la s1 (49 + x.toNatClampNeg)) = R at rows
          suffices T (lp (fun (s9 : Int32 × Int32) nx10 ex11 => if n ≤ s9.2 then ex11 () else (gN (H s1) 8 44 3).bind fun o13 => (aN (H s1) o13 x).bind fun o14 => (aJ (H s1) o14 s9.2).bind fun x15 => (gI (H s1) 8 44 10).bind fun x16 => (m_190 x15 (Int64.ofNat 0) (Int32.toInt64 (x16 - (Int32.ofInt 1))) (H s1)).bind fun x17 => jn (fun (v18 : Unit) => some (s9.2, H s1)) (fun j19 => if x17 = 0 then j19 () else (m_195 s9.1 (Int64.toInt32 x15) (H s1)).bind fun x20 => if x20 = 0 then (gN (H s1) 8 44 11).bind fun o21 => (aI (H s1) o21 (Int64.toInt32 x15)).bind fun x22 => if x22 = (Int32.ofInt 4) then j19 () else jn (fun (v23 : Unit) => nx10 ((s9.1 ||| ((Int32.ofInt 1) <<< ((Int64.toInt32 x15) &&& 31))), (s9.2 + Int32.ofInt 1))) (fun j24 => if s9.2 ≤ (Int32.ofInt 1) then j24 () else (gN (H s1) 8 44 12).bind fun o25 => (gN (H s1) 8 44 3).bind fun o26 => (aN (H s1) o26 x).bind fun o27 => (aJ (H s1) o27 (Int32.ofInt 0)).bind fun x28 => (aI (H s1) o25 (Int64.toInt32 x28)).bind fun x29 => (gN (H s1) 8 44 12).bind fun o30 => (gN (H s1) 8 44 3).bind fun o31 => (aN (H s1) o31 x).bind fun o32 => (aJ (H s1) o32 (Int32.ofInt 1)).bind fun x33 => (aI (H s1) o30 (Int64.toInt32 x33)).bind fun x34 => (gN (H s1) 8 44 12).bind fun o35 => (aI (H s1) o35 (Int64.toInt32 x15)).bind fun x36 => (m_236 44 x29 x34 x36 (H s1)).bind fun x37 => if x37 = 0 then some (s9.2, H s1) else j24 ()) else j19 ())) 4096 ((Int32.ofInt 0), (Int32.ofInt 0)) (fun (x12 : Unit) => some ((Int32.ofInt (-1)), H s1))) (fun r => ∃ w, r = (w, H s1)) by
            obtain ⟨_, e, w, rfl⟩ := this
            exact ⟨w, Eq.mp (congrArg (fun z => MC s1 z w _) e.symm) (MC.idA c w)⟩
          refine lpH n.toNatClampNeg (fun k q => ∃ m, q = (m, i3 (k : Int)) ∧ ∀ j, j < k → isT (md s1 44) (Int64.toInt32 (R.getD j 0))) (fun _ => True) ?_ ?_ ?_ ?_ (by omega)
          · rintro k _ hk2 ⟨m, rfl, hm⟩ nx ex hnx hex
            have e0 : ¬ n ≤ i3 (k : Int) := by rw [en]; exact nle hk2 (by omega)
            have st : T (some (i3 (k : Int), H s1)) (fun r => ∃ w, r = (w, H s1)) := T_some ⟨_, rfl⟩
            dsimp only
            rw [if_neg e0, (n_0 s1).2.2.2.1, Option.bind_some, (r_o s1 c1.1 c1.2).1, Option.bind_some, rows k (by omega), Option.bind_some, (r_g s1).2.2.1, Option.bind_some, q_190v h, Option.bind_some, jnE, bP_if]
            by_cases f1 : jT (md s1 44) (R.getD k 0)
            · have hT := jT_T h f1
              have go : ∀ m', T (nx (m', i3 (k : Int) + Int32.ofInt 1)) (fun r => ∃ w, r = (w, H s1)) := fun m' => hnx _ ⟨m', by rw [i3_nat_add], fun j hj => by
                by_cases e : j = k
                · rw [e]; exact hT
                · exact hm j (by omega)⟩
              rw [if_pos f1, q_195, Option.bind_some, bP_if]
              by_cases f2 : hs m (Int64.toInt32 (R.getD k 0))
              · rw [if_pos f2]; exact st
              rw [if_neg f2, (r_g s1).2.2.2.2.2.1, Option.bind_some, (r_g s1).2.2.2.2.2.2.2.2.2.1, h.at_k hT, Option.bind_some]
              by_cases f3 : kA (md s1 44) (Int64.toInt32 (R.getD k 0)) = i3 4
              · rw [if_pos (show _ = Int32.ofInt 4 from f3)]; exact st
              rw [if_neg (show ¬ _ = Int32.ofInt 4 from f3), jnE]
              by_cases f4 : i3 (k : Int) ≤ i3 ((1 : Nat) : Int)
              · rw [if_pos (show i3 (k : Int) ≤ Int32.ofInt 1 from f4)]
                exact go _
              have k2 : 1 < k := by
                rw [i3n_le (by omega) (by omega)] at f4
                omega
              have r0 : aJ (H s1) (49 + x.toNatClampNeg) (Int32.ofInt 0) = some (R.getD 0 0) := rows 0 (by omega)
              have r1 : aJ (H s1) (49 + x.toNatClampNeg) (Int32.ofInt 1) = some (R.getD 1 0) := rows 1 (by omega)
              rw [if_neg (show ¬ i3 (k : Int) ≤ Int32.ofInt 1 from f4), (r_g s1).2.2.2.2.2.2.1, Option.bind_some, Option.bind_some, (r_o s1 c1.1 c1.2).1, Option.bind_some, r0, Option.bind_some, (r_g s1).2.2.2.2.2.2.2.2.2.2.1, h.at_c (hm 0 (by omega)), Option.bind_some, Option.bind_some, Option.bind_some, (r_o s1 c1.1 c1.2).1, Option.bind_some, r1, Option.bind_some, (r_g s1).2.2.2.2.2.2.2.2.2.2.1, h.at_c (hm 1 (by omega)), Option.bind_some, Option.bind_some, (r_g s1).2.2.2.2.2.2.2.2.2.2.1, h.at_c hT, Option.bind_some, q_236 h, Option.bind_some, bP_if]
              split
              · exact go _
              · exact st
            · rw [if_neg f1]; exact st
          · rintro _ ⟨m, rfl, hm⟩ nx ex hex
            dsimp only
            rw [if_pos (by rw [← en]; exact Int32.le_refl _)]
            exact hex _ trivial
          · intro _ _
            exact T_some ⟨_, rfl⟩
          · exact ⟨_, rfl, fun j hj => absurd hj (Nat.not_lt_zero _)⟩
        · rw [if_neg c6, cst.1]
          exact ⟨_, MC.refA c isB2⟩
      · rw [if_neg w0]
        exact ⟨w, s1, rfl, q1.eM.mi c, q1.eC, q1.eM.ab c.2.2.2.1.1⟩
    · rw [if_neg c2, cst.1]
      exact ⟨_, MC.refA c isB2⟩
  · rw [if_neg c1, cst.1]
    exact ⟨_, MC.refA c isB2⟩
theorem q_208 (a b : Int32) (th : tH) : m_208 a b th = some (bP (kOf a b)) := by
  unfold m_208 jn bP kOf
  dsimp only
  by_cases c1 : b = 0
  · rw [if_pos c1, if_pos (Or.inr (Or.inl c1))]; rfl
  rw [if_neg c1]
  by_cases c2 : a = b
  · rw [if_pos c2, if_pos (Or.inl c2)]; rfl
  rw [if_neg c2]
  by_cases c3 : b = i3 1
  · rw [if_pos (show b = Int32.ofInt 1 from c3)]
    have n2 : ¬ b = Int32.ofInt 2 := by rw [c3]; decide +kernel
    rw [if_neg n2]
    by_cases c4 : a = i3 3
    · rw [if_pos (show a = Int32.ofInt 3 from c4), if_pos (Or.inr (Or.inr (Or.inl ⟨c4, c3⟩)))]; rfl
    · rw [if_neg (show ¬ a = Int32.ofInt 3 from c4), if_neg]
      · rfl
      · rintro (e | e | ⟨e, -⟩ | ⟨-, e⟩)
        · exact c2 e
        · exact c1 e
        · exact c4 e
        · exact n2 e
  · rw [if_neg (show ¬ b = Int32.ofInt 1 from c3)]
    by_cases c5 : b = i3 2
    · rw [if_pos (show b = Int32.ofInt 2 from c5)]
      by_cases c6 : a = i3 5
      · rw [if_pos (show a = Int32.ofInt 5 from c6), if_pos (Or.inr (Or.inr (Or.inr ⟨c6, c5⟩)))]; rfl
      · rw [if_neg (show ¬ a = Int32.ofInt 5 from c6), if_neg]
        · rfl
        · rintro (e | e | ⟨-, e⟩ | ⟨e, -⟩)
          · exact c2 e
          · exact c1 e
          · exact c3 e
          · exact c6 e
    · rw [if_neg (show ¬ b = Int32.ofInt 2 from c5), if_neg]
      · rfl
      · rintro (e | e | ⟨-, e⟩ | ⟨-, e⟩)
        · exact c2 e
        · exact c1 e
        · exact c3 e
        · exact c5 e
theorem e_8 (c : MI s) (x w : Int32) : ∃ v, MC s (m_209 44 x w (H s)) v (abM s) := by
  obtain ⟨l1, l2, l3, l4⟩ := c.2.1
  have h := c.1.1
  have hn := h.n_le
  unfold m_209
  rw [(r_m s).1, Option.bind_some, j07, Option.bind_some, jnE, bP_if]
  by_cases c1 : ¬ x < 0 ∧ x < i3 8
  · rw [if_pos c1, j05, Option.bind_some, bP_if]
    by_cases c2 : ¬ w < 0 ∧ w ≤ i3 5
    · have hk := sh_nat c1.1 c1.2
      obtain ⟨d1, d2, d3, d4⟩ := c.2.2.2.2 _ hk
      rw [if_pos c2, (n_0 s).1, Option.bind_some, (a_m s).1, at_sh l1 c1.1 c1.2, Option.bind_some, jnE]
      by_cases c3 : lg (ia s 45) x.toNatClampNeg = i3 1
      · rw [if_pos (show _ = Int32.ofInt 1 from c3), cst.2.1]
        exact ⟨_, MC.refA c isB3⟩
      rw [if_neg (show ¬ _ = Int32.ofInt 1 from c3), Option.bind_some, (a_m s).1, at_sh l1 c1.1 c1.2, Option.bind_some, jnE]
      by_cases c4 : lg (ia s 45) x.toNatClampNeg = i3 2
      · have hT := d4 c4
        have n0 : ¬ lg (ia s 45) x.toNatClampNeg = 0 := by rw [c4]; decide +kernel
        rw [if_pos (show _ = Int32.ofInt 2 from c4), (r_g s).2.2.2.2.2.1, Option.bind_some, (n_0 s).2.2.2.2.2, Option.bind_some, (a_m s).2.2.2.1, at_sh l4 c1.1 c1.2, Option.bind_some, (r_g s).2.2.2.2.2.2.2.2.2.1, h.at_k hT, Option.bind_some, q_208, Option.bind_some, bP_if]
        by_cases c5 : kOf (kA (md s 44) (lg (ia s 58) x.toNatClampNeg)) w
        · rw [if_pos c5, Option.bind_some, (a_m s).1, at_sh l1 c1.1 c1.2, Option.bind_some, if_neg n0, Option.bind_some, (a_m s).2.2.2.1, at_sh l4 c1.1 c1.2, Option.bind_some]
          generalize lg (ia s 58) x.toNatClampNeg = t at hT
          have eV : ((gN (H s) 8 44 13).bind fun o20 => (aI (H s) o20 t).bind fun x21 => some (x21, H s)) = some (vA (md s 44) t, H s) := by
            rw [(r_g s).2.2.2.2.2.2.2.1, Option.bind_some, (r_g s).2.2.2.2.2.2.2.2.2.2.2.1, h.at_v hT, Option.bind_some]
          rcases six c2.1 c2.2 with rfl | rfl | rfl | rfl | rfl | rfl
          · rw [if_neg (by decide +kernel), if_pos rfl]
            obtain ⟨s1, e1, f1⟩ := q_242 h c.1.2.1 hT (Int32.ofInt 3)
            rw [e1, Option.bind_some]
            exact ⟨_, (f1.ans).mc c⟩
          · rw [if_neg (by decide +kernel), if_neg (by decide +kernel), if_pos rfl, q_210 h hT, Option.bind_some]
            exact ⟨_, MC.idA c _⟩
          · rw [if_neg (by decide +kernel), if_neg (by decide +kernel), if_neg (by decide +kernel), if_pos rfl]
            suffices T (lp (fun (s27 : Int32 × Int32) nx28 ex29 => (gI (H s) 8 44 10).bind fun x31 => if x31 ≤ s27.2 then ex29 s27.1 else jn (fun (v32 : Int32 × Int32) => nx28 ((v32.2 + v32.1), (s27.2 + Int32.ofInt 1))) (fun j33 => jn (fun (v34 : Int32) => j33 ((Int32.ofInt 0), v34)) (fun j35 => if s27.2 = t then j35 s27.1 else (gN (H s) 8 44 12).bind fun o36 => (aI (H s) o36 s27.2).bind fun x37 => (m_272 44 t x37 (H s)).bind fun x38 => if x38 = (Int32.ofInt (-1)) then j33 ((Int32.ofInt 1), s27.1) else j35 s27.1))) 4096 ((Int32.ofInt 0), (Int32.ofInt 0)) (fun (x30 : Int32) => some (x30, H s))) (fun r => ∃ w, r = (w, H s)) by
              obtain ⟨_, e, w, rfl⟩ := this
              exact ⟨w, Eq.mp (congrArg (fun z => MC s z w _) e.symm) (MC.idA c w)⟩
            refine lpH (nn (md s 44)) (fun k q => ∃ m, q = (m, i3 (k : Int))) (fun _ => True) ?_ ?_ ?_ ?_ (by omega)
            · rintro k _ hk2 ⟨m, rfl⟩ nx ex hnx hex
              have go : ∀ m', T (nx (m', i3 (k : Int) + Int32.ofInt 1)) (fun r => ∃ w, r = (w, H s)) := fun m' => hnx _ ⟨m', by rw [i3_nat_add]⟩
              dsimp only
              rw [(r_g s).2.2.1, Option.bind_some, if_neg (h.T hk2).2, jnE, jnE]
              split
              · exact go _
              · rw [(r_g s).2.2.2.2.2.2.1, Option.bind_some, (r_g s).2.2.2.2.2.2.2.2.2.2.1, h.at_c (h.T hk2), Option.bind_some, q_272 h hT, Option.bind_some]
                split
                · exact go _
                · exact go _
            · rintro _ ⟨m, rfl⟩ nx ex hex
              dsimp only
              rw [(r_g s).2.2.1, Option.bind_some, if_pos (h.Te (Nat.le_refl _) (by have := h.n_le; omega))]
              exact hex _ trivial
            · intro _ _
              exact T_some ⟨_, rfl⟩
            · exact ⟨_, rfl⟩
          · rw [if_neg (by decide +kernel), if_neg (by decide +kernel), if_neg (by decide +kernel), if_neg (by decide +kernel), if_pos rfl, eV]
            exact ⟨_, MC.idA c _⟩
          · rw [if_neg (by decide +kernel), if_neg (by decide +kernel), if_neg (by decide +kernel), if_neg (by decide +kernel), if_neg (by decide +kernel), if_pos rfl]
            suffices T (lp (fun (s46 : Int32 × Int32) nx47 ex48 => (gI (H s) 8 44 10).bind fun x50 => if x50 ≤ s46.2 then ex48 s46.1 else jn (fun (v51 : Int32) => jn (fun (v53 : Int32) => nx47 (v53, (s46.2 + Int32.ofInt 1))) (fun j54 => jn (fun (v55 : Unit) => j54 s46.1) (fun j56 => if s46.2 = t then j56 () else jn (fun (v57 : Unit) => j54 v51) (fun j58 => if s46.1 = 0 then j58 () else if s46.1 ≤ v51 then j56 () else j58 ())))) (fun j52 => if s46.2 = t then j52 (Int32.ofInt 0) else (gN (H s) 8 44 12).bind fun o62 => (aI (H s) o62 t).bind fun x63 => (gN (H s) 8 44 12).bind fun o64 => (aI (H s) o64 s46.2).bind fun x65 => (m_237 44 x63 x65 (H s)).bind fun x66 => j52 x66)) 4096 ((Int32.ofInt 0), (Int32.ofInt 0)) (fun (x49 : Int32) => some (x49, H s))) (fun r => ∃ w, r = (w, H s)) by
              obtain ⟨_, e, w, rfl⟩ := this
              exact ⟨w, Eq.mp (congrArg (fun z => MC s z w _) e.symm) (MC.idA c w)⟩
            refine lpH (nn (md s 44)) (fun k q => ∃ m, q = (m, i3 (k : Int))) (fun _ => True) ?_ ?_ ?_ ?_ (by omega)
            · rintro k _ hk2 ⟨m, rfl⟩ nx ex hnx hex
              have go : ∀ m', T (nx (m', i3 (k : Int) + Int32.ofInt 1)) (fun r => ∃ w, r = (w, H s)) := fun m' => hnx _ ⟨m', by rw [i3_nat_add]⟩
              dsimp only
              rw [(r_g s).2.2.1, Option.bind_some, if_neg (h.T hk2).2, jnE]
              by_cases f1 : i3 (k : Int) = t
              · rw [if_pos f1]
                dsimp only [jn]
                rw [if_pos f1]
                exact go _
              · rw [if_neg f1, (r_g s).2.2.2.2.2.2.1, Option.bind_some, (r_g s).2.2.2.2.2.2.2.2.2.2.1, h.at_c hT, Option.bind_some, Option.bind_some, (r_g s).2.2.2.2.2.2.2.2.2.2.1, h.at_c (h.T hk2), Option.bind_some, q_237 h, Option.bind_some]
                dsimp only [jn]
                rw [if_neg f1]
                split
                · exact go _
                · split
                  · exact go _
                  · exact go _
            · rintro _ ⟨m, rfl⟩ nx ex hex
              dsimp only
              rw [(r_g s).2.2.1, Option.bind_some, if_pos (h.Te (Nat.le_refl _) (by have := h.n_le; omega))]
              exact hex _ trivial
            · intro _ _
              exact T_some ⟨_, rfl⟩
            · exact ⟨_, rfl⟩
          · rw [if_pos (by decide +kernel), eV]
            exact ⟨_, MC.idA c _⟩
        · rw [if_neg c5, cst.2.1]
          exact ⟨_, MC.refA c isB3⟩
      · have n0 : lg (ia s 45) x.toNatClampNeg = 0 := by
          rcases d2 with e | e | e
          · exact e
          · exact absurd e c3
          · exact absurd e c4
        rw [if_neg (show ¬ _ = Int32.ofInt 2 from c4), Option.bind_some, (a_m s).1, at_sh l1 c1.1 c1.2, Option.bind_some, if_pos n0, cst.2.2.1]
        exact ⟨_, MC.refA c isB4⟩
    · rw [if_neg c2, cst.1]
      exact ⟨_, MC.refA c isB2⟩
  · rw [if_neg c1, cst.1]
    exact ⟨_, MC.refA c isB2⟩
theorem e_58 (c : MI s) (w : Int32) : ∃ v, MC s (m_303 44 w (H s)) v (abM s) := by
  obtain ⟨l1, l2, l3, l4⟩ := c.2.1
  have h := c.1.1
  have hn := h.n_le
  have quiet : ∀ v : Int32, MC s (some (v, H s)) v (abM s) := fun v => MC.idA c v
  unfold m_303
  rw [(r_m s).1, Option.bind_some]
  by_cases c1 : w < 0 ∨ 9 < w
  · rw [if_pos c1]
    have c10 : (Int8.ofInt 10).toInt32 = i3 10 := by decide +kernel
    have e12 : Int64.ofNat 12 = Int32.toInt64 (i3 12) := jc.2.2.2.2.2.2.2.2.2.1
    have e16 : Int64.ofNat 16 = Int32.toInt64 (i3 16) := jc.2.2.2.2.2.2.2.2.2.2.1
    rw [e12, e16, q_190, Option.bind_some, jnE, bP_if, c10]
    by_cases d1 : ¬ w < i3 12 ∧ ¬ i3 16 < w
    · rw [if_pos d1]
      have g8 : gN (H s) 8 44 8 = some 60 := rfl
      have h60 : ∀ i, aI (H s) 60 i = at32 (ia s 60) i := fun i => aI_of rfl
      have a : ¬ w.toInt < 12 := fun e => d1.1 (Int32.lt_iff_toInt_lt.mpr e)
      have b : ¬ 16 < w.toInt := fun e => d1.2 (Int32.lt_iff_toInt_lt.mpr e)
      have ew : w - i3 10 = i3 ((w.toInt - 10).toNat : Int) := by
        have e1 : w = i3 w.toInt := (Int32.ofInt_toInt w).symm
        conv => lhs; rw [e1]
        rw [i3_sub]
        congr 1
        omega
      have ea : at32 (ia s 60) (w - i3 10) = some (rd (ia s 60) (w - i3 10)) := by
        rw [ew]
        exact at_rd (i3n_nneg (by omega)) (by rw [cl_i3 (by omega), c.1.2.2]; omega)
      rw [g8, Option.bind_some, h60, ea, Option.bind_some]
      exact ⟨_, quiet _⟩
    · rw [if_neg d1]
      exact ⟨_, quiet _⟩
  · rw [if_neg c1]
    obtain ⟨k, hk, rfl⟩ := ten c1
    have e : ∀ j : Nat, j < 10 → ((i3 (k : Int) = i3 (j : Int)) ↔ k = j) := fun j hj => i3n_inj (by omega) (by omega)
    have P : ∀ (j : Nat) (α : Type) (a b : Option α), j < 10 → k = j → (if i3 (k : Int) = i3 (j : Int) then a else b) = a := fun j α a b hj ej => if_pos ((e j hj).mpr ej)
    have N : ∀ (j : Nat) (α : Type) (a b : Option α), j < 10 → ¬ k = j → (if i3 (k : Int) = i3 (j : Int) then a else b) = b := fun j α a b hj ej => if_neg (fun q => ej ((e j hj).mp q))
    by_cases k0 : k = 0
    · refine Exists.imp (fun v hv => Eq.mp (congrArg (fun z => MC s z v _) (P 0 _ _ _ (by omega) k0).symm) hv) ?_
      exact ⟨_, quiet _⟩
    by_cases k1 : k = 1
    · refine Exists.imp (fun v hv => Eq.mp (congrArg (fun z => MC s z v _) ((N 0 _ _ _ (by omega) k0).trans (P 1 _ _ _ (by omega) k1)).symm) hv) ?_
      exact ⟨_, quiet _⟩
    by_cases k2 : k = 2
    · refine Exists.imp (fun v hv => Eq.mp (congrArg (fun z => MC s z v _) (((N 0 _ _ _ (by omega) k0).trans (N 1 _ _ _ (by omega) k1)).trans (P 2 _ _ _ (by omega) k2)).symm) hv) ?_
      obtain ⟨s1, e1, q1, r1, f1⟩ := q_240 h c.1.2.1
      rw [e1, Option.bind_some, (r_f s1).2.1, Option.bind_some]
      exact ⟨_, s1, rfl, q1.q.eM.mi c, q1.q.eC, q1.q.eM.ab c.2.2.2.1.1⟩
    by_cases k3 : k = 3
    · refine Exists.imp (fun v hv => Eq.mp (congrArg (fun z => MC s z v _) ((((N 0 _ _ _ (by omega) k0).trans (N 1 _ _ _ (by omega) k1)).trans (N 2 _ _ _ (by omega) k2)).trans (P 3 _ _ _ (by omega) k3)).symm) hv) ?_
      suffices T (lp (fun (s16 : Int32 × Int32) nx17 ex18 => (gI (H s) 8 44 10).bind fun x20 => if x20 ≤ s16.2 then ex18 s16.1 else (gN (H s) 8 44 11).bind fun o21 => (aI (H s) o21 s16.2).bind fun x22 => jn (fun (v23 : Int32 × Int32) => nx17 ((v23.2 + v23.1), (s16.2 + Int32.ofInt 1))) (fun j24 => if x22 = (Int32.ofInt 4) then j24 ((Int32.ofInt 1), s16.1) else j24 ((Int32.ofInt 0), s16.1))) 4096 ((Int32.ofInt 0), (Int32.ofInt 0)) (fun (x19 : Int32) => some (x19, H s))) (fun r => ∃ w, r = (w, H s)) by
        obtain ⟨_, e, w, rfl⟩ := this
        exact ⟨w, Eq.mp (congrArg (fun z => MC s z w _) e.symm) (quiet w)⟩
      refine lpH (nn (md s 44)) (fun k q => ∃ m, q = (m, i3 (k : Int))) (fun _ => True) ?_ ?_ ?_ ?_ (by omega)
      · rintro k _ hk2 ⟨m, rfl⟩ nx ex hnx hex
        dsimp only
        rw [(r_g s).2.2.1, Option.bind_some, if_neg (h.T hk2).2, (r_g s).2.2.2.2.2.1, Option.bind_some, (r_g s).2.2.2.2.2.2.2.2.2.1, h.at_k (h.T hk2), Option.bind_some, jnE]
        split
        · exact hnx _ ⟨_, by rw [i3_nat_add]⟩
        · exact hnx _ ⟨_, by rw [i3_nat_add]⟩
      · rintro _ ⟨m, rfl⟩ nx ex hex
        dsimp only
        rw [(r_g s).2.2.1, Option.bind_some, if_pos (h.Te (Nat.le_refl _) (by have := h.n_le; omega))]
        exact hex _ trivial
      · intro _ _
        exact T_some ⟨_, rfl⟩
      · exact ⟨_, rfl⟩
    by_cases k4 : k = 4
    · refine Exists.imp (fun v hv => Eq.mp (congrArg (fun z => MC s z v _) (((((N 0 _ _ _ (by omega) k0).trans (N 1 _ _ _ (by omega) k1)).trans (N 2 _ _ _ (by omega) k2)).trans (N 3 _ _ _ (by omega) k3)).trans (P 4 _ _ _ (by omega) k4)).symm) hv) ?_
      rw [q_292 h, Option.bind_some]
      exact ⟨_, quiet _⟩
    by_cases k5 : k = 5
    · refine Exists.imp (fun v hv => Eq.mp (congrArg (fun z => MC s z v _) ((((((N 0 _ _ _ (by omega) k0).trans (N 1 _ _ _ (by omega) k1)).trans (N 2 _ _ _ (by omega) k2)).trans (N 3 _ _ _ (by omega) k3)).trans (N 4 _ _ _ (by omega) k4)).trans (P 5 _ _ _ (by omega) k5)).symm) hv) ?_
      exact ⟨_, quiet _⟩
    by_cases k6 : k = 6
    · refine Exists.imp (fun v hv => Eq.mp (congrArg (fun z => MC s z v _) (((((((N 0 _ _ _ (by omega) k0).trans (N 1 _ _ _ (by omega) k1)).trans (N 2 _ _ _ (by omega) k2)).trans (N 3 _ _ _ (by omega) k3)).trans (N 4 _ _ _ (by omega) k4)).trans (N 5 _ _ _ (by omega) k5)).trans (P 6 _ _ _ (by omega) k6)).symm) hv) ?_
      exact ⟨_, quiet _⟩
    by_cases k7 : k = 7
    · refine Exists.imp (fun v hv => Eq.mp (congrArg (fun z => MC s z v _) ((((((((N 0 _ _ _ (by omega) k0).trans (N 1 _ _ _ (by omega) k1)).trans (N 2 _ _ _ (by omega) k2)).trans (N 3 _ _ _ (by omega) k3)).trans (N 4 _ _ _ (by omega) k4)).trans (N 5 _ _ _ (by omega) k5)).trans (N 6 _ _ _ (by omega) k6)).trans (P 7 _ _ _ (by omega) k7)).symm) hv) ?_
      exact ⟨_, quiet _⟩
    by_cases k8 : k = 8
    · refine Exists.imp (fun v hv => Eq.mp (congrArg (fun z => MC s z v _) (((((((((N 0 _ _ _ (by omega) k0).trans (N 1 _ _ _ (by omega) k1)).trans (N 2 _ _ _ (by omega) k2)).trans (N 3 _ _ _ (by omega) k3)).trans (N 4 _ _ _ (by omega) k4)).trans (N 5 _ _ _ (by omega) k5)).trans (N 6 _ _ _ (by omega) k6)).trans (N 7 _ _ _ (by omega) k7)).trans (P 8 _ _ _ (by omega) k8)).symm) hv) ?_
      have c8 : (Int8.ofInt 8).toInt32 = i3 ((8 : Nat) : Int) := by decide +kernel
      rw [c8]
      suffices T (lp (fun (s36 : Int32 × Int32) nx37 ex38 => if i3 ((8 : Nat) : Int) ≤ s36.2 then ex38 s36.1 else (gN (H s) 8 44 0).bind fun o40 => (aI (H s) o40 s36.2).bind fun x41 => jn (fun (v42 : Int32 × Int32) => nx37 ((v42.2 + v42.1), (s36.2 + Int32.ofInt 1))) (fun j43 => if x41 = 0 then j43 ((Int32.ofInt 0), s36.1) else j43 ((Int32.ofInt 1), s36.1))) 4096 ((Int32.ofInt 0), (Int32.ofInt 0)) (fun (x39 : Int32) => some (x39, H s))) (fun r => ∃ w, r = (w, H s)) by
        obtain ⟨_, e, w, rfl⟩ := this
        exact ⟨w, Eq.mp (congrArg (fun z => MC s z w _) e.symm) (quiet w)⟩
      refine lpH 8 (fun k q => ∃ m, q = (m, i3 (k : Int))) (fun _ => True) ?_ ?_ ?_ ?_ (by omega)
      · rintro k _ hk2 ⟨m, rfl⟩ nx ex hnx hex
        dsimp only
        rw [if_neg (nle hk2 (by omega)), (n_0 s).1, Option.bind_some, (a_m s).1, at_lg (by omega) (by omega), Option.bind_some, jnE]
        split
        · exact hnx _ ⟨_, by rw [i3_nat_add]⟩
        · exact hnx _ ⟨_, by rw [i3_nat_add]⟩
      · rintro _ ⟨m, rfl⟩ nx ex hex
        dsimp only
        rw [if_pos (Int32.le_refl _)]
        exact hex _ trivial
      · intro _ _
        exact T_some ⟨_, rfl⟩
      · exact ⟨_, rfl⟩
    have k9 : k = 9 := by omega
    refine Exists.imp (fun v hv => Eq.mp (congrArg (fun z => MC s z v _) ((((((((((N 0 _ _ _ (by omega) k0).trans (N 1 _ _ _ (by omega) k1)).trans (N 2 _ _ _ (by omega) k2)).trans (N 3 _ _ _ (by omega) k3)).trans (N 4 _ _ _ (by omega) k4)).trans (N 5 _ _ _ (by omega) k5)).trans (N 6 _ _ _ (by omega) k6)).trans (N 7 _ _ _ (by omega) k7)).trans (N 8 _ _ _ (by omega) k8)).trans (P 9 _ _ _ (by omega) k9)).symm) hv) ?_
    obtain ⟨s1, e1, f1⟩ := q_243 h c.1.2.1
    rw [e1, Option.bind_some]
    exact ⟨_, (f1.ans).mc c⟩
end MS3
end
section
/-! ===== the reference's tape, token by token ===== -/
noncomputable def numM (b : List Int32) (t : Tk) : Int32 := if t.1 = i3 2 then if t.2.2 - t.2.1 ≤ 2 then val b t.2.1 t.2.2 else i3 1000 else i3 0
noncomputable def tpM (s : St) (b : List Int32) (n : Nat) : Prop := ia s 59 = b ∧ b.length = 250 ∧ fi s 44 7 = i3 (n : Int) ∧ n ≤ 250
noncomputable def tkM (s : St) (b : List Int32) (t : Tk) : Prop := fi s 44 20 = t.1 ∧ fi s 44 21 = i3 (t.2.1 : Int) ∧ fi s 44 19 = i3 (t.2.2 : Int) ∧ fi s 44 22 = numM b t
/-- only the token's fields -/
noncomputable def eU (s s' : St) : Prop := s'.1 = s.1 ∧ s'.2.1 = s.2.1 ∧ (∀ o k, ¬ (o = 44 ∧ 19 ≤ k ∧ k ≤ 22) → fi s' o k = fi s o k) ∧ s'.2.2.2 = s.2.2.2
/-- the reference reads: its own garden, and what is scratched -/
noncomputable def uu (s s' : St) : Prop := (∀ p, p ≠ 65 → (p < 61 ∨ 64 < p) → ia s' p = ia s p) ∧ (∀ p, la s' p = la s p) ∧ (∀ o k, ¬ (o = 44 ∧ ((19 ≤ k ∧ k ≤ 23) ∨ k = 9 ∨ k = 10 ∨ k = 14 ∨ k = 16)) → fi s' o k = fi s o k) ∧ s'.2.2.2 = s.2.2.2 ∧ (∀ p, (ia s' p).length = (ia s p).length)
/-- and the number of statements -/
noncomputable def uv (s s' : St) : Prop := (∀ p, p ≠ 65 → (p < 61 ∨ 64 < p) → ia s' p = ia s p) ∧ (∀ p, la s' p = la s p) ∧ (∀ o k, ¬ (o = 44 ∧ (19 ≤ k ∨ k = 9 ∨ k = 10 ∨ k = 14 ∨ k = 16)) → fi s' o k = fi s o k) ∧ s'.2.2.2 = s.2.2.2 ∧ (∀ p, (ia s' p).length = (ia s p).length)
theorem uu.refl (s : St) : uu s s := ⟨fun _ _ _ => rfl, fun _ => rfl, fun _ _ _ => rfl, rfl, fun _ => rfl⟩
theorem uu.trans {s s' s2 : St} (h : uu s s') (k : uu s' s2) : uu s s2 := ⟨fun p h1 h2 => (k.1 p h1 h2).trans (h.1 p h1 h2), fun p => (k.2.1 p).trans (h.2.1 p), fun o q hq => (k.2.2.1 o q hq).trans (h.2.2.1 o q hq), k.2.2.2.1.trans h.2.2.2.1, fun p => (k.2.2.2.2 p).trans (h.2.2.2.2 p)⟩
theorem uu.v {s s' : St} (h : uu s s') : uv s s' := ⟨h.1, h.2.1, fun o k hk => h.2.2.1 o k (by omega), h.2.2.2⟩
theorem uv.trans {s s' s2 : St} (h : uv s s') (k : uv s' s2) : uv s s2 := ⟨fun p h1 h2 => (k.1 p h1 h2).trans (h.1 p h1 h2), fun p => (k.2.1 p).trans (h.2.1 p), fun o q hq => (k.2.2.1 o q hq).trans (h.2.2.1 o q hq), k.2.2.2.1.trans h.2.2.2.1, fun p => (k.2.2.2.2 p).trans (h.2.2.2.2 p)⟩
theorem uv.f {s s' : St} {k : Nat} {x : Int32} (hk : 19 ≤ k) (h : uv s s') : uv s (sf s' 44 k x) := h.trans ⟨fun _ _ _ => rfl, fun _ => rfl, fun o q hq => by rw [fi_sf, if_neg (by omega)], rfl, fun _ => rfl⟩
theorem uv.eC {s s' : St} (h : uv s s') : eC s s' := ⟨fun p hp _ => h.1 p (by omega) (by omega), fun p _ => h.2.1 p, fun o k ho _ => h.2.2.1 o k (by omega), fun p _ => h.2.2.2.2 p, fun p _ => by rw [h.2.1]⟩
theorem eU.u {s s' : St} (h : eU s s') : uu s s' := by
  have a : ∀ p, ia s' p = ia s p := fun p => congrFun h.1 p
  have l : ∀ p, la s' p = la s p := fun p => congrFun h.2.1 p
  exact ⟨fun p _ _ => a p, l, fun o k hk => h.2.2.1 o k (by omega), h.2.2.2, fun p => by rw [a]⟩
theorem uu.f {s s' : St} {k : Nat} {x : Int32} (hk : 19 ≤ k ∧ k ≤ 23) (h : uu s s') : uu s (sf s' 44 k x) := h.trans ⟨fun _ _ _ => rfl, fun _ => rfl, fun o q hq => by rw [fi_sf, if_neg (by omega)], rfl, fun _ => rfl⟩
theorem uu.d {s s' : St} {l : List Int32} (hl : l.length = (ia s' 65).length) (h : uu s s') : uu s (sa s' 65 l) := h.trans ⟨fun p hp _ => by rw [ia_sa, if_neg hp], fun _ => rfl, fun _ _ _ => rfl, rfl, fun p => by
  rw [ia_sa]
  split
  · rename_i e; rw [e]; exact hl
  · rfl⟩
theorem uu.w {s s' : St} {g : Gd} (h1 : sh g) (h2 : sh (md s' 44)) (h : uu s s') : uu s (wM s' 44 g) := h.trans (by
  obtain ⟨a1, a2, a3, a4⟩ := h1
  obtain ⟨b1, b2, b3, b4⟩ := h2
  have e1 : (ia s' 61).length = 12 := b1
  have e2 : (ia s' 62).length = 12 := b2
  have e3 : (ia s' 63).length = 12 := b3
  have e4 : (ia s' 64).length = 8 := b4
  refine ⟨fun p _ hp => ?_, fun _ => rfl, fun o k hk => ?_, rfl, fun p => ?_⟩
  · rw [ia_wM, if_neg (by omega), if_neg (by omega), if_neg (by omega), if_neg (by omega)]
  · rw [fi_wM, if_neg (by omega), if_neg (by omega), if_neg (by omega), if_neg (by omega)]
  · rw [ia_wM]
    split
    · rename_i e; rw [e, a1, e1]
    split
    · rename_i _ e; rw [e, a2, e2]
    split
    · rename_i _ _ e; rw [e, a3, e3]
    split
    · rename_i _ _ _ e; rw [e, a4, e4]
    rfl)
theorem clsL (x : Int32) : (¬ x < i3 97 ∧ ¬ i3 122 < x) ↔ cls x = i3 1 := by
  unfold cls cDg cOt
  by_cases c1 : x < i3 97
  · rw [if_pos c1]
    refine ⟨fun e => absurd c1 e.1, fun e => ?_⟩
    exfalso
    revert e
    (repeat' split) <;> (intro e; exact absurd e (by decide +kernel))
  · rw [if_neg c1]
    by_cases c2 : i3 122 < x
    · rw [if_pos c2]
      refine ⟨fun e => absurd c2 e.2, fun e => ?_⟩
      exfalso
      revert e
      (repeat' split) <;> (intro e; exact absurd e (by decide +kernel))
    · rw [if_neg c2]
      exact ⟨fun _ => rfl, fun _ => ⟨c1, c2⟩⟩
theorem clsD (x : Int32) : (¬ x < i3 48 ∧ ¬ i3 57 < x) ↔ cls x = i3 2 := by
  have lt : ¬ i3 57 < x → x < i3 97 := fun e => by
    rw [Int32.lt_iff_toInt_lt, i3_toInt ⟨by omega, by omega⟩] at *
    omega
  unfold cls cDg cOt
  by_cases c1 : x < i3 48
  · refine ⟨fun e => absurd c1 e.1, fun e => ?_⟩
    exfalso
    revert e
    rw [if_pos c1]
    (repeat' split) <;> (intro e; exact absurd e (by decide +kernel))
  · by_cases c2 : i3 57 < x
    · refine ⟨fun e => absurd c2 e.2, fun e => ?_⟩
      exfalso
      revert e
      rw [if_neg c1, if_pos c2]
      (repeat' split) <;> (intro e; exact absurd e (by decide +kernel))
    · refine ⟨fun _ => ?_, fun _ => ⟨c1, c2⟩⟩
      rw [if_pos (lt c2), if_neg c1, if_neg c2]
theorem q_222 (x : Int32) (th : tH) : m_222 x th = some (bP (cls x = i3 1)) := by
  have c97 : (Int8.ofInt 97).toInt32 = i3 97 := by decide +kernel
  have c122 : (Int8.ofInt 122).toInt32 = i3 122 := by decide +kernel
  have e := clsL x
  unfold m_222 jn
  dsimp only
  rw [c97, c122]
  by_cases c1 : x < i3 97
  · rw [if_pos c1, bP_f (fun k => (e.mpr k).1 c1)]; rfl
  rw [if_neg c1]
  by_cases c2 : i3 122 < x
  · rw [if_pos c2, bP_f (fun k => (e.mpr k).2 c2)]; rfl
  · rw [if_neg c2, bP_t (e.mp ⟨c1, c2⟩)]; rfl
theorem q_223 (x : Int32) (th : tH) : m_223 x th = some (bP (cls x = i3 2)) := by
  have c48 : (Int8.ofInt 48).toInt32 = i3 48 := by decide +kernel
  have c57 : (Int8.ofInt 57).toInt32 = i3 57 := by decide +kernel
  have e := clsD x
  unfold m_223 jn
  dsimp only
  rw [c48, c57]
  by_cases c1 : x < i3 48
  · rw [if_pos c1, bP_f (fun k => (e.mpr k).1 c1)]; rfl
  rw [if_neg c1]
  by_cases c2 : i3 57 < x
  · rw [if_pos c2, bP_f (fun k => (e.mpr k).2 c2)]; rfl
  · rw [if_neg c2, bP_t (e.mp ⟨c1, c2⟩)]; rfl
theorem cls_o {x : Int32} (h1 : ¬ cls x = i3 1) (h2 : ¬ cls x = i3 2) : cls x = if x = i3 59 then i3 3 else i3 4 := by
  have e1 := clsL x
  have e2 := clsD x
  unfold cls cDg cOt at *
  by_cases c1 : x < i3 97
  · rw [if_pos c1] at h2 ⊢
    by_cases c3 : x < i3 48
    · rw [if_pos c3]
    · rw [if_neg c3] at h2 ⊢
      by_cases c4 : i3 57 < x
      · rw [if_pos c4]
      · rw [if_neg c4] at h2
        exact absurd rfl h2
  · rw [if_neg c1] at h1 h2 ⊢
    by_cases c2 : i3 122 < x
    · rw [if_pos c2] at h2 ⊢
      by_cases c3 : x < i3 48
      · rw [if_pos c3]
      · rw [if_neg c3] at h2 ⊢
        by_cases c4 : i3 57 < x
        · rw [if_pos c4]
        · rw [if_neg c4] at h2
          exact absurd rfl h2
    · rw [if_neg c2] at h1
      exact absurd rfl h1
theorem run_s {b : List Int32} {n k : Nat} {t : Int32} (hk : k < n) (ht : cls (bt b k) = t) : run b n t k = run b n t (k + 1) := by
  unfold run
  obtain ⟨m, hm⟩ : ∃ m, n - k = m + 1 := ⟨n - k - 1, by omega⟩
  rw [hm, show n - (k + 1) = m by omega]
  conv => lhs; unfold fst?
  rw [if_neg (by simp [ht])]
theorem run_bd {b : List Int32} {n k : Nat} {t : Int32} (hk : k ≤ n) : k ≤ run b n t k ∧ run b n t k ≤ n := gD_bd (p := fun j => decide (¬ cls (bt b j) = t)) hk
/-- figures so far -/
noncomputable def fig (b : List Int32) (k j : Nat) : Int32 := if j - k ≤ 2 then val b k j else i3 1000
theorem val_s {b : List Int32} {k j : Nat} (h : k ≤ j) : val b k (j + 1) = vaF b j (val b k j) := by
  unfold val fB
  rw [show j + 1 - k = (j - k) + 1 by omega]
  show vaF b (k + (j - k)) (itr (fun i => vaF b (k + i)) (j - k) (i3 0)) = _
  rw [show k + (j - k) = j by omega]
section MTA
variable {s : St} {b : List Int32} {n : Nat}
theorem tpM.at (h : tpM s b n) {i : Nat} (hi : i < n) : at32 (ia s 59) (i3 (i : Int)) = some (bt b i) := by
  obtain ⟨h1, h2, h3, h4⟩ := h
  rw [h1, at32_nat (by omega), List.getElem?_eq_getElem (by omega)]
  unfold bt
  rw [List.getD_eq_getElem?_getD, List.getElem?_eq_getElem (by omega)]
  rfl
theorem g_t (s : St) : gI (H s) 8 44 7 = some (fi s 44 7) ∧ gI (H s) 8 44 19 = some (fi s 44 19) ∧ gI (H s) 8 44 20 = some (fi s 44 20) ∧ gI (H s) 8 44 21 = some (fi s 44 21) ∧ gI (H s) 8 44 22 = some (fi s 44 22) ∧ gN (H s) 8 44 6 = some 59 ∧ (∀ i, aI (H s) 59 i = at32 (ia s 59) i) := ⟨rfl, rfl, rfl, rfl, rfl, rfl, fun _ => aI_of rfl⟩
theorem p_t (s : St) : (∀ x, pI (H s) 8 44 19 x = some (H (sf s 44 19 x))) ∧ (∀ x, pI (H s) 8 44 20 x = some (H (sf s 44 20 x))) ∧ (∀ x, pI (H s) 8 44 21 x = some (H (sf s 44 21 x))) ∧ (∀ x, pI (H s) 8 44 22 x = some (H (sf s 44 22 x))) := ⟨fun _ => rfl, fun _ => rfl, fun _ => rfl, fun _ => rfl⟩
theorem lpm_skp (h : tpM s b n) {e : Nat} (he : e ≤ n) {R : Type} (K : tH → Option R) : lp (fun (s1 : tH) nx2 ex3 => (gI s1 8 44 19).bind fun x73 => (gI s1 8 44 7).bind fun x74 => if x74 ≤ x73 then ex3 s1 else (gN s1 8 44 6).bind fun o75 => (gI s1 8 44 19).bind fun x76 => (aI s1 o75 x76).bind fun x77 => if x77 = (Int8.ofInt 32).toInt32 then (gI s1 8 44 19).bind fun x78 => (pI s1 8 44 19 (x78 + (Int32.ofInt 1))).bind fun th79 => nx2 th79 else ex3 s1) 4096 (H (sf s 44 19 (i3 (e : Int)))) K = K (H (sf s 44 19 (i3 (skp b n e : Int)))) := by
  have hn := h.2.2.2
  have c32 : (Int8.ofInt 32).toInt32 = i3 32 := by decide +kernel
  refine lpW e n he (by omega) (fun k => H (sf s 44 19 (i3 (k : Int)))) (fun k => H (sf s 44 19 (i3 (k : Int)))) (fun i => decide (¬ bt b i = i3 32)) ?_ ?_
  · intro k nx ex h1 h2
    have f4 : fi (sf s 44 19 (i3 (k : Int))) 44 19 = i3 (k : Int) := rfl
    have f1 : fi (sf s 44 19 (i3 (k : Int))) 44 7 = i3 (n : Int) := h.2.2.1
    have fa : at32 (ia (sf s 44 19 (i3 (k : Int))) 59) (i3 (k : Int)) = some (bt b k) := h.at h2
    simp only [g_t, p_t, Option.bind_some, f4, f1, fa, if_neg (nle h2 (show n ≤ 1000 by omega)), sf_sf, i3_nat_add, c32, decide_eq_true_eq]
    by_cases c : bt b k = i3 32
    · rw [if_pos c, if_neg (fun e => e c)]
    · rw [if_neg c, if_pos c]
  · intro nx ex
    have f4 : fi (sf s 44 19 (i3 (n : Int))) 44 19 = i3 (n : Int) := rfl
    have f1 : fi (sf s 44 19 (i3 (n : Int))) 44 7 = i3 (n : Int) := h.2.2.1
    simp only [g_t, Option.bind_some, f4, f1, if_pos (Int32.le_refl (i3 (n : Int)))]
theorem lpm_let (h : tpM s b n) {e : Nat} (he : e ≤ n) {R : Type} (K : tH → Option R) : lp (fun (s56 : tH) nx57 ex58 => (gI s56 8 44 19).bind fun x60 => (gI s56 8 44 7).bind fun x61 => if x61 ≤ x60 then ex58 s56 else (gN s56 8 44 6).bind fun o62 => (gI s56 8 44 19).bind fun x63 => (aI s56 o62 x63).bind fun x64 => (m_222 x64 s56).bind fun x65 => if x65 = 0 then ex58 s56 else (gI s56 8 44 19).bind fun x66 => (pI s56 8 44 19 (x66 + (Int32.ofInt 1))).bind fun th67 => nx57 th67) 4096 (H (sf s 44 19 (i3 (e : Int)))) K = K (H (sf s 44 19 (i3 (run b n (i3 1) e : Int)))) := by
  have hn := h.2.2.2
  refine lpW e n he (by omega) (fun k => H (sf s 44 19 (i3 (k : Int)))) (fun k => H (sf s 44 19 (i3 (k : Int)))) (fun j => decide (¬ cls (bt b j) = i3 1)) ?_ ?_
  · intro k nx ex h1 h2
    have f4 : fi (sf s 44 19 (i3 (k : Int))) 44 19 = i3 (k : Int) := rfl
    have f1 : fi (sf s 44 19 (i3 (k : Int))) 44 7 = i3 (n : Int) := h.2.2.1
    have fa : at32 (ia (sf s 44 19 (i3 (k : Int))) 59) (i3 (k : Int)) = some (bt b k) := h.at h2
    simp only [g_t, p_t, Option.bind_some, f4, f1, fa, if_neg (nle h2 (show n ≤ 1000 by omega)), sf_sf, i3_nat_add, q_222, bP_if, decide_eq_true_eq]
    by_cases c : cls (bt b k) = i3 1
    · rw [if_pos c, if_neg (fun e => e c)]
    · rw [if_neg c, if_pos c]
  · intro nx ex
    have f4 : fi (sf s 44 19 (i3 (n : Int))) 44 19 = i3 (n : Int) := rfl
    have f1 : fi (sf s 44 19 (i3 (n : Int))) 44 7 = i3 (n : Int) := h.2.2.1
    simp only [g_t, Option.bind_some, f4, f1, if_pos (Int32.le_refl (i3 (n : Int)))]
theorem lpm_fig (h : tpM s b n) {e : Nat} (he : e ≤ n) (h21 : fi s 44 21 = i3 (e : Int)) {R : Type} (K : tH → Option R) : lp (fun (s30 : tH) nx31 ex32 => (gI s30 8 44 19).bind fun x34 => (gI s30 8 44 7).bind fun x35 => if x35 ≤ x34 then ex32 s30 else (gN s30 8 44 6).bind fun o36 => (gI s30 8 44 19).bind fun x37 => (aI s30 o36 x37).bind fun x38 => (m_223 x38 s30).bind fun x39 => if x39 = 0 then ex32 s30 else (gI s30 8 44 19).bind fun x40 => (gI s30 8 44 21).bind fun x41 => jn (fun (v42 : Int32 × Nat) => (pI s30 8 v42.2 22 v42.1).bind fun th44 => (gI th44 8 44 19).bind fun x45 => (pI th44 8 44 19 (x45 + (Int32.ofInt 1))).bind fun th46 => nx31 th46) (fun j43 => if (Int32.ofInt 2) ≤ (x40 - x41) then j43 ((Int16.ofInt 1000).toInt32, 44) else (gI s30 8 44 22).bind fun x47 => (gN s30 8 44 6).bind fun o48 => (gI s30 8 44 19).bind fun x49 => (aI s30 o48 x49).bind fun x50 => j43 ((((x47 * (Int8.ofInt 10).toInt32) + x50) - (Int8.ofInt 48).toInt32), 44))) 4096 (H (sf (sf s 44 22 (i3 0)) 44 19 (i3 (e : Int)))) K = K (H (sf (sf s 44 22 (fig b e (run b n (i3 2) e))) 44 19 (i3 (run b n (i3 2) e : Int)))) := by
  have hn := h.2.2.2
  have c1000 : (Int16.ofInt 1000).toInt32 = i3 1000 := by decide +kernel
  have c10 : (Int8.ofInt 10).toInt32 = i3 10 := by decide +kernel
  have c48 : (Int8.ofInt 48).toInt32 = i3 48 := by decide +kernel
  have e0 : fig b e e = i3 0 := by
    unfold fig
    rw [if_pos (by omega)]
    unfold val fB
    rw [Nat.sub_self]
    rfl
  rw [← e0]
  refine lpW e n he (by omega) (fun k => H (sf (sf s 44 22 (fig b e k)) 44 19 (i3 (k : Int)))) (fun k => H (sf (sf s 44 22 (fig b e k)) 44 19 (i3 (k : Int)))) (fun j => decide (¬ cls (bt b j) = i3 2)) ?_ ?_
  · intro k nx ex h1 h2
    generalize hS : sf (sf s 44 22 (fig b e k)) 44 19 (i3 (k : Int)) = S
    have f19 : fi S 44 19 = i3 (k : Int) := by rw [← hS]; rfl
    have f7 : fi S 44 7 = i3 (n : Int) := by rw [← hS]; exact h.2.2.1
    have f21 : fi S 44 21 = i3 (e : Int) := by rw [← hS]; exact h21
    have f22 : fi S 44 22 = fig b e k := by rw [← hS]; rfl
    have fa : at32 (ia S 59) (i3 (k : Int)) = some (bt b k) := by rw [← hS]; exact h.at h2
    have en : ∀ x, sf (sf S 44 22 x) 44 19 (i3 ((k + 1 : Nat) : Int)) = sf (sf s 44 22 x) 44 19 (i3 ((k + 1 : Nat) : Int)) := fun x => by
      rw [← hS]
      refine St_ext (fun q => rfl) rfl (fun o j => ?_) rfl
      simp only [fi_sf]
      (repeat' split) <;> first | rfl | omega
    have go : ∀ x, x = fig b e (k + 1) → ((pI (H S) 8 44 22 x).bind fun th44 => (gI th44 8 44 19).bind fun x45 => (pI th44 8 44 19 (x45 + (Int32.ofInt 1))).bind fun th46 => nx th46) = nx (H (sf (sf s 44 22 (fig b e (k + 1))) 44 19 (i3 ((k + 1 : Nat) : Int)))) := fun x hx => by
      have f19' : fi (sf S 44 22 x) 44 19 = i3 (k : Int) := by rw [← f19]; rfl
      rw [(p_t S).2.2.2, Option.bind_some, (g_t _).2.1, Option.bind_some, f19', (p_t _).1, Option.bind_some, i3_nat_add, en, hx]
    rw [(g_t S).2.1, Option.bind_some, (g_t S).1, Option.bind_some, f19, f7, if_neg (nle h2 (show n ≤ 1000 by omega)), (g_t S).2.2.2.2.2.1, Option.bind_some, Option.bind_some, (g_t S).2.2.2.2.2.2, fa, Option.bind_some, q_223, Option.bind_some, bP_if]
    simp only [decide_eq_true_eq]
    by_cases c : cls (bt b k) = i3 2
    · rw [if_pos c, if_neg (fun e => e c), Option.bind_some, (g_t S).2.2.2.1, Option.bind_some, f21, jnE]
      have e1 : i3 (k : Int) - i3 (e : Int) = i3 ((k - e : Nat) : Int) := by rw [i3_sub]; congr 1; omega
      rw [e1]
      have e2 : (Int32.ofInt 2 ≤ i3 ((k - e : Nat) : Int)) ↔ 2 ≤ k - e := i3n_le (a := 2) (by omega) (by omega)
      by_cases d : 2 ≤ k - e
      · rw [if_pos (e2.mpr d)]
        dsimp only
        exact go _ (by rw [c1000]; unfold fig; rw [if_neg (by omega)])
      · rw [if_neg (fun q => d (e2.mp q)), (g_t S).2.2.2.2.1, Option.bind_some, Option.bind_some, Option.bind_some, (g_t S).2.2.2.2.2.2, fa, Option.bind_some, f22]
        dsimp only
        refine go _ ?_
        unfold fig
        rw [if_pos (by omega), if_pos (by omega), val_s h1, c10, c48]
        unfold vaF
        rw [Int32.mul_comm]
    · rw [if_neg c, if_pos c]
  · intro nx ex
    generalize hS : sf (sf s 44 22 (fig b e n)) 44 19 (i3 (n : Int)) = S
    have f19 : fi S 44 19 = i3 (n : Int) := by rw [← hS]; rfl
    have f7 : fi S 44 7 = i3 (n : Int) := by rw [← hS]; exact h.2.2.1
    rw [(g_t S).2.1, Option.bind_some, (g_t S).1, Option.bind_some, f19, f7, if_pos (Int32.le_refl (i3 (n : Int)))]
theorem q_224 (h : tpM s b n) {e : Nat} (he : e ≤ n) (h5 : fi s 44 19 = i3 (e : Int)) : ∃ s', m_224 44 (H s) = some (H s') ∧ tkM s' b (adv b n e) ∧ eU s s' := by
  have hn := h.2.2.2
  have sk : e ≤ skp b n e ∧ skp b n e ≤ n := gD_bd (p := fun i => decide (¬ bt b i = i3 32)) he
  have e0 : sf s 44 19 (i3 (e : Int)) = s := by rw [← h5]; exact sf_id s 44 19
  have L := lpm_skp (R := tH) h he
  rw [e0] at L
  have ad : adv b n e = (typ b n (skp b n e), skp b n e, if typ b n (skp b n e) = i3 0 then skp b n e else if typ b n (skp b n e) = i3 1 then run b n (i3 1) (skp b n e + 1) else if typ b n (skp b n e) = i3 2 then run b n (i3 2) (skp b n e + 1) else skp b n e + 1) := rfl
  unfold m_224
  rw [(r_m s).1, Option.bind_some, L, ad]
  generalize skp b n e = k at sk
  rw [(g_t _).2.1, Option.bind_some, show fi (sf s 44 19 (i3 (k : Int))) 44 19 = i3 (k : Int) from rfl, (p_t _).2.2.1, Option.bind_some, (p_t _).2.2.2, Option.bind_some]
  generalize hS : sf (sf (sf s 44 19 (i3 (k : Int))) 44 21 (i3 (k : Int))) 44 22 (Int32.ofInt 0) = S
  have f19 : fi S 44 19 = i3 (k : Int) := by rw [← hS]; rfl
  have f7 : fi S 44 7 = i3 (n : Int) := by rw [← hS]; exact h.2.2.1
  have f21 : fi S 44 21 = i3 (k : Int) := by rw [← hS]; rfl
  have f22 : fi S 44 22 = i3 0 := by rw [← hS]; rfl
  have hT : tpM S b n := by rw [← hS]; exact h
  have U : eU s S := by
    rw [← hS]
    exact ⟨rfl, rfl, fun o q hq => by rw [fi_sf, if_neg (by omega), fi_sf, if_neg (by omega), fi_sf, if_neg (by omega)], rfl⟩
  have U1 : ∀ (t : St) (q : Nat) (x : Int32), eU s t → (q = 19 ∨ q = 20 ∨ q = 22) → eU s (sf t 44 q x) := fun t q x ht hq => ⟨ht.1, ht.2.1, fun o j hj => by rw [fi_sf, if_neg (by omega)]; exact ht.2.2.1 o j hj, ht.2.2.2⟩
  rw [(g_t S).2.1, Option.bind_some, (g_t S).1, Option.bind_some, f19, f7, jnE]
  have ek : (i3 (k : Int) = i3 (n : Int)) ↔ k = n := i3n_inj (by omega) (by omega)
  by_cases c0 : k = n
  · have t0 : typ b n k = i3 0 := if_neg (by omega)
    rw [if_pos (ek.mpr c0), (p_t S).2.1, Option.bind_some, t0, if_pos rfl]
    refine ⟨_, rfl, ⟨rfl, ?_, ?_, ?_⟩, U1 _ 20 _ U (by omega)⟩
    · exact f21
    · exact f19
    · exact f22
  · have kn : k < n := by omega
    have t0 : typ b n k = cls (bt b k) := if_pos kn
    have fa : at32 (ia S 59) (i3 (k : Int)) = some (bt b k) := hT.at kn
    rw [if_neg (fun q => c0 (ek.mp q)), (g_t S).2.2.2.2.2.1, Option.bind_some, Option.bind_some, (g_t S).2.2.2.2.2.2, fa, Option.bind_some, q_222, Option.bind_some, bP_if, t0]
    by_cases c1 : cls (bt b k) = i3 1
    · have n0 : ¬ cls (bt b k) = i3 0 := by rw [c1]; decide +kernel
      rw [if_pos c1, if_neg n0, if_pos c1, (p_t S).2.1, Option.bind_some]
      have hT2 : tpM (sf S 44 20 (Int32.ofInt 1)) b n := hT
      have L2 := lpm_let (R := tH) hT2 (e := k) (by omega)
      have e1 : sf (sf S 44 20 (Int32.ofInt 1)) 44 19 (i3 (k : Int)) = sf S 44 20 (Int32.ofInt 1) := by
        have := sf_id (sf S 44 20 (Int32.ofInt 1)) 44 19
        rw [show fi (sf S 44 20 (Int32.ofInt 1)) 44 19 = i3 (k : Int) from f19] at this
        exact this
      rw [e1] at L2
      rw [L2, ← run_s kn c1]
      refine ⟨_, rfl, ⟨?_, ?_, rfl, ?_⟩, U1 _ 19 _ (U1 _ 20 _ U (by omega)) (by omega)⟩
      · exact c1.symm
      · exact f21
      · show fi S 44 22 = numM b _
        rw [f22]
        unfold numM
        rw [if_neg (by show ¬ cls (bt b k) = i3 2; rw [c1]; decide +kernel)]
    · rw [if_neg c1, if_neg c1, Option.bind_some, Option.bind_some, (g_t S).2.2.2.2.2.2, fa, Option.bind_some, q_223, Option.bind_some, bP_if]
      by_cases c2 : cls (bt b k) = i3 2
      · have n0 : ¬ cls (bt b k) = i3 0 := by rw [c2]; decide +kernel
        rw [if_pos c2, if_neg n0, if_pos c2, (p_t S).2.1, Option.bind_some]
        have hT2 : tpM (sf S 44 20 (Int32.ofInt 2)) b n := hT
        have L2 := lpm_fig (R := tH) hT2 (e := k) (by omega) f21
        have e1 : sf (sf (sf S 44 20 (Int32.ofInt 2)) 44 22 (i3 0)) 44 19 (i3 (k : Int)) = sf S 44 20 (Int32.ofInt 2) := by
          have g1 := sf_id (sf S 44 20 (Int32.ofInt 2)) 44 22
          rw [show fi (sf S 44 20 (Int32.ofInt 2)) 44 22 = i3 0 from f22] at g1
          rw [g1]
          have g2 := sf_id (sf S 44 20 (Int32.ofInt 2)) 44 19
          rw [show fi (sf S 44 20 (Int32.ofInt 2)) 44 19 = i3 (k : Int) from f19] at g2
          exact g2
        rw [e1] at L2
        rw [L2, ← run_s kn c2]
        refine ⟨_, rfl, ⟨?_, ?_, rfl, ?_⟩, U1 _ 19 _ (U1 _ 22 _ (U1 _ 20 _ U (by omega)) (by omega)) (by omega)⟩
        · exact c2.symm
        · exact f21
        · show fig b k (run b n (i3 2) k) = numM b (cls (bt b k), k, run b n (i3 2) k)
          unfold numM fig
          rw [if_pos c2]
      · have co := cls_o c1 c2
        have c59 : (Int8.ofInt 59).toInt32 = i3 59 := by decide +kernel
        have n0 : ¬ cls (bt b k) = i3 0 := by
          rw [co]
          split <;> decide +kernel
        rw [if_neg c2, if_neg n0, if_neg c2, Option.bind_some, Option.bind_some, (g_t S).2.2.2.2.2.2, fa, Option.bind_some, jnE, c59]
        have fin : ∀ x, x = cls (bt b k) → ∃ s', ((pI (H S) 8 44 20 x).bind fun th25 => (gI th25 8 44 19).bind fun x26 => (pI th25 8 44 19 (x26 + (Int32.ofInt 1))).bind fun th27 => some th27) = some (H s') ∧ tkM s' b (cls (bt b k), k, k + 1) ∧ eU s s' := fun x hx => by
          have f19' : fi (sf S 44 20 x) 44 19 = i3 (k : Int) := f19
          rw [(p_t S).2.1, Option.bind_some, (g_t _).2.1, Option.bind_some, f19', (p_t _).1, Option.bind_some, i3_nat_add]
          refine ⟨_, rfl, ⟨hx, f21, rfl, ?_⟩, U1 _ 19 _ (U1 _ 20 _ U (by omega)) (by omega)⟩
          show fi S 44 22 = numM b _
          rw [f22]
          unfold numM
          rw [if_neg c2]
        by_cases c3 : bt b k = i3 59
        · rw [if_pos c3]
          rw [if_pos c3] at co
          exact fin _ co.symm
        · rw [if_neg c3]
          rw [if_neg c3] at co
          exact fin _ co.symm
end MTA
end
section
/-! ===== the reference reads statements ===== -/
noncomputable def rst (s : St) (b : List Int32) (n : Nat) (t : Tk) (g : Gd) (d : List Int32) : Prop := tpM s b n ∧ tkM s b t ∧ tkO b n t ∧ md s 44 = g ∧ ok g ∧ ia s 65 = d ∧ d.length = 3
/-- a test of a token: it was so, and the next token is at hand; or not, and the fault is told -/
noncomputable def NM (s : St) (b : List Int32) (n : Nat) (m : Option (Int32 × tH)) (p : Prop) [Decidable p] (t t' : Tk) (g : Gd) (d' : List Int32) : Prop := ∃ s', m = some (bP p, H s') ∧ uu s s' ∧ (p → rst s' b n t' g d') ∧ (¬ p → fi s' 44 23 = i3 (t.2.1 : Int))
noncomputable def PM (s : St) (b : List Int32) (n : Nat) (m : Option (Int32 × tH)) (r : PR) : Prop := ∃ s', m = some (bB r.1, H s') ∧ uu s s' ∧ (r.1 = true → ∃ d', rst s' b n r.2.2.1 r.2.1 d') ∧ (r.1 = false → fi s' 44 23 = i3 (r.2.2.1.2.1 : Int))
section MRD
variable {s : St} {b : List Int32} {n : Nat} {t : Tk} {g : Gd} {d : List Int32} {w : Int32}
theorem PM.u {s s' : St} {m : Option (Int32 × tH)} {r : PR} (h : PM s' b n m r) (q : uu s s') : PM s b n m r := by
  obtain ⟨s2, e, q2, k⟩ := h
  exact ⟨s2, e, q.trans q2, k⟩
theorem eU.rst {s s' : St} {t' : Tk} (h : rst s b n t g d) (u : eU s s') (k : tkM s' b t') (o : tkO b n t') : rst s' b n t' g d := by
  obtain ⟨h1, h2, h3, h4, h5, h6, h7⟩ := h
  have a : ∀ p, ia s' p = ia s p := fun p => congrFun u.1 p
  refine ⟨⟨by rw [a]; exact h1.1, h1.2.1, by rw [u.2.2.1 44 7 (by omega)]; exact h1.2.2.1, h1.2.2.2⟩, k, o, ?_, h5, by rw [a]; exact h6, h7⟩
  rw [← h4]
  unfold md
  rw [u.2.2.1 44 9 (by omega), u.2.2.1 44 10 (by omega), u.2.2.1 44 14 (by omega), u.2.2.1 44 16 (by omega), a, a, a, a]
theorem rst.look (h : rst s b n t g d) : ∃ s', m_224 44 (H s) = some (H s') ∧ rst s' b n (adv b n t.2.2) g d ∧ uu s s' := by
  obtain ⟨s', e, k, u⟩ := q_224 h.1 h.2.2.1.bd.2.1 h.2.1.2.2.1
  exact ⟨s', e, u.rst h k h.2.2.1.nx, u.u⟩
theorem rst.wg (h : rst s b n t g d) {g' : Gd} (h' : ok g') : rst (wM s 44 g') b n t g' d ∧ uu s (wM s 44 g') := by
  obtain ⟨h1, h2, h3, h4, h5, h6, h7⟩ := h
  exact ⟨⟨h1, h2, h3, md_wM s 44 g', h', h6, h7⟩, (uu.refl s).w h'.sh (by rw [h4]; exact h5.sh)⟩
theorem rst.ok (h : rst s b n t g d) : ok (md s 44) := by rw [h.2.2.2.1]; exact h.2.2.2.2.1
theorem q_225 : m_225 44 (H s) = some (i3 0, H (sf s 44 23 (fi s 44 21))) := rfl
theorem rst.wr (h : rst s b n t g d) : uu s (sf s 44 23 (fi s 44 21)) ∧ fi (sf s 44 23 (fi s 44 21)) 44 23 = i3 (t.2.1 : Int) := ⟨(uu.refl s).f (by omega), h.2.1.2.1⟩
theorem rst.no (h : rst s b n t g d) : PM s b n ((m_225 44 (H s)).bind fun q4 => (rB q4.1).bind fun y5 => some (y5, q4.2)) (false, g, t, w) := ⟨_, rfl, h.wr.1, fun e => (by cases e), fun _ => h.wr.2⟩
theorem g_20 (h : rst s b n t g d) : gI (H s) 8 44 20 = some t.1 ∧ gI (H s) 8 44 22 = some (numM b t) ∧ gI (H s) 8 44 10 = some (tN g) ∧ gI (H s) 8 44 14 = some (wN g) := ⟨by rw [← h.2.1.1]; rfl, by rw [← h.2.1.2.2.2]; rfl, by rw [← h.2.2.2.1]; rfl, by rw [← h.2.2.2.1]; rfl⟩
theorem a_65 (h : rst s b n t g d) {i : Nat} (hi : i < 3) : gN (H s) 8 44 24 = some 65 ∧ aI (H s) 65 (i3 (i : Int)) = some (lg d i) := by
  refine ⟨rfl, ?_⟩
  rw [show aI (H s) 65 (i3 (i : Int)) = at32 (ia s 65) (i3 (i : Int)) from aI_of rfl, h.2.2.2.2.2.1]
  exact at_lg (by rw [h.2.2.2.2.2.2]; exact hi) (by rw [h.2.2.2.2.2.2]; omega)
/-- the number, where it may be one -/
theorem num_eq {l u : Int32} (hl : ¬ l < 0) (hu : u < i3 1000) (h2 : t.1 = i3 2) : (¬ numM b t < l ∧ ¬ u < numM b t) ↔ inN b t l u := by
  unfold inN numM num
  rw [if_pos h2, if_pos h2]
  by_cases c : t.2.2 - t.2.1 ≤ 2
  · rw [if_pos c, if_pos c]
    exact ⟨fun e => ⟨h2, e⟩, fun e => e.2⟩
  · rw [if_neg c, if_neg c]
    refine ⟨fun e => absurd hu e.2, fun e => ?_⟩
    exfalso
    apply e.2.1
    have := m1_lt hl
    exact this
theorem num_M {l u : Int32} (hl : ¬ l < 0) (h : inN b t l u) : numM b t = num b t := by
  obtain ⟨h2, h3, h4⟩ := h
  unfold num at h3
  unfold numM num
  rw [if_pos h2, if_pos h2]
  rw [if_pos h2] at h3
  by_cases c : t.2.2 - t.2.1 ≤ 2
  · rw [if_pos c, if_pos c]
  · rw [if_neg c] at h3
    exact absurd (m1_lt hl) h3
theorem q_227 (h : rst s b n t g d) {i : Nat} (hi : i < 3) {l u : Int32} (hl : ¬ l < 0) (hu : u < i3 1000) : NM s b n (m_227 44 (i3 (i : Int)) l u (H s)) (inN b t l u) t (adv b n t.2.2) g (d.set i (num b t)) := by
  obtain ⟨e20, e22, -⟩ := g_20 h
  unfold m_227
  rw [(r_m s).1, Option.bind_some, e20, Option.bind_some, jnE, e22]
  have no : ¬ inN b t l u → NM s b n ((m_225 44 (H s)).bind fun q4 => (rB q4.1).bind fun y5 => some (y5, q4.2)) (inN b t l u) t (adv b n t.2.2) g (d.set i (num b t)) := fun hn => ⟨_, by rw [q_225, bP_f hn]; rfl, h.wr.1, fun e => absurd e hn, fun _ => h.wr.2⟩
  by_cases c1 : t.1 = i3 2
  · have P := num_eq (b := b) hl hu c1
    rw [if_pos (show t.1 = Int32.ofInt 2 from c1), Option.bind_some, q_190, Option.bind_some, bP_if]
    by_cases c2 : inN b t l u
    · have en := num_M hl c2
      have g24 : gN (H s) 8 44 24 = some 65 := rfl
      have s65 : sI (H s) 65 (i3 (i : Int)) (numM b t) = some (H (sa s 65 (d.set i (num b t)))) := by
        rw [show sI (H s) 65 (i3 (i : Int)) (numM b t) = (st32 (ia s 65) (i3 (i : Int)) (numM b t)).map (fun l => H (sa s 65 l)) from sI_of rfl, h.2.2.2.2.2.1, st32_nat (by rw [h.2.2.2.2.2.2]; exact hi) (by rw [h.2.2.2.2.2.2]; omega), Option.map_some, en]
      have h1 : rst (sa s 65 (d.set i (num b t))) b n t g (d.set i (num b t)) := by
        obtain ⟨h1, h2, h3, h4, h5, h6, h7⟩ := h
        exact ⟨h1, h2, h3, h4, h5, rfl, (List.length_set).trans h7⟩
      obtain ⟨s2, e2, k2, u2⟩ := h1.look
      have u1 : uu s (sa s 65 (d.set i (num b t))) := (uu.refl s).d (by rw [List.length_set, h.2.2.2.2.2.1])
      rw [if_pos (P.mpr c2), g24, Option.bind_some, Option.bind_some, s65, Option.bind_some, e2, Option.bind_some]
      exact ⟨s2, by rw [bP_t c2]; rfl, u1.trans u2, fun _ => k2, fun e => absurd c2 e⟩
    · rw [if_neg (fun e => c2 (P.mp e))]
      exact no c2
  · rw [if_neg (show ¬ t.1 = Int32.ofInt 2 from c1)]
    exact no (fun e => c1 e.1)
theorem NM.rb {m : Option (Int32 × tH)} {p : Prop} [Decidable p] {t t' : Tk} {d' : List Int32} (h : NM s b n m p t t' g d') : NM s b n (m.bind fun q => (rB q.1).bind fun y => some (y, q.2)) p t t' g d' := by
  obtain ⟨s', e, q, k⟩ := h
  rw [e, Option.bind_some]
  dsimp only
  rw [rB_bP]
  exact ⟨s', rfl, q, k⟩
theorem NM.u {s s' : St} {m : Option (Int32 × tH)} {p : Prop} [Decidable p] {t t' : Tk} {d' : List Int32} (h : NM s' b n m p t t' g d') (q : uu s s') : NM s b n m p t t' g d' := by
  obtain ⟨s2, e, q2, k⟩ := h
  exact ⟨s2, e, q.trans q2, k⟩
theorem q_228 (h : rst s b n t g d) {l u : Int32} (hl : ¬ l < 0) (hu : u < i3 1000) : NM s b n (m_228 44 l u (H s)) (inN b (adv b n t.2.2) l u) (adv b n t.2.2) (adv b n (adv b n t.2.2).2.2) g (d.set 0 (num b (adv b n t.2.2))) := by
  obtain ⟨s1, e1, k1, u1⟩ := h.look
  unfold m_228
  rw [(r_m s).1, Option.bind_some, e1, Option.bind_some]
  exact ((q_227 k1 (i := 0) (by omega) hl hu).rb).u u1
theorem tIn_out {x : Int32} (h : ok g) (hx : ¬ isCl g x) : tIn g x = i3 (-1) := by
  unfold tIn
  have : fst? (fun k => decide (cA g (i3 (k : Int)) = x)) (nn g) 0 = none := by
    cases e : fst? (fun k => decide (cA g (i3 (k : Int)) = x)) (nn g) 0 with
    | none => rfl
    | some j =>
      have := fst?_some e
      have h1 := h.2.2.2.2.2.1 _ (h.T (k := j) (by omega))
      rw [of_decide_eq_true this.2.2.1] at h1
      exact absurd h1 hx
  rw [this]
  rfl
theorem cc_m1 (h : ok g) : cc g - i3 1 < i3 1000 := by
  have h1 := h.cc_le
  rw [h.cc_eq, i3_sub, i3_lt ⟨by omega, by omega⟩ ⟨by omega, by omega⟩]
  omega
theorem tN_m1 (h : ok g) : tN g - i3 1 < i3 1000 := by
  have h1 := h.n_le
  rw [h.n_eq, i3_sub, i3_lt ⟨by omega, by omega⟩ ⟨by omega, by omega⟩]
  omega
theorem z0 : ¬ (i3 0) < 0 := by decide +kernel
theorem q_229 (h : rst s b n t g d) {i : Nat} (hi : i < 3) : NM s b n (m_229 44 (i3 (i : Int)) (H s)) (inN b t (i3 0) (cc g - i3 1) ∧ tIn g (num b t) = i3 (-1)) t (adv b n t.2.2) g (d.set i (num b t)) := by
  obtain ⟨e20, e22, -⟩ := g_20 h
  have hg := h.2.2.2.2.1
  have q0 := q_227 h hi (l := i3 0) (u := cc g - i3 1) z0 (cc_m1 hg)
  unfold m_229
  rw [(r_m s).1, Option.bind_some, e20, Option.bind_some, jnE, q_192, Option.bind_some, h.2.2.2.1]
  have go : (inN b t (i3 0) (cc g - i3 1) → tIn g (num b t) = i3 (-1)) → NM s b n ((m_227 44 (i3 (i : Int)) (Int32.ofInt 0) (cc g - Int32.ofInt 1) (H s)).bind fun q5 => (rB q5.1).bind fun y6 => some (y6, q5.2)) (inN b t (i3 0) (cc g - i3 1) ∧ tIn g (num b t) = i3 (-1)) t (adv b n t.2.2) g (d.set i (num b t)) := fun hp => by
    obtain ⟨s1, e1, u1, y1, n1⟩ := q0.rb
    refine ⟨s1, ?_, u1, fun e => y1 e.1, fun e => n1 (fun e2 => e ⟨e2, hp e2⟩)⟩
    refine e1.trans ?_
    rw [bP_congr (show inN b t (i3 0) (cc g - i3 1) ↔ (inN b t (i3 0) (cc g - i3 1) ∧ tIn g (num b t) = i3 (-1)) from ⟨fun e => ⟨e, hp e⟩, fun e => e.1⟩)]
  by_cases c1 : t.1 = i3 2
  · rw [if_pos (show t.1 = Int32.ofInt 2 from c1), e22, Option.bind_some, q_194 h.ok, Option.bind_some, h.2.2.2.1]
    by_cases c2 : tIn g (numM b t) = i3 (-1)
    · rw [if_pos (show _ = Int32.ofInt (-1) from c2)]
      exact go (fun e => by rw [← num_M z0 e]; exact c2)
    · rw [if_neg (show ¬ _ = Int32.ofInt (-1) from c2)]
      have hn : ¬ (inN b t (i3 0) (cc g - i3 1) ∧ tIn g (num b t) = i3 (-1)) := fun e => c2 (by rw [num_M z0 e.1]; exact e.2)
      exact ⟨_, by rw [q_225, bP_f hn]; rfl, h.wr.1, fun e => absurd e hn, fun _ => h.wr.2⟩
  · rw [if_neg (show ¬ t.1 = Int32.ofInt 2 from c1)]
    exact go (fun e => absurd e.1 c1)
theorem q_226 (h : rst s b n t g d) {k : Nat} (hk : k < 10) : m_226 44 (1001 + k) (H s) = some (bP (t.1 = i3 1 ∧ wrd b t k)) := by
  have hn := h.1.2.2.2
  have hb := h.2.2.1.bd
  obtain ⟨e20, e22, -⟩ := g_20 h
  have g19 : gI (H s) 8 44 19 = some (i3 (t.2.2 : Int)) := by rw [← h.2.1.2.2.1]; rfl
  have g21 : gI (H s) 8 44 21 = some (i3 (t.2.1 : Int)) := by rw [← h.2.1.2.1]; rfl
  have e1 : i3 (t.2.2 : Int) - i3 (t.2.1 : Int) = i3 ((t.2.2 - t.2.1 : Nat) : Int) := by
    rw [i3_sub]; congr 1; omega
  unfold m_226
  rw [(r_m s).1, Option.bind_some, e20, Option.bind_some, jnE]
  by_cases c1 : t.1 = i3 1
  · rw [if_pos (show t.1 = Int32.ofInt 1 from c1), g19, Option.bind_some, g21, Option.bind_some, q_177 (by omega) (by omega), Option.bind_some, e1]
    have e2 : (i3 ((t.2.2 - t.2.1 : Nat) : Int) = i3 4) ↔ t.2.2 - t.2.1 = 4 := i3n_inj (b := 4) (by omega) (by omega)
    by_cases c : t.2.2 - t.2.1 = 4
    · rw [if_pos (e2.mpr c)]
      refine (lpS 4 (by omega) (fun t => t) () (fun i => decide (¬ bt b (t.2.1 + i) = (wl k).getD i 0)) (fun _ => some (i3 0)) ?_ ?_).trans ?_
      · intro q nx ex hq
        have e3 : ¬ i3 4 ≤ i3 (q : Int) := nle (k := 4) hq (by omega)
        have e4 : i3 (t.2.1 : Int) + i3 (q : Int) = i3 ((t.2.1 + q : Nat) : Int) := by rw [i3_add]; rfl
        rw [Option.bind_some, if_neg e3, (g_t s).2.2.2.2.2.1, Option.bind_some, Option.bind_some, (g_t s).2.2.2.2.2.2, e4, h.1.at (by omega), Option.bind_some, q_178 hk hq, Option.bind_some]
        simp only [decide_eq_true_eq]
        by_cases d : bt b (t.2.1 + q) = (wl k).getD q 0
        · rw [if_pos d, if_neg (fun e => e d)]
        · rw [if_neg d, if_pos d]
          rfl
      · intro nx ex
        have e3 : i3 4 ≤ i3 ((4 : Nat) : Int) := by decide +kernel
        rw [Option.bind_some, if_pos e3]
      · refine (mat_bP (p := fun i => decide (¬ bt b (t.2.1 + i) = (wl k).getD i 0)) (n := 4) (l := 0)).trans ?_
        unfold bP wrd
        simp only [c, c1, true_and]
    · rw [if_neg (fun e => c (e2.mp e)), bP_f (fun e => c e.2.1)]
      rfl
  · rw [if_neg (show ¬ t.1 = Int32.ofInt 1 from c1), bP_f (fun e => c1 e.1)]
    rfl
theorem wl5 : ∀ k, k < 5 → wl (k + 5) = wl k := by
  have : ∀ k, k < 5 → t_byt.getD (k + 5) [] = t_byt.getD k [] := by decide +kernel
  exact this
theorem W5 (h : rst s b n t g d) {k : Nat} (hk : k < 5) : m_226 44 (1006 + k) (H s) = some (bP (t.1 = i3 1 ∧ wrd b t k)) := by
  have := q_226 h (k := k + 5) (by omega)
  rw [show 1001 + (k + 5) = 1006 + k by omega] at this
  unfold wrd at this
  rw [wl5 k hk] at this
  exact this
theorem wrd_x {i j : Nat} (hi : i < 5) (hj : j < 5) (h1 : wrd b t i) (h2 : wrd b t j) : i = j := by
  have a := fst?_none h1.2 0 (Nat.le_refl _) (by omega)
  have c := fst?_none h2.2 0 (Nat.le_refl _) (by omega)
  simp only [decide_eq_false_iff_not, Decidable.not_not] at a c
  have e : (wl i).getD 0 0 = (wl j).getD 0 0 := a.symm.trans c
  have : ∀ i, i < 5 → ∀ j, j < 5 → (t_byt.getD i []).getD 0 0 = (t_byt.getD j []).getD 0 0 → i = j := by decide +kernel
  exact this i hi j hj e
theorem m_side (h : rst s b n t g d) (c0 : ¬ 0 < tN g) : PM s b n ((m_228 44 (Int32.ofInt 3) (Int8.ofInt 8).toInt32 (H s)).bind fun q52 => jn (fun (v53 : Int32 × Nat) => (pI q52.2 8 v53.2 9 v53.1).bind fun th55 => (rB q52.1).bind fun y56 => some (y56, th55)) (fun j54 => if q52.1 = 0 then (gI q52.2 8 44 9).bind fun x57 => j54 (x57, 44) else (gN q52.2 8 44 24).bind fun o58 => (aI q52.2 o58 (Int32.ofInt 0)).bind fun x59 => j54 (x59, 44))) (pSide b n g t w) := by
  have c8 : (Int8.ofInt 8).toInt32 = i3 8 := by decide +kernel
  obtain ⟨s1, e1, u1, y1, n1⟩ := q_228 h (l := i3 3) (u := i3 8) (by decide +kernel) (by decide +kernel)
  unfold pSide
  rw [c8, e1, Option.bind_some, if_neg c0]
  dsimp only
  rw [jnE, bP_if]
  refine PM.u ?_ u1
  by_cases c2 : inN b (adv b n t.2.2) (i3 3) (i3 8)
  · have k1 := y1 c2
    have hk := ok_uD k1.2.2.2.2.1 (Int32.not_lt.mp c0) (Int32.not_lt.mp c2.2.1) (Int32.not_lt.mp c2.2.2)
    obtain ⟨k2, u2⟩ := k1.wg hk
    have a0 := a_65 k1 (i := 0) (by omega)
    rw [if_pos c2, if_pos c2, a0.1, Option.bind_some, show (Int32.ofInt 0) = i3 ((0 : Nat) : Int) from rfl, a0.2, Option.bind_some, lg_set _ (by rw [h.2.2.2.2.2.2]; omega), if_pos rfl]
    dsimp only
    rw [p_9, Option.bind_some, rB_bP, Option.bind_some, k1.2.2.2.1, bP_t c2]
    exact ⟨_, rfl, u2, fun _ => ⟨_, k2⟩, fun e => (by cases e)⟩
  · have g9 : gI (H s1) 8 44 9 = some (sD (md s1 44)) := rfl
    rw [if_neg c2, if_neg c2, g9, Option.bind_some]
    dsimp only
    rw [p_9, Option.bind_some, rB_bP, Option.bind_some, bP_f c2, show uD (md s1 44) (sD (md s1 44)) = md s1 44 from rfl, wM_id]
    exact ⟨s1, rfl, uu.refl s1, fun e => (by cases e), fun _ => n1 c2⟩
theorem m_tree (h : rst s b n t g d) (c0 : ¬ i3 12 ≤ tN g) : PM s b n ((m_228 44 (Int32.ofInt 0) (Int32.ofInt 5) (H s)).bind fun q32 => jn (fun (v33 : tH) => (rB (Int32.ofInt 0)).bind fun y35 => some (y35, v33)) (fun j34 => if q32.1 = 0 then j34 q32.2 else (m_229 44 (Int32.ofInt 1) q32.2).bind fun q36 => if q36.1 = 0 then j34 q36.2 else (m_227 44 (Int32.ofInt 2) (Int32.ofInt 0) (Int8.ofInt 9).toInt32 q36.2).bind fun q37 => if q37.1 = 0 then j34 q37.2 else (gN q37.2 8 44 24).bind fun o38 => (aI q37.2 o38 (Int32.ofInt 0)).bind fun x39 => (gN q37.2 8 44 24).bind fun o40 => (aI q37.2 o40 (Int32.ofInt 1)).bind fun x41 => (gN q37.2 8 44 24).bind fun o42 => (aI q37.2 o42 (Int32.ofInt 2)).bind fun x43 => (m_212 44 x39 x41 x43 q37.2).bind fun th44 => (rB (Int32.ofInt 1)).bind fun y45 => some (y45, th44))) (pTree b n g t w) := by
  have c9 : (Int8.ofInt 9).toInt32 = i3 9 := by decide +kernel
  have hd := h.2.2.2.2.2.2
  obtain ⟨s1, e1, u1, y1, n1⟩ := q_228 h (l := i3 0) (u := i3 5) z0 (by decide +kernel)
  unfold pTree
  rw [c9, e1, Option.bind_some, if_neg c0]
  dsimp only
  rw [jnE, bP_if]
  refine PM.u ?_ u1
  unfold pTree1
  generalize adv b n t.2.2 = t1 at y1 n1
  have fail : ∀ (s' : St) (t' : Tk), fi s' 44 23 = i3 (t'.2.1 : Int) → PM s' b n ((rB (Int32.ofInt 0)).bind fun y35 => some (y35, H s')) (false, g, t', w) := fun s' t' e => ⟨s', rfl, uu.refl s', fun e => (by cases e), fun _ => e⟩
  by_cases c1 : inN b t1 (i3 0) (i3 5)
  · have k1 := y1 c1
    obtain ⟨s2, e2, u2, y2, n2⟩ := q_229 k1 (i := 1) (by omega)
    have e2' : m_229 44 (Int32.ofInt 1) (H s1) = _ := e2
    rw [if_pos c1, if_pos c1, e2', Option.bind_some]
    dsimp only
    rw [bP_if]
    refine PM.u ?_ u2
    unfold pTree2
    generalize adv b n t1.2.2 = t2 at y2 n2
    by_cases c2 : inN b t2 (i3 0) (cc g - i3 1) ∧ tIn g (num b t2) = i3 (-1)
    · have k2 := y2 c2
      obtain ⟨s3, e3, u3, y3, n3⟩ := q_227 k2 (i := 2) (by omega) (l := i3 0) (u := i3 9) z0 (by decide +kernel)
      have e3' : m_227 44 (Int32.ofInt 2) (Int32.ofInt 0) (i3 9) (H s2) = _ := e3
      rw [if_pos c2, if_pos c2.1, if_pos c2.2, e3', Option.bind_some]
      dsimp only
      rw [bP_if]
      refine PM.u ?_ u3
      unfold pTree3
      generalize adv b n t2.2.2 = t3 at y3 n3
      by_cases c3 : inN b t3 (i3 0) (i3 9)
      · have k3 := y3 c3
        have hk := ok_addT k3.2.2.2.2.1 c0 (a := num b t3) ⟨c1.2.1, Int32.not_lt.mp c1.2.2⟩ (in_cl k3.2.2.2.2.1 c2.1) c2.2
        obtain ⟨k4, u4⟩ := k3.wg hk
        have l3 : ((d.set 0 (num b t1)).set 1 (num b t2)).length = 3 := by rw [List.length_set, List.length_set]; exact hd
        have l2 : (d.set 0 (num b t1)).length = 3 := by rw [List.length_set]; exact hd
        have v0 : lg (((d.set 0 (num b t1)).set 1 (num b t2)).set 2 (num b t3)) 0 = num b t1 := by
          rw [lg_set _ (by omega), if_neg (by omega), lg_set _ (by omega), if_neg (by omega), lg_set _ (by omega), if_pos rfl]
        have v1 : lg (((d.set 0 (num b t1)).set 1 (num b t2)).set 2 (num b t3)) 1 = num b t2 := by
          rw [lg_set _ (by omega), if_neg (by omega), lg_set _ (by omega), if_pos rfl]
        have v2 : lg (((d.set 0 (num b t1)).set 1 (num b t2)).set 2 (num b t3)) 2 = num b t3 := by
          rw [lg_set _ (by omega), if_pos rfl]
        have a0 := a_65 k3 (i := 0) (by omega)
        have a1 := a_65 k3 (i := 1) (by omega)
        have a2 := a_65 k3 (i := 2) (by omega)
        rw [v0] at a0
        rw [v1] at a1
        rw [v2] at a2
        have a0' : aI (H s3) 65 (Int32.ofInt 0) = _ := a0.2
        have a1' : aI (H s3) 65 (Int32.ofInt 1) = _ := a1.2
        have a2' : aI (H s3) 65 (Int32.ofInt 2) = _ := a2.2
        rw [if_pos c3, if_pos c3, a0.1, Option.bind_some, a0', Option.bind_some, Option.bind_some, a1', Option.bind_some, Option.bind_some, a2', Option.bind_some, q_212 k3.ok (by rw [k3.2.2.2.1]; exact c0), Option.bind_some, k3.2.2.2.1]
        exact ⟨_, rfl, u4, fun _ => ⟨_, k4⟩, fun e => (by cases e)⟩
      · rw [if_neg c3, if_neg c3]
        exact fail s3 t3 (n3 c3)
    · rw [if_neg c2]
      by_cases c2' : inN b t2 (i3 0) (cc g - i3 1)
      · rw [if_pos c2', if_neg (fun e => c2 ⟨c2', e⟩)]
        exact fail s2 t2 (n2 c2)
      · rw [if_neg c2']
        exact fail s2 t2 (n2 c2)
  · rw [if_neg c1, if_neg c1]
    exact fail s1 t1 (n1 c1)
theorem m_fell (h : rst s b n t g d) (c0 : fel g) : PM s b n ((gI (H s) 8 44 10).bind fun x17 => (pI (H s) 8 44 10 (x17 - (Int32.ofInt 1))).bind fun th18 => (m_224 44 th18).bind fun th19 => (rB (Int32.ofInt 1)).bind fun y20 => some (y20, th19)) (pFell b n g t w) := by
  have hk := ok_fell h.2.2.2.2.1 c0
  obtain ⟨k1, u1⟩ := h.wg hk
  obtain ⟨s2, e2, k2, u2⟩ := k1.look
  have e2' : m_224 44 (H (wM s 44 (uT g (tN g - Int32.ofInt 1)))) = _ := e2
  unfold pFell
  rw [if_pos c0, (g_20 h).2.2.1, Option.bind_some, p_10, Option.bind_some, h.2.2.2.1, e2', Option.bind_some]
  exact ⟨s2, rfl, u1.trans u2, fun _ => ⟨_, k2⟩, fun e => (by cases e)⟩
/-- a tree's number, as the reference sees it -/
theorem num_T (hg : ok g) (c1 : t.1 = i3 2) : isT g (numM b t) ↔ inN b t (i3 0) (tN g - i3 1) := by
  rw [← num_eq z0 (tN_m1 hg) c1]
  exact (pred_iff hg.nk).symm
theorem q_231 (h : rst s b n t g d) : PM s b n (m_231 44 (H s)) (pMove1 b n g (adv b n t.2.2) w) := by
  obtain ⟨s1, e1, k1, u1⟩ := h.look
  have hd := h.2.2.2.2.2.2
  unfold m_231
  rw [(r_m s).1, Option.bind_some, e1, Option.bind_some]
  refine PM.u ?_ u1
  generalize adv b n t.2.2 = t1 at k1
  have hg := k1.2.2.2.2.1
  obtain ⟨g20, g22, g10, -⟩ := g_20 k1
  have fail : ∀ (s' : St) (t' : Tk), fi s' 44 23 = i3 (t'.2.1 : Int) → PM s' b n ((rB (Int32.ofInt 0)).bind fun y35 => some (y35, H s')) (false, g, t', w) := fun s' t' e => ⟨s', rfl, uu.refl s', fun e => (by cases e), fun _ => e⟩
  have go : ¬ (inN b t1 (i3 0) (tN g - i3 1) ∧ kOf (kA g (num b t1)) (i3 1)) → PM s1 b n ((gI (H s1) 8 44 10).bind fun x5 => (m_227 44 (Int32.ofInt 0) (Int32.ofInt 0) (x5 - (Int32.ofInt 1)) (H s1)).bind fun q6 => jn (fun (v7 : tH) => (rB (Int32.ofInt 0)).bind fun y9 => some (y9, v7)) (fun j8 => if q6.1 = 0 then j8 q6.2 else (m_229 44 (Int32.ofInt 1) q6.2).bind fun q10 => if q10.1 = 0 then j8 q10.2 else (gN q10.2 8 44 12).bind fun o11 => (gN q10.2 8 44 24).bind fun o12 => (aI q10.2 o12 (Int32.ofInt 0)).bind fun x13 => (gN q10.2 8 44 24).bind fun o14 => (aI q10.2 o14 (Int32.ofInt 1)).bind fun x15 => (sI q10.2 o11 x13 x15).bind fun th16 => (rB (Int32.ofInt 1)).bind fun y17 => some (y17, th16))) (pMove1 b n g t1 w) := fun hf => by
    obtain ⟨s2, e2, u2, y2, n2⟩ := q_227 k1 (i := 0) (by omega) (l := i3 0) (u := tN g - i3 1) z0 (tN_m1 hg)
    have e2' : m_227 44 (Int32.ofInt 0) (Int32.ofInt 0) (tN g - Int32.ofInt 1) (H s1) = _ := e2
    unfold pMove1
    rw [g10, Option.bind_some, e2', Option.bind_some]
    dsimp only
    rw [jnE, bP_if]
    refine PM.u ?_ u2
    by_cases c1 : inN b t1 (i3 0) (tN g - i3 1)
    · have hT := in_T hg c1
      have k2 := y2 c1
      obtain ⟨s3, e3, u3, y3, n3⟩ := q_229 k2 (i := 1) (by omega)
      have e3' : m_229 44 (Int32.ofInt 1) (H s2) = _ := e3
      rw [if_pos c1, if_pos c1, if_neg (fun e => hf ⟨c1, e⟩), e3', Option.bind_some]
      dsimp only
      rw [bP_if]
      refine PM.u ?_ u3
      unfold pMove2
      generalize adv b n t1.2.2 = t2 at y3 n3
      by_cases c2 : inN b t2 (i3 0) (cc g - i3 1) ∧ tIn g (num b t2) = i3 (-1)
      · have k3 := y3 c2
        have hk := ok_mvT k3.2.2.2.2.1 hT (in_cl k3.2.2.2.2.1 c2.1) c2.2
        obtain ⟨k4, u4⟩ := k3.wg hk
        have l2 : (d.set 0 (num b t1)).length = 3 := by rw [List.length_set]; exact hd
        have v0 : lg ((d.set 0 (num b t1)).set 1 (num b t2)) 0 = num b t1 := by
          rw [lg_set _ (by omega), if_neg (by omega), lg_set _ (by omega), if_pos rfl]
        have v1 : lg ((d.set 0 (num b t1)).set 1 (num b t2)) 1 = num b t2 := by
          rw [lg_set _ (by omega), if_pos rfl]
        have a0 := a_65 k3 (i := 0) (by omega)
        have a1 := a_65 k3 (i := 1) (by omega)
        rw [v0] at a0
        rw [v1] at a1
        have a0' : aI (H s3) 65 (Int32.ofInt 0) = _ := a0.2
        have a1' : aI (H s3) 65 (Int32.ofInt 1) = _ := a1.2
        have hl := hg.tl hT
        have hn := hg.n_le
        have e4 := sI62 s3 (t := num b t1) (x := num b t2) hT.1 (by rw [k3.2.2.2.1, hg.2.2.2.1.2.1]; omega)
        rw [k3.2.2.2.1] at e4
        rw [if_pos c2, if_pos c2.1, if_pos c2.2, (r_g s3).2.2.2.2.2.2.1, Option.bind_some, a0.1, Option.bind_some, a0', Option.bind_some, Option.bind_some, a1', Option.bind_some, e4, Option.bind_some]
        exact ⟨_, rfl, u4, fun _ => ⟨_, k4⟩, fun e => (by cases e)⟩
      · rw [if_neg c2]
        by_cases c2' : inN b t2 (i3 0) (cc g - i3 1)
        · rw [if_pos c2', if_neg (fun e => c2 ⟨c2', e⟩)]
          exact fail s3 t2 (n3 c2)
        · rw [if_neg c2']
          exact fail s3 t2 (n3 c2)
    · rw [if_neg c1, if_neg c1]
      exact fail s2 t1 (n2 c1)
  rw [g20, Option.bind_some, jnE]
  by_cases c1 : t1.1 = i3 2
  · have P := num_T (b := b) hg c1
    rw [if_pos (show t1.1 = Int32.ofInt 2 from c1), g22, Option.bind_some, q_191 k1.ok, Option.bind_some, bP_if, k1.2.2.2.1]
    by_cases c2 : inN b t1 (i3 0) (tN g - i3 1)
    · have en := num_M z0 c2
      have hT := in_T hg c2
      rw [if_pos (P.mpr c2), Option.bind_some, q_197 k1.ok (by rw [k1.2.2.2.1, en]; exact hT), Option.bind_some, bP_if, k1.2.2.2.1, en]
      by_cases c3 : kOf (kA g (num b t1)) (i3 1)
      · rw [if_pos c3]
        unfold pMove1
        rw [if_pos c2, if_pos c3]
        exact k1.no
      · rw [if_neg c3]
        exact go (fun e => c3 e.2)
    · rw [if_neg (fun e => c2 (P.mp e))]
      exact go (fun e => c2 e.1)
  · rw [if_neg (show ¬ t1.1 = Int32.ofInt 2 from c1)]
    exact go (fun e => c1 e.1.1)
end MRD
end
section
/-! ===== the reference reads a whole tape ===== -/
section MAL
variable {s : St} {b : List Int32} {n : Nat} {t : Tk} {g : Gd} {d : List Int32} {w : Int32}
theorem q_230 (h : rst s b n t g d) (c1 : wN g < i3 8) : PM s b n (m_230 44 (H s)) (pWish b n g t w) := by
  have hok := h.2.2.2.2.1
  have hn := hok.n_le
  obtain ⟨s0, e0, k0, u0⟩ := h.look
  unfold m_230 pWish
  rw [(r_m s).1, Option.bind_some, e0, Option.bind_some, if_pos c1]
  have hst := fun ht => pWl_ok (b := b) (n := n) hok 13 0 (i3 0) t 0 rfl (Nat.two_pow_pos _) rfl rfl ht
  generalize hP : pWl b n g 13 0 (i3 0) t = P at hst ⊢
  refine PM.u ?_ u0
  suffices T (lp (fun (s2 : Int32 × Int32 × tH) nx3 ex4 => jn (fun (v11 : Unit) => (gI s2.2.2 8 44 20).bind fun x13 => jn (fun (v14 : Unit) => (m_225 44 s2.2.2).bind fun q16 => (rB q16.1).bind fun y17 => some (y17, q16.2)) (fun j15 => if x13 = (Int32.ofInt 2) then (gI s2.2.2 8 44 22).bind fun x18 => (m_191 44 x18 s2.2.2).bind fun x19 => if x19 = 0 then j15 () else (gI s2.2.2 8 44 22).bind fun x20 => (m_195 s2.1 x20 s2.2.2).bind fun x21 => if x21 = 0 then (gI s2.2.2 8 44 22).bind fun x22 => (m_224 44 s2.2.2).bind fun th23 => nx3 ((s2.1 ||| ((Int32.ofInt 1) <<< (x22 &&& 31))), (s2.2.1 + Int32.ofInt 1), th23) else j15 () else j15 ())) (fun j12 => if s2.2.1 < (Int32.ofInt 3) then j12 () else (gI s2.2.2 8 44 20).bind fun x27 => if x27 = (Int32.ofInt 2) then j12 () else ex4 (s2.1, s2.2.2))) 4096 ((Int32.ofInt 0), (Int32.ofInt 0), H s0) (fun (x5 : Int32 × tH) => (gN x5.2 8 44 15).bind fun o6 => (gI x5.2 8 44 14).bind fun x7 => (pI x5.2 8 44 14 (x7 + (Int32.ofInt 1))).bind fun th8 => (sI th8 o6 x7 x5.1).bind fun th9 => (rB (Int32.ofInt 1)).bind fun y10 => some (y10, th9))) (fun r => ∃ s', r = (bB P.1, H s') ∧ uu s0 s' ∧ (P.1 = true → ∃ d', rst s' b n P.2.2 (addW g P.2.1) d') ∧ (P.1 = false → fi s' 44 23 = i3 (P.2.2.2.1 : Int))) by
    obtain ⟨r, e, s', rfl, u, y, no⟩ := this
    by_cases c2 : P.1 = true
    · rw [if_pos c2]
      exact ⟨s', e.trans (by rw [c2]), u, fun _ => y c2, fun e => (by cases e)⟩
    · have c2' : P.1 = false := by simpa using c2
      rw [if_neg c2]
      exact ⟨s', e.trans (by rw [c2']), u, fun e => (by cases e), fun _ => no c2'⟩
  refine lpH 13 (fun k q => ∃ s1 m t1, ∃ M : Nat, q = (m, i3 (k : Int), H s1) ∧ uu s0 s1 ∧ rst s1 b n (adv b n t1.2.2) g d ∧ pWl b n g (13 - k) k m t1 = P ∧ M < 2 ^ nn g ∧ m = i3 (M : Int) ∧ pc M = k) (fun x => ∃ s1, x = (P.2.1, H s1) ∧ uu s0 s1 ∧ rst s1 b n P.2.2 g d ∧ P.1 = true) ?_ ?_ ?_ ?_ (by omega)
  · rintro k _ hk ⟨s1, m, t1, M, rfl, u1, k1, e1, hM, hm, hp⟩ nx ex hnx hex
    have hp2 := p12 hn
    obtain ⟨f, hf⟩ : ∃ f, 13 - k = f + 1 := ⟨12 - k, by omega⟩
    have hf2 : 13 - (k + 1) = f := by omega
    rw [hf] at e1
    unfold pWl at e1
    generalize adv b n t1.2.2 = t2 at k1 e1
    obtain ⟨g20, g22, -⟩ := g_20 k1
    have e3 : (i3 (k : Int) < Int32.ofInt 3) ↔ k < 3 := i3n_lt (b := 3) (by omega) (by omega)
    have wr : P = (false, m, t2) → T ((m_225 44 (H s1)).bind fun q16 => (rB q16.1).bind fun y17 => some (y17, q16.2)) (fun r => ∃ s', r = (bB P.1, H s') ∧ uu s0 s' ∧ (P.1 = true → ∃ d', rst s' b n P.2.2 (addW g P.2.1) d') ∧ (P.1 = false → fi s' 44 23 = i3 (P.2.2.2.1 : Int))) := fun e => by
      rw [q_225, Option.bind_some, e]
      exact T_some ⟨_, rfl, u1.trans k1.wr.1, fun e => (by cases e), fun _ => k1.wr.2⟩
    dsimp only
    rw [jnE]
    have key : (k < 3 ∨ t2.1 = i3 2) → T ((gI (H s1) 8 44 20).bind fun x13 => jn (fun (v14 : Unit) => (m_225 44 (H s1)).bind fun q16 => (rB q16.1).bind fun y17 => some (y17, q16.2)) (fun j15 => if x13 = (Int32.ofInt 2) then (gI (H s1) 8 44 22).bind fun x18 => (m_191 44 x18 (H s1)).bind fun x19 => if x19 = 0 then j15 () else (gI (H s1) 8 44 22).bind fun x20 => (m_195 m x20 (H s1)).bind fun x21 => if x21 = 0 then (gI (H s1) 8 44 22).bind fun x22 => (m_224 44 (H s1)).bind fun th23 => nx ((m ||| ((Int32.ofInt 1) <<< (x22 &&& 31))), (i3 (k : Int) + Int32.ofInt 1), th23) else j15 () else j15 ())) (fun r => ∃ s', r = (bB P.1, H s') ∧ uu s0 s' ∧ (P.1 = true → ∃ d', rst s' b n P.2.2 (addW g P.2.1) d') ∧ (P.1 = false → fi s' 44 23 = i3 (P.2.2.2.1 : Int))) := fun c => by
      rw [if_pos c] at e1
      rw [g20, Option.bind_some, jnE, g22]
      by_cases d1 : t2.1 = i3 2
      · have PT := num_T (b := b) hok d1
        rw [if_pos (show t2.1 = Int32.ofInt 2 from d1), Option.bind_some, q_191 k1.ok, Option.bind_some, bP_if, k1.2.2.2.1]
        by_cases c2 : inN b t2 (i3 0) (tN g - i3 1)
        · have en := num_M z0 c2
          have hT := in_T hok c2
          obtain ⟨j, hj, ej⟩ := mask_T hok hT
          rw [if_pos c2] at e1
          rw [if_pos (PT.mpr c2), Option.bind_some, q_195, Option.bind_some, bP_if, Option.bind_some, en]
          by_cases c3 : (m &&& bit (num b t2)) = 0
          · have nh : ¬ hs m (num b t2) := fun e => (hs_T hok hT m).mp e c3
            rw [if_pos c3] at e1
            obtain ⟨s3, e4, k4, u4⟩ := k1.look
            rw [if_neg nh, e4, Option.bind_some, i3_nat_add]
            have c3' := c3
            rw [ej, hm] at c3'
            have hb := (and_bit (by omega) (by omega)).mp c3'
            refine hnx _ ⟨s3, _, t2, M ||| 2 ^ j, rfl, u1.trans u4, k4, by rw [hf2]; exact e1, or_lt hM hj, ?_, ?_⟩
            · show m ||| bit (num b t2) = _
              rw [hm, ej, bit_eq (by omega), i3_or]
            · rw [pc_or (by omega) hb, hp]
          · rw [if_neg c3] at e1
            rw [if_pos ((hs_T hok hT m).mpr c3)]
            exact wr e1.symm
        · rw [if_neg c2] at e1
          rw [if_neg (fun e => c2 (PT.mp e))]
          exact wr e1.symm
      · rw [if_neg (fun e => d1 e.1)] at e1
        rw [if_neg (show ¬ t2.1 = Int32.ofInt 2 from d1)]
        exact wr e1.symm
    by_cases d1 : k < 3
    · rw [if_pos (e3.mpr d1)]
      exact key (Or.inl d1)
    · rw [if_neg (fun e => d1 (e3.mp e)), g20, Option.bind_some]
      by_cases d2 : t2.1 = i3 2
      · rw [if_pos (show t2.1 = Int32.ofInt 2 from d2)]
        have := key (Or.inr d2)
        rw [g20] at this
        exact this
      · rw [if_neg (show ¬ t2.1 = Int32.ofInt 2 from d2)]
        rw [if_neg (fun e => e.elim d1 d2)] at e1
        refine hex _ ?_
        rw [← e1]
        exact ⟨s1, rfl, u1, k1, rfl⟩
  · rintro _ ⟨s1, m, t1, M, rfl, u1, k1, e1, hM, hm, hp⟩ nx ex hex
    have := pc_le M
    omega
  · rintro _ ⟨s1, rfl, u1, k1, hp⟩
    have hk := ok_addW hok (not8 c1) (hst hp)
    obtain ⟨k2, u2⟩ := k1.wg hk
    have n2 := w_lt hok (not8 c1)
    have e2 := sI64 (wM s1 44 (uW g (wN g + i3 1))) (t := wN g) (x := P.2.1) hok.2.2.1.1 (by rw [md_wM]; show _ < (wS g).length; rw [hok.2.2.2.1.2.2.2]; exact n2)
    rw [md_wM, wM_wM] at e2
    have e2' : sI (H (wM s1 44 (uW g (wN g + Int32.ofInt 1)))) 64 (wN g) P.2.1 = _ := e2
    dsimp only
    rw [(r_g s1).2.2.2.2.2.2.2.2.1, Option.bind_some, (g_20 k1).2.2.2, Option.bind_some, p_14, Option.bind_some, k1.2.2.2.1, e2', Option.bind_some]
    exact T_some ⟨_, by rw [hp]; rfl, u1.trans u2, fun _ => ⟨_, k2⟩, fun e => (by rw [hp] at e; cases e)⟩
  · exact ⟨s0, i3 0, t, 0, rfl, uu.refl s0, k0, hP, Nat.two_pow_pos _, rfl, rfl⟩
/-- a statement, or nothing that begins one -/
noncomputable def sM (b : List Int32) (n : Nat) (g : Gd) (t : Tk) (w : Int32) : PR := if t.1 = i3 1 then pStm b n g t w else (false, g, t, w)
theorem q_232 (h : rst s b n t g d) : PM s b n (m_232 44 (H s)) (sM b n g t w) := by
  have hok := h.2.2.2.2.1
  have W0 : m_226 44 1006 (H s) = some (bP (t.1 = i3 1 ∧ wrd b t 0)) := W5 h (k := 0) (by omega)
  have W1 : m_226 44 1007 (H s) = some (bP (t.1 = i3 1 ∧ wrd b t 1)) := W5 h (k := 1) (by omega)
  have W2 : m_226 44 1008 (H s) = some (bP (t.1 = i3 1 ∧ wrd b t 2)) := W5 h (k := 2) (by omega)
  have W3 : m_226 44 1009 (H s) = some (bP (t.1 = i3 1 ∧ wrd b t 3)) := W5 h (k := 3) (by omega)
  have W4 : m_226 44 1010 (H s) = some (bP (t.1 = i3 1 ∧ wrd b t 4)) := W5 h (k := 4) (by omega)
  have c12 : (Int8.ofInt 12).toInt32 = i3 12 := by decide +kernel
  have c8 : (Int8.ofInt 8).toInt32 = i3 8 := by decide +kernel
  have gt := (g_20 h).2.2.1
  have gw' := (g_20 h).2.2.2
  have X : ∀ i j, i < 5 → j < 5 → i ≠ j → wrd b t i → ¬ (t.1 = i3 1 ∧ wrd b t j) := fun i j hi hj hne hw e => hne (wrd_x hi hj hw e.2)
  unfold m_232 sM
  rw [(r_m s).1, Option.bind_some, W0, Option.bind_some, jnE, bP_if]
  by_cases c1 : t.1 = i3 1
  · rw [if_pos c1]
    unfold pStm
    by_cases w0 : wrd b t 0
    · rw [if_pos ⟨c1, w0⟩, if_pos w0, gt, Option.bind_some]
      by_cases z : tN g = 0
      · rw [if_pos z]
        exact m_side h (by rw [z]; decide +kernel)
      · have pz : 0 < tN g := by
          have hn := hok.n_le
          rw [hok.n_eq] at z ⊢
          have : ¬ nn g = 0 := fun e => z (by rw [e]; rfl)
          exact (i3n_lt (a := 0) (by omega) (by omega)).mpr (by omega)
        rw [if_neg z, W1, Option.bind_some, jnE, bP_if, if_neg (X 0 1 (by omega) (by omega) (by omega) w0), W2, Option.bind_some, jnE, bP_if, if_neg (X 0 2 (by omega) (by omega) (by omega) w0), W3, Option.bind_some, bP_if, if_neg (X 0 3 (by omega) (by omega) (by omega) w0), W4, Option.bind_some, jnE, bP_if, if_neg (X 0 4 (by omega) (by omega) (by omega) w0)]
        unfold pSide
        rw [if_pos pz]
        exact h.no
    rw [if_neg (fun e => w0 e.2), if_neg w0, W1, Option.bind_some, jnE, bP_if]
    by_cases w1 : wrd b t 1
    · rw [if_pos ⟨c1, w1⟩, if_pos w1, gt, Option.bind_some, c12]
      by_cases z : i3 12 ≤ tN g
      · rw [if_pos z, W2, Option.bind_some, jnE, bP_if, if_neg (X 1 2 (by omega) (by omega) (by omega) w1), W3, Option.bind_some, bP_if, if_neg (X 1 3 (by omega) (by omega) (by omega) w1), W4, Option.bind_some, jnE, bP_if, if_neg (X 1 4 (by omega) (by omega) (by omega) w1)]
        unfold pTree
        rw [if_pos z]
        exact h.no
      · rw [if_neg z]
        exact m_tree h z
    rw [if_neg (fun e => w1 e.2), if_neg w1, W2, Option.bind_some, jnE, bP_if]
    by_cases w2 : wrd b t 2
    · rw [if_pos ⟨c1, w2⟩, if_pos w2, gw', Option.bind_some, c8]
      by_cases z : i3 8 ≤ wN g
      · rw [if_pos z, W3, Option.bind_some, bP_if, if_neg (X 2 3 (by omega) (by omega) (by omega) w2), W4, Option.bind_some, jnE, bP_if, if_neg (X 2 4 (by omega) (by omega) (by omega) w2)]
        unfold pWish
        rw [if_neg (Int32.not_lt.mpr z)]
        exact h.no
      · rw [if_neg z]
        obtain ⟨s1, e1, u1, y1, n1⟩ := q_230 (w := w) h (Int32.not_le.mp z)
        rw [e1, Option.bind_some]
        dsimp only
        rw [bB_rB]
        exact ⟨s1, rfl, u1, y1, n1⟩
    rw [if_neg (fun e => w2 e.2), if_neg w2, W3, Option.bind_some, bP_if]
    by_cases w3 : wrd b t 3
    · rw [if_pos ⟨c1, w3⟩, if_pos w3]
      obtain ⟨s1, e1, u1, y1, n1⟩ := q_231 (w := w) h
      rw [e1, Option.bind_some]
      dsimp only
      rw [bB_rB]
      exact ⟨s1, rfl, u1, y1, n1⟩
    rw [if_neg (fun e => w3 e.2), if_neg w3, W4, Option.bind_some, jnE, bP_if]
    by_cases w4 : wrd b t 4
    · rw [if_pos ⟨c1, w4⟩, if_pos w4, q_218 h.ok, Option.bind_some, bP_if, h.2.2.2.1]
      by_cases z : fel g
      · rw [if_pos z]
        exact m_fell h z
      · rw [if_neg z]
        unfold pFell
        rw [if_neg z]
        exact h.no
    · rw [if_neg (fun e => w4 e.2), if_neg w4]
      exact h.no
  · rw [if_neg c1, if_neg (fun e => c1 e.1), W1, Option.bind_some, jnE, bP_if, if_neg (fun e => c1 e.1), W2, Option.bind_some, jnE, bP_if, if_neg (fun e => c1 e.1), W3, Option.bind_some, bP_if, if_neg (fun e => c1 e.1), W4, Option.bind_some, jnE, bP_if, if_neg (fun e => c1 e.1)]
    exact h.no
/-- what a tape comes to, once a statement was read -/
noncomputable def ctn (b : List Int32) (n f k : Nat) (g : Gd) (t : Tk) (w : Int32) (P : Bool × Nat × Gd × Int32) : Prop := (t.1 = i3 0 → P = (true, k, g, w)) ∧ (¬ t.1 = i3 0 → t.1 = i3 3 → pAl b n f (k + 1) g (adv b n t.2.2) w = P) ∧ (¬ t.1 = i3 0 → ¬ t.1 = i3 3 → P.1 = false ∧ P.2.1 = t.2.1)
theorem q_233 (h : tpM s b n) (hg : ok (md s 44)) (hd : (ia s 65).length = 3) : T (m_233 44 (H s)) (fun r => ∃ s', r = (bB (rdG b n (md s 44)).1, H s') ∧ uv s s' ∧ ((rdG b n (md s 44)).1 = true → md s' 44 = (rdG b n (md s 44)).2.2.1 ∧ ok (rdG b n (md s 44)).2.2.1 ∧ fi s' 44 25 = i3 ((rdG b n (md s 44)).2.1 : Int)) ∧ ((rdG b n (md s 44)).1 = false → fi s' 44 23 = i3 ((rdG b n (md s 44)).2.1 : Int))) := by
  have hn := h.2.2.2
  have p25 : ∀ (t : St) x, pI (H t) 8 44 25 x = some (H (sf t 44 25 x)) := fun _ _ => rfl
  have g25 : ∀ t : St, gI (H t) 8 44 25 = some (fi t 44 25) := fun _ => rfl
  generalize hS : sf (sf s 44 25 (Int32.ofInt 1)) 44 19 (Int32.ofInt 0) = S
  have hT : tpM S b n := by rw [← hS]; exact h
  have f19 : fi S 44 19 = i3 ((0 : Nat) : Int) := by rw [← hS]; rfl
  have f25 : fi S 44 25 = i3 1 := by rw [← hS]; rfl
  have mS : md S 44 = md s 44 := by rw [← hS]; rfl
  have dS : ia S 65 = ia s 65 := by rw [← hS]; rfl
  have uS : uv s S := by rw [← hS]; exact (((uu.refl s).v).f (by omega)).f (by omega)
  obtain ⟨s1, e1, k1, u1⟩ := q_224 hT (e := 0) (Nat.zero_le _) f19
  have aS : ∀ p, ia s1 p = ia S p := fun p => congrFun u1.1 p
  have m1 : md s1 44 = md s 44 := by
    rw [← mS]
    unfold md
    rw [u1.2.2.1 44 9 (by omega), u1.2.2.1 44 10 (by omega), u1.2.2.1 44 14 (by omega), u1.2.2.1 44 16 (by omega), aS, aS, aS, aS]
  have r1 : rst s1 b n (adv b n 0) (md s 44) (ia s 65) := ⟨⟨by rw [aS]; exact hT.1, hT.2.1, by rw [u1.2.2.1 44 7 (by omega)]; exact hT.2.2.1, hn⟩, k1, ⟨0, Nat.zero_le _, rfl⟩, m1, hg, by rw [aS, dS], hd⟩
  have f25' : fi s1 44 25 = i3 1 := by rw [u1.2.2.1 44 25 (by omega)]; exact f25
  have gw0 : gw (md s 44) (tN (md s 44)) := ⟨hg, hg.2.1.1, Int32.le_refl _⟩
  unfold m_233
  rw [(r_m s).1, Option.bind_some, p25, Option.bind_some, (p_t _).1, Option.bind_some, hS, e1, Option.bind_some]
  show T _ (fun r => ∃ s', r = (bB (rdG b n (md s 44)).1, H s') ∧ _)
  have hR : rdG b n (md s 44) = pAl b n 250 1 (md s 44) (adv b n 0) (tN (md s 44)) := rfl
  rw [hR]
  generalize hP : pAl b n 250 1 (md s 44) (adv b n 0) (tN (md s 44)) = P
  have us1 : uv s s1 := uS.trans u1.u.v
  have tk0 : tkO b n (adv b n 0) := ⟨0, Nat.zero_le _, rfl⟩
  generalize adv b n 0 = t0 at r1 hP tk0
  -- one statement: it fails and so does the tape, or what is behind it goes on
  have stm : ∀ (f k : Nat) (g : Gd) (t : Tk) (w : Int32), tkO b n t → pAl b n (f + 1) k g t w = P → ((sM b n g t w).1 = false → P.1 = false ∧ P.2.1 = (sM b n g t w).2.2.1.2.1) ∧ ((sM b n g t w).1 = true → ctn b n f k (sM b n g t w).2.1 (sM b n g t w).2.2.1 (sM b n g t w).2.2.2 P ∧ t.2.1 + 1 ≤ (sM b n g t w).2.2.1.2.1) := fun f k g t w htk e => by
    rw [pAl] at e
    unfold sM
    by_cases c1 : t.1 = i3 1
    · rw [if_pos c1] at e ⊢
      obtain ⟨a1, a2, a3⟩ := pStm_tk (g := g) (w := w) htk
      have b1 := htk.bd.2.2 (by rw [c1]; decide +kernel)
      generalize pStm b n g t w = r at e a1 a2 a3 ⊢
      by_cases c2 : r.1 = true
      · rw [if_pos c2] at e
        refine ⟨fun q => (by rw [c2] at q; cases q), fun _ => ⟨⟨fun c3 => ?_, fun c3 c4 => ?_, fun c3 c4 => ?_⟩, by have := a3 c2; omega⟩⟩
        · rw [if_pos c3] at e
          exact e.symm
        · rw [if_neg c3, if_pos c4] at e
          exact e
        · rw [if_neg c3, if_neg c4] at e
          rw [← e]
          exact ⟨rfl, rfl⟩
      · rw [if_neg c2] at e
        refine ⟨fun _ => ?_, fun q => absurd q c2⟩
        rw [← e]
        exact ⟨rfl, rfl⟩
    · rw [if_neg c1] at e
      rw [if_neg c1]
      refine ⟨fun _ => ?_, fun q => (by cases q)⟩
      rw [← e]
      exact ⟨rfl, rfl⟩
  obtain ⟨st1, st2⟩ := stm 249 1 (md s 44) t0 (tN (md s 44)) tk0 hP
  obtain ⟨s2, e2, u2, y2, n2⟩ := q_232 (w := tN (md s 44)) r1
  have ho2 : gw (sM b n (md s 44) t0 (tN (md s 44))).2.1 (sM b n (md s 44) t0 (tN (md s 44))).2.2.2 := by
    unfold sM
    split
    · exact pStm_ok gw0
    · exact gw0
  have f252 : fi s2 44 25 = i3 1 := (u2.2.2.1 44 25 (by omega)).trans f25'
  generalize sM b n (md s 44) t0 (tN (md s 44)) = r at st1 st2 e2 y2 n2 ho2
  rw [e2, Option.bind_some]
  dsimp only
  have fail : ∀ (s' : St) (x : Nat), uv s s' → P.1 = false → P.2.1 = x → fi s' 44 23 = i3 (x : Int) → T ((rB (Int32.ofInt 0)).bind fun y22 => some (y22, H s')) (fun r => ∃ s', r = (bB P.1, H s') ∧ uv s s' ∧ (P.1 = true → md s' 44 = P.2.2.1 ∧ ok P.2.2.1 ∧ fi s' 44 25 = i3 (P.2.1 : Int)) ∧ (P.1 = false → fi s' 44 23 = i3 (P.2.1 : Int))) := fun s' x u p1 p2 f => T_some ⟨s', by rw [p1]; rfl, u, fun e => (by rw [p1] at e; cases e), fun _ => by rw [p2]; exact f⟩
  by_cases c1 : r.1 = true
  · obtain ⟨d2, k2⟩ := y2 c1
    obtain ⟨ct, cp⟩ := st2 c1
    rw [c1, if_neg (show ¬ bB true = 0 by decide +kernel)]
    refine lpH 250 (fun j q => ∃ s1 g1 t1 w1 d1, q = H s1 ∧ uv s s1 ∧ rst s1 b n t1 g1 d1 ∧ gw g1 w1 ∧ fi s1 44 25 = i3 ((j + 1 : Nat) : Int) ∧ j + 1 ≤ t1.2.1 ∧ ctn b n (249 - j) (j + 1) g1 t1 w1 P) (fun x => ∃ s1, x = H s1 ∧ uv s s1 ∧ P.1 = true ∧ md s1 44 = P.2.2.1 ∧ ok P.2.2.1 ∧ fi s1 44 25 = i3 (P.2.1 : Int)) ?_ ?_ ?_ ?_ (by omega)
    · rintro j _ hj ⟨s3, g3, t3, w3, d3, rfl, u3, k3, w3', f3, b3, ⟨c31, c32, c33⟩⟩ nx ex hnx hex
      have g20 := (g_20 k3).1
      skip
      rw [g20, Option.bind_some]
      by_cases z0' : t3.1 = i3 0
      · rw [if_pos (show t3.1 = 0 from z0')]
        have eP := c31 z0'
        refine hex _ ⟨s3, rfl, u3, ?_, ?_, ?_, ?_⟩
        · rw [eP]
        · rw [eP]; exact k3.2.2.2.1
        · rw [eP]; exact w3'.1
        · rw [eP]; exact f3
      rw [if_neg (show ¬ t3.1 = 0 from z0'), Option.bind_some]
      by_cases z3 : t3.1 = i3 3
      · have bd3 := k3.2.2.1.bd
        have bb := bd3.2.2 z0'
        obtain ⟨s4, e4, k4, u4⟩ := k3.look
        have b4 := adv_bd (b := b) bd3.2.1
        have tk4 := k4.2.2.1
        obtain ⟨f, hf⟩ : ∃ f, 249 - j = f + 1 := ⟨248 - j, by omega⟩
        have eA := c32 z0' z3
        rw [hf] at eA
        rw [if_pos (show t3.1 = Int32.ofInt 3 from z3), e4, Option.bind_some]
        generalize adv b n t3.2.2 = t4 at k4 b4 tk4 eA
        obtain ⟨st3', st4⟩ := stm f (j + 1 + 1) g3 t4 w3 tk4 eA
        obtain ⟨s5, e5, u5, y5, n5⟩ := q_232 (w := w3) k4
        have ho5 : gw (sM b n g3 t4 w3).2.1 (sM b n g3 t4 w3).2.2.2 := by
          unfold sM
          split
          · exact pStm_ok w3'
          · exact w3'
        have f5 : fi s5 44 25 = i3 ((j + 1 : Nat) : Int) := ((u5.2.2.1 44 25 (by omega)).trans (u4.2.2.1 44 25 (by omega))).trans f3
        have us5 : uv s s5 := u3.trans (u4.trans u5).v
        generalize sM b n g3 t4 w3 = r5 at st3' st4 e5 y5 n5 ho5
        rw [e5, Option.bind_some]
        dsimp only
        by_cases c5 : r5.1 = true
        · obtain ⟨d5, k5⟩ := y5 c5
          obtain ⟨ct5, cp5⟩ := st4 c5
          rw [c5, if_neg (show ¬ bB true = 0 by decide +kernel), g25, Option.bind_some, f5, p25, Option.bind_some, i3_nat_add]
          refine hnx _ ⟨_, r5.2.1, r5.2.2.1, r5.2.2.2, d5, rfl, us5.f (by omega), ?_, ho5, rfl, by omega, ?_⟩
          · obtain ⟨h1, h2, h3, h4, h5, h6, h7⟩ := k5
            exact ⟨h1, h2, h3, h4, h5, h6, h7⟩
          · rw [show 249 - (j + 1) = f by omega]
            exact ct5
        · have c5' : r5.1 = false := by simpa using c5
          rw [c5', if_pos (show bB false = 0 by decide +kernel)]
          obtain ⟨p1, p2⟩ := st3' c5'
          exact fail s5 _ us5 p1 p2 (n5 c5')
      · rw [if_neg (show ¬ t3.1 = Int32.ofInt 3 from z3), q_225, Option.bind_some]
        obtain ⟨p1, p2⟩ := c33 z0' z3
        exact fail _ _ (u3.trans k3.wr.1.v) p1 p2 k3.wr.2
    · rintro _ ⟨s3, g3, t3, w3, d3, rfl, u3, k3, w3', f3, b3, -⟩ nx ex hex
      have bd3 := k3.2.2.1.bd
      omega
    · rintro _ ⟨s3, rfl, u3, p1, p2, p3, p4⟩
      exact T_some ⟨s3, by rw [p1]; rfl, u3, fun _ => ⟨p2, p3, p4⟩, fun e => (by rw [p1] at e; cases e)⟩
    · exact ⟨s2, r.2.1, r.2.2.1, r.2.2.2, d2, rfl, us1.trans u2.v, k2, ho2, f252, by omega, ct⟩
  · have c1' : r.1 = false := by simpa using c1
    rw [c1', if_pos (show bB false = 0 by decide +kernel)]
    obtain ⟨p1, p2⟩ := st1 c1'
    exact fail s2 _ (us1.trans u2.v) p1 p2 (n2 c1')
end MAL
end
