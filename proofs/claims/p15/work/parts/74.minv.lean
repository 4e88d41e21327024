/-! ===== what the reference holds ===== -/
noncomputable def shM (s : St) (k : Nat) : Rw := if lg (ia s 45) k = i3 1 then some (lg (ia s 46) k, lg (ia s 47) k, la s (49 + k)) else none
noncomputable def kpM (s : St) : Option Gd := (kr s).map (fun o => md s o)
noncomputable def abM (s : St) : Ab := (md s 44, kpM s, (ia s 59, fi s 44 7), fun k => if k < 8 then shM s k else none)
noncomputable def KT (s : St) : Prop := (nm s = 0 ∧ kr s = none ∧ tr s = none) ∨ (nm s = 1 ∧ kr s = some 67 ∧ tr s = none) ∨ (nm s = 1 ∧ kr s = none ∧ tr s = some 67) ∨ (nm s = 2 ∧ kr s = some 67 ∧ tr s = some 90) ∨ (nm s = 2 ∧ kr s = some 90 ∧ tr s = some 67)
noncomputable def KO (s : St) : Prop := KT s ∧ (∀ o, kr s = some o → ok (md s o)) ∧ (∀ o, tr s = some o → sh (md s o))
noncomputable def sl8 (s : St) : Prop := (ia s 45).length = 8 ∧ (ia s 46).length = 8 ∧ (ia s 47).length = 8 ∧ (ia s 58).length = 8
noncomputable def smO (s : St) (k : Nat) : Prop := (la s (49 + k)).length = 40 ∧ (lg (ia s 45) k = i3 0 ∨ lg (ia s 45) k = i3 1 ∨ lg (ia s 45) k = i3 2) ∧ (lg (ia s 45) k = i3 1 → ¬ lg (ia s 47) k < 0 ∧ lg (ia s 47) k ≤ i3 40) ∧ (lg (ia s 45) k = i3 2 → isT (md s 44) (lg (ia s 58) k))
/-- a shelf, but a tree on it may be gone -/
noncomputable def smN (s : St) (k : Nat) : Prop := (la s (49 + k)).length = 40 ∧ (lg (ia s 45) k = i3 0 ∨ lg (ia s 45) k = i3 1 ∨ lg (ia s 45) k = i3 2) ∧ (lg (ia s 45) k = i3 1 → ¬ lg (ia s 47) k < 0 ∧ lg (ia s 47) k ≤ i3 40) ∧ (lg (ia s 45) k = i3 2 → ¬ lg (ia s 58) k < 0)
noncomputable def MI (s : St) : Prop := Mq s ∧ sl8 s ∧ ((ia s 59).length = 250 ∧ ¬ fi s 44 7 < 0 ∧ fi s 44 7 ≤ i3 250) ∧ KO s ∧ ∀ k, k < 8 → smO s k
noncomputable def MJ (s : St) : Prop := Mq s ∧ sl8 s ∧ ((ia s 59).length = 250 ∧ ¬ fi s 44 7 < 0 ∧ fi s 44 7 ≤ i3 250) ∧ KO s ∧ ∀ k, k < 8 → smN s k
theorem MI.mj {s : St} (c : MI s) : MJ s := ⟨c.1, c.2.1, c.2.2.1, c.2.2.2.1, fun k hk => by
  obtain ⟨d1, d2, d3, d4⟩ := c.2.2.2.2 k hk
  exact ⟨d1, d2, d3, fun e => (d4 e).1⟩⟩
section MI
variable {s s' : St}
theorem KT.o (h : KT s) {o : Nat} (ho : kr s = some o ∨ tr s = some o) : o = 44 ∨ o = 67 ∨ o = 90 := by
  rcases h with ⟨-, a, b⟩ | ⟨-, a, b⟩ | ⟨-, a, b⟩ | ⟨-, a, b⟩ | ⟨-, a, b⟩ <;> rw [a, b] at ho <;> rcases ho with e | e <;> (try cases e) <;> simp
theorem eM.m (h : eM s s') {o : Nat} (ho : o = 44 ∨ o = 67 ∨ o = 90) : md s' o = md s o := by
  have f := fun k hk => h.2.2.1 o k (by omega) hk
  have a := fun p hp hq => h.1 p hp hq
  unfold md
  rcases ho with rfl | rfl | rfl
  all_goals rw [f 9 (by unfold qF sF; omega), f 10 (by unfold qF sF; omega), f 14 (by unfold qF sF; omega), f 16 (by unfold qF sF; omega), a _ (by omega) (by unfold qA sA; omega), a _ (by omega) (by unfold qA sA; omega), a _ (by omega) (by unfold qA sA; omega), a _ (by omega) (by unfold qA sA; omega)]
theorem eM.krn (h : eM s s') : kr s' = kr s ∧ tr s' = tr s ∧ nm s' = nm s := by
  have e := h.2.2.2.1
  exact ⟨congrArg (·.1) e, congrArg (·.2.1) e, congrArg (·.2.2) e⟩
theorem eM.sz (h : eM s s') (z : Sz s) : Sz s' := by
  unfold Sz
  rw [h.2.2.2.2.1 17 (by omega), h.2.2.2.2.1 19 (by omega), h.2.2.2.2.1 22 (by omega), h.2.2.2.2.1 65 (by omega), h.2.2.2.2.1 66 (by omega), h.2.2.2.2.2 57 (by omega)]
  exact z
theorem eM.mq (h : eM s s') (c : Mq s) : Mq s' := ⟨by rw [h.m (Or.inl rfl)]; exact c.1, h.sz c.2.1, (h.2.2.2.2.1 60 (by omega)).trans c.2.2⟩
theorem eM.ko (h : eM s s') (c : KO s) : KO s' := by
  obtain ⟨k1, k2, k3⟩ := h.krn
  refine ⟨?_, fun o ho => ?_, fun o ho => ?_⟩
  · unfold KT
    rw [k1, k2, k3]
    exact c.1
  · rw [k1] at ho
    rw [h.m (c.1.o (Or.inl ho))]
    exact c.2.1 o ho
  · rw [k2] at ho
    rw [h.m (c.1.o (Or.inr ho))]
    exact c.2.2 o ho
theorem eM.mi (h : eM s s') (c : MI s) : MI s' := by
  obtain ⟨c1, c2, c3, c4, c5⟩ := c
  have a : ∀ p, 44 ≤ p → p < 60 → ia s' p = ia s p := fun p h1 h2 => h.1 p h1 (by unfold qA sA; omega)
  have f7 : fi s' 44 7 = fi s 44 7 := h.2.2.1 44 7 (by omega) (by unfold qF sF; omega)
  refine ⟨h.mq c1, ?_, ?_, h.ko c4, fun k hk => ?_⟩
  · unfold sl8
    rw [a 45 (by omega) (by omega), a 46 (by omega) (by omega), a 47 (by omega) (by omega), a 58 (by omega) (by omega)]
    exact c2
  · rw [a 59 (by omega) (by omega), f7]
    exact c3
  · unfold smO
    rw [a 45 (by omega) (by omega), a 47 (by omega) (by omega), a 58 (by omega) (by omega), h.2.1 (49 + k) (by omega) (by omega), h.m (Or.inl rfl)]
    exact c5 k hk
theorem eM.ab (h : eM s s') (c : KT s) : abM s' = abM s := by
  have a : ∀ p, 44 ≤ p → p < 60 → ia s' p = ia s p := fun p h1 h2 => h.1 p h1 (by unfold qA sA; omega)
  have kp : kpM s' = kpM s := by
    unfold kpM
    rw [h.krn.1]
    cases e : kr s with
    | none => rfl
    | some o =>
      show some (md s' o) = some (md s o)
      rw [h.m (c.o (Or.inl e))]
  unfold abM
  rw [h.m (Or.inl rfl), kp, a 59 (by omega) (by omega), h.2.2.1 44 7 (by omega) (by unfold qF sF; omega)]
  refine congrArg _ (congrArg _ (congrArg _ (funext fun k => ?_)))
  split
  · rename_i hk
    unfold shM
    rw [a 45 (by omega) (by omega), a 46 (by omega) (by omega), a 47 (by omega) (by omega), h.2.1 (49 + k) (by omega) (by omega)]
  · rfl
end MI
/-- a call of the reference's: its answer, and what it holds then -/
noncomputable def MC {α : Type} (s : St) (m : Option (α × tH)) (v : α) (A : Ab) : Prop := ∃ s', m = some (v, H s') ∧ MI s' ∧ eC s s' ∧ abM s' = A
theorem Ans.mc {α : Type} {s : St} {m : Option (α × tH)} {v : α} (c : MI s) (h : Ans s m v) : MC s m v (abM s) := by
  obtain ⟨s1, e, q⟩ := h
  exact ⟨s1, e, q.eM.mi c, q.eC, q.eM.ab c.2.2.2.1.1⟩
theorem MC.ref {s : St} (c : MI s) {x : Int32} (hx : isB x) : MC s ((m_189 44 x (H s)).bind fun q => some (q.1, q.2)) x (md s 44, (abM s).2) := (Ans.mf c.1.2.2 hx).mc c
theorem MC.refE {s : St} (c : MI s) {x : Int32} (hx : isB x) : MC s ((m_189 44 x (H s)).bind fun q => some (q.1, q.2)) x ((abM s).1, (abM s).2.1, (abM s).2.2.1, (abM s).2.2.2) := MC.ref c hx
theorem MC.id {α : Type} {s : St} (c : MI s) (v : α) : MC s (some (v, H s)) v (md s 44, (abM s).2) := ⟨s, rfl, c, eC.refl s, rfl⟩
section WM
variable {s : St}
theorem md_w67 (s : St) (g : Gd) : md (wM s 44 g) 67 = md s 67 := rfl
theorem md_w90 (s : St) (g : Gd) : md (wM s 44 g) 90 = md s 90 := rfl
theorem KO_w {g : Gd} (c : KO s) : KO (wM s 44 g) := by
  refine ⟨c.1, fun o ho => ?_, fun o ho => ?_⟩
  · rcases c.1.o (Or.inl ho) with rfl | rfl | rfl
    · rcases c.1 with ⟨-, a, b⟩ | ⟨-, a, b⟩ | ⟨-, a, b⟩ | ⟨-, a, b⟩ | ⟨-, a, b⟩ <;> (have ho' : kr s = some 44 := ho) <;> rw [a] at ho' <;> cases ho'
    · exact c.2.1 67 ho
    · exact c.2.1 90 ho
  · rcases c.1.o (Or.inr ho) with rfl | rfl | rfl
    · rcases c.1 with ⟨-, a, b⟩ | ⟨-, a, b⟩ | ⟨-, a, b⟩ | ⟨-, a, b⟩ | ⟨-, a, b⟩ <;> (have ho' : tr s = some 44 := ho) <;> rw [b] at ho' <;> cases ho'
    · exact c.2.2 67 ho
    · exact c.2.2 90 ho
theorem ab_wM (c : KT s) (g : Gd) : abM (wM s 44 g) = (g, (abM s).2) := by
  have kp : kpM (wM s 44 g) = kpM s := by
    unfold kpM
    have e0 : kr (wM s 44 g) = kr s := rfl
    rw [e0]
    rcases c with ⟨-, a, b⟩ | ⟨-, a, b⟩ | ⟨-, a, b⟩ | ⟨-, a, b⟩ | ⟨-, a, b⟩ <;> rw [a] <;> rfl
  unfold abM
  rw [md_wM, kp]
  rfl
theorem eC_wM {g : Gd} (h1 : sh g) (h2 : sh (md s 44)) : eC s (wM s 44 g) := by
  obtain ⟨a1, a2, a3, a4⟩ := h1
  obtain ⟨b1, b2, b3, b4⟩ := h2
  have e1 : (ia s 61).length = 12 := b1
  have e2 : (ia s 62).length = 12 := b2
  have e3 : (ia s 63).length = 12 := b3
  have e4 : (ia s 64).length = 8 := b4
  refine ⟨fun p hp _ => ?_, fun _ _ => rfl, fun o k ho _ => ?_, fun p _ => ?_, fun _ _ => rfl⟩
  · rw [ia_wM, if_neg (by omega), if_neg (by omega), if_neg (by omega), if_neg (by omega)]
  · rw [fi_wM, if_neg (by omega), if_neg (by omega), if_neg (by omega), if_neg (by omega)]
  · rw [ia_wM]
    split
    · rename_i e; rw [e, a1, e1]
    split
    · rename_i _ e; rw [e, a2, e2]
    split
    · rename_i _ _ e; rw [e, a3, e3]
    split
    · rename_i _ _ _ e; rw [e, a4, e4]
    rfl
theorem MJ_wM (c : MJ s) {g : Gd} (h : ok g) : MJ (wM s 44 g) := by
  obtain ⟨⟨c1, z, l60⟩, c2, c3, c4, c5⟩ := c
  exact ⟨⟨by rw [md_wM]; exact h, z, l60⟩, c2, c3, KO_w c4, fun k hk => c5 k hk⟩
theorem MI_wM (c : MI s) {g : Gd} (h : ok g) (ht : ∀ t, isT (md s 44) t → isT g t) : MI (wM s 44 g) := by
  obtain ⟨⟨c1, z, l60⟩, c2, c3, c4, c5⟩ := c
  refine ⟨⟨by rw [md_wM]; exact h, z, l60⟩, c2, c3, KO_w c4, fun k hk => ?_⟩
  obtain ⟨d1, d2, d3, d4⟩ := c5 k hk
  unfold smO
  rw [md_wM]
  exact ⟨d1, d2, d3, fun e => ht _ (d4 e)⟩
theorem MC.set {α : Type} (c : MI s) {g : Gd} (h : ok g) (ht : ∀ t, isT (md s 44) t → isT g t) (v : α) : MC s (some (v, H (wM s 44 g))) v (g, (abM s).2) := ⟨_, rfl, MI_wM c h ht, eC_wM h.sh c.1.1.sh, ab_wM c.2.2.2.1.1 g⟩
/-! ===== shelves follow ===== -/
noncomputable def foF (g : Gd) (d : List Int32) (k : Nat) (l : List Int32) : List Int32 := if lg l k = i3 2 then if lg d k < tN g then l else l.set k (i3 0) else l
noncomputable def fol (g : Gd) (d l : List Int32) : List Int32 := itr (foF g d) 8 l
theorem lg_set (l : List Int32) {i k : Nat} {x : Int32} (hi : i < l.length) : lg (l.set i x) k = if k = i then x else lg l k := by
  unfold lg
  rw [List.getD_eq_getElem?_getD, List.getD_eq_getElem?_getD, List.getElem?_set]
  by_cases e : i = k
  · subst e
    rw [if_pos rfl, if_pos hi, if_pos rfl]
    rfl
  · rw [if_neg e, if_neg (fun q => e q.symm)]
theorem foF_len (g : Gd) (d : List Int32) (k : Nat) (l : List Int32) : (foF g d k l).length = l.length := by
  unfold foF
  split
  · split
    · rfl
    · exact List.length_set
  · rfl
theorem fo_len (g : Gd) (d : List Int32) : ∀ (n : Nat) (l : List Int32), (itr (foF g d) n l).length = l.length
  | 0, _ => rfl
  | n + 1, l => (foF_len g d n _).trans (fo_len g d n l)
theorem fo_at (g : Gd) (d : List Int32) {l : List Int32} (hl : l.length = 8) : ∀ (n : Nat), n ≤ 8 → ∀ k, lg (itr (foF g d) n l) k = if k < n ∧ lg l k = i3 2 ∧ ¬ lg d k < tN g then i3 0 else lg l k
  | 0, _, k => by rw [if_neg (fun e => Nat.not_lt_zero _ e.1)]; rfl
  | n + 1, hn, k => by
    have ih := fo_at g d hl n (by omega)
    have hln := fo_len g d n l
    show lg (foF g d n (itr (foF g d) n l)) k = _
    have en : lg (itr (foF g d) n l) n = lg l n := by
      rw [ih n, if_neg (fun e => Nat.lt_irrefl _ e.1)]
    rw [show foF g d n (itr (foF g d) n l) = if lg (itr (foF g d) n l) n = i3 2 then if lg d n < tN g then itr (foF g d) n l else (itr (foF g d) n l).set n (i3 0) else itr (foF g d) n l from rfl, en]
    by_cases c1 : lg l n = i3 2
    · rw [if_pos c1]
      by_cases c2 : lg d n < tN g
      · rw [if_pos c2, ih k]
        by_cases e : k = n
        · subst e
          rw [if_neg (fun e => Nat.lt_irrefl _ e.1), if_neg (fun e => e.2.2 c2)]
        · by_cases e2 : k < n
          · simp only [e2, show k < n + 1 by omega]
          · simp only [e2, show ¬ k < n + 1 by omega]
      · rw [if_neg c2, lg_set _ (by omega), ih k]
        by_cases e : k = n
        · subst e
          rw [if_pos rfl, if_pos ⟨by omega, c1, c2⟩]
        · rw [if_neg e]
          by_cases e2 : k < n
          · simp only [e2, show k < n + 1 by omega]
          · simp only [e2, show ¬ k < n + 1 by omega]
    · rw [if_neg c1, ih k]
      by_cases e : k = n
      · subst e
        rw [if_neg (fun e => Nat.lt_irrefl _ e.1), if_neg (fun e => c1 e.2.1)]
      · by_cases e2 : k < n
        · simp only [e2, show k < n + 1 by omega]
        · simp only [e2, show ¬ k < n + 1 by omega]
theorem fol_at (g : Gd) (d : List Int32) {l : List Int32} (hl : l.length = 8) {k : Nat} (hk : k < 8) : lg (fol g d l) k = if lg l k = i3 2 ∧ ¬ lg d k < tN g then i3 0 else lg l k := by
  unfold fol
  rw [fo_at g d hl 8 (Nat.le_refl _) k]
  simp only [hk, true_and]
theorem at_lg {l : List Int32} {k : Nat} (hk : k < l.length) (h2 : l.length ≤ 1000) : at32 l (i3 (k : Int)) = some (lg l k) := by
  rw [at32_nat (by omega), List.getElem?_eq_getElem hk]
  unfold lg
  rw [List.getD_eq_getElem?_getD, List.getElem?_eq_getElem hk]
  rfl
theorem q_207' (h1 : (ia s 45).length = 8) (h2 : (ia s 58).length = 8) : m_207 44 (H s) = some (H (sa s 45 (fol (md s 44) (ia s 58) (ia s 45)))) := by
  have c8 : (Int8.ofInt 8).toInt32 = i3 ((8 : Nat) : Int) := by decide +kernel
  have g0 : ∀ t : St, gN (H t) 8 44 0 = some 45 := fun _ => rfl
  have g5 : ∀ t : St, gN (H t) 8 44 5 = some 58 := fun _ => rfl
  have g10 : ∀ t : St, gI (H t) 8 44 10 = some (tN (md t 44)) := fun _ => rfl
  have a45 : ∀ (t : St) i, aI (H t) 45 i = at32 (ia t 45) i := fun _ _ => aI_of rfl
  have a58 : ∀ (t : St) i, aI (H t) 58 i = at32 (ia t 58) i := fun _ _ => aI_of rfl
  have s45 : ∀ (t : St) i x, sI (H t) 45 i x = (st32 (ia t 45) i x).map (fun l => H (sa t 45 l)) := fun _ _ _ => sI_of rfl
  have e0 : H s = H (sa s 45 (ia s 45)) := by rw [sa_id]
  unfold m_207
  rw [(r_m s).1, Option.bind_some, c8]
  have L := lp0 (R := tH) (X := tH) (K := fun (x4 : tH) => some x4) 8 (by omega) (fun t (l : List Int32) => (t, H (sa s 45 l))) (fun l => H (sa s 45 l)) (foF (md s 44) (ia s 58)) (fun l => l.length = 8) (ia s 45) (F := fun (s1 : Int32 × tH) nx2 ex3 => if i3 ((8 : Nat) : Int) ≤ s1.1 then ex3 s1.2 else (gN s1.2 8 44 0).bind fun o5 => (aI s1.2 o5 s1.1).bind fun x6 => jn (fun (v7 : tH) => nx2 ((s1.1 + Int32.ofInt 1), v7)) (fun j8 => if x6 = (Int32.ofInt 2) then (gN s1.2 8 44 5).bind fun o9 => (aI s1.2 o9 s1.1).bind fun x10 => (gI s1.2 8 44 10).bind fun x11 => if x10 < x11 then j8 s1.2 else (gN s1.2 8 44 0).bind fun o12 => (sI s1.2 o12 s1.1 (Int32.ofInt 0)).bind fun th13 => j8 th13 else j8 s1.2)) ?_ ?_ ?_ h1
  · rw [← e0] at L
    exact L
  · intro k l nx ex hk hl
    have i45 : ia (sa s 45 l) 45 = l := rfl
    have i58 : ia (sa s 45 l) 58 = ia s 58 := rfl
    have md' : md (sa s 45 l) 44 = md s 44 := rfl
    dsimp only
    rw [if_neg (nle hk (by omega)), g0, Option.bind_some, a45, i45, at_lg (by omega) (by omega), Option.bind_some, jnE]
    unfold foF
    by_cases d1 : lg l k = i3 2
    · rw [if_pos (show lg l k = Int32.ofInt 2 from d1), if_pos d1, g5, Option.bind_some, a58, i58, at_lg (by omega) (by omega), Option.bind_some, g10, Option.bind_some, md']
      by_cases d2 : lg (ia s 58) k < tN (md s 44)
      · rw [if_pos d2, if_pos d2]
      · rw [if_neg d2, if_neg d2, Option.bind_some, s45, i45, st32_nat (by omega) (by omega), Option.map_some, Option.bind_some, sa_sa]
    · rw [if_neg (show ¬ lg l k = Int32.ofInt 2 from d1), if_neg d1]
  · intro k l _ hl
    rw [foF_len]; exact hl
  · intro l nx ex hl
    dsimp only
    rw [if_pos (Int32.le_refl _)]
theorem q_207 (c : MJ s) : ∃ s', m_207 44 (H s) = some (H s') ∧ MI s' ∧ eC s s' ∧ abM s' = abM s ∧ md s' 44 = md s 44 := by
  obtain ⟨c1, ⟨l1, l2, l3, l4⟩, c3, c4, c5⟩ := c
  have hlen : (fol (md s 44) (ia s 58) (ia s 45)).length = 8 := (fo_len _ _ 8 _).trans l1
  have hat := fun k (hk : k < 8) => fol_at (md s 44) (ia s 58) l1 hk
  have e0 := q_207' l1 l4
  generalize fol (md s 44) (ia s 58) (ia s 45) = F at hlen hat e0
  have a45 : ia (sa s 45 F) 45 = F := rfl
  have an : ∀ p, p ≠ 45 → ia (sa s 45 F) p = ia s p := fun p hp => by rw [ia_sa, if_neg hp]
  have fn : ∀ o k, fi (sa s 45 F) o k = fi s o k := fun _ _ => rfl
  have ln : ∀ p, la (sa s 45 F) p = la s p := fun _ => rfl
  have mn : ∀ o, (o = 44 ∨ o = 67 ∨ o = 90) → md (sa s 45 F) o = md s o := fun o ho => by
    unfold md
    rw [fn, fn, fn, fn, an _ (by omega), an _ (by omega), an _ (by omega), an _ (by omega)]
  have m44 := mn 44 (Or.inl rfl)
  have kr0 : kr (sa s 45 F) = kr s := rfl
  have tr0 : tr (sa s 45 F) = tr s := rfl
  have nm0 : nm (sa s 45 F) = nm s := rfl
  refine ⟨sa s 45 F, e0, ⟨⟨by rw [m44]; exact c1.1, ?_, by rw [an 60 (by omega)]; exact c1.2.2⟩, ?_, ?_, ⟨?_, fun o ho => ?_, fun o ho => ?_⟩, fun k hk => ?_⟩, (eC.refl s).a (by omega) (fun _ => by rw [hlen, l1]), ?_, m44⟩
  · unfold Sz
    rw [an 17 (by omega), an 19 (by omega), an 22 (by omega), an 65 (by omega), an 66 (by omega), ln]
    exact c1.2.1
  · unfold sl8
    rw [a45, an 46 (by omega), an 47 (by omega), an 58 (by omega)]
    exact ⟨hlen, l2, l3, l4⟩
  · rw [an 59 (by omega), fn]
    exact c3
  · unfold KT
    rw [kr0, tr0, nm0]
    exact c4.1
  · rw [kr0] at ho
    rw [mn o (c4.1.o (Or.inl ho))]
    exact c4.2.1 o ho
  · rw [tr0] at ho
    rw [mn o (c4.1.o (Or.inr ho))]
    exact c4.2.2 o ho
  · obtain ⟨d1, d2, d3, d4⟩ := c5 k hk
    unfold smO
    rw [ln, a45, an 47 (by omega), an 58 (by omega), m44, hat k hk]
    by_cases e : lg (ia s 45) k = i3 2 ∧ ¬ lg (ia s 58) k < tN (md s 44)
    · rw [if_pos e]
      exact ⟨d1, Or.inl rfl, fun e => absurd e (by decide +kernel), fun e => absurd e (by decide +kernel)⟩
    · rw [if_neg e]
      refine ⟨d1, d2, d3, fun e2 => ⟨d4 e2, fun e3 => e ⟨e2, Int32.not_lt.mpr e3⟩⟩⟩
  · have kp : kpM (sa s 45 F) = kpM s := by
      unfold kpM
      rw [kr0]
      cases hk : kr s with
      | none => rfl
      | some o =>
        show some (md (sa s 45 F) o) = some (md s o)
        rw [mn o (c4.1.o (Or.inl hk))]
    unfold abM
    rw [m44, kp, an 59 (by omega), fn]
    refine congrArg _ (congrArg _ (congrArg _ (funext fun k => ?_)))
    by_cases hk : k < 8
    · rw [if_pos hk, if_pos hk]
      unfold shM
      rw [a45, an 46 (by omega), an 47 (by omega), ln, hat k hk]
      by_cases e : lg (ia s 45) k = i3 2 ∧ ¬ lg (ia s 58) k < tN (md s 44)
      · rw [if_pos e, if_neg (by decide +kernel), if_neg (by rw [e.1]; decide +kernel)]
      · rw [if_neg e]
    · rw [if_neg hk, if_neg hk]
end WM
