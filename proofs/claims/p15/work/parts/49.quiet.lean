/-! ===== what no answer rests on ===== -/
noncomputable def qA (p : Nat) : Prop := sA p ∨ p = 27 ∨ p = 60 ∨ p = 7 ∨ p = 8 ∨ p = 9 ∨ p = 10
noncomputable def qF (o k : Nat) : Prop := sF o k ∨ o = 6
/-- but for what is scratched, counted as refused, or drafted -/
noncomputable def qq (s s' : St) : Prop := (∀ p, ¬ qA p → ia s' p = ia s p) ∧ (∀ p, p ≠ 57 → la s' p = la s p) ∧ (∀ o k, ¬ qF o k → fi s' o k = fi s o k) ∧ s'.2.2.2 = s.2.2.2 ∧ (∀ p, (ia s' p).length = (ia s p).length) ∧ (∀ p, (la s' p).length = (la s p).length)
section QQ
variable {s s' s2 : St}
theorem qq.refl (s : St) : qq s s := ⟨fun _ _ => rfl, fun _ _ => rfl, fun _ _ _ => rfl, rfl, fun _ => rfl, fun _ => rfl⟩
theorem qq.trans (h : qq s s') (k : qq s' s2) : qq s s2 := ⟨fun p hp => (k.1 p hp).trans (h.1 p hp), fun p hp => (k.2.1 p hp).trans (h.2.1 p hp), fun o q hq => (k.2.2.1 o q hq).trans (h.2.2.1 o q hq), k.2.2.2.1.trans h.2.2.2.1, fun p => (k.2.2.2.2.1 p).trans (h.2.2.2.2.1 p), fun p => (k.2.2.2.2.2 p).trans (h.2.2.2.2.2 p)⟩
theorem sc.q (h : sc s s') : qq s s' := ⟨fun p hp => h.1 p (fun e => hp (Or.inl e)), h.2.1, fun o k hk => h.2.2.1 o k (fun e => hk (Or.inl e)), h.2.2.2⟩
theorem qq.f {o k : Nat} {x : Int32} (hf : qF o k) (h : qq s s') : qq s (sf s' o k x) := h.trans ⟨fun _ _ => rfl, fun _ _ => rfl, fun o' k' hk => by
    rw [fi_sf, if_neg]
    rintro ⟨rfl, rfl⟩
    exact hk hf, rfl, fun _ => rfl, fun _ => rfl⟩
theorem qq.a {p : Nat} {l : List Int32} (hp : qA p) (hl : l.length = (ia s' p).length) (h : qq s s') : qq s (sa s' p l) := h.trans ⟨fun q hq => by
    rw [ia_sa, if_neg]
    rintro rfl
    exact hq hp, fun _ _ => rfl, fun _ _ _ => rfl, rfl, fun q => by
    rw [ia_sa]
    split
    · rename_i e; rw [e]; exact hl
    · rfl, fun _ => rfl⟩
theorem qq.ln (h : qq s s') (p : Nat) : (ia s' p).length = (ia s p).length := h.2.2.2.2.1 p
theorem qq.g (h : qq s s') {o : Nat} (ho : o = 1 ∨ o = 11) : gd s' o = gd s o := by
  have f := fun k hk => h.2.2.1 o k hk
  have a := fun p hp => h.1 p hp
  unfold gd
  rcases ho with rfl | rfl
  all_goals rw [f 4 (by unfold qF sF; omega), f 5 (by unfold qF sF; omega), f 6 (by unfold qF sF; omega), f 7 (by unfold qF sF; omega), a _ (by unfold qA sA; omega), a _ (by unfold qA sA; omega), a _ (by unfold qA sA; omega), a _ (by unfold qA sA; omega)]
theorem qq.m (h : qq s s') {o : Nat} (ho : o = 44 ∨ o = 67 ∨ o = 90) : md s' o = md s o := by
  have f := fun k hk => h.2.2.1 o k hk
  have a := fun p hp => h.1 p hp
  unfold md
  rcases ho with rfl | rfl | rfl
  all_goals rw [f 9 (by unfold qF sF; omega), f 10 (by unfold qF sF; omega), f 14 (by unfold qF sF; omega), f 16 (by unfold qF sF; omega), a _ (by unfold qA sA; omega), a _ (by unfold qA sA; omega), a _ (by unfold qA sA; omega), a _ (by unfold qA sA; omega)]
theorem qq.z (h : qq s s') (z : Sz s) : Sz s' := by
  unfold Sz
  rw [h.ln, h.ln, h.ln, h.ln, h.ln, h.2.2.2.2.2]
  exact z
end QQ
noncomputable def isB (x : Int32) : Prop := x = i3 (-2) ∨ x = i3 (-3) ∨ x = i3 (-4) ∨ x = i3 (-5) ∨ x = i3 (-6)
theorem q_59k {s : St} (hl : (ia s 27).length = 5) {x : Int32} {k : Nat} (hk : k < 5) (e : i3 (-2) - x = i3 (k : Int)) : m_59 0 x (H s) = some (x, H (sa s 27 ((ia s 27).set k ((ia s 27).getD k 0 + i3 1)))) := by
  unfold m_59
  have e1 : ¬ i3 (k : Int) < 0 := i3n_nneg (by omega)
  have e2 : ¬ i3 ((5 : Nat) : Int) ≤ i3 (k : Int) := by rw [i3n_le (by omega) (by omega)]; omega
  have e3 : at32 (ia s 27) (i3 (k : Int)) = some ((ia s 27).getD k 0) := by
    rw [at32_nat (by omega), List.getD_eq_getElem?_getD, List.getElem?_eq_getElem (by omega)]; rfl
  have e4 : ∀ y, st32 (ia s 27) (i3 (k : Int)) y = some ((ia s 27).set k y) := fun y => st32_nat (by omega) (by omega)
  have e10 : (Int8.ofInt (-2)).toInt32 - x = i3 (k : Int) := by rw [cst.1]; exact e
  rw [e10]
  simp only [r_0, Option.bind_some, jn, cst, bP_if, rB_0, rB_1, z00, z10, ↓reduceIte, e1, hl, i3_nat, e2, e3, e4, Option.map_some]
theorem q_59 {s : St} (hl : (ia s 27).length = 5) {x : Int32} (hx : isB x) : ∃ s', m_59 0 x (H s) = some (x, H s') ∧ qq s s' := by
  have q : ∀ l : List Int32, l.length = (ia s 27).length → qq s (sa s 27 l) := fun l h => (qq.refl s).a (Or.inr (Or.inl rfl)) h
  rcases hx with h | h | h | h | h
  · exact ⟨_, q_59k hl (k := 0) (by omega) (by rw [h]; decide +kernel), q _ List.length_set⟩
  · exact ⟨_, q_59k hl (k := 1) (by omega) (by rw [h]; decide +kernel), q _ List.length_set⟩
  · exact ⟨_, q_59k hl (k := 2) (by omega) (by rw [h]; decide +kernel), q _ List.length_set⟩
  · exact ⟨_, q_59k hl (k := 3) (by omega) (by rw [h]; decide +kernel), q _ List.length_set⟩
  · exact ⟨_, q_59k hl (k := 4) (by omega) (by rw [h]; decide +kernel), q _ List.length_set⟩
theorem q_189k {s : St} (hl : (ia s 60).length = 8) {x : Int32} {k : Nat} (hk : k < 8) (e : -x = i3 (k : Int)) : m_189 44 x (H s) = some (x, H (sa s 60 ((ia s 60).set k ((ia s 60).getD k 0 + i3 1)))) := by
  unfold m_189
  have e3 : at32 (ia s 60) (i3 (k : Int)) = some ((ia s 60).getD k 0) := by
    rw [at32_nat (by omega), List.getD_eq_getElem?_getD, List.getElem?_eq_getElem (by omega)]; rfl
  have e4 : ∀ y, st32 (ia s 60) (i3 (k : Int)) y = some ((ia s 60).set k y) := fun y => st32_nat (by omega) (by omega)
  simp only [r_m, Option.bind_some, jn, cst, bP_if, rB_0, rB_1, z00, z10, ↓reduceIte, e, e3, e4, Option.map_some]
theorem q_189 {s : St} (hl : (ia s 60).length = 8) {x : Int32} (hx : isB x) : ∃ s', m_189 44 x (H s) = some (x, H s') ∧ qq s s' := by
  have q : ∀ l : List Int32, l.length = (ia s 60).length → qq s (sa s 60 l) := fun l h => (qq.refl s).a (Or.inr (Or.inr (Or.inl rfl))) h
  rcases hx with h | h | h | h | h
  · exact ⟨_, q_189k hl (k := 2) (by omega) (by rw [h]; decide +kernel), q _ List.length_set⟩
  · exact ⟨_, q_189k hl (k := 3) (by omega) (by rw [h]; decide +kernel), q _ List.length_set⟩
  · exact ⟨_, q_189k hl (k := 4) (by omega) (by rw [h]; decide +kernel), q _ List.length_set⟩
  · exact ⟨_, q_189k hl (k := 5) (by omega) (by rw [h]; decide +kernel), q _ List.length_set⟩
  · exact ⟨_, q_189k hl (k := 6) (by omega) (by rw [h]; decide +kernel), q _ List.length_set⟩
theorem isB2 : isB (i3 (-2)) := Or.inl rfl
theorem isB3 : isB (i3 (-3)) := Or.inr (Or.inl rfl)
theorem isB4 : isB (i3 (-4)) := Or.inr (Or.inr (Or.inl rfl))
theorem isB5 : isB (i3 (-5)) := Or.inr (Or.inr (Or.inr (Or.inl rfl)))
theorem isB6 : isB (i3 (-6)) := Or.inr (Or.inr (Or.inr (Or.inr rfl)))
/-- a call that changes nothing that counts, and its answer -/
noncomputable def Ans {α : Type} (s : St) (m : Option (α × tH)) (v : α) : Prop := ∃ s', m = some (v, H s') ∧ qq s s'
theorem Ans.id {α : Type} {s : St} {v : α} : Ans s (some (v, H s)) v := ⟨s, rfl, qq.refl s⟩
theorem Ans.bnd {α β : Type} {s : St} {m : Option (α × tH)} {v : α} {f : α × tH → Option (β × tH)} {w : β} (h : Ans s m v) (k : ∀ s', qq s s' → Ans s' (f (v, H s')) w) : Ans s (m.bind f) w := by
  obtain ⟨s1, e1, q1⟩ := h
  obtain ⟨s2, e2, q2⟩ := k s1 q1
  rw [e1]
  exact ⟨s2, e2, q1.trans q2⟩
theorem Ans.cf {s : St} (hl : (ia s 27).length = 5) {x : Int32} (hx : isB x) : Ans s ((m_59 0 x (H s)).bind fun q => some (q.1, q.2)) x := by
  obtain ⟨s1, e1, q1⟩ := q_59 hl hx
  rw [e1]
  exact ⟨s1, rfl, q1⟩
theorem Ans.mf {s : St} (hl : (ia s 60).length = 8) {x : Int32} (hx : isB x) : Ans s ((m_189 44 x (H s)).bind fun q => some (q.1, q.2)) x := by
  obtain ⟨s1, e1, q1⟩ := q_189 hl hx
  rw [e1]
  exact ⟨s1, rfl, q1⟩
