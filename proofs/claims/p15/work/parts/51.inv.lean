/-! ===== changes of a garden ===== -/
noncomputable def uD (g : Gd) (x : Int32) : Gd := (x, g.2)
noncomputable def uT (g : Gd) (x : Int32) : Gd := (g.1, x, g.2.2)
noncomputable def uW (g : Gd) (x : Int32) : Gd := (g.1, g.2.1, x, g.2.2.2)
noncomputable def uE (g : Gd) (x : Int32) : Gd := (g.1, g.2.1, g.2.2.1, x, g.2.2.2.2)
noncomputable def uK (g : Gd) (l : List Int32) : Gd := (g.1, g.2.1, g.2.2.1, g.2.2.2.1, l, g.2.2.2.2.2)
noncomputable def uC (g : Gd) (l : List Int32) : Gd := (g.1, g.2.1, g.2.2.1, g.2.2.2.1, g.2.2.2.2.1, l, g.2.2.2.2.2.2)
noncomputable def uV (g : Gd) (l : List Int32) : Gd := (g.1, g.2.1, g.2.2.1, g.2.2.2.1, g.2.2.2.2.1, g.2.2.2.2.2.1, l, g.2.2.2.2.2.2.2)
noncomputable def uS (g : Gd) (l : List Int32) : Gd := (g.1, g.2.1, g.2.2.1, g.2.2.2.1, g.2.2.2.2.1, g.2.2.2.2.2.1, g.2.2.2.2.2.2.1, l)
/-- the class's garden at a place becomes another -/
noncomputable def wG (s : St) (o : Nat) (g : Gd) : St := (fun q => if q = o + 1 then kS g else if q = o + 2 then cS g else if q = o + 3 then vS g else if q = o + 4 then wS g else s.1 q, s.2.1, fun o' k' => if o' = o ∧ k' = 4 then sD g else if o' = o ∧ k' = 5 then tN g else if o' = o ∧ k' = 6 then wN g else if o' = o ∧ k' = 7 then sE g else s.2.2.1 o' k', s.2.2.2)
/-- the model's garden at a place becomes another -/
noncomputable def wM (s : St) (o : Nat) (g : Gd) : St := (fun q => if q = o + 17 then kS g else if q = o + 18 then cS g else if q = o + 19 then vS g else if q = o + 20 then wS g else s.1 q, s.2.1, fun o' k' => if o' = o ∧ k' = 9 then sD g else if o' = o ∧ k' = 10 then tN g else if o' = o ∧ k' = 14 then wN g else if o' = o ∧ k' = 16 then sE g else s.2.2.1 o' k', s.2.2.2)
section WG
variable (s : St) (o : Nat)
theorem gd_wG (g : Gd) : gd (wG s o g) o = g := by
  unfold gd wG ia fi
  simp
  rfl
theorem md_wM (g : Gd) : md (wM s o g) o = g := by
  unfold md wM ia fi
  simp
  rfl
theorem ia_wG (g : Gd) (q : Nat) : ia (wG s o g) q = if q = o + 1 then kS g else if q = o + 2 then cS g else if q = o + 3 then vS g else if q = o + 4 then wS g else ia s q := rfl
theorem fi_wG (g : Gd) (o' k' : Nat) : fi (wG s o g) o' k' = if o' = o ∧ k' = 4 then sD g else if o' = o ∧ k' = 5 then tN g else if o' = o ∧ k' = 6 then wN g else if o' = o ∧ k' = 7 then sE g else fi s o' k' := rfl
theorem ia_wM (g : Gd) (q : Nat) : ia (wM s o g) q = if q = o + 17 then kS g else if q = o + 18 then cS g else if q = o + 19 then vS g else if q = o + 20 then wS g else ia s q := rfl
theorem fi_wM (g : Gd) (o' k' : Nat) : fi (wM s o g) o' k' = if o' = o ∧ k' = 9 then sD g else if o' = o ∧ k' = 10 then tN g else if o' = o ∧ k' = 14 then wN g else if o' = o ∧ k' = 16 then sE g else fi s o' k' := rfl
theorem St_ext {a b : St} (h1 : ∀ q, ia a q = ia b q) (h2 : a.2.1 = b.2.1) (h3 : ∀ o k, fi a o k = fi b o k) (h4 : a.2.2.2 = b.2.2.2) : a = b := Prod.ext (funext h1) (Prod.ext h2 (Prod.ext (funext fun o => funext fun k => h3 o k) h4))
theorem wG_wG (g g' : Gd) : wG (wG s o g) o g' = wG s o g' := by
  refine St_ext (fun q => ?_) rfl (fun o' k' => ?_) rfl
  · simp only [ia_wG]
    (repeat' split) <;> first | rfl | omega
  · simp only [fi_wG]
    (repeat' split) <;> first | rfl | omega
theorem wM_wM (g g' : Gd) : wM (wM s o g) o g' = wM s o g' := by
  refine St_ext (fun q => ?_) rfl (fun o' k' => ?_) rfl
  · simp only [ia_wM]
    (repeat' split) <;> first | rfl | omega
  · simp only [fi_wM]
    (repeat' split) <;> first | rfl | omega
theorem wG_id : wG s o (gd s o) = s := by
  refine St_ext (fun q => ?_) rfl (fun o' k' => ?_) rfl
  · simp only [ia_wG]
    (repeat' split) <;> first | rfl | (rename_i e; rw [e]; rfl) | (rename_i e1 e2; rw [e2]; rfl)
  · simp only [fi_wG]
    (repeat' split) <;> first | rfl | (rename_i e; rw [e.1, e.2]; rfl)
theorem wM_id : wM s o (md s o) = s := by
  refine St_ext (fun q => ?_) rfl (fun o' k' => ?_) rfl
  · simp only [ia_wM]
    (repeat' split) <;> first | rfl | (rename_i e; rw [e]; rfl)
  · simp only [fi_wM]
    (repeat' split) <;> first | rfl | (rename_i e; rw [e.1, e.2]; rfl)
theorem sf_g4 (x : Int32) : sf s o 4 x = wG s o (uD (gd s o) x) := by
  refine St_ext (fun q => ?_) rfl (fun o' k' => ?_) rfl
  · simp only [ia_wG, ia_sf]
    (repeat' split) <;> first | rfl | (rename_i e; rw [e]; rfl)
  · simp only [fi_wG, fi_sf]
    (repeat' split) <;> first | rfl | (exfalso; omega) | (rename_i e; rw [e.1, e.2]; rfl) | (rename_i e _; rw [e.1, e.2]; rfl)
theorem sf_g5 (x : Int32) : sf s o 5 x = wG s o (uT (gd s o) x) := by
  refine St_ext (fun q => ?_) rfl (fun o' k' => ?_) rfl
  · simp only [ia_wG, ia_sf]
    (repeat' split) <;> first | rfl | (rename_i e; rw [e]; rfl)
  · simp only [fi_wG, fi_sf]
    (repeat' split) <;> first | rfl | (exfalso; omega) | (rename_i e; rw [e.1, e.2]; rfl) | (rename_i e _; rw [e.1, e.2]; rfl)
theorem sf_g6 (x : Int32) : sf s o 6 x = wG s o (uW (gd s o) x) := by
  refine St_ext (fun q => ?_) rfl (fun o' k' => ?_) rfl
  · simp only [ia_wG, ia_sf]
    (repeat' split) <;> first | rfl | (rename_i e; rw [e]; rfl)
  · simp only [fi_wG, fi_sf]
    (repeat' split) <;> first | rfl | (exfalso; omega) | (rename_i e; rw [e.1, e.2]; rfl) | (rename_i e _; rw [e.1, e.2]; rfl)
theorem sf_g7 (x : Int32) : sf s o 7 x = wG s o (uE (gd s o) x) := by
  refine St_ext (fun q => ?_) rfl (fun o' k' => ?_) rfl
  · simp only [ia_wG, ia_sf]
    (repeat' split) <;> first | rfl | (rename_i e; rw [e]; rfl)
  · simp only [fi_wG, fi_sf]
    (repeat' split) <;> first | rfl | (exfalso; omega) | (rename_i e; rw [e.1, e.2]; rfl) | (rename_i e _; rw [e.1, e.2]; rfl)
theorem sa_g1 (l : List Int32) : sa s (o + 1) l = wG s o (uK (gd s o) l) := by
  refine St_ext (fun q => ?_) rfl (fun o' k' => ?_) rfl
  · simp only [ia_wG, ia_sa]
    (repeat' split) <;> first | rfl | (exfalso; omega) | (rename_i e; rw [e]; rfl) | (rename_i e _; rw [e]; rfl)
  · simp only [fi_wG, fi_sa]
    (repeat' split) <;> first | rfl | (rename_i e; rw [e.1, e.2]; rfl)
theorem sa_g2 (l : List Int32) : sa s (o + 2) l = wG s o (uC (gd s o) l) := by
  refine St_ext (fun q => ?_) rfl (fun o' k' => ?_) rfl
  · simp only [ia_wG, ia_sa]
    (repeat' split) <;> first | rfl | (exfalso; omega) | (rename_i e; rw [e]; rfl) | (rename_i e _; rw [e]; rfl)
  · simp only [fi_wG, fi_sa]
    (repeat' split) <;> first | rfl | (rename_i e; rw [e.1, e.2]; rfl)
theorem sa_g3 (l : List Int32) : sa s (o + 3) l = wG s o (uV (gd s o) l) := by
  refine St_ext (fun q => ?_) rfl (fun o' k' => ?_) rfl
  · simp only [ia_wG, ia_sa]
    (repeat' split) <;> first | rfl | (exfalso; omega) | (rename_i e; rw [e]; rfl) | (rename_i e _; rw [e]; rfl)
  · simp only [fi_wG, fi_sa]
    (repeat' split) <;> first | rfl | (rename_i e; rw [e.1, e.2]; rfl)
theorem sa_g4 (l : List Int32) : sa s (o + 4) l = wG s o (uS (gd s o) l) := by
  refine St_ext (fun q => ?_) rfl (fun o' k' => ?_) rfl
  · simp only [ia_wG, ia_sa]
    (repeat' split) <;> first | rfl | (exfalso; omega) | (rename_i e; rw [e]; rfl) | (rename_i e _; rw [e]; rfl)
  · simp only [fi_wG, fi_sa]
    (repeat' split) <;> first | rfl | (rename_i e; rw [e.1, e.2]; rfl)
theorem sf_m9 (x : Int32) : sf s o 9 x = wM s o (uD (md s o) x) := by
  refine St_ext (fun q => ?_) rfl (fun o' k' => ?_) rfl
  · simp only [ia_wM, ia_sf]
    (repeat' split) <;> first | rfl | (rename_i e; rw [e]; rfl)
  · simp only [fi_wM, fi_sf]
    (repeat' split) <;> first | rfl | (exfalso; omega) | (rename_i e; rw [e.1, e.2]; rfl) | (rename_i e _; rw [e.1, e.2]; rfl)
theorem sf_m10 (x : Int32) : sf s o 10 x = wM s o (uT (md s o) x) := by
  refine St_ext (fun q => ?_) rfl (fun o' k' => ?_) rfl
  · simp only [ia_wM, ia_sf]
    (repeat' split) <;> first | rfl | (rename_i e; rw [e]; rfl)
  · simp only [fi_wM, fi_sf]
    (repeat' split) <;> first | rfl | (exfalso; omega) | (rename_i e; rw [e.1, e.2]; rfl) | (rename_i e _; rw [e.1, e.2]; rfl)
theorem sf_m14 (x : Int32) : sf s o 14 x = wM s o (uW (md s o) x) := by
  refine St_ext (fun q => ?_) rfl (fun o' k' => ?_) rfl
  · simp only [ia_wM, ia_sf]
    (repeat' split) <;> first | rfl | (rename_i e; rw [e]; rfl)
  · simp only [fi_wM, fi_sf]
    (repeat' split) <;> first | rfl | (exfalso; omega) | (rename_i e; rw [e.1, e.2]; rfl) | (rename_i e _; rw [e.1, e.2]; rfl)
theorem sf_m16 (x : Int32) : sf s o 16 x = wM s o (uE (md s o) x) := by
  refine St_ext (fun q => ?_) rfl (fun o' k' => ?_) rfl
  · simp only [ia_wM, ia_sf]
    (repeat' split) <;> first | rfl | (rename_i e; rw [e]; rfl)
  · simp only [fi_wM, fi_sf]
    (repeat' split) <;> first | rfl | (exfalso; omega) | (rename_i e; rw [e.1, e.2]; rfl) | (rename_i e _; rw [e.1, e.2]; rfl)
theorem sa_m17 (l : List Int32) : sa s (o + 17) l = wM s o (uK (md s o) l) := by
  refine St_ext (fun q => ?_) rfl (fun o' k' => ?_) rfl
  · simp only [ia_wM, ia_sa]
    (repeat' split) <;> first | rfl | (exfalso; omega) | (rename_i e; rw [e]; rfl) | (rename_i e _; rw [e]; rfl)
  · simp only [fi_wM, fi_sa]
    (repeat' split) <;> first | rfl | (rename_i e; rw [e.1, e.2]; rfl)
theorem sa_m18 (l : List Int32) : sa s (o + 18) l = wM s o (uC (md s o) l) := by
  refine St_ext (fun q => ?_) rfl (fun o' k' => ?_) rfl
  · simp only [ia_wM, ia_sa]
    (repeat' split) <;> first | rfl | (exfalso; omega) | (rename_i e; rw [e]; rfl) | (rename_i e _; rw [e]; rfl)
  · simp only [fi_wM, fi_sa]
    (repeat' split) <;> first | rfl | (rename_i e; rw [e.1, e.2]; rfl)
theorem sa_m19 (l : List Int32) : sa s (o + 19) l = wM s o (uV (md s o) l) := by
  refine St_ext (fun q => ?_) rfl (fun o' k' => ?_) rfl
  · simp only [ia_wM, ia_sa]
    (repeat' split) <;> first | rfl | (exfalso; omega) | (rename_i e; rw [e]; rfl) | (rename_i e _; rw [e]; rfl)
  · simp only [fi_wM, fi_sa]
    (repeat' split) <;> first | rfl | (rename_i e; rw [e.1, e.2]; rfl)
theorem sa_m20 (l : List Int32) : sa s (o + 20) l = wM s o (uS (md s o) l) := by
  refine St_ext (fun q => ?_) rfl (fun o' k' => ?_) rfl
  · simp only [ia_wM, ia_sa]
    (repeat' split) <;> first | rfl | (exfalso; omega) | (rename_i e; rw [e]; rfl) | (rename_i e _; rw [e]; rfl)
  · simp only [fi_wM, fi_sa]
    (repeat' split) <;> first | rfl | (rename_i e; rw [e.1, e.2]; rfl)
end WG
/-! ===== the one side runs, the other is not touched ===== -/
noncomputable def eC (s s' : St) : Prop := (∀ p, p < 44 → ¬ qA p → ia s' p = ia s p) ∧ (∀ p, p < 44 → la s' p = la s p) ∧ (∀ o k, o < 44 → ¬ qF o k → fi s' o k = fi s o k) ∧ (∀ p, p < 67 → (ia s' p).length = (ia s p).length) ∧ (∀ p, p < 67 → (la s' p).length = (la s p).length)
noncomputable def eM (s s' : St) : Prop := (∀ p, 44 ≤ p → ¬ qA p → ia s' p = ia s p) ∧ (∀ p, 44 ≤ p → p ≠ 57 → la s' p = la s p) ∧ (∀ o k, 44 ≤ o → ¬ qF o k → fi s' o k = fi s o k) ∧ s'.2.2.2 = s.2.2.2 ∧ (∀ p, p < 67 → (ia s' p).length = (ia s p).length) ∧ (∀ p, p < 67 → (la s' p).length = (la s p).length)
section EE
variable {s s' s2 : St}
theorem qq.eC (h : qq s s') : eC s s' := ⟨fun p _ hq => h.1 p hq, fun p hp => h.2.1 p (by omega), fun o k _ hq => h.2.2.1 o k hq, fun p _ => h.2.2.2.2.1 p, fun p _ => h.2.2.2.2.2 p⟩
theorem qq.eM (h : qq s s') : eM s s' := ⟨fun p _ hq => h.1 p hq, fun p _ hp => h.2.1 p hp, fun o k _ hq => h.2.2.1 o k hq, h.2.2.2.1, fun p _ => h.2.2.2.2.1 p, fun p _ => h.2.2.2.2.2 p⟩
theorem eC.refl (s : St) : eC s s := (qq.refl s).eC
theorem eM.refl (s : St) : eM s s := (qq.refl s).eM
theorem eC.trans (h : eC s s') (k : eC s' s2) : eC s s2 := ⟨fun p hp hq => (k.1 p hp hq).trans (h.1 p hp hq), fun p hp => (k.2.1 p hp).trans (h.2.1 p hp), fun o q ho hq => (k.2.2.1 o q ho hq).trans (h.2.2.1 o q ho hq), fun p hp => (k.2.2.2.1 p hp).trans (h.2.2.2.1 p hp), fun p hp => (k.2.2.2.2 p hp).trans (h.2.2.2.2 p hp)⟩
theorem eM.trans (h : eM s s') (k : eM s' s2) : eM s s2 := ⟨fun p hp hq => (k.1 p hp hq).trans (h.1 p hp hq), fun p hp hq => (k.2.1 p hp hq).trans (h.2.1 p hp hq), fun o q ho hq => (k.2.2.1 o q ho hq).trans (h.2.2.1 o q ho hq), k.2.2.2.1.trans h.2.2.2.1, fun p hp => (k.2.2.2.2.1 p hp).trans (h.2.2.2.2.1 p hp), fun p hp => (k.2.2.2.2.2 p hp).trans (h.2.2.2.2.2 p hp)⟩
/-- an array of the class's -/
theorem eM.a {p : Nat} {l : List Int32} (hp : p < 44) (hl : l.length = (ia s' p).length) (h : eM s s') : eM s (sa s' p l) := h.trans ⟨fun q hq _ => by rw [ia_sa, if_neg (by omega)], fun _ _ _ => rfl, fun _ _ _ _ => rfl, rfl, fun q _ => by
    rw [ia_sa]
    split
    · rename_i e; rw [e]; exact hl
    · rfl, fun _ _ => rfl⟩
theorem eM.l {p : Nat} {l : List Int64} (hp : p < 44) (hl : l.length = (la s' p).length) (h : eM s s') : eM s (sl s' p l) := h.trans ⟨fun _ _ _ => rfl, fun q hq _ => by rw [la_sl, if_neg (by omega)], fun _ _ _ _ => rfl, rfl, fun _ _ => rfl, fun q _ => by
    rw [la_sl]
    split
    · rename_i e; rw [e]; exact hl
    · rfl⟩
theorem eM.f {o k : Nat} {x : Int32} (ho : o < 44) (h : eM s s') : eM s (sf s' o k x) := h.trans ⟨fun _ _ _ => rfl, fun _ _ _ => rfl, fun o' k' h' _ => by rw [fi_sf, if_neg (by omega)], rfl, fun _ _ => rfl, fun _ _ => rfl⟩
theorem eC.a {p : Nat} {l : List Int32} (hp : 44 ≤ p) (hl : p < 67 → l.length = (ia s' p).length) (h : eC s s') : eC s (sa s' p l) := h.trans ⟨fun q hq _ => by rw [ia_sa, if_neg (by omega)], fun _ _ => rfl, fun _ _ _ _ => rfl, fun q hq => by
    rw [ia_sa]
    split
    · rename_i e; rw [e]; exact hl (by omega)
    · rfl, fun _ _ => rfl⟩
theorem eC.l {p : Nat} {l : List Int64} (hp : 44 ≤ p) (hl : p < 67 → l.length = (la s' p).length) (h : eC s s') : eC s (sl s' p l) := h.trans ⟨fun _ _ _ => rfl, fun q hq => by rw [la_sl, if_neg (by omega)], fun _ _ _ _ => rfl, fun _ _ => rfl, fun q hq => by
    rw [la_sl]
    split
    · rename_i e; rw [e]; exact hl (by omega)
    · rfl⟩
theorem eC.f {o k : Nat} {x : Int32} (ho : 44 ≤ o) (h : eC s s') : eC s (sf s' o k x) := h.trans ⟨fun _ _ _ => rfl, fun _ _ => rfl, fun o' k' h' _ => by rw [fi_sf, if_neg (by omega)], fun _ _ => rfl, fun _ _ => rfl⟩
end EE
/-! ===== what the class holds ===== -/
noncomputable def sh (g : Gd) : Prop := (kS g).length = 12 ∧ (cS g).length = 12 ∧ (vS g).length = 12 ∧ (wS g).length = 8
theorem ok.sh {g : Gd} (h : ok g) : sh g := h.2.2.2.1
abbrev Rw : Type := Option (Int32 × Int32 × List Int64)
abbrev Ab : Type := Gd × Option Gd × (List Int32 × Int32) × (Nat → Rw)
noncomputable def shC (s : St) (k : Nat) : Rw := if fi s (28 + 2 * k) 1 = i3 (-1) then none else some (fi s (28 + 2 * k) 1, fi s (28 + 2 * k) 2, la s (29 + 2 * k))
noncomputable def abC (s : St) : Ab := (gd s 1, (if fi s 0 10 = 0 then none else some (gd s 11)), (ia s 25, fi s 24 1), fun k => if k < 8 then shC s k else none)
noncomputable def shO (s : St) (k : Nat) : Prop := (la s (29 + 2 * k)).length = 40 ∧ (fi s (28 + 2 * k) 1 = i3 (-1) ∨ (¬ fi s (28 + 2 * k) 1 < 0 ∧ fi s (28 + 2 * k) 1 ≤ i3 4)) ∧ (¬ fi s (28 + 2 * k) 2 < 0 ∧ fi s (28 + 2 * k) 2 ≤ i3 40) ∧ (fi s (28 + 2 * k) 1 = i3 (-1) → fi s (28 + 2 * k) 2 = 0) ∧ (fi s (28 + 2 * k) 3 = i3 (-1) ∨ (isT (gd s 1) (fi s (28 + 2 * k) 3) ∧ fi s (28 + 2 * k) 1 = i3 (-1)))
noncomputable def CI (s : St) : Prop := Cq s ∧ sh (gd s 6) ∧ sh (gd s 11) ∧ ((ia s 25).length = 250 ∧ ¬ fi s 24 1 < 0 ∧ fi s 24 1 ≤ i3 250) ∧ (fi s 0 10 = 0 ∨ (fi s 0 10 = 1 ∧ ok (gd s 11))) ∧ ∀ k, k < 8 → shO s k
section CI
variable {s s' : St}
theorem eC.gd1 (h : eC s s') : gd s' 1 = gd s 1 := by
  have f := fun k hk => h.2.2.1 1 k (by omega) hk
  have a := fun p hp hq => h.1 p hp hq
  unfold gd
  rw [f 4 (by unfold qF sF; omega), f 5 (by unfold qF sF; omega), f 6 (by unfold qF sF; omega), f 7 (by unfold qF sF; omega), a _ (by omega) (by unfold qA sA; omega), a _ (by omega) (by unfold qA sA; omega), a _ (by omega) (by unfold qA sA; omega), a _ (by omega) (by unfold qA sA; omega)]
theorem eC.gd11 (h : eC s s') : gd s' 11 = gd s 11 := by
  have f := fun k hk => h.2.2.1 11 k (by omega) hk
  have a := fun p hp hq => h.1 p hp hq
  unfold gd
  rw [f 4 (by unfold qF sF; omega), f 5 (by unfold qF sF; omega), f 6 (by unfold qF sF; omega), f 7 (by unfold qF sF; omega), a _ (by omega) (by unfold qA sA; omega), a _ (by omega) (by unfold qA sA; omega), a _ (by omega) (by unfold qA sA; omega), a _ (by omega) (by unfold qA sA; omega)]
theorem eC.sh6 (h : eC s s') (k : sh (gd s 6)) : sh (gd s' 6) := ⟨(h.2.2.2.1 7 (by omega)).trans k.1, (h.2.2.2.1 8 (by omega)).trans k.2.1, (h.2.2.2.1 9 (by omega)).trans k.2.2.1, (h.2.2.2.1 10 (by omega)).trans k.2.2.2⟩
theorem eC.fs (h : eC s s') {k : Nat} (hk : k < 8) (j : Nat) : fi s' (28 + 2 * k) j = fi s (28 + 2 * k) j := h.2.2.1 _ j (by omega) (by unfold qF sF; omega)
theorem eC.ls (h : eC s s') {k : Nat} (hk : k < 8) : la s' (29 + 2 * k) = la s (29 + 2 * k) := h.2.1 _ (by omega)
theorem eC.sz (h : eC s s') (z : Sz s) : Sz s' := by
  unfold Sz
  rw [h.2.2.2.1 17 (by omega), h.2.2.2.1 19 (by omega), h.2.2.2.1 22 (by omega), h.2.2.2.1 65 (by omega), h.2.2.2.1 66 (by omega), h.2.2.2.2 57 (by omega)]
  exact z
theorem eC.cq (h : eC s s') (c : Cq s) : Cq s' := ⟨by rw [h.gd1]; exact c.1, h.sz c.2.1, (h.2.2.2.1 27 (by omega)).trans c.2.2⟩
theorem eC.ci (h : eC s s') (c : CI s) : CI s' := by
  obtain ⟨c1, c2, c3, c4, c5, c6⟩ := c
  have e1 : fi s' 24 1 = fi s 24 1 := h.2.2.1 24 1 (by omega) (by unfold qF sF; omega)
  have e2 : fi s' 0 10 = fi s 0 10 := h.2.2.1 0 10 (by omega) (by unfold qF sF; omega)
  refine ⟨h.cq c1, h.sh6 c2, by rw [h.gd11]; exact c3, ⟨(h.2.2.2.1 25 (by omega)).trans c4.1, by rw [e1]; exact c4.2⟩, by rw [e2, h.gd11]; exact c5, fun k hk => ?_⟩
  unfold shO
  rw [h.ls hk, h.fs hk, h.fs hk, h.fs hk, h.gd1]
  exact c6 k hk
theorem eC.ab (h : eC s s') : abC s' = abC s := by
  unfold abC
  rw [h.gd1, h.gd11, h.2.2.1 0 10 (by omega) (by unfold qF sF; omega), h.2.2.1 24 1 (by omega) (by unfold qF sF; omega), h.1 25 (by omega) (by unfold qA sA; omega)]
  refine congrArg _ (congrArg _ (congrArg _ (funext fun k => ?_)))
  split
  · rename_i hk
    unfold shC
    rw [h.ls hk, h.fs hk, h.fs hk]
  · rfl
end CI
/-- a call of the class's: its answer, and what it holds then -/
noncomputable def CC {α : Type} (s : St) (m : Option (α × tH)) (v : α) (A : Ab) : Prop := ∃ s', m = some (v, H s') ∧ CI s' ∧ eM s s' ∧ abC s' = A
theorem Ans.cc {α : Type} {s : St} {m : Option (α × tH)} {v : α} (c : CI s) (h : Ans s m v) : CC s m v (abC s) := by
  obtain ⟨s1, e, q⟩ := h
  exact ⟨s1, e, q.eC.ci c, q.eM, q.eC.ab⟩
