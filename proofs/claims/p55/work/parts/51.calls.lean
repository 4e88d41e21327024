section
/-! ===== changes of a garden ===== -/
noncomputable def uD (g : Gd) (x : Int32) : Gd := (x, g.2)
noncomputable def uT (g : Gd) (x : Int32) : Gd := (g.1, x, g.2.2)
noncomputable def uW (g : Gd) (x : Int32) : Gd := (g.1, g.2.1, x, g.2.2.2)
noncomputable def uE (g : Gd) (x : Int32) : Gd := (g.1, g.2.1, g.2.2.1, x, g.2.2.2.2)
noncomputable def uK (g : Gd) (l : List Int32) : Gd := (g.1, g.2.1, g.2.2.1, g.2.2.2.1, l, g.2.2.2.2.2)
noncomputable def uC (g : Gd) (l : List Int32) : Gd := (g.1, g.2.1, g.2.2.1, g.2.2.2.1, g.2.2.2.2.1, l, g.2.2.2.2.2.2)
noncomputable def uV (g : Gd) (l : List Int32) : Gd := (g.1, g.2.1, g.2.2.1, g.2.2.2.1, g.2.2.2.2.1, g.2.2.2.2.2.1, l, g.2.2.2.2.2.2.2)
noncomputable def uS (g : Gd) (l : List Int32) : Gd := (g.1, g.2.1, g.2.2.1, g.2.2.2.1, g.2.2.2.2.1, g.2.2.2.2.2.1, g.2.2.2.2.2.2.1, l)
/-- the class's garden at a place becomes another -/
noncomputable def wG (s : St) (o : Nat) (g : Gd) : St := (fun q => if q = o + 1 then kS g else if q = o + 2 then cS g else if q = o + 3 then vS g else if q = o + 4 then wS g else s.1 q, s.2.1, fun o' k' => if o' = o ∧ k' = 4 then sD g else if o' = o ∧ k' = 5 then tN g else if o' = o ∧ k' = 6 then wN g else if o' = o ∧ k' = 7 then sE g else s.2.2.1 o' k', s.2.2.2)
/-- the model's garden at a place becomes another -/
noncomputable def wM (s : St) (o : Nat) (g : Gd) : St := (fun q => if q = o + 17 then kS g else if q = o + 18 then cS g else if q = o + 19 then vS g else if q = o + 20 then wS g else s.1 q, s.2.1, fun o' k' => if o' = o ∧ k' = 9 then sD g else if o' = o ∧ k' = 10 then tN g else if o' = o ∧ k' = 14 then wN g else if o' = o ∧ k' = 16 then sE g else s.2.2.1 o' k', s.2.2.2)
section WG
variable (s : St) (o : Nat)
theorem gd_wG (g : Gd) : gd (wG s o g) o = g := by
  unfold gd wG ia fi
  simp
  rfl
theorem md_wM (g : Gd) : md (wM s o g) o = g := by
  unfold md wM ia fi
  simp
  rfl
theorem ia_wG (g : Gd) (q : Nat) : ia (wG s o g) q = if q = o + 1 then kS g else if q = o + 2 then cS g else if q = o + 3 then vS g else if q = o + 4 then wS g else ia s q := rfl
theorem fi_wG (g : Gd) (o' k' : Nat) : fi (wG s o g) o' k' = if o' = o ∧ k' = 4 then sD g else if o' = o ∧ k' = 5 then tN g else if o' = o ∧ k' = 6 then wN g else if o' = o ∧ k' = 7 then sE g else fi s o' k' := rfl
theorem ia_wM (g : Gd) (q : Nat) : ia (wM s o g) q = if q = o + 17 then kS g else if q = o + 18 then cS g else if q = o + 19 then vS g else if q = o + 20 then wS g else ia s q := rfl
theorem fi_wM (g : Gd) (o' k' : Nat) : fi (wM s o g) o' k' = if o' = o ∧ k' = 9 then sD g else if o' = o ∧ k' = 10 then tN g else if o' = o ∧ k' = 14 then wN g else if o' = o ∧ k' = 16 then sE g else fi s o' k' := rfl
theorem St_ext {a b : St} (h1 : ∀ q, ia a q = ia b q) (h2 : a.2.1 = b.2.1) (h3 : ∀ o k, fi a o k = fi b o k) (h4 : a.2.2.2 = b.2.2.2) : a = b := Prod.ext (funext h1) (Prod.ext h2 (Prod.ext (funext fun o => funext fun k => h3 o k) h4))
theorem wG_wG (g g' : Gd) : wG (wG s o g) o g' = wG s o g' := by
  refine St_ext (fun q => ?_) rfl (fun o' k' => ?_) rfl
  · simp only [ia_wG]
    (repeat' split) <;> first | rfl | omega
  · simp only [fi_wG]
    (repeat' split) <;> first | rfl | omega
theorem wM_wM (g g' : Gd) : wM (wM s o g) o g' = wM s o g' := by
  refine St_ext (fun q => ?_) rfl (fun o' k' => ?_) rfl
  · simp only [ia_wM]
    (repeat' split) <;> first | rfl | omega
  · simp only [fi_wM]
    (repeat' split) <;> first | rfl | omega
theorem wG_id : wG s o (gd s o) = s := by
  refine St_ext (fun q => ?_) rfl (fun o' k' => ?_) rfl
  · simp only [ia_wG]
    (repeat' split) <;> first | rfl | (rename_i e; rw [e]; rfl) | (rename_i e1 e2; rw [e2]; rfl)
  · simp only [fi_wG]
    (repeat' split) <;> first | rfl | (rename_i e; rw [e.1, e.2]; rfl)
theorem wM_id : wM s o (md s o) = s := by
  refine St_ext (fun q => ?_) rfl (fun o' k' => ?_) rfl
  · simp only [ia_wM]
    (repeat' split) <;> first | rfl | (rename_i e; rw [e]; rfl)
  · simp only [fi_wM]
    (repeat' split) <;> first | rfl | (rename_i e; rw [e.1, e.2]; rfl)
theorem sf_g4 (x : Int32) : sf s o 4 x = wG s o (uD (gd s o) x) := by
  refine St_ext (fun q => ?_) rfl (fun o' k' => ?_) rfl
  · simp only [ia_wG, ia_sf]
    (repeat' split) <;> first | rfl | (rename_i e; rw [e]; rfl)
  · simp only [fi_wG, fi_sf]
    (repeat' split) <;> first | rfl | (exfalso; omega) | (rename_i e; rw [e.1, e.2]; rfl) | (rename_i e _; rw [e.1, e.2]; rfl)
theorem sf_g5 (x : Int32) : sf s o 5 x = wG s o (uT (gd s o) x) := by
  refine St_ext (fun q => ?_) rfl (fun o' k' => ?_) rfl
  · simp only [ia_wG, ia_sf]
    (repeat' split) <;> first | rfl | (rename_i e; rw [e]; rfl)
  · simp only [fi_wG, fi_sf]
    (repeat' split) <;> first | rfl | (exfalso; omega) | (rename_i e; rw [e.1, e.2]; rfl) | (rename_i e _; rw [e.1, e.2]; rfl)
theorem sf_g6 (x : Int32) : sf s o 6 x = wG s o (uW (gd s o) x) := by
  refine St_ext (fun q => ?_) rfl (fun o' k' => ?_) rfl
  · simp only [ia_wG, ia_sf]
    (repeat' split) <;> first | rfl | (rename_i e; rw [e]; rfl)
  · simp only [fi_wG, fi_sf]
    (repeat' split) <;> first | rfl | (exfalso; omega) | (rename_i e; rw [e.1, e.2]; rfl) | (rename_i e _; rw [e.1, e.2]; rfl)
theorem sf_g7 (x : Int32) : sf s o 7 x = wG s o (uE (gd s o) x) := by
  refine St_ext (fun q => ?_) rfl (fun o' k' => ?_) rfl
  · simp only [ia_wG, ia_sf]
    (repeat' split) <;> first | rfl | (rename_i e; rw [e]; rfl)
  · simp only [fi_wG, fi_sf]
    (repeat' split) <;> first | rfl | (exfalso; omega) | (rename_i e; rw [e.1, e.2]; rfl) | (rename_i e _; rw [e.1, e.2]; rfl)
theorem sa_g1 (l : List Int32) : sa s (o + 1) l = wG s o (uK (gd s o) l) := by
  refine St_ext (fun q => ?_) rfl (fun o' k' => ?_) rfl
  · simp only [ia_wG, ia_sa]
    (repeat' split) <;> first | rfl | (exfalso; omega) | (rename_i e; rw [e]; rfl) | (rename_i e _; rw [e]; rfl)
  · simp only [fi_wG, fi_sa]
    (repeat' split) <;> first | rfl | (rename_i e; rw [e.1, e.2]; rfl)
theorem sa_g2 (l : List Int32) : sa s (o + 2) l = wG s o (uC (gd s o) l) := by
  refine St_ext (fun q => ?_) rfl (fun o' k' => ?_) rfl
  · simp only [ia_wG, ia_sa]
    (repeat' split) <;> first | rfl | (exfalso; omega) | (rename_i e; rw [e]; rfl) | (rename_i e _; rw [e]; rfl)
  · simp only [fi_wG, fi_sa]
    (repeat' split) <;> first | rfl | (rename_i e; rw [e.1, e.2]; rfl)
theorem sa_g3 (l : List Int32) : sa s (o + 3) l = wG s o (uV (gd s o) l) := by
  refine St_ext (fun q => ?_) rfl (fun o' k' => ?_) rfl
  · simp only [ia_wG, ia_sa]
    (repeat' split) <;> first | rfl | (exfalso; omega) | (rename_i e; rw [e]; rfl) | (rename_i e _; rw [e]; rfl)
  · simp only [fi_wG, fi_sa]
    (repeat' split) <;> first | rfl | (rename_i e; rw [e.1, e.2]; rfl)
theorem sa_g4 (l : List Int32) : sa s (o + 4) l = wG s o (uS (gd s o) l) := by
  refine St_ext (fun q => ?_) rfl (fun o' k' => ?_) rfl
  · simp only [ia_wG, ia_sa]
    (repeat' split) <;> first | rfl | (exfalso; omega) | (rename_i e; rw [e]; rfl) | (rename_i e _; rw [e]; rfl)
  · simp only [fi_wG, fi_sa]
    (repeat' split) <;> first | rfl | (rename_i e; rw [e.1, e.2]; rfl)
theorem sf_m9 (x : Int32) : sf s o 9 x = wM s o (uD (md s o) x) := by
  refine St_ext (fun q => ?_) rfl (fun o' k' => ?_) rfl
  · simp only [ia_wM, ia_sf]
    (repeat' split) <;> first | rfl | (rename_i e; rw [e]; rfl)
  · simp only [fi_wM, fi_sf]
    (repeat' split) <;> first | rfl | (exfalso; omega) | (rename_i e; rw [e.1, e.2]; rfl) | (rename_i e _; rw [e.1, e.2]; rfl)
theorem sf_m10 (x : Int32) : sf s o 10 x = wM s o (uT (md s o) x) := by
  refine St_ext (fun q => ?_) rfl (fun o' k' => ?_) rfl
  · simp only [ia_wM, ia_sf]
    (repeat' split) <;> first | rfl | (rename_i e; rw [e]; rfl)
  · simp only [fi_wM, fi_sf]
    (repeat' split) <;> first | rfl | (exfalso; omega) | (rename_i e; rw [e.1, e.2]; rfl) | (rename_i e _; rw [e.1, e.2]; rfl)
theorem sf_m14 (x : Int32) : sf s o 14 x = wM s o (uW (md s o) x) := by
  refine St_ext (fun q => ?_) rfl (fun o' k' => ?_) rfl
  · simp only [ia_wM, ia_sf]
    (repeat' split) <;> first | rfl | (rename_i e; rw [e]; rfl)
  · simp only [fi_wM, fi_sf]
    (repeat' split) <;> first | rfl | (exfalso; omega) | (rename_i e; rw [e.1, e.2]; rfl) | (rename_i e _; rw [e.1, e.2]; rfl)
theorem sf_m16 (x : Int32) : sf s o 16 x = wM s o (uE (md s o) x) := by
  refine St_ext (fun q => ?_) rfl (fun o' k' => ?_) rfl
  · simp only [ia_wM, ia_sf]
    (repeat' split) <;> first | rfl | (rename_i e; rw [e]; rfl)
  · simp only [fi_wM, fi_sf]
    (repeat' split) <;> first | rfl | (exfalso; omega) | (rename_i e; rw [e.1, e.2]; rfl) | (rename_i e _; rw [e.1, e.2]; rfl)
theorem sa_m17 (l : List Int32) : sa s (o + 17) l = wM s o (uK (md s o) l) := by
  refine St_ext (fun q => ?_) rfl (fun o' k' => ?_) rfl
  · simp only [ia_wM, ia_sa]
    (repeat' split) <;> first | rfl | (exfalso; omega) | (rename_i e; rw [e]; rfl) | (rename_i e _; rw [e]; rfl)
  · simp only [fi_wM, fi_sa]
    (repeat' split) <;> first | rfl | (rename_i e; rw [e.1, e.2]; rfl)
theorem sa_m18 (l : List Int32) : sa s (o + 18) l = wM s o (uC (md s o) l) := by
  refine St_ext (fun q => ?_) rfl (fun o' k' => ?_) rfl
  · simp only [ia_wM, ia_sa]
    (repeat' split) <;> first | rfl | (exfalso; omega) | (rename_i e; rw [e]; rfl) | (rename_i e _; rw [e]; rfl)
  · simp only [fi_wM, fi_sa]
    (repeat' split) <;> first | rfl | (rename_i e; rw [e.1, e.2]; rfl)
theorem sa_m19 (l : List Int32) : sa s (o + 19) l = wM s o (uV (md s o) l) := by
  refine St_ext (fun q => ?_) rfl (fun o' k' => ?_) rfl
  · simp only [ia_wM, ia_sa]
    (repeat' split) <;> first | rfl | (exfalso; omega) | (rename_i e; rw [e]; rfl) | (rename_i e _; rw [e]; rfl)
  · simp only [fi_wM, fi_sa]
    (repeat' split) <;> first | rfl | (rename_i e; rw [e.1, e.2]; rfl)
theorem sa_m20 (l : List Int32) : sa s (o + 20) l = wM s o (uS (md s o) l) := by
  refine St_ext (fun q => ?_) rfl (fun o' k' => ?_) rfl
  · simp only [ia_wM, ia_sa]
    (repeat' split) <;> first | rfl | (exfalso; omega) | (rename_i e; rw [e]; rfl) | (rename_i e _; rw [e]; rfl)
  · simp only [fi_wM, fi_sa]
    (repeat' split) <;> first | rfl | (rename_i e; rw [e.1, e.2]; rfl)
end WG
/-! ===== the one side runs, the other is not touched ===== -/
noncomputable def eC (s s' : St) : Prop := (∀ p, p < 44 → ¬ qA p → ia s' p = ia s p) ∧ (∀ p, p < 44 → la s' p = la s p) ∧ (∀ o k, o < 44 → ¬ qF o k → fi s' o k = fi s o k) ∧ (∀ p, p < 67 → (ia s' p).length = (ia s p).length) ∧ (∀ p, p < 67 → (la s' p).length = (la s p).length)
noncomputable def eM (s s' : St) : Prop := (∀ p, 44 ≤ p → ¬ qA p → ia s' p = ia s p) ∧ (∀ p, 44 ≤ p → p ≠ 57 → la s' p = la s p) ∧ (∀ o k, 44 ≤ o → ¬ qF o k → fi s' o k = fi s o k) ∧ s'.2.2.2 = s.2.2.2 ∧ (∀ p, p < 67 → (ia s' p).length = (ia s p).length) ∧ (∀ p, p < 67 → (la s' p).length = (la s p).length)
section EE
variable {s s' s2 : St}
theorem qq.eC (h : qq s s') : eC s s' := ⟨fun p _ hq => h.1 p hq, fun p hp => h.2.1 p (by omega), fun o k _ hq => h.2.2.1 o k hq, fun p _ => h.2.2.2.2.1 p, fun p _ => h.2.2.2.2.2 p⟩
theorem qq.eM (h : qq s s') : eM s s' := ⟨fun p _ hq => h.1 p hq, fun p _ hp => h.2.1 p hp, fun o k _ hq => h.2.2.1 o k hq, h.2.2.2.1, fun p _ => h.2.2.2.2.1 p, fun p _ => h.2.2.2.2.2 p⟩
theorem eC.refl (s : St) : eC s s := (qq.refl s).eC
theorem eM.refl (s : St) : eM s s := (qq.refl s).eM
theorem eC.trans (h : eC s s') (k : eC s' s2) : eC s s2 := ⟨fun p hp hq => (k.1 p hp hq).trans (h.1 p hp hq), fun p hp => (k.2.1 p hp).trans (h.2.1 p hp), fun o q ho hq => (k.2.2.1 o q ho hq).trans (h.2.2.1 o q ho hq), fun p hp => (k.2.2.2.1 p hp).trans (h.2.2.2.1 p hp), fun p hp => (k.2.2.2.2 p hp).trans (h.2.2.2.2 p hp)⟩
theorem eM.trans (h : eM s s') (k : eM s' s2) : eM s s2 := ⟨fun p hp hq => (k.1 p hp hq).trans (h.1 p hp hq), fun p hp hq => (k.2.1 p hp hq).trans (h.2.1 p hp hq), fun o q ho hq => (k.2.2.1 o q ho hq).trans (h.2.2.1 o q ho hq), k.2.2.2.1.trans h.2.2.2.1, fun p hp => (k.2.2.2.2.1 p hp).trans (h.2.2.2.2.1 p hp), fun p hp => (k.2.2.2.2.2 p hp).trans (h.2.2.2.2.2 p hp)⟩
/-- an array of the class's -/
theorem eM.a {p : Nat} {l : List Int32} (hp : p < 44) (hl : l.length = (ia s' p).length) (h : eM s s') : eM s (sa s' p l) := h.trans ⟨fun q hq _ => by rw [ia_sa, if_neg (by omega)], fun _ _ _ => rfl, fun _ _ _ _ => rfl, rfl, fun q _ => by
    rw [ia_sa]
    split
    · rename_i e; rw [e]; exact hl
    · rfl, fun _ _ => rfl⟩
theorem eM.l {p : Nat} {l : List Int64} (hp : p < 44) (hl : l.length = (la s' p).length) (h : eM s s') : eM s (sl s' p l) := h.trans ⟨fun _ _ _ => rfl, fun q hq _ => by rw [la_sl, if_neg (by omega)], fun _ _ _ _ => rfl, rfl, fun _ _ => rfl, fun q _ => by
    rw [la_sl]
    split
    · rename_i e; rw [e]; exact hl
    · rfl⟩
theorem eM.f {o k : Nat} {x : Int32} (ho : o < 44) (h : eM s s') : eM s (sf s' o k x) := h.trans ⟨fun _ _ _ => rfl, fun _ _ _ => rfl, fun o' k' h' _ => by rw [fi_sf, if_neg (by omega)], rfl, fun _ _ => rfl, fun _ _ => rfl⟩
theorem eC.a {p : Nat} {l : List Int32} (hp : 44 ≤ p) (hl : p < 67 → l.length = (ia s' p).length) (h : eC s s') : eC s (sa s' p l) := h.trans ⟨fun q hq _ => by rw [ia_sa, if_neg (by omega)], fun _ _ => rfl, fun _ _ _ _ => rfl, fun q hq => by
    rw [ia_sa]
    split
    · rename_i e; rw [e]; exact hl (by omega)
    · rfl, fun _ _ => rfl⟩
theorem eC.l {p : Nat} {l : List Int64} (hp : 44 ≤ p) (hl : p < 67 → l.length = (la s' p).length) (h : eC s s') : eC s (sl s' p l) := h.trans ⟨fun _ _ _ => rfl, fun q hq => by rw [la_sl, if_neg (by omega)], fun _ _ _ _ => rfl, fun _ _ => rfl, fun q hq => by
    rw [la_sl]
    split
    · rename_i e; rw [e]; exact hl (by omega)
    · rfl⟩
theorem eC.f {o k : Nat} {x : Int32} (ho : 44 ≤ o) (h : eC s s') : eC s (sf s' o k x) := h.trans ⟨fun _ _ _ => rfl, fun _ _ => rfl, fun o' k' h' _ => by rw [fi_sf, if_neg (by omega)], fun _ _ => rfl, fun _ _ => rfl⟩
end EE
/-! ===== what the class holds ===== -/
noncomputable def sh (g : Gd) : Prop := (kS g).length = 12 ∧ (cS g).length = 12 ∧ (vS g).length = 12 ∧ (wS g).length = 8
theorem ok.sh {g : Gd} (h : ok g) : sh g := h.2.2.2.1
abbrev Rw : Type := Option (Int32 × Int32 × List Int64)
abbrev Ab : Type := Gd × Option Gd × (List Int32 × Int32) × (Nat → Rw)
noncomputable def shC (s : St) (k : Nat) : Rw := if fi s (28 + 2 * k) 1 = i3 (-1) then none else some (fi s (28 + 2 * k) 1, fi s (28 + 2 * k) 2, la s (29 + 2 * k))
noncomputable def abC (s : St) : Ab := (gd s 1, (if fi s 0 10 = 0 then none else some (gd s 11)), (ia s 25, fi s 24 1), fun k => if k < 8 then shC s k else none)
noncomputable def shO (s : St) (k : Nat) : Prop := (la s (29 + 2 * k)).length = 40 ∧ (fi s (28 + 2 * k) 1 = i3 (-1) ∨ (¬ fi s (28 + 2 * k) 1 < 0 ∧ fi s (28 + 2 * k) 1 ≤ i3 4)) ∧ (¬ fi s (28 + 2 * k) 2 < 0 ∧ fi s (28 + 2 * k) 2 ≤ i3 40) ∧ (fi s (28 + 2 * k) 1 = i3 (-1) → fi s (28 + 2 * k) 2 = 0) ∧ (fi s (28 + 2 * k) 3 = i3 (-1) ∨ (isT (gd s 1) (fi s (28 + 2 * k) 3) ∧ fi s (28 + 2 * k) 1 = i3 (-1)))
noncomputable def CI (s : St) : Prop := Cq s ∧ sh (gd s 6) ∧ sh (gd s 11) ∧ ((ia s 25).length = 250 ∧ ¬ fi s 24 1 < 0 ∧ fi s 24 1 ≤ i3 250) ∧ (fi s 0 10 = 0 ∨ (fi s 0 10 = 1 ∧ ok (gd s 11))) ∧ ∀ k, k < 8 → shO s k
section CI
variable {s s' : St}
theorem eC.gd1 (h : eC s s') : gd s' 1 = gd s 1 := by
  have f := fun k hk => h.2.2.1 1 k (by omega) hk
  have a := fun p hp hq => h.1 p hp hq
  unfold gd
  rw [f 4 (by unfold qF sF; omega), f 5 (by unfold qF sF; omega), f 6 (by unfold qF sF; omega), f 7 (by unfold qF sF; omega), a _ (by omega) (by unfold qA sA; omega), a _ (by omega) (by unfold qA sA; omega), a _ (by omega) (by unfold qA sA; omega), a _ (by omega) (by unfold qA sA; omega)]
theorem eC.gd11 (h : eC s s') : gd s' 11 = gd s 11 := by
  have f := fun k hk => h.2.2.1 11 k (by omega) hk
  have a := fun p hp hq => h.1 p hp hq
  unfold gd
  rw [f 4 (by unfold qF sF; omega), f 5 (by unfold qF sF; omega), f 6 (by unfold qF sF; omega), f 7 (by unfold qF sF; omega), a _ (by omega) (by unfold qA sA; omega), a _ (by omega) (by unfold qA sA; omega), a _ (by omega) (by unfold qA sA; omega), a _ (by omega) (by unfold qA sA; omega)]
theorem eC.sh6 (h : eC s s') (k : sh (gd s 6)) : sh (gd s' 6) := ⟨(h.2.2.2.1 7 (by omega)).trans k.1, (h.2.2.2.1 8 (by omega)).trans k.2.1, (h.2.2.2.1 9 (by omega)).trans k.2.2.1, (h.2.2.2.1 10 (by omega)).trans k.2.2.2⟩
theorem eC.fs (h : eC s s') {k : Nat} (hk : k < 8) (j : Nat) : fi s' (28 + 2 * k) j = fi s (28 + 2 * k) j := h.2.2.1 _ j (by omega) (by unfold qF sF; omega)
theorem eC.ls (h : eC s s') {k : Nat} (hk : k < 8) : la s' (29 + 2 * k) = la s (29 + 2 * k) := h.2.1 _ (by omega)
theorem eC.sz (h : eC s s') (z : Sz s) : Sz s' := by
  unfold Sz
  rw [h.2.2.2.1 17 (by omega), h.2.2.2.1 19 (by omega), h.2.2.2.1 22 (by omega), h.2.2.2.1 65 (by omega), h.2.2.2.1 66 (by omega), h.2.2.2.2 57 (by omega)]
  exact z
theorem eC.cq (h : eC s s') (c : Cq s) : Cq s' := ⟨by rw [h.gd1]; exact c.1, h.sz c.2.1, (h.2.2.2.1 27 (by omega)).trans c.2.2⟩
theorem eC.ci (h : eC s s') (c : CI s) : CI s' := by
  obtain ⟨c1, c2, c3, c4, c5, c6⟩ := c
  have e1 : fi s' 24 1 = fi s 24 1 := h.2.2.1 24 1 (by omega) (by unfold qF sF; omega)
  have e2 : fi s' 0 10 = fi s 0 10 := h.2.2.1 0 10 (by omega) (by unfold qF sF; omega)
  refine ⟨h.cq c1, h.sh6 c2, by rw [h.gd11]; exact c3, ⟨(h.2.2.2.1 25 (by omega)).trans c4.1, by rw [e1]; exact c4.2⟩, by rw [e2, h.gd11]; exact c5, fun k hk => ?_⟩
  unfold shO
  rw [h.ls hk, h.fs hk, h.fs hk, h.fs hk, h.gd1]
  exact c6 k hk
theorem eC.ab (h : eC s s') : abC s' = abC s := by
  unfold abC
  rw [h.gd1, h.gd11, h.2.2.1 0 10 (by omega) (by unfold qF sF; omega), h.2.2.1 24 1 (by omega) (by unfold qF sF; omega), h.1 25 (by omega) (by unfold qA sA; omega)]
  refine congrArg _ (congrArg _ (congrArg _ (funext fun k => ?_)))
  split
  · rename_i hk
    unfold shC
    rw [h.ls hk, h.fs hk, h.fs hk]
  · rfl
end CI
/-- a call of the class's: its answer, and what it holds then -/
noncomputable def CC {α : Type} (s : St) (m : Option (α × tH)) (v : α) (A : Ab) : Prop := ∃ s', m = some (v, H s') ∧ CI s' ∧ eM s s' ∧ abC s' = A
theorem Ans.cc {α : Type} {s : St} {m : Option (α × tH)} {v : α} (c : CI s) (h : Ans s m v) : CC s m v (abC s) := by
  obtain ⟨s1, e, q⟩ := h
  exact ⟨s1, e, q.eC.ci c, q.eM, q.eC.ab⟩
end
section
/-! ===== gardens stay gardens ===== -/
theorem i32_and_or (a b c : Int32) : a &&& (b ||| c) = (a &&& b) ||| (a &&& c) := by
  apply Int32.toBitVec_inj.mp
  rw [Int32.toBitVec_and, Int32.toBitVec_or, Int32.toBitVec_or, Int32.toBitVec_and, Int32.toBitVec_and]
  ext i
  simp [Bool.and_or_distrib_left]
theorem d1_lt {d x : Nat} (h : 0 < d) : d - 1 - x < d := by omega
theorem d1_sub {d x : Nat} (h : x < d) : ((d : Int) - 1 - (x : Int)) = ((d - 1 - x : Nat) : Int) := by omega
theorem d1_inj {d x y : Nat} (hx : x < d) (hy : y < d) (e : d - 1 - x = d - 1 - y) : x = y := by omega
theorem tIn_none {g : Gd} (h : ok g) {c : Int32} : tIn g c = i3 (-1) ↔ ∀ t, isT g t → ¬ cA g t = c := by
  have hn := h.n_le
  unfold tIn
  cases hf : fst? (fun k => decide (cA g (i3 (k : Int)) = c)) (nn g) 0 with
  | none =>
    refine ⟨fun _ t ht e => ?_, fun _ => rfl⟩
    have h1 := fst?_none hf t.toNatClampNeg (Nat.zero_le _) (by have := h.tl ht; omega)
    rw [← i3_cl ht.1] at h1
    exact absurd e (by simpa using h1)
  | some k =>
    obtain ⟨h1, h2, h3, h4⟩ := fst?_some hf
    refine ⟨fun e => ?_, fun e => absurd (of_decide_eq_true h3) (e _ (h.T (by omega)))⟩
    have e' : i3 (k : Int) = i3 (-1) := e
    rw [i3_inj ⟨by omega, by omega⟩ ⟨by omega, by omega⟩] at e'
    omega
theorem tIn_some {g : Gd} (h : ok g) {t : Int32} (ht : isT g t) : tIn g (cA g t) = t := by
  have hn := h.n_le
  unfold tIn
  cases hf : fst? (fun k => decide (cA g (i3 (k : Int)) = cA g t)) (nn g) 0 with
  | none =>
    have h1 := fst?_none hf t.toNatClampNeg (Nat.zero_le _) (by have := h.tl ht; omega)
    rw [← i3_cl ht.1] at h1
    simp at h1
  | some k =>
    obtain ⟨h1, h2, h3, h4⟩ := fst?_some hf
    exact h.2.2.2.2.2.2.1 _ _ (h.T (by omega)) ht (of_decide_eq_true h3)
theorem rd_set {l : List Int32} {i j x : Int32} (hi : ¬ i < 0) (hj : ¬ j < 0) (hl : i.toNatClampNeg < l.length) : rd (l.set i.toNatClampNeg x) j = if j = i then x else rd l j := by
  unfold rd
  rw [List.getD_eq_getElem?_getD, List.getElem?_set]
  by_cases e : j = i
  · subst e
    simp [hl]
  · have e2 : ¬ i.toNatClampNeg = j.toNatClampNeg := fun e2 => e (by rw [i3_cl hi, i3_cl hj, e2])
    rw [if_neg e2, if_neg e, List.getD_eq_getElem?_getD]
theorem ok_uE {g : Gd} (h : ok g) (x : Int32) : ok (uE g x) := h
theorem ok_uW0 {g : Gd} (h : ok g) : ok (uW g (i3 0)) := ⟨h.1, h.2.1, ⟨by show ¬ i3 0 < 0; decide +kernel, by show i3 0 ≤ i3 8; decide +kernel⟩, h.2.2.2.1, h.2.2.2.2.1, h.2.2.2.2.2.1, h.2.2.2.2.2.2.1, fun i hi => absurd (show i3 0 ≤ i by
  have := hi.1
  rw [Int32.lt_iff_toInt_lt] at this
  rw [Int32.le_iff_toInt_le]
  have e : (0 : Int32).toInt = 0 := by decide +kernel
  have e2 : (i3 0).toInt = 0 := by decide +kernel
  omega) hi.2⟩
theorem ok_uD {g : Gd} (h : ok g) (h0 : tN g ≤ 0) {x : Int32} (h1 : i3 3 ≤ x) (h2 : x ≤ i3 8) : ok (uD g x) := by
  have no : ∀ t, ¬ isT g t := fun t ht => by
    have a := ht.1
    have b := ht.2
    rw [Int32.lt_iff_toInt_lt] at a
    rw [Int32.le_iff_toInt_le] at b h0
    have e : (0 : Int32).toInt = 0 := by decide +kernel
    omega
  exact ⟨⟨h1, h2⟩, h.2.1, h.2.2.1, h.2.2.2.1, fun t ht => absurd ht (no t), fun t ht => absurd ht (no t), fun t u ht => absurd ht (no t), h.2.2.2.2.2.2.2⟩
/-- a tree in another cell -/
noncomputable def mvT (g : Gd) (t c : Int32) : Gd := uC g ((cS g).set t.toNatClampNeg c)
theorem cA_mvT {g : Gd} (h : ok g) {t : Int32} (ht : isT g t) (c : Int32) {u : Int32} (hu : isT g u) : cA (mvT g t c) u = if u = t then c else cA g u := by
  have h1 := h.tl ht
  have h2 := h.n_le
  exact rd_set ht.1 hu.1 (by rw [h.2.2.2.1.2.1]; omega)
theorem ok_mvT {g : Gd} (h : ok g) {t c : Int32} (ht : isT g t) (hc : isCl g c) (hf : tIn g c = i3 (-1)) : ok (mvT g t c) := by
  have hF := (tIn_none h).mp hf
  refine ⟨h.1, h.2.1, h.2.2.1, ⟨h.2.2.2.1.1, (List.length_set).trans h.2.2.2.1.2.1, h.2.2.2.1.2.2⟩, h.2.2.2.2.1, fun u hu => ?_, fun u v hu hv e => ?_, h.2.2.2.2.2.2.2⟩
  · rw [cA_mvT h ht c hu]
    split
    · exact hc
    · exact h.2.2.2.2.2.1 u hu
  · rw [cA_mvT h ht c hu, cA_mvT h ht c hv] at e
    by_cases e1 : u = t <;> by_cases e2 : v = t
    · rw [e1, e2]
    · rw [if_pos e1, if_neg e2] at e
      exact absurd e.symm (hF v hv)
    · rw [if_neg e1, if_pos e2] at e
      exact absurd e (hF u hu)
    · rw [if_neg e1, if_neg e2] at e
      exact h.2.2.2.2.2.2.1 u v hu hv e
/-- one more tree -/
noncomputable def addT (g : Gd) (k c a : Int32) : Gd := (sD g, tN g + i3 1, wN g, sE g, (kS g).set (nn g) k, (cS g).set (nn g) c, (vS g).set (nn g) a, wS g)
/-- all trees, as bits -/
theorem all_eq {g : Gd} (h : ok g) : all g = i3 ((2 ^ nn g - 1 : Nat) : Int) := by
  have hn := h.n_le
  unfold all
  rw [h.n_eq]
  have : ∀ n : Nat, n < 13 → (i3 1 <<< (i3 (n : Int) &&& 31)) - i3 1 = i3 ((2 ^ n - 1 : Nat) : Int) := by decide +kernel
  exact this _ (by omega)
theorem st3_up {a b m : Int32} (hab : b ^^^ i3 (-1) = (a ^^^ i3 (-1)) &&& (b ^^^ i3 (-1))) (h : m &&& (a ^^^ i3 (-1)) = 0) : m &&& (b ^^^ i3 (-1)) = 0 := by
  rw [hab, ← Int32.and_assoc, h]
  exact Int32.zero_and
theorem ok_addT {g : Gd} (h : ok g) (hn : ¬ i3 12 ≤ tN g) {k c a : Int32} (hk : ¬ k < 0 ∧ k ≤ i3 5) (hc : isCl g c) (hf : tIn g c = i3 (-1)) : ok (addT g k c a) := by
  have hF := (tIn_none h).mp hf
  have n1 := h.n_le
  have n2 : nn g < 12 := by
    rw [h.n_eq, show i3 12 = i3 ((12 : Nat) : Int) from rfl, i3n_le (by omega) (by omega)] at hn
    omega
  have e1 : tN g + i3 1 = i3 ((nn g + 1 : Nat) : Int) := by rw [h.n_eq]; exact i3_nat_add _
  have tT : tN (addT g k c a) = i3 ((nn g + 1 : Nat) : Int) := e1
  have hT : ∀ t, isT (addT g k c a) t → t = i3 (nn g : Int) ∨ isT g t := fun t ht => by
    have b := ht.2
    rw [tT] at b
    have b1 := lt_cl (by omega) ht.1 b
    have b2 := i3_cl ht.1
    by_cases e : t.toNatClampNeg = nn g
    · left; rw [b2, e]
    · right
      rw [b2]
      exact h.T (by omega)
  have hN : ∀ t, isT g t → ¬ t = i3 (nn g : Int) := fun t ht e => by
    have b := h.tl ht
    rw [e, cl_i3 (by omega)] at b
    omega
  have cn : (i3 (nn g : Int)).toNatClampNeg = nn g := cl_i3 (by omega)
  have nnn : ¬ i3 (nn g : Int) < 0 := i3n_nneg (by omega)
  have R : ∀ (l : List Int32) (x t : Int32), l.length = 12 → ¬ t < 0 → rd (l.set (nn g) x) t = if t = i3 (nn g : Int) then x else rd l t := fun l x t hl ht => by
    have := rd_set (l := l) (x := x) nnn ht (by rw [cn]; omega)
    rw [cn] at this
    exact this
  refine ⟨h.1, ⟨?_, ?_⟩, h.2.2.1, ⟨(List.length_set).trans h.2.2.2.1.1, (List.length_set).trans h.2.2.2.1.2.1, (List.length_set).trans h.2.2.2.1.2.2.1, h.2.2.2.1.2.2.2⟩, fun t ht => ?_, fun t ht => ?_, fun t u ht hu e => ?_, fun i hi => ?_⟩
  · rw [tT]; exact i3n_nneg (by omega)
  · rw [tT, show i3 12 = i3 ((12 : Nat) : Int) from rfl, i3n_le (by omega) (by omega)]; omega
  · have er : kA (addT g k c a) t = _ := R (kS g) k t h.2.2.2.1.1 ht.1
    rw [er]
    rcases hT t ht with e | e
    · rw [if_pos e]; exact hk
    · rw [if_neg (hN t e)]; exact h.2.2.2.2.1 t e
  · have er : cA (addT g k c a) t = _ := R (cS g) c t h.2.2.2.1.2.1 ht.1
    rw [er]
    rcases hT t ht with e | e
    · rw [if_pos e]; exact hc
    · rw [if_neg (hN t e)]; exact h.2.2.2.2.2.1 t e
  · have e1 : cA (addT g k c a) t = _ := R (cS g) c t h.2.2.2.1.2.1 ht.1
    have e2 : cA (addT g k c a) u = _ := R (cS g) c u h.2.2.2.1.2.1 hu.1
    rw [e1, e2] at e
    rcases hT t ht with f1 | f1 <;> rcases hT u hu with f2 | f2
    · rw [f1, f2]
    · rw [if_pos f1, if_neg (hN u f2)] at e
      exact absurd e.symm (hF u f2)
    · rw [if_neg (hN t f1), if_pos f2] at e
      exact absurd e (hF t f1)
    · rw [if_neg (hN t f1), if_neg (hN u f2)] at e
      exact h.2.2.2.2.2.2.1 t u f1 f2 e
  · have w := h.2.2.2.2.2.2.2 i hi
    refine ⟨?_, w.2⟩
    refine st3_up ?_ w.1
    show (i3 1 <<< ((tN g + i3 1) &&& 31)) - i3 1 ^^^ i3 (-1) = (all g ^^^ i3 (-1)) &&& ((i3 1 <<< ((tN g + i3 1) &&& 31)) - i3 1 ^^^ i3 (-1))
    rw [e1, all_eq h]
    have : ∀ n : Nat, n < 12 → (i3 1 <<< (i3 ((n + 1 : Nat) : Int) &&& 31)) - i3 1 ^^^ i3 (-1) = (i3 ((2 ^ n - 1 : Nat) : Int) ^^^ i3 (-1)) &&& ((i3 1 <<< (i3 ((n + 1 : Nat) : Int) &&& 31)) - i3 1 ^^^ i3 (-1)) := by decide +kernel
    exact this _ n2
/-- one more wish -/
noncomputable def addW (g : Gd) (m : Int32) : Gd := uS (uW g (wN g + i3 1)) ((wS g).set (wn g) m)
theorem ok_addW {g : Gd} (h : ok g) (hw : ¬ i3 8 ≤ wN g) {m : Int32} (hm : st3 g m) : ok (addW g m) := by
  have n1 := h.w_le
  have n2 : wn g < 8 := by
    rw [h.w_eq, show i3 8 = i3 ((8 : Nat) : Int) from rfl, i3n_le (by omega) (by omega)] at hw
    omega
  have e1 : wN g + i3 1 = i3 ((wn g + 1 : Nat) : Int) := by rw [h.w_eq]; exact i3_nat_add _
  have tT : wN (addW g m) = i3 ((wn g + 1 : Nat) : Int) := e1
  have cn : (i3 (wn g : Int)).toNatClampNeg = wn g := cl_i3 (by omega)
  have nnn : ¬ i3 (wn g : Int) < 0 := i3n_nneg (by omega)
  refine ⟨h.1, h.2.1, ⟨?_, ?_⟩, ⟨h.2.2.2.1.1, h.2.2.2.1.2.1, h.2.2.2.1.2.2.1, (List.length_set).trans h.2.2.2.1.2.2.2⟩, h.2.2.2.2.1, h.2.2.2.2.2.1, h.2.2.2.2.2.2.1, fun i hi => ?_⟩
  · rw [tT]; exact i3n_nneg (by omega)
  · rw [tT, show i3 8 = i3 ((8 : Nat) : Int) from rfl, i3n_le (by omega) (by omega)]; omega
  · have er : wA (addW g m) i = if i = i3 (wn g : Int) then m else rd (wS g) i := by
      have := rd_set (l := wS g) (x := m) nnn hi.1 (by rw [cn, h.2.2.2.1.2.2.2]; omega)
      rw [cn] at this
      exact this
    rw [er]
    by_cases e : i = i3 (wn g : Int)
    · rw [if_pos e]; exact hm
    · rw [if_neg e]
      refine h.2.2.2.2.2.2.2 i ?_
      have b := hi.2
      rw [tT] at b
      have b1 := lt_cl (by omega) hi.1 b
      have b2 := i3_cl hi.1
      have : ¬ i.toNatClampNeg = wn g := fun e' => e (by rw [b2, e'])
      rw [b2]
      exact h.W (by omega)
/-- counting that comes to nothing -/
theorem itr_zero_cnt {p : Nat → Prop} {hd : ∀ k, Decidable (p k)} : ∀ (n : Nat), n ≤ 1000 → ∃ m, m ≤ n ∧ itr (fun k (a : Int32) => if p k then a else a + i3 1) n (i3 0) = i3 (m : Int) ∧ (m = 0 → ∀ k, k < n → p k)
  | 0, _ => ⟨0, Nat.le_refl _, rfl, fun _ k hk => absurd hk (Nat.not_lt_zero _)⟩
  | n + 1, hn => by
    obtain ⟨m, h1, h2, h3⟩ := itr_zero_cnt (p := p) (hd := hd) n (by omega)
    by_cases c : p n
    · refine ⟨m, by omega, ?_, fun e k hk => ?_⟩
      · show (if p n then _ else _) = _
        rw [if_pos c, h2]
      · by_cases ek : k = n
        · rw [ek]; exact c
        · exact h3 e k (by omega)
    · refine ⟨m + 1, by omega, ?_, fun e => by omega⟩
      show (if p n then _ else _) = _
      rw [if_neg c, h2]
      exact i3_nat_add m
theorem ww_zero {g : Gd} (h : ok g) {t : Int32} (hz : ww g t = 0) {i : Int32} (hi : isW g i) : wA g i &&& bit t = 0 := by
  have hw := h.w_le
  obtain ⟨m, h1, h2, h3⟩ := itr_zero_cnt (p := fun k => (wA g (i3 (k : Int)) &&& bit t) = 0) (hd := fun _ => inferInstance) (wn g) (by omega)
  have e : ww g t = i3 (m : Int) := h2
  rw [e] at hz
  have hm : m = 0 := (i3n_inj (b := 0) (by omega) (by omega)).mp hz
  have := h3 hm i.toNatClampNeg (h.wl hi)
  rw [← i3_cl hi.1] at this
  exact this
theorem ok_fell {g : Gd} (h : ok g) (hf : fel g) : ok (uT g (tN g - i3 1)) := by
  have hn := h.n_le
  have n0 : 0 < nn g := by
    have := hf.1
    rw [h.n_eq, show (0 : Int32) = i3 ((0 : Nat) : Int) from rfl, i3n_le (by omega) (by omega)] at this
    omega
  have e1 : tN g - i3 1 = i3 ((nn g - 1 : Nat) : Int) := by rw [h.n_eq]; exact i3_nat_sub n0
  have tT : tN (uT g (tN g - i3 1)) = i3 ((nn g - 1 : Nat) : Int) := e1
  have hT : ∀ t, isT (uT g (tN g - i3 1)) t → isT g t := fun t ht => by
    have b := ht.2
    rw [tT] at b
    have b1 := lt_cl (by omega) ht.1 b
    rw [i3_cl ht.1]
    exact h.T (by omega)
  refine ⟨h.1, ⟨?_, ?_⟩, h.2.2.1, h.2.2.2.1, fun t ht => h.2.2.2.2.1 t (hT t ht), fun t ht => h.2.2.2.2.2.1 t (hT t ht), fun t u ht hu => h.2.2.2.2.2.2.1 t u (hT t ht) (hT u hu), fun i hi => ?_⟩
  · rw [tT]; exact i3n_nneg (by omega)
  · rw [tT, show i3 12 = i3 ((12 : Nat) : Int) from rfl, i3n_le (by omega) (by omega)]; omega
  · have w := h.2.2.2.2.2.2.2 i hi
    have z := ww_zero h hf.2 hi
    refine ⟨?_, w.2⟩
    show wA g i &&& ((i3 1 <<< ((tN g - i3 1) &&& 31)) - i3 1 ^^^ i3 (-1)) = 0
    rw [e1] at z ⊢
    have w1 := w.1
    rw [all_eq h] at w1
    have key : ∀ n : Nat, n < 13 → 0 < n → (i3 1 <<< (i3 ((n - 1 : Nat) : Int) &&& 31)) - i3 1 ^^^ i3 (-1) = (i3 ((2 ^ n - 1 : Nat) : Int) ^^^ i3 (-1)) ||| (i3 1 <<< (i3 ((n - 1 : Nat) : Int) &&& 31)) := by decide +kernel
    rw [key _ (by omega) n0, i32_and_or, w1]
    show 0 ||| (wA g i &&& bit (i3 ((nn g - 1 : Nat) : Int))) = 0
    rw [z]
    rfl
/-! ===== rows and columns as whole numbers ===== -/
theorem i3_divN {a d : Nat} (ha : a < 1000) (hd : 0 < d ∧ d < 1000) : i3 (a : Int) / i3 (d : Int) = i3 ((a / d : Nat) : Int) := by
  rw [i3_div ⟨by omega, by omega⟩ ⟨by omega, by omega⟩]
  rfl
theorem i3_modN {a d : Nat} (ha : a < 1000) (hd : 0 < d ∧ d < 1000) : i3 (a : Int) - i3 (a : Int) / i3 (d : Int) * i3 (d : Int) = i3 ((a % d : Nat) : Int) := by
  rw [i3_divN ha hd, i3_mul, i3_sub]
  congr 1
  have := Nat.div_add_mod a d
  have e : (a : Int) = ((d * (a / d) + a % d : Nat) : Int) := by rw [this]
  rw [e, Int.natCast_add, Int.natCast_mul, Int.mul_comm]
  omega
section RC
variable {g : Gd}
theorem ok.ro (h : ok g) {k : Nat} (hk : k < 1000) : rO g (i3 (k : Int)) = i3 ((k / dn g : Nat) : Int) := by
  have h1 := h.d_le
  have h2 := h.d_ge
  show i3 (k : Int) / sD g = _
  rw [h.d_eq, i3_divN hk (by omega)]
theorem ok.co (h : ok g) {k : Nat} (hk : k < 1000) : cO g (i3 (k : Int)) = i3 ((k % dn g : Nat) : Int) := by
  have h1 := h.d_le
  have h2 := h.d_ge
  show i3 (k : Int) - i3 (k : Int) / sD g * sD g = _
  rw [h.d_eq, i3_modN hk (by omega)]
theorem ok.cell (h : ok g) {r c : Nat} (hr : r < dn g) (hc : c < dn g) : cellO g (i3 (r : Int)) (i3 (c : Int)) = i3 ((r * dn g + c : Nat) : Int) := by
  have h1 := h.d_le
  unfold cellO
  rw [h.d_eq, if_neg (i3n_nneg (by omega)), if_neg (by rw [i3n_le (by omega) (by omega)]; omega), if_neg (i3n_nneg (by omega)), if_neg (by rw [i3n_le (by omega) (by omega)]; omega), i3_mul, i3_add]
  rfl
theorem cell_rc {d k : Nat} (hk : k < d * d) : k / d < d ∧ k % d < d := ⟨Nat.div_lt_of_lt_mul hk, Nat.mod_lt _ (Nat.pos_of_ne_zero (fun e => by rw [e] at hk; omega))⟩
theorem ok_trn (h : ok g) {k : Nat} (hk : k < dn g * dn g) : trn g (i3 (k : Int)) = i3 (((k % dn g) * dn g + (dn g - 1 - k / dn g) : Nat) : Int) := by
  have h1 := h.d_le
  have h2 := h.d_ge
  have h3 := h.cc_le
  have h4 := cell_rc hk
  unfold trn
  rw [h.ro (by omega), h.co (by omega)]
  have e : sD g - i3 1 - i3 ((k / dn g : Nat) : Int) = i3 ((dn g - 1 - k / dn g : Nat) : Int) := by
    rw [h.d_eq, i3_sub, i3_sub, d1_sub h4.1]
  rw [e, h.cell h4.2 (d1_lt (by omega))]
theorem ok_mir (h : ok g) {k : Nat} (hk : k < dn g * dn g) : mir g (i3 (k : Int)) = i3 (((k / dn g) * dn g + (dn g - 1 - k % dn g) : Nat) : Int) := by
  have h1 := h.d_le
  have h2 := h.d_ge
  have h3 := h.cc_le
  have h4 := cell_rc hk
  unfold mir
  rw [h.ro (by omega), h.co (by omega)]
  have e : sD g - i3 1 - i3 ((k % dn g : Nat) : Int) = i3 ((dn g - 1 - k % dn g : Nat) : Int) := by
    rw [h.d_eq, i3_sub, i3_sub, d1_sub h4.2]
  rw [e, h.cell h4.1 (d1_lt (by omega))]
theorem rc_lt {d r c : Nat} (hr : r < d) (hc : c < d) : r * d + c < d * d := by
  have : (r + 1) * d ≤ d * d := Nat.mul_le_mul_right _ hr
  rw [Nat.add_mul] at this
  omega
theorem rc_div {d r c : Nat} (hc : c < d) : (r * d + c) / d = r := by
  rw [Nat.mul_comm, Nat.mul_add_div (by omega), Nat.div_eq_of_lt hc, Nat.add_zero]
theorem rc_mod {d r c : Nat} (hc : c < d) : (r * d + c) % d = c := by
  rw [Nat.mul_comm, Nat.mul_add_mod, Nat.mod_eq_of_lt hc]
theorem rc_inj {d a b : Nat} (h1 : a / d = b / d) (h2 : a % d = b % d) : a = b := by
  rw [← Nat.div_add_mod a d, ← Nat.div_add_mod b d, h1, h2]
/-- all cells changed one way -/
noncomputable def mpF (f : Int32 → Int32) (k : Nat) (l : List Int32) : List Int32 := l.set k (f (l.getD k 0))
noncomputable def mpC (g : Gd) (f : Int32 → Int32) : Gd := uC g (itr (mpF f) (nn g) (cS g))
theorem mpF_get {f : Int32 → Int32} : ∀ (n : Nat) (l : List Int32), n ≤ l.length → (itr (mpF f) n l).length = l.length ∧ ∀ j, (itr (mpF f) n l).getD j 0 = if j < n then f (l.getD j 0) else l.getD j 0
  | 0, l, _ => ⟨rfl, fun j => by rw [if_neg (Nat.not_lt_zero _)]; rfl⟩
  | n + 1, l, hn => by
    obtain ⟨h1, h2⟩ := mpF_get (f := f) n l (by omega)
    refine ⟨(List.length_set).trans h1, fun j => ?_⟩
    show ((itr (mpF f) n l).set n (f ((itr (mpF f) n l).getD n 0))).getD j 0 = _
    rw [List.getD_eq_getElem?_getD, List.getElem?_set]
    by_cases e : n = j
    · subst e
      rw [if_pos rfl, if_pos (by omega), if_pos (by omega), h2 n, if_neg (by omega)]
      rfl
    · rw [if_neg e, ← List.getD_eq_getElem?_getD, h2 j]
      by_cases c : j < n
      · rw [if_pos c, if_pos (by omega)]
      · rw [if_neg c, if_neg (by omega)]
theorem cA_mpC {f : Int32 → Int32} (h : ok g) {t : Int32} (ht : isT g t) : cA (mpC g f) t = f (cA g t) := by
  have h1 := h.tl ht
  have h2 := (mpF_get (f := f) (nn g) (cS g) (by rw [h.2.2.2.1.2.1]; exact h.n_le)).2 t.toNatClampNeg
  rw [if_pos h1] at h2
  exact h2
theorem ok_mpC {f : Int32 → Int32} (h : ok g) (hf : ∀ c, isCl g c → isCl g (f c)) (hi : ∀ c d, isCl g c → isCl g d → f c = f d → c = d) : ok (mpC g f) := by
  have h2 := (mpF_get (f := f) (nn g) (cS g) (by rw [h.2.2.2.1.2.1]; exact h.n_le)).1
  refine ⟨h.1, h.2.1, h.2.2.1, ⟨h.2.2.2.1.1, h2.trans h.2.2.2.1.2.1, h.2.2.2.1.2.2⟩, h.2.2.2.2.1, fun u hu => ?_, fun u v hu hv e => ?_, h.2.2.2.2.2.2.2⟩
  · rw [cA_mpC h hu]
    exact hf _ (h.2.2.2.2.2.1 u hu)
  · rw [cA_mpC h hu, cA_mpC h hv] at e
    exact h.2.2.2.2.2.2.1 u v hu hv (hi _ _ (h.2.2.2.2.2.1 u hu) (h.2.2.2.2.2.1 v hv) e)
theorem trn_cl (h : ok g) {c : Int32} (hc : isCl g c) : isCl g (trn g c) := by
  have hk := h.cl hc
  have h4 := cell_rc hk
  rw [i3_cl hc.1, ok_trn h hk]
  exact h.C (rc_lt h4.2 (d1_lt (by have := h.d_ge; omega)))
theorem mir_cl (h : ok g) {c : Int32} (hc : isCl g c) : isCl g (mir g c) := by
  have hk := h.cl hc
  have h4 := cell_rc hk
  rw [i3_cl hc.1, ok_mir h hk]
  exact h.C (rc_lt h4.1 (d1_lt (by have := h.d_ge; omega)))
theorem trn_inj (h : ok g) {c d : Int32} (hc : isCl g c) (hd : isCl g d) (e : trn g c = trn g d) : c = d := by
  have k1 := h.cl hc
  have k2 := h.cl hd
  have r1 := cell_rc k1
  have r2 := cell_rc k2
  have b := h.cc_le
  have l1 := rc_lt r1.2 (d1_lt (x := c.toNatClampNeg / dn g) (show 0 < dn g by have := h.d_ge; omega))
  have l2 := rc_lt r2.2 (d1_lt (x := d.toNatClampNeg / dn g) (show 0 < dn g by have := h.d_ge; omega))
  rw [i3_cl hc.1, i3_cl hd.1, ok_trn h k1, ok_trn h k2, i3n_inj (by omega) (by omega)] at e
  have e1 := congrArg (· / dn g) e
  have e2 := congrArg (· % dn g) e
  have dp : 0 < dn g := by have := h.d_ge; omega
  rw [rc_div (d1_lt dp), rc_div (d1_lt dp)] at e1
  rw [rc_mod (d1_lt dp), rc_mod (d1_lt dp)] at e2
  rw [i3_cl hc.1, i3_cl hd.1, rc_inj (d1_inj r1.1 r2.1 e2) e1]
theorem mir_inj (h : ok g) {c d : Int32} (hc : isCl g c) (hd : isCl g d) (e : mir g c = mir g d) : c = d := by
  have k1 := h.cl hc
  have k2 := h.cl hd
  have r1 := cell_rc k1
  have r2 := cell_rc k2
  have b := h.cc_le
  have l1 := rc_lt r1.1 (d1_lt (x := c.toNatClampNeg % dn g) (show 0 < dn g by have := h.d_ge; omega))
  have l2 := rc_lt r2.1 (d1_lt (x := d.toNatClampNeg % dn g) (show 0 < dn g by have := h.d_ge; omega))
  rw [i3_cl hc.1, i3_cl hd.1, ok_mir h k1, ok_mir h k2, i3n_inj (by omega) (by omega)] at e
  have e1 := congrArg (· / dn g) e
  have e2 := congrArg (· % dn g) e
  have dp : 0 < dn g := by have := h.d_ge; omega
  rw [rc_div (d1_lt dp), rc_div (d1_lt dp)] at e1
  rw [rc_mod (d1_lt dp), rc_mod (d1_lt dp)] at e2
  rw [i3_cl hc.1, i3_cl hd.1, rc_inj e1 (d1_inj r1.2 r2.2 e2)]
theorem ok_turn (h : ok g) : ok (mpC g (trn g)) := ok_mpC h (fun _ hc => trn_cl h hc) (fun _ _ hc hd e => trn_inj h hc hd e)
theorem ok_mirr (h : ok g) : ok (mpC g (mir g)) := ok_mpC h (fun _ hc => mir_cl h hc) (fun _ _ hc hd e => mir_inj h hc hd e)
/-- there is room -/
theorem inj_le : ∀ (n m : Nat) (f : Nat → Nat), (∀ i, i < m → f i < n) → (∀ i j, i < m → j < m → f i = f j → i = j) → m ≤ n
  | 0, m, f, h1, _ => by
    by_cases e : m = 0
    · omega
    · exact absurd (h1 0 (by omega)) (Nat.not_lt_zero _)
  | n + 1, 0, f, _, _ => Nat.zero_le _
  | n + 1, m + 1, f, h1, h2 => by
    have := inj_le n m (fun i => if f i = n then f m else f i) (fun i hi => by
      by_cases e : f i = n
      · rw [if_pos e]
        have a := h1 m (by omega)
        have b : f m ≠ n := fun e2 => by
          have := h2 i m (by omega) (by omega) (by omega)
          omega
        omega
      · rw [if_neg e]
        have := h1 i (by omega)
        omega) (fun i j hi hj e => by
      by_cases e1 : f i = n <;> by_cases e2 : f j = n
      · exact h2 i j (by omega) (by omega) (by omega)
      · rw [if_pos e1, if_neg e2] at e
        have := h2 m j (by omega) (by omega) e
        omega
      · rw [if_neg e1, if_pos e2] at e
        have := h2 i m (by omega) (by omega) e
        omega
      · rw [if_neg e1, if_neg e2] at e
        exact h2 i j (by omega) (by omega) e)
    omega
theorem free_ex (h : ok g) (hr : ¬ cc g ≤ tN g) : ∃ k, k < dn g * dn g ∧ tIn g (i3 (k : Int)) = i3 (-1) := by
  refine Classical.byContradiction fun hno => ?_
  have hn := h.n_le
  have hcc := h.cc_le
  have no : ∀ k, k < dn g * dn g → ∃ t, t < nn g ∧ cA g (i3 (t : Int)) = i3 (k : Int) := fun k hk => by
    refine Classical.byContradiction fun hn2 => hno ⟨k, hk, (tIn_none h).mpr (fun t ht e => hn2 ⟨t.toNatClampNeg, h.tl ht, ?_⟩)⟩
    rw [← i3_cl ht.1]; exact e
  have hf : ∀ k, ∃ t, k < dn g * dn g → t < nn g ∧ cA g (i3 (t : Int)) = i3 (k : Int) := fun k => by
    by_cases hk : k < dn g * dn g
    · obtain ⟨t, ht⟩ := no k hk
      exact ⟨t, fun _ => ht⟩
    · exact ⟨0, fun e => absurd e hk⟩
  obtain ⟨f, hf⟩ := Classical.axiomOfChoice hf
  have := inj_le (nn g) (dn g * dn g) f (fun i hi => (hf i hi).1) (fun i j hi hj e => by
    have a := (hf i hi).2
    have b := (hf j hj).2
    rw [e, b] at a
    exact ((i3n_inj (by omega) (by omega)).mp a).symm)
  rw [h.cc_eq, h.n_eq, i3n_le (by omega) (by omega)] at hr
  exact hr this
end RC
end
section
/-! ===== the class changes its garden ===== -/
theorem t_cpy_all {α : Type} {f g : List α} {n : Nat} (hf : f.length = n) (hg : g.length = n) : t_cpy f g 0 0 n = f := by
  unfold t_cpy
  rw [List.take_zero, List.nil_append, List.drop_zero, Nat.zero_add, List.take_of_length_le (by omega), List.drop_eq_nil_of_le (by omega), List.append_nil]
theorem r_cp {s : St} {a b : Nat} (ha : isG a) (hb : isG b) : (∀ {n : Nat}, (ia s (a + 1)).length = n → (ia s (b + 1)).length = n → n ≤ 1000 → cpI (H s) (b + 1) (i3 ((0 : Nat) : Int)) (a + 1) (i3 ((0 : Nat) : Int)) (i3 (n : Int)) = some (H (sa s (a + 1) (ia s (b + 1))))) ∧ (∀ {n : Nat}, (ia s (a + 2)).length = n → (ia s (b + 2)).length = n → n ≤ 1000 → cpI (H s) (b + 2) (i3 ((0 : Nat) : Int)) (a + 2) (i3 ((0 : Nat) : Int)) (i3 (n : Int)) = some (H (sa s (a + 2) (ia s (b + 2))))) ∧ (∀ {n : Nat}, (ia s (a + 3)).length = n → (ia s (b + 3)).length = n → n ≤ 1000 → cpI (H s) (b + 3) (i3 ((0 : Nat) : Int)) (a + 3) (i3 ((0 : Nat) : Int)) (i3 (n : Int)) = some (H (sa s (a + 3) (ia s (b + 3))))) ∧ (∀ {n : Nat}, (ia s (a + 4)).length = n → (ia s (b + 4)).length = n → n ≤ 1000 → cpI (H s) (b + 4) (i3 ((0 : Nat) : Int)) (a + 4) (i3 ((0 : Nat) : Int)) (i3 (n : Int)) = some (H (sa s (a + 4) (ia s (b + 4))))) := by
  have key : ∀ {j k n : Nat} {f g : List Int32}, (H s)[j]? = some (.inl (0, .inl f)) → (H s)[k]? = some (.inl (0, .inl g)) → g.length = n → f.length = n → n ≤ 1000 → cpI (H s) j (i3 ((0 : Nat) : Int)) k (i3 ((0 : Nat) : Int)) (i3 (n : Int)) = some ((H s).set k (.inl (0, .inl f))) := by
    intro j k n f g hj hk hg hf hn
    rw [cpI_of hj hk (by omega) (by omega) (by omega) (by omega), t_cpy_all hf hg]
  rcases ha with rfl | rfl | rfl <;> rcases hb with rfl | rfl | rfl
  all_goals exact ⟨fun h1 h2 h3 => key rfl rfl h1 h2 h3, fun h1 h2 h3 => key rfl rfl h1 h2 h3, fun h1 h2 h3 => key rfl rfl h1 h2 h3, fun h1 h2 h3 => key rfl rfl h1 h2 h3⟩
theorem gd_ne {s : St} {a b : Nat} (ha : isG a) (hb : isG b) (hab : a ≠ b) (g : Gd) : gd (wG s a g) b = gd s b := by
  rcases ha with rfl | rfl | rfl <;> rcases hb with rfl | rfl | rfl
  all_goals first | exact absurd rfl hab | rfl
section CM
variable {s : St} {o : Nat}
theorem q_69 {a b : Nat} (ha : isG a) (hb : isG b) (hab : a ≠ b) (h1 : sh (gd s a)) (h2 : sh (gd s b)) : m_69 a b (H s) = some (H (wG s a (gd s b))) := by
  unfold m_69
  obtain ⟨a1, a2, a3, a4⟩ := h1
  obtain ⟨b1, b2, b3, b4⟩ := h2
  have G : ∀ g : Gd, gd (wG s a g) b = gd s b := fun g => gd_ne ha hb hab g
  have z0 : (Int32.ofInt 0) = i3 ((0 : Nat) : Int) := rfl
  have z12 : (Int8.ofInt 12).toInt32 = i3 ((12 : Nat) : Int) := by decide +kernel
  have z8 : (Int8.ofInt 8).toInt32 = i3 ((8 : Nat) : Int) := by decide +kernel
  have I1 : ∀ g : Gd, ia (wG s a g) (b + 1) = ia s (b + 1) := fun g => congrArg kS (G g)
  have I2 : ∀ g : Gd, ia (wG s a g) (b + 2) = ia s (b + 2) := fun g => congrArg cS (G g)
  have I3 : ∀ g : Gd, ia (wG s a g) (b + 3) = ia s (b + 3) := fun g => congrArg vS (G g)
  have I4 : ∀ g : Gd, ia (wG s a g) (b + 4) = ia s (b + 4) := fun g => congrArg wS (G g)
  have J2 : ∀ g : Gd, ia (wG s a g) (a + 2) = cS g := fun g => congrArg cS (gd_wG s a g)
  have J3 : ∀ g : Gd, ia (wG s a g) (a + 3) = vS g := fun g => congrArg vS (gd_wG s a g)
  have J4 : ∀ g : Gd, ia (wG s a g) (a + 4) = wS g := fun g => congrArg wS (gd_wG s a g)
  rw [(r_G ha s).1, Option.bind_some, (r_G hb s).2.1, Option.bind_some, (r_G ha s).2.1, Option.bind_some, z0, z12, (r_cp ha hb).1 a1 b1 (by omega), Option.bind_some, sa_g1]
  rw [(r_G hb _).2.2.1, Option.bind_some, (r_G ha _).2.2.1, Option.bind_some, (r_cp ha hb).2.1 (by rw [J2]; exact a2) (by rw [I2]; exact b2) (by omega), Option.bind_some, sa_g2, wG_wG, gd_wG, I2]
  rw [(r_G hb _).2.2.2.1, Option.bind_some, (r_G ha _).2.2.2.1, Option.bind_some, (r_cp ha hb).2.2.1 (by rw [J3]; exact a3) (by rw [I3]; exact b3) (by omega), Option.bind_some, sa_g3, wG_wG, gd_wG, I3]
  rw [(r_G hb _).2.2.2.2.1, Option.bind_some, (r_G ha _).2.2.2.2.1, Option.bind_some, z8, (r_cp ha hb).2.2.2 (by rw [J4]; exact a4) (by rw [I4]; exact b4) (by omega), Option.bind_some, sa_g4, wG_wG, gd_wG, I4]
  simp only [r_G hb, r_G ha, Option.bind_some, sf_g4, sf_g5, sf_g6, sf_g7, wG_wG, gd_wG, G]
  rfl
theorem q_89 (ho : isG o) (h : ok (gd s o)) (hn : ¬ i3 12 ≤ tN (gd s o)) (k c a : Int32) : m_89 o k c a (H s) = some (H (wG s o (addT (gd s o) k c a))) := by
  have n1 := h.n_le
  have n2 : nn (gd s o) < 12 := by
    rw [h.n_eq, show i3 12 = i3 ((12 : Nat) : Int) from rfl, i3n_le (by omega) (by omega)] at hn
    omega
  unfold m_89
  have e1 : ∀ y, st32 (kS (gd s o)) (tN (gd s o)) y = some ((kS (gd s o)).set (nn (gd s o)) y) := fun y => st_wr h.2.1.1 (by rw [h.2.2.2.1.1]; exact n2)
  have e2 : ∀ y, st32 (cS (gd s o)) (tN (gd s o)) y = some ((cS (gd s o)).set (nn (gd s o)) y) := fun y => st_wr h.2.1.1 (by rw [h.2.2.2.1.2.1]; exact n2)
  have e3 : ∀ y, st32 (vS (gd s o)) (tN (gd s o)) y = some ((vS (gd s o)).set (nn (gd s o)) y) := fun y => st_wr h.2.1.1 (by rw [h.2.2.2.1.2.2.1]; exact n2)
  have x1 : ∀ (g : Gd) l, tN (uK g l) = tN g := fun _ _ => rfl
  have x2 : ∀ (g : Gd) l, tN (uC g l) = tN g := fun _ _ => rfl
  have x3 : ∀ (g : Gd) l, tN (uV g l) = tN g := fun _ _ => rfl
  have x4 : ∀ (g : Gd) l, cS (uK g l) = cS g := fun _ _ => rfl
  have x5 : ∀ (g : Gd) l, vS (uC g l) = vS g := fun _ _ => rfl
  have x6 : ∀ (g : Gd) l, vS (uK g l) = vS g := fun _ _ => rfl
  simp only [r_G ho, Option.bind_some, jn, cst, bP_if, rB_0, rB_1, z00, z10, ↓reduceIte, hn, e1, Option.map_some, fun s => sa_g1 s o, gd_wG, x1, x4, e2, fun s => sa_g2 s o, wG_wG, x2, x5, x6, e3, fun s => sa_g3 s o, x3, sf_g5]
  rfl
theorem q_91 (ho : isG o) (hn : ¬ tN (gd s o) ≤ 0) : m_91 o (H s) = some (H (wG s o (uT (gd s o) (tN (gd s o) - i3 1)))) := by
  unfold m_91
  simp only [r_G ho, Option.bind_some, jn, cst, bP_if, rB_0, rB_1, z00, z10, ↓reduceIte, hn, sf_g5]
theorem q_96 (ho : isG o) (h : ok (gd s o)) (hn : ¬ i3 8 ≤ wN (gd s o)) (m : Int32) : m_96 o m (H s) = some (H (wG s o (addW (gd s o) m))) := by
  have n1 := h.w_le
  have n2 : wn (gd s o) < 8 := by
    rw [h.w_eq, show i3 8 = i3 ((8 : Nat) : Int) from rfl, i3n_le (by omega) (by omega)] at hn
    omega
  unfold m_96
  have e1 : ∀ y, st32 (wS (gd s o)) (wN (gd s o)) y = some ((wS (gd s o)).set (wn (gd s o)) y) := fun y => st_wr h.2.2.1.1 (by rw [h.2.2.2.1.2.2.2]; exact n2)
  have x1 : ∀ (g : Gd) l, wN (uS g l) = wN g := fun _ _ => rfl
  simp only [r_G ho, Option.bind_some, jn, cst, bP_if, rB_0, rB_1, z00, z10, ↓reduceIte, hn, e1, Option.map_some, fun s => sa_g4 s o, gd_wG, x1, sf_g6, wG_wG]
  rfl
end CM
/-! ===== draws ===== -/
noncomputable def nxs (x : Int32) : Int32 := x * Int32.ofNat 1103515245 + i3 12345
noncomputable def up16 (x : Int32) : Int32 := (Int32.toUInt32 x >>> (Int32.toUInt32 (i3 16) &&& Int32.toUInt32 31)).toInt32
noncomputable def dr (x n : Int32) : Int32 := up16 x - up16 x / n * n
theorem up16_eq (x : Int32) : ∃ k : Nat, k < 65536 ∧ up16 x = i3 (k : Int) := by
  have e : Int32.toUInt32 (i3 16) &&& Int32.toUInt32 31 = 16 := by decide +kernel
  refine ⟨(Int32.toUInt32 x >>> 16).toNat, ?_, ?_⟩
  · rw [UInt32.toNat_shiftRight]
    have h1 := (Int32.toUInt32 x).toNat_lt
    have h2 : (16 : UInt32).toNat % 32 = 16 := by decide +kernel
    rw [h2, Nat.shiftRight_eq_div_pow]
    omega
  · unfold up16
    rw [e]
    apply Int32.toBitVec_inj.mp
    rw [Int32.toBitVec_ofInt]
    show (Int32.toUInt32 x >>> 16).toBitVec = BitVec.ofInt 32 ((Int32.toUInt32 x >>> 16).toBitVec.toNat : Int)
    rw [BitVec.ofInt_natCast, BitVec.ofNat_toNat, BitVec.setWidth_eq]
theorem dr_bd {n : Nat} (hn : 0 < n ∧ n < 1000) (x : Int32) : ∃ k : Nat, k < n ∧ dr x (i3 (n : Int)) = i3 (k : Int) := by
  obtain ⟨k, hk, e⟩ := up16_eq x
  refine ⟨k % n, Nat.mod_lt _ hn.1, ?_⟩
  unfold dr
  rw [e, i3_div ⟨by omega, by omega⟩ ⟨by omega, by omega⟩, i3_mul, i3_sub]
  congr 1
  show (k : Int) - ((k / n : Nat) : Int) * (n : Int) = _
  have h1 := Nat.div_add_mod k n
  have e2 : (k : Int) = ((n * (k / n) + k % n : Nat) : Int) := by rw [h1]
  rw [e2, Int.natCast_add, Int.natCast_mul, Int.mul_comm]
  omega
/-- a tree by draws -/
noncomputable def drw (g : Gd) : Gd := addT (uE g (nxs (nxs (nxs (sE g))))) (dr (nxs (sE g)) (i3 6)) (nxf g (dr (nxs (nxs (sE g))) (cc g))) (dr (nxs (nxs (nxs (sE g)))) (i3 10))
section DR
variable {g : Gd}
/-- the next that is free is found -/
theorem nfF_free (h : ok g) {f : Nat} (hf : f < dn g * dn g) (hff : tIn g (i3 (f : Int)) = i3 (-1)) : ∀ (n k : Nat), k < dn g * dn g → (if k ≤ f then f - k else dn g * dn g + f - k) < n → isCl g (nfF g n (i3 (k : Int))) ∧ tIn g (nfF g n (i3 (k : Int))) = i3 (-1)
  | 0, k, hk, hd => absurd hd (Nat.not_lt_zero _)
  | n + 1, k, hk, hd => by
    have hcc := h.cc_le
    show isCl g (if tIn g (i3 (k : Int)) = i3 (-1) then i3 (k : Int) else nfF g n (if cc g ≤ i3 (k : Int) + i3 1 then i3 0 else i3 (k : Int) + i3 1)) ∧ tIn g (if tIn g (i3 (k : Int)) = i3 (-1) then i3 (k : Int) else nfF g n (if cc g ≤ i3 (k : Int) + i3 1 then i3 0 else i3 (k : Int) + i3 1)) = i3 (-1)
    by_cases c : tIn g (i3 (k : Int)) = i3 (-1)
    · rw [if_pos c]
      exact ⟨h.C hk, c⟩
    · rw [if_neg c]
      have hkf : k ≠ f := fun e => c (by rw [e]; exact hff)
      have e1 : i3 (k : Int) + i3 1 = i3 ((k + 1 : Nat) : Int) := i3_nat_add k
      rw [e1]
      by_cases c2 : k + 1 < dn g * dn g
      · rw [if_neg (h.C c2).2]
        refine nfF_free h hf hff n (k + 1) c2 ?_
        split at hd <;> split <;> omega
      · rw [if_pos (h.Ce (by omega) (by omega))]
        refine nfF_free h hf hff n 0 (by omega) ?_
        rw [if_pos (Nat.zero_le _)]
        split at hd <;> omega
theorem nxf_free (h : ok g) (hr : ¬ cc g ≤ tN g) {c : Int32} (hc : isCl g c) : isCl g (nxf g c) ∧ tIn g (nxf g c) = i3 (-1) := by
  obtain ⟨f, hf, hff⟩ := free_ex h hr
  have hk := h.cl hc
  unfold nxf
  rw [i3_cl hc.1]
  refine nfF_free h hf hff _ _ hk ?_
  split <;> omega
theorem drw_cell (h : ok g) (hr : ¬ cc g ≤ tN g) : isCl g (nxf g (dr (nxs (nxs (sE g))) (cc g))) ∧ tIn g (nxf g (dr (nxs (nxs (sE g))) (cc g))) = i3 (-1) := by
  have h1 := h.d_ge
  have h2 := h.cc_le
  have h3 : 9 ≤ dn g * dn g := Nat.mul_le_mul h1 h1
  obtain ⟨k, hk, e⟩ := dr_bd (n := dn g * dn g) (by omega) (nxs (nxs (sE g)))
  refine nxf_free h hr ?_
  rw [h.cc_eq, e]
  exact h.C hk
theorem nfF_uE (g : Gd) (x : Int32) : ∀ (n : Nat) (c : Int32), nfF (uE g x) n c = nfF g n c
  | 0, c => rfl
  | n + 1, c => by
    show (if tIn g c = i3 (-1) then c else nfF (uE g x) n (if cc g ≤ c + i3 1 then i3 0 else c + i3 1)) = (if tIn g c = i3 (-1) then c else nfF g n (if cc g ≤ c + i3 1 then i3 0 else c + i3 1))
    rw [nfF_uE g x n]
theorem ok_addE (h : ok g) (hn : ¬ i3 12 ≤ tN g) (x : Int32) {k c : Int32} (a : Int32) (hk : ¬ k < 0 ∧ k ≤ i3 5) (hc : isCl g c) (hf : tIn g c = i3 (-1)) : ok (addT (uE g x) k c a) := ok_addT (g := uE g x) (ok_uE h x) hn hk hc hf
theorem ok_drw (h : ok g) (hn : ¬ i3 12 ≤ tN g) (hr : ¬ cc g ≤ tN g) : ok (drw g) := by
  obtain ⟨k, hk, e⟩ := dr_bd (n := 6) (by omega) (nxs (sE g))
  have hc := drw_cell h hr
  unfold drw
  refine ok_addE h hn _ _ ?_ hc.1 hc.2
  have e' : dr (nxs (sE g)) (i3 6) = i3 (k : Int) := e
  rw [e']
  exact ⟨i3n_nneg (by omega), (i3n_le (b := 5) (by omega) (by omega)).mpr (by omega)⟩
end DR
section CD
variable {s : St} {o : Nat}
theorem q_99 (ho : isG o) {n : Int32} (h1 : i3 1 ≤ n) (h0 : ¬ n = 0) : m_99 o n (H s) = some (dr (nxs (sE (gd s o))) n, H (wG s o (uE (gd s o) (nxs (sE (gd s o)))))) := by
  have x1 : ∀ (g : Gd) x, sE (uE g x) = x := fun _ _ => rfl
  unfold m_99
  simp only [r_G ho, Option.bind_some, jn, cst, bP_if, rB_0, rB_1, z00, z10, ↓reduceIte, rmI, h1, h0, sf_g7, gd_wG, x1]
  rfl
theorem q_101 (ho : isG o) (h : ok (gd s o)) (hn : ¬ i3 12 ≤ tN (gd s o)) : m_101 o (H s) = some (H (wG s o (drw (gd s o)))) := by
  have d1 : i3 1 ≤ cc (gd s o) := by
    have h1 := h.d_ge
    have h2 := h.cc_le
    have h3 : 9 ≤ dn (gd s o) * dn (gd s o) := Nat.mul_le_mul h1 h1
    rw [h.cc_eq]
    exact (i3n_le (a := 1) (by omega) (by omega)).mpr (by omega)
  have d0 : ¬ cc (gd s o) = 0 := by
    have h1 := h.d_ge
    have h2 := h.cc_le
    have h3 : 9 ≤ dn (gd s o) * dn (gd s o) := Nat.mul_le_mul h1 h1
    rw [h.cc_eq]
    exact fun e => by
      have := (i3n_inj (b := 0) (by omega) (by omega)).mp e
      omega
  have a1 : i3 1 ≤ (Int8.ofInt 6).toInt32 := by decide +kernel
  have a0 : ¬ (Int8.ofInt 6).toInt32 = 0 := by decide +kernel
  have b1 : i3 1 ≤ (Int8.ofInt 10).toInt32 := by decide +kernel
  have b0 : ¬ (Int8.ofInt 10).toInt32 = 0 := by decide +kernel
  have y1 : ∀ (g : Gd) x, cc (uE g x) = cc g := fun _ _ => rfl
  have y2 : ∀ (g : Gd) x y, uE (uE g x) y = uE g y := fun _ _ _ => rfl
  have y3 : ∀ (g : Gd) x, sE (uE g x) = x := fun _ _ => rfl
  have y4 : ∀ (g : Gd) x c, nxf (uE g x) c = nxf g c := fun g x c => nfF_uE g x _ c
  have k1 : ∀ x, ok (gd (wG s o (uE (gd s o) x)) o) := fun x => by rw [gd_wG]; exact ok_uE h x
  have k2 : ∀ x, ¬ i3 12 ≤ tN (gd (wG s o (uE (gd s o) x)) o) := fun x => by rw [gd_wG]; exact hn
  unfold m_101
  rw [(r_G ho s).1, Option.bind_some, q_99 ho a1 a0, Option.bind_some, q_70 ho, Option.bind_some, gd_wG, y1, q_99 ho d1 d0, Option.bind_some, wG_wG, gd_wG, y2, y3, q_100 ho (k1 _), Option.bind_some, q_99 ho b1 b0, Option.bind_some, wG_wG, gd_wG, y2, y3, q_89 ho (k1 _) (k2 _), Option.bind_some, wG_wG, gd_wG]
  rw [show (Int8.ofInt 6).toInt32 = i3 6 from by decide +kernel, show (Int8.ofInt 10).toInt32 = i3 10 from by decide +kernel, y4]
  unfold drw
  rfl
end CD
/-! ===== the garden at 1 becomes another ===== -/
theorem eM_wG {s : St} {o : Nat} (ho : isG o) {g : Gd} (h1 : sh g) (h2 : sh (gd s o)) : eM s (wG s o g) := by
  obtain ⟨a1, a2, a3, a4⟩ := h1
  obtain ⟨b1, b2, b3, b4⟩ := h2
  have e1 : (ia s (o + 1)).length = 12 := b1
  have e2 : (ia s (o + 2)).length = 12 := b2
  have e3 : (ia s (o + 3)).length = 12 := b3
  have e4 : (ia s (o + 4)).length = 8 := b4
  have ho' : o ≤ 11 := by rcases ho with rfl | rfl | rfl <;> omega
  refine ⟨fun p hp _ => ?_, fun _ _ _ => rfl, fun o' k' h' _ => ?_, rfl, fun p _ => ?_, fun _ _ => rfl⟩
  · rw [ia_wG, if_neg (by omega), if_neg (by omega), if_neg (by omega), if_neg (by omega)]
  · rw [fi_wG, if_neg (by omega), if_neg (by omega), if_neg (by omega), if_neg (by omega)]
  · rw [ia_wG]
    split
    · rename_i e; rw [e, a1, e1]
    split
    · rename_i _ e; rw [e, a2, e2]
    split
    · rename_i _ _ e; rw [e, a3, e3]
    split
    · rename_i _ _ _ e; rw [e, a4, e4]
    rfl
theorem CI_wG {s : St} (c : CI s) {g : Gd} (h : ok g) (hT : ∀ k, k < 8 → isT (gd s 1) (fi s (28 + 2 * k) 3) → isT g (fi s (28 + 2 * k) 3)) : CI (wG s 1 g) := by
  obtain ⟨⟨c1, z, l27⟩, c2, c3, c4, c5, c6⟩ := c
  have em := eM_wG g1 h.sh c1.sh
  have g1' : gd (wG s 1 g) 1 = g := gd_wG s 1 g
  refine ⟨⟨by rw [g1']; exact h, ?_, l27⟩, c2, c3, c4, c5, fun k hk => ?_⟩
  · exact z
  · have f1 : ∀ j, fi (wG s 1 g) (28 + 2 * k) j = fi s (28 + 2 * k) j := fun j => by
      rw [fi_wG, if_neg (by omega), if_neg (by omega), if_neg (by omega), if_neg (by omega)]
    unfold shO
    rw [f1, f1, f1, g1']
    obtain ⟨d1, d2, d3, d4, d5⟩ := c6 k hk
    exact ⟨d1, d2, d3, d4, d5.elim Or.inl (fun e => Or.inr ⟨hT k hk e.1, e.2⟩)⟩
theorem ab_wG (s : St) (g : Gd) : abC (wG s 1 g) = (g, (abC s).2) := by
  unfold abC
  rw [gd_wG]
  refine congrArg _ (Prod.ext rfl (Prod.ext rfl (funext fun k => ?_)))
  show (if k < 8 then shC (wG s 1 g) k else none) = if k < 8 then shC s k else none
  split
  · unfold shC
    have f1 : ∀ j, fi (wG s 1 g) (28 + 2 * k) j = fi s (28 + 2 * k) j := fun j => by
      rw [fi_wG, if_neg (by omega), if_neg (by omega), if_neg (by omega), if_neg (by omega)]
    rw [f1, f1]
    rfl
  · rfl
theorem CC.set {α : Type} {s : St} (c : CI s) {g : Gd} (h : ok g) (hT : ∀ t, isT (gd s 1) t → isT g t) (v : α) : CC s (some (v, H (wG s 1 g))) v (g, (abC s).2) := ⟨_, rfl, CI_wG c h (fun _ _ ht => hT _ ht), eM_wG g1 h.sh c.1.1.sh, ab_wG s g⟩
end
section
/-! ===== shelves (class) ===== -/
theorem isS_k {k : Nat} (hk : k < 8) : isS (28 + 2 * k) := by unfold isS; omega
theorem sh_at (s : St) {k : Nat} (hk : k < 8) : aN (H s) 26 (i3 (k : Int)) = some (28 + 2 * k) := (r_sh s k hk).1
noncomputable def isSh (x : Int32) : Prop := ¬ x < 0 ∧ x < i3 8
theorem sh_nat {x : Int32} (h0 : ¬ x < 0) (h1 : x < i3 8) : x.toNatClampNeg < 8 := lt_cl (b := 8) (by omega) h0 (fun e => absurd h1 (by
  have := Int32.not_lt.mpr e
  exact this))
theorem q_60 {s : St} (x : Int32) : m_60 0 x (H s) = some (if x < 0 then none else if x < i3 8 then some (28 + 2 * x.toNatClampNeg) else none) := by
  unfold m_60
  simp only [r_0, Option.bind_some, jn, cst, bP_if, rB_0, rB_1, z00, z10, ↓reduceIte, i3_nat]
  by_cases c1 : x < 0
  · rw [if_pos c1, if_pos c1]
  rw [if_neg c1, if_neg c1]
  by_cases c2 : x < i3 8
  · have c2' : x < i3 ((8 : Nat) : Int) := c2
    rw [if_pos c2', if_pos c2]
    have := sh_at s (sh_nat c1 c2)
    rw [← i3_cl c1] at this
    rw [this]
    rfl
  · have c2' : ¬ x < i3 ((8 : Nat) : Int) := c2
    rw [if_neg c2', if_neg c2]
noncomputable def shN (s : St) (k : Nat) : Prop := (la s (29 + 2 * k)).length = 40 ∧ (fi s (28 + 2 * k) 1 = i3 (-1) ∨ (¬ fi s (28 + 2 * k) 1 < 0 ∧ fi s (28 + 2 * k) 1 ≤ i3 4)) ∧ (¬ fi s (28 + 2 * k) 2 < 0 ∧ fi s (28 + 2 * k) 2 ≤ i3 40) ∧ (fi s (28 + 2 * k) 1 = i3 (-1) → fi s (28 + 2 * k) 2 = 0) ∧ (fi s (28 + 2 * k) 3 = i3 (-1) ∨ (¬ fi s (28 + 2 * k) 3 < 0 ∧ fi s (28 + 2 * k) 1 = i3 (-1)))
/-- but for trees on shelves that are gone -/
noncomputable def CJ (s : St) : Prop := Cq s ∧ sh (gd s 6) ∧ sh (gd s 11) ∧ ((ia s 25).length = 250 ∧ ¬ fi s 24 1 < 0 ∧ fi s 24 1 ≤ i3 250) ∧ (fi s 0 10 = 0 ∨ (fi s 0 10 = 1 ∧ ok (gd s 11))) ∧ ∀ k, k < 8 → shN s k
theorem CI.cj {s : St} (c : CI s) : CJ s := ⟨c.1, c.2.1, c.2.2.1, c.2.2.2.1, c.2.2.2.2.1, fun k hk => by
  obtain ⟨d1, d2, d3, d4, d5⟩ := c.2.2.2.2.2 k hk
  exact ⟨d1, d2, d3, d4, d5.elim Or.inl (fun e => Or.inr ⟨e.1.1, e.2⟩)⟩⟩
theorem CJ_wG {s : St} (c : CJ s) {g : Gd} (h : ok g) : CJ (wG s 1 g) := by
  obtain ⟨⟨c1, z, l27⟩, c2, c3, c4, c5, c6⟩ := c
  have g1' : gd (wG s 1 g) 1 = g := gd_wG s 1 g
  refine ⟨⟨by rw [g1']; exact h, z, l27⟩, c2, c3, c4, c5, fun k hk => ?_⟩
  have f1 : ∀ j, fi (wG s 1 g) (28 + 2 * k) j = fi s (28 + 2 * k) j := fun j => by
    rw [fi_wG, if_neg (by omega), if_neg (by omega), if_neg (by omega), if_neg (by omega)]
  unfold shN
  rw [f1, f1, f1]
  exact c6 k hk
/-- only shelves' fields -/
noncomputable def eS (s s' : St) : Prop := s'.1 = s.1 ∧ s'.2.1 = s.2.1 ∧ (∀ o k, (o < 28 ∨ 43 < o) → fi s' o k = fi s o k) ∧ s'.2.2.2 = s.2.2.2
theorem eS.refl (s : St) : eS s s := ⟨rfl, rfl, fun _ _ _ => rfl, rfl⟩
theorem eS.f {s s' : St} (h : eS s s') {o k : Nat} {x : Int32} (ho : 28 ≤ o ∧ o ≤ 43) : eS s (sf s' o k x) := ⟨h.1, h.2.1, fun o' k' h' => by rw [fi_sf, if_neg (by omega)]; exact h.2.2.1 o' k' h', h.2.2.2⟩
theorem eS.eM {s s' : St} (h : eS s s') : eM s s' := by
  have a : ∀ p, ia s' p = ia s p := fun p => congrFun h.1 p
  have b : ∀ p, la s' p = la s p := fun p => congrFun h.2.1 p
  exact ⟨fun p _ _ => a p, fun p _ _ => b p, fun o k ho _ => h.2.2.1 o k (by omega), h.2.2.2, fun p _ => by rw [a], fun p _ => by rw [b]⟩
theorem eS_gd {s s' : St} (h : eS s s') {o : Nat} (ho : isG o) : gd s' o = gd s o := by
  have a : ∀ p, ia s' p = ia s p := fun p => congrFun h.1 p
  have f : ∀ k, fi s' o k = fi s o k := fun k => h.2.2.1 o k (by rcases ho with rfl | rfl | rfl <;> omega)
  unfold gd
  rw [f, f, f, f, a, a, a, a]
theorem q_156 {s : St} {o : Nat} (ho : isS o) (x : Int32) : m_156 o x (H s) = some (H (sf (sf (sf s o 1 (i3 (-1))) o 2 (i3 0)) o 3 x)) := by
  unfold m_156
  simp only [r_S ho, Option.bind_some, jn, cst, bP_if, rB_0, rB_1, z00, z10, ↓reduceIte]
/-- a shelf is as it was, or cleared of a tree -/
noncomputable def clr (s s' : St) (t : Int32) (k : Nat) : Prop := (fi s (28 + 2 * k) 3 < t ∧ ∀ j, fi s' (28 + 2 * k) j = fi s (28 + 2 * k) j) ∨ (¬ fi s (28 + 2 * k) 3 < t ∧ fi s' (28 + 2 * k) 1 = i3 (-1) ∧ fi s' (28 + 2 * k) 2 = i3 0 ∧ fi s' (28 + 2 * k) 3 = i3 (-1))
theorem q_62' {s : St} (t : Int32) : T (m_62 0 t (H s)) (fun th => ∃ s', th = H s' ∧ eS s s' ∧ ∀ k, k < 8 → clr s s' t k) := by
  unfold m_62
  simp only [r_0, Option.bind_some, jn, cst, bP_if, rB_0, rB_1, z00, z10, ↓reduceIte]
  refine lpH 8 (fun k q => ∃ s', q = (i3 (k : Int), H s') ∧ eS s s' ∧ (∀ j, j < 8 → j < k → clr s s' t j) ∧ (∀ j, j < 8 → k ≤ j → ∀ i, fi s' (28 + 2 * j) i = fi s (28 + 2 * j) i)) (fun th => ∃ s', th = H s' ∧ eS s s' ∧ ∀ k, k < 8 → clr s s' t k) ?_ ?_ ?_ ?_ (by omega)
  · rintro k _ hk ⟨s1, rfl, c1, a1, b1⟩ nx ex hnx hex
    have e8 : ¬ Int32.ofNat 8 ≤ i3 (k : Int) := by
      rw [i3_nat, i3n_le (by omega) (by omega)]; omega
    have e1 : ¬ i3 (k : Int) < 0 := i3n_nneg (by omega)
    have e2 : i3 (k : Int) < i3 8 := by
      show i3 (k : Int) < i3 ((8 : Nat) : Int)
      rw [i3n_lt (by omega) (by omega)]; exact hk
    have hS := isS_k hk
    have e3 := b1 k hk (Nat.le_refl _) 3
    simp only [r_0, Option.bind_some, jn, cst, bP_if, rB_0, rB_1, z00, z10, ↓reduceIte, e8, q_60, e1, e2, cl_i3 (show k < 2147483648 by omega), r_S hS, i3_nat_add, e3, q_156 hS]
    by_cases c : fi s (28 + 2 * k) 3 < t
    · rw [if_pos c]
      refine hnx _ ⟨s1, rfl, c1, fun j hj hjk => ?_, fun j hj hjk => b1 j hj (by omega)⟩
      by_cases e : j = k
      · subst e
        exact Or.inl ⟨c, fun i => b1 j hj (Nat.le_refl _) i⟩
      · exact a1 j hj (by omega)
    · rw [if_neg c]
      refine hnx _ ⟨_, rfl, ((c1.f (by omega)).f (by omega)).f (by omega), fun j hj hjk => ?_, fun j hj hjk i => ?_⟩
      · by_cases e : j = k
        · subst e
          right
          refine ⟨c, ?_, ?_, ?_⟩ <;> simp only [fi_sf] <;> simp
        · have n : ∀ i, fi (sf (sf (sf s1 (28 + 2 * k) 1 (i3 (-1))) (28 + 2 * k) 2 (i3 0)) (28 + 2 * k) 3 (i3 (-1))) (28 + 2 * j) i = fi s1 (28 + 2 * j) i := fun i => by
            rw [fi_sf, if_neg (by omega), fi_sf, if_neg (by omega), fi_sf, if_neg (by omega)]
          unfold clr
          have := a1 j hj (by omega)
          unfold clr at this
          rcases this with h | h
          · exact Or.inl ⟨h.1, fun i => (n i).trans (h.2 i)⟩
          · exact Or.inr ⟨h.1, (n 1).trans h.2.1, (n 2).trans h.2.2.1, (n 3).trans h.2.2.2⟩
      · rw [fi_sf, if_neg (by omega), fi_sf, if_neg (by omega), fi_sf, if_neg (by omega)]
        exact b1 j hj (by omega) i
  · rintro _ ⟨s1, rfl, c1, a1, b1⟩ nx ex hex
    have e8 : Int32.ofNat 8 ≤ i3 ((8 : Nat) : Int) := by decide +kernel
    simp only [r_0, Option.bind_some, jn, cst, bP_if, rB_0, rB_1, z00, z10, ↓reduceIte, e8]
    exact hex _ ⟨s1, rfl, c1, fun j hj => a1 j hj hj⟩
  · intro x hx
    exact T_some hx
  · exact ⟨s, rfl, eS.refl s, fun j _ hj => absurd hj (Nat.not_lt_zero _), fun _ _ _ _ => rfl⟩
theorem m1_lt {t : Int32} (ht : ¬ t < 0) : i3 (-1) < t := by
  rw [Int32.lt_iff_toInt_lt] at ht ⊢
  have e : (0 : Int32).toInt = 0 := by decide +kernel
  have e2 : (i3 (-1)).toInt = -1 := by decide +kernel
  omega
theorem q_62 {s : St} (c : CJ s) {t : Int32} (ht : ¬ t < 0) (hn : t ≤ tN (gd s 1)) : ∃ s', m_62 0 t (H s) = some (H s') ∧ CI s' ∧ eM s s' ∧ abC s' = abC s ∧ eS s s' := by
  obtain ⟨_, e, s1, rfl, es, hc⟩ := q_62' (s := s) t
  refine ⟨s1, e, ?_, es.eM, ?_, es⟩
  · obtain ⟨⟨c1, z, l27⟩, c2, c3, c4, c5, c6⟩ := c
    have ea : ∀ p, ia s1 p = ia s p := fun p => congrFun es.1 p
    have el : ∀ p, la s1 p = la s p := fun p => congrFun es.2.1 p
    have ef : ∀ o k, (o < 28 ∨ 43 < o) → fi s1 o k = fi s o k := es.2.2.1
    refine ⟨⟨by rw [eS_gd es g1]; exact c1, ?_, by rw [ea]; exact l27⟩, by rw [eS_gd es (Or.inr (Or.inl rfl))]; exact c2, by rw [eS_gd es (Or.inr (Or.inr rfl))]; exact c3, by rw [ea, ef 24 1 (by omega)]; exact c4, by rw [ef 0 10 (by omega), eS_gd es (Or.inr (Or.inr rfl))]; exact c5, fun k hk => ?_⟩
    · unfold Sz
      rw [ea, ea, ea, ea, ea, el]
      exact z
    · obtain ⟨d1, d2, d3, d4, d5⟩ := c6 k hk
      unfold shO
      rw [el, eS_gd es g1]
      rcases hc k hk with ⟨h1, h2⟩ | ⟨h1, h2, h3, h4⟩
      · rw [h2, h2, h2]
        refine ⟨d1, d2, d3, d4, d5.elim Or.inl (fun e => Or.inr ⟨⟨e.1, fun hle => ?_⟩, e.2⟩)⟩
        rw [Int32.le_iff_toInt_le] at hn hle
        rw [Int32.lt_iff_toInt_lt] at h1
        omega
      · rw [h2, h3, h4]
        exact ⟨d1, Or.inl rfl, ⟨by decide +kernel, by decide +kernel⟩, fun _ => rfl, Or.inl rfl⟩
  · unfold abC
    have ea : ∀ p, ia s1 p = ia s p := fun p => congrFun es.1 p
    have el : ∀ p, la s1 p = la s p := fun p => congrFun es.2.1 p
    rw [eS_gd es g1, eS_gd es (Or.inr (Or.inr rfl)), es.2.2.1 0 10 (by omega), es.2.2.1 24 1 (by omega), ea]
    refine congrArg _ (congrArg _ (congrArg _ (funext fun k => ?_)))
    by_cases hk : k < 8
    · rw [if_pos hk, if_pos hk]
      unfold shC
      rw [el]
      rcases hc k hk with ⟨h1, h2⟩ | ⟨h1, h2, h3, h4⟩
      · rw [h2, h2]
      · rw [h2, if_pos rfl]
        obtain ⟨d1, d2, d3, d4, d5⟩ := c.2.2.2.2.2 k hk
        rcases d5 with d5 | d5
        · rw [d5] at h1
          exact absurd (m1_lt ht) h1
        · rw [if_pos d5.2]
    · rw [if_neg hk, if_neg hk]
/-! ===== what calls do to the garden ===== -/
theorem CC.ref {s : St} (c : CI s) {x : Int32} (hx : isB x) : CC s ((m_59 0 x (H s)).bind fun q => some (q.1, q.2)) x (gd s 1, (abC s).2) := (Ans.cf c.1.2.2 hx).cc c
theorem CC.id {α : Type} {s : St} (c : CI s) (v : α) : CC s (some (v, H s)) v (gd s 1, (abC s).2) := ⟨s, rfl, c, eM.refl s, rfl⟩
noncomputable def vSide (g : Gd) (n : Int32) : Int32 := if n < i3 3 then i3 (-2) else if n ≤ i3 8 then if tN g ≤ 0 then sD g else i3 (-5) else i3 (-2)
noncomputable def gSide (g : Gd) (n : Int32) : Gd := if n < i3 3 then g else if n ≤ i3 8 then if tN g ≤ 0 then uD g n else g else g
noncomputable def vTree (g : Gd) (k c a : Int32) : Int32 := if k < 0 then i3 (-2) else if i3 5 < k then i3 (-2) else if isCl g c then if a < 0 then i3 (-2) else if a ≤ i3 9 then if tIn g c = i3 (-1) then if tN g < i3 12 then tN g + i3 1 - i3 1 else i3 (-6) else i3 (-5) else i3 (-2) else i3 (-2)
noncomputable def gTree (g : Gd) (k c a : Int32) : Gd := if k < 0 then g else if i3 5 < k then g else if isCl g c then if a < 0 then g else if a ≤ i3 9 then if tIn g c = i3 (-1) then if tN g < i3 12 then addT g k c a else g else g else g else g
noncomputable def vWish (g : Gd) (m : Int32) : Int32 := if st3 g m then if wN g < i3 8 then wN g + i3 1 - i3 1 else i3 (-6) else i3 (-2)
noncomputable def gWish (g : Gd) (m : Int32) : Gd := if st3 g m then if wN g < i3 8 then addW g m else g else g
noncomputable def vMove (g : Gd) (t c : Int32) : Int32 := if nomv g t c = 0 then cA g t else nomv g t c
noncomputable def gMove (g : Gd) (t c : Int32) : Gd := if nomv g t c = 0 then mvT g t c else g
noncomputable def vFell (g : Gd) : Int32 := if fel g then tN g - i3 1 else i3 (-5)
noncomputable def gFell (g : Gd) : Gd := if fel g then uT g (tN g - i3 1) else g
theorem not12 {x : Int32} (h : x < i3 12) : ¬ i3 12 ≤ x := Int32.not_le.mpr h
theorem not8 {x : Int32} (h : x < i3 8) : ¬ i3 8 ≤ x := Int32.not_le.mpr h
theorem ge3 {x : Int32} (h : ¬ x < i3 3) : i3 3 ≤ x := Int32.not_lt.mp h
theorem le5 {x : Int32} (h : ¬ i3 5 < x) : x ≤ i3 5 := Int32.not_lt.mp h
theorem addT_T {g : Gd} (h : ok g) (hn : ¬ i3 12 ≤ tN g) (k c a : Int32) {t : Int32} (ht : isT g t) : isT (addT g k c a) t := by
  have n1 := h.n_le
  have e1 : tN (addT g k c a) = i3 ((nn g + 1 : Nat) : Int) := by
    show tN g + i3 1 = _
    rw [h.n_eq]; exact i3_nat_add _
  have b := h.tl ht
  refine ⟨ht.1, ?_⟩
  rw [e1, i3_cl ht.1, i3n_le (by omega) (by omega)]
  omega
section PB
variable {s : St}
theorem b_9 (c : CI s) (n : Int32) : CC s (m_9 0 n (H s)) (vSide (gd s 1) n) (gSide (gd s 1) n, (abC s).2) := by
  unfold m_9 vSide gSide
  simp only [r_0, r_G g1, Option.bind_some, jn, cst, bP_if, rB_0, rB_1, z00, z10, ↓reduceIte, sf_g4]
  by_cases c1 : n < i3 3
  · simp only [if_pos c1]
    exact CC.ref c isB2
  simp only [if_neg c1]
  by_cases c2 : n ≤ i3 8
  · simp only [if_pos c2]
    by_cases c3 : tN (gd s 1) ≤ 0
    · simp only [if_pos c3]
      refine CC.set c (ok_uD c.1.1 c3 (ge3 c1) c2) (fun t ht => ?_) _
      have a := ht.1
      have b := ht.2
      rw [Int32.lt_iff_toInt_lt] at a
      rw [Int32.le_iff_toInt_le] at b c3
      have e : (0 : Int32).toInt = 0 := by decide +kernel
      omega
    · simp only [if_neg c3]
      exact CC.ref c isB5
  · simp only [if_neg c2]
    exact CC.ref c isB2
theorem b_10 (c : CI s) (k x a : Int32) : CC s (m_10 0 k x a (H s)) (vTree (gd s 1) k x a) (gTree (gd s 1) k x a, (abC s).2) := by
  unfold m_10 vTree gTree
  simp only [r_0, r_G g1, Option.bind_some, jn, cst, bP_if, rB_0, rB_1, z00, z10, ↓reduceIte, q_71 g1, q_84 g1 c.1.1]
  by_cases c1 : k < 0
  · simp only [if_pos c1]
    exact CC.ref c isB2
  simp only [if_neg c1]
  by_cases c2 : i3 5 < k
  · simp only [if_pos c2]
    exact CC.ref c isB2
  simp only [if_neg c2]
  by_cases c3 : isCl (gd s 1) x
  · simp only [if_pos c3]
    by_cases c4 : a < 0
    · simp only [if_pos c4]
      exact CC.ref c isB2
    simp only [if_neg c4]
    by_cases c5 : a ≤ i3 9
    · simp only [if_pos c5]
      by_cases c6 : tIn (gd s 1) x = i3 (-1)
      · simp only [if_pos c6]
        by_cases c7 : tN (gd s 1) < i3 12
        · have c8 := not12 c7
          simp only [if_pos c7, q_89 g1 c.1.1 c8, Option.bind_some, jn, cst, bP_if, rB_0, rB_1, z00, z10, ↓reduceIte, r_0, r_G g1, gd_wG]
          exact CC.set c (ok_addT c.1.1 c8 ⟨c1, le5 c2⟩ c3 c6) (fun t ht => addT_T c.1.1 c8 _ _ _ ht) _
        · simp only [if_neg c7]
          exact CC.ref c isB6
      · simp only [if_neg c6]
        exact CC.ref c isB5
    · simp only [if_neg c5]
      exact CC.ref c isB2
  · simp only [if_neg c3]
    exact CC.ref c isB2
theorem b_11 (c : CI s) (m : Int32) : CC s (m_11 0 m (H s)) (vWish (gd s 1) m) (gWish (gd s 1) m, (abC s).2) := by
  unfold m_11 vWish gWish
  simp only [r_0, r_G g1, Option.bind_some, jn, cst, bP_if, rB_0, rB_1, z00, z10, ↓reduceIte, q_93 g1]
  by_cases c1 : st3 (gd s 1) m
  · simp only [if_pos c1]
    by_cases c2 : wN (gd s 1) < i3 8
    · have c3 := not8 c2
      simp only [if_pos c2, q_96 g1 c.1.1 c3, Option.bind_some, jn, cst, bP_if, rB_0, rB_1, z00, z10, ↓reduceIte, r_0, r_G g1, gd_wG]
      exact CC.set c (ok_addW c.1.1 c3 c1) (fun t ht => ht) _
    · simp only [if_neg c2]
      exact CC.ref c isB6
  · simp only [if_neg c1]
    exact CC.ref c isB2
theorem b_12 (c : CI s) : CC s (m_12 0 (H s)) (wN (gd s 1)) (uW (gd s 1) (i3 0), (abC s).2) := by
  unfold m_12
  simp only [r_0, r_G g1, Option.bind_some, jn, cst, bP_if, rB_0, rB_1, z00, z10, ↓reduceIte, sf_g6]
  exact CC.set c (ok_uW0 c.1.1) (fun t ht => ht) _
theorem sa_mv {t x : Int32} (h : ok (gd s 1)) (ht : isT (gd s 1) t) : (st32 (cS (gd s 1)) t x).map (fun l => H (sa s 3 l)) = some (H (wG s 1 (mvT (gd s 1) t x))) := by
  have h1 := h.tl ht
  have h2 := h.n_le
  rw [st_wr ht.1 (by rw [h.2.2.2.1.2.1]; omega), Option.map_some]
  exact congrArg (fun z => some (H z)) (sa_g2 s 1 _)
theorem b_13 (c : CI s) (t x : Int32) : CC s (m_13 0 t x (H s)) (vMove (gd s 1) t x) (gMove (gd s 1) t x, (abC s).2) := by
  unfold m_13 vMove gMove
  simp only [r_0, Option.bind_some, jn, cst, bP_if, rB_0, rB_1, z00, z10, ↓reduceIte, q_67 c.1]
  by_cases c1 : nomv (gd s 1) t x = 0
  · obtain ⟨h1, h2, h3, h4⟩ := nomv_0 c1
    simp only [if_pos c1, r_G g1, c.1.1.at_c h1, Option.bind_some, jn, cst, bP_if, rB_0, rB_1, z00, z10, ↓reduceIte]
    rw [sa_mv c.1.1 h1]
    exact CC.set c (ok_mvT c.1.1 h1 h2 h4) (fun t ht => ht) _
  · simp only [if_neg c1]
    exact CC.ref c (nomv_B c1)
theorem b_14 (c : CI s) : CC s (m_14 0 (H s)) (vFell (gd s 1)) (gFell (gd s 1), (abC s).2) := by
  unfold m_14 vFell gFell
  simp only [r_0, r_G g1, Option.bind_some, jn, cst, bP_if, rB_0, rB_1, z00, z10, ↓reduceIte, q_90 g1 c.1.1]
  by_cases c1 : fel (gd s 1)
  · have h := ok_fell c.1.1 c1
    have cj := CJ_wG c.cj h
    obtain ⟨s1, e1, i1, m1, a1, es⟩ := q_62 cj (t := tN (gd s 1) - i3 1) h.2.1.1 (by rw [gd_wG]; exact Int32.le_refl _)
    simp only [if_pos c1, q_91 g1 c1.1, Option.bind_some, jn, cst, bP_if, rB_0, rB_1, z00, z10, ↓reduceIte, r_0, r_G g1, gd_wG]
    rw [show tN (uT (gd s 1) (tN (gd s 1) - i3 1)) = tN (gd s 1) - i3 1 from rfl, e1]
    simp only [Option.bind_some, jn, cst, bP_if, rB_0, rB_1, z00, z10, ↓reduceIte, r_0, r_G g1, eS_gd es g1, gd_wG]
    refine ⟨s1, rfl, i1, (eM_wG g1 h.sh c.1.1.sh).trans m1, ?_⟩
    rw [a1, ab_wG]
  · simp only [if_neg c1]
    exact CC.ref c isB5
theorem b_55 (c : CI s) (v : Int32) : CC s (m_55 0 v (H s)) (sE (gd s 1)) (uE (gd s 1) v, (abC s).2) := by
  unfold m_55
  simp only [r_0, r_G g1, Option.bind_some, jn, cst, bP_if, rB_0, rB_1, z00, z10, ↓reduceIte, sf_g7]
  exact CC.set c (ok_uE c.1.1 v) (fun t ht => ht) _
end PB
end
section
/-! ===== turnings, the best move in truth, plantings ===== -/
section TU
variable {s : St} {o : Nat}
theorem q_72d (ho : isG o) (d1 : i3 1 ≤ sD (gd s o)) (d0 : ¬ sD (gd s o) = 0) (c : Int32) : m_72 o c (H s) = some (rO (gd s o) c) := by
  unfold m_72
  simp only [r_G ho, Option.bind_some, jn, cst, bP_if, rB_0, rB_1, z00, z10, ↓reduceIte, dvI, d1, d0]
  rfl
theorem q_73d (ho : isG o) (d1 : i3 1 ≤ sD (gd s o)) (d0 : ¬ sD (gd s o) = 0) (c : Int32) : m_73 o c (H s) = some (cO (gd s o) c) := by
  unfold m_73
  simp only [r_G ho, Option.bind_some, jn, cst, bP_if, rB_0, rB_1, z00, z10, ↓reduceIte, rmI, d1, d0]
  rfl
theorem q_75d (ho : isG o) (d1 : i3 1 ≤ sD (gd s o)) (d0 : ¬ sD (gd s o) = 0) (c : Int32) : m_75 o c (H s) = some (trn (gd s o) c) := by
  unfold m_75
  simp only [r_G ho, Option.bind_some, jn, cst, bP_if, rB_0, rB_1, z00, z10, ↓reduceIte, q_72d ho d1 d0, q_73d ho d1 d0, q_74 ho]
  rfl
theorem q_76d (ho : isG o) (d1 : i3 1 ≤ sD (gd s o)) (d0 : ¬ sD (gd s o) = 0) (c : Int32) : m_76 o c (H s) = some (mir (gd s o) c) := by
  unfold m_76
  simp only [r_G ho, Option.bind_some, jn, cst, bP_if, rB_0, rB_1, z00, z10, ↓reduceIte, q_72d ho d1 d0, q_73d ho d1 d0, q_74 ho]
  rfl
theorem H_uC (s : St) : H s = H (wG s 1 (uC (gd s 1) (cS (gd s 1)))) := by
  rw [show uC (gd s 1) (cS (gd s 1)) = gd s 1 from rfl, wG_id]
theorem b_51 (c : CI s) : CC s (m_51 0 (H s)) (cnt (gd s 1) (i3 1)) (mpC (gd s 1) (trn (gd s 1)), (abC s).2) := by
  have h := c.1.1
  have hn := h.n_le
  have hk := ok_turn h
  unfold m_51
  simp only [r_0, Option.bind_some, jn, cst, bP_if, rB_0, rB_1, z00, z10, ↓reduceIte]
  have e86 : m_86 1 (Int32.ofInt 1) (H (wG s 1 (mpC (gd s 1) (trn (gd s 1))))) = some (cnt (gd s 1) (i3 1)) := by
    have := q_86 (s := wG s 1 (mpC (gd s 1) (trn (gd s 1)))) g1 (by rw [gd_wG]; exact hk) (i3 1)
    rw [gd_wG] at this
    exact this
  have e87 : m_86 1 (Int32.ofInt 1) (H (wG s 1 (uC (gd s 1) (itr (mpF (trn (gd s 1))) (nn (gd s 1)) (cS (gd s 1)))))) = some (cnt (gd s 1) (i3 1)) := e86
  have L := lp0 (R := Int32 × tH) (X := tH) (K := fun x4 => (gN x4 7 0 0).bind fun o5 => (m_86 o5 (Int32.ofInt 1) x4).bind fun x6 => some (x6, x4)) (F := fun (s1 : Int32 × tH) nx2 ex3 => (gN s1.2 7 0 0).bind fun o7 => (gI s1.2 2 o7 5).bind fun x8 => if x8 ≤ s1.1 then ex3 s1.2 else (gN s1.2 7 0 0).bind fun o9 => (gN s1.2 2 o9 1).bind fun o10 => (gN s1.2 7 0 0).bind fun o11 => (gN s1.2 7 0 0).bind fun o12 => (gN s1.2 2 o12 1).bind fun o13 => (aI s1.2 o13 s1.1).bind fun x14 => (m_75 o11 x14 s1.2).bind fun x15 => (sI s1.2 o10 s1.1 x15).bind fun th16 => nx2 ((s1.1 + Int32.ofInt 1), th16)) (nn (gd s 1)) (by have := h.n_le; omega) (fun t (l : List Int32) => (t, H (wG s 1 (uC (gd s 1) l)))) (fun l => H (wG s 1 (uC (gd s 1) l))) (mpF (trn (gd s 1))) (fun l => l.length = 12) (cS (gd s 1)) ?_ ?_ ?_ h.2.2.2.1.2.1
  · rw [← H_uC] at L
    rw [L]
    simp only [r_0, Option.bind_some, jn, cst, bP_if, rB_0, rB_1, z00, z10, ↓reduceIte, e87]
    exact CC.set c hk (fun t ht => ht) _
  · intro k l nx ex hk hl
    have e1 : ¬ tN (uC (gd s 1) l) ≤ i3 (k : Int) := (h.T hk).2
    have e2 : at32 (cS (uC (gd s 1) l)) (i3 (k : Int)) = some (l.getD k 0) := by
      show at32 l _ = _
      rw [at32_nat (by omega), List.getD_eq_getElem?_getD, List.getElem?_eq_getElem (by omega)]; rfl
    have e3 : ∀ x, st32 (cS (uC (gd s 1) l)) (i3 (k : Int)) x = some (l.set k x) := fun x => st32_nat (show k < l.length by omega) (show l.length ≤ 1000 by omega)
    have e4 : ∀ x, m_75 1 x (H (wG s 1 (uC (gd s 1) l))) = some (trn (gd s 1) x) := fun x => by
      have := q_75d (s := wG s 1 (uC (gd s 1) l)) g1 (by rw [gd_wG]; exact h.d_1) (by rw [gd_wG]; exact h.d_0) x
      rw [gd_wG] at this
      exact this
    have e5 : ∀ x, sa (wG s 1 (uC (gd s 1) l)) 3 x = wG s 1 (uC (gd s 1) x) := fun x => by
      have := sa_g2 (wG s 1 (uC (gd s 1) l)) 1 x
      rw [wG_wG, gd_wG] at this
      exact this
    simp only [r_0, r_G g1, Option.bind_some, jn, cst, bP_if, rB_0, rB_1, z00, z10, ↓reduceIte, gd_wG, e1, e2, e3, e4, Option.map_some, e5]
    rfl
  · intro k l _ hl
    exact (List.length_set).trans hl
  · intro l nx ex hl
    have e1 : tN (uC (gd s 1) l) ≤ i3 (nn (gd s 1) : Int) := h.Te (Nat.le_refl _) (by have := h.n_le; omega)
    simp only [r_0, r_G g1, Option.bind_some, jn, cst, bP_if, rB_0, rB_1, z00, z10, ↓reduceIte, gd_wG, e1]
theorem b_52 (c : CI s) : CC s (m_52 0 (H s)) (cnt (gd s 1) (i3 1)) (mpC (gd s 1) (mir (gd s 1)), (abC s).2) := by
  have h := c.1.1
  have hn := h.n_le
  have hk := ok_mirr h
  unfold m_52
  simp only [r_0, Option.bind_some, jn, cst, bP_if, rB_0, rB_1, z00, z10, ↓reduceIte]
  have e86 : m_86 1 (Int32.ofInt 1) (H (wG s 1 (mpC (gd s 1) (mir (gd s 1))))) = some (cnt (gd s 1) (i3 1)) := by
    have := q_86 (s := wG s 1 (mpC (gd s 1) (mir (gd s 1)))) g1 (by rw [gd_wG]; exact hk) (i3 1)
    rw [gd_wG] at this
    exact this
  have e87 : m_86 1 (Int32.ofInt 1) (H (wG s 1 (uC (gd s 1) (itr (mpF (mir (gd s 1))) (nn (gd s 1)) (cS (gd s 1)))))) = some (cnt (gd s 1) (i3 1)) := e86
  have L := lp0 (R := Int32 × tH) (X := tH) (K := fun x4 => (gN x4 7 0 0).bind fun o5 => (m_86 o5 (Int32.ofInt 1) x4).bind fun x6 => some (x6, x4)) (F := fun (s1 : Int32 × tH) nx2 ex3 => (gN s1.2 7 0 0).bind fun o7 => (gI s1.2 2 o7 5).bind fun x8 => if x8 ≤ s1.1 then ex3 s1.2 else (gN s1.2 7 0 0).bind fun o9 => (gN s1.2 2 o9 1).bind fun o10 => (gN s1.2 7 0 0).bind fun o11 => (gN s1.2 7 0 0).bind fun o12 => (gN s1.2 2 o12 1).bind fun o13 => (aI s1.2 o13 s1.1).bind fun x14 => (m_76 o11 x14 s1.2).bind fun x15 => (sI s1.2 o10 s1.1 x15).bind fun th16 => nx2 ((s1.1 + Int32.ofInt 1), th16)) (nn (gd s 1)) (by have := h.n_le; omega) (fun t (l : List Int32) => (t, H (wG s 1 (uC (gd s 1) l)))) (fun l => H (wG s 1 (uC (gd s 1) l))) (mpF (mir (gd s 1))) (fun l => l.length = 12) (cS (gd s 1)) ?_ ?_ ?_ h.2.2.2.1.2.1
  · rw [← H_uC] at L
    rw [L]
    simp only [r_0, Option.bind_some, jn, cst, bP_if, rB_0, rB_1, z00, z10, ↓reduceIte, e87]
    exact CC.set c hk (fun t ht => ht) _
  · intro k l nx ex hk hl
    have e1 : ¬ tN (uC (gd s 1) l) ≤ i3 (k : Int) := (h.T hk).2
    have e2 : at32 (cS (uC (gd s 1) l)) (i3 (k : Int)) = some (l.getD k 0) := by
      show at32 l _ = _
      rw [at32_nat (by omega), List.getD_eq_getElem?_getD, List.getElem?_eq_getElem (by omega)]; rfl
    have e3 : ∀ x, st32 (cS (uC (gd s 1) l)) (i3 (k : Int)) x = some (l.set k x) := fun x => st32_nat (show k < l.length by omega) (show l.length ≤ 1000 by omega)
    have e4 : ∀ x, m_76 1 x (H (wG s 1 (uC (gd s 1) l))) = some (mir (gd s 1) x) := fun x => by
      have := q_76d (s := wG s 1 (uC (gd s 1) l)) g1 (by rw [gd_wG]; exact h.d_1) (by rw [gd_wG]; exact h.d_0) x
      rw [gd_wG] at this
      exact this
    have e5 : ∀ x, sa (wG s 1 (uC (gd s 1) l)) 3 x = wG s 1 (uC (gd s 1) x) := fun x => by
      have := sa_g2 (wG s 1 (uC (gd s 1) l)) 1 x
      rw [wG_wG, gd_wG] at this
      exact this
    simp only [r_0, r_G g1, Option.bind_some, jn, cst, bP_if, rB_0, rB_1, z00, z10, ↓reduceIte, gd_wG, e1, e2, e3, e4, Option.map_some, e5]
    rfl
  · intro k l _ hl
    exact (List.length_set).trans hl
  · intro l nx ex hl
    have e1 : tN (uC (gd s 1) l) ≤ i3 (nn (gd s 1) : Int) := h.Te (Nat.le_refl _) (by have := h.n_le; omega)
    simp only [r_0, r_G g1, Option.bind_some, jn, cst, bP_if, rB_0, rB_1, z00, z10, ↓reduceIte, gd_wG, e1]
end TU
/-! ===== improve ===== -/
noncomputable def mvO (g : Gd) (a : Mv) : Prop := a.1 = i3 (-1) ∨ (isT g a.1 ∧ isCl g a.2.1 ∧ tIn g a.2.1 = i3 (-1))
theorem itr_inv {α : Type} {f : Nat → α → α} {P : α → Prop} : ∀ (n : Nat) (a : α), P a → (∀ k b, k < n → P b → P (f k b)) → P (itr f n a)
  | 0, a, h, _ => h
  | n + 1, a, h, hs => hs n _ (by omega) (itr_inv n a h (fun k b hk => hs k b (by omega)))
theorem oc_O {g : Gd} (h : ok g) {w : Wt} {t : Int32} (ht : isT g t) {a : Mv} (ha : mvO g a) : mvO g (oc g w t a) := by
  unfold oc
  refine itr_inv _ _ ha (fun k b hk hb => ?_)
  unfold ocF
  split
  · exact hb
  · split
    · rename_i e
      exact Or.inr ⟨ht, h.C hk, e⟩
    · exact hb
theorem mT_O {g : Gd} (h : ok g) (L : List Int32) : mvO g (mT g L) := by
  unfold mT
  refine itr_inv _ _ (Or.inl rfl) (fun k b hk hb => ?_)
  unfold mtF
  split
  · exact hb
  · exact oc_O h (h.T hk) hb
noncomputable def vImp (g : Gd) : Int32 := if (mT g (RL g)).1 = i3 (-1) then nT (RL g) else if nT (RL g) < (mT g (RL g)).2.2 then (mT g (RL g)).2.2 else nT (RL g)
noncomputable def gImp (g : Gd) : Gd := if (mT g (RL g)).1 = i3 (-1) then g else if nT (RL g) < (mT g (RL g)).2.2 then mvT g (mT g (RL g)).1 (mT g (RL g)).2.1 else g
theorem b_53 {s : St} (c : CI s) : CC s (m_53 0 (H s)) (vImp (gd s 1)) (gImp (gd s 1), (abC s).2) := by
  obtain ⟨s1, e1, q1, r1⟩ := q_63 c.1.1 c.1.2.1
  have c1 := q1.q.eC.ci c
  obtain ⟨_, e2, s2, rfl, q2, p2, -⟩ := q_117 c1.1.1 c1.1.2.1 r1
  have c2 := q2.q.eC.ci c1
  have eg1 : gd s1 1 = gd s 1 := q1.g g1
  have eg2 : gd s2 1 = gd s 1 := (q2.g g1).trans eg1
  have ab2 : abC s2 = abC s := q2.q.eC.ab.trans q1.q.eC.ab
  rw [eg1] at p2
  have hO := mT_O c.1.1 (RL (gd s 1))
  unfold m_53
  simp only [r_0, Option.bind_some, jn, cst, bP_if, rB_0, rB_1, z00, z10, ↓reduceIte, e1, q_106 r1]
  rw [e2]
  simp only [r_0, r_M, Option.bind_some, jn, cst, bP_if, rB_0, rB_1, z00, z10, ↓reduceIte]
  have x1 : fi s2 20 2 = (mT (gd s 1) (RL (gd s 1))).1 := congrArg (·.1) p2
  have x2 : fi s2 20 3 = (mT (gd s 1) (RL (gd s 1))).2.1 := congrArg (·.2.1) p2
  have x3 : fi s2 20 4 = (mT (gd s 1) (RL (gd s 1))).2.2 := congrArg (·.2.2) p2
  rw [x1, x3]
  have quiet : CC s (some (i3 ((RL (gd s 1)).length : Int) - co (RL (gd s 1)) (Int32.ofInt 2), H s2)) (nT (RL (gd s 1))) (gd s 1, (abC s).2) := ⟨s2, rfl, c2, (q1.trans q2).q.eM, ab2⟩
  unfold vImp gImp
  by_cases d1 : (mT (gd s 1) (RL (gd s 1))).1 = i3 (-1)
  · simp only [if_pos d1]
    exact quiet
  simp only [if_neg d1]
  have hO' := hO.elim (fun e => absurd e d1) id
  by_cases d2 : nT (RL (gd s 1)) < (mT (gd s 1) (RL (gd s 1))).2.2
  · have d2' : i3 ((RL (gd s 1)).length : Int) - co (RL (gd s 1)) (Int32.ofInt 2) < (mT (gd s 1) (RL (gd s 1))).2.2 := d2
    simp only [if_pos d2, if_pos d2', x2]
    have hT : isT (gd s2 1) (mT (gd s 1) (RL (gd s 1))).1 := by rw [eg2]; exact hO'.1
    have em := sa_mv (s := s2) (x := (mT (gd s 1) (RL (gd s 1))).2.1) c2.1.1 hT
    have g3 : gN (H s2) 2 1 1 = some 3 := rfl
    have g4 : ∀ i x, sI (H s2) 3 i x = (st32 (cS (gd s2 1)) i x).map (fun l => H (sa s2 3 l)) := fun i x => by simp only [r_G g1, show (3 : Nat) = 1 + 2 from rfl]
    simp only [g3, g4, Option.bind_some, jn, cst, bP_if, rB_0, rB_1, z00, z10, ↓reduceIte, em, r_0, r_M]
    have x4 : fi (wG s2 1 (mvT (gd s2 1) (mT (gd s 1) (RL (gd s 1))).1 (mT (gd s 1) (RL (gd s 1))).2.1)) 20 4 = fi s2 20 4 := rfl
    rw [x4, x3, eg2]
    have hk := ok_mvT c.1.1 hO'.1 hO'.2.1 hO'.2.2
    obtain ⟨s3, y1, y2, y3, y4⟩ := CC.set (s := s2) c2 hk (fun t ht => by rw [eg2] at ht; exact ht) (mT (gd s 1) (RL (gd s 1))).2.2
    refine ⟨s3, y1, y2, (q1.trans q2).q.eM.trans y3, ?_⟩
    rw [y4, ab2]
  · have d2' : ¬ i3 ((RL (gd s 1)).length : Int) - co (RL (gd s 1)) (Int32.ofInt 2) < (mT (gd s 1) (RL (gd s 1))).2.2 := d2
    simp only [if_neg d2, if_neg d2']
    exact quiet
/-! ===== plant ===== -/
abbrev room (g : Gd) : Prop := ¬ i3 12 ≤ tN g ∧ ¬ cc g ≤ tN g
noncomputable def plG : Nat → Gd → Gd × Nat
  | 0, g => (g, 0)
  | n + 1, g => if room g then ((plG n (drw g)).1, (plG n (drw g)).2 + 1) else (g, 0)
theorem plG_le : ∀ (n : Nat) (g : Gd), (plG n g).2 ≤ n
  | 0, g => Nat.le_refl _
  | n + 1, g => by
    unfold plG
    split
    · have := plG_le n (drw g)
      show _ + 1 ≤ _
      omega
    · exact Nat.zero_le _
theorem addE_T {g : Gd} (h : ok g) (hn : ¬ i3 12 ≤ tN g) (x k c a : Int32) {t : Int32} (ht : isT g t) : isT (addT (uE g x) k c a) t := addT_T (g := uE g x) (ok_uE h x) hn k c a ht
theorem drw_T {g : Gd} (h : ok g) (hn : ¬ i3 12 ≤ tN g) {t : Int32} (ht : isT g t) : isT (drw g) t := by
  unfold drw
  exact addE_T h hn _ _ _ _ ht
theorem plG_s (n : Nat) (g : Gd) : plG (n + 1) g = if room g then ((plG n (drw g)).1, (plG n (drw g)).2 + 1) else (g, 0) := rfl
theorem plG_ok : ∀ (n : Nat) (g : Gd), ok g → ok (plG n g).1 ∧ ∀ t, isT g t → isT (plG n g).1 t
  | 0, g, h => ⟨h, fun _ ht => ht⟩
  | n + 1, g, h => by
    unfold plG
    split
    · rename_i hr
      have h1 := plG_ok n (drw g) (ok_drw h hr.1 hr.2)
      exact ⟨h1.1, fun t ht => h1.2 t (drw_T h hr.1 ht)⟩
    · exact ⟨h, fun _ ht => ht⟩
noncomputable def vPlant (g : Gd) (n : Int32) : Int32 := if n < i3 1 then i3 (-2) else if n ≤ i3 12 then i3 ((plG n.toNatClampNeg g).2 : Int) else i3 (-2)
noncomputable def gPlant (g : Gd) (n : Int32) : Gd := if n < i3 1 then g else if n ≤ i3 12 then (plG n.toNatClampNeg g).1 else g
theorem b_54 {s : St} (c : CI s) (n : Int32) : CC s (m_54 0 n (H s)) (vPlant (gd s 1) n) (gPlant (gd s 1) n, (abC s).2) := by
  unfold m_54 vPlant gPlant
  simp only [r_0, Option.bind_some, jn, cst, bP_if, rB_0, rB_1, z00, z10, ↓reduceIte]
  by_cases c1 : n < i3 1
  · simp only [if_pos c1]
    exact CC.ref c isB2
  simp only [if_neg c1]
  by_cases c2 : n ≤ i3 12
  · simp only [if_pos c2]
    have n0 : ¬ n < 0 := by
      rw [Int32.lt_iff_toInt_lt] at c1 ⊢
      have e : (0 : Int32).toInt = 0 := by decide +kernel
      have e2 : (i3 1).toInt = 1 := by decide +kernel
      omega
    have n12 : n.toNatClampNeg ≤ 12 := le_cl (b := 12) (by omega) n0 c2
    have en := i3_cl n0
    have hP := plG_ok n.toNatClampNeg (gd s 1) c.1.1
    have key : T (lp (fun (s4 : Int32 × tH) nx5 ex6 => if n ≤ s4.1 then ex6 (s4.1, s4.2) else (gN s4.2 7 0 0).bind fun o8 => (m_88 o8 s4.2).bind fun x9 => if x9 = 0 then ex6 (s4.1, s4.2) else (gN s4.2 7 0 0).bind fun o10 => (m_101 o10 s4.2).bind fun th11 => nx5 ((s4.1 + Int32.ofInt 1), th11)) 4096 ((Int32.ofInt 0), H s) (fun (x7 : Int32 × tH) => some (x7.1, x7.2))) (fun r => r = (i3 ((plG n.toNatClampNeg (gd s 1)).2 : Int), H (wG s 1 (plG n.toNatClampNeg (gd s 1)).1))) := by
      refine lpH n.toNatClampNeg (fun k q => ∃ g', q = (i3 (k : Int), H (wG s 1 g')) ∧ ok g' ∧ plG n.toNatClampNeg (gd s 1) = ((plG (n.toNatClampNeg - k) g').1, (plG (n.toNatClampNeg - k) g').2 + k)) (fun x => x = (i3 ((plG n.toNatClampNeg (gd s 1)).2 : Int), H (wG s 1 (plG n.toNatClampNeg (gd s 1)).1))) ?_ ?_ ?_ ?_ (by omega)
      · rintro k _ hk ⟨g', rfl, h', e'⟩ nx ex hnx hex
        have e1 : ¬ n ≤ i3 (k : Int) := by rw [en, i3n_le (by omega) (by omega)]; omega
        have h2 : ok (gd (wG s 1 g') 1) := by rw [gd_wG]; exact h'
        obtain ⟨d, hd⟩ : ∃ d, n.toNatClampNeg - k = d + 1 := ⟨n.toNatClampNeg - k - 1, by omega⟩
        have hd2 : n.toNatClampNeg - (k + 1) = d := by omega
        simp only [e1, r_0, Option.bind_some, jn, cst, bP_if, rB_0, rB_1, z00, z10, ↓reduceIte, q_88 g1, gd_wG, i3_nat_add]
        rw [hd, plG_s] at e'
        by_cases hr : room g'
        · have h3 : ¬ i3 12 ≤ tN (gd (wG s 1 g') 1) := by rw [gd_wG]; exact hr.1
          rw [if_pos hr, q_101 g1 h2 h3]
          simp only [Option.bind_some, jn, cst, bP_if, rB_0, rB_1, z00, z10, ↓reduceIte, wG_wG, gd_wG]
          refine hnx _ ⟨drw g', rfl, ok_drw h' hr.1 hr.2, ?_⟩
          rw [if_pos hr] at e'
          rw [hd2]
          refine e'.trans (Prod.ext rfl ?_)
          show (plG d (drw g')).2 + 1 + k = (plG d (drw g')).2 + (k + 1)
          omega
        · rw [if_neg hr]
          refine hex _ ?_
          rw [if_neg hr] at e'
          rw [e']
          show (i3 (k : Int), _) = (i3 ((0 + k : Nat) : Int), _)
          rw [Nat.zero_add]
      · rintro _ ⟨g', rfl, h', e'⟩ nx ex hex
        have e1 : n ≤ i3 (n.toNatClampNeg : Int) := by rw [← en]; exact Int32.le_refl _
        simp only [e1, Option.bind_some, jn, cst, bP_if, rB_0, rB_1, z00, z10, ↓reduceIte]
        refine hex _ ?_
        rw [e', Nat.sub_self]
        show (i3 (n.toNatClampNeg : Int), _) = (i3 ((0 + n.toNatClampNeg : Nat) : Int), _)
        rw [Nat.zero_add]
        rfl
      · intro x hx
        rw [hx]
        exact T_some rfl
      · exact ⟨gd s 1, by rw [wG_id]; rfl, c.1.1, rfl⟩
    obtain ⟨r, e1, rfl⟩ := key
    rw [e1]
    exact CC.set c hP.1 hP.2 _
  · simp only [if_neg c2]
    exact CC.ref c isB2
/-! ===== the tape, what is kept ===== -/
noncomputable def vFeed (t : List Int32 × Int32) (x : Int32) : Int32 := if x < 0 then i3 (-2) else if x ≤ i3 255 then if t.2 < i3 250 then t.2 + i3 1 else i3 (-6) else i3 (-2)
noncomputable def tFeed (t : List Int32 × Int32) (x : Int32) : List Int32 × Int32 := if x < 0 then t else if x ≤ i3 255 then if t.2 < i3 250 then (t.1.set t.2.toNatClampNeg x, t.2 + i3 1) else t else t
/-- only the tape -/
theorem CC.tape {α : Type} {s : St} (c : CI s) {l : List Int32} {n : Int32} (hl : l.length = 250) (h0 : ¬ n < 0) (h1 : n ≤ i3 250) (v : α) : CC s (some (v, H (sf (sa s 25 l) 24 1 n))) v ((abC s).1, (abC s).2.1, (l, n), (abC s).2.2.2) := by
  refine ⟨_, rfl, ?_, ((eM.refl s).a (by omega) (by rw [hl, c.2.2.2.1.1])).f (by omega), ?_⟩
  · obtain ⟨⟨c1, z, l27⟩, c2, c3, c4, c5, c6⟩ := c
    refine ⟨⟨c1, z, l27⟩, c2, c3, ⟨hl, h0, h1⟩, c5, fun k hk => ?_⟩
    have f1 : ∀ j, fi (sf (sa s 25 l) 24 1 n) (28 + 2 * k) j = fi s (28 + 2 * k) j := fun j => by
      rw [fi_sf, if_neg (by omega)]; rfl
    unfold shO
    rw [f1, f1, f1]
    exact c6 k hk
  · unfold abC
    refine Prod.ext rfl (Prod.ext rfl (Prod.ext rfl (funext fun k => ?_)))
    show (if k < 8 then shC (sf (sa s 25 l) 24 1 n) k else none) = if k < 8 then shC s k else none
    split
    · unfold shC
      have f1 : ∀ j, fi (sf (sa s 25 l) 24 1 n) (28 + 2 * k) j = fi s (28 + 2 * k) j := fun j => by
        rw [fi_sf, if_neg (by omega)]; rfl
      rw [f1, f1]
      rfl
    · rfl
theorem b_15 {s : St} (c : CI s) (x : Int32) : CC s (m_15 0 x (H s)) (vFeed (ia s 25, fi s 24 1) x) ((abC s).1, (abC s).2.1, tFeed (ia s 25, fi s 24 1) x, (abC s).2.2.2) := by
  unfold m_15 vFeed tFeed
  simp only [r_0, r_T, Option.bind_some, jn, cst, bP_if, rB_0, rB_1, z00, z10, ↓reduceIte]
  by_cases c1 : x < 0
  · simp only [if_pos c1]
    exact CC.ref c isB2
  simp only [if_neg c1]
  by_cases c2 : x ≤ i3 255
  · simp only [if_pos c2]
    by_cases c3 : fi s 24 1 < i3 250
    · obtain ⟨t1, t2, t3⟩ := c.2.2.2.1
      have hb : (fi s 24 1).toNatClampNeg < 250 := lt_cl (b := 250) (by omega) t2 (fun e => absurd c3 (Int32.not_lt.mpr e))
      have en := i3_cl t2
      have e1 : st32 (ia s 25) (fi s 24 1) x = some ((ia s 25).set (fi s 24 1).toNatClampNeg x) := st_wr t2 (by omega)
      simp only [if_pos c3, e1, Option.map_some, Option.bind_some, jn, cst, bP_if, rB_0, rB_1, z00, z10, ↓reduceIte, r_0, r_T, fi_sa]
      have e2 : fi s 24 1 + i3 1 = i3 (((fi s 24 1).toNatClampNeg + 1 : Nat) : Int) := by
        conv => lhs; rw [en]
        exact i3_nat_add _
      have e3 : fi (sf (sa s 25 ((ia s 25).set (fi s 24 1).toNatClampNeg x)) 24 1 (fi s 24 1 + Int32.ofInt 1)) 24 1 = fi s 24 1 + i3 1 := rfl
      rw [e3]
      refine CC.tape c ((List.length_set).trans t1) ?_ ?_ _
      · show ¬ fi s 24 1 + i3 1 < 0
        rw [e2]; exact i3n_nneg (by omega)
      · show fi s 24 1 + i3 1 ≤ i3 250
        rw [e2]
        exact (i3n_le (b := 250) (by omega) (by omega)).mpr (by omega)
    · simp only [if_neg c3]
      exact CC.ref c isB6
  · simp only [if_neg c2]
    exact CC.ref c isB2
theorem b_16 {s : St} (c : CI s) : CC s (m_16 0 (H s)) (fi s 24 1) ((abC s).1, (abC s).2.1, (ia s 25, i3 0), (abC s).2.2.2) := by
  unfold m_16
  simp only [r_0, r_T, Option.bind_some, jn, cst, bP_if, rB_0, rB_1, z00, z10, ↓reduceIte]
  have := CC.tape c (l := ia s 25) (n := i3 0) c.2.2.2.1.1 (by decide +kernel) (by decide +kernel) (fi s 24 1)
  rw [sa_id] at this
  exact this
theorem b_56 {s : St} (c : CI s) : CC s (m_56 0 (H s)) (i3 1) ((abC s).1, some (gd s 1), (abC s).2.2) := by
  have h1 : sh (gd s 1) := c.1.1.sh
  have ep : ∀ t : St, pB (H t) 7 0 10 (Int32.ofInt 1) = some (H (sf t 0 10 (i3 1))) := fun t => by
    unfold pB
    rw [if_pos (show Int32.ofInt 1 = 0 ∨ Int32.ofInt 1 = 1 from Or.inr rfl)]
    rfl
  have g11 : isG 11 := Or.inr (Or.inr rfl)
  unfold m_56
  simp only [r_0, Option.bind_some, jn, cst, bP_if, rB_0, rB_1, z00, z10, ↓reduceIte, q_69 g11 g1 (by omega) c.2.2.1 h1, ep]
  have eg : gd (sf (wG s 11 (gd s 1)) 0 10 (i3 1)) 11 = gd s 1 := gd_wG s 11 (gd s 1)
  refine ⟨_, rfl, ?_, (eM_wG g11 h1 c.2.2.1).f (by omega), ?_⟩
  · obtain ⟨⟨c1, z, l27⟩, c2, c3, c4, c5, c6⟩ := c
    refine ⟨⟨c1, z, l27⟩, c2, by rw [eg]; exact h1, c4, Or.inr ⟨rfl, by rw [eg]; exact c1⟩, fun k hk => ?_⟩
    have f1 : ∀ j, fi (sf (wG s 11 (gd s 1)) 0 10 (i3 1)) (28 + 2 * k) j = fi s (28 + 2 * k) j := fun j => by
      rw [fi_sf, if_neg (by omega), fi_wG, if_neg (by omega), if_neg (by omega), if_neg (by omega), if_neg (by omega)]
    unfold shO
    rw [f1, f1, f1]
    exact c6 k hk
  · unfold abC
    rw [eg]
    refine Prod.ext rfl (Prod.ext (show (if i3 1 = 0 then none else some (gd s 1)) = some (gd s 1) from if_neg (by decide +kernel)) (Prod.ext rfl (funext fun k => ?_)))
    show (if k < 8 then shC (sf (wG s 11 (gd s 1)) 0 10 (i3 1)) k else none) = if k < 8 then shC s k else none
    split
    · unfold shC
      have f1 : ∀ j, fi (sf (wG s 11 (gd s 1)) 0 10 (i3 1)) (28 + 2 * k) j = fi s (28 + 2 * k) j := fun j => by
        rw [fi_sf, if_neg (by omega), fi_wG, if_neg (by omega), if_neg (by omega), if_neg (by omega), if_neg (by omega)]
      rw [f1, f1]
      rfl
    · rfl
noncomputable def vBack (k : Option Gd) : Int32 := match k with
  | none => i3 (-5)
  | some _ => i3 1
noncomputable def gBack (g : Gd) (k : Option Gd) : Gd := match k with
  | none => g
  | some h => h
theorem b_57 {s : St} (c : CI s) : CC s (m_57 0 (H s)) (vBack (abC s).2.1) (gBack (gd s 1) (abC s).2.1, (abC s).2) := by
  have g11 : isG 11 := Or.inr (Or.inr rfl)
  have ea : (abC s).2.1 = if fi s 0 10 = 0 then none else some (gd s 11) := rfl
  unfold m_57
  simp only [r_0, Option.bind_some, jn, cst, bP_if, rB_0, rB_1, z00, z10, ↓reduceIte, q_69 g1 g11 (by omega) c.1.1.sh c.2.2.1]
  rw [ea]
  by_cases c1 : fi s 0 10 = 0
  · rw [if_pos c1, if_pos c1]
    exact CC.ref c isB5
  · rw [if_neg c1, if_neg c1]
    have h : ok (gd s 11) := c.2.2.2.2.1.elim (fun e => absurd e c1) (·.2)
    have cj := CJ_wG c.cj h
    obtain ⟨s1, e1, i1, m1, a1, es⟩ := q_62 cj (t := tN (gd s 11)) h.2.1.1 (by rw [gd_wG]; exact Int32.le_refl _)
    simp only [r_0, r_G g1, gd_wG, Option.bind_some, jn, cst, bP_if, rB_0, rB_1, z00, z10, ↓reduceIte, e1]
    refine ⟨s1, rfl, i1, (eM_wG g1 h.sh c.1.1.sh).trans m1, ?_⟩
    rw [a1, ab_wG]
    rfl
end
section
/-! ===== shelves: what calls do to them (class) ===== -/
noncomputable def upR (f : Nat → Rw) (k : Nat) (r : Rw) : Nat → Rw := fun j => if j = k then r else f j
noncomputable def wSh (s : St) (k : Nat) (so n t : Int32) (l : List Int64) : St := sf (sf (sf (sl s (29 + 2 * k) l) (28 + 2 * k) 1 so) (28 + 2 * k) 2 n) (28 + 2 * k) 3 t
section SHF
variable {s : St}
theorem r_Sk {k : Nat} (hk : k < 8) (s : St) : gN (H s) 5 (28 + 2 * k) 0 = some (29 + 2 * k) ∧ (∀ i, aJ (H s) (29 + 2 * k) i = at64 (la s (29 + 2 * k)) i) ∧ aL (H s) (29 + 2 * k) = some (Int32.ofNat (la s (29 + 2 * k)).length) ∧ (∀ i x, sJ (H s) (29 + 2 * k) i x = (st64 (la s (29 + 2 * k)) i x).map (fun l => H (sl s (29 + 2 * k) l))) := by
  have h := r_S (isS_k hk) s
  rw [show (28 + 2 * k) + 1 = 29 + 2 * k by omega] at h
  exact ⟨h.2.1, h.2.2.2.2.2.2.2.2.1, h.2.2.2.2.2.2.2.2.2.1, h.2.2.2.2.2.2.2.2.2.2⟩
theorem r_Sf {k : Nat} (hk : k < 8) (s : St) : gC (H s) 5 (28 + 2 * k) = some () ∧ gI (H s) 5 (28 + 2 * k) 1 = some (fi s (28 + 2 * k) 1) ∧ (∀ x, pI (H s) 5 (28 + 2 * k) 1 x = some (H (sf s (28 + 2 * k) 1 x))) ∧ gI (H s) 5 (28 + 2 * k) 2 = some (fi s (28 + 2 * k) 2) ∧ (∀ x, pI (H s) 5 (28 + 2 * k) 2 x = some (H (sf s (28 + 2 * k) 2 x))) ∧ gI (H s) 5 (28 + 2 * k) 3 = some (fi s (28 + 2 * k) 3) ∧ (∀ x, pI (H s) 5 (28 + 2 * k) 3 x = some (H (sf s (28 + 2 * k) 3 x))) := by
  have h := r_S (isS_k hk) s
  exact ⟨h.1, h.2.2.1, h.2.2.2.1, h.2.2.2.2.1, h.2.2.2.2.2.1, h.2.2.2.2.2.2.1, h.2.2.2.2.2.2.2.1⟩
theorem sl_id (s : St) (p : Nat) : sl s p (la s p) = s := by
  refine Prod.ext rfl (Prod.ext (funext fun q => ?_) rfl)
  show (if q = p then s.2.1 p else s.2.1 q) = s.2.1 q
  split
  · rename_i h; rw [h]
  · rfl
theorem wSh_sl (k : Nat) (l : List Int64) : sl s (29 + 2 * k) l = wSh s k (fi s (28 + 2 * k) 1) (fi s (28 + 2 * k) 2) (fi s (28 + 2 * k) 3) l := by
  unfold wSh
  have e : ∀ j, fi s (28 + 2 * k) j = fi (sl s (29 + 2 * k) l) (28 + 2 * k) j := fun _ => rfl
  rw [e 1, sf_id, e 2, sf_id, e 3, sf_id]
theorem fi_wSh {k : Nat} {so n t : Int32} {l : List Int64} (o j : Nat) : fi (wSh s k so n t l) o j = if o = 28 + 2 * k ∧ j = 3 then t else if o = 28 + 2 * k ∧ j = 2 then n else if o = 28 + 2 * k ∧ j = 1 then so else fi s o j := rfl
theorem la_wSh {k : Nat} {so n t : Int32} {l : List Int64} (p : Nat) : la (wSh s k so n t l) p = if p = 29 + 2 * k then l else la s p := rfl
theorem CC.shelf {α : Type} (c : CI s) {k : Nat} (hk : k < 8) {so n t : Int32} {l : List Int64} (h1 : l.length = 40) (h2 : so = i3 (-1) ∨ (¬ so < 0 ∧ so ≤ i3 4)) (h3 : ¬ n < 0 ∧ n ≤ i3 40) (h4 : so = i3 (-1) → n = 0) (h5 : t = i3 (-1) ∨ (isT (gd s 1) t ∧ so = i3 (-1))) (v : α) : CC s (some (v, H (wSh s k so n t l))) v ((abC s).1, (abC s).2.1, (abC s).2.2.1, upR (abC s).2.2.2 k (if so = i3 (-1) then none else some (so, n, l))) := by
  have f1 : ∀ o, (o < 28 ∨ 43 < o) → ∀ j, fi (wSh s k so n t l) o j = fi s o j := fun o ho j => by
    rw [fi_wSh, if_neg (by omega), if_neg (by omega), if_neg (by omega)]
  have f2 : ∀ i, i ≠ k → ∀ j, fi (wSh s k so n t l) (28 + 2 * i) j = fi s (28 + 2 * i) j := fun i hi j => by
    rw [fi_wSh, if_neg (by omega), if_neg (by omega), if_neg (by omega)]
  have k1 : fi (wSh s k so n t l) (28 + 2 * k) 1 = so := by
    rw [fi_wSh, if_neg (by omega), if_neg (by omega), if_pos (by omega)]
  have k2 : fi (wSh s k so n t l) (28 + 2 * k) 2 = n := by
    rw [fi_wSh, if_neg (by omega), if_pos (by omega)]
  have k3 : fi (wSh s k so n t l) (28 + 2 * k) 3 = t := by
    rw [fi_wSh, if_pos (by omega)]
  have kl : la (wSh s k so n t l) (29 + 2 * k) = l := by rw [la_wSh, if_pos rfl]
  have l2 : ∀ i, i ≠ k → la (wSh s k so n t l) (29 + 2 * i) = la s (29 + 2 * i) := fun i hi => by
    rw [la_wSh, if_neg (by omega)]
  have em : eM s (wSh s k so n t l) := (((eM.refl s).l (by omega) (by rw [h1, (c.2.2.2.2.2 k hk).1])).f (by omega)).f (by omega) |>.f (by omega)
  have G : ∀ o, isG o → gd (wSh s k so n t l) o = gd s o := fun o ho => by
    have f : ∀ j, fi (wSh s k so n t l) o j = fi s o j := fun j => f1 o (by rcases ho with rfl | rfl | rfl <;> omega) j
    unfold gd
    rw [f, f, f, f]
    rfl
  refine ⟨_, rfl, ?_, em, ?_⟩
  · obtain ⟨⟨c1, z, l27⟩, c2, c3, c4, c5, c6⟩ := c
    have zl : la (wSh s k so n t l) 57 = la s 57 := by rw [la_wSh, if_neg (by omega)]
    refine ⟨⟨by rw [G 1 g1]; exact c1, ?_, l27⟩, by rw [G 6 (Or.inr (Or.inl rfl))]; exact c2, by rw [G 11 (Or.inr (Or.inr rfl))]; exact c3, by rw [f1 24 (by omega)]; exact c4, by rw [f1 0 (by omega), G 11 (Or.inr (Or.inr rfl))]; exact c5, fun i hi => ?_⟩
    · unfold Sz
      rw [zl]
      exact z
    · unfold shO
      rw [G 1 g1]
      by_cases e : i = k
      · subst e
        rw [k1, k2, k3, kl]
        exact ⟨h1, h2, h3, h4, h5⟩
      · rw [f2 i e, f2 i e, f2 i e, l2 i e]
        exact c6 i hi
  · unfold abC
    rw [G 1 g1, G 11 (Or.inr (Or.inr rfl)), f1 0 (by omega), f1 24 (by omega)]
    refine Prod.ext rfl (Prod.ext rfl (Prod.ext rfl (funext fun i => ?_)))
    show (if i < 8 then shC (wSh s k so n t l) i else none) = if i = k then (if so = i3 (-1) then none else some (so, n, l)) else if i < 8 then shC s i else none
    by_cases e : i = k
    · subst e
      rw [if_pos hk, if_pos rfl]
      unfold shC
      rw [k1, k2, kl]
    · rw [if_neg e]
      unfold shC
      rw [f2 i e, f2 i e, l2 i e]
theorem q_150 {o : Nat} (ho : isS o) : m_150 o (H s) = some (bP (¬ fi s o 1 = i3 (-1))) := by
  unfold m_150
  simp only [r_S ho, Option.bind_some, jn, cst, bP_if, rB_0, rB_1, z00, z10, ↓reduceIte]
  unfold bP
  ((repeat' split) <;> (first | rfl | (exfalso; simp_all only [isT, isCl, isW, st3, btw, kOf, not_true_eq_false, not_false_eq_true, and_true, true_and, and_self, and_false, false_and, or_true, true_or, or_false, false_or, not_and]; done) | grind))
theorem q_151 {o : Nat} (ho : isS o) : m_151 o (H s) = some (bP (¬ fi s o 3 = i3 (-1))) := by
  unfold m_151
  simp only [r_S ho, Option.bind_some, jn, cst, bP_if, rB_0, rB_1, z00, z10, ↓reduceIte]
  unfold bP
  ((repeat' split) <;> (first | rfl | (exfalso; simp_all only [isT, isCl, isW, st3, btw, kOf, not_true_eq_false, not_false_eq_true, and_true, true_and, and_self, and_false, false_and, or_true, true_or, or_false, false_or, not_and]; done) | grind))
noncomputable def whyR (s : St) (o : Nat) : Int32 := if fi s o 3 = i3 (-1) then i3 (-4) else i3 (-3)
theorem q_152 {o : Nat} (ho : isS o) : m_152 o (H s) = some (whyR s o) := by
  unfold m_152 whyR
  simp only [r_S ho, Option.bind_some, jn, cst, bP_if, rB_0, rB_1, z00, z10, ↓reduceIte, q_151 ho]
  ((repeat' split) <;> (first | rfl | (exfalso; simp_all only [isT, isCl, isW, st3, btw, kOf, not_true_eq_false, not_false_eq_true, and_true, true_and, and_self, and_false, false_and, or_true, true_or, or_false, false_or, not_and]; done) | grind))
theorem whyR_B {o : Nat} : isB (whyR s o) := by
  unfold whyR
  split
  · exact isB4
  · exact isB3
theorem q_153 {o : Nat} (ho : isS o) (i : Int32) : m_153 o i (H s) = some (bP (¬ i < 0 ∧ ¬ fi s o 2 ≤ i)) := by
  unfold m_153
  simp only [r_S ho, Option.bind_some, jn, cst, bP_if, rB_0, rB_1, z00, z10, ↓reduceIte]
  exact bP2
abbrev strt (z f n : Int32) : Prop := ¬ f < 0 ∧ ¬ n < 0 ∧ ¬ z - n < f
theorem q_154 {o : Nat} (ho : isS o) (f n : Int32) : m_154 o f n (H s) = some (bP (strt (fi s o 2) f n)) := by
  unfold m_154
  simp only [r_S ho, Option.bind_some, jn, cst, bP_if, rB_0, rB_1, z00, z10, ↓reduceIte]
  unfold bP strt
  by_cases c1 : f < 0
  · rw [if_pos c1, if_neg (fun e => e.1 c1)]
  · rw [if_neg c1]
    by_cases c2 : n < 0
    · rw [if_pos c2, if_neg (fun e => e.2.1 c2)]
    · rw [if_neg c2]
      by_cases c3 : fi s o 2 - n < f
      · rw [if_pos c3, if_neg (fun e => e.2.2 c3)]
      · rw [if_neg c3, if_pos ⟨c1, c2, c3⟩]
noncomputable def fitJ (so : Int32) (v : Int64) : Int64 := if so < 0 ∨ 3 < so then (if lg_cmp v (Int64.ofNat 0) = 0 then Int64.ofNat 0 else Int64.ofNat 1) else if so = 0 then Int32.toInt64 (Int32.toInt8 (Int64.toInt32 v)).toInt32 else if so = 1 then Int32.toInt64 (Int32.toInt16 (Int64.toInt32 v)).toInt32 else if so = 2 then Int32.toInt64 (Int64.toInt32 v) else v
theorem four {w : Int32} (h : ¬ (w < 0 ∨ 3 < w)) (h0 : ¬ w = 0) (h1 : ¬ w = 1) (h2 : ¬ w = 2) : w = 3 := by
  have a : ¬ w.toInt < 0 := fun e => h (Or.inl (Int32.lt_iff_toInt_lt.mpr e))
  have b : ¬ 3 < w.toInt := fun e => h (Or.inr (Int32.lt_iff_toInt_lt.mpr e))
  have c : ¬ w.toInt = 0 := fun e => h0 (Int32.toInt_inj.mp e)
  have d : ¬ w.toInt = 1 := fun e => h1 (Int32.toInt_inj.mp e)
  have f : ¬ w.toInt = 2 := fun e => h2 (Int32.toInt_inj.mp e)
  exact Int32.toInt_inj.mp (show w.toInt = 3 by omega)
theorem fit_ifs (so : Int32) (v : Int64) : (if so < 0 ∨ 3 < so then (if lg_cmp v (Int64.ofNat 0) = 0 then some (Int64.ofNat 0) else some (Int64.ofNat 1)) else if so = 0 then some (Int32.toInt64 (Int32.toInt8 (Int64.toInt32 v)).toInt32) else if so = 1 then some (Int32.toInt64 (Int32.toInt16 (Int64.toInt32 v)).toInt32) else if so = 2 then some (Int32.toInt64 (Int64.toInt32 v)) else if so = 3 then some v else none) = some (fitJ so v) := by
  unfold fitJ
  by_cases c1 : so < 0 ∨ 3 < so
  · rw [if_pos c1, if_pos c1]
    split <;> rfl
  rw [if_neg c1, if_neg c1]
  by_cases c2 : so = 0
  · rw [if_pos c2, if_pos c2]
  rw [if_neg c2, if_neg c2]
  by_cases c3 : so = 1
  · rw [if_pos c3, if_pos c3]
  rw [if_neg c3, if_neg c3]
  by_cases c4 : so = 2
  · rw [if_pos c4, if_pos c4]
  rw [if_neg c4, if_neg c4, if_pos (four c1 c2 c3 c4)]
theorem q_157 {o : Nat} (ho : isS o) (v : Int64) : m_157 o v (H s) = some (fitJ (fi s o 1) v) := by
  unfold m_157
  simp only [r_S ho, Option.bind_some, jn, cst, bP_if, rB_0, rB_1, z00, z10, ↓reduceIte]
  exact fit_ifs _ _
noncomputable def zJ : List Int64 := List.replicate 40 (Int64.ofNat 0)
theorem itr_zJ : ∀ (n : Nat) (l : List Int64), n ≤ l.length → itr (fun k (l : List Int64) => l.set k (Int64.ofNat 0)) n l = List.replicate n (Int64.ofNat 0) ++ l.drop n
  | 0, l, _ => rfl
  | n + 1, l, h => by
    show (itr (fun k (l : List Int64) => l.set k (Int64.ofNat 0)) n l).set n (Int64.ofNat 0) = _
    rw [itr_zJ n l (by omega), List.set_append_right _ _ (by rw [List.length_replicate]; exact Nat.le_refl _), List.length_replicate, Nat.sub_self, List.drop_eq_getElem_cons (by omega), List.set_cons_zero, List.replicate_succ', List.append_assoc]
    rfl
theorem sl_sf (s : St) (p o k : Nat) (l : List Int64) (x : Int32) : sl (sf s o k x) p l = sf (sl s p l) o k x := rfl
theorem q_155 {k : Nat} (hk : k < 8) (hl : (la s (29 + 2 * k)).length = 40) (so n : Int32) : m_155 (28 + 2 * k) so n (H s) = some (H (wSh s k so n (i3 (-1)) zJ)) := by
  have hS := isS_k hk
  unfold m_155
  simp only [r_Sf hk, Option.bind_some, jn, cst, bP_if, rB_0, rB_1, z00, z10, ↓reduceIte]
  have h := lp_acc (R := tH) (X := tH) (K := fun x7 => some x7) (F := fun (s4 : Int32 × tH) nx5 ex6 => (gN s4.2 5 (28 + 2 * k) 0).bind fun o8 => (aL s4.2 o8).bind fun x9 => if x9 ≤ s4.1 then ex6 s4.2 else (gN s4.2 5 (28 + 2 * k) 0).bind fun o10 => (sJ s4.2 o10 s4.1 (Int64.ofNat 0)).bind fun th11 => nx5 ((s4.1 + Int32.ofInt 1), th11)) 40 (fun i (l : List Int64) => (i3 (i : Int), H (wSh s k so n (i3 (-1)) l))) (fun l => H (wSh s k so n (i3 (-1)) l)) (fun k l => l.set k (Int64.ofNat 0)) (fun _ l => l.length = 40) (la s (29 + 2 * k)) ?_ ?_ ?_ hl (fuel := 4096) (by omega)
  · have e0 : wSh s k so n (i3 (-1)) (la s (29 + 2 * k)) = sf (sf (sf s (28 + 2 * k) 1 so) (28 + 2 * k) 2 n) (28 + 2 * k) 3 (Int32.ofInt (-1)) := by
      unfold wSh
      rw [sl_id]
    rw [e0] at h
    refine h.trans ?_
    rw [itr_zJ 40 _ (by omega), List.drop_eq_nil_of_le (by omega), List.append_nil]
    rfl
  · intro i l nx ex hi hll
    have el : la (wSh s k so n (i3 (-1)) l) (29 + 2 * k) = l := by rw [la_wSh, if_pos rfl]
    have e : ∀ y, st64 l (i3 (i : Int)) y = some (l.set i y) := fun y => st64_nat (by omega) (by omega)
    have e2 : ¬ i3 ((40 : Nat) : Int) ≤ i3 (i : Int) := by rw [i3n_le (by omega) (by omega)]; omega
    have e3 : ∀ l', sl (wSh s k so n (i3 (-1)) l) (29 + 2 * k) l' = wSh s k so n (i3 (-1)) l' := fun l' => by
      unfold wSh
      rw [sl_sf, sl_sf, sl_sf, sl_sl]
    simp only [r_Sk hk, Option.bind_some, jn, cst, bP_if, rB_0, rB_1, z00, z10, ↓reduceIte, el, hll, i3_nat, e2, e, Option.map_some, e3, i3_nat_add]
  · intro i l hi hll
    exact (List.length_set).trans hll
  · intro l nx ex hll
    have el : la (wSh s k so n (i3 (-1)) l) (29 + 2 * k) = l := by rw [la_wSh, if_pos rfl]
    have e2 : i3 ((40 : Nat) : Int) ≤ i3 ((40 : Nat) : Int) := by rw [i3n_le (by omega) (by omega)]; omega
    simp only [r_Sk hk, Option.bind_some, jn, cst, bP_if, rB_0, rB_1, z00, z10, ↓reduceIte, el, hll, i3_nat, e2]
noncomputable def vRow (x so n : Int32) : Int32 := if x < 0 then i3 (-2) else if x < i3 8 then if so < 0 then i3 (-2) else if i3 4 < so then i3 (-2) else if n < 0 then i3 (-2) else if n ≤ i3 40 then i3 1 else i3 (-2) else i3 (-2)
noncomputable def sRow (f : Nat → Rw) (x so n : Int32) : Nat → Rw := if x < 0 then f else if x < i3 8 then if so < 0 then f else if i3 4 < so then f else if n < 0 then f else if n ≤ i3 40 then upR f x.toNatClampNeg (some (so, n, zJ)) else f else f
theorem b_2 (c : CI s) (x so n : Int32) : CC s (m_2 0 x so n (H s)) (vRow x so n) ((abC s).1, (abC s).2.1, (abC s).2.2.1, sRow (abC s).2.2.2 x so n) := by
  unfold m_2 vRow sRow
  simp only [r_0, q_60, Option.bind_some, jn, cst, bP_if, rB_0, rB_1, z00, z10, ↓reduceIte]
  by_cases c1 : x < 0
  · simp only [if_pos c1]
    exact CC.ref c isB2
  simp only [if_neg c1]
  by_cases c2 : x < i3 8
  · simp only [if_pos c2]
    by_cases c3 : so < 0
    · simp only [if_pos c3]
      exact CC.ref c isB2
    simp only [if_neg c3]
    by_cases c4 : i3 4 < so
    · simp only [if_pos c4]
      exact CC.ref c isB2
    simp only [if_neg c4]
    by_cases c5 : n < 0
    · simp only [if_pos c5]
      exact CC.ref c isB2
    simp only [if_neg c5]
    by_cases c6 : n ≤ i3 40
    · have hk := sh_nat c1 c2
      simp only [if_pos c6, q_155 hk (c.2.2.2.2.2 _ hk).1, Option.bind_some, jn, cst, bP_if, rB_0, rB_1, z00, z10, ↓reduceIte]
      have hso : ¬ so = i3 (-1) := fun e => c3 (by rw [e]; decide +kernel)
      have := CC.shelf c hk (so := so) (n := n) (t := i3 (-1)) (l := zJ) rfl (Or.inr ⟨c3, Int32.not_lt.mp c4⟩) ⟨c5, c6⟩ (fun e => absurd e hso) (Or.inl rfl) (i3 1)
      rw [if_neg hso] at this
      exact this
    · simp only [if_neg c6]
      exact CC.ref c isB2
  · simp only [if_neg c2]
    exact CC.ref c isB2
noncomputable def vShow (g : Gd) (x t : Int32) : Int32 := if x < 0 then i3 (-2) else if x < i3 8 then if t = i3 (-1) then i3 1 else if isT g t then i3 1 else i3 (-2) else i3 (-2)
noncomputable def sShow (g : Gd) (f : Nat → Rw) (x t : Int32) : Nat → Rw := if x < 0 then f else if x < i3 8 then if t = i3 (-1) then upR f x.toNatClampNeg none else if isT g t then upR f x.toNatClampNeg none else f else f
theorem CC.tree (c : CI s) {k : Nat} (hk : k < 8) {t : Int32} (ht : t = i3 (-1) ∨ isT (gd s 1) t) : CC s (some (i3 1, H (sf (sf (sf s (28 + 2 * k) 1 (i3 (-1))) (28 + 2 * k) 2 (i3 0)) (28 + 2 * k) 3 t))) (i3 1) ((abC s).1, (abC s).2.1, (abC s).2.2.1, upR (abC s).2.2.2 k none) := by
  have e0 : sf (sf (sf s (28 + 2 * k) 1 (i3 (-1))) (28 + 2 * k) 2 (i3 0)) (28 + 2 * k) 3 t = wSh s k (i3 (-1)) (i3 0) t (la s (29 + 2 * k)) := by
    unfold wSh
    rw [sl_id]
  rw [e0]
  have := CC.shelf c hk (so := i3 (-1)) (n := i3 0) (t := t) (l := la s (29 + 2 * k)) (c.2.2.2.2.2 _ hk).1 (Or.inl rfl) ⟨by decide +kernel, by decide +kernel⟩ (fun _ => rfl) (ht.elim Or.inl (fun e => Or.inr ⟨e, rfl⟩)) (i3 1)
  rw [if_pos rfl] at this
  exact this
theorem b_7 (c : CI s) (x t : Int32) : CC s (m_7 0 x t (H s)) (vShow (gd s 1) x t) ((abC s).1, (abC s).2.1, (abC s).2.2.1, sShow (gd s 1) (abC s).2.2.2 x t) := by
  unfold m_7 vShow sShow
  simp only [r_0, q_60, q_81 g1, Option.bind_some, jn, cst, bP_if, rB_0, rB_1, z00, z10, ↓reduceIte]
  by_cases c1 : x < 0
  · simp only [if_pos c1]
    exact CC.ref c isB2
  simp only [if_neg c1]
  by_cases c2 : x < i3 8
  · have hk := sh_nat c1 c2
    simp only [if_pos c2, q_156 (isS_k hk), Option.bind_some, jn, cst, bP_if, rB_0, rB_1, z00, z10, ↓reduceIte]
    by_cases c3 : t = i3 (-1)
    · simp only [if_pos c3]
      exact CC.tree c hk (Or.inl c3)
    simp only [if_neg c3]
    by_cases c4 : isT (gd s 1) t
    · simp only [if_pos c4]
      exact CC.tree c hk (Or.inr c4)
    · simp only [if_neg c4]
      exact CC.ref c isB2
  · simp only [if_neg c2]
    exact CC.ref c isB2
noncomputable def sSet (f : Nat → Rw) (x i : Int32) (v : Int64) : Nat → Rw := if x < 0 then f else if x < i3 8 then (match f x.toNatClampNeg with | none => f | some r => if ¬ i < 0 ∧ ¬ r.2.1 ≤ i then upR f x.toNatClampNeg (some (r.1, r.2.1, r.2.2.set i.toNatClampNeg (fitJ r.1 v))) else f) else f
theorem CC.refE (c : CI s) {x : Int32} (hx : isB x) : CC s ((m_59 0 x (H s)).bind fun q => some (q.1, q.2)) x ((abC s).1, (abC s).2.1, (abC s).2.2.1, (abC s).2.2.2) := CC.ref c hx
theorem abC_sh {k : Nat} (hk : k < 8) : (abC s).2.2.2 k = shC s k := if_pos hk
theorem e0_0 : (i3 0 : Int32) = 0 := rfl
theorem e1_0 : ¬ (i3 1 : Int32) = 0 := by decide +kernel
theorem m3_a (c : CI s) {x : Int32} (i : Int32) (v : Int64) (c1 : ¬ x < 0) (c2 : x < i3 8) (c3 : fi s (28 + 2 * x.toNatClampNeg) 1 = i3 (-1)) : m_3 0 x i v (H s) = (m_59 0 (whyR s (28 + 2 * x.toNatClampNeg)) (H s)).bind fun q => some (q.1, q.2) := by
  have hS := isS_k (sh_nat c1 c2)
  unfold m_3
  rw [(r_0 s).1, Option.bind_some, q_60, Option.bind_some, if_neg c1, if_pos c2]
  dsimp only
  rw [q_150 hS, Option.bind_some, bP_f (fun e => e c3), if_pos e0_0, q_152 hS, Option.bind_some]
theorem m3_b (c : CI s) {x : Int32} {i : Int32} (v : Int64) (c1 : ¬ x < 0) (c2 : x < i3 8) (c3 : ¬ fi s (28 + 2 * x.toNatClampNeg) 1 = i3 (-1)) (c4 : ¬ (¬ i < 0 ∧ ¬ fi s (28 + 2 * x.toNatClampNeg) 2 ≤ i)) : m_3 0 x i v (H s) = (m_59 0 (i3 (-2)) (H s)).bind fun q => some (q.1, q.2) := by
  have hS := isS_k (sh_nat c1 c2)
  unfold m_3
  rw [(r_0 s).1, Option.bind_some, q_60, Option.bind_some, if_neg c1, if_pos c2]
  dsimp only
  rw [q_150 hS, Option.bind_some, bP_t c3, if_neg e1_0, q_153 hS, Option.bind_some, bP_f c4, if_pos e0_0, cst.1]
theorem m3_c (c : CI s) {x : Int32} {i : Int32} (v : Int64) (c1 : ¬ x < 0) (c2 : x < i3 8) (c3 : ¬ fi s (28 + 2 * x.toNatClampNeg) 1 = i3 (-1)) (c4 : ¬ i < 0 ∧ ¬ fi s (28 + 2 * x.toNatClampNeg) 2 ≤ i) (hb : i.toNatClampNeg < (la s (29 + 2 * x.toNatClampNeg)).length) : m_3 0 x i v (H s) = some (i3 1, H (wSh s x.toNatClampNeg (fi s (28 + 2 * x.toNatClampNeg) 1) (fi s (28 + 2 * x.toNatClampNeg) 2) (fi s (28 + 2 * x.toNatClampNeg) 3) ((la s (29 + 2 * x.toNatClampNeg)).set i.toNatClampNeg (fitJ (fi s (28 + 2 * x.toNatClampNeg) 1) v)))) := by
  have hk := sh_nat c1 c2
  have hS := isS_k hk
  unfold m_3
  rw [(r_0 s).1, Option.bind_some, q_60, Option.bind_some, if_neg c1, if_pos c2]
  dsimp only
  rw [q_150 hS, Option.bind_some, bP_t c3, if_neg e1_0, q_153 hS, Option.bind_some, bP_t c4, if_neg e1_0, (r_Sk hk s).1, Option.bind_some, q_157 hS, Option.bind_some, (r_Sk hk s).2.2.2, stJ_wr c4.1 hb, Option.map_some, Option.bind_some, wSh_sl]
theorem b_3 (c : CI s) (x i : Int32) (v : Int64) : ∃ w, CC s (m_3 0 x i v (H s)) w ((abC s).1, (abC s).2.1, (abC s).2.2.1, sSet (abC s).2.2.2 x i v) := by
  unfold sSet
  by_cases c1 : x < 0
  · rw [if_pos c1]
    refine ⟨i3 (-2), ?_⟩
    unfold m_3
    rw [(r_0 s).1, Option.bind_some, q_60, Option.bind_some, if_pos c1]
    dsimp only
    rw [cst.1]
    exact CC.refE c isB2
  rw [if_neg c1]
  by_cases c2 : x < i3 8
  · have hk := sh_nat c1 c2
    rw [if_pos c2, abC_sh hk]
    by_cases c3 : fi s (28 + 2 * x.toNatClampNeg) 1 = i3 (-1)
    · refine ⟨whyR s (28 + 2 * x.toNatClampNeg), ?_⟩
      rw [m3_a c i v c1 c2 c3, show shC s x.toNatClampNeg = none from if_pos c3]
      exact CC.refE c whyR_B
    · rw [show shC s x.toNatClampNeg = some _ from if_neg c3]
      dsimp only
      obtain ⟨d1, d2, d3, d4, d5⟩ := c.2.2.2.2.2 _ hk
      by_cases c4 : ¬ i < 0 ∧ ¬ fi s (28 + 2 * x.toNatClampNeg) 2 ≤ i
      · rw [if_pos c4]
        have hb : i.toNatClampNeg < 40 := by
          have a := c4.1
          have b := c4.2
          have b2 := d3.2
          rw [Int32.lt_iff_toInt_lt] at a
          rw [Int32.le_iff_toInt_le] at b b2
          have e : (0 : Int32).toInt = 0 := by decide +kernel
          have e2 : (i3 40).toInt = 40 := by decide +kernel
          show i.toInt.toNat < 40
          omega
        rw [m3_c c v c1 c2 c3 c4 (by rw [d1]; exact hb)]
        have := CC.shelf c hk (so := fi s (28 + 2 * x.toNatClampNeg) 1) (n := fi s (28 + 2 * x.toNatClampNeg) 2) (t := fi s (28 + 2 * x.toNatClampNeg) 3) (l := (la s (29 + 2 * x.toNatClampNeg)).set i.toNatClampNeg (fitJ (fi s (28 + 2 * x.toNatClampNeg) 1) v)) ((List.length_set).trans d1) d2 d3 d4 d5 (i3 1)
        rw [if_neg c3] at this
        exact ⟨_, this⟩
      · rw [if_neg c4, m3_b c v c1 c2 c3 c4]
        exact ⟨_, CC.refE c isB2⟩
  · rw [if_neg c2]
    refine ⟨i3 (-2), ?_⟩
    unfold m_3
    rw [(r_0 s).1, Option.bind_some, q_60, Option.bind_some, if_neg c1, if_neg c2]
    dsimp only
    rw [cst.1]
    exact CC.refE c isB2
noncomputable def elV (f : Nat → Rw) (x i : Int32) : Int64 := if x < 0 then Int64.ofNat 0 else if x < i3 8 then (match f x.toNatClampNeg with | none => Int64.ofNat 0 | some r => if ¬ i < 0 ∧ ¬ r.2.1 ≤ i then rdJ r.2.2 i else Int64.ofNat 0) else Int64.ofNat 0
theorem b_5 (c : CI s) (x i : Int32) : m_5 0 x i (H s) = some (elV (abC s).2.2.2 x i) := by
  unfold m_5 elV
  simp only [r_0, q_60, Option.bind_some, jn, cst, bP_if, rB_0, rB_1, z00, z10, ↓reduceIte]
  by_cases c1 : x < 0
  · simp only [if_pos c1]
  simp only [if_neg c1]
  by_cases c2 : x < i3 8
  · have hk := sh_nat c1 c2
    have hS := isS_k hk
    obtain ⟨d1, d2, d3, d4, d5⟩ := c.2.2.2.2.2 _ hk
    simp only [if_pos c2, q_153 hS, r_Sk hk, Option.bind_some, jn, cst, bP_if, rB_0, rB_1, z00, z10, ↓reduceIte, abC_sh hk]
    unfold shC
    by_cases c4 : ¬ i < 0 ∧ ¬ fi s (28 + 2 * x.toNatClampNeg) 2 ≤ i
    · have c3 : ¬ fi s (28 + 2 * x.toNatClampNeg) 1 = i3 (-1) := fun e => by
        have a := c4.1
        have b := c4.2
        rw [d4 e] at b
        exact b (Int32.not_lt.mp a)
      rw [if_pos c4, if_neg c3]
      dsimp only
      rw [if_pos c4]
      have hb : i.toNatClampNeg < 40 := by
        have a := c4.1
        have b := c4.2
        have b2 := d3.2
        rw [Int32.lt_iff_toInt_lt] at a
        rw [Int32.le_iff_toInt_le] at b b2
        have e : (0 : Int32).toInt = 0 := by decide +kernel
        have e2 : (i3 40).toInt = 40 := by decide +kernel
        show i.toInt.toNat < 40
        omega
      simp only [atJ_rd c4.1 (show _ < (la s (29 + 2 * x.toNatClampNeg)).length by omega), Option.bind_some, jn, cst, bP_if, rB_0, rB_1, z00, z10, ↓reduceIte]
    · rw [if_neg c4]
      split
      · rfl
      · rename_i r hr
        split at hr
        · cases hr
        · cases hr
          rw [if_neg c4]
  · simp only [if_neg c2]
theorem b_6 (c : CI s) (x : Int32) : ∃ w, m_6 0 x (H s) = some w := by
  unfold m_6
  simp only [r_0, q_60, Option.bind_some, jn, cst, bP_if, rB_0, rB_1, z00, z10, ↓reduceIte]
  by_cases c1 : x < 0
  · simp only [if_pos c1]
    exact ⟨_, rfl⟩
  simp only [if_neg c1]
  by_cases c2 : x < i3 8
  · have hk := sh_nat c1 c2
    have hS := isS_k hk
    simp only [if_pos c2, q_151 hS, r_Sf hk, Option.bind_some, jn, cst, bP_if, rB_0, rB_1, z00, z10, ↓reduceIte]
    split <;> exact ⟨_, rfl⟩
  · simp only [if_neg c2]
    exact ⟨_, rfl⟩
end SHF
end
section
/-! ===== copy, says, judge, status (class) ===== -/
noncomputable def sCopy (f : Nat → Rw) (p q i j n : Int32) : Nat → Rw := if p < 0 then f else if p < i3 8 then if q < 0 then f else if q < i3 8 then (match f p.toNatClampNeg, f q.toNatClampNeg with | some a, some b => if a.1 = b.1 ∧ strt a.2.1 i n ∧ strt b.2.1 j n then upR f q.toNatClampNeg (some (b.1, b.2.1, t_cpy a.2.2 b.2.2 i.toNatClampNeg j.toNatClampNeg n.toNatClampNeg)) else f | _, _ => f) else f else f
section CP
variable {s : St}
theorem r_cpJ {a b : Nat} (ha : a < 8) (hb : b < 8) {sp dp n : Nat} (h1 : sp + n ≤ (la s (29 + 2 * a)).length) (h2 : dp + n ≤ (la s (29 + 2 * b)).length) (l1 : (la s (29 + 2 * a)).length ≤ 1000) (l2 : (la s (29 + 2 * b)).length ≤ 1000) : cpJ (H s) (29 + 2 * a) (i3 (sp : Int)) (29 + 2 * b) (i3 (dp : Int)) (i3 (n : Int)) = some (H (sl s (29 + 2 * b) (t_cpy (la s (29 + 2 * a)) (la s (29 + 2 * b)) sp dp n))) := by
  have F : ∀ k, k < 8 → (H s)[29 + 2 * k]? = some (.inl (1, .inr (.inl (la s (29 + 2 * k))))) := fun k hk => by
    match k, hk with
    | 0, _ => rfl
    | 1, _ => rfl
    | 2, _ => rfl
    | 3, _ => rfl
    | 4, _ => rfl
    | 5, _ => rfl
    | 6, _ => rfl
    | 7, _ => rfl
  have G : ∀ k, k < 8 → ∀ l : List Int64, (H s).set (29 + 2 * k) (.inl (1, .inr (.inl l))) = H (sl s (29 + 2 * k) l) := fun k hk l => by
    match k, hk with
    | 0, _ => rfl
    | 1, _ => rfl
    | 2, _ => rfl
    | 3, _ => rfl
    | 4, _ => rfl
    | 5, _ => rfl
    | 6, _ => rfl
    | 7, _ => rfl
  rw [cpJ_of (F a ha) (F b hb) h1 h2 l1 l2, G b hb]
theorem t150 {k : Nat} (hk : k < 8) (c : ¬ fi s (28 + 2 * k) 1 = i3 (-1)) : m_150 (28 + 2 * k) (H s) = some (i3 1) := by rw [q_150 (isS_k hk), bP_t c]
theorem f150 {k : Nat} (hk : k < 8) (c : fi s (28 + 2 * k) 1 = i3 (-1)) : m_150 (28 + 2 * k) (H s) = some (i3 0) := by rw [q_150 (isS_k hk), bP_f (fun e => e c)]
theorem t151 {k : Nat} (hk : k < 8) (c : ¬ fi s (28 + 2 * k) 3 = i3 (-1)) : m_151 (28 + 2 * k) (H s) = some (i3 1) := by rw [q_151 (isS_k hk), bP_t c]
theorem f151 {k : Nat} (hk : k < 8) (c : fi s (28 + 2 * k) 3 = i3 (-1)) : m_151 (28 + 2 * k) (H s) = some (i3 0) := by rw [q_151 (isS_k hk), bP_f (fun e => e c)]
theorem t154 {k : Nat} (hk : k < 8) {f n : Int32} (c : strt (fi s (28 + 2 * k) 2) f n) : m_154 (28 + 2 * k) f n (H s) = some (i3 1) := by rw [q_154 (isS_k hk), bP_t c]
theorem f154 {k : Nat} (hk : k < 8) {f n : Int32} (c : ¬ strt (fi s (28 + 2 * k) 2) f n) : m_154 (28 + 2 * k) f n (H s) = some (i3 0) := by rw [q_154 (isS_k hk), bP_f c]
theorem t60 {x : Int32} (c1 : ¬ x < 0) (c2 : x < i3 8) : m_60 0 x (H s) = some (some (28 + 2 * x.toNatClampNeg)) := by rw [q_60, if_neg c1, if_pos c2]
theorem f60 {x : Int32} (c : ¬ (¬ x < 0 ∧ x < i3 8)) : m_60 0 x (H s) = some none := by
  rw [q_60]
  by_cases c1 : x < 0
  · rw [if_pos c1]
  · rw [if_neg c1, if_neg (fun e => c ⟨c1, e⟩)]
theorem st_bd {z f n : Int32} (hz : ¬ z < 0 ∧ z ≤ i3 40) (h : strt z f n) : f.toNatClampNeg + n.toNatClampNeg ≤ 40 := by
  obtain ⟨a, b, d⟩ := h
  obtain ⟨z0, z1⟩ := hz
  have ez := i3_cl z0
  have en := i3_cl b
  have zb : z.toNatClampNeg ≤ 40 := le_cl (b := 40) (by omega) z0 z1
  have nb : n.toNatClampNeg < 2147483648 := by
    have := Int32.toInt_lt n
    show n.toInt.toNat < 2147483648
    omega
  have e : z - n = i3 ((z.toNatClampNeg : Int) - (n.toNatClampNeg : Int)) := by
    conv => lhs; rw [ez, en]
    exact i3_sub _ _
  rw [e, Int32.lt_iff_toInt_lt, i3_toInt ⟨by omega, by omega⟩] at d
  have f0 : ¬ f.toInt < 0 := fun e => a (Int32.lt_iff_toInt_lt.mpr e)
  have ef : ((f.toNatClampNeg : Nat) : Int) = f.toInt := by
    show ((f.toInt.toNat : Nat) : Int) = _
    omega
  omega
theorem b_4 (c : CI s) (p q i j n : Int32) : ∃ w, CC s (m_4 0 p q i j n (H s)) w ((abC s).1, (abC s).2.1, (abC s).2.2.1, sCopy (abC s).2.2.2 p q i j n) := by
  by_cases cp : ¬ p < 0 ∧ p < i3 8
  · by_cases cq : ¬ q < 0 ∧ q < i3 8
    · have hp := sh_nat cp.1 cp.2
      have hq := sh_nat cq.1 cq.2
      have eS : sCopy (abC s).2.2.2 p q i j n = (match shC s p.toNatClampNeg, shC s q.toNatClampNeg with | some a, some b => if a.1 = b.1 ∧ strt a.2.1 i n ∧ strt b.2.1 j n then upR (abC s).2.2.2 q.toNatClampNeg (some (b.1, b.2.1, t_cpy a.2.2 b.2.2 i.toNatClampNeg j.toNatClampNeg n.toNatClampNeg)) else (abC s).2.2.2 | _, _ => (abC s).2.2.2) := by
        unfold sCopy
        rw [if_neg cp.1, if_pos cp.2, if_neg cq.1, if_pos cq.2, abC_sh hp, abC_sh hq]
      rw [eS]
      have e60p := t60 (s := s) cp.1 cp.2
      have e60q := t60 (s := s) cq.1 cq.2
      obtain ⟨p1, p2, p3, p4, p5⟩ := c.2.2.2.2.2 _ hp
      obtain ⟨q1, q2, q3, q4, q5⟩ := c.2.2.2.2.2 _ hq
      unfold m_4
      rw [(r_0 s).1, Option.bind_some, e60p, Option.bind_some, e60q, Option.bind_some]
      unfold jn
      dsimp only
      by_cases tp : fi s (28 + 2 * p.toNatClampNeg) 3 = i3 (-1)
      · rw [f151 hp tp, Option.bind_some, if_pos e0_0]
        by_cases tq : fi s (28 + 2 * q.toNatClampNeg) 3 = i3 (-1)
        · rw [f151 hq tq, Option.bind_some, if_pos e0_0]
          by_cases rp : fi s (28 + 2 * p.toNatClampNeg) 1 = i3 (-1)
          · rw [f150 hp rp]
            simp only [Option.bind_some, if_pos e0_0]
            rw [show shC s p.toNatClampNeg = none from if_pos rp, cst.2.2.1]
            exact ⟨_, CC.refE c isB4⟩
          · rw [t150 hp rp]
            simp only [Option.bind_some, if_neg e1_0]
            rw [show shC s p.toNatClampNeg = some _ from if_neg rp]
            by_cases rq : fi s (28 + 2 * q.toNatClampNeg) 1 = i3 (-1)
            · rw [f150 hq rq]
              simp only [Option.bind_some, if_pos e0_0]
              rw [show shC s q.toNatClampNeg = none from if_pos rq, cst.2.2.1]
              exact ⟨_, CC.refE c isB4⟩
            · rw [t150 hq rq]
              simp only [Option.bind_some, if_neg e1_0, (r_Sf hp s).2.1, (r_Sf hq s).2.1]
              rw [show shC s q.toNatClampNeg = some _ from if_neg rq]
              dsimp only
              by_cases so : fi s (28 + 2 * p.toNatClampNeg) 1 = fi s (28 + 2 * q.toNatClampNeg) 1
              · rw [if_pos so]
                by_cases s1 : strt (fi s (28 + 2 * p.toNatClampNeg) 2) i n
                · rw [t154 hp s1, Option.bind_some, if_neg e1_0]
                  by_cases s2 : strt (fi s (28 + 2 * q.toNatClampNeg) 2) j n
                  · have b1 := st_bd p3 s1
                    have b2 := st_bd q3 s2
                    rw [t154 hq s2, Option.bind_some, if_neg e1_0, (r_Sk hp s).1, Option.bind_some, (r_Sk hq s).1, Option.bind_some, if_pos ⟨so, s1, s2⟩]
                    have ec := r_cpJ (s := s) hp hq (sp := i.toNatClampNeg) (dp := j.toNatClampNeg) (n := n.toNatClampNeg) (by omega) (by omega) (by omega) (by omega)
                    rw [← i3_cl s1.1, ← i3_cl s2.1, ← i3_cl s1.2.1] at ec
                    rw [ec, Option.bind_some, wSh_sl]
                    have := CC.shelf c hq (so := fi s (28 + 2 * q.toNatClampNeg) 1) (n := fi s (28 + 2 * q.toNatClampNeg) 2) (t := fi s (28 + 2 * q.toNatClampNeg) 3) (l := t_cpy (la s (29 + 2 * p.toNatClampNeg)) (la s (29 + 2 * q.toNatClampNeg)) i.toNatClampNeg j.toNatClampNeg n.toNatClampNeg) ((t_cpy_len (by omega) (by omega)).trans q1) q2 q3 q4 q5 n
                    rw [if_neg rq] at this
                    exact ⟨_, this⟩
                  · rw [f154 hq s2, Option.bind_some, if_pos e0_0, if_neg (fun e => s2 e.2.2), cst.1]
                    exact ⟨_, CC.refE c isB2⟩
                · rw [f154 hp s1, Option.bind_some, if_pos e0_0, if_neg (fun e => s1 e.2.1), cst.1]
                  exact ⟨_, CC.refE c isB2⟩
              · rw [if_neg so, if_neg (fun e => so e.1), cst.2.1]
                exact ⟨_, CC.refE c isB3⟩
        · rw [t151 hq tq, Option.bind_some, if_neg e1_0, cst.2.1]
          have rq : fi s (28 + 2 * q.toNatClampNeg) 1 = i3 (-1) := q5.elim (fun e => absurd e tq) (·.2)
          rw [show shC s q.toNatClampNeg = none from if_pos rq]
          refine ⟨i3 (-3), ?_⟩
          have := CC.refE c isB3
          cases shC s p.toNatClampNeg <;> exact this
      · rw [t151 hp tp, Option.bind_some, if_neg e1_0, cst.2.1]
        have rp : fi s (28 + 2 * p.toNatClampNeg) 1 = i3 (-1) := p5.elim (fun e => absurd e tp) (·.2)
        rw [show shC s p.toNatClampNeg = none from if_pos rp]
        exact ⟨_, CC.refE c isB3⟩
    · have eS : sCopy (abC s).2.2.2 p q i j n = (abC s).2.2.2 := by
        unfold sCopy
        rw [if_neg cp.1, if_pos cp.2]
        by_cases c1 : q < 0
        · rw [if_pos c1]
        · rw [if_neg c1, if_neg (fun e => cq ⟨c1, e⟩)]
      rw [eS]
      unfold m_4
      rw [(r_0 s).1, Option.bind_some, t60 cp.1 cp.2, Option.bind_some, f60 cq, Option.bind_some]
      unfold jn
      dsimp only
      rw [cst.1]
      exact ⟨_, CC.refE c isB2⟩
  · have eS : sCopy (abC s).2.2.2 p q i j n = (abC s).2.2.2 := by
      unfold sCopy
      by_cases c1 : p < 0
      · rw [if_pos c1]
      · rw [if_neg c1, if_neg (fun e => cp ⟨c1, e⟩)]
    rw [eS]
    have e60 : ∃ r, m_60 0 q (H s) = some r := ⟨_, q_60 q⟩
    obtain ⟨r, er⟩ := e60
    unfold m_4
    rw [(r_0 s).1, Option.bind_some, f60 cp, Option.bind_some, er, Option.bind_some]
    unfold jn
    dsimp only
    rw [cst.1]
    exact ⟨_, CC.refE c isB2⟩
theorem CC.refA (c : CI s) {x : Int32} (hx : isB x) : CC s ((m_59 0 x (H s)).bind fun q => some (q.1, q.2)) x (abC s) := CC.ref c hx
theorem six {w : Int32} (h : ¬ w < 0) (h4 : w ≤ i3 5) : w = 0 ∨ w = 1 ∨ w = 2 ∨ w = 3 ∨ w = 4 ∨ w = 5 := by
  have a : ¬ w.toInt < 0 := fun e => h (Int32.lt_iff_toInt_lt.mpr e)
  have b : w.toInt ≤ 5 := Int32.le_iff_toInt_le.mp h4
  have c : w.toInt = 0 ∨ w.toInt = 1 ∨ w.toInt = 2 ∨ w.toInt = 3 ∨ w.toInt = 4 ∨ w.toInt = 5 := by omega
  rcases c with c | c | c | c | c | c
  · exact Or.inl (Int32.toInt_inj.mp c)
  · exact Or.inr (Or.inl (Int32.toInt_inj.mp c))
  · exact Or.inr (Or.inr (Or.inl (Int32.toInt_inj.mp c)))
  · exact Or.inr (Or.inr (Or.inr (Or.inl (Int32.toInt_inj.mp c))))
  · exact Or.inr (Or.inr (Or.inr (Or.inr (Or.inl (Int32.toInt_inj.mp c)))))
  · exact Or.inr (Or.inr (Or.inr (Or.inr (Or.inr (Int32.toInt_inj.mp c)))))
theorem b_8 (c : CI s) (x w : Int32) : ∃ v, CC s (m_8 0 x w (H s)) v (abC s) := by
  by_cases cx : ¬ x < 0 ∧ x < i3 8
  · have hk := sh_nat cx.1 cx.2
    obtain ⟨p1, p2, p3, p4, p5⟩ := c.2.2.2.2.2 _ hk
    unfold m_8
    rw [(r_0 s).1, Option.bind_some, t60 cx.1 cx.2, Option.bind_some]
    unfold jn
    dsimp only
    by_cases w0 : w < 0
    · rw [if_pos w0, cst.1]
      exact ⟨_, CC.refA c isB2⟩
    rw [if_neg w0]
    by_cases w5 : w ≤ i3 5
    · have w5' : w ≤ Int32.ofInt 5 := w5
      rw [if_pos w5']
      by_cases r : fi s (28 + 2 * x.toNatClampNeg) 1 = i3 (-1)
      · rw [f150 hk r, Option.bind_some, if_pos e0_0]
        by_cases t : fi s (28 + 2 * x.toNatClampNeg) 3 = i3 (-1)
        · rw [f151 hk t, Option.bind_some, if_pos e0_0, Option.bind_some, if_pos e0_0, cst.2.2.1]
          exact ⟨_, CC.refA c isB4⟩
        · have hT : isT (gd s 1) (fi s (28 + 2 * x.toNatClampNeg) 3) := p5.elim (fun e => absurd e t) (·.1)
          rw [t151 hk t, Option.bind_some, if_neg e1_0, (r_0 s).2.1, Option.bind_some, (r_Sf hk s).2.2.2.2.2.1, Option.bind_some, q_85 g1 c.1.1 hT, Option.bind_some, bP_if]
          by_cases o : kOf (kA (gd s 1) (fi s (28 + 2 * x.toNatClampNeg) 3)) w
          · rw [if_pos o, Option.bind_some, if_neg e1_0]
            have eV : ∃ v, ((gN (H s) 2 1 2).bind fun o16 => (some (fi s (28 + 2 * x.toNatClampNeg) 3)).bind fun x17 => (aI (H s) o16 x17).bind fun x18 => some (x18, H s)) = some (v, H s) := ⟨vA (gd s 1) (fi s (28 + 2 * x.toNatClampNeg) 3), by
              simp only [r_G g1, Option.bind_some, c.1.1.at_v hT]⟩
            obtain ⟨v, eV⟩ := eV
            have quiet : ∀ v : Int32, CC s (some (v, H s)) v (abC s) := fun v => CC.id c v
            rcases six w0 w5 with rfl | rfl | rfl | rfl | rfl | rfl
            · rw [if_neg (by decide +kernel), if_pos rfl]
              obtain ⟨s1, e1, q1, r1⟩ := q_63 c.1.1 c.1.2.1
              have ef : fi s1 (28 + 2 * x.toNatClampNeg) 3 = fi s (28 + 2 * x.toNatClampNeg) 3 := q1.q.eC.fs hk 3
              rw [e1, Option.bind_some]
              simp only [(r_Sf hk s1).2.2.2.2.2.1, Option.bind_some, q_107 r1]
              exact ⟨_, s1, rfl, q1.q.eC.ci c, q1.q.eM, q1.q.eC.ab⟩
            · rw [if_neg (by decide +kernel), if_neg (by decide +kernel), if_pos rfl, Option.bind_some, Option.bind_some, q_97 g1 c.1.1, Option.bind_some]
              exact ⟨_, quiet _⟩
            · rw [if_neg (by decide +kernel), if_neg (by decide +kernel), if_neg (by decide +kernel), if_pos rfl, Option.bind_some, Option.bind_some, q_148 g1 c.1.1 hT, Option.bind_some]
              exact ⟨_, quiet _⟩
            · rw [if_neg (by decide +kernel), if_neg (by decide +kernel), if_neg (by decide +kernel), if_neg (by decide +kernel), if_pos rfl, Option.bind_some, eV]
              exact ⟨_, quiet _⟩
            · rw [if_neg (by decide +kernel), if_neg (by decide +kernel), if_neg (by decide +kernel), if_neg (by decide +kernel), if_neg (by decide +kernel), if_pos rfl, Option.bind_some, Option.bind_some, q_128 g1 c.1.1 hT, Option.bind_some]
              exact ⟨_, quiet _⟩
            · rw [if_pos (by decide +kernel), Option.bind_some, eV]
              exact ⟨_, quiet _⟩
          · rw [if_neg o, cst.2.1]
            exact ⟨_, CC.refA c isB3⟩
      · rw [t150 hk r, Option.bind_some, if_neg e1_0, cst.2.1]
        exact ⟨_, CC.refA c isB3⟩
    · have w5' : ¬ w ≤ Int32.ofInt 5 := w5
      rw [if_neg w5', cst.1]
      exact ⟨_, CC.refA c isB2⟩
  · unfold m_8
    rw [(r_0 s).1, Option.bind_some, f60 cx, Option.bind_some]
    unfold jn
    dsimp only
    rw [cst.1]
    exact ⟨_, CC.refA c isB2⟩
theorem J_T {v : Int64} {g : Gd} (h : ok g) (h0 : ¬ lg_cmp v (Int64.ofNat 0) < 0) (h1 : lg_cmp v (Int32.toInt64 (tN g)) < 0) : isT g (Int64.toInt32 v) := by
  have n12 := h.n_le
  have e0 : (Int64.ofNat 0).toInt = 0 := by decide +kernel
  have en : (Int32.toInt64 (tN g)).toInt = (nn g : Int) := by
    rw [Int32.toInt_toInt64, h.n_eq, i3_toInt ⟨by omega, by omega⟩]
  have a : 0 ≤ v.toInt := by
    refine Classical.byContradiction fun hn => h0 ?_
    unfold lg_cmp
    rw [if_neg, if_neg]
    · decide +kernel
    · intro e
      rw [e, e0] at hn
      omega
    · intro e
      have e' := Int64.lt_iff_toInt_lt.mp e
      rw [e0] at e'
      omega
  have b : v.toInt < nn g := by
    refine Classical.byContradiction fun hn => ?_
    have : ¬ lg_cmp v (Int32.toInt64 (tN g)) < 0 := by
      unfold lg_cmp
      by_cases e : v = Int32.toInt64 (tN g)
      · rw [if_neg (fun h => by rw [e] at h; exact absurd (Int64.lt_iff_toInt_lt.mp h) (by omega)), if_pos e]
        decide +kernel
      · rw [if_pos]
        · decide +kernel
        · refine Int64.lt_iff_toInt_lt.mpr ?_
          rw [en]
          have : v.toInt ≠ nn g := fun e' => e (Int64.toInt_inj.mp (by rw [en]; exact e'))
          omega
    exact this h1
  have ev : (Int64.toInt32 v).toInt = v.toInt := by
    rw [Int64.toInt_toInt32, Int.bmod_eq_of_le (by omega) (by omega)]
  refine ⟨fun e => ?_, fun e => ?_⟩
  · have := Int32.lt_iff_toInt_lt.mp e
    rw [ev] at this
    have e2 : (0 : Int32).toInt = 0 := by decide +kernel
    omega
  · have := Int32.le_iff_toInt_le.mp e
    rw [ev, h.n_eq, i3_toInt ⟨by omega, by omega⟩] at this
    omega
theorem q_29 (c : CI s) {k : Nat} (hk : k < 8) {t : Int32} (ht : isT (gd s 1) t) : ∃ b : Int32, m_29 0 (28 + 2 * k) t (H s) = some b ∧ (b = i3 0 ∨ b = i3 1) := by
  obtain ⟨p1, -⟩ := c.2.2.2.2.2 _ hk
  have a0 : ∃ v, at64 (la s (29 + 2 * k)) (Int32.ofInt 0) = some v := ⟨_, atJ_rd (by decide +kernel) (by rw [p1]; decide +kernel)⟩
  have a1 : ∃ v, at64 (la s (29 + 2 * k)) (Int32.ofInt 1) = some v := ⟨_, atJ_rd (by decide +kernel) (by rw [p1]; decide +kernel)⟩
  obtain ⟨v0, a0⟩ := a0
  obtain ⟨v1, a1⟩ := a1
  unfold m_29
  rw [(r_0 s).1, Option.bind_some, (r_Sk hk s).1, Option.bind_some, (r_Sk hk s).2.1, a0, Option.bind_some, Option.bind_some, (r_Sk hk s).2.1, a1, Option.bind_some, (r_0 s).2.1, Option.bind_some, q_81 g1, Option.bind_some]
  unfold jn
  dsimp only
  rw [bP_if]
  by_cases c1 : isT (gd s 1) (Int64.toInt32 v0)
  · rw [if_pos c1, Option.bind_some, q_81 g1, Option.bind_some, bP_if]
    by_cases c2 : isT (gd s 1) (Int64.toInt32 v1)
    · rw [if_pos c2]
      simp only [Option.bind_some, r_G g1, c.1.1.at_c c1, c.1.1.at_c c2, c.1.1.at_c ht, q_79 g1 c.1.1]
      split
      · exact ⟨_, rB_1, Or.inr rfl⟩
      · exact ⟨_, rB_0, Or.inl rfl⟩
    · rw [if_neg c2]
      exact ⟨_, rB_0, Or.inl rfl⟩
  · rw [if_neg c1]
    exact ⟨_, rB_0, Or.inl rfl⟩
theorem q_28 (c : CI s) {k : Nat} (hk : k < 8) {n : Nat} (hn : n ≤ 12) : T (m_28 0 (28 + 2 * k) (i3 (n : Int)) (H s)) (fun _ => True) := by
  obtain ⟨p1, -⟩ := c.2.2.2.2.2 _ hk
  unfold m_28
  rw [(r_0 s).1, Option.bind_some]
  refine lpH n (fun j q => ∃ m, q = (m, i3 (j : Int))) (fun _ => True) ?_ ?_ ?_ ?_ (by omega)
  · rintro j _ hj ⟨m, rfl⟩ nx ex hnx hex
    have e1 : ¬ i3 (n : Int) ≤ i3 (j : Int) := by rw [i3n_le (by omega) (by omega)]; omega
    have a0 : at64 (la s (29 + 2 * k)) (i3 (j : Int)) = some (rdJ (la s (29 + 2 * k)) (i3 (j : Int))) := atJ_rd (i3n_nneg (by omega)) (by rw [p1, cl_i3 (by omega)]; omega)
    dsimp only
    rw [if_neg e1, (r_Sk hk s).1, Option.bind_some, (r_Sk hk s).2.1, a0, Option.bind_some]
    generalize rdJ (la s (29 + 2 * k)) (i3 (j : Int)) = v
    unfold jn
    dsimp only
    have st : T (some (i3 (j : Int))) (fun _ => True) := T_some trivial
    have go : ∀ m', T (nx (m', i3 (j : Int) + Int32.ofInt 1)) (fun _ => True) := fun m' => hnx _ ⟨m', by rw [i3_nat_add]⟩
    by_cases d1 : lg_cmp v (Int64.ofNat 0) < 0
    · rw [if_pos d1]; exact st
    rw [if_neg d1, (r_0 s).2.1, Option.bind_some]
    have rt : gI (H s) 2 1 5 = some (tN (gd s 1)) := rfl
    rw [rt, Option.bind_some]
    by_cases d2 : lg_cmp v (Int32.toInt64 (tN (gd s 1))) < 0
    · rw [if_pos d2]
      have hT := J_T c.1.1 d1 d2
      generalize Int64.toInt32 v = t at hT
      by_cases d3 : (m &&& Int32.ofInt 1 <<< (t &&& 31)) = 0
      · rw [if_pos d3, if_pos e0_0, Option.bind_some, q_85 g1 c.1.1 hT, Option.bind_some, bP_if]
        by_cases d4 : kOf (kA (gd s 1) t) (Int32.ofInt 4)
        · rw [if_pos d4]; exact st
        · rw [if_neg d4]
          by_cases d5 : i3 (j : Int) < Int32.ofInt 2
          · rw [if_pos d5]; exact go _
          · rw [if_neg d5]
            obtain ⟨b, eb, hb⟩ := q_29 c hk hT
            rw [eb, Option.bind_some]
            rcases hb with rfl | rfl
            · rw [if_pos e0_0]; exact st
            · rw [if_neg e1_0]; exact go _
      · rw [if_neg d3, if_neg e1_0]; exact st
    · rw [if_neg d2]; exact st
  · rintro _ ⟨m, rfl⟩ nx ex hex
    have e1 : i3 (n : Int) ≤ i3 (n : Int) := Int32.le_refl _
    dsimp only
    rw [if_pos e1]
    exact hex _ trivial
  · intro _ _
    exact T_some trivial
  · exact ⟨_, rfl⟩
theorem b_27 (c : CI s) (x n : Int32) : ∃ v, CC s (m_27 0 x n (H s)) v (abC s) := by
  by_cases cx : ¬ x < 0 ∧ x < i3 8
  · have hk := sh_nat cx.1 cx.2
    unfold m_27
    rw [(r_0 s).1, Option.bind_some, t60 cx.1 cx.2, Option.bind_some]
    unfold jn
    dsimp only
    by_cases w0 : n < 0
    · rw [if_pos w0, cst.1]
      exact ⟨_, CC.refA c isB2⟩
    rw [if_neg w0]
    have c12 : (Int8.ofInt 12).toInt32 = i3 12 := by decide +kernel
    rw [c12]
    by_cases w5 : n ≤ i3 12
    · rw [if_pos w5]
      by_cases r : fi s (28 + 2 * x.toNatClampNeg) 1 = i3 (-1)
      · rw [f150 hk r, Option.bind_some, if_pos e0_0, q_152 (isS_k hk), Option.bind_some]
        exact ⟨_, CC.refA c whyR_B⟩
      · rw [t150 hk r, Option.bind_some, if_neg e1_0, (r_Sf hk s).2.2.2.1, Option.bind_some]
        by_cases d : n ≤ fi s (28 + 2 * x.toNatClampNeg) 2
        · rw [if_pos d]
          have hb : n.toNatClampNeg ≤ 12 := le_cl (b := 12) (by omega) w0 w5
          obtain ⟨v, ev, -⟩ := q_28 c hk hb
          rw [← i3_cl w0] at ev
          rw [ev, Option.bind_some]
          exact ⟨_, CC.id c v⟩
        · rw [if_neg d, cst.1]
          exact ⟨_, CC.refA c isB2⟩
    · rw [if_neg w5, cst.1]
      exact ⟨_, CC.refA c isB2⟩
  · unfold m_27
    rw [(r_0 s).1, Option.bind_some, f60 cx, Option.bind_some]
    unfold jn
    dsimp only
    rw [cst.1]
    exact ⟨_, CC.refA c isB2⟩
theorem q_61 : T (m_61 0 (H s)) (fun _ => True) := by
  unfold m_61
  rw [(r_0 s).1, Option.bind_some]
  refine lpH 8 (fun j q => ∃ m, q = (m, i3 (j : Int))) (fun _ => True) ?_ ?_ ?_ ?_ (by omega)
  · rintro j _ hj ⟨m, rfl⟩ nx ex hnx hex
    have e8 : ¬ Int32.ofNat 8 ≤ i3 (j : Int) := by
      rw [i3_nat, i3n_le (by omega) (by omega)]; omega
    have e2 : i3 (j : Int) < i3 8 := by
      show i3 (j : Int) < i3 ((8 : Nat) : Int)
      rw [i3n_lt (by omega) (by omega)]; exact hj
    have go : ∀ m', T (nx (m', i3 (j : Int) + Int32.ofInt 1)) (fun _ => True) := fun m' => hnx _ ⟨m', by rw [i3_nat_add]⟩
    have a8 : aL (H s) 26 = some (Int32.ofNat 8) := rfl
    have g8 : gN (H s) 7 0 8 = some 26 := rfl
    dsimp only
    rw [g8, Option.bind_some, a8, Option.bind_some, if_neg e8, t60 (i3n_nneg (by omega)) e2, Option.bind_some, cl_i3 (by omega)]
    unfold jn
    dsimp only
    by_cases r : fi s (28 + 2 * j) 1 = i3 (-1)
    · rw [f150 hj r, Option.bind_some, if_pos e0_0]
      by_cases t : fi s (28 + 2 * j) 3 = i3 (-1)
      · rw [f151 hj t, Option.bind_some, if_pos e0_0]; exact go _
      · rw [t151 hj t, Option.bind_some, if_neg e1_0]; exact go _
    · rw [t150 hj r, Option.bind_some, if_neg e1_0]; exact go _
  · rintro _ ⟨m, rfl⟩ nx ex hex
    have e8 : Int32.ofNat 8 ≤ i3 ((8 : Nat) : Int) := by decide +kernel
    have a8 : aL (H s) 26 = some (Int32.ofNat 8) := rfl
    have g8 : gN (H s) 7 0 8 = some 26 := rfl
    dsimp only
    rw [g8, Option.bind_some, a8, Option.bind_some, if_pos e8]
    exact hex _ trivial
  · intro _ _
    exact T_some trivial
  · exact ⟨_, rfl⟩
theorem ten {w : Int32} (h : ¬ (w < 0 ∨ 9 < w)) : ∃ k : Nat, k < 10 ∧ w = i3 (k : Int) := by
  have a : ¬ w.toInt < 0 := fun e => h (Or.inl (Int32.lt_iff_toInt_lt.mpr e))
  have b : ¬ 9 < w.toInt := fun e => h (Or.inr (Int32.lt_iff_toInt_lt.mpr e))
  refine ⟨w.toInt.toNat, by omega, ?_⟩
  exact i3_cl (fun e => h (Or.inl e))
theorem b_58 (c : CI s) (w : Int32) : ∃ v, CC s (m_58 0 w (H s)) v (abC s) := by
  have quiet : ∀ v : Int32, CC s (some (v, H s)) v (abC s) := fun v => CC.id c v
  unfold m_58
  rw [(r_0 s).1, Option.bind_some]
  by_cases c1 : w < 0 ∨ 9 < w
  · rw [if_pos c1]
    unfold jn
    dsimp only
    have c12 : (Int8.ofInt 12).toInt32 = i3 12 := by decide +kernel
    have c16 : (Int8.ofInt 16).toInt32 = i3 16 := by decide +kernel
    rw [c12, c16]
    by_cases d1 : w < i3 12
    · rw [if_pos d1]; exact ⟨_, quiet _⟩
    rw [if_neg d1]
    by_cases d2 : i3 16 < w
    · rw [if_pos d2]; exact ⟨_, quiet _⟩
    rw [if_neg d2]
    have g9 : gN (H s) 7 0 9 = some 27 := rfl
    have h27 : ∀ i, aI (H s) 27 i = at32 (ia s 27) i := fun i => aI_of rfl
    have a : ¬ w.toInt < 12 := fun e => d1 (Int32.lt_iff_toInt_lt.mpr e)
    have b : ¬ 16 < w.toInt := fun e => d2 (Int32.lt_iff_toInt_lt.mpr e)
    have ew : w - i3 12 = i3 ((w.toInt - 12).toNat : Int) := by
      have e1 : w = i3 w.toInt := (Int32.ofInt_toInt w).symm
      conv => lhs; rw [e1]
      rw [i3_sub]
      congr 1
      omega
    have ea : at32 (ia s 27) (w - i3 12) = some (rd (ia s 27) (w - i3 12)) := by
      rw [ew]
      exact at_rd (i3n_nneg (by omega)) (by rw [cl_i3 (by omega), c.1.2.2]; omega)
    rw [g9, Option.bind_some, h27, ea, Option.bind_some]
    exact ⟨_, quiet _⟩
  · rw [if_neg c1]
    have rows : ∀ (F : Nat × tH → Option (Int32 × tH)), (∀ s1, rowsOK s1 (RL (gd s 1)) → ∃ v, F (16, H s1) = some (v, H s1)) → ∃ v, CC s ((m_63 0 (H s)).bind F) v (abC s) := fun F hF => by
      obtain ⟨s1, e1, q1, r1⟩ := q_63 c.1.1 c.1.2.1
      obtain ⟨v, ev⟩ := hF s1 r1
      rw [e1, Option.bind_some, ev]
      exact ⟨v, s1, rfl, q1.q.eC.ci c, q1.q.eM, q1.q.eC.ab⟩
    obtain ⟨k, hk, rfl⟩ := ten c1
    have F0 : gN (H s) 7 0 0 = some 1 := rfl
    have F7 : gN (H s) 7 0 7 = some 24 := rfl
    match k, hk with
    | 0, _ => rw [if_pos (by decide +kernel), F0]; exact ⟨_, quiet _⟩
    | 1, _ => rw [if_neg (by decide +kernel), if_pos (by decide +kernel), F0]; exact ⟨_, quiet _⟩
    | 2, _ => rw [if_neg (by decide +kernel), if_neg (by decide +kernel), if_pos (by decide +kernel)]; exact rows _ (fun s1 r1 => ⟨_, rfl⟩)
    | 3, _ => rw [if_neg (by decide +kernel), if_neg (by decide +kernel), if_neg (by decide +kernel), if_pos (by decide +kernel), F0, Option.bind_some, q_86 g1 c.1.1, Option.bind_some]; exact ⟨_, quiet _⟩
    | 4, _ => rw [if_neg (by decide +kernel), if_neg (by decide +kernel), if_neg (by decide +kernel), if_neg (by decide +kernel), if_pos (by decide +kernel), F0, Option.bind_some, q_86 g1 c.1.1, Option.bind_some]; exact ⟨_, quiet _⟩
    | 5, _ => rw [if_neg (by decide +kernel), if_neg (by decide +kernel), if_neg (by decide +kernel), if_neg (by decide +kernel), if_neg (by decide +kernel), if_pos (by decide +kernel), F0]; exact ⟨_, quiet _⟩
    | 6, _ => rw [if_neg (by decide +kernel), if_neg (by decide +kernel), if_neg (by decide +kernel), if_neg (by decide +kernel), if_neg (by decide +kernel), if_neg (by decide +kernel), if_pos (by decide +kernel), F7]; exact ⟨_, quiet _⟩
    | 7, _ => rw [if_neg (by decide +kernel), if_neg (by decide +kernel), if_neg (by decide +kernel), if_neg (by decide +kernel), if_neg (by decide +kernel), if_neg (by decide +kernel), if_neg (by decide +kernel), if_pos (by decide +kernel), F0]; exact ⟨_, quiet _⟩
    | 8, _ =>
      rw [if_neg (by decide +kernel), if_neg (by decide +kernel), if_neg (by decide +kernel), if_neg (by decide +kernel), if_neg (by decide +kernel), if_neg (by decide +kernel), if_neg (by decide +kernel), if_neg (by decide +kernel), if_pos (by decide +kernel)]
      obtain ⟨v, ev, -⟩ := q_61 (s := s)
      rw [ev]
      exact ⟨_, quiet v⟩
    | 9, _ =>
      rw [if_neg (by decide +kernel), if_neg (by decide +kernel), if_neg (by decide +kernel), if_neg (by decide +kernel), if_neg (by decide +kernel), if_neg (by decide +kernel), if_neg (by decide +kernel), if_neg (by decide +kernel), if_neg (by decide +kernel), if_pos (by decide +kernel)]
      exact rows _ (fun s1 r1 => ⟨_, by
        dsimp only
        rw [q_106 r1]; rfl⟩)
    | n + 10, h => exact absurd h (by omega)
end CP
end
section
/-! ===== the tape, token by token ===== -/
noncomputable def bt (b : List Int32) (i : Nat) : Int32 := b.getD i 0
noncomputable def cOt (x : Int32) : Int32 := if x = i3 59 then i3 3 else i3 4
noncomputable def cDg (x : Int32) : Int32 := if x < i3 48 then cOt x else if i3 57 < x then cOt x else i3 2
noncomputable def cls (x : Int32) : Int32 := if x < i3 97 then cDg x else if i3 122 < x then cDg x else i3 1
noncomputable def typ (b : List Int32) (n i : Nat) : Int32 := if i < n then cls (bt b i) else i3 0
noncomputable def skp (b : List Int32) (n e : Nat) : Nat := (fst? (fun i => decide (¬ bt b i = i3 32)) (n - e) e).getD n
noncomputable def run (b : List Int32) (n : Nat) (t : Int32) (i : Nat) : Nat := (fst? (fun j => decide (¬ cls (bt b j) = t)) (n - i) i).getD n
/-- a token: what it is, where it begins, where it ends -/
abbrev Tk : Type := Int32 × Nat × Nat
noncomputable def adv (b : List Int32) (n e : Nat) : Tk := (typ b n (skp b n e), skp b n e, if typ b n (skp b n e) = i3 0 then skp b n e else if typ b n (skp b n e) = i3 1 then run b n (i3 1) (skp b n e + 1) else if typ b n (skp b n e) = i3 2 then run b n (i3 2) (skp b n e + 1) else skp b n e + 1)
noncomputable def vaF (b : List Int32) (k : Nat) (v : Int32) : Int32 := i3 10 * v + bt b k - i3 48
noncomputable def val (b : List Int32) (l m : Nat) : Int32 := fB l m (vaF b) (i3 0)
noncomputable def num (b : List Int32) (t : Tk) : Int32 := if t.1 = i3 2 then if t.2.2 - t.2.1 ≤ 2 then val b t.2.1 t.2.2 else i3 (-1) else i3 (-1)
theorem gD_bd {p : Nat → Bool} {n l : Nat} (h : l ≤ n) : l ≤ (fst? p (n - l) l).getD n ∧ (fst? p (n - l) l).getD n ≤ n := by
  cases hf : fst? p (n - l) l with
  | none => exact ⟨h, Nat.le_refl _⟩
  | some k =>
    have := fst?_some hf
    show l ≤ k ∧ k ≤ n
    omega
theorem adv_bd {b : List Int32} {n e : Nat} (h : e ≤ n) : e ≤ (adv b n e).2.1 ∧ (adv b n e).2.1 ≤ (adv b n e).2.2 ∧ (adv b n e).2.2 ≤ n ∧ (¬ (adv b n e).1 = i3 0 → (adv b n e).2.1 < (adv b n e).2.2) := by
  have h1 := gD_bd (p := fun i => decide (¬ bt b i = i3 32)) h
  have h2 : e ≤ skp b n e ∧ skp b n e ≤ n := h1
  unfold adv
  dsimp only
  generalize skp b n e = k at h2
  by_cases c : k < n
  · have r1 := gD_bd (p := fun j => decide (¬ cls (bt b j) = i3 1)) (show k + 1 ≤ n by omega)
    have r2 := gD_bd (p := fun j => decide (¬ cls (bt b j) = i3 2)) (show k + 1 ≤ n by omega)
    have r1' : k + 1 ≤ run b n (i3 1) (k + 1) ∧ run b n (i3 1) (k + 1) ≤ n := r1
    have r2' : k + 1 ≤ run b n (i3 2) (k + 1) ∧ run b n (i3 2) (k + 1) ≤ n := r2
    split
    · rename_i e0
      exact ⟨by omega, by omega, by omega, fun e => absurd e0 e⟩
    · split
      · exact ⟨by omega, by omega, by omega, fun _ => by omega⟩
      · split
        · exact ⟨by omega, by omega, by omega, fun _ => by omega⟩
        · exact ⟨by omega, by omega, by omega, fun _ => by omega⟩
  · have e0 : typ b n k = i3 0 := if_neg c
    rw [if_pos e0]
    exact ⟨by omega, by omega, by omega, fun e => absurd e0 e⟩
theorem lpW {σ X R : Type} {F : σ → (σ → Option R) → (X → Option R) → Option R} {K : X → Option R} (l n : Nat) (hl : l ≤ n) (hn : n ≤ 1000) (S : Nat → σ) (out : Nat → X) (p : Nat → Bool)
    (hs : ∀ k nx ex, l ≤ k → k < n → F (S k) nx ex = if p k = true then ex (out k) else nx (S (k + 1))) (he : ∀ nx ex, F (S n) nx ex = ex (out n)) : lp F 4096 (S l) K = K (out ((fst? p (n - l) l).getD n)) := by
  have key : ∀ m fuel, m ≤ n - l → m < fuel → lp F fuel (S (n - m)) K = K (out ((fst? p m (n - m)).getD n)) := by
    intro m
    induction m with
    | zero =>
      intro fuel _ hf
      obtain ⟨q, rfl⟩ : ∃ q, fuel = q + 1 := ⟨fuel - 1, by omega⟩
      rw [lp_s, Nat.sub_zero, he]
      rfl
    | succ m ih =>
      intro fuel hm hf
      obtain ⟨q, rfl⟩ : ∃ q, fuel = q + 1 := ⟨fuel - 1, by omega⟩
      rw [lp_s, hs _ _ _ (by omega) (by omega)]
      unfold fst?
      by_cases c : p (n - (m + 1)) = true
      · rw [if_pos c, if_pos c]
        rfl
      · rw [if_neg c, if_neg c, show n - (m + 1) + 1 = n - m by omega]
        exact ih q (by omega) (by omega)
  have := key (n - l) 4096 (Nat.le_refl _) (by omega)
  rw [show n - (n - l) = l by omega] at this
  exact this
/-- the class's tape: its bytes, its size -/
noncomputable def tpC (s : St) (b : List Int32) (n : Nat) : Prop := ia s 25 = b ∧ b.length = 250 ∧ fi s 24 1 = i3 (n : Int) ∧ n ≤ 250
noncomputable def tkC (s : St) (b : List Int32) (t : Tk) : Prop := fi s 24 3 = t.1 ∧ fi s 24 4 = i3 (t.2.1 : Int) ∧ fi s 24 5 = i3 (t.2.2 : Int) ∧ fi s 24 6 = num b t
/-- only the token's fields -/
noncomputable def eT (s s' : St) : Prop := s'.1 = s.1 ∧ s'.2.1 = s.2.1 ∧ (∀ o k, ¬ (o = 24 ∧ 3 ≤ k) → fi s' o k = fi s o k) ∧ s'.2.2.2 = s.2.2.2
section TA
variable {s : St} {b : List Int32} {n : Nat}
theorem eT.q {s s' : St} (h : eT s s') : qq s s' := by
  have a : ∀ p, ia s' p = ia s p := fun p => congrFun h.1 p
  have l : ∀ p, la s' p = la s p := fun p => congrFun h.2.1 p
  exact ⟨fun p _ => a p, fun p _ => l p, fun o k hk => h.2.2.1 o k (fun e => hk (Or.inl (Or.inr (Or.inr (Or.inr (Or.inl ⟨e.1, by omega⟩)))))), h.2.2.2, fun p => by rw [a], fun p => by rw [l]⟩
theorem eT.g6 {s s' : St} (h : eT s s') : gd s' 6 = gd s 6 := by
  have a : ∀ p, ia s' p = ia s p := fun p => congrFun h.1 p
  have f : ∀ k, fi s' 6 k = fi s 6 k := fun k => h.2.2.1 6 k (by omega)
  unfold gd
  rw [f, f, f, f, a, a, a, a]
theorem tpC.at (h : tpC s b n) {i : Nat} (hi : i < n) : at32 (ia s 25) (i3 (i : Int)) = some (bt b i) := by
  obtain ⟨h1, h2, h3, h4⟩ := h
  rw [h1, at32_nat (by omega), List.getElem?_eq_getElem (by omega)]
  unfold bt
  rw [List.getD_eq_getElem?_getD, List.getElem?_eq_getElem (by omega)]
  rfl
theorem cls_if (x : Int32) : (if x < i3 97 then if x < i3 48 then (if x = i3 59 then some (i3 3) else some (i3 4)) else if i3 57 < x then (if x = i3 59 then some (i3 3) else some (i3 4)) else some (i3 2) else if i3 122 < x then (if x < i3 48 then (if x = i3 59 then some (i3 3) else some (i3 4)) else if i3 57 < x then (if x = i3 59 then some (i3 3) else some (i3 4)) else some (i3 2)) else some (i3 1)) = some (cls x) := by
  unfold cls cDg cOt
  (repeat' split) <;> rfl
theorem q_170 (h : tpC s b n) {i : Nat} (hi : i ≤ 1000) : m_170 24 (i3 (i : Int)) (H s) = some (typ b n i) := by
  have hn := h.2.2.2
  unfold m_170 typ
  simp only [r_T, Option.bind_some, jn, cst, bP_if, rB_0, rB_1, z00, z10, ↓reduceIte, h.2.2.1]
  by_cases c : i < n
  · rw [if_pos ((i3n_lt (by omega) (by omega)).mpr c), if_pos c, h.at c]
    simp only [Option.bind_some, jn, cst, bP_if, rB_0, rB_1, z00, z10, ↓reduceIte]
    exact cls_if _
  · rw [if_neg (fun e => c ((i3n_lt (by omega) (by omega)).mp e)), if_neg c]
theorem q_171 (h : tpC s b n) {l m : Nat} (h4 : fi s 24 4 = i3 (l : Int)) (h5 : fi s 24 5 = i3 (m : Int)) (hlm : l ≤ m) (hm : m ≤ n) : m_171 24 (H s) = some (if m - l ≤ 2 then val b l m else i3 (-1)) := by
  have hn := h.2.2.2
  unfold m_171
  simp only [r_T, Option.bind_some, jn, cst, bP_if, rB_0, rB_1, z00, z10, ↓reduceIte, h4, h5]
  have e1 : i3 (m : Int) - i3 (l : Int) = i3 ((m - l : Nat) : Int) := by
    rw [i3_sub]; congr 1; omega
  rw [e1]
  have e2 : (i3 ((m - l : Nat) : Int) ≤ Int32.ofInt 2) ↔ m - l ≤ 2 := i3n_le (b := 2) (by omega) (by omega)
  by_cases c : m - l ≤ 2
  · rw [if_pos (e2.mpr c), if_pos c]
    refine (lpB l m (by omega) (by omega) (fun t a => (a, t)) (fun a => a) (vaF b) (fun _ => True) (i3 0) ?_ (fun _ _ _ _ _ => trivial) ?_ trivial).trans rfl
    · intro k a nx ex h1 h2 _
      have e3 : ¬ i3 (m : Int) ≤ i3 (k : Int) := by rw [i3n_le (by omega) (by omega)]; omega
      simp only [e3, h.at (show k < n by omega), Option.bind_some, jn, cst, bP_if, rB_0, rB_1, z00, z10, ↓reduceIte]
      rfl
    · intro k a nx ex h1 h2 _
      have e3 : i3 (m : Int) ≤ i3 (k : Int) := by rw [i3n_le (by omega) (by omega)]; omega
      simp only [e3, Option.bind_some, jn, cst, bP_if, rB_0, rB_1, z00, z10, ↓reduceIte]
  · rw [if_neg (fun e => c (e2.mp e)), if_neg c]
theorem lp_skp (h : tpC s b n) {e : Nat} (he : e ≤ n) {R : Type} (K : tH → Option R) : lp (fun (s3 : tH) nx4 ex5 => (gI s3 6 24 4).bind fun x55 => (gI s3 6 24 1).bind fun x56 => if x56 ≤ x55 then ex5 s3 else (gN s3 6 24 0).bind fun o57 => (gI s3 6 24 4).bind fun x58 => (aI s3 o57 x58).bind fun x59 => if x59 = (Int8.ofInt 32).toInt32 then (gI s3 6 24 4).bind fun x60 => (pI s3 6 24 4 (x60 + (Int32.ofInt 1))).bind fun th61 => nx4 th61 else ex5 s3) 4096 (H (sf s 24 4 (i3 (e : Int)))) K = K (H (sf s 24 4 (i3 (skp b n e : Int)))) := by
  have hn := h.2.2.2
  have c32 : (Int8.ofInt 32).toInt32 = i3 32 := by decide +kernel
  refine lpW e n he (by omega) (fun k => H (sf s 24 4 (i3 (k : Int)))) (fun k => H (sf s 24 4 (i3 (k : Int)))) (fun i => decide (¬ bt b i = i3 32)) ?_ ?_
  · intro k nx ex h1 h2
    have f4 : fi (sf s 24 4 (i3 (k : Int))) 24 4 = i3 (k : Int) := rfl
    have f1 : fi (sf s 24 4 (i3 (k : Int))) 24 1 = i3 (n : Int) := h.2.2.1
    have fa : at32 (ia (sf s 24 4 (i3 (k : Int))) 25) (i3 (k : Int)) = some (bt b k) := h.at h2
    have e3 : ¬ i3 (n : Int) ≤ i3 (k : Int) := by rw [i3n_le (by omega) (by omega)]; omega
    simp only [r_T, Option.bind_some, f4, f1, fa, if_neg e3, sf_sf, i3_nat_add, c32, decide_eq_true_eq]
    by_cases c : bt b k = i3 32
    · rw [if_pos c, if_neg (fun e => e c)]
    · rw [if_neg c, if_pos c]
  · intro nx ex
    have f4 : fi (sf s 24 4 (i3 (n : Int))) 24 4 = i3 (n : Int) := rfl
    have f1 : fi (sf s 24 4 (i3 (n : Int))) 24 1 = i3 (n : Int) := h.2.2.1
    simp only [r_T, Option.bind_some, f4, f1, if_pos (Int32.le_refl (i3 (n : Int)))]
theorem lp_run (h : tpC s b n) {e : Nat} (he : e ≤ n) {t : Int32} (ht : fi s 24 3 = t) {R : Type} (K : tH → Option R) : lp (fun (s23 : tH) nx24 ex25 => (gI s23 6 24 5).bind fun x27 => (gI s23 6 24 1).bind fun x28 => if x28 ≤ x27 then ex25 s23 else (gI s23 6 24 5).bind fun x29 => (m_170 24 x29 s23).bind fun x30 => (gI s23 6 24 3).bind fun x31 => if x30 = x31 then (gI s23 6 24 5).bind fun x32 => (pI s23 6 24 5 (x32 + (Int32.ofInt 1))).bind fun th33 => nx24 th33 else ex25 s23) 4096 (H (sf s 24 5 (i3 (e : Int)))) K = K (H (sf s 24 5 (i3 (run b n t e : Int)))) := by
  have hn := h.2.2.2
  refine lpW e n he (by omega) (fun k => H (sf s 24 5 (i3 (k : Int)))) (fun k => H (sf s 24 5 (i3 (k : Int)))) (fun j => decide (¬ cls (bt b j) = t)) ?_ ?_
  · intro k nx ex h1 h2
    have hh : tpC (sf s 24 5 (i3 (k : Int))) b n := h
    have f5 : fi (sf s 24 5 (i3 (k : Int))) 24 5 = i3 (k : Int) := rfl
    have f3 : fi (sf s 24 5 (i3 (k : Int))) 24 3 = t := ht
    have f1 : fi (sf s 24 5 (i3 (k : Int))) 24 1 = i3 (n : Int) := h.2.2.1
    have e3 : ¬ i3 (n : Int) ≤ i3 (k : Int) := by rw [i3n_le (by omega) (by omega)]; omega
    have et : typ b n k = cls (bt b k) := if_pos h2
    simp only [r_T, Option.bind_some, f5, f3, f1, if_neg e3, q_170 hh (show k ≤ 1000 by omega), et, sf_sf, i3_nat_add, decide_eq_true_eq]
    by_cases c : cls (bt b k) = t
    · rw [if_pos c, if_neg (fun e => e c)]
    · rw [if_neg c, if_pos c]
  · intro nx ex
    have f5 : fi (sf s 24 5 (i3 (n : Int))) 24 5 = i3 (n : Int) := rfl
    have f1 : fi (sf s 24 5 (i3 (n : Int))) 24 1 = i3 (n : Int) := h.2.2.1
    simp only [r_T, Option.bind_some, f5, f1, if_pos (Int32.le_refl (i3 (n : Int)))]
theorem q_169 (h : tpC s b n) {e : Nat} (he : e ≤ n) (h5 : fi s 24 5 = i3 (e : Int)) : ∃ s', m_169 24 (H s) = some (H s') ∧ tkC s' b (adv b n e) ∧ eT s s' := by
  have hn := h.2.2.2
  have hb := adv_bd (b := b) he
  unfold m_169
  rw [(r_T s).1, Option.bind_some]
  have g5 : ∀ t : St, gI (H t) 6 24 5 = some (fi t 24 5) := fun _ => rfl
  have g4 : ∀ t : St, gI (H t) 6 24 4 = some (fi t 24 4) := fun _ => rfl
  have g3 : ∀ t : St, gI (H t) 6 24 3 = some (fi t 24 3) := fun _ => rfl
  have p3 : ∀ (t : St) x, pI (H t) 6 24 3 x = some (H (sf t 24 3 x)) := fun _ _ => rfl
  have p4 : ∀ (t : St) x, pI (H t) 6 24 4 x = some (H (sf t 24 4 x)) := fun _ _ => rfl
  have p5 : ∀ (t : St) x, pI (H t) 6 24 5 x = some (H (sf t 24 5 x)) := fun _ _ => rfl
  have p6 : ∀ (t : St) x, pI (H t) 6 24 6 x = some (H (sf t 24 6 x)) := fun _ _ => rfl
  rw [g5, Option.bind_some, p4, Option.bind_some, h5, lp_skp h he, g4, Option.bind_some]
  have sk : skp b n e ≤ n := (gD_bd (p := fun i => decide (¬ bt b i = i3 32)) he).2
  have hh : tpC (sf s 24 4 (i3 (skp b n e : Int))) b n := h
  rw [show fi (sf s 24 4 (i3 (skp b n e : Int))) 24 4 = i3 (skp b n e : Int) from rfl, q_170 hh (by omega), Option.bind_some, p3, Option.bind_some, g3, Option.bind_some]
  have ad : adv b n e = (typ b n (skp b n e), skp b n e, if typ b n (skp b n e) = i3 0 then skp b n e else if typ b n (skp b n e) = i3 1 then run b n (i3 1) (skp b n e + 1) else if typ b n (skp b n e) = i3 2 then run b n (i3 2) (skp b n e + 1) else skp b n e + 1) := rfl
  rw [show fi (sf (sf s 24 4 (i3 (skp b n e : Int))) 24 3 (typ b n (skp b n e))) 24 3 = typ b n (skp b n e) from rfl]
  unfold jn
  dsimp only
  rw [ad] at hb ⊢
  dsimp only at hb
  generalize skp b n e = k at hb sk hh ⊢
  generalize ht : typ b n k = t at hb ⊢
  have T1 : ∀ t : St, eT s (sf t 24 3 0) → True := fun _ _ => trivial
  have mk : ∀ (x y z w : Int32), eT s (sf (sf (sf (sf s 24 4 x) 24 3 y) 24 5 z) 24 6 w) := fun x y z w => ⟨rfl, rfl, fun o q hq => by
    rw [fi_sf, if_neg (by omega), fi_sf, if_neg (by omega), fi_sf, if_neg (by omega), fi_sf, if_neg (by omega)], rfl⟩
  -- the number, and the end
  have fin : ∀ m : Nat, k ≤ m → m ≤ n → ∀ v, (if t = i3 2 then if m - k ≤ 2 then val b k m else i3 (-1) else i3 (-1)) = v → ∃ s', ((some t).bind fun x17 => if x17 = Int32.ofInt 2 then (m_171 24 (H (sf (sf (sf s 24 4 (i3 (k : Int))) 24 3 t) 24 5 (i3 (m : Int))))).bind fun x21 => (pI (H (sf (sf (sf s 24 4 (i3 (k : Int))) 24 3 t) 24 5 (i3 (m : Int)))) 6 24 6 x21).bind fun th20 => some th20 else (pI (H (sf (sf (sf s 24 4 (i3 (k : Int))) 24 3 t) 24 5 (i3 (m : Int)))) 6 24 6 (Int32.ofInt (-1))).bind fun th20 => some th20) = some (H s') ∧ tkC s' b (t, k, m) ∧ eT s s' := by
    intro m hkm hmn v hv
    have h3 : tpC (sf (sf (sf s 24 4 (i3 (k : Int))) 24 3 t) 24 5 (i3 (m : Int))) b n := h
    have q := q_171 h3 (l := k) (m := m) rfl rfl hkm hmn
    refine ⟨sf (sf (sf (sf s 24 4 (i3 (k : Int))) 24 3 t) 24 5 (i3 (m : Int))) 24 6 v, ?_, ⟨rfl, rfl, rfl, ?_⟩, mk _ _ _ _⟩
    · rw [Option.bind_some]
      by_cases c : t = i3 2
      · rw [if_pos c, q, Option.bind_some, p6, Option.bind_some]
        rw [if_pos c] at hv
        rw [hv]
      · rw [if_neg c, p6, Option.bind_some]
        rw [if_neg c] at hv
        exact congrArg (fun z => some (H (sf (sf (sf (sf s 24 4 (i3 (k : Int))) 24 3 t) 24 5 (i3 (m : Int))) 24 6 z))) hv
    · show v = num b (t, k, m)
      rw [← hv]
      rfl
  have h4 : tpC (sf (sf s 24 4 (i3 (k : Int))) 24 3 t) b n := h
  by_cases c0 : t = i3 0
  · rw [if_pos (show t = 0 from c0), if_pos c0, g4, Option.bind_some, p5, Option.bind_some, g3, Option.bind_some]
    rw [show fi (sf (sf s 24 4 (i3 (k : Int))) 24 3 t) 24 4 = i3 (k : Int) from rfl, show fi (sf (sf (sf s 24 4 (i3 (k : Int))) 24 3 t) 24 5 (i3 (k : Int))) 24 3 = t from rfl]
    have n1 : ¬ t = Int32.ofInt 1 := by rw [c0]; decide +kernel
    have n2 : ¬ t = Int32.ofInt 2 := by rw [c0]; decide +kernel
    rw [if_neg n1, Option.bind_some, if_neg n2]
    exact fin k (Nat.le_refl _) sk _ rfl
  · have kn : k < n := by
      refine Classical.byContradiction fun hc => c0 ?_
      rw [← ht]
      exact if_neg hc
    rw [if_neg (show ¬ t = 0 from c0), if_neg c0, g4, Option.bind_some]
    rw [show fi (sf (sf s 24 4 (i3 (k : Int))) 24 3 t) 24 4 = i3 (k : Int) from rfl, i3_nat_add, p5, Option.bind_some, g3, Option.bind_some, show fi (sf (sf (sf s 24 4 (i3 (k : Int))) 24 3 t) 24 5 (i3 ((k + 1 : Nat) : Int))) 24 3 = t from rfl]
    by_cases c1 : t = i3 1
    · rw [if_pos (show t = Int32.ofInt 1 from c1), if_pos c1, lp_run h4 (show k + 1 ≤ n by omega) (t := t) rfl]
      have rb := gD_bd (p := fun j => decide (¬ cls (bt b j) = t)) (show k + 1 ≤ n by omega)
      have rb' : k + 1 ≤ run b n t (k + 1) ∧ run b n t (k + 1) ≤ n := rb
      rw [c1] at rb' ⊢
      have := fin (run b n (i3 1) (k + 1)) (by omega) (by omega) _ rfl
      rw [c1] at this
      exact this
    · rw [if_neg (show ¬ t = Int32.ofInt 1 from c1), if_neg c1, Option.bind_some]
      by_cases c2 : t = i3 2
      · rw [if_pos (show t = Int32.ofInt 2 from c2), if_pos c2, lp_run h4 (show k + 1 ≤ n by omega) (t := t) rfl]
        have rb := gD_bd (p := fun j => decide (¬ cls (bt b j) = t)) (show k + 1 ≤ n by omega)
        have rb' : k + 1 ≤ run b n t (k + 1) ∧ run b n t (k + 1) ≤ n := rb
        rw [c2] at rb' ⊢
        have := fin (run b n (i3 2) (k + 1)) (by omega) (by omega) _ rfl
        rw [c2] at this
        exact this
      · rw [if_neg (show ¬ t = Int32.ofInt 2 from c2), if_neg c2]
        exact fin (k + 1) (by omega) (by omega) _ rfl
end TA
end
section
/-! ===== sets as bits ===== -/
theorem i3_bv (a : Nat) : (i3 (a : Int)).toBitVec = BitVec.ofNat 32 a := by
  rw [Int32.toBitVec_ofInt]; rfl
theorem i3_or (a b : Nat) : i3 (a : Int) ||| i3 (b : Int) = i3 ((a ||| b : Nat) : Int) := by
  apply Int32.toBitVec_inj.mp
  rw [Int32.toBitVec_or, i3_bv, i3_bv, i3_bv, BitVec.ofNat_or]
theorem i3_and (a b : Nat) : i3 (a : Int) &&& i3 (b : Int) = i3 ((a &&& b : Nat) : Int) := by
  apply Int32.toBitVec_inj.mp
  rw [Int32.toBitVec_and, i3_bv, i3_bv, i3_bv, BitVec.ofNat_and]
theorem allN {n : Nat} {p : Nat → Bool} (h : (List.range n).all p = true) {m : Nat} (hm : m < n) : p m = true := List.all_eq_true.mp h m (List.mem_range.mpr hm)
theorem bit_eq {t : Nat} (h : t < 31) : bit (i3 (t : Int)) = i3 ((2 ^ t : Nat) : Int) :=
  of_decide_eq_true (allN (n := 31) (p := fun t => decide (Int32.ofInt 1 <<< (i3 (t : Int) &&& 31) = i3 ((2 ^ t : Nat) : Int))) (by decide +kernel) h)
/-- how many of the first n -/
noncomputable def cb (p : Nat → Bool) : Nat → Nat
  | 0 => 0
  | n + 1 => cb p n + (p n).toNat
theorem cb_le (p : Nat → Bool) : ∀ n, cb p n ≤ n
  | 0 => Nat.le_refl _
  | n + 1 => by
    have := cb_le p n
    show cb p n + (p n).toNat ≤ n + 1
    cases p n <;> simp <;> omega
theorem cb_congr {p q : Nat → Bool} : ∀ {n : Nat}, (∀ k, k < n → p k = q k) → cb p n = cb q n
  | 0, _ => rfl
  | n + 1, h => by
    show cb p n + (p n).toNat = cb q n + (q n).toNat
    rw [cb_congr (fun k hk => h k (by omega)), h n (by omega)]
theorem cb_add {p q : Nat → Bool} {k : Nat} (h1 : ∀ j, j ≠ k → q j = p j) (h2 : p k = false) (h3 : q k = true) : ∀ {n : Nat}, k < n → cb q n = cb p n + 1
  | 0, h => absurd h (Nat.not_lt_zero _)
  | n + 1, h => by
    show cb q n + (q n).toNat = cb p n + (p n).toNat + 1
    by_cases e : k = n
    · subst e
      rw [h2, h3, cb_congr (p := q) (q := p) (fun j hj => h1 j (by omega))]
      rfl
    · rw [cb_add h1 h2 h3 (show k < n by omega), h1 n (fun e' => e e'.symm)]
      omega
/-- how many bits; the first bit, the second -/
noncomputable def pc (m : Nat) : Nat := cb (fun t => m.testBit t) 12
noncomputable def lo (m : Nat) : Nat := (fst? (fun t => m.testBit t) 12 0).getD 32
noncomputable def lo2 (m : Nat) : Nat := lo (m &&& (m - 1))
noncomputable def z4 (f : Nat → Bool) (k : Nat) : Bool := (List.range 512).all (fun m => f (512 * k + m))
theorem z4_of {f : Nat → Bool} (h : ∀ k, k < 8 → z4 f k = true) {m : Nat} (hm : m < 4096) : f m = true := by
  have h0 := h (m / 512) (by omega)
  unfold z4 at h0
  have h1 : f (512 * (m / 512) + m % 512) = true := List.all_eq_true.mp h0 (m % 512) (List.mem_range.mpr (by omega))
  rw [show 512 * (m / 512) + m % 512 = m by omega] at h1
  exact h1
theorem bdec {m l : Nat} (h1 : m.testBit l = true) (h0 : ∀ k, k < l → m.testBit k = false) : m = 2 ^ (l + 1) * (m / 2 ^ (l + 1)) + 2 ^ l := by
  have hm : m % 2 ^ (l + 1) = 2 ^ l := Nat.eq_of_testBit_eq fun j => by
    rw [Nat.testBit_mod_two_pow, Nat.testBit_two_pow]
    rcases Nat.lt_trichotomy j l with h | h | h
    · rw [h0 j h]; simp; omega
    · subst h; rw [h1]; simp
    · rw [decide_eq_false (show ¬ j < l + 1 by omega), decide_eq_false (show ¬ l = j by omega)]; rfl
  have := Nat.div_add_mod m (2 ^ (l + 1))
  rw [hm] at this; exact this.symm
theorem bm1 {m l : Nat} (h1 : m.testBit l = true) (h0 : ∀ k, k < l → m.testBit k = false) (t : Nat) : (m - 1).testBit t = if t ≤ l then decide (t < l) else m.testBit t := by
  have e := bdec h1 h0
  have hp := Nat.two_pow_pos l
  have e1 : m - 1 = 2 ^ (l + 1) * (m / 2 ^ (l + 1)) + (2 ^ l - 1) := by omega
  have hlt : 2 ^ l < 2 ^ (l + 1) := Nat.pow_lt_pow_right (by omega) (by omega)
  rw [e1, Nat.testBit_two_pow_mul_add _ (by omega)]
  by_cases ht : t < l + 1
  · rw [if_pos ht, if_pos (by omega), Nat.testBit_two_pow_sub_one]
  · rw [if_neg ht, if_neg (by omega)]
    conv => rhs; rw [e]
    rw [Nat.testBit_two_pow_mul_add _ hlt, if_neg ht]
theorem bclr' {m l : Nat} (h1 : m.testBit l = true) (h0 : ∀ k, k < l → m.testBit k = false) (t : Nat) : (m &&& (m - 1)).testBit t = (decide (l < t) && m.testBit t) := by
  rw [Nat.testBit_and, bm1 h1 h0]
  rcases Nat.lt_trichotomy t l with h | h | h
  · rw [h0 t h, decide_eq_false (show ¬ l < t by omega)]; rfl
  · subst h; simp
  · rw [if_neg (by omega), Bool.and_self, decide_eq_true h, Bool.true_and]
theorem fst?_skip {p : Nat → Bool} : ∀ {j n a : Nat}, j ≤ n → (∀ k, a ≤ k → k < a + j → p k = false) → fst? p n a = fst? p (n - j) (a + j)
  | 0, n, a, _, _ => rfl
  | j + 1, 0, a, h, _ => absurd h (by omega)
  | j + 1, n + 1, a, h, hp => by
    conv => lhs; unfold fst?
    rw [hp a (Nat.le_refl _) (by omega), if_neg (by decide), fst?_skip (show j ≤ n by omega) (fun k h1 h2 => hp k (by omega) (by omega)), show n + 1 - (j + 1) = n - j by omega, show a + 1 + j = a + (j + 1) by omega]
theorem lo2_all (m : Nat) : lo2 m = (fst? (fun t => m.testBit t) (12 - (lo m + 1)) (lo m + 1)).getD 32 := by
  show (fst? (fun t => (m &&& (m - 1)).testBit t) 12 0).getD 32 = _
  unfold lo
  cases hf : fst? (fun t => m.testBit t) 12 0 with
  | none =>
    have h := fst?_none hf
    rw [fst?_congr (q := fun t => m.testBit t) (fun k h1 h2 => by rw [Nat.testBit_and, h k h1 h2, Bool.false_and]), hf]
    rfl
  | some l =>
    obtain ⟨h1, h2, h3, h4⟩ := fst?_some hf
    rw [fst?_congr (q := fun t => decide (l < t) && m.testBit t) (fun k _ _ => bclr' h3 (fun k hk => h4 k (Nat.zero_le _) hk) k)]
    show _ = (fst? (fun t => m.testBit t) (12 - (l + 1)) (l + 1)).getD 32
    rw [fst?_skip (j := l + 1) (by omega) (fun k _ hk => by rw [decide_eq_false (show ¬ l < k by omega), Bool.false_and]), Nat.zero_add]
    rw [fst?_congr (q := fun t => m.testBit t) (fun k hk _ => by rw [decide_eq_true (show l < k by omega), Bool.true_and])]
theorem cb_one : ∀ l, l < 12 → cb (fun t => decide (t = l)) 12 ≤ 1 := by decide +kernel
theorem lo_two2 {m : Nat} (h : 2 ≤ pc m) : lo m < lo2 m ∧ lo2 m < 12 ∧ m.testBit (lo m) = true ∧ m.testBit (lo2 m) = true := by
  rw [lo2_all]
  unfold pc at h
  unfold lo
  cases hf : fst? (fun t => m.testBit t) 12 0 with
  | none =>
    have h' := fst?_none hf
    rw [cb_congr (q := fun _ => false) (fun k hk => h' k (Nat.zero_le _) (by omega))] at h
    exact absurd h (by decide)
  | some l =>
    obtain ⟨h1, h2, h3, h4⟩ := fst?_some hf
    show l < (fst? (fun t => m.testBit t) (12 - (l + 1)) (l + 1)).getD 32 ∧ (fst? (fun t => m.testBit t) (12 - (l + 1)) (l + 1)).getD 32 < 12 ∧ m.testBit l = true ∧ m.testBit ((fst? (fun t => m.testBit t) (12 - (l + 1)) (l + 1)).getD 32) = true
    cases hg : fst? (fun t => m.testBit t) (12 - (l + 1)) (l + 1) with
    | none =>
      have h' := fst?_none hg
      rw [cb_congr (q := fun t => decide (t = l)) (fun k hk => ?_)] at h
      · have := cb_one l (by omega); omega
      · rcases Nat.lt_trichotomy k l with e | e | e
        · rw [decide_eq_false (show ¬ k = l by omega)]; exact h4 k (Nat.zero_le _) e
        · subst e; rw [h3]; simp
        · rw [decide_eq_false (show ¬ k = l by omega)]; exact h' k (by omega) (by omega)
    | some j =>
      obtain ⟨g1, g2, g3, g4⟩ := fst?_some hg
      exact ⟨by show l < j; omega, by show j < 12; omega, h3, g3⟩
theorem ntz_y {x y : Int32} (h : (x ^^^ (Int32.ofInt (-1))) &&& (x - (Int32.ofInt 1)) = (y ^^^ (Int32.ofInt (-1))) &&& (y - (Int32.ofInt 1))) : ntz x = ntz y := by
  unfold ntz m_172
  rw [h]
theorem i3_y {m l : Nat} (hm : m < 4294967296) (h1 : m.testBit l = true) (h0 : ∀ k, k < l → m.testBit k = false) : (i3 (m : Int) ^^^ (Int32.ofInt (-1))) &&& (i3 (m : Int) - (Int32.ofInt 1)) = i3 ((2 ^ l - 1 : Nat) : Int) := by
  have h2 : m ≠ 0 := fun e => by rw [e, Nat.zero_testBit] at h1; cases h1
  have hl : l < 32 := by
    rcases Nat.lt_or_ge l 32 with h | h
    · exact h
    · rw [Nat.testBit_lt_two_pow (Nat.lt_of_lt_of_le hm (Nat.pow_le_pow_right (n := 2) (by decide) h))] at h1; cases h1
  rw [show Int32.ofInt 1 = i3 1 from rfl, i3_sub, show (m : Int) - 1 = ((m - 1 : Nat) : Int) by omega]
  apply Int32.toBitVec_inj.mp
  rw [Int32.toBitVec_and, Int32.toBitVec_xor, i3_bv, i3_bv, i3_bv, show (Int32.ofInt (-1)).toBitVec = BitVec.allOnes 32 from rfl]
  apply BitVec.eq_of_getLsbD_eq
  intro i hi
  rw [BitVec.getLsbD_and, BitVec.getLsbD_xor, BitVec.getLsbD_ofNat, BitVec.getLsbD_ofNat, BitVec.getLsbD_ofNat, BitVec.getLsbD_allOnes, bm1 h1 h0, Nat.testBit_two_pow_sub_one, decide_eq_true hi]
  rcases Nat.lt_trichotomy i l with h | h | h
  · rw [h0 i h, if_pos (by omega)]; simp
  · subst h; simp
  · rw [if_neg (by omega), decide_eq_false (show ¬ i < l by omega)]; cases m.testBit i <;> rfl
theorem ntz_p2 : ∀ l : Nat, l < 12 → ntz (i3 ((2 ^ l : Nat) : Int)) = i3 (l : Int) := by decide +kernel
theorem ntz_0 : ntz (i3 ((0 : Nat) : Int)) = i3 ((32 : Nat) : Int) := by decide +kernel
theorem ntz_eq {m : Nat} (hm : m < 4096) : ntz (i3 (m : Int)) = i3 (lo m : Int) := by
  unfold lo
  cases hf : fst? (fun t => m.testBit t) 12 0 with
  | none =>
    have h := fst?_none hf
    have e : m = 0 := Nat.eq_of_testBit_eq fun j => by
      rw [Nat.zero_testBit]
      by_cases hj : j < 12
      · exact h j (Nat.zero_le _) (by omega)
      · exact Nat.testBit_lt_two_pow (Nat.lt_of_lt_of_le hm (Nat.pow_le_pow_right (n := 2) (by decide) (show 12 ≤ j by omega)))
    rw [e]
    exact ntz_0
  | some l =>
    obtain ⟨h1, h2, h3, h4⟩ := fst?_some hf
    have hl : l < 12 := by omega
    have hb : 2 ^ l < 4294967296 := Nat.lt_of_lt_of_le (Nat.pow_lt_pow_right (a := 2) (by decide) hl) (by decide)
    rw [ntz_y (y := i3 ((2 ^ l : Nat) : Int)) (by rw [i3_y (l := l) (by omega) h3 (fun k hk => h4 k (Nat.zero_le _) hk), i3_y (l := l) hb (Nat.testBit_two_pow_self) (fun k hk => by rw [Nat.testBit_two_pow]; exact decide_eq_false (by omega))])]
    exact ntz_p2 l hl
theorem ntz2_eq {m : Nat} (hm : m < 4096) : ntz (i3 (m : Int) &&& (i3 (m : Int) - i3 1)) = i3 (lo2 m : Int) := by
  have e : i3 (m : Int) &&& (i3 (m : Int) - i3 1) = i3 ((m &&& (m - 1) : Nat) : Int) := by
    cases m with
    | zero => decide
    | succ n => rw [i3_sub, show ((n + 1 : Nat) : Int) - 1 = ((n + 1 - 1 : Nat) : Int) by omega, i3_and]
  rw [e, ntz_eq (Nat.lt_of_le_of_lt Nat.and_le_left hm)]
  rfl
theorem pc_le (m : Nat) : pc m ≤ 12 := cb_le _ 12
noncomputable def bs1 (x : Int32) : Int32 := x - ((Int32.toUInt32 x >>> (Int32.toUInt32 (Int32.ofInt 1) &&& Int32.toUInt32 31)).toInt32 &&& (Int32.ofNat 1431655765))
noncomputable def bs2 (x : Int32) : Int32 := (x &&& (Int32.ofNat 858993459)) + ((Int32.toUInt32 x >>> (Int32.toUInt32 (Int32.ofInt 2) &&& Int32.toUInt32 31)).toInt32 &&& (Int32.ofNat 858993459))
noncomputable def bs3 (x : Int32) : Int32 := (x + (Int32.toUInt32 x >>> (Int32.toUInt32 (Int32.ofInt 4) &&& Int32.toUInt32 31)).toInt32) &&& (Int32.ofNat 252645135)
noncomputable def bs4 (x : Int32) : Int32 := x + (Int32.toUInt32 x >>> (Int32.toUInt32 (Int8.ofInt 8).toInt32 &&& Int32.toUInt32 31)).toInt32
noncomputable def bs5 (x : Int32) : Int32 := x + (Int32.toUInt32 x >>> (Int32.toUInt32 (Int8.ofInt 16).toInt32 &&& Int32.toUInt32 31)).toInt32
noncomputable def bs6 (x : Int32) : Int32 := x &&& (Int8.ofInt 63).toInt32
theorem bct_bs (x : Int32) : bct x = bs6 (bs5 (bs4 (bs3 (bs2 (bs1 x))))) := rfl
theorem usr {x : Int32} {k : UInt32} {n : Nat} (h : k.toBitVec = BitVec.ofNat 32 n) (hn : n < 32) : (Int32.toUInt32 x >>> k).toInt32.toBitVec = x.toBitVec >>> n := by
  rw [UInt32.toBitVec_toInt32, UInt32.toBitVec_shiftRight, Int32.toBitVec_toUInt32, h]
  rw [show (BitVec.ofNat 32 n % 32) = BitVec.ofNat 32 n from ?_]
  · rw [BitVec.ushiftRight_eq', BitVec.toNat_ofNat, Nat.mod_eq_of_lt (by omega)]
  · apply BitVec.eq_of_toNat_eq; rw [BitVec.toNat_umod, BitVec.toNat_ofNat, Nat.mod_eq_of_lt (show n < 2 ^ 32 by omega)]; exact Nat.mod_eq_of_lt hn
theorem bs1_n (x : Int32) : (bs1 x).toBitVec.toNat = (4294967296 - ((x.toBitVec.toNat >>> 1) &&& 1431655765) + x.toBitVec.toNat) % 4294967296 := by
  unfold bs1
  rw [Int32.toBitVec_sub, Int32.toBitVec_and, usr (n := 1) (by decide) (by decide), BitVec.toNat_sub, BitVec.toNat_and, BitVec.toNat_ushiftRight]
  rfl
theorem bs2_n (x : Int32) : (bs2 x).toBitVec.toNat = ((x.toBitVec.toNat &&& 858993459) + ((x.toBitVec.toNat >>> 2) &&& 858993459)) % 4294967296 := by
  unfold bs2
  rw [Int32.toBitVec_add, Int32.toBitVec_and, Int32.toBitVec_and, usr (n := 2) (by decide) (by decide), BitVec.toNat_add, BitVec.toNat_and, BitVec.toNat_and, BitVec.toNat_ushiftRight]
  rfl
theorem bs3_n (x : Int32) : (bs3 x).toBitVec.toNat = ((x.toBitVec.toNat + (x.toBitVec.toNat >>> 4)) % 4294967296) &&& 252645135 := by
  unfold bs3
  rw [Int32.toBitVec_and, Int32.toBitVec_add, usr (n := 4) (by decide) (by decide), BitVec.toNat_and, BitVec.toNat_add, BitVec.toNat_ushiftRight]
  rfl
theorem bs4_n (x : Int32) : (bs4 x).toBitVec.toNat = (x.toBitVec.toNat + (x.toBitVec.toNat >>> 8)) % 4294967296 := by
  unfold bs4
  rw [Int32.toBitVec_add, usr (n := 8) (by decide) (by decide), BitVec.toNat_add, BitVec.toNat_ushiftRight]
theorem bs5_n (x : Int32) : (bs5 x).toBitVec.toNat = (x.toBitVec.toNat + (x.toBitVec.toNat >>> 16)) % 4294967296 := by
  unfold bs5
  rw [Int32.toBitVec_add, usr (n := 16) (by decide) (by decide), BitVec.toNat_add, BitVec.toNat_ushiftRight]
theorem bs6_n (x : Int32) : (bs6 x).toBitVec.toNat = x.toBitVec.toNat &&& 63 := by
  unfold bs6
  rw [Int32.toBitVec_and, BitVec.toNat_and]
  rfl
noncomputable def bn1 (n : Nat) : Nat := Nat.mod (Nat.add (Nat.sub 4294967296 (Nat.land (Nat.shiftRight n 1) 1431655765)) n) 4294967296
noncomputable def bn2 (n : Nat) : Nat := Nat.mod (Nat.add (Nat.land n 858993459) (Nat.land (Nat.shiftRight n 2) 858993459)) 4294967296
noncomputable def bn3 (n : Nat) : Nat := Nat.land (Nat.mod (Nat.add n (Nat.shiftRight n 4)) 4294967296) 252645135
noncomputable def bn4 (n : Nat) : Nat := Nat.mod (Nat.add n (Nat.shiftRight n 8)) 4294967296
noncomputable def bn5 (n : Nat) : Nat := Nat.mod (Nat.add n (Nat.shiftRight n 16)) 4294967296
noncomputable def bn6 (n : Nat) : Nat := Nat.land n 63
noncomputable def bnc (n : Nat) : Nat := bn6 (bn5 (bn4 (bn3 (bn2 (bn1 n)))))
theorem bct_n (x : Int32) : (bct x).toBitVec.toNat = bnc x.toBitVec.toNat := by
  rw [bct_bs, bs6_n, bs5_n, bs4_n, bs3_n, bs2_n, bs1_n]
  rfl
theorem i3_tn {a : Nat} (h : a < 4294967296) : (i3 (a : Int)).toBitVec.toNat = a := by
  rw [i3_bv, BitVec.toNat_ofNat]; exact Nat.mod_eq_of_lt h
theorem bct_of {m n : Nat} (hm : m < 4294967296) (hn : n < 4294967296) (h : bnc m = n) : bct (i3 (m : Int)) = i3 (n : Int) := by
  apply Int32.toBitVec_inj.mp
  apply BitVec.eq_of_toNat_eq
  rw [bct_n, i3_tn hm, i3_tn hn, h]
noncomputable def bpc (m : Nat) : Nat → Nat
  | 0 => 0
  | n + 1 => Nat.add (bpc m n) (Nat.land (Nat.shiftRight m n) 1)
theorem bpc_eq (m : Nat) : ∀ n, bpc m n = cb (fun t => m.testBit t) n
  | 0 => rfl
  | n + 1 => by
    show bpc m n + (m >>> n &&& 1) = cb (fun t => m.testBit t) n + (m.testBit n).toNat
    rw [bpc_eq m n, Nat.toNat_testBit, Nat.shiftRight_eq_div_pow, Nat.and_one_is_mod]
noncomputable def b_173 (m : Nat) : Bool := Nat.beq (bnc m) (bpc m 12)
theorem bct_eq {m : Nat} (hm : m < 4096) : bct (i3 (m : Int)) = i3 (pc m : Int) := by
  have h := Nat.eq_of_beq_eq_true (z4_of (f := b_173) (by decide +kernel) hm)
  have h2 := pc_le m
  exact bct_of (by omega) (by omega) (h.trans (bpc_eq m 12))
theorem pc_or {m k : Nat} (hk : k < 12) (h : m.testBit k = false) : pc (m ||| 2 ^ k) = pc m + 1 := by
  refine cb_add (k := k) (fun j hj => ?_) h ?_ hk
  · rw [Nat.testBit_or, Nat.testBit_two_pow]
    simp [Ne.symm hj]
  · rw [Nat.testBit_or, Nat.testBit_two_pow]
    simp
theorem or_lt {m k n : Nat} (hm : m < 2 ^ n) (hk : k < n) : m ||| 2 ^ k < 2 ^ n := Nat.or_lt_two_pow hm (Nat.pow_lt_pow_right (by omega) hk)
/-- a bit that is there -/
theorem and_bit {m k : Nat} (hm : m < 4096) (hk : k < 31) : (i3 (m : Int) &&& bit (i3 (k : Int)) = 0) ↔ m.testBit k = false := by
  rw [bit_eq hk, i3_and, show (0 : Int32) = i3 ((0 : Nat) : Int) from rfl, i3n_inj (Nat.lt_of_le_of_lt Nat.and_le_left (by omega)) (by omega)]
  constructor
  · intro h
    have := congrArg (fun x => x.testBit k) h
    simp only [Nat.testBit_and, Nat.testBit_two_pow_self, Nat.zero_testBit, Bool.and_true] at this
    exact this
  · intro h
    apply Nat.eq_of_testBit_eq
    intro j
    rw [Nat.testBit_and, Nat.testBit_two_pow, Nat.zero_testBit]
    by_cases e : k = j
    · subst e; rw [h]; rfl
    · simp [e]
theorem p12 {n : Nat} (h : n ≤ 12) : 2 ^ n ≤ 4096 := Nat.pow_le_pow_right (by omega) h
/-- a set of trees that there are, three or more -/
theorem st3_iff {g : Gd} (h : ok g) (x : Int32) : st3 g x ↔ ∃ m : Nat, m < 2 ^ nn g ∧ x = i3 (m : Int) ∧ 3 ≤ pc m := by
  have hn := h.n_le
  have hp := p12 hn
  have pb : ∀ m, pc m ≤ 12 := pc_le
  constructor
  · rintro ⟨h1, h2⟩
    rw [all_eq h] at h1
    -- the bits above are not there
    have hb : x.toBitVec &&& ~~~ (BitVec.ofNat 32 (2 ^ nn g - 1)) = 0 := by
      have := congrArg Int32.toBitVec h1
      rw [Int32.toBitVec_and, Int32.toBitVec_xor, i3_bv] at this
      have e : (i3 (-1)).toBitVec = BitVec.allOnes 32 := by decide +kernel
      rw [e, BitVec.xor_allOnes] at this
      exact this
    have hx : x.toBitVec.toNat < 2 ^ nn g := by
      refine Nat.lt_pow_two_of_testBit _ (fun j hj => ?_)
      by_cases hj2 : j < 32
      · have := congrArg (fun v : BitVec 32 => v.getLsbD j) hb
        simp only [BitVec.getLsbD_and, BitVec.getLsbD_not, BitVec.getLsbD_ofNat, hj2, decide_true, Bool.true_and, Nat.testBit_two_pow_sub_one] at this
        rw [decide_eq_false (show ¬ j < nn g by omega)] at this
        have t2 : x.toBitVec.getLsbD j = false := by simpa using this
        exact t2
      · exact Nat.testBit_lt_two_pow (Nat.lt_of_lt_of_le x.toBitVec.isLt (Nat.pow_le_pow_right (by omega) (by omega)))
    have ex : x = i3 (x.toBitVec.toNat : Int) := by
      apply Int32.toBitVec_inj.mp
      rw [i3_bv, BitVec.ofNat_toNat, BitVec.setWidth_eq]
    refine ⟨x.toBitVec.toNat, hx, ex, ?_⟩
    have hb2 := pb x.toBitVec.toNat
    have e3 := bct_eq (m := x.toBitVec.toNat) (by omega)
    rw [← ex] at e3
    rw [e3, show i3 3 = i3 ((3 : Nat) : Int) from rfl, i3n_lt (by omega) (by omega)] at h2
    omega
  · rintro ⟨m, h1, rfl, h3⟩
    have hb2 := pb m
    refine ⟨?_, ?_⟩
    · rw [all_eq h]
      have e : i3 ((2 ^ nn g - 1 : Nat) : Int) ^^^ i3 (-1) = i3 ((4294967295 - (2 ^ nn g - 1) : Nat) : Int) := by
        have : ∀ n : Nat, n < 13 → i3 ((2 ^ n - 1 : Nat) : Int) ^^^ i3 (-1) = i3 ((4294967295 - (2 ^ n - 1) : Nat) : Int) := by decide +kernel
        exact this _ (by omega)
      rw [e, i3_and]
      have z : m &&& (4294967295 - (2 ^ nn g - 1)) = 0 := by
        apply Nat.eq_of_testBit_eq
        intro j
        rw [Nat.testBit_and, Nat.zero_testBit]
        by_cases hj : j < nn g
        · have : ∀ n : Nat, n < 13 → ∀ j, j < 13 → j < n → (4294967295 - (2 ^ n - 1)).testBit j = false := by decide +kernel
          rw [this _ (by omega) j (by omega) hj, Bool.and_false]
        · rw [Nat.testBit_lt_two_pow (Nat.lt_of_lt_of_le h1 (Nat.pow_le_pow_right (by omega) (by omega))), Bool.false_and]
      rw [z]
      rfl
    · rw [bct_eq (by omega), show i3 3 = i3 ((3 : Nat) : Int) from rfl, i3n_lt (by omega) (by omega)]
      omega
end
section
/-! ===== gardens read from the tape: what is read ===== -/
noncomputable def wl (w : Nat) : List Int32 := t_byt.getD w []
abbrev wrd (b : List Int32) (t : Tk) (w : Nat) : Prop := t.2.2 - t.2.1 = 4 ∧ fst? (fun i => decide (¬ bt b (t.2.1 + i) = (wl w).getD i 0)) 4 0 = none
abbrev inN (b : List Int32) (t : Tk) (l h : Int32) : Prop := t.1 = i3 2 ∧ ¬ num b t < l ∧ ¬ h < num b t
abbrev PR : Type := Bool × Gd × Tk × Int32
noncomputable def pSide (b : List Int32) (n : Nat) (g : Gd) (t : Tk) (w : Int32) : PR := if 0 < tN g then (false, g, t, w) else if inN b (adv b n t.2.2) (i3 3) (i3 8) then (true, uD g (num b (adv b n t.2.2)), adv b n (adv b n t.2.2).2.2, w) else (false, g, adv b n t.2.2, w)
noncomputable def pTree3 (b : List Int32) (n : Nat) (g : Gd) (k c : Int32) (t : Tk) (w : Int32) : PR := if inN b t (i3 0) (i3 9) then (true, addT g k c (num b t), adv b n t.2.2, w) else (false, g, t, w)
noncomputable def pTree2 (b : List Int32) (n : Nat) (g : Gd) (k : Int32) (t : Tk) (w : Int32) : PR := if inN b t (i3 0) (cc g - i3 1) then if tIn g (num b t) = i3 (-1) then pTree3 b n g k (num b t) (adv b n t.2.2) w else (false, g, t, w) else (false, g, t, w)
noncomputable def pTree1 (b : List Int32) (n : Nat) (g : Gd) (t : Tk) (w : Int32) : PR := if inN b t (i3 0) (i3 5) then pTree2 b n g (num b t) (adv b n t.2.2) w else (false, g, t, w)
noncomputable def pTree (b : List Int32) (n : Nat) (g : Gd) (t : Tk) (w : Int32) : PR := if i3 12 ≤ tN g then (false, g, t, w) else pTree1 b n g (adv b n t.2.2) w
/-- the rounds of a wish: so many left, so many told, the set, the token ahead -/
noncomputable def pWl (b : List Int32) (n : Nat) (g : Gd) : Nat → Nat → Int32 → Tk → Bool × Int32 × Tk
  | 0, _, m, t => (true, m, t)
  | f + 1, k, m, t => if k < 3 ∨ (adv b n t.2.2).1 = i3 2 then if inN b (adv b n t.2.2) (i3 0) (tN g - i3 1) then if (m &&& bit (num b (adv b n t.2.2))) = 0 then pWl b n g f (k + 1) (m ||| bit (num b (adv b n t.2.2))) (adv b n t.2.2) else (false, m, adv b n t.2.2) else (false, m, adv b n t.2.2) else (true, m, adv b n t.2.2)
noncomputable def pWish (b : List Int32) (n : Nat) (g : Gd) (t : Tk) (w : Int32) : PR := if wN g < i3 8 then if (pWl b n g 13 0 (i3 0) t).1 = true then (true, addW g (pWl b n g 13 0 (i3 0) t).2.1, (pWl b n g 13 0 (i3 0) t).2.2, w) else (false, g, (pWl b n g 13 0 (i3 0) t).2.2, w) else (false, g, t, w)
noncomputable def pMove2 (b : List Int32) (n : Nat) (g : Gd) (u : Int32) (t : Tk) (w : Int32) : PR := if inN b t (i3 0) (cc g - i3 1) then if tIn g (num b t) = i3 (-1) then (true, mvT g u (num b t), adv b n t.2.2, w) else (false, g, t, w) else (false, g, t, w)
noncomputable def pMove1 (b : List Int32) (n : Nat) (g : Gd) (t : Tk) (w : Int32) : PR := if inN b t (i3 0) (tN g - i3 1) then if kOf (kA g (num b t)) (i3 1) then (false, g, t, w) else pMove2 b n g (num b t) (adv b n t.2.2) w else (false, g, t, w)
noncomputable def pFell (b : List Int32) (n : Nat) (g : Gd) (t : Tk) (w : Int32) : PR := if fel g then (true, uT g (tN g - i3 1), adv b n t.2.2, mnI w (tN g - i3 1)) else (false, g, t, w)
noncomputable def pStm (b : List Int32) (n : Nat) (g : Gd) (t : Tk) (w : Int32) : PR := if wrd b t 0 then pSide b n g t w else if wrd b t 1 then pTree b n g t w else if wrd b t 2 then pWish b n g t w else if wrd b t 3 then pMove1 b n g (adv b n t.2.2) w else if wrd b t 4 then pFell b n g t w else (false, g, t, w)
/-- all statements: whether, how many (or the fault), the garden, the fewest trees -/
noncomputable def pAl (b : List Int32) (n : Nat) : Nat → Nat → Gd → Tk → Int32 → Bool × Nat × Gd × Int32
  | 0, _, g, t, w => (false, t.2.1, g, w)
  | f + 1, k, g, t, w => if t.1 = i3 1 then if (pStm b n g t w).1 = true then if (pStm b n g t w).2.2.1.1 = i3 0 then (true, k, (pStm b n g t w).2.1, (pStm b n g t w).2.2.2) else if (pStm b n g t w).2.2.1.1 = i3 3 then pAl b n f (k + 1) (pStm b n g t w).2.1 (adv b n (pStm b n g t w).2.2.1.2.2) (pStm b n g t w).2.2.2 else (false, (pStm b n g t w).2.2.1.2.1, g, w) else (false, (pStm b n g t w).2.2.1.2.1, g, w) else (false, t.2.1, g, w)
/-! ===== gardens read stay gardens ===== -/
noncomputable def gw (g : Gd) (w : Int32) : Prop := ok g ∧ ¬ w < 0 ∧ w ≤ tN g
theorem num_nn {b : List Int32} {t : Tk} {h : Int32} (c : inN b t (i3 0) h) : ¬ num b t < 0 := c.2.1
theorem le_of_sub {x y : Int32} (h0 : ¬ x < 0) (hy : ∃ k : Nat, 0 < k ∧ k < 1000 ∧ y = i3 (k : Int)) (h : ¬ y - i3 1 < x) : ¬ y ≤ x := by
  obtain ⟨k, k0, k1, rfl⟩ := hy
  rw [i3_nat_sub k0] at h
  rw [Int32.lt_iff_toInt_lt, i3_toInt ⟨by omega, by omega⟩] at h
  rw [Int32.le_iff_toInt_le, i3_toInt ⟨by omega, by omega⟩]
  omega
theorem in_cl {g : Gd} (h : ok g) {b : List Int32} {t : Tk} (c : inN b t (i3 0) (cc g - i3 1)) : isCl g (num b t) := by
  have h1 := h.d_ge
  have h2 := h.cc_le
  have h3 : 9 ≤ dn g * dn g := Nat.mul_le_mul h1 h1
  exact ⟨c.2.1, le_of_sub c.2.1 ⟨dn g * dn g, by omega, by omega, h.cc_eq⟩ c.2.2⟩
theorem in_T {g : Gd} (h : ok g) {b : List Int32} {t : Tk} (c : inN b t (i3 0) (tN g - i3 1)) : isT g (num b t) := by
  have hn := h.n_le
  refine ⟨c.2.1, ?_⟩
  by_cases e : nn g = 0
  · have e1 : tN g - i3 1 = i3 (-1) := by
      rw [h.n_eq, e]; decide +kernel
    have := c.2.2
    rw [e1] at this
    exact absurd (m1_lt c.2.1) this
  · exact le_of_sub c.2.1 ⟨nn g, by omega, by omega, h.n_eq⟩ c.2.2
theorem mask_T {g : Gd} (h : ok g) {x : Int32} (hx : isT g x) : ∃ k : Nat, k < nn g ∧ x = i3 (k : Int) := ⟨_, h.tl hx, i3_cl hx.1⟩
theorem pWl_ok {b : List Int32} {n : Nat} {g : Gd} (h : ok g) : ∀ (f k : Nat) (m : Int32) (t : Tk) (M : Nat), f + k = 13 → M < 2 ^ nn g → m = i3 (M : Int) → pc M = k → (pWl b n g f k m t).1 = true → st3 g (pWl b n g f k m t).2.1
  | 0, k, m, t, M, hf, hM, hm, hp, _ => by
    have := cb_le (fun t => M.testBit t) 12
    have h2 : pc M ≤ 12 := this
    omega
  | f + 1, k, m, t, M, hf, hM, hm, hp, ht => by
    have hn := h.n_le
    have hp2 := p12 hn
    unfold pWl at ht ⊢
    by_cases c1 : k < 3 ∨ (adv b n t.2.2).1 = i3 2
    · rw [if_pos c1] at ht ⊢
      by_cases c2 : inN b (adv b n t.2.2) (i3 0) (tN g - i3 1)
      · rw [if_pos c2] at ht ⊢
        by_cases c3 : (m &&& bit (num b (adv b n t.2.2))) = 0
        · rw [if_pos c3] at ht ⊢
          obtain ⟨j, hj, ej⟩ := mask_T h (in_T h c2)
          rw [ej, hm] at c3
          have hb := (and_bit (by omega) (by omega)).mp c3
          refine pWl_ok h f (k + 1) _ _ (M ||| 2 ^ j) (by omega) (or_lt hM hj) ?_ ?_ ht
          · rw [hm, ej, bit_eq (by omega), i3_or]
          · rw [pc_or (by omega) hb, hp]
        · rw [if_neg c3] at ht; cases ht
      · rw [if_neg c2] at ht; cases ht
    · rw [if_neg c1]
      exact (st3_iff h _).mpr ⟨M, hM, hm, by omega⟩
theorem pStm_ok {b : List Int32} {n : Nat} {g : Gd} {t : Tk} {w : Int32} (h : gw g w) : gw (pStm b n g t w).2.1 (pStm b n g t w).2.2.2 := by
  obtain ⟨hk, w0, w1⟩ := h
  have hg : gw g w := ⟨hk, w0, w1⟩
  unfold pStm
  split
  · unfold pSide
    split
    · exact hg
    · rename_i c1
      split
      · rename_i c2
        refine ⟨ok_uD hk (Int32.not_lt.mp c1) (Int32.not_lt.mp c2.2.1) (Int32.not_lt.mp c2.2.2), w0, w1⟩
      · exact hg
  split
  · unfold pTree
    split
    · exact hg
    · rename_i c0
      unfold pTree1
      split
      · rename_i c1
        unfold pTree2
        split
        · rename_i c2
          split
          · rename_i c3
            unfold pTree3
            split
            · refine ⟨ok_addT hk c0 ⟨c1.2.1, Int32.not_lt.mp c1.2.2⟩ (in_cl hk c2) c3, w0, ?_⟩
              have n1 := hk.n_le
              have n2 : nn g < 12 := by
                rw [hk.n_eq, show i3 12 = i3 ((12 : Nat) : Int) from rfl, i3n_le (by omega) (by omega)] at c0
                omega
              have e : tN g + i3 1 = i3 ((nn g + 1 : Nat) : Int) := by rw [hk.n_eq]; exact i3_nat_add _
              show w ≤ tN g + i3 1
              rw [e]
              rw [hk.n_eq] at w1
              rw [Int32.le_iff_toInt_le, i3_toInt ⟨by omega, by omega⟩] at w1 ⊢
              omega
            · exact hg
          · exact hg
        · exact hg
      · exact hg
  split
  · unfold pWish
    split
    · rename_i c1
      split
      · rename_i c2
        exact ⟨ok_addW hk (not8 c1) (pWl_ok hk 13 0 (i3 0) t 0 rfl (Nat.two_pow_pos _) rfl rfl c2), w0, w1⟩
      · exact hg
    · exact hg
  split
  · unfold pMove1
    split
    · rename_i c1
      split
      · exact hg
      · unfold pMove2
        split
        · rename_i c2
          split
          · rename_i c3
            exact ⟨ok_mvT hk (in_T hk c1) (in_cl hk c2) c3, w0, w1⟩
          · exact hg
        · exact hg
    · exact hg
  split
  · unfold pFell
    split
    · rename_i c1
      have h1 := ok_fell hk c1
      refine ⟨h1, ?_, ?_⟩
      · show ¬ mnI w (tN g - i3 1) < 0
        unfold mnI
        split
        · exact h1.2.1.1
        · exact w0
      · show mnI w (tN g - i3 1) ≤ tN g - i3 1
        unfold mnI
        split
        · exact Int32.le_refl _
        · rename_i c2
          exact Int32.not_lt.mp c2
    · exact hg
  exact hg
/-- tokens that were read -/
noncomputable def tkO (b : List Int32) (n : Nat) (t : Tk) : Prop := ∃ e, e ≤ n ∧ t = adv b n e
theorem tkO.bd {b : List Int32} {n : Nat} {t : Tk} (h : tkO b n t) : t.2.1 ≤ t.2.2 ∧ t.2.2 ≤ n ∧ (¬ t.1 = i3 0 → t.2.1 < t.2.2) := by
  obtain ⟨e, he, rfl⟩ := h
  exact (adv_bd he).2
theorem tkO.nx {b : List Int32} {n : Nat} {t : Tk} (h : tkO b n t) : tkO b n (adv b n t.2.2) := ⟨t.2.2, h.bd.2.1, rfl⟩
section CT
variable {s : St} {b : List Int32} {n : Nat}
theorem q_177 {w : Nat} (h1 : 1001 ≤ w) (h2 : w < 1011) (th : tH) : m_177 w th = some (i3 4) := by
  have xs : xS w = some () := if_pos ⟨h1, h2⟩
  have al : aL th (w + 20) = some (Int32.ofNat 4) := by
    unfold aL
    rw [if_neg (by omega), if_pos (by omega)]
  have cd : m_179 w th = some 0 := by
    unfold m_179
    simp only [xs, Option.bind_some, jn]
    rfl
  unfold m_177
  rw [xs, Option.bind_some, Option.bind_some, al, Option.bind_some, cd]
  rfl
theorem q_178 {w i : Nat} (h1 : w < 10) (hi : i < 4) (th : tH) : m_178 (1001 + w) (i3 (i : Int)) th = some ((wl w).getD i 0) := by
  have xs : xS (1001 + w) = some () := if_pos (by omega)
  have al : aL th (1001 + w + 20) = some (Int32.ofNat 4) := by
    unfold aL
    rw [if_neg (by omega), if_pos (by omega)]
  have e0 : ¬ i3 (i : Int) < 0 := i3n_nneg (by omega)
  have e4 : i3 (i : Int) < Int32.ofNat 4 := by
    rw [i3_nat, i3n_lt (by omega) (by omega)]; exact hi
  have ab : aB (1001 + w + 20) (i3 (i : Int)) = some ((wl w).getD i 0) := by
    unfold aB wl
    rw [if_pos ⟨by omega, e0⟩, cl_i3 (by omega), show 1001 + w + 20 - 1021 = w by omega]
    have : ∀ w, w < 10 → ∀ i, i < 4 → (t_byt.getD w [])[i]? = some ((t_byt.getD w []).getD i 0) := by decide +kernel
    exact this w h1 i hi
  have rc : rC (Int32.toUInt32 ((wl w).getD i 0 &&& (Int16.ofInt 255).toInt32) % 65536).toInt32 = some ((wl w).getD i 0) := by
    have : ∀ w, w < 10 → ∀ i, i < 4 → rC (Int32.toUInt32 ((t_byt.getD w []).getD i 0 &&& (Int16.ofInt 255).toInt32) % 65536).toInt32 = some ((t_byt.getD w []).getD i 0) := by decide +kernel
    exact this w h1 i hi
  have rc2 : rC ((wl w).getD i 0) = some ((wl w).getD i 0) := by
    have : ∀ w, w < 10 → ∀ i, i < 4 → rC ((t_byt.getD w []).getD i 0) = some ((t_byt.getD w []).getD i 0) := by decide +kernel
    exact this w h1 i hi
  have m180 : m_180 (1001 + w) th = some (i3 1) := by
    unfold m_180
    simp only [xs, Option.bind_some, jn]
    rfl
  have m182 : m_182 (1001 + w + 20) (i3 (i : Int)) th = some ((wl w).getD i 0) := by
    unfold m_182 m_181 m_183
    simp only [al, Option.bind_some, jn, if_neg e0, if_pos e4, ab, rc]
  unfold m_178
  rw [xs, Option.bind_some, m180, Option.bind_some, if_neg e1_0, Option.bind_some, m182, Option.bind_some, rc2]
theorem q_168 (h : tpC s b n) {t : Tk} (ht : tkC s b t) (hb : t.2.1 ≤ t.2.2 ∧ t.2.2 ≤ n) {w : Nat} (hw : w < 10) : m_168 24 (1001 + w) (H s) = some (bP (wrd b t w)) := by
  have hn := h.2.2.2
  have g5 : gI (H s) 6 24 5 = some (i3 (t.2.2 : Int)) := by rw [← ht.2.2.1]; rfl
  have g4 : gI (H s) 6 24 4 = some (i3 (t.2.1 : Int)) := by rw [← ht.2.1]; rfl
  have e1 : i3 (t.2.2 : Int) - i3 (t.2.1 : Int) = i3 ((t.2.2 - t.2.1 : Nat) : Int) := by
    rw [i3_sub]; congr 1; omega
  have g0 : gN (H s) 6 24 0 = some 25 := rfl
  have a0 : ∀ i, aI (H s) 25 i = at32 (ia s 25) i := fun i => aI_of rfl
  unfold m_168
  rw [(r_T s).1, Option.bind_some, g5, Option.bind_some, g4, Option.bind_some, q_177 (by omega) (by omega), Option.bind_some, e1]
  have e2 : (i3 ((t.2.2 - t.2.1 : Nat) : Int) = i3 4) ↔ t.2.2 - t.2.1 = 4 := i3n_inj (b := 4) (by omega) (by omega)
  by_cases c : t.2.2 - t.2.1 = 4
  · rw [if_pos (e2.mpr c)]
    refine (lpS 4 (by omega) (fun t => t) () (fun i => decide (¬ bt b (t.2.1 + i) = (wl w).getD i 0)) (fun _ => some (i3 0)) ?_ ?_).trans ?_
    · intro k nx ex hk
      have e3 : ¬ i3 4 ≤ i3 (k : Int) := by
        show ¬ i3 ((4 : Nat) : Int) ≤ i3 (k : Int)
        rw [i3n_le (by omega) (by omega)]; omega
      have e4 : i3 (t.2.1 : Int) + i3 (k : Int) = i3 ((t.2.1 + k : Nat) : Int) := by rw [i3_add]; rfl
      rw [Option.bind_some, if_neg e3, g0, Option.bind_some, Option.bind_some, a0, e4, h.at (by omega), Option.bind_some, q_178 hw hk, Option.bind_some]
      simp only [decide_eq_true_eq]
      by_cases d : bt b (t.2.1 + k) = (wl w).getD k 0
      · rw [if_pos d, if_neg (fun e => e d)]
      · rw [if_neg d, if_pos d]
        rfl
    · intro nx ex
      have e3 : i3 4 ≤ i3 ((4 : Nat) : Int) := by decide +kernel
      rw [Option.bind_some, if_pos e3]
    · refine (mat_bP (p := fun i => decide (¬ bt b (t.2.1 + i) = (wl w).getD i 0)) (n := 4) (l := 0)).trans ?_
      unfold bP wrd
      simp only [c, true_and]
  · rw [if_neg (fun e => c (e2.mp e)), bP_f (fun e => c e.1)]
    rfl
theorem q_167 {t : Tk} (ht : tkC s b t) (l u : Int32) : m_167 24 l u (H s) = some (bP (inN b t l u)) := by
  have g3 : gI (H s) 6 24 3 = some t.1 := by rw [← ht.1]; rfl
  have g6 : gI (H s) 6 24 6 = some (num b t) := by rw [← ht.2.2.2]; rfl
  unfold m_167
  rw [(r_T s).1, Option.bind_some, g3, Option.bind_some]
  unfold jn
  dsimp only
  by_cases c1 : t.1 = i3 2
  · rw [if_pos c1, g6, Option.bind_some]
    by_cases c2 : num b t < l
    · rw [if_pos c2, bP_f (fun e => e.2.1 c2)]; rfl
    · rw [if_neg c2, Option.bind_some]
      by_cases c3 : u < num b t
      · rw [if_pos c3, bP_f (fun e => e.2.2 c3)]; rfl
      · rw [if_neg c3, bP_t ⟨c1, c2, c3⟩]; rfl
  · rw [if_neg c1, bP_f (fun e => c1 e.1)]; rfl
/-- where the class stands in its tape: token, draft, fewest trees -/
noncomputable def cst6 (s : St) (b : List Int32) (n : Nat) (t : Tk) (g : Gd) (w : Int32) : Prop := tpC s b n ∧ tkC s b t ∧ tkO b n t ∧ gd s 6 = g ∧ ok g ∧ fi s 24 2 = w
theorem tpC.q {s s' : St} (h : tpC s b n) (q : qq s s') : tpC s' b n := ⟨(q.1 25 (by unfold qA sA; omega)).trans h.1, h.2.1, (q.2.2.1 24 1 (by unfold qF sF; omega)).trans h.2.2.1, h.2.2.2⟩
theorem q_169' {t : Tk} {g : Gd} {w : Int32} (h : cst6 s b n t g w) : ∃ s', m_169 24 (H s) = some (H s') ∧ cst6 s' b n (adv b n t.2.2) g w ∧ qq s s' ∧ eT s s' := by
  obtain ⟨h1, h2, h3, h4, h5, h6⟩ := h
  obtain ⟨s', e, k, et⟩ := q_169 h1 h3.bd.2.1 h2.2.2.1
  exact ⟨s', e, ⟨h1.q et.q, k, h3.nx, et.g6.trans h4, h5, (et.2.2.1 24 2 (by omega)).trans h6⟩, et.q, et⟩
theorem q_166 {t : Tk} {g : Gd} {w : Int32} (h : cst6 s b n t g w) (l u : Int32) : ∃ s', m_166 24 l u (H s) = some (bP (inN b (adv b n t.2.2) l u), H s') ∧ cst6 s' b n (adv b n t.2.2) g w ∧ qq s s' := by
  obtain ⟨s', e, k, q, -⟩ := q_169' h
  refine ⟨s', ?_, k, q⟩
  unfold m_166
  rw [(r_T s).1, Option.bind_some, e, Option.bind_some, q_167 k.2.1, Option.bind_some, rB_bP]
  rfl
end CT
end
section
/-! ===== the class reads statements ===== -/
theorem g6 : isG 6 := Or.inr (Or.inl rfl)
noncomputable def bB (c : Bool) : Int32 := if c = true then i3 1 else i3 0
noncomputable def PS (s : St) (b : List Int32) (n : Nat) (m : Option (Int32 × tH)) (r : PR) : Prop := ∃ s', m = some (bB r.1, H s') ∧ qq s s' ∧ cst6 s' b n r.2.2.1 r.2.1 r.2.2.2
section CS
variable {s : St} {b : List Int32} {n : Nat} {t : Tk} {g : Gd} {w : Int32}
theorem qq_w6 (s : St) {g : Gd} (h1 : sh g) (h2 : sh (gd s 6)) : qq s (wG s 6 g) := by
  obtain ⟨a1, a2, a3, a4⟩ := h1
  obtain ⟨b1, b2, b3, b4⟩ := h2
  have e1 : (ia s 7).length = 12 := b1
  have e2 : (ia s 8).length = 12 := b2
  have e3 : (ia s 9).length = 12 := b3
  have e4 : (ia s 10).length = 8 := b4
  refine ⟨fun p hp => ?_, fun _ _ => rfl, fun o k hk => ?_, rfl, fun p => ?_, fun _ => rfl⟩
  · rw [ia_wG, if_neg, if_neg, if_neg, if_neg] <;> (intro e; apply hp; unfold qA; omega)
  · rw [fi_wG, if_neg, if_neg, if_neg, if_neg] <;> (intro e; apply hk; unfold qF; omega)
  · rw [ia_wG]
    split
    · rename_i e; rw [e, a1, e1]
    split
    · rename_i _ e; rw [e, a2, e2]
    split
    · rename_i _ _ e; rw [e, a3, e3]
    split
    · rename_i _ _ _ e; rw [e, a4, e4]
    rfl
theorem cst6.wg (h : cst6 s b n t g w) {g' : Gd} (h' : ok g') : cst6 (wG s 6 g') b n t g' w ∧ qq s (wG s 6 g') := by
  obtain ⟨h1, h2, h3, h4, h5, h6⟩ := h
  exact ⟨⟨h1, h2, h3, gd_wG s 6 g', h', h6⟩, qq_w6 s h'.sh (by rw [h4]; exact h5.sh)⟩
theorem cst6.f (h : cst6 s b n t g w) (x : Int32) : cst6 (sf s 24 2 x) b n t g x ∧ qq s (sf s 24 2 x) := by
  obtain ⟨h1, h2, h3, h4, h5, h6⟩ := h
  exact ⟨⟨h1, h2, h3, h4, h5, rfl⟩, (qq.refl s).f (Or.inl (Or.inr (Or.inr (Or.inr (Or.inl ⟨rfl, by omega⟩)))))⟩
theorem PS.no (h : cst6 s b n t g w) : PS s b n ((rB (Int32.ofInt 0)).bind fun y => some (y, H s)) (false, g, t, w) := ⟨s, rfl, qq.refl s, h⟩
theorem PS.q {s s' : St} {m : Option (Int32 × tH)} {r : PR} (h : PS s' b n m r) (q : qq s s') : PS s b n m r := by
  obtain ⟨s2, e, q2, k⟩ := h
  exact ⟨s2, e, q.trans q2, k⟩
/-- one token on, and it was so -/
theorem PS.yes (h : cst6 s b n t g w) : PS s b n ((m_169 24 (H s)).bind fun th => (rB (Int32.ofInt 1)).bind fun y => some (y, th)) (true, g, adv b n t.2.2, w) := by
  obtain ⟨s', e, k, q, -⟩ := q_169' h
  rw [e]
  exact ⟨s', rfl, q, k⟩
theorem num_at (h : cst6 s b n t g w) : gI (H s) 6 24 6 = some (num b t) := by rw [← h.2.1.2.2.2]; rfl
theorem q_161 (h : cst6 s b n t g w) : PS s b n (m_161 24 6 (H s)) (pSide b n g t w) := by
  have gt : gI (H s) 2 6 5 = some (tN g) := by rw [← h.2.2.2.1]; rfl
  unfold m_161 pSide
  rw [(r_T s).1, Option.bind_some, gt, Option.bind_some]
  unfold jn
  dsimp only
  by_cases c1 : 0 < tN g
  · rw [if_pos c1, if_pos c1]
    exact PS.no h
  rw [if_neg c1, if_neg c1]
  obtain ⟨s1, e1, k1, q1⟩ := q_166 h (i3 3) (Int8.ofInt 8).toInt32
  have c8 : (Int8.ofInt 8).toInt32 = i3 8 := by decide +kernel
  rw [e1, Option.bind_some, bP_if, c8]
  refine PS.q ?_ q1
  by_cases c2 : inN b (adv b n t.2.2) (i3 3) (i3 8)
  · rw [if_pos c2, if_pos c2, num_at k1, Option.bind_some]
    have hk := ok_uD k1.2.2.2.2.1 (Int32.not_lt.mp c1) (Int32.not_lt.mp c2.2.1) (Int32.not_lt.mp c2.2.2)
    obtain ⟨k2, q2⟩ := k1.wg hk
    have ep : pI (H s1) 2 6 4 (num b (adv b n t.2.2)) = some (H (wG s1 6 (uD g (num b (adv b n t.2.2))))) := by
      rw [show pI (H s1) 2 6 4 (num b (adv b n t.2.2)) = some (H (sf s1 6 4 (num b (adv b n t.2.2)))) from rfl, sf_g4, k1.2.2.2.1]
    rw [ep, Option.bind_some]
    exact PS.q (PS.yes k2) q2
  · rw [if_neg c2, if_neg c2]
    exact PS.no k1
theorem q_162 (h : cst6 s b n t g w) : PS s b n (m_162 24 6 (H s)) (pTree b n g t w) := by
  have gt : gI (H s) 2 6 5 = some (tN g) := by rw [← h.2.2.2.1]; rfl
  have c12 : (Int8.ofInt 12).toInt32 = i3 12 := by decide +kernel
  have c9 : (Int8.ofInt 9).toInt32 = i3 9 := by decide +kernel
  unfold m_162 pTree
  rw [(r_T s).1, Option.bind_some, gt, Option.bind_some]
  unfold jn
  dsimp only
  rw [c12, c9]
  by_cases c1 : i3 12 ≤ tN g
  · rw [if_pos c1, if_pos c1]
    exact PS.no h
  rw [if_neg c1, if_neg c1]
  unfold pTree1
  obtain ⟨s1, e1, k1, q1⟩ := q_166 h (i3 0) (i3 5)
  rw [e1, Option.bind_some, bP_if]
  refine PS.q ?_ q1
  by_cases c2 : inN b (adv b n t.2.2) (i3 0) (i3 5)
  · rw [if_pos c2, if_pos c2, num_at k1, Option.bind_some, q_70 g6, Option.bind_some, k1.2.2.2.1]
    unfold pTree2
    generalize adv b n t.2.2 = t1 at k1 c2
    obtain ⟨s2, e2, k2, q2⟩ := q_166 k1 (i3 0) (cc g - i3 1)
    rw [e2, Option.bind_some, bP_if]
    refine PS.q ?_ q2
    by_cases c3 : inN b (adv b n t1.2.2) (i3 0) (cc g - i3 1)
    · rw [if_pos c3, if_pos c3, num_at k2, Option.bind_some, q_84 g6 (by rw [k2.2.2.2.1]; exact k2.2.2.2.2.1), Option.bind_some, bP_if, k2.2.2.2.1]
      generalize adv b n t1.2.2 = t2 at k2 c3
      by_cases c4 : tIn g (num b t2) = i3 (-1)
      · rw [if_pos c4, if_pos c4, Option.bind_some]
        unfold pTree3
        obtain ⟨s3, e3, k3, q3⟩ := q_166 k2 (i3 0) (i3 9)
        rw [e3, Option.bind_some, bP_if]
        refine PS.q ?_ q3
        by_cases c5 : inN b (adv b n t2.2.2) (i3 0) (i3 9)
        · rw [if_pos c5, if_pos c5, num_at k3, Option.bind_some]
          generalize adv b n t2.2.2 = t3 at k3 c5
          have hk := ok_addT k3.2.2.2.2.1 c1 (a := num b t3) ⟨c2.2.1, Int32.not_lt.mp c2.2.2⟩ (in_cl k3.2.2.2.2.1 c3) c4
          obtain ⟨k4, q4⟩ := k3.wg hk
          rw [q_89 g6 (by rw [k3.2.2.2.1]; exact k3.2.2.2.2.1) (by rw [k3.2.2.2.1]; exact c1), Option.bind_some, k3.2.2.2.1]
          exact PS.q (PS.yes k4) q4
        · rw [if_neg c5, if_neg c5]
          exact PS.no k3
      · rw [if_neg c4, if_neg c4]
        exact PS.no k2
    · rw [if_neg c3, if_neg c3]
      exact PS.no k2
  · rw [if_neg c2, if_neg c2]
    exact PS.no k1
theorem q_164 (h : cst6 s b n t g w) : PS s b n (m_164 24 6 (H s)) (pMove1 b n g (adv b n t.2.2) w) := by
  have gt : gI (H s) 2 6 5 = some (tN g) := by rw [← h.2.2.2.1]; rfl
  unfold m_164 pMove1
  rw [(r_T s).1, Option.bind_some, gt, Option.bind_some]
  unfold jn
  obtain ⟨s1, e1, k1, q1⟩ := q_166 h (i3 0) (tN g - i3 1)
  rw [e1, Option.bind_some]
  dsimp only
  rw [bP_if]
  refine PS.q ?_ q1
  generalize adv b n t.2.2 = t1 at k1
  by_cases c1 : inN b t1 (i3 0) (tN g - i3 1)
  · have hT := in_T k1.2.2.2.2.1 c1
    rw [if_pos c1, if_pos c1, num_at k1, Option.bind_some, q_87 g6 (by rw [k1.2.2.2.1]; exact k1.2.2.2.2.1) (by rw [k1.2.2.2.1]; exact hT), Option.bind_some, bP_if, k1.2.2.2.1]
    by_cases c2 : kOf (kA g (num b t1)) (i3 1)
    · rw [if_neg (fun e => e c2), if_pos c2]
      exact PS.no k1
    · rw [if_pos c2, if_neg c2, Option.bind_some, q_70 g6, Option.bind_some, k1.2.2.2.1]
      unfold pMove2
      obtain ⟨s2, e2, k2, q2⟩ := q_166 k1 (i3 0) (cc g - i3 1)
      rw [e2, Option.bind_some, bP_if]
      refine PS.q ?_ q2
      generalize adv b n t1.2.2 = t2 at k2
      by_cases c3 : inN b t2 (i3 0) (cc g - i3 1)
      · rw [if_pos c3, if_pos c3, num_at k2, Option.bind_some, q_84 g6 (by rw [k2.2.2.2.1]; exact k2.2.2.2.2.1), Option.bind_some, bP_if, k2.2.2.2.1]
        by_cases c4 : tIn g (num b t2) = i3 (-1)
        · rw [if_pos c4, if_pos c4]
          have hk := ok_mvT k2.2.2.2.2.1 hT (in_cl k2.2.2.2.2.1 c3) c4
          obtain ⟨k4, q4⟩ := k2.wg hk
          have gn : gN (H s2) 2 6 1 = some 8 := rfl
          have es : sI (H s2) 8 (num b t1) (num b t2) = some (H (wG s2 6 (mvT g (num b t1) (num b t2)))) := by
            have e0 : sI (H s2) 8 (num b t1) (num b t2) = (st32 (cS (gd s2 6)) (num b t1) (num b t2)).map (fun l => H (sa s2 8 l)) := sI_of rfl
            have hok := k2.2.2.2.2.1
            have h1 := hok.tl hT
            have h2 := hok.n_le
            rw [e0, k2.2.2.2.1, st_wr hT.1 (by rw [hok.2.2.2.1.2.1]; omega), Option.map_some]
            have e9 := sa_g2 s2 6 ((cS g).set (num b t1).toNatClampNeg (num b t2))
            rw [k2.2.2.2.1] at e9
            exact congrArg (fun z => some (H z)) e9
          rw [gn, Option.bind_some, Option.bind_some, es, Option.bind_some]
          exact PS.q (PS.yes k4) q4
        · rw [if_neg c4, if_neg c4]
          exact PS.no k2
      · rw [if_neg c3, if_neg c3]
        exact PS.no k2
  · rw [if_neg c1, if_neg c1]
    exact PS.no k1
theorem q_165 (h : cst6 s b n t g w) : PS s b n (m_165 24 6 (H s)) (pFell b n g t w) := by
  unfold m_165 pFell
  rw [(r_T s).1, Option.bind_some, q_90 g6 (by rw [h.2.2.2.1]; exact h.2.2.2.2.1), Option.bind_some, bP_if, h.2.2.2.1]
  by_cases c1 : fel g
  · have hk := ok_fell h.2.2.2.2.1 c1
    obtain ⟨k1, q1⟩ := h.wg hk
    obtain ⟨k2, q2⟩ := k1.f (mnI w (tN g - i3 1))
    rw [if_pos c1, if_pos c1, q_91 g6 (by rw [h.2.2.2.1]; exact c1.1), Option.bind_some, h.2.2.2.1]
    have f2 : gI (H (wG s 6 (uT g (tN g - i3 1)))) 6 24 2 = some w := by rw [← k1.2.2.2.2.2]; rfl
    have f5 : gI (H (wG s 6 (uT g (tN g - i3 1)))) 2 6 5 = some (tN g - i3 1) := by
      rw [show gI (H (wG s 6 (uT g (tN g - i3 1)))) 2 6 5 = some (tN (gd (wG s 6 (uT g (tN g - i3 1))) 6)) from rfl, gd_wG]
      rfl
    have p2 : ∀ x, pI (H (wG s 6 (uT g (tN g - i3 1)))) 6 24 2 x = some (H (sf (wG s 6 (uT g (tN g - i3 1))) 24 2 x)) := fun _ => rfl
    rw [f2, Option.bind_some, f5, Option.bind_some, p2, Option.bind_some]
    exact PS.q (PS.q (PS.yes k2) q2) q1
  · rw [if_neg c1, if_neg c1]
    exact PS.no h
theorem q_163 (h : cst6 s b n t g w) : PS s b n (m_163 24 6 (H s)) (pWish b n g t w) := by
  have gw' : gI (H s) 2 6 6 = some (wN g) := by rw [← h.2.2.2.1]; rfl
  have c8 : (Int8.ofInt 8).toInt32 = i3 8 := by decide +kernel
  have c12 : (Int8.ofInt 12).toInt32 = i3 12 := by decide +kernel
  unfold m_163 pWish
  rw [(r_T s).1, Option.bind_some, gw', Option.bind_some, c8, c12]
  by_cases c1 : wN g < i3 8
  · rw [if_pos c1, if_pos c1]
    have hok := h.2.2.2.2.1
    suffices T (lp (fun (s2 : Int32 × Int32 × tH) nx3 ex4 => if i3 12 < s2.2.1 then ex4 (s2.1, s2.2.2) else (m_169 24 s2.2.2).bind fun th8 => jn (fun (v9 : Unit) => (gI th8 2 6 5).bind fun x11 => (m_167 24 (Int32.ofInt 0) (x11 - (Int32.ofInt 1)) th8).bind fun x12 => jn (fun (v13 : Unit) => (rB (Int32.ofInt 0)).bind fun y15 => some (y15, th8)) (fun j14 => if x12 = 0 then j14 () else (gI th8 6 24 6).bind fun x16 => if (s2.1 &&& ((Int32.ofInt 1) <<< (x16 &&& 31))) = 0 then (gI th8 6 24 6).bind fun x17 => nx3 ((s2.1 ||| ((Int32.ofInt 1) <<< (x17 &&& 31))), (s2.2.1 + Int32.ofInt 1), th8) else j14 ())) (fun j10 => if s2.2.1 < (Int32.ofInt 3) then j10 () else (gI th8 6 24 3).bind fun x20 => if x20 = (Int32.ofInt 2) then j10 () else ex4 (s2.1, th8))) 4096 ((Int32.ofInt 0), (Int32.ofInt 0), H s) (fun (x5 : Int32 × tH) => (m_96 6 x5.1 x5.2).bind fun th6 => (rB (Int32.ofInt 1)).bind fun y7 => some (y7, th6))) (fun r => ∃ s', r = (bB (pWl b n g 13 0 (i3 0) t).1, H s') ∧ qq s s' ∧ cst6 s' b n (pWl b n g 13 0 (i3 0) t).2.2 (if (pWl b n g 13 0 (i3 0) t).1 = true then addW g (pWl b n g 13 0 (i3 0) t).2.1 else g) w) by
      obtain ⟨r, e, s', rfl, q, k⟩ := this
      by_cases c2 : (pWl b n g 13 0 (i3 0) t).1 = true
      · rw [if_pos c2] at k ⊢
        refine ⟨s', e.trans ?_, q, k⟩
        rw [c2]
      · rw [if_neg c2] at k ⊢
        refine ⟨s', e.trans ?_, q, k⟩
        have : (pWl b n g 13 0 (i3 0) t).1 = false := by simpa using c2
        rw [this]
    have hst := fun ht => pWl_ok (b := b) (n := n) hok 13 0 (i3 0) t 0 rfl (Nat.two_pow_pos _) rfl rfl ht
    generalize hP : pWl b n g 13 0 (i3 0) t = P at hst ⊢
    refine lpH 13 (fun k q => ∃ s1 m t1, q = (m, i3 (k : Int), H s1) ∧ qq s s1 ∧ cst6 s1 b n t1 g w ∧ pWl b n g (13 - k) k m t1 = P) (fun x => ∃ s1, x = (P.2.1, H s1) ∧ qq s s1 ∧ cst6 s1 b n P.2.2 g w ∧ P.1 = true) ?_ ?_ ?_ ?_ (by omega)
    · rintro k _ hk ⟨s1, m, t1, rfl, q1, k1, e1⟩ nx ex hnx hex
      obtain ⟨s2, e2, k2, q2, -⟩ := q_169' k1
      have e12 : ¬ i3 12 < i3 (k : Int) := by
        show ¬ i3 ((12 : Nat) : Int) < i3 (k : Int)
        rw [i3n_lt (by omega) (by omega)]; omega
      obtain ⟨f, hf⟩ : ∃ f, 13 - k = f + 1 := ⟨12 - k, by omega⟩
      have hf2 : 13 - (k + 1) = f := by omega
      rw [hf] at e1
      unfold pWl at e1
      dsimp only
      rw [if_neg e12, e2, Option.bind_some]
      unfold jn
      dsimp only
      have g3 : gI (H s2) 6 24 3 = some (adv b n t1.2.2).1 := by rw [← k2.2.1.1]; rfl
      have gt : gI (H s2) 2 6 5 = some (tN g) := by rw [← k2.2.2.2.1]; rfl
      have e3 : (i3 (k : Int) < Int32.ofInt 3) ↔ k < 3 := i3n_lt (b := 3) (by omega) (by omega)
      rw [g3, gt, Option.bind_some, Option.bind_some, q_167 k2.2.1, Option.bind_some, bP_if, num_at k2, Option.bind_some, Option.bind_some, i3_nat_add]
      generalize adv b n t1.2.2 = t2 at k2 e1
      have key : (k < 3 ∨ t2.1 = i3 2) → T (if inN b t2 (Int32.ofInt 0) (tN g - Int32.ofInt 1) then (if (m &&& Int32.ofInt 1 <<< (num b t2 &&& 31)) = 0 then nx (m ||| Int32.ofInt 1 <<< (num b t2 &&& 31), i3 ((k + 1 : Nat) : Int), H s2) else (rB (Int32.ofInt 0)).bind fun y15 => some (y15, H s2)) else (rB (Int32.ofInt 0)).bind fun y15 => some (y15, H s2)) (fun r => ∃ s', r = (bB P.1, H s') ∧ qq s s' ∧ cst6 s' b n P.2.2 (if P.1 = true then addW g P.2.1 else g) w) := fun c => by
        rw [if_pos c] at e1
        by_cases c2 : inN b t2 (i3 0) (tN g - i3 1)
        · rw [if_pos c2]
          rw [if_pos c2] at e1
          by_cases c3 : (m &&& bit (num b t2)) = 0
          · have c3' : (m &&& Int32.ofInt 1 <<< (num b t2 &&& 31)) = 0 := c3
            rw [if_pos c3']
            rw [if_pos c3] at e1
            exact hnx _ ⟨s2, _, t2, rfl, q1.trans q2, k2, by rw [hf2]; exact e1⟩
          · have c3' : ¬ (m &&& Int32.ofInt 1 <<< (num b t2 &&& 31)) = 0 := c3
            rw [if_neg c3']
            rw [if_neg c3] at e1
            rw [← e1]
            exact T_some ⟨s2, rfl, q1.trans q2, k2⟩
        · rw [if_neg c2]
          rw [if_neg c2] at e1
          rw [← e1]
          exact T_some ⟨s2, rfl, q1.trans q2, k2⟩
      by_cases d1 : k < 3
      · rw [if_pos (e3.mpr d1)]
        exact key (Or.inl d1)
      · rw [if_neg (fun e => d1 (e3.mp e))]
        by_cases d2 : t2.1 = i3 2
        · rw [if_pos (show t2.1 = Int32.ofInt 2 from d2)]
          exact key (Or.inr d2)
        · rw [if_neg (show ¬ t2.1 = Int32.ofInt 2 from d2)]
          rw [if_neg (fun e => e.elim d1 d2)] at e1
          refine hex _ ?_
          rw [← e1]
          exact ⟨s2, rfl, q1.trans q2, k2, rfl⟩
    · rintro _ ⟨s1, m, t1, rfl, q1, k1, e1⟩ nx ex hex
      have e12 : i3 12 < i3 ((13 : Nat) : Int) := by decide +kernel
      dsimp only
      rw [if_pos e12]
      refine hex _ ?_
      rw [← e1]
      exact ⟨s1, rfl, q1, k1, rfl⟩
    · rintro _ ⟨s1, rfl, q1, k1, hp⟩
      have hk := ok_addW hok (not8 c1) (hst hp)
      obtain ⟨k2, q2⟩ := k1.wg hk
      dsimp only
      rw [q_96 g6 (by rw [k1.2.2.2.1]; exact hok) (by rw [k1.2.2.2.1]; exact not8 c1), Option.bind_some, k1.2.2.2.1, hp]
      refine T_some ⟨_, rfl, q1.trans q2, ?_⟩
      rw [if_pos rfl]
      exact k2
    · exact ⟨s, i3 0, t, rfl, qq.refl s, h, hP⟩
  · rw [if_neg c1, if_neg c1]
    exact PS.no h
theorem bB_rB (c : Bool) : rB (bB c) = some (bB c) := by cases c <;> rfl
theorem PS.rb {m : Option (Int32 × tH)} {r : PR} (h : PS s b n m r) : PS s b n (m.bind fun q => (rB q.1).bind fun y => some (y, q.2)) r := by
  obtain ⟨s', e, q, k⟩ := h
  rw [e, Option.bind_some]
  dsimp only
  rw [bB_rB]
  exact ⟨s', rfl, q, k⟩
theorem q_160 (h : cst6 s b n t g w) : PS s b n (m_160 24 6 (H s)) (pStm b n g t w) := by
  have hb := h.2.2.1.bd
  have W : ∀ k, k < 10 → m_168 24 (1001 + k) (H s) = some (bP (wrd b t k)) := fun k hk => q_168 h.1 h.2.1 ⟨hb.1, hb.2.1⟩ hk
  have W0 : m_168 24 1001 (H s) = some (bP (wrd b t 0)) := W 0 (by omega)
  have W1 : m_168 24 1002 (H s) = some (bP (wrd b t 1)) := W 1 (by omega)
  have W2 : m_168 24 1003 (H s) = some (bP (wrd b t 2)) := W 2 (by omega)
  have W3 : m_168 24 1004 (H s) = some (bP (wrd b t 3)) := W 3 (by omega)
  have W4 : m_168 24 1005 (H s) = some (bP (wrd b t 4)) := W 4 (by omega)
  unfold m_160 pStm
  rw [(r_T s).1, Option.bind_some, W0, Option.bind_some, bP_if]
  by_cases c0 : wrd b t 0
  · rw [if_pos c0, if_pos c0]
    exact PS.rb (q_161 h)
  rw [if_neg c0, if_neg c0, W1, Option.bind_some, bP_if]
  by_cases c1 : wrd b t 1
  · rw [if_pos c1, if_pos c1]
    exact PS.rb (q_162 h)
  rw [if_neg c1, if_neg c1, W2, Option.bind_some, bP_if]
  by_cases c2 : wrd b t 2
  · rw [if_pos c2, if_pos c2]
    exact PS.rb (q_163 h)
  rw [if_neg c2, if_neg c2, W3, Option.bind_some, bP_if]
  by_cases c3 : wrd b t 3
  · rw [if_pos c3, if_pos c3]
    exact PS.rb (q_164 h)
  rw [if_neg c3, if_neg c3, W4, Option.bind_some]
  unfold jn
  dsimp only
  rw [bP_if]
  by_cases c4 : wrd b t 4
  · rw [if_pos c4, if_pos c4]
    obtain ⟨s', e, q, k⟩ := q_165 h
    rw [e, Option.bind_some]
    dsimp only
    cases hr : (pFell b n g t w).1 with
    | true =>
      rw [if_neg (show ¬ bB true = 0 by decide +kernel)]
      refine ⟨s', ?_, q, k⟩
      rw [hr]
      rfl
    | false =>
      rw [if_pos (show bB false = 0 by decide +kernel)]
      refine ⟨s', ?_, q, k⟩
      rw [hr]
      rfl
  · rw [if_neg c4, if_neg c4]
    exact PS.no h
end CS
end
section
/-! ===== a whole garden is read (class) ===== -/
theorem pStm_tk {b : List Int32} {n : Nat} {g : Gd} {t : Tk} {w : Int32} (h : tkO b n t) : tkO b n (pStm b n g t w).2.2.1 ∧ t.2.1 ≤ (pStm b n g t w).2.2.1.2.1 ∧ ((pStm b n g t w).1 = true → t.2.2 ≤ (pStm b n g t w).2.2.1.2.1) := by
  have A : ∀ {u : Tk}, tkO b n u → tkO b n (adv b n u.2.2) ∧ u.2.1 ≤ (adv b n u.2.2).2.1 ∧ u.2.2 ≤ (adv b n u.2.2).2.1 := fun hu => by
    have h1 := hu.bd
    have h2 := adv_bd (b := b) h1.2.1
    exact ⟨hu.nx, by omega, h2.1⟩
  have hw : ∀ (f k : Nat) (m : Int32) (u : Tk), tkO b n u → tkO b n (pWl b n g f k m u).2.2 ∧ u.2.1 ≤ (pWl b n g f k m u).2.2.2.1 ∧ (0 < f → u.2.2 ≤ (pWl b n g f k m u).2.2.2.1) := by
    intro f
    induction f with
    | zero => exact fun k m u hu => ⟨hu, Nat.le_refl _, fun e => absurd e (Nat.lt_irrefl _)⟩
    | succ f ih =>
      intro k m u hu
      have a := A hu
      unfold pWl
      split
      · split
        · split
          · have i := ih (k + 1) (m ||| bit (num b (adv b n u.2.2))) _ a.1
            exact ⟨i.1, by omega, fun _ => by omega⟩
          · exact ⟨a.1, a.2.1, fun _ => a.2.2⟩
        · exact ⟨a.1, a.2.1, fun _ => a.2.2⟩
      · exact ⟨a.1, a.2.1, fun _ => a.2.2⟩
  have st : tkO b n t ∧ t.2.1 ≤ t.2.1 ∧ (false = true → t.2.2 ≤ t.2.1) := ⟨h, Nat.le_refl _, fun e => by cases e⟩
  have a1 := A h
  have a2 := A a1.1
  have a3 := A a2.1
  have a4 := A a3.1
  have n1 : tkO b n (adv b n t.2.2) ∧ t.2.1 ≤ (adv b n t.2.2).2.1 ∧ (false = true → t.2.2 ≤ (adv b n t.2.2).2.1) := ⟨a1.1, a1.2.1, fun e => by cases e⟩
  have n2 : tkO b n (adv b n (adv b n t.2.2).2.2) ∧ t.2.1 ≤ (adv b n (adv b n t.2.2).2.2).2.1 ∧ (∀ c : Bool, c = true → t.2.2 ≤ (adv b n (adv b n t.2.2).2.2).2.1) := ⟨a2.1, by omega, fun _ _ => by omega⟩
  have n3 : tkO b n (adv b n (adv b n (adv b n t.2.2).2.2).2.2) ∧ t.2.1 ≤ (adv b n (adv b n (adv b n t.2.2).2.2).2.2).2.1 ∧ (∀ c : Bool, c = true → t.2.2 ≤ (adv b n (adv b n (adv b n t.2.2).2.2).2.2).2.1) := ⟨a3.1, by omega, fun _ _ => by omega⟩
  have n4 : tkO b n (adv b n (adv b n (adv b n (adv b n t.2.2).2.2).2.2).2.2) ∧ t.2.1 ≤ (adv b n (adv b n (adv b n (adv b n t.2.2).2.2).2.2).2.2).2.1 ∧ (∀ c : Bool, c = true → t.2.2 ≤ (adv b n (adv b n (adv b n (adv b n t.2.2).2.2).2.2).2.2).2.1) := ⟨a4.1, by omega, fun _ _ => by omega⟩
  unfold pStm
  split
  · unfold pSide
    split
    · exact st
    · split
      · exact ⟨n2.1, n2.2.1, n2.2.2 true⟩
      · exact n1
  split
  · unfold pTree
    split
    · exact st
    · unfold pTree1
      split
      · unfold pTree2
        split
        · split
          · unfold pTree3
            split
            · exact ⟨n4.1, n4.2.1, n4.2.2 true⟩
            · exact ⟨n3.1, n3.2.1, n3.2.2 false⟩
          · exact ⟨n2.1, n2.2.1, n2.2.2 false⟩
        · exact ⟨n2.1, n2.2.1, n2.2.2 false⟩
      · exact n1
  split
  · unfold pWish
    split
    · have i := hw 13 0 (i3 0) t h
      split
      · exact ⟨i.1, i.2.1, fun _ => i.2.2 (by omega)⟩
      · exact ⟨i.1, i.2.1, fun e => by cases e⟩
    · exact st
  split
  · unfold pMove1
    split
    · split
      · exact n1
      · unfold pMove2
        split
        · split
          · exact ⟨n3.1, n3.2.1, n3.2.2 true⟩
          · exact ⟨n2.1, n2.2.1, n2.2.2 false⟩
        · exact ⟨n2.1, n2.2.1, n2.2.2 false⟩
    · exact n1
  split
  · unfold pFell
    split
    · exact ⟨a1.1, a1.2.1, fun _ => a1.2.2⟩
    · exact st
  exact st
/-- so many steps are enough -/
theorem pAl_fuel {b : List Int32} {n : Nat} : ∀ (f k : Nat) (g : Gd) (t : Tk) (w : Int32), tkO b n t → n - t.2.1 ≤ f → pAl b n (f + 1) k g t w = pAl b n f k g t w
  | 0, k, g, t, w, ht, hf => by
    have c : ¬ t.1 = i3 1 := fun e => by
      have := ht.bd.2.2 (by rw [e]; decide +kernel)
      have := ht.bd.2.1
      omega
    show (if t.1 = i3 1 then _ else (false, t.2.1, g, w)) = (false, t.2.1, g, w)
    rw [if_neg c]
  | f + 1, k, g, t, w, ht, hf => by
    rw [pAl]
    conv => rhs; rw [pAl]
    by_cases c : t.1 = i3 1
    · rw [if_pos c, if_pos c]
      by_cases c2 : (pStm b n g t w).1 = true
      · rw [if_pos c2, if_pos c2]
        by_cases c3 : (pStm b n g t w).2.2.1.1 = i3 0
        · rw [if_pos c3, if_pos c3]
        · rw [if_neg c3, if_neg c3]
          by_cases c4 : (pStm b n g t w).2.2.1.1 = i3 3
          · rw [if_pos c4, if_pos c4]
            obtain ⟨k1, k2, k3⟩ := pStm_tk (g := g) (w := w) ht
            have b1 := ht.bd.2.2 (by rw [c]; decide +kernel)
            have b2 := k1.bd
            have b3 := adv_bd (b := b) b2.2.1
            have b4 := k3 c2
            refine pAl_fuel f (k + 1) _ _ _ k1.nx ?_
            omega
          · rw [if_neg c4, if_neg c4]
      · rw [if_neg c2, if_neg c2]
    · rw [if_neg c, if_neg c]
theorem pAl_bd {b : List Int32} {n : Nat} : ∀ (f k : Nat) (g : Gd) (t : Tk) (w : Int32), tkO b n t → gw g w → (pAl b n f k g t w).2.1 ≤ max n (k + f) ∧ ((pAl b n f k g t w).1 = true → gw (pAl b n f k g t w).2.2.1 (pAl b n f k g t w).2.2.2)
  | 0, k, g, t, w, ht, hg => ⟨by have := ht.bd; show t.2.1 ≤ _; omega, fun e => by cases e⟩
  | f + 1, k, g, t, w, ht, hg => by
    have hb := ht.bd
    obtain ⟨k1, k2, k3⟩ := pStm_tk (g := g) (w := w) ht
    have b2 := k1.bd
    have ho := pStm_ok (b := b) (n := n) (t := t) hg
    rw [pAl]
    split
    · split
      · split
        · exact ⟨by show k ≤ _; omega, fun _ => ho⟩
        · split
          · have := pAl_bd f (k + 1) _ (adv b n (pStm b n g t w).2.2.1.2.2) _ k1.nx ho
            exact ⟨by omega, this.2⟩
          · exact ⟨by show (pStm b n g t w).2.2.1.2.1 ≤ _; omega, fun e => by cases e⟩
      · exact ⟨by show (pStm b n g t w).2.2.1.2.1 ≤ _; omega, fun e => by cases e⟩
    · exact ⟨by show t.2.1 ≤ _; omega, fun e => by cases e⟩
/-- what a tape comes to -/
noncomputable def rdG (b : List Int32) (n : Nat) (g : Gd) : Bool × Nat × Gd × Int32 := pAl b n 250 1 g (adv b n 0) (tN g)
noncomputable def vRd (P : Bool × Nat × Gd × Int32) : Int32 := if P.1 = true then i3 (P.2.1 : Int) else i3 (-20) - i3 (P.2.1 : Int)
section CGA
variable {s : St} {b : List Int32} {n : Nat}
theorem q_159 (h : tpC s b n) (hg : ok (gd s 6)) : T (m_159 24 6 (H s)) (fun r => ∃ s', r = (vRd (rdG b n (gd s 6)), H s') ∧ qq s s' ∧ ((rdG b n (gd s 6)).1 = true → gd s' 6 = (rdG b n (gd s 6)).2.2.1 ∧ gw (rdG b n (gd s 6)).2.2.1 (rdG b n (gd s 6)).2.2.2 ∧ fi s' 24 2 = (rdG b n (gd s 6)).2.2.2)) := by
  have gt : gI (H s) 2 6 5 = some (tN (gd s 6)) := rfl
  have p2 : ∀ x, pI (H s) 6 24 2 x = some (H (sf s 24 2 x)) := fun _ => rfl
  have p5 : ∀ (t : St) x, pI (H t) 6 24 5 x = some (H (sf t 24 5 x)) := fun _ _ => rfl
  unfold m_159
  rw [(r_T s).1, Option.bind_some, gt, Option.bind_some, p2, Option.bind_some, p5, Option.bind_some]
  have hT : tpC (sf (sf s 24 2 (tN (gd s 6))) 24 5 (Int32.ofInt 0)) b n := h
  obtain ⟨s1, e1, k1, et⟩ := q_169 hT (e := 0) (Nat.zero_le _) rfl
  rw [e1, Option.bind_some]
  have q0 : qq s (sf (sf s 24 2 (tN (gd s 6))) 24 5 (Int32.ofInt 0)) := ((qq.refl s).f (Or.inl (Or.inr (Or.inr (Or.inr (Or.inl ⟨rfl, by omega⟩)))))).f (Or.inl (Or.inr (Or.inr (Or.inr (Or.inl ⟨rfl, by omega⟩)))))
  have q1 : qq s s1 := q0.trans et.q
  have c1 : cst6 s1 b n (adv b n 0) (gd s 6) (tN (gd s 6)) := ⟨h.q q1, k1, ⟨0, Nat.zero_le _, rfl⟩, et.g6, hg, (et.2.2.1 24 2 (by omega)).trans rfl⟩
  have gw0 : gw (gd s 6) (tN (gd s 6)) := ⟨hg, hg.2.1.1, Int32.le_refl _⟩
  have hbd := (pAl_bd 250 1 (gd s 6) (adv b n 0) (tN (gd s 6)) ⟨0, Nat.zero_le _, rfl⟩ gw0)
  show T _ (fun r => ∃ s', r = (vRd (rdG b n (gd s 6)), H s') ∧ _)
  have c250 : (Int16.ofInt 250).toInt32 = i3 250 := by decide +kernel
  have c20 : (Int8.ofInt (-20)).toInt32 = i3 (-20) := by decide +kernel
  rw [c250, c20]
  unfold rdG
  generalize hP : pAl b n 250 1 (gd s 6) (adv b n 0) (tN (gd s 6)) = P
  have fault : ∀ (s2 : St) (t2 : Tk), qq s s2 → tkC s2 b t2 → P.1 = false → P.2.1 = t2.2.1 → T ((gI (H s2) 6 24 4).bind fun x13 => some ((i3 (-20) - x13), H s2)) (fun r => ∃ s', r = (vRd P, H s') ∧ qq s s' ∧ (P.1 = true → gd s' 6 = P.2.2.1 ∧ gw P.2.2.1 P.2.2.2 ∧ fi s' 24 2 = P.2.2.2)) := fun s2 t2 q2 k2 hp hf => by
    have g4 : gI (H s2) 6 24 4 = some (i3 (t2.2.1 : Int)) := by rw [← k2.2.1]; rfl
    rw [g4, Option.bind_some]
    refine T_some ⟨s2, ?_, q2, fun e => by rw [hp] at e; cases e⟩
    unfold vRd
    rw [hp, hf]
    rfl
  refine lpH 250 (fun k q => ∃ s2 g t w, q = (i3 ((k + 1 : Nat) : Int), H s2) ∧ qq s s2 ∧ cst6 s2 b n t g w ∧ gw g w ∧ pAl b n (250 - k) (k + 1) g t w = P) (fun x => ∃ s2 t2, x = H s2 ∧ qq s s2 ∧ tkC s2 b t2 ∧ P.1 = false ∧ P.2.1 = t2.2.1) ?_ ?_ ?_ ?_ (by omega)
  · rintro k _ hk ⟨s2, g, t, w, rfl, q2, k2, hgw, e2⟩ nx ex hnx hex
    have e250 : ¬ i3 250 < i3 ((k + 1 : Nat) : Int) := by
      show ¬ i3 ((250 : Nat) : Int) < i3 ((k + 1 : Nat) : Int)
      rw [i3n_lt (by omega) (by omega)]; omega
    obtain ⟨f, hf⟩ : ∃ f, 250 - k = f + 1 := ⟨249 - k, by omega⟩
    have hf2 : 250 - (k + 1) = f := by omega
    rw [hf, pAl] at e2
    have g3 : gI (H s2) 6 24 3 = some t.1 := by rw [← k2.2.1.1]; rfl
    dsimp only
    rw [if_neg e250, g3, Option.bind_some]
    unfold jn
    dsimp only
    by_cases d1 : t.1 = i3 1
    · rw [if_pos (show t.1 = Int32.ofInt 1 from d1)]
      rw [if_pos d1] at e2
      obtain ⟨s3, e3, q3, k3⟩ := q_160 k2
      rw [e3, Option.bind_some]
      dsimp only
      have ho := pStm_ok (b := b) (n := n) (t := t) hgw
      generalize pStm b n g t w = r at e2 k3 ho ⊢
      by_cases d2 : r.1 = true
      · rw [if_pos d2] at e2
        rw [d2, if_neg (show ¬ bB true = 0 by decide +kernel)]
        have g33 : gI (H s3) 6 24 3 = some r.2.2.1.1 := by rw [← k3.2.1.1]; rfl
        rw [g33, Option.bind_some]
        by_cases d3 : r.2.2.1.1 = i3 0
        · rw [if_pos (show r.2.2.1.1 = 0 from d3)]
          rw [if_pos d3] at e2
          rw [← e2]
          refine T_some ⟨s3, rfl, q2.trans q3, fun _ => ⟨k3.2.2.2.1, ho, k3.2.2.2.2.2⟩⟩
        · rw [if_neg (show ¬ r.2.2.1.1 = 0 from d3), Option.bind_some]
          rw [if_neg d3] at e2
          by_cases d4 : r.2.2.1.1 = i3 3
          · rw [if_pos (show r.2.2.1.1 = Int32.ofInt 3 from d4)]
            rw [if_pos d4] at e2
            obtain ⟨s4, e4, k4, q4, -⟩ := q_169' k3
            rw [e4, Option.bind_some, i3_nat_add]
            refine hnx _ ⟨s4, _, _, _, rfl, (q2.trans q3).trans q4, k4, ho, ?_⟩
            rw [hf2]
            exact e2
          · rw [if_neg (show ¬ r.2.2.1.1 = Int32.ofInt 3 from d4)]
            rw [if_neg d4] at e2
            exact fault s3 r.2.2.1 (q2.trans q3) k3.2.1 (by rw [← e2]) (by rw [← e2])
      · have d2' : r.1 = false := by simpa using d2
        rw [if_neg d2] at e2
        rw [d2', if_pos (show bB false = 0 by decide +kernel)]
        exact fault s3 r.2.2.1 (q2.trans q3) k3.2.1 (by rw [← e2]) (by rw [← e2])
    · rw [if_neg (show ¬ t.1 = Int32.ofInt 1 from d1)]
      rw [if_neg d1] at e2
      exact fault s2 t q2 k2.2.1 (by rw [← e2]) (by rw [← e2])
  · rintro _ ⟨s2, g, t, w, rfl, q2, k2, hgw, e2⟩ nx ex hex
    have e250 : i3 250 < i3 ((250 + 1 : Nat) : Int) := by decide +kernel
    dsimp only
    rw [if_pos e250]
    refine hex _ ⟨s2, t, rfl, q2, k2.2.1, ?_, ?_⟩
    · rw [← e2]; rfl
    · rw [← e2]; rfl
  · rintro _ ⟨s2, t2, rfl, q2, k2, hp, hf⟩
    exact fault s2 t2 q2 k2 hp hf
  · exact ⟨s1, gd s 6, adv b n 0, tN (gd s 6), rfl, q1, c1, gw0, hP⟩
theorem vRd_pos {P : Bool × Nat × Gd × Int32} (h : P.1 = true) (hb : P.2.1 ≤ 1000) : vRd P = i3 (P.2.1 : Int) ∧ 0 ≤ vRd P := by
  unfold vRd
  rw [if_pos h]
  exact ⟨rfl, Int32.not_lt.mp (i3n_nneg (by omega))⟩
theorem vRd_neg {P : Bool × Nat × Gd × Int32} (h : P.1 = false) (hb : P.2.1 ≤ 1000) : ¬ 0 ≤ vRd P := by
  unfold vRd
  rw [h, if_neg (by decide), i3_sub, Int32.le_iff_toInt_le, i3_toInt ⟨by omega, by omega⟩]
  have e : (0 : Int32).toInt = 0 := by decide +kernel
  omega
noncomputable def gRd (g : Gd) (P : Bool × Nat × Gd × Int32) : Gd := if P.1 = true then P.2.2.1 else g
theorem tape_CI (c : CI s) {l : List Int32} {n : Int32} (hl : l.length = 250) (h0 : ¬ n < 0) (h1 : n ≤ i3 250) : CI (sf (sa s 25 l) 24 1 n) ∧ eM s (sf (sa s 25 l) 24 1 n) ∧ abC (sf (sa s 25 l) 24 1 n) = ((abC s).1, (abC s).2.1, (l, n), (abC s).2.2.2) := by
  refine ⟨?_, ((eM.refl s).a (by omega) (by rw [hl, c.2.2.2.1.1])).f (by omega), ?_⟩
  · obtain ⟨⟨c1, z, l27⟩, c2, c3, c4, c5, c6⟩ := c
    refine ⟨⟨c1, z, l27⟩, c2, c3, ⟨hl, h0, h1⟩, c5, fun k hk => ?_⟩
    have f1 : ∀ j, fi (sf (sa s 25 l) 24 1 n) (28 + 2 * k) j = fi s (28 + 2 * k) j := fun j => by
      rw [fi_sf, if_neg (by omega)]; rfl
    unfold shO
    rw [f1, f1, f1]
    exact c6 k hk
  · unfold abC
    refine Prod.ext rfl (Prod.ext rfl (Prod.ext rfl (funext fun k => ?_)))
    show (if k < 8 then shC (sf (sa s 25 l) 24 1 n) k else none) = if k < 8 then shC s k else none
    split
    · unfold shC
      have f1 : ∀ j, fi (sf (sa s 25 l) 24 1 n) (28 + 2 * k) j = fi s (28 + 2 * k) j := fun j => by
        rw [fi_sf, if_neg (by omega)]; rfl
      rw [f1, f1]
      rfl
    · rfl
theorem b_17 (c : CI s) : CC s (m_17 0 (H s)) (vRd (rdG (ia s 25) (fi s 24 1).toNatClampNeg (gd s 1))) (gRd (gd s 1) (rdG (ia s 25) (fi s 24 1).toNatClampNeg (gd s 1)), (abC s).2.1, (ia s 25, i3 0), (abC s).2.2.2) := by
  obtain ⟨t1, t2, t3⟩ := c.2.2.2.1
  have hT : tpC s (ia s 25) (fi s 24 1).toNatClampNeg := ⟨rfl, t1, i3_cl t2, le_cl (b := 250) (by omega) t2 t3⟩
  have n250 := hT.2.2.2
  have h1 : sh (gd s 1) := c.1.1.sh
  have q0 : qq s (wG s 6 (gd s 1)) := qq_w6 s h1 c.2.1
  have e6 : gd (wG s 6 (gd s 1)) 6 = gd s 1 := gd_wG s 6 (gd s 1)
  obtain ⟨_, er, s2, rfl, q2, hs⟩ := q_159 (hT.q q0) (by rw [e6]; exact c.1.1)
  rw [e6] at hs er
  have gw0 : gw (gd s 1) (tN (gd s 1)) := ⟨c.1.1, c.1.1.2.1.1, Int32.le_refl _⟩
  have hbd' : (rdG (ia s 25) (fi s 24 1).toNatClampNeg (gd s 1)).2.1 ≤ 1000 := by
    have h2 : (rdG (ia s 25) (fi s 24 1).toNatClampNeg (gd s 1)).2.1 ≤ max (fi s 24 1).toNatClampNeg 251 := (pAl_bd (b := ia s 25) (n := (fi s 24 1).toNatClampNeg) 250 1 (gd s 1) (adv (ia s 25) (fi s 24 1).toNatClampNeg 0) (tN (gd s 1)) ⟨0, Nat.zero_le _, rfl⟩ gw0).1
    omega
  have q02 : qq s s2 := q0.trans q2
  have c2 := q02.eC.ci c
  have ab2 : abC s2 = abC s := q02.eC.ab
  have i25 : ia s2 25 = ia s 25 := q02.1 25 (by unfold qA sA; omega)
  have g12 : gd s2 1 = gd s 1 := q02.g (Or.inl rfl)
  generalize rdG (ia s 25) (fi s 24 1).toNatClampNeg (gd s 1) = P at er hs hbd' ⊢
  obtain ⟨c4, m4, a4⟩ := tape_CI c2 (l := ia s2 25) (n := i3 0) c2.2.2.2.1.1 (by decide +kernel) (by decide +kernel)
  rw [sa_id] at c4 m4 a4
  rw [ab2, i25] at a4
  unfold m_17
  have n0 : ∀ t : St, gN (H t) 7 0 0 = some 1 := fun _ => rfl
  have n1 : ∀ t : St, gN (H t) 7 0 1 = some 6 := fun _ => rfl
  have n7 : ∀ t : St, gN (H t) 7 0 7 = some 24 := fun _ => rfl
  have p1 : ∀ (t : St) x, pI (H t) 6 24 1 x = some (H (sf t 24 1 x)) := fun _ _ => rfl
  rw [(r_0 s).1, Option.bind_some, n1, Option.bind_some, n0, Option.bind_some, q_69 g6 g1 (by omega) c.2.1 h1, Option.bind_some, n7, Option.bind_some, n1, Option.bind_some, er, Option.bind_some]
  dsimp only
  rw [n7, Option.bind_some, p1, Option.bind_some]
  unfold gRd
  cases hp : P.1 with
  | true =>
    obtain ⟨g62, hgw, f2⟩ := hs hp
    have hv := vRd_pos hp hbd'
    have g64 : gd (sf s2 24 1 (Int32.ofInt 0)) 6 = P.2.2.1 := g62
    have cj := CJ_wG c4.cj hgw.1
    obtain ⟨s5, e5, c5, m5, a5, es⟩ := q_62 cj (t := P.2.2.2) hgw.2.1 (by rw [gd_wG]; exact hgw.2.2)
    have gf : gI (H (wG (sf s2 24 1 (Int32.ofInt 0)) 1 P.2.2.1)) 6 24 2 = some P.2.2.2 := by rw [← f2]; rfl
    rw [if_pos hv.2, n0, Option.bind_some, n1, Option.bind_some, q_69 g1 g6 (by omega) c4.1.1.sh c4.2.1, Option.bind_some, g64, n7, Option.bind_some, gf, Option.bind_some, e5, Option.bind_some, if_pos rfl]
    refine ⟨s5, rfl, c5, ((q02.eM.trans m4).trans (eM_wG g1 hgw.1.sh c4.1.1.sh)).trans m5, ?_⟩
    rw [a5, ab_wG, a4]
  | false =>
    have hv := vRd_neg hp hbd'
    have c22 : (Int8.ofInt (-2)).toInt32 = i3 (-2) := by decide +kernel
    obtain ⟨s5, e5, q5⟩ := q_59 (s := sf s2 24 1 (Int32.ofInt 0)) c4.1.2.2 isB2
    rw [if_neg hv, c22, e5, Option.bind_some, if_neg (by decide)]
    refine ⟨s5, rfl, q5.eC.ci c4, (q02.eM.trans m4).trans q5.eM, ?_⟩
    rw [q5.eC.ab, a4]
    rfl
end CGA
end
