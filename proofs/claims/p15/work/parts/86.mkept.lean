/-! ===== models beside: kept, tried ===== -/
noncomputable def rp (n : Nat) : List Int32 := List.replicate n 0
noncomputable def rpJ : List Int64 := List.replicate 40 0
/-- a new model at a place -/
noncomputable def nw (s : St) (q : Nat) : St := (fun p => if p = q + 1 then rp 8 else if p = q + 2 then rp 8 else if p = q + 3 then rp 8 else if p = q + 14 then rp 8 else if p = q + 15 then rp 250 else if p = q + 16 then rp 8 else if p = q + 17 then rp 12 else if p = q + 18 then rp 12 else if p = q + 19 then rp 12 else if p = q + 20 then rp 8 else if p = q + 21 then rp 3 else if p = q + 22 then rp 70 else s.1 p, fun p => if q + 5 ≤ p ∧ p ≤ q + 13 then rpJ else s.2.1 p, fun o k => if o = q then (if k = 9 then i3 5 else if k = 16 then i3 1 else 0) else s.2.2.1 o k, s.2.2.2.1, s.2.2.2.2.1, s.2.2.2.2.2 + 1)
noncomputable def sK (s : St) (o : Nat) : St := (s.1, s.2.1, s.2.2.1, some o, s.2.2.2.2.1, s.2.2.2.2.2)
noncomputable def sT (s : St) (o : Nat) : St := (s.1, s.2.1, s.2.2.1, s.2.2.2.1, some o, s.2.2.2.2.2)
set_option maxRecDepth 20000 in
theorem H_nw0 (s : St) (h : nm s = 0) : H s ++ mcell 67 = H (nw s 67) := by
  obtain ⟨a, b, c, k, t, n⟩ := s
  have h' : n = 0 := h
  subst h'
  rfl
set_option maxRecDepth 20000 in
theorem H_nw1 (s : St) (h : nm s = 1) : H s ++ mcell 90 = H (nw s 90) := by
  obtain ⟨a, b, c, k, t, n⟩ := s
  have h' : n = 1 := h
  subst h'
  rfl
theorem H_ln (s : St) (h : nm s ≤ 2) : (H s).length = 67 + 23 * nm s := by
  rw [H_len]
  obtain ⟨a, b, c, k, t, n⟩ := s
  have h' : n ≤ 2 := h
  match n, h' with
  | 0, _ => rfl
  | 1, _ => rfl
  | 2, _ => rfl
set_option maxRecDepth 20000 in
theorem okH {s : St} (c : KT s) (h : nm s ≤ 1) : t_okh (H s).length (H s) = true := by
  obtain ⟨a, b, d, k, t, n⟩ := s
  rcases c with ⟨e1, e2, e3⟩ | ⟨e1, e2, e3⟩ | ⟨e1, e2, e3⟩ | ⟨e1, e2, e3⟩ | ⟨e1, e2, e3⟩
  · have e1' : n = 0 := e1
    have e2' : k = none := e2
    have e3' : t = none := e3
    subst e1' e2' e3'
    rfl
  · have e1' : n = 1 := e1
    have e2' : k = some 67 := e2
    have e3' : t = none := e3
    subst e1' e2' e3'
    rfl
  · have e1' : n = 1 := e1
    have e2' : k = none := e2
    have e3' : t = some 67 := e3
    subst e1' e2' e3'
    rfl
  · rw [e1] at h; omega
  · rw [e1] at h; omega
theorem Wx.run {ρ : Type} {L : Nat} {emb : ρ → Option Value × tH} {d i nL : Nat} {lv : tL} {th : tH} {m : Option ρ} {x : ρ} (h : Wx L emb d i nL 0 lv [] th m) (hl : th.length = L) (hL : L ≤ 1000) (hm : m = some x) (hnd : (lv.map Prod.fst).Nodup) : (emb x).2.length = L ∧ ∃ n, t_exec t_ctf t_mif n none d i nL 0 lv [] th 0 = some ((emb x).1, (emb x).2, 0) := by
  obtain ⟨h1, n, h2⟩ := h hl hL x hm
  exact ⟨h1, n, h2 lv ⟨fun _ q => q, hnd⟩⟩
theorem gC_ex {th : tH} {c o : Nat} (h : gC th c o = some ()) : ∃ fs, th[o]? = some (.inr (c, fs)) := gC_of (f := fun _ => some ()) (x := ()) (by rw [h]; rfl)
theorem t_cutV {na rc b : Nat} {A rest fs : List Value} {th : tH} (hl : A.length = na) (hb : th[b]? = some (.inr (rc, fs))) : t_cut 20 na rc (A ++ .ref b :: rest) th = some (.ref b :: A.reverse, rest) := by
  unfold t_cut
  rw [if_neg (by simp; omega), if_neg (by decide), List.take_left' hl, List.drop_left' hl]
  dsimp only
  rw [if_neg (by decide), if_pos rfl, hb]
  dsimp only
  rw [if_pos rfl]
section KE
variable {s s2 : St}
/-- only what is beside has changed -/
theorem MI_bes (c : MI s) (a : ∀ p, p < 67 → ia s2 p = ia s p) (l : ∀ p, p < 67 → la s2 p = la s p) (f : ∀ o k, o < 67 → fi s2 o k = fi s o k) (ko : KO s2) : MI s2 ∧ eC s s2 ∧ abM s2 = ((abM s).1, kpM s2, (abM s).2.2) := by
  have m44 : md s2 44 = md s 44 := by
    unfold md
    rw [f 44 _ (by omega), f 44 _ (by omega), f 44 _ (by omega), f 44 _ (by omega), a _ (by omega), a _ (by omega), a _ (by omega), a _ (by omega)]
  obtain ⟨c1, c2, c3, c4, c5⟩ := c
  refine ⟨⟨⟨by rw [m44]; exact c1.1, ?_, by rw [a 60 (by omega)]; exact c1.2.2⟩, ?_, ?_, ko, fun k hk => ?_⟩, ⟨fun p hp _ => a p (by omega), fun p hp => l p (by omega), fun o k ho _ => f o k (by omega), fun p hp => by rw [a p hp], fun p hp => by rw [l p hp]⟩, ?_⟩
  · unfold Sz
    rw [a 17 (by omega), a 19 (by omega), a 22 (by omega), a 65 (by omega), a 66 (by omega), l 57 (by omega)]
    exact c1.2.1
  · unfold sl8
    rw [a 45 (by omega), a 46 (by omega), a 47 (by omega), a 58 (by omega)]
    exact c2
  · rw [a 59 (by omega), f 44 7 (by omega)]
    exact c3
  · unfold smO
    rw [l (49 + k) (by omega), a 45 (by omega), a 47 (by omega), a 58 (by omega), m44]
    exact c5 k hk
  · unfold abM
    rw [m44, a 59 (by omega), f 44 7 (by omega)]
    refine Prod.ext rfl (Prod.ext rfl (Prod.ext rfl (funext fun k => ?_)))
    show (if k < 8 then shM s2 k else none) = if k < 8 then shM s k else none
    by_cases hk : k < 8
    · rw [if_pos hk, if_pos hk]
      unfold shM
      rw [l (49 + k) (by omega), a 45 (by omega), a 46 (by omega), a 47 (by omega)]
    · rw [if_neg hk, if_neg hk]
theorem nw_lo {q : Nat} (hq : 67 ≤ q) : (∀ p, p < 67 → ia (nw s q) p = ia s p) ∧ (∀ p, p < 67 → la (nw s q) p = la s p) ∧ (∀ o k, o < 67 → fi (nw s q) o k = fi s o k) := by
  refine ⟨fun p hp => ?_, fun p hp => ?_, fun o k ho => ?_⟩
  · show (if p = q + 1 then rp 8 else if p = q + 2 then rp 8 else if p = q + 3 then rp 8 else if p = q + 14 then rp 8 else if p = q + 15 then rp 250 else if p = q + 16 then rp 8 else if p = q + 17 then rp 12 else if p = q + 18 then rp 12 else if p = q + 19 then rp 12 else if p = q + 20 then rp 8 else if p = q + 21 then rp 3 else if p = q + 22 then rp 70 else s.1 p) = s.1 p
    rw [if_neg (by omega), if_neg (by omega), if_neg (by omega), if_neg (by omega), if_neg (by omega), if_neg (by omega), if_neg (by omega), if_neg (by omega), if_neg (by omega), if_neg (by omega), if_neg (by omega), if_neg (by omega)]
  · show (if q + 5 ≤ p ∧ p ≤ q + 13 then rpJ else s.2.1 p) = s.2.1 p
    rw [if_neg (by omega)]
  · show (if o = q then _ else s.2.2.1 o k) = s.2.2.1 o k
    rw [if_neg (by omega)]
theorem wM_lo {q : Nat} (hq : 67 ≤ q) (g : Gd) : (∀ p, p < 67 → ia (wM s q g) p = ia s p) ∧ (∀ p, p < 67 → la (wM s q g) p = la s p) ∧ (∀ o k, o < 67 → fi (wM s q g) o k = fi s o k) := by
  refine ⟨fun p hp => ?_, fun _ _ => rfl, fun o k ho => ?_⟩
  · rw [ia_wM, if_neg (by omega), if_neg (by omega), if_neg (by omega), if_neg (by omega)]
  · rw [fi_wM, if_neg (by omega), if_neg (by omega), if_neg (by omega), if_neg (by omega)]
theorem sh_nw (s : St) {q : Nat} (hq : q = 67 ∨ q = 90) : sh (md (nw s q) q) := by
  rcases hq with rfl | rfl <;> exact ⟨rfl, rfl, rfl, rfl⟩
theorem md_nw90 (s : St) : md (nw s 90) 67 = md s 67 := rfl
/-- one call, once its run is known -/
theorem Wp.ex {d i nL : Nat} {lv : tL} {th : tH} {r : t_Res} (h : Wp none d i nL 0 lv [] th 0 (fun res => res = r)) : ∃ n, t_exec t_ctf t_mif n none d i nL 0 lv [] th 0 = some r := by
  obtain ⟨n, res, h1, h2⟩ := h
  exact ⟨n, by rw [h1, h2]⟩
set_option maxRecDepth 20000 in
theorem g44 (s : St) : ∃ fs, (H s)[44]? = some (.inr (8, fs)) := ⟨_, rfl⟩
/-- what is taken over by the model at a place -/
theorem take_run {d : Nat} {q : Nat} (hk : isK s q) (h1 : sh (md s q)) (h2 : sh (md s 44)) (hn : nm s ≤ 2) : ∃ n, t_exec t_ctf t_mif n none (d + 2) 300 2 0 [(0, .ref q), (1, .ref 44)] [] (H s) 0 = some (none, H (wM s q (md s 44)), 0) := by
  have hl := H_ln s hn
  obtain ⟨-, n, e⟩ := (S_300 (L := 67 + 23 * nm s) d q 44 (H s)).run hl (by omega) (q_300 (Or.inr hk) (Or.inl rfl) hk.ne h1 h2) (show ([0, 1] : List Nat).Nodup by decide)
  exact ⟨n, e⟩
end KE
