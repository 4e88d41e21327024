/-- what is to be run -/
def s_Runs : Prop := ∀ xs : List Int32, xs.length ≤ 3072 → ∃ (n : Nat) (th' : tH) (ns' : Nat), t_exec t_ct0 t_mi n (some xs) 11 0 4 0 [(0, .ref 1000)] [] [] 0 = some (some (.int 1), th', ns') ∧ ns' ≤ 7302250
theorem s_kd {s : State} {b : Nat} (hts : ∀ w ∈ lw_tbl, w.before #[Value.ref b] s = true) : ∃ kd : Nat → ClassId, ∀ (k : Nat) (q : ClassId × FieldType), (t_tys kd)[k]? = some q → ArrOfT s q.1 q.2 ∧ va_RA s q.1 q.2 := by
  obtain ⟨c0, k0, m0, a1, a2, a3⟩ := Cond.arrayClass_spec (hts _ (s_ws (.arrayClass .int) (by simp)))
  obtain ⟨c1, k1, m1, b1, b2, b3⟩ := Cond.arrayClass_spec (hts _ (s_ws (.arrayClass .long) (by simp)))
  obtain ⟨m2, c2, k2, d1, -, d2, d3, d4⟩ := Cond.arrayOver_spec (hts _ (s_ws (.arrayOver (.object "NineTrees$Shelf")) (by simp)))
  obtain ⟨m3, c3, k3, e1, e2, e3, e4⟩ := Cond.arrayOver_specA (hts _ (s_ws (.arrayOver (.array .long)) (by simp)))
  refine ⟨fun k => match k with | 0 => c0 | 1 => c1 | 2 => c2 | _ => c3, fun k q hq => ?_⟩
  match k, hq with
  | 0, hq => cases hq; exact ⟨fun N z => ⟨(fun k h => by cases h), k0, a2, m0, a3⟩, a1⟩
  | 1, hq => cases hq; exact ⟨fun N z => ⟨(fun k h => by cases h), k1, b2, m1, b3⟩, b1⟩
  | 2, hq => cases hq; exact ⟨fun N z => ⟨(fun k h => by cases h), k2, d2, m2, d3⟩, k2, m2, d2, d3, d1, d4⟩
  | 3, hq => cases hq; exact ⟨fun N z => ⟨(fun k h => by cases h), k3, e2, m3, e3⟩, e4⟩
  | n + 4, hq => simp [t_tys] at hq
theorem s_Ds {s : State} {b : Nat} (hts : ∀ w ∈ gt, w.before #[Value.ref b] s = true) : ∃ D : va_G, ∀ (c : Nat) (q : vw_C), vwCl[c]? = some q → u_Kn s q.1 q.2.1 q.2.2 (D.1 c) (D.2 c) := by
  have h : ∀ c : Nat, ∃ x : ClassId × (Nat → Nat), ∀ q : vw_C, vwCl[c]? = some q → u_Kn s q.1 q.2.1 q.2.2 x.1 x.2 := by
    intro c
    cases hc : vwCl[c]? with
    | none => exact ⟨(0, fun _ => 0), fun q h => by cases h⟩
    | some q =>
      obtain ⟨cC, iS, h1⟩ := u_known (C := q.1) (T := q.2.1) (N := q.2.2) (n := q.2.2) hts (t_cw c q hc) (hts _ (t_ci c q hc _ (by simp)))
      exact ⟨(cC, iS), fun q' h => by cases h; exact h1⟩
  obtain ⟨f, hf⟩ := Classical.axiomOfChoice h
  exact ⟨(fun c => (f c).1, fun c => (f c).2), fun c q hq => hf c q hq⟩
set_option maxHeartbeats 4000000 in
set_option maxRecDepth 20000 in
theorem s_start (hrun : s_Runs) {p : Program} {e : Env} {s : State} {m : MethodId} {below : List Frame} {meth : Method} {c : Code} (l : Launch) {b L : Nat} {xs : Nat → Int32} (hL : L ≤ 3072) (C0 : lw_At p s m meth c b L xs) : W p l e room_1 s m #[Value.ref b] below meth c s.heap [] 0 0 (lw_Z below #[Value.ref b] s) (entryFrame m ([Value.ref b] : List Value).toArray 4) := by
  obtain ⟨hx, hb, hr, hml, hown, hts, hX, hbl, hlocks, hgv, hname⟩ := id C0
  have htg : ∀ w ∈ gt, w.before #[Value.ref b] s = true := fun w hw => hts w (gt_tbl hw)
  have hA0 : ∀ a : Nat, a < s.heap.size → ¬ (fun q : Nat => s.heap.size ≤ q) a := fun a ha h => by have h' : s.heap.size ≤ a := h; omega
  have hs := flat_of_before _ hgv
  obtain ⟨aK, aV, ha1, ha2⟩ := s_Sa (A := fun q : Nat => s.heap.size ≤ q) hs hA0
  obtain ⟨bK, bV, hb1, hb2⟩ := s_Sb (A := fun q : Nat => s.heap.size ≤ q) hs hA0
  have hZ1 : va_Z "java/lang/String" "COMPACT_STRINGS" "Z" (.int 1) (fun q : Nat => s.heap.size ≤ q) s s.heap := va_Zof (hts _ (s_ws (.laysStatic "java/lang/String" "COMPACT_STRINGS" "Z") (by simp))) (hts _ (s_ws (.initialized "java/lang/String") (by simp))) (va_eqi (hs _ (by decide +kernel))) hA0
  have hZ2 : va_Zq "jdk/internal/util/Preconditions" "SIOOBE_FORMATTER" "Ljava/util/function/BiFunction;" (fun q : Nat => s.heap.size ≤ q) s s.heap := va_Zqof (hts _ (s_ws (.laysStatic "jdk/internal/util/Preconditions" "SIOOBE_FORMATTER" "Ljava/util/function/BiFunction;") (by simp))) (hts _ (s_ws (.initialized "jdk/internal/util/Preconditions") (by simp))) (hs _ (by decide +kernel)) hA0
  obtain ⟨z, hz⟩ : ∃ z : Nat, va_Z "jdk/internal/util/Preconditions" "SIOOBE_FORMATTER" "Ljava/util/function/BiFunction;" (match z with | 0 => Value.null | n + 1 => Value.ref n) (fun q : Nat => s.heap.size ≤ q) s s.heap := by
    rcases hZ2 with h | ⟨t, h⟩
    · exact ⟨0, h⟩
    · exact ⟨t + 1, h⟩
  obtain ⟨kd, hkd⟩ := s_kd hts
  obtain ⟨D, hDc⟩ := s_Ds htg
  have hK : va_K D vwCl (t_tys kd) s := ⟨hDc, hkd⟩
  obtain ⟨σ, hσ⟩ : ∃ σ : Nat → Nat, σ = (fun k => if k = 1000 then b else if k < 1006 then aK (k - 1001) else if k < 1011 then bK (k - 1006) else if k < 1026 then aV (k - 1021) else if k < 1031 then bV (k - 1026) else z) := ⟨_, rfl⟩
  have e0 : σ 1000 = b := by rw [hσ]; rfl
  have e1 : ∀ i, i < 5 → σ (1001 + i) = aK i := fun i hi => by
    rw [hσ]
    show (if 1001 + i = 1000 then b else if 1001 + i < 1006 then aK (1001 + i - 1001) else _) = _
    rw [if_neg (by omega), if_pos (by omega), show 1001 + i - 1001 = i by omega]
  have e2 : ∀ i, i < 5 → σ (1006 + i) = bK i := fun i hi => by
    rw [hσ]
    show (if 1006 + i = 1000 then b else if 1006 + i < 1006 then _ else if 1006 + i < 1011 then bK (1006 + i - 1006) else _) = _
    rw [if_neg (by omega), if_neg (by omega), if_pos (by omega), show 1006 + i - 1006 = i by omega]
  have e3 : ∀ i, i < 5 → σ (1021 + i) = aV i := fun i hi => by
    rw [hσ]
    show (if 1021 + i = 1000 then b else if 1021 + i < 1006 then _ else if 1021 + i < 1011 then _ else if 1021 + i < 1026 then aV (1021 + i - 1021) else _) = _
    rw [if_neg (by omega), if_neg (by omega), if_neg (by omega), if_pos (by omega), show 1021 + i - 1021 = i by omega]
  have e4 : ∀ i, i < 5 → σ (1026 + i) = bV i := fun i hi => by
    rw [hσ]
    show (if 1026 + i = 1000 then b else if 1026 + i < 1006 then _ else if 1026 + i < 1011 then _ else if 1026 + i < 1026 then _ else if 1026 + i < 1031 then bV (1026 + i - 1026) else _) = _
    rw [if_neg (by omega), if_neg (by omega), if_neg (by omega), if_neg (by omega), if_pos (by omega), show 1026 + i - 1026 = i by omega]
  have e5 : σ 1040 = z := by rw [hσ]; rfl
  clear hσ
  have hE : t_Ex σ (fun q : Nat => s.heap.size ≤ q) s s.heap := by
    refine ⟨fun i hi => ?_, hZ1, ?_, fun q hq => ?_, fun q hq => va_Nw.of rfl (hts _ (s_nst q hq)), va_AO.of (hts _ (s_ws (.arrayOver (.object "NineTrees$Shelf")) (by simp))), hts _ (s_ws (.arrayOver (.array .long)) (by simp))⟩
    · by_cases h5 : i < 5
      · rw [e1 i h5, e3 i h5]
        obtain ⟨g1, g2, g3, g4⟩ := ha1.1 i h5
        refine ⟨g1, g2, g3, ?_⟩
        have el : ([4, 4, 4, 4, 4] : List Nat).getD i 0 = 4 := by
          have : ∀ i, i < 5 → ([4, 4, 4, 4, 4] : List Nat).getD i 0 = 4 := by decide
          exact this i h5
        have eb : (t_byt.take 5).getD i [] = t_byt.getD i [] := by
          have : ∀ i, i < 5 → (t_byt.take 5).getD i [] = t_byt.getD i [] := by decide +kernel
          exact this i h5
        rw [el, eb] at g4
        exact g4
      · obtain ⟨j, rfl⟩ : ∃ j, i = 5 + j := ⟨i - 5, by omega⟩
        have h5' : j < 5 := by omega
        rw [show 1001 + (5 + j) = 1006 + j by omega, show 1021 + (5 + j) = 1026 + j by omega, e2 j h5', e4 j h5']
        obtain ⟨g1, g2, g3, g4⟩ := hb1.1 j h5'
        refine ⟨g1, g2, g3, ?_⟩
        have el : ([4, 4, 4, 4, 4] : List Nat).getD j 0 = 4 := by
          have : ∀ i, i < 5 → ([4, 4, 4, 4, 4] : List Nat).getD i 0 = 4 := by decide
          exact this j h5'
        have eb : (t_byt.take 5).getD j [] = t_byt.getD (5 + j) [] := by
          have : ∀ i, i < 5 → (t_byt.take 5).getD i [] = t_byt.getD (5 + i) [] := by decide +kernel
          exact this j h5'
        rw [el, eb] at g4
        exact g4
    · show va_Z _ _ _ (match σ 1040 with | 0 => Value.null | n + 1 => Value.ref n) _ _ _
      rw [e5]
      exact hz
    · have hw := s_str q hq
      refine vk_R.of (A := #[Value.ref b]) (hts _ hw) ?_
      simp only [t_strs, List.mem_cons, List.not_mem_nil, or_false] at hq
      rcases hq with rfl | rfl | rfl | rfl | rfl | rfl | rfl | rfl | rfl | rfl
      · rw [e1 0 (by omega)]; exact ha2 0 (by omega)
      · rw [e1 1 (by omega)]; exact ha2 1 (by omega)
      · rw [e1 2 (by omega)]; exact ha2 2 (by omega)
      · rw [e1 3 (by omega)]; exact ha2 3 (by omega)
      · rw [e1 4 (by omega)]; exact ha2 4 (by omega)
      · have h := hb2 0 (by omega); rw [← e2 0 (by omega)] at h; exact h
      · have h := hb2 1 (by omega); rw [← e2 1 (by omega)] at h; exact h
      · have h := hb2 2 (by omega); rw [← e2 2 (by omega)] at h; exact h
      · have h := hb2 3 (by omega); rw [← e2 3 (by omega)] at h; exact h
      · have h := hb2 4 (by omega); rw [← e2 4 (by omega)] at h; exact h
  have hlen : ((List.range L).map xs).length = L := by simp
  obtain ⟨n, th', ns', hex, hns⟩ := hrun ((List.range L).map xs) (by rw [hlen]; exact hL)
  obtain ⟨⟨hm1, hm2, hm3⟩, hg⟩ := t_sound t_HC0 t_HM0 _ _ _ _ _ _ _ _ _ _ _ _ _ hex
  have h1000 : th'.length ≤ 1000 := by
    rcases hm2 with h | h
    · rw [h]; exact Nat.zero_le _
    · exact h
  have hSc : t_Sc σ (fun q : Nat => s.heap.size ≤ q) (some ((List.range L).map xs)) s := by
    intro X hXs
    cases hXs
    rw [e0, hlen]
    refine ⟨?_, hbl, Nat.not_le.mpr hbl⟩
    obtain ⟨scr, x1, x2, x3, x4, x5⟩ := hX
    refine ⟨scr, x1, x2, x3, x4, fun j hj => ?_⟩
    show _ = some (Value.int (((List.range L).map xs).getD j 0))
    rw [x5 j hj, List.getD_eq_getElem?_getD, List.getElem?_map, List.getElem?_range hj]
    rfl
  have hl := lv_entry ([.ref b] : List Value) (n := 4) (Nat.le_of_ble_eq_true rfl)
  rw [lg_entry_eq]
  generalize (lg_sl ([.ref b]) ++ List.replicate (4 - (lg_sl ([.ref b])).length) Slot.unset).toArray = ls at hl ⊢
  have hlv : lv_has ls 4 (t_l σ [(0, .ref 1000)]) := by
    show lv_has ls 4 [(0, .ref (σ 1000))]
    rw [e0]
    exact hl
  have hP : va_P D vwCl (t_w σ kd []) s.heap := fun k q h => by simp [t_w] at h
  have hD : va_D (fun q : Nat => s.heap.size ≤ q) (t_w σ kd []) := ⟨fun i j p q h => by simp [t_w] at h, fun k q h => by simp [t_w] at h⟩
  refine hg (l := l) (e := e) (R := room_1) (H := s.heap) (locs := []) (ls := ls) (σ := σ) (kd := kd) (D := D) (A := fun q : Nat => s.heap.size ≤ q) 0 (⟨"NineTreesLaw", "law", "([I)Z"⟩, code, 4, some .boolean, 1, 9) rfl ⟨hx, hb, hml, hown, htg⟩ hname (by decide) (by decide) (Nat.le_refl _) (by show _ ≤ 600000; omega) hns hK (fun _ h => h) hE hSc hP hD va_S.rf hlv ?_
  intro σ' H' locs' pc' ls' cat' ins' f1 f2 f3 f4 f5 f6 f7
  have hins : ins' = .ireturn := by
    simp [t_okT] at f6
    exact f6.2
  rw [hins] at f5
  refine va_forget (fun q hq => f4.2.2 q hq) ?_
  refine W.widen (k := 600000) (n := 7302250) (by show th'.length - 0 ≤ 600000; omega) hns ?_
  exact lw_ret hx hb hr hlocks f5
