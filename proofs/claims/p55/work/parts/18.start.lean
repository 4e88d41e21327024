section
-- ===== end of PART A; then your names; then what follows =====
/-! THE CLAIM OUT OF ONE WALK OF THE LAW'S BODY. Your part is whole_start (and what it stands on); all else here is the same for every law, but numbers. -/
def R_law : String := "NineTreesLaw"
def lw_P (b : Addr) (xs : List Int32) (args : Array Value) (s : State) : Prop := args = #[.ref b] ∧ s.IntsAt b xs ∧ xs.length ≤ 3072 ∧ (Jvm.Cond.and given_1 narrow_1).before args s = true
def lw_Q (_ : Array Value) (s : State) (o : Outcome) (t : State) : Prop := o = .returned (some (.int 1)) ∧ Framed s o t [] 600000 7302250
def lw_Z (below : List Frame) (a : Array Value) (s : State) : State → Prop := fun t => ∃ o, t.status = .running ∧ Ended t below o ∧ lw_Q a s o t
/-- the law's own end, with 1 on the stack, nothing written that was there before, its room as the claim has it -/
theorem lw_ret {p : Program} {l : Launch} {e : Env} {s : State} {m : MethodId} {below : List Frame} {meth : Method} {c : Code} {b : Nat} (hx : p.tables.exec = Jvm.exec) (hb : c.code = code) (hr : meth.sig.returnType = ret) (hlocks : meth.locks = false) {pc : Nat} {H : Heap} {ls : Array Slot} (hdg : decode code pc = .ok (.ireturn, 1)) : W p l e room_1 s m #[Value.ref b] below meth c H [] 600000 7302250 (lw_Z below #[Value.ref b] s) (F0 m pc ls [.int 1]) := by
  intro T hT X
  obtain ⟨fs, hret, hrun, hended, hW, hframe⟩ := X.leave (v := some (.int 1)) (hlocks := hlocks) (fun h => by rw [hr] at h; cases h)
  have hmeth' : T.vm.method? m = some meth := X.method'
  refine ⟨T.setFrames fs, ?_, .returned (some (.int 1)), hrun, hended, rfl, ⟨_, rfl⟩, hW, hframe⟩
  jvm_step X.here [X.here.top, hx, hb, hdg, hmeth', hr, ret, narrow_b1]
  (try refine ⟨rfl, ?_⟩); (try refine ⟨rfl, ?_⟩)
  first | (intro acts; rw [hret _ acts rfl rfl rfl]) | rw [hret _ _ rfl rfl rfl]
  exact Steps.refl _
/-- what holds at the law's entry: the machine, the code, the tables' words (any of lw_tbl by 'hts w (by decide +kernel)'), the script of L ints xs at the cell b, what the Statement gives of the start (any of its parts by flat_of_before) -/
def lw_At (p : Program) (s : State) (m : MethodId) (meth : Method) (c : Code) (b L : Nat) (xs : Nat → Int32) : Prop :=
  p.tables.exec = Jvm.exec ∧ c.code = code ∧ meth.sig.returnType = ret ∧ c.maxLocals = 4 ∧ s.vm.findClass R_law = some m.cls ∧ (∀ w ∈ lw_tbl, w.before #[Value.ref b] s = true) ∧ va_X b L xs s s.heap ∧ b < s.heap.size ∧ meth.locks = false ∧ (Jvm.Cond.and given_1 narrow_1).before #[Value.ref b] s = true ∧ meth.name = "law"

theorem s_in {ws : List Jvm.Cond} {ps : List Nat} (h : (ws.zip ps).all (fun q => decide (lw_tbl[q.2]? = some q.1)) = true) (hl : ws.length = ps.length) : ∀ w ∈ ws, w ∈ lw_tbl := by
  intro w hw
  obtain ⟨i, hi⟩ := List.getElem?_of_mem hw
  have hlt := (List.getElem?_eq_some_iff.mp hi).1
  have hp : ps[i]? = some ps[i] := List.getElem?_eq_getElem (by omega)
  have hz : (ws.zip ps)[i]? = some (w, ps[i]) := by
    rw [List.getElem?_zip_eq_some]
    exact ⟨hi, hp⟩
  exact List.mem_of_getElem? (of_decide_eq_true (List.all_eq_true.mp h _ (List.mem_of_getElem? hz)))
theorem s_nst : ∀ q ∈ t_nst, Jvm.Cond.methodLinkNest q.1 q.2.1 q.2.2 "NineTrees" ∈ lw_tbl := by
  have h := s_in (ws := t_nst.map (fun q => Jvm.Cond.methodLinkNest q.1 q.2.1 q.2.2 "NineTrees")) (ps := [106, 162, 182, 194, 199, 221, 242, 274, 435, 442, 769, 770, 799, 800, 847, 848]) (by decide +kernel) (by decide +kernel)
  exact fun q hq => h _ (List.mem_map.mpr ⟨q, hq, rfl⟩)
theorem s_str : ∀ q ∈ t_strs, Jvm.Cond.stringRef q.1 q.2.1 q.2.2.1 ∈ lw_tbl := by
  have h := s_in (ws := t_strs.map (fun q => Jvm.Cond.stringRef q.1 q.2.1 q.2.2.1)) (ps := [606, 671, 679, 685, 691, 1403, 1422, 1427, 1432, 1437]) (by decide +kernel) (by decide +kernel)
  exact fun q hq => h _ (List.mem_map.mpr ⟨q, hq, rfl⟩)
theorem s_ws : ∀ w ∈ ([.laysStatic "java/lang/String" "COMPACT_STRINGS" "Z", .initialized "java/lang/String", .laysStatic "jdk/internal/util/Preconditions" "SIOOBE_FORMATTER" "Ljava/util/function/BiFunction;", .initialized "jdk/internal/util/Preconditions", .arrayOver (.object "NineTrees$Shelf"), .arrayOver (.array .long), .arrayClass .int, .arrayClass .long] : List Jvm.Cond), w ∈ lw_tbl := s_in (ps := [620, 92, 636, 94, 272, 1102, 159, 295]) (by decide +kernel) (by decide +kernel)
def s_tma : Nat → Term := fun i => match i with | 0 => Term.string "NineTrees$Tape" 40 | 1 => Term.string "NineTrees$Tape" 49 | 2 => Term.string "NineTrees$Tape" 54 | 3 => Term.string "NineTrees$Tape" 59 | _ => Term.string "NineTrees$Tape" 64
theorem s_fivea {P : Nat → Prop} (h0 : P 0) (h1 : P 1) (h2 : P 2) (h3 : P 3) (h4 : P 4) : ∀ i, i < 5 → P i := by
  intro i hi
  match i, hi with
  | 0, _ => exact h0
  | 1, _ => exact h1
  | 2, _ => exact h2
  | 3, _ => exact h3
  | 4, _ => exact h4
  | n + 5, h => omega
set_option maxRecDepth 20000 in
set_option maxHeartbeats 4000000 in
theorem s_Sa {b : Nat} {s : State} {A : Nat → Prop} (hs : ∀ w ∈ flatC (Jvm.Cond.and given_1 narrow_1), w.before #[Value.ref b] s = true) (hA : ∀ a : Nat, a < s.heap.size → ¬ A a) : ∃ adK adV : Nat → Nat, vk_S 5 [4, 4, 4, 4, 4] (t_byt.take 5) adK adV A s s.heap ∧ ∀ i : Nat, i < 5 → (s_tma i).eval #[Value.ref b] s none [] s = some (.ref (adK i)) := by
  refine vk_Sof (tm := s_tma) (s_fivea (by decide) (by decide) (by decide) (by decide) (by decide)) (s_fivea (hs _ (by decide +kernel)) (hs _ (by decide +kernel)) (hs _ (by decide +kernel)) (hs _ (by decide +kernel)) (hs _ (by decide +kernel))) (s_fivea (hs _ (by decide +kernel)) (hs _ (by decide +kernel)) (hs _ (by decide +kernel)) (hs _ (by decide +kernel)) (hs _ (by decide +kernel))) (s_fivea (hs _ (by decide +kernel)) (hs _ (by decide +kernel)) (hs _ (by decide +kernel)) (hs _ (by decide +kernel)) (hs _ (by decide +kernel))) (s_fivea (hs _ (by decide +kernel)) (hs _ (by decide +kernel)) (hs _ (by decide +kernel)) (hs _ (by decide +kernel)) (hs _ (by decide +kernel))) (s_fivea (fun j hj => by match j, hj with | 0, _ => exact hs _ (by decide +kernel) | 1, _ => exact hs _ (by decide +kernel) | 2, _ => exact hs _ (by decide +kernel) | 3, _ => exact hs _ (by decide +kernel) | n + 4, h => exact absurd h (by show ¬ n + 4 < 4; omega)) (fun j hj => by match j, hj with | 0, _ => exact hs _ (by decide +kernel) | 1, _ => exact hs _ (by decide +kernel) | 2, _ => exact hs _ (by decide +kernel) | 3, _ => exact hs _ (by decide +kernel) | n + 4, h => exact absurd h (by show ¬ n + 4 < 4; omega)) (fun j hj => by match j, hj with | 0, _ => exact hs _ (by decide +kernel) | 1, _ => exact hs _ (by decide +kernel) | 2, _ => exact hs _ (by decide +kernel) | 3, _ => exact hs _ (by decide +kernel) | n + 4, h => exact absurd h (by show ¬ n + 4 < 4; omega)) (fun j hj => by match j, hj with | 0, _ => exact hs _ (by decide +kernel) | 1, _ => exact hs _ (by decide +kernel) | 2, _ => exact hs _ (by decide +kernel) | 3, _ => exact hs _ (by decide +kernel) | n + 4, h => exact absurd h (by show ¬ n + 4 < 4; omega)) (fun j hj => by match j, hj with | 0, _ => exact hs _ (by decide +kernel) | 1, _ => exact hs _ (by decide +kernel) | 2, _ => exact hs _ (by decide +kernel) | 3, _ => exact hs _ (by decide +kernel) | n + 4, h => exact absurd h (by show ¬ n + 4 < 4; omega))) (fun i j hi hj hne => by
    match i, hi, j, hj with
    | 0, _, 0, _ => exact absurd rfl hne
    | 0, _, 1, _ => exact Or.inl (hs _ (by decide +kernel))
    | 0, _, 2, _ => exact Or.inl (hs _ (by decide +kernel))
    | 0, _, 3, _ => exact Or.inl (hs _ (by decide +kernel))
    | 0, _, 4, _ => exact Or.inl (hs _ (by decide +kernel))
    | 1, _, 0, _ => exact Or.inr (hs _ (by decide +kernel))
    | 1, _, 1, _ => exact absurd rfl hne
    | 1, _, 2, _ => exact Or.inl (hs _ (by decide +kernel))
    | 1, _, 3, _ => exact Or.inl (hs _ (by decide +kernel))
    | 1, _, 4, _ => exact Or.inl (hs _ (by decide +kernel))
    | 2, _, 0, _ => exact Or.inr (hs _ (by decide +kernel))
    | 2, _, 1, _ => exact Or.inr (hs _ (by decide +kernel))
    | 2, _, 2, _ => exact absurd rfl hne
    | 2, _, 3, _ => exact Or.inl (hs _ (by decide +kernel))
    | 2, _, 4, _ => exact Or.inl (hs _ (by decide +kernel))
    | 3, _, 0, _ => exact Or.inr (hs _ (by decide +kernel))
    | 3, _, 1, _ => exact Or.inr (hs _ (by decide +kernel))
    | 3, _, 2, _ => exact Or.inr (hs _ (by decide +kernel))
    | 3, _, 3, _ => exact absurd rfl hne
    | 3, _, 4, _ => exact Or.inl (hs _ (by decide +kernel))
    | 4, _, 0, _ => exact Or.inr (hs _ (by decide +kernel))
    | 4, _, 1, _ => exact Or.inr (hs _ (by decide +kernel))
    | 4, _, 2, _ => exact Or.inr (hs _ (by decide +kernel))
    | 4, _, 3, _ => exact Or.inr (hs _ (by decide +kernel))
    | 4, _, 4, _ => exact absurd rfl hne
    | n + 5, h, _, _ => omega
    | _, _, n + 5, h => omega) hA
def s_tmb : Nat → Term := fun i => match i with | 0 => Term.string "NineTreesModel" 199 | 1 => Term.string "NineTreesModel" 207 | 2 => Term.string "NineTreesModel" 209 | 3 => Term.string "NineTreesModel" 214 | _ => Term.string "NineTreesModel" 219
theorem s_fiveb {P : Nat → Prop} (h0 : P 0) (h1 : P 1) (h2 : P 2) (h3 : P 3) (h4 : P 4) : ∀ i, i < 5 → P i := by
  intro i hi
  match i, hi with
  | 0, _ => exact h0
  | 1, _ => exact h1
  | 2, _ => exact h2
  | 3, _ => exact h3
  | 4, _ => exact h4
  | n + 5, h => omega
set_option maxRecDepth 20000 in
set_option maxHeartbeats 4000000 in
theorem s_Sb {b : Nat} {s : State} {A : Nat → Prop} (hs : ∀ w ∈ flatC (Jvm.Cond.and given_1 narrow_1), w.before #[Value.ref b] s = true) (hA : ∀ a : Nat, a < s.heap.size → ¬ A a) : ∃ adK adV : Nat → Nat, vk_S 5 [4, 4, 4, 4, 4] (t_byt.take 5) adK adV A s s.heap ∧ ∀ i : Nat, i < 5 → (s_tmb i).eval #[Value.ref b] s none [] s = some (.ref (adK i)) := by
  refine vk_Sof (tm := s_tmb) (s_fiveb (by decide) (by decide) (by decide) (by decide) (by decide)) (s_fiveb (hs _ (by decide +kernel)) (hs _ (by decide +kernel)) (hs _ (by decide +kernel)) (hs _ (by decide +kernel)) (hs _ (by decide +kernel))) (s_fiveb (hs _ (by decide +kernel)) (hs _ (by decide +kernel)) (hs _ (by decide +kernel)) (hs _ (by decide +kernel)) (hs _ (by decide +kernel))) (s_fiveb (hs _ (by decide +kernel)) (hs _ (by decide +kernel)) (hs _ (by decide +kernel)) (hs _ (by decide +kernel)) (hs _ (by decide +kernel))) (s_fiveb (hs _ (by decide +kernel)) (hs _ (by decide +kernel)) (hs _ (by decide +kernel)) (hs _ (by decide +kernel)) (hs _ (by decide +kernel))) (s_fiveb (fun j hj => by match j, hj with | 0, _ => exact hs _ (by decide +kernel) | 1, _ => exact hs _ (by decide +kernel) | 2, _ => exact hs _ (by decide +kernel) | 3, _ => exact hs _ (by decide +kernel) | n + 4, h => exact absurd h (by show ¬ n + 4 < 4; omega)) (fun j hj => by match j, hj with | 0, _ => exact hs _ (by decide +kernel) | 1, _ => exact hs _ (by decide +kernel) | 2, _ => exact hs _ (by decide +kernel) | 3, _ => exact hs _ (by decide +kernel) | n + 4, h => exact absurd h (by show ¬ n + 4 < 4; omega)) (fun j hj => by match j, hj with | 0, _ => exact hs _ (by decide +kernel) | 1, _ => exact hs _ (by decide +kernel) | 2, _ => exact hs _ (by decide +kernel) | 3, _ => exact hs _ (by decide +kernel) | n + 4, h => exact absurd h (by show ¬ n + 4 < 4; omega)) (fun j hj => by match j, hj with | 0, _ => exact hs _ (by decide +kernel) | 1, _ => exact hs _ (by decide +kernel) | 2, _ => exact hs _ (by decide +kernel) | 3, _ => exact hs _ (by decide +kernel) | n + 4, h => exact absurd h (by show ¬ n + 4 < 4; omega)) (fun j hj => by match j, hj with | 0, _ => exact hs _ (by decide +kernel) | 1, _ => exact hs _ (by decide +kernel) | 2, _ => exact hs _ (by decide +kernel) | 3, _ => exact hs _ (by decide +kernel) | n + 4, h => exact absurd h (by show ¬ n + 4 < 4; omega))) (fun i j hi hj hne => by
    match i, hi, j, hj with
    | 0, _, 0, _ => exact absurd rfl hne
    | 0, _, 1, _ => exact Or.inl (hs _ (by decide +kernel))
    | 0, _, 2, _ => exact Or.inl (hs _ (by decide +kernel))
    | 0, _, 3, _ => exact Or.inl (hs _ (by decide +kernel))
    | 0, _, 4, _ => exact Or.inl (hs _ (by decide +kernel))
    | 1, _, 0, _ => exact Or.inr (hs _ (by decide +kernel))
    | 1, _, 1, _ => exact absurd rfl hne
    | 1, _, 2, _ => exact Or.inl (hs _ (by decide +kernel))
    | 1, _, 3, _ => exact Or.inl (hs _ (by decide +kernel))
    | 1, _, 4, _ => exact Or.inl (hs _ (by decide +kernel))
    | 2, _, 0, _ => exact Or.inr (hs _ (by decide +kernel))
    | 2, _, 1, _ => exact Or.inr (hs _ (by decide +kernel))
    | 2, _, 2, _ => exact absurd rfl hne
    | 2, _, 3, _ => exact Or.inl (hs _ (by decide +kernel))
    | 2, _, 4, _ => exact Or.inl (hs _ (by decide +kernel))
    | 3, _, 0, _ => exact Or.inr (hs _ (by decide +kernel))
    | 3, _, 1, _ => exact Or.inr (hs _ (by decide +kernel))
    | 3, _, 2, _ => exact Or.inr (hs _ (by decide +kernel))
    | 3, _, 3, _ => exact absurd rfl hne
    | 3, _, 4, _ => exact Or.inl (hs _ (by decide +kernel))
    | 4, _, 0, _ => exact Or.inr (hs _ (by decide +kernel))
    | 4, _, 1, _ => exact Or.inr (hs _ (by decide +kernel))
    | 4, _, 2, _ => exact Or.inr (hs _ (by decide +kernel))
    | 4, _, 3, _ => exact Or.inr (hs _ (by decide +kernel))
    | 4, _, 4, _ => exact absurd rfl hne
    | n + 5, h, _, _ => omega
    | _, _, n + 5, h => omega) hA
end
section
/-- what is to be run -/
def s_Runs : Prop := ∀ xs : List Int32, xs.length ≤ 3072 → ∃ (n : Nat) (th' : tH) (ns' : Nat), t_exec t_ct0 t_mi n (some xs) 11 0 4 0 [(0, .ref 1000)] [] [] 0 = some (some (.int 1), th', ns') ∧ ns' ≤ 7302250
theorem s_kd {s : State} {b : Nat} (hts : ∀ w ∈ lw_tbl, w.before #[Value.ref b] s = true) : ∃ kd : Nat → ClassId, ∀ (k : Nat) (q : ClassId × FieldType), (t_tys kd)[k]? = some q → ArrOfT s q.1 q.2 ∧ va_RA s q.1 q.2 := by
  obtain ⟨c0, k0, m0, a1, a2, a3⟩ := Cond.arrayClass_spec (hts _ (s_ws (.arrayClass .int) (by simp)))
  obtain ⟨c1, k1, m1, b1, b2, b3⟩ := Cond.arrayClass_spec (hts _ (s_ws (.arrayClass .long) (by simp)))
  obtain ⟨m2, c2, k2, d1, -, d2, d3, d4⟩ := Cond.arrayOver_spec (hts _ (s_ws (.arrayOver (.object "NineTrees$Shelf")) (by simp)))
  obtain ⟨m3, c3, k3, e1, e2, e3, e4⟩ := Cond.arrayOver_specA (hts _ (s_ws (.arrayOver (.array .long)) (by simp)))
  refine ⟨fun k => match k with | 0 => c0 | 1 => c1 | 2 => c2 | _ => c3, fun k q hq => ?_⟩
  match k, hq with
  | 0, hq => cases hq; exact ⟨fun N z => ⟨(fun k h => by cases h), k0, a2, m0, a3⟩, a1⟩
  | 1, hq => cases hq; exact ⟨fun N z => ⟨(fun k h => by cases h), k1, b2, m1, b3⟩, b1⟩
  | 2, hq => cases hq; exact ⟨fun N z => ⟨(fun k h => by cases h), k2, d2, m2, d3⟩, k2, m2, d2, d3, d1, d4⟩
  | 3, hq => cases hq; exact ⟨fun N z => ⟨(fun k h => by cases h), k3, e2, m3, e3⟩, e4⟩
  | n + 4, hq => simp [t_tys] at hq
theorem s_Ds {s : State} {b : Nat} (hts : ∀ w ∈ gt, w.before #[Value.ref b] s = true) : ∃ D : va_G, ∀ (c : Nat) (q : vw_C), vwCl[c]? = some q → u_Kn s q.1 q.2.1 q.2.2 (D.1 c) (D.2 c) := by
  have h : ∀ c : Nat, ∃ x : ClassId × (Nat → Nat), ∀ q : vw_C, vwCl[c]? = some q → u_Kn s q.1 q.2.1 q.2.2 x.1 x.2 := by
    intro c
    cases hc : vwCl[c]? with
    | none => exact ⟨(0, fun _ => 0), fun q h => by cases h⟩
    | some q =>
      obtain ⟨cC, iS, h1⟩ := u_known (C := q.1) (T := q.2.1) (N := q.2.2) (n := q.2.2) hts (t_cw c q hc) (hts _ (t_ci c q hc _ (by simp)))
      exact ⟨(cC, iS), fun q' h => by cases h; exact h1⟩
  obtain ⟨f, hf⟩ := Classical.axiomOfChoice h
  exact ⟨(fun c => (f c).1, fun c => (f c).2), fun c q hq => hf c q hq⟩
set_option maxHeartbeats 4000000 in
set_option maxRecDepth 20000 in
theorem s_start (hrun : s_Runs) {p : Program} {e : Env} {s : State} {m : MethodId} {below : List Frame} {meth : Method} {c : Code} (l : Launch) {b L : Nat} {xs : Nat → Int32} (hL : L ≤ 3072) (C0 : lw_At p s m meth c b L xs) : W p l e room_1 s m #[Value.ref b] below meth c s.heap [] 0 0 (lw_Z below #[Value.ref b] s) (entryFrame m ([Value.ref b] : List Value).toArray 4) := by
  obtain ⟨hx, hb, hr, hml, hown, hts, hX, hbl, hlocks, hgv, hname⟩ := id C0
  have htg : ∀ w ∈ gt, w.before #[Value.ref b] s = true := fun w hw => hts w (gt_tbl hw)
  have hA0 : ∀ a : Nat, a < s.heap.size → ¬ (fun q : Nat => s.heap.size ≤ q) a := fun a ha h => by have h' : s.heap.size ≤ a := h; omega
  have hs := flat_of_before _ hgv
  obtain ⟨aK, aV, ha1, ha2⟩ := s_Sa (A := fun q : Nat => s.heap.size ≤ q) hs hA0
  obtain ⟨bK, bV, hb1, hb2⟩ := s_Sb (A := fun q : Nat => s.heap.size ≤ q) hs hA0
  have hZ1 : va_Z "java/lang/String" "COMPACT_STRINGS" "Z" (.int 1) (fun q : Nat => s.heap.size ≤ q) s s.heap := va_Zof (hts _ (s_ws (.laysStatic "java/lang/String" "COMPACT_STRINGS" "Z") (by simp))) (hts _ (s_ws (.initialized "java/lang/String") (by simp))) (va_eqi (hs _ (by decide +kernel))) hA0
  have hZ2 : va_Zq "jdk/internal/util/Preconditions" "SIOOBE_FORMATTER" "Ljava/util/function/BiFunction;" (fun q : Nat => s.heap.size ≤ q) s s.heap := va_Zqof (hts _ (s_ws (.laysStatic "jdk/internal/util/Preconditions" "SIOOBE_FORMATTER" "Ljava/util/function/BiFunction;") (by simp))) (hts _ (s_ws (.initialized "jdk/internal/util/Preconditions") (by simp))) (hs _ (by decide +kernel)) hA0
  obtain ⟨z, hz⟩ : ∃ z : Nat, va_Z "jdk/internal/util/Preconditions" "SIOOBE_FORMATTER" "Ljava/util/function/BiFunction;" (match z with | 0 => Value.null | n + 1 => Value.ref n) (fun q : Nat => s.heap.size ≤ q) s s.heap := by
    rcases hZ2 with h | ⟨t, h⟩
    · exact ⟨0, h⟩
    · exact ⟨t + 1, h⟩
  obtain ⟨kd, hkd⟩ := s_kd hts
  obtain ⟨D, hDc⟩ := s_Ds htg
  have hK : va_K D vwCl (t_tys kd) s := ⟨hDc, hkd⟩
  obtain ⟨σ, hσ⟩ : ∃ σ : Nat → Nat, σ = (fun k => if k = 1000 then b else if k < 1006 then aK (k - 1001) else if k < 1011 then bK (k - 1006) else if k < 1026 then aV (k - 1021) else if k < 1031 then bV (k - 1026) else z) := ⟨_, rfl⟩
  have e0 : σ 1000 = b := by rw [hσ]; rfl
  have e1 : ∀ i, i < 5 → σ (1001 + i) = aK i := fun i hi => by
    rw [hσ]
    show (if 1001 + i = 1000 then b else if 1001 + i < 1006 then aK (1001 + i - 1001) else _) = _
    rw [if_neg (by omega), if_pos (by omega), show 1001 + i - 1001 = i by omega]
  have e2 : ∀ i, i < 5 → σ (1006 + i) = bK i := fun i hi => by
    rw [hσ]
    show (if 1006 + i = 1000 then b else if 1006 + i < 1006 then _ else if 1006 + i < 1011 then bK (1006 + i - 1006) else _) = _
    rw [if_neg (by omega), if_neg (by omega), if_pos (by omega), show 1006 + i - 1006 = i by omega]
  have e3 : ∀ i, i < 5 → σ (1021 + i) = aV i := fun i hi => by
    rw [hσ]
    show (if 1021 + i = 1000 then b else if 1021 + i < 1006 then _ else if 1021 + i < 1011 then _ else if 1021 + i < 1026 then aV (1021 + i - 1021) else _) = _
    rw [if_neg (by omega), if_neg (by omega), if_neg (by omega), if_pos (by omega), show 1021 + i - 1021 = i by omega]
  have e4 : ∀ i, i < 5 → σ (1026 + i) = bV i := fun i hi => by
    rw [hσ]
    show (if 1026 + i = 1000 then b else if 1026 + i < 1006 then _ else if 1026 + i < 1011 then _ else if 1026 + i < 1026 then _ else if 1026 + i < 1031 then bV (1026 + i - 1026) else _) = _
    rw [if_neg (by omega), if_neg (by omega), if_neg (by omega), if_neg (by omega), if_pos (by omega), show 1026 + i - 1026 = i by omega]
  have e5 : σ 1040 = z := by rw [hσ]; rfl
  clear hσ
  have hE : t_Ex σ (fun q : Nat => s.heap.size ≤ q) s s.heap := by
    refine ⟨fun i hi => ?_, hZ1, ?_, fun q hq => ?_, fun q hq => va_Nw.of rfl (hts _ (s_nst q hq)), va_AO.of (hts _ (s_ws (.arrayOver (.object "NineTrees$Shelf")) (by simp))), hts _ (s_ws (.arrayOver (.array .long)) (by simp))⟩
    · by_cases h5 : i < 5
      · rw [e1 i h5, e3 i h5]
        obtain ⟨g1, g2, g3, g4⟩ := ha1.1 i h5
        refine ⟨g1, g2, g3, ?_⟩
        have el : ([4, 4, 4, 4, 4] : List Nat).getD i 0 = 4 := by
          have : ∀ i, i < 5 → ([4, 4, 4, 4, 4] : List Nat).getD i 0 = 4 := by decide
          exact this i h5
        have eb : (t_byt.take 5).getD i [] = t_byt.getD i [] := by
          have : ∀ i, i < 5 → (t_byt.take 5).getD i [] = t_byt.getD i [] := by decide +kernel
          exact this i h5
        rw [el, eb] at g4
        exact g4
      · obtain ⟨j, rfl⟩ : ∃ j, i = 5 + j := ⟨i - 5, by omega⟩
        have h5' : j < 5 := by omega
        rw [show 1001 + (5 + j) = 1006 + j by omega, show 1021 + (5 + j) = 1026 + j by omega, e2 j h5', e4 j h5']
        obtain ⟨g1, g2, g3, g4⟩ := hb1.1 j h5'
        refine ⟨g1, g2, g3, ?_⟩
        have el : ([4, 4, 4, 4, 4] : List Nat).getD j 0 = 4 := by
          have : ∀ i, i < 5 → ([4, 4, 4, 4, 4] : List Nat).getD i 0 = 4 := by decide
          exact this j h5'
        have eb : (t_byt.take 5).getD j [] = t_byt.getD (5 + j) [] := by
          have : ∀ i, i < 5 → (t_byt.take 5).getD i [] = t_byt.getD (5 + i) [] := by decide +kernel
          exact this j h5'
        rw [el, eb] at g4
        exact g4
    · show va_Z _ _ _ (match σ 1040 with | 0 => Value.null | n + 1 => Value.ref n) _ _ _
      rw [e5]
      exact hz
    · have hw := s_str q hq
      refine vk_R.of (A := #[Value.ref b]) (hts _ hw) ?_
      simp only [t_strs, List.mem_cons, List.not_mem_nil, or_false] at hq
      rcases hq with rfl | rfl | rfl | rfl | rfl | rfl | rfl | rfl | rfl | rfl
      · rw [e1 0 (by omega)]; exact ha2 0 (by omega)
      · rw [e1 1 (by omega)]; exact ha2 1 (by omega)
      · rw [e1 2 (by omega)]; exact ha2 2 (by omega)
      · rw [e1 3 (by omega)]; exact ha2 3 (by omega)
      · rw [e1 4 (by omega)]; exact ha2 4 (by omega)
      · have h := hb2 0 (by omega); rw [← e2 0 (by omega)] at h; exact h
      · have h := hb2 1 (by omega); rw [← e2 1 (by omega)] at h; exact h
      · have h := hb2 2 (by omega); rw [← e2 2 (by omega)] at h; exact h
      · have h := hb2 3 (by omega); rw [← e2 3 (by omega)] at h; exact h
      · have h := hb2 4 (by omega); rw [← e2 4 (by omega)] at h; exact h
  have hlen : ((List.range L).map xs).length = L := by simp
  obtain ⟨n, th', ns', hex, hns⟩ := hrun ((List.range L).map xs) (by rw [hlen]; exact hL)
  obtain ⟨⟨hm1, hm2, hm3⟩, hg⟩ := t_sound t_HC0 t_HM0 _ _ _ _ _ _ _ _ _ _ _ _ _ hex
  have h1000 : th'.length ≤ 1000 := by
    rcases hm2 with h | h
    · rw [h]; exact Nat.zero_le _
    · exact h
  have hSc : t_Sc σ (fun q : Nat => s.heap.size ≤ q) (some ((List.range L).map xs)) s := by
    intro X hXs
    cases hXs
    rw [e0, hlen]
    refine ⟨?_, hbl, Nat.not_le.mpr hbl⟩
    obtain ⟨scr, x1, x2, x3, x4, x5⟩ := hX
    refine ⟨scr, x1, x2, x3, x4, fun j hj => ?_⟩
    show _ = some (Value.int (((List.range L).map xs).getD j 0))
    rw [x5 j hj, List.getD_eq_getElem?_getD, List.getElem?_map, List.getElem?_range hj]
    rfl
  have hl := lv_entry ([.ref b] : List Value) (n := 4) (Nat.le_of_ble_eq_true rfl)
  rw [lg_entry_eq]
  generalize (lg_sl ([.ref b]) ++ List.replicate (4 - (lg_sl ([.ref b])).length) Slot.unset).toArray = ls at hl ⊢
  have hlv : lv_has ls 4 (t_l σ [(0, .ref 1000)]) := by
    show lv_has ls 4 [(0, .ref (σ 1000))]
    rw [e0]
    exact hl
  have hP : va_P D vwCl (t_w σ kd []) s.heap := fun k q h => by simp [t_w] at h
  have hD : va_D (fun q : Nat => s.heap.size ≤ q) (t_w σ kd []) := ⟨fun i j p q h => by simp [t_w] at h, fun k q h => by simp [t_w] at h⟩
  refine hg (l := l) (e := e) (R := room_1) (H := s.heap) (locs := []) (ls := ls) (σ := σ) (kd := kd) (D := D) (A := fun q : Nat => s.heap.size ≤ q) 0 (⟨"NineTreesLaw", "law", "([I)Z"⟩, code, 4, some .boolean, 1, 9) rfl ⟨hx, hb, hml, hown, htg⟩ hname (by decide) (by decide) (Nat.le_refl _) (by show _ ≤ 600000; omega) hns hK (fun _ h => h) hE hSc hP hD va_S.rf hlv ?_
  intro σ' H' locs' pc' ls' cat' ins' f1 f2 f3 f4 f5 f6 f7
  have hins : ins' = .ireturn := by
    simp [t_okT] at f6
    exact f6.2
  rw [hins] at f5
  refine va_forget (fun q hq => f4.2.2 q hq) ?_
  refine W.widen (k := 600000) (n := 7302250) (by show th'.length - 0 ≤ 600000; omega) hns ?_
  exact lw_ret hx hb hr hlocks f5
end
section
/-! ===== the same tables, found by halving ===== -/
noncomputable def t_ctf (i : Nat) : Nat → Option tI := bif Nat.blt i 304 then (bif Nat.blt i 152 then (bif Nat.blt i 76 then (bif Nat.blt i 38 then (bif Nat.blt i 19 then (bif Nat.blt i 9 then (bif Nat.blt i 4 then (bif Nat.blt i 2 then (bif Nat.blt i 1 then (k_0) else (k_1)) else (bif Nat.blt i 3 then (k_2) else (k_3))) else (bif Nat.blt i 6 then (bif Nat.blt i 5 then (k_4) else (k_5)) else (bif Nat.blt i 7 then (k_6) else (bif Nat.blt i 8 then (k_7) else (k_8))))) else (bif Nat.blt i 14 then (bif Nat.blt i 11 then (bif Nat.blt i 10 then (k_9) else (k_10)) else (bif Nat.blt i 12 then (k_11) else (bif Nat.blt i 13 then (k_12) else (k_13)))) else (bif Nat.blt i 16 then (bif Nat.blt i 15 then (k_14) else (k_15)) else (bif Nat.blt i 17 then (k_16) else (bif Nat.blt i 18 then (k_17) else (k_18)))))) else (bif Nat.blt i 28 then (bif Nat.blt i 23 then (bif Nat.blt i 21 then (bif Nat.blt i 20 then (k_19) else (k_20)) else (bif Nat.blt i 22 then (k_21) else (k_22))) else (bif Nat.blt i 25 then (bif Nat.blt i 24 then (k_23) else (k_24)) else (bif Nat.blt i 26 then (k_25) else (bif Nat.blt i 27 then (k_26) else (k_27))))) else (bif Nat.blt i 33 then (bif Nat.blt i 30 then (bif Nat.blt i 29 then (k_28) else (k_29)) else (bif Nat.blt i 31 then (k_30) else (bif Nat.blt i 32 then (k_31) else (k_32)))) else (bif Nat.blt i 35 then (bif Nat.blt i 34 then (k_33) else (k_34)) else (bif Nat.blt i 36 then (k_35) else (bif Nat.blt i 37 then (k_36) else (k_37))))))) else (bif Nat.blt i 57 then (bif Nat.blt i 47 then (bif Nat.blt i 42 then (bif Nat.blt i 40 then (bif Nat.blt i 39 then (k_38) else (k_39)) else (bif Nat.blt i 41 then (k_40) else (k_41))) else (bif Nat.blt i 44 then (bif Nat.blt i 43 then (k_42) else (k_43)) else (bif Nat.blt i 45 then (k_44) else (bif Nat.blt i 46 then (k_45) else (k_46))))) else (bif Nat.blt i 52 then (bif Nat.blt i 49 then (bif Nat.blt i 48 then (k_47) else (k_48)) else (bif Nat.blt i 50 then (k_49) else (bif Nat.blt i 51 then (k_50) else (k_51)))) else (bif Nat.blt i 54 then (bif Nat.blt i 53 then (k_52) else (k_53)) else (bif Nat.blt i 55 then (k_54) else (bif Nat.blt i 56 then (k_55) else (k_56)))))) else (bif Nat.blt i 66 then (bif Nat.blt i 61 then (bif Nat.blt i 59 then (bif Nat.blt i 58 then (k_57) else (k_58)) else (bif Nat.blt i 60 then (k_59) else (k_60))) else (bif Nat.blt i 63 then (bif Nat.blt i 62 then (k_61) else (k_62)) else (bif Nat.blt i 64 then (k_63) else (bif Nat.blt i 65 then (k_64) else (k_65))))) else (bif Nat.blt i 71 then (bif Nat.blt i 68 then (bif Nat.blt i 67 then (k_66) else (k_67)) else (bif Nat.blt i 69 then (k_68) else (bif Nat.blt i 70 then (k_69) else (k_70)))) else (bif Nat.blt i 73 then (bif Nat.blt i 72 then (k_71) else (k_72)) else (bif Nat.blt i 74 then (k_73) else (bif Nat.blt i 75 then (k_74) else (k_75)))))))) else (bif Nat.blt i 114 then (bif Nat.blt i 95 then (bif Nat.blt i 85 then (bif Nat.blt i 80 then (bif Nat.blt i 78 then (bif Nat.blt i 77 then (k_76) else (k_77)) else (bif Nat.blt i 79 then (k_78) else (k_79))) else (bif Nat.blt i 82 then (bif Nat.blt i 81 then (k_80) else (k_81)) else (bif Nat.blt i 83 then (k_82) else (bif Nat.blt i 84 then (k_83) else (k_84))))) else (bif Nat.blt i 90 then (bif Nat.blt i 87 then (bif Nat.blt i 86 then (k_85) else (k_86)) else (bif Nat.blt i 88 then (k_87) else (bif Nat.blt i 89 then (k_88) else (k_89)))) else (bif Nat.blt i 92 then (bif Nat.blt i 91 then (k_90) else (k_91)) else (bif Nat.blt i 93 then (k_92) else (bif Nat.blt i 94 then (k_93) else (k_94)))))) else (bif Nat.blt i 104 then (bif Nat.blt i 99 then (bif Nat.blt i 97 then (bif Nat.blt i 96 then (k_95) else (k_96)) else (bif Nat.blt i 98 then (k_97) else (k_98))) else (bif Nat.blt i 101 then (bif Nat.blt i 100 then (k_99) else (k_100)) else (bif Nat.blt i 102 then (k_101) else (bif Nat.blt i 103 then (k_102) else (k_103))))) else (bif Nat.blt i 109 then (bif Nat.blt i 106 then (bif Nat.blt i 105 then (k_104) else (k_105)) else (bif Nat.blt i 107 then (k_106) else (bif Nat.blt i 108 then (k_107) else (k_108)))) else (bif Nat.blt i 111 then (bif Nat.blt i 110 then (k_109) else (k_110)) else (bif Nat.blt i 112 then (k_111) else (bif Nat.blt i 113 then (k_112) else (k_113))))))) else (bif Nat.blt i 133 then (bif Nat.blt i 123 then (bif Nat.blt i 118 then (bif Nat.blt i 116 then (bif Nat.blt i 115 then (k_114) else (k_115)) else (bif Nat.blt i 117 then (k_116) else (k_117))) else (bif Nat.blt i 120 then (bif Nat.blt i 119 then (k_118) else (k_119)) else (bif Nat.blt i 121 then (k_120) else (bif Nat.blt i 122 then (k_121) else (k_122))))) else (bif Nat.blt i 128 then (bif Nat.blt i 125 then (bif Nat.blt i 124 then (k_123) else (k_124)) else (bif Nat.blt i 126 then (k_125) else (bif Nat.blt i 127 then (k_126) else (k_127)))) else (bif Nat.blt i 130 then (bif Nat.blt i 129 then (k_128) else (k_129)) else (bif Nat.blt i 131 then (k_130) else (bif Nat.blt i 132 then (k_131) else (k_132)))))) else (bif Nat.blt i 142 then (bif Nat.blt i 137 then (bif Nat.blt i 135 then (bif Nat.blt i 134 then (k_133) else (k_134)) else (bif Nat.blt i 136 then (k_135) else (k_136))) else (bif Nat.blt i 139 then (bif Nat.blt i 138 then (k_137) else (k_138)) else (bif Nat.blt i 140 then (k_139) else (bif Nat.blt i 141 then (k_140) else (k_141))))) else (bif Nat.blt i 147 then (bif Nat.blt i 144 then (bif Nat.blt i 143 then (k_142) else (k_143)) else (bif Nat.blt i 145 then (k_144) else (bif Nat.blt i 146 then (k_145) else (k_146)))) else (bif Nat.blt i 149 then (bif Nat.blt i 148 then (k_147) else (k_148)) else (bif Nat.blt i 150 then (k_149) else (bif Nat.blt i 151 then (k_150) else (k_151))))))))) else (bif Nat.blt i 228 then (bif Nat.blt i 190 then (bif Nat.blt i 171 then (bif Nat.blt i 161 then (bif Nat.blt i 156 then (bif Nat.blt i 154 then (bif Nat.blt i 153 then (k_152) else (k_153)) else (bif Nat.blt i 155 then (k_154) else (k_155))) else (bif Nat.blt i 158 then (bif Nat.blt i 157 then (k_156) else (k_157)) else (bif Nat.blt i 159 then (k_158) else (bif Nat.blt i 160 then (k_159) else (k_160))))) else (bif Nat.blt i 166 then (bif Nat.blt i 163 then (bif Nat.blt i 162 then (k_161) else (k_162)) else (bif Nat.blt i 164 then (k_163) else (bif Nat.blt i 165 then (k_164) else (k_165)))) else (bif Nat.blt i 168 then (bif Nat.blt i 167 then (k_166) else (k_167)) else (bif Nat.blt i 169 then (k_168) else (bif Nat.blt i 170 then (k_169) else (k_170)))))) else (bif Nat.blt i 180 then (bif Nat.blt i 175 then (bif Nat.blt i 173 then (bif Nat.blt i 172 then (k_171) else (k_172)) else (bif Nat.blt i 174 then (k_173) else (k_174))) else (bif Nat.blt i 177 then (bif Nat.blt i 176 then (k_175) else (k_176)) else (bif Nat.blt i 178 then (k_177) else (bif Nat.blt i 179 then (k_178) else (k_179))))) else (bif Nat.blt i 185 then (bif Nat.blt i 182 then (bif Nat.blt i 181 then (k_180) else (k_181)) else (bif Nat.blt i 183 then (k_182) else (bif Nat.blt i 184 then (k_183) else (k_184)))) else (bif Nat.blt i 187 then (bif Nat.blt i 186 then (k_185) else (k_186)) else (bif Nat.blt i 188 then (k_187) else (bif Nat.blt i 189 then (k_188) else (k_189))))))) else (bif Nat.blt i 209 then (bif Nat.blt i 199 then (bif Nat.blt i 194 then (bif Nat.blt i 192 then (bif Nat.blt i 191 then (k_190) else (k_191)) else (bif Nat.blt i 193 then (k_192) else (k_193))) else (bif Nat.blt i 196 then (bif Nat.blt i 195 then (k_194) else (k_195)) else (bif Nat.blt i 197 then (k_196) else (bif Nat.blt i 198 then (k_197) else (k_198))))) else (bif Nat.blt i 204 then (bif Nat.blt i 201 then (bif Nat.blt i 200 then (k_199) else (k_200)) else (bif Nat.blt i 202 then (k_201) else (bif Nat.blt i 203 then (k_202) else (k_203)))) else (bif Nat.blt i 206 then (bif Nat.blt i 205 then (k_204) else (k_205)) else (bif Nat.blt i 207 then (k_206) else (bif Nat.blt i 208 then (k_207) else (k_208)))))) else (bif Nat.blt i 218 then (bif Nat.blt i 213 then (bif Nat.blt i 211 then (bif Nat.blt i 210 then (k_209) else (k_210)) else (bif Nat.blt i 212 then (k_211) else (k_212))) else (bif Nat.blt i 215 then (bif Nat.blt i 214 then (k_213) else (k_214)) else (bif Nat.blt i 216 then (k_215) else (bif Nat.blt i 217 then (k_216) else (k_217))))) else (bif Nat.blt i 223 then (bif Nat.blt i 220 then (bif Nat.blt i 219 then (k_218) else (k_219)) else (bif Nat.blt i 221 then (k_220) else (bif Nat.blt i 222 then (k_221) else (k_222)))) else (bif Nat.blt i 225 then (bif Nat.blt i 224 then (k_223) else (k_224)) else (bif Nat.blt i 226 then (k_225) else (bif Nat.blt i 227 then (k_226) else (k_227)))))))) else (bif Nat.blt i 266 then (bif Nat.blt i 247 then (bif Nat.blt i 237 then (bif Nat.blt i 232 then (bif Nat.blt i 230 then (bif Nat.blt i 229 then (k_228) else (k_229)) else (bif Nat.blt i 231 then (k_230) else (k_231))) else (bif Nat.blt i 234 then (bif Nat.blt i 233 then (k_232) else (k_233)) else (bif Nat.blt i 235 then (k_234) else (bif Nat.blt i 236 then (k_235) else (k_236))))) else (bif Nat.blt i 242 then (bif Nat.blt i 239 then (bif Nat.blt i 238 then (k_237) else (k_238)) else (bif Nat.blt i 240 then (k_239) else (bif Nat.blt i 241 then (k_240) else (k_241)))) else (bif Nat.blt i 244 then (bif Nat.blt i 243 then (k_242) else (k_243)) else (bif Nat.blt i 245 then (k_244) else (bif Nat.blt i 246 then (k_245) else (k_246)))))) else (bif Nat.blt i 256 then (bif Nat.blt i 251 then (bif Nat.blt i 249 then (bif Nat.blt i 248 then (k_247) else (k_248)) else (bif Nat.blt i 250 then (k_249) else (k_250))) else (bif Nat.blt i 253 then (bif Nat.blt i 252 then (k_251) else (k_252)) else (bif Nat.blt i 254 then (k_253) else (bif Nat.blt i 255 then (k_254) else (k_255))))) else (bif Nat.blt i 261 then (bif Nat.blt i 258 then (bif Nat.blt i 257 then (k_256) else (k_257)) else (bif Nat.blt i 259 then (k_258) else (bif Nat.blt i 260 then (k_259) else (k_260)))) else (bif Nat.blt i 263 then (bif Nat.blt i 262 then (k_261) else (k_262)) else (bif Nat.blt i 264 then (k_263) else (bif Nat.blt i 265 then (k_264) else (k_265))))))) else (bif Nat.blt i 285 then (bif Nat.blt i 275 then (bif Nat.blt i 270 then (bif Nat.blt i 268 then (bif Nat.blt i 267 then (k_266) else (k_267)) else (bif Nat.blt i 269 then (k_268) else (k_269))) else (bif Nat.blt i 272 then (bif Nat.blt i 271 then (k_270) else (k_271)) else (bif Nat.blt i 273 then (k_272) else (bif Nat.blt i 274 then (k_273) else (k_274))))) else (bif Nat.blt i 280 then (bif Nat.blt i 277 then (bif Nat.blt i 276 then (k_275) else (k_276)) else (bif Nat.blt i 278 then (k_277) else (bif Nat.blt i 279 then (k_278) else (k_279)))) else (bif Nat.blt i 282 then (bif Nat.blt i 281 then (k_280) else (k_281)) else (bif Nat.blt i 283 then (k_282) else (bif Nat.blt i 284 then (k_283) else (k_284)))))) else (bif Nat.blt i 294 then (bif Nat.blt i 289 then (bif Nat.blt i 287 then (bif Nat.blt i 286 then (k_285) else (k_286)) else (bif Nat.blt i 288 then (k_287) else (k_288))) else (bif Nat.blt i 291 then (bif Nat.blt i 290 then (k_289) else (k_290)) else (bif Nat.blt i 292 then (k_291) else (bif Nat.blt i 293 then (k_292) else (k_293))))) else (bif Nat.blt i 299 then (bif Nat.blt i 296 then (bif Nat.blt i 295 then (k_294) else (k_295)) else (bif Nat.blt i 297 then (k_296) else (bif Nat.blt i 298 then (k_297) else (k_298)))) else (bif Nat.blt i 301 then (bif Nat.blt i 300 then (k_299) else (k_300)) else (bif Nat.blt i 302 then (k_301) else (bif Nat.blt i 303 then (k_302) else (k_303)))))))))) else (fun _ => none)
def t_mif (i : Nat) : Option (Nat × Nat × Nat) := bif Nat.blt i 304 then (bif Nat.blt i 152 then (bif Nat.blt i 76 then (bif Nat.blt i 38 then (bif Nat.blt i 19 then (bif Nat.blt i 9 then (bif Nat.blt i 4 then (bif Nat.blt i 2 then (bif Nat.blt i 1 then (none) else (some (2, 0, 7))) else (bif Nat.blt i 3 then (some (5, 3, 7)) else (some (6, 3, 7)))) else (bif Nat.blt i 6 then (bif Nat.blt i 5 then (some (8, 5, 7)) else (some (4, 2, 7))) else (bif Nat.blt i 7 then (some (3, 1, 7)) else (bif Nat.blt i 8 then (some (4, 2, 7)) else (some (4, 2, 7)))))) else (bif Nat.blt i 14 then (bif Nat.blt i 11 then (bif Nat.blt i 10 then (some (3, 1, 7)) else (some (4, 3, 7))) else (bif Nat.blt i 12 then (some (2, 1, 7)) else (bif Nat.blt i 13 then (some (2, 0, 7)) else (some (5, 2, 7))))) else (bif Nat.blt i 16 then (bif Nat.blt i 15 then (some (1, 0, 7)) else (some (2, 1, 7))) else (bif Nat.blt i 17 then (some (2, 0, 7)) else (bif Nat.blt i 18 then (some (2, 0, 7)) else (some (3, 2, 7))))))) else (bif Nat.blt i 28 then (bif Nat.blt i 23 then (bif Nat.blt i 21 then (bif Nat.blt i 20 then (some (2, 1, 7)) else (some (2, 1, 7))) else (bif Nat.blt i 22 then (some (1, 0, 7)) else (some (4, 2, 7)))) else (bif Nat.blt i 25 then (bif Nat.blt i 24 then (some (2, 0, 7)) else (some (1, 0, 7))) else (bif Nat.blt i 26 then (some (3, 2, 7)) else (bif Nat.blt i 27 then (some (2, 1, 7)) else (some (4, 2, 7)))))) else (bif Nat.blt i 33 then (bif Nat.blt i 30 then (bif Nat.blt i 29 then (some (9, 2, 7)) else (some (5, 2, 7))) else (bif Nat.blt i 31 then (some (2, 1, 7)) else (bif Nat.blt i 32 then (some (2, 1, 7)) else (some (3, 0, 7))))) else (bif Nat.blt i 35 then (bif Nat.blt i 34 then (some (2, 1, 7)) else (some (4, 2, 7))) else (bif Nat.blt i 36 then (some (4, 0, 7)) else (bif Nat.blt i 37 then (some (2, 1, 7)) else (some (2, 1, 7)))))))) else (bif Nat.blt i 57 then (bif Nat.blt i 47 then (bif Nat.blt i 42 then (bif Nat.blt i 40 then (bif Nat.blt i 39 then (some (4, 0, 7)) else (some (3, 2, 7))) else (bif Nat.blt i 41 then (some (2, 1, 7)) else (some (2, 1, 7)))) else (bif Nat.blt i 44 then (bif Nat.blt i 43 then (some (2, 1, 7)) else (some (2, 1, 7))) else (bif Nat.blt i 45 then (some (1, 0, 7)) else (bif Nat.blt i 46 then (some (1, 0, 7)) else (some (1, 0, 7)))))) else (bif Nat.blt i 52 then (bif Nat.blt i 49 then (bif Nat.blt i 48 then (some (1, 0, 7)) else (some (1, 0, 7))) else (bif Nat.blt i 50 then (some (3, 0, 7)) else (bif Nat.blt i 51 then (some (2, 1, 7)) else (some (2, 0, 7))))) else (bif Nat.blt i 54 then (bif Nat.blt i 53 then (some (2, 0, 7)) else (some (2, 0, 7))) else (bif Nat.blt i 55 then (some (3, 1, 7)) else (bif Nat.blt i 56 then (some (3, 1, 7)) else (some (1, 0, 7))))))) else (bif Nat.blt i 66 then (bif Nat.blt i 61 then (bif Nat.blt i 59 then (bif Nat.blt i 58 then (some (1, 0, 7)) else (some (2, 1, 7))) else (bif Nat.blt i 60 then (some (3, 1, 7)) else (some (2, 1, 7)))) else (bif Nat.blt i 63 then (bif Nat.blt i 62 then (some (4, 0, 7)) else (some (4, 1, 7))) else (bif Nat.blt i 64 then (some (1, 0, 7)) else (bif Nat.blt i 65 then (some (1, 1, 7)) else (some (1, 1, 7)))))) else (bif Nat.blt i 71 then (bif Nat.blt i 68 then (bif Nat.blt i 67 then (some (1, 1, 7)) else (some (3, 2, 7))) else (bif Nat.blt i 69 then (some (1, 0, 2)) else (bif Nat.blt i 70 then (some (2, 1, 2)) else (some (1, 0, 2))))) else (bif Nat.blt i 73 then (bif Nat.blt i 72 then (some (2, 1, 2)) else (some (2, 1, 2))) else (bif Nat.blt i 74 then (some (2, 1, 2)) else (bif Nat.blt i 75 then (some (4, 2, 2)) else (some (2, 1, 2))))))))) else (bif Nat.blt i 114 then (bif Nat.blt i 95 then (bif Nat.blt i 85 then (bif Nat.blt i 80 then (bif Nat.blt i 78 then (bif Nat.blt i 77 then (some (2, 1, 2)) else (some (3, 2, 2))) else (bif Nat.blt i 79 then (some (5, 2, 2)) else (some (6, 3, 2)))) else (bif Nat.blt i 82 then (bif Nat.blt i 81 then (some (6, 3, 2)) else (some (2, 1, 2))) else (bif Nat.blt i 83 then (some (1, 0, 2)) else (bif Nat.blt i 84 then (some (3, 1, 2)) else (some (2, 1, 2)))))) else (bif Nat.blt i 90 then (bif Nat.blt i 87 then (bif Nat.blt i 86 then (some (4, 2, 2)) else (some (4, 1, 2))) else (bif Nat.blt i 88 then (some (2, 1, 2)) else (bif Nat.blt i 89 then (some (1, 0, 2)) else (some (4, 3, 2))))) else (bif Nat.blt i 92 then (bif Nat.blt i 91 then (some (1, 0, 2)) else (some (1, 0, 2))) else (bif Nat.blt i 93 then (some (5, 2, 2)) else (bif Nat.blt i 94 then (some (2, 1, 2)) else (some (4, 1, 2))))))) else (bif Nat.blt i 104 then (bif Nat.blt i 99 then (bif Nat.blt i 97 then (bif Nat.blt i 96 then (some (2, 1, 2)) else (some (2, 1, 2))) else (bif Nat.blt i 98 then (some (4, 1, 2)) else (some (3, 0, 2)))) else (bif Nat.blt i 101 then (bif Nat.blt i 100 then (some (2, 1, 2)) else (some (4, 1, 2))) else (bif Nat.blt i 102 then (some (3, 0, 2)) else (bif Nat.blt i 103 then (some (1, 0, 4)) else (some (5, 1, 4)))))) else (bif Nat.blt i 109 then (bif Nat.blt i 106 then (bif Nat.blt i 105 then (some (3, 1, 4)) else (some (4, 1, 4))) else (bif Nat.blt i 107 then (some (1, 0, 4)) else (bif Nat.blt i 108 then (some (5, 2, 4)) else (some (2, 1, 4))))) else (bif Nat.blt i 111 then (bif Nat.blt i 110 then (some (3, 0, 4)) else (some (5, 2, 4))) else (bif Nat.blt i 112 then (some (3, 0, 4)) else (bif Nat.blt i 113 then (some (1, 0, 0)) else (some (2, 0, 0)))))))) else (bif Nat.blt i 133 then (bif Nat.blt i 123 then (bif Nat.blt i 118 then (bif Nat.blt i 116 then (bif Nat.blt i 115 then (some (5, 3, 0)) else (some (11, 2, 0))) else (bif Nat.blt i 117 then (some (1, 0, 3)) else (some (4, 2, 3)))) else (bif Nat.blt i 120 then (bif Nat.blt i 119 then (some (3, 1, 3)) else (some (5, 4, 3))) else (bif Nat.blt i 121 then (some (7, 3, 3)) else (bif Nat.blt i 122 then (some (5, 2, 3)) else (some (1, 0, 3)))))) else (bif Nat.blt i 128 then (bif Nat.blt i 125 then (bif Nat.blt i 124 then (some (4, 2, 3)) else (some (2, 1, 3))) else (bif Nat.blt i 126 then (some (1, 0, 1)) else (bif Nat.blt i 127 then (some (5, 2, 1)) else (some (8, 3, 1))))) else (bif Nat.blt i 130 then (bif Nat.blt i 129 then (some (5, 2, 9)) else (some (6, 1, 9))) else (bif Nat.blt i 131 then (some (3, 1, 9)) else (bif Nat.blt i 132 then (some (4, 2, 9)) else (some (4, 2, 9))))))) else (bif Nat.blt i 142 then (bif Nat.blt i 137 then (bif Nat.blt i 135 then (bif Nat.blt i 134 then (some (5, 3, 9)) else (some (3, 1, 9))) else (bif Nat.blt i 136 then (some (6, 3, 9)) else (some (6, 1, 9)))) else (bif Nat.blt i 139 then (bif Nat.blt i 138 then (some (4, 1, 9)) else (some (5, 3, 9))) else (bif Nat.blt i 140 then (some (4, 3, 9)) else (bif Nat.blt i 141 then (some (5, 2, 9)) else (some (6, 4, 9)))))) else (bif Nat.blt i 147 then (bif Nat.blt i 144 then (bif Nat.blt i 143 then (some (10, 5, 9)) else (some (5, 3, 9))) else (bif Nat.blt i 145 then (some (4, 4, 9)) else (bif Nat.blt i 146 then (some (3, 3, 9)) else (some (4, 2, 9))))) else (bif Nat.blt i 149 then (bif Nat.blt i 148 then (some (3, 2, 9)) else (some (4, 2, 9))) else (bif Nat.blt i 150 then (some (1, 0, 5)) else (bif Nat.blt i 151 then (some (1, 0, 5)) else (some (1, 0, 5)))))))))) else (bif Nat.blt i 228 then (bif Nat.blt i 190 then (bif Nat.blt i 171 then (bif Nat.blt i 161 then (bif Nat.blt i 156 then (bif Nat.blt i 154 then (bif Nat.blt i 153 then (some (1, 0, 5)) else (some (2, 1, 5))) else (bif Nat.blt i 155 then (some (3, 2, 5)) else (some (4, 2, 5)))) else (bif Nat.blt i 158 then (bif Nat.blt i 157 then (some (2, 1, 5)) else (some (3, 1, 5))) else (bif Nat.blt i 159 then (some (1, 0, 6)) else (bif Nat.blt i 160 then (some (3, 1, 6)) else (some (2, 1, 6)))))) else (bif Nat.blt i 166 then (bif Nat.blt i 163 then (bif Nat.blt i 162 then (some (2, 1, 6)) else (some (4, 1, 6))) else (bif Nat.blt i 164 then (some (4, 1, 6)) else (bif Nat.blt i 165 then (some (3, 1, 6)) else (some (2, 1, 6))))) else (bif Nat.blt i 168 then (bif Nat.blt i 167 then (some (3, 2, 6)) else (some (3, 2, 6))) else (bif Nat.blt i 169 then (some (3, 1, 6)) else (bif Nat.blt i 170 then (some (1, 0, 6)) else (some (3, 1, 6))))))) else (bif Nat.blt i 180 then (bif Nat.blt i 175 then (bif Nat.blt i 173 then (bif Nat.blt i 172 then (some (3, 0, 6)) else (some (2, 1, 9))) else (bif Nat.blt i 174 then (some (1, 1, 9)) else (none))) else (bif Nat.blt i 177 then (bif Nat.blt i 176 then (none) else (none)) else (bif Nat.blt i 178 then (some (1, 0, 9)) else (bif Nat.blt i 179 then (some (2, 1, 9)) else (some (1, 0, 9)))))) else (bif Nat.blt i 185 then (bif Nat.blt i 182 then (bif Nat.blt i 181 then (some (1, 0, 9)) else (some (2, 2, 9))) else (bif Nat.blt i 183 then (some (2, 2, 9)) else (bif Nat.blt i 184 then (some (3, 3, 9)) else (some (2, 2, 9))))) else (bif Nat.blt i 187 then (bif Nat.blt i 186 then (some (1, 1, 9)) else (some (2, 2, 9))) else (bif Nat.blt i 188 then (some (2, 2, 9)) else (bif Nat.blt i 189 then (some (1, 0, 8)) else (some (2, 1, 8)))))))) else (bif Nat.blt i 209 then (bif Nat.blt i 199 then (bif Nat.blt i 194 then (bif Nat.blt i 192 then (bif Nat.blt i 191 then (some (6, 3, 8)) else (some (2, 1, 8))) else (bif Nat.blt i 193 then (some (1, 0, 8)) else (some (2, 1, 8)))) else (bif Nat.blt i 196 then (bif Nat.blt i 195 then (some (3, 1, 8)) else (some (2, 2, 8))) else (bif Nat.blt i 197 then (some (3, 1, 8)) else (bif Nat.blt i 198 then (some (2, 1, 8)) else (some (2, 1, 8)))))) else (bif Nat.blt i 204 then (bif Nat.blt i 201 then (bif Nat.blt i 200 then (some (5, 3, 8)) else (some (3, 2, 8))) else (bif Nat.blt i 202 then (some (2, 1, 8)) else (bif Nat.blt i 203 then (some (6, 3, 8)) else (some (7, 5, 8))))) else (bif Nat.blt i 206 then (bif Nat.blt i 205 then (some (3, 2, 8)) else (some (2, 1, 8))) else (bif Nat.blt i 207 then (some (3, 2, 8)) else (bif Nat.blt i 208 then (some (2, 0, 8)) else (some (2, 2, 8))))))) else (bif Nat.blt i 218 then (bif Nat.blt i 213 then (bif Nat.blt i 211 then (bif Nat.blt i 210 then (some (7, 2, 8)) else (some (4, 1, 8))) else (bif Nat.blt i 212 then (some (3, 1, 8)) else (some (4, 3, 8)))) else (bif Nat.blt i 215 then (bif Nat.blt i 214 then (some (4, 3, 8)) else (some (2, 1, 8))) else (bif Nat.blt i 216 then (some (2, 0, 8)) else (bif Nat.blt i 217 then (some (3, 2, 8)) else (some (5, 2, 8)))))) else (bif Nat.blt i 223 then (bif Nat.blt i 220 then (bif Nat.blt i 219 then (some (1, 0, 8)) else (some (1, 0, 8))) else (bif Nat.blt i 221 then (some (2, 1, 8)) else (bif Nat.blt i 222 then (some (2, 0, 8)) else (some (1, 1, 8))))) else (bif Nat.blt i 225 then (bif Nat.blt i 224 then (some (1, 1, 8)) else (some (1, 0, 8))) else (bif Nat.blt i 226 then (some (1, 0, 8)) else (bif Nat.blt i 227 then (some (3, 1, 8)) else (some (4, 3, 8))))))))) else (bif Nat.blt i 266 then (bif Nat.blt i 247 then (bif Nat.blt i 237 then (bif Nat.blt i 232 then (bif Nat.blt i 230 then (bif Nat.blt i 229 then (some (3, 2, 8)) else (some (2, 1, 8))) else (bif Nat.blt i 231 then (some (3, 0, 8)) else (some (1, 0, 8)))) else (bif Nat.blt i 234 then (bif Nat.blt i 233 then (some (2, 0, 8)) else (some (1, 0, 8))) else (bif Nat.blt i 235 then (some (3, 0, 8)) else (bif Nat.blt i 236 then (some (6, 3, 8)) else (some (4, 3, 8)))))) else (bif Nat.blt i 242 then (bif Nat.blt i 239 then (bif Nat.blt i 238 then (some (5, 2, 8)) else (some (5, 2, 8))) else (bif Nat.blt i 240 then (some (6, 2, 8)) else (bif Nat.blt i 241 then (some (4, 0, 8)) else (some (3, 1, 8))))) else (bif Nat.blt i 244 then (bif Nat.blt i 243 then (some (5, 2, 8)) else (some (3, 0, 8))) else (bif Nat.blt i 245 then (some (3, 2, 8)) else (bif Nat.blt i 246 then (some (2, 1, 8)) else (some (4, 1, 8))))))) else (bif Nat.blt i 256 then (bif Nat.blt i 251 then (bif Nat.blt i 249 then (bif Nat.blt i 248 then (some (1, 0, 8)) else (some (5, 2, 8))) else (bif Nat.blt i 250 then (some (3, 0, 8)) else (some (3, 0, 8)))) else (bif Nat.blt i 253 then (bif Nat.blt i 252 then (some (3, 2, 8)) else (some (3, 1, 8))) else (bif Nat.blt i 254 then (some (2, 1, 8)) else (bif Nat.blt i 255 then (some (8, 2, 8)) else (some (3, 2, 8)))))) else (bif Nat.blt i 261 then (bif Nat.blt i 258 then (bif Nat.blt i 257 then (some (17, 1, 8)) else (some (4, 1, 8))) else (bif Nat.blt i 259 then (some (2, 1, 8)) else (bif Nat.blt i 260 then (some (2, 1, 8)) else (some (3, 0, 8))))) else (bif Nat.blt i 263 then (bif Nat.blt i 262 then (some (3, 0, 8)) else (some (6, 1, 8))) else (bif Nat.blt i 264 then (some (3, 2, 8)) else (bif Nat.blt i 265 then (some (2, 1, 8)) else (some (2, 1, 8)))))))) else (bif Nat.blt i 285 then (bif Nat.blt i 275 then (bif Nat.blt i 270 then (bif Nat.blt i 268 then (bif Nat.blt i 267 then (some (6, 2, 8)) else (some (2, 0, 8))) else (bif Nat.blt i 269 then (some (4, 1, 8)) else (some (4, 0, 8)))) else (bif Nat.blt i 272 then (bif Nat.blt i 271 then (some (2, 1, 8)) else (some (6, 1, 8))) else (bif Nat.blt i 273 then (some (6, 2, 8)) else (bif Nat.blt i 274 then (some (4, 1, 8)) else (some (2, 1, 8)))))) else (bif Nat.blt i 280 then (bif Nat.blt i 277 then (bif Nat.blt i 276 then (some (4, 0, 8)) else (some (3, 2, 8))) else (bif Nat.blt i 278 then (some (5, 2, 8)) else (bif Nat.blt i 279 then (some (7, 1, 8)) else (some (2, 1, 8))))) else (bif Nat.blt i 282 then (bif Nat.blt i 281 then (some (2, 1, 8)) else (some (2, 1, 8))) else (bif Nat.blt i 283 then (some (2, 1, 8)) else (bif Nat.blt i 284 then (some (7, 0, 8)) else (some (6, 0, 8))))))) else (bif Nat.blt i 294 then (bif Nat.blt i 289 then (bif Nat.blt i 287 then (bif Nat.blt i 286 then (some (4, 0, 8)) else (some (6, 0, 8))) else (bif Nat.blt i 288 then (some (3, 2, 8)) else (some (7, 0, 8)))) else (bif Nat.blt i 291 then (bif Nat.blt i 290 then (some (9, 4, 8)) else (some (8, 1, 8))) else (bif Nat.blt i 292 then (some (3, 0, 8)) else (bif Nat.blt i 293 then (some (3, 0, 8)) else (some (2, 0, 8)))))) else (bif Nat.blt i 299 then (bif Nat.blt i 296 then (bif Nat.blt i 295 then (some (2, 0, 8)) else (some (2, 1, 8))) else (bif Nat.blt i 297 then (some (5, 1, 8)) else (bif Nat.blt i 298 then (some (3, 1, 8)) else (some (1, 0, 8))))) else (bif Nat.blt i 301 then (bif Nat.blt i 300 then (some (3, 2, 8)) else (some (2, 1, 8))) else (bif Nat.blt i 302 then (some (1, 0, 8)) else (bif Nat.blt i 303 then (some (1, 0, 8)) else (some (4, 1, 8))))))))))) else none
theorem f_ge {n i : Nat} (h : n ≤ i) : Nat.blt i n = false := by
  cases hb : Nat.blt i n with
  | false => rfl
  | true => exact absurd (Nat.le_of_ble_eq_true hb) (by omega)
def f_all : Nat → List (Nat → Option tI) → Prop
  | _, [] => True
  | i, f :: t => t_ctf i = f ∧ f_all (i + 1) t
theorem f_all_of : ∀ {L : List (Nat → Option tI)} {i : Nat}, f_all i L → ∀ (j : Nat) (f : Nat → Option tI), L[j]? = some f → t_ctf (i + j) = f
  | [], _, _, j, f, h => by simp at h
  | g :: t, i, ha, 0, f, h => by cases h; exact ha.1
  | g :: t, i, ha, j + 1, f, h => by
    have := f_all_of ha.2 j f h
    rw [show i + (j + 1) = i + 1 + j by omega]
    exact this
theorem f_all_app : ∀ {A B : List (Nat → Option tI)} {i : Nat}, f_all i A → f_all (i + A.length) B → f_all i (A ++ B)
  | [], B, i, _, h => h
  | f :: A, B, i, ha, h => ⟨ha.1, f_all_app ha.2 (by rw [List.length_cons, show i + (A.length + 1) = i + 1 + A.length by omega] at h; exact h)⟩
theorem f_all_0 : f_all 0 t_cts_0 := ⟨rfl, rfl, rfl, rfl, rfl, rfl, rfl, rfl, rfl, rfl, trivial⟩
theorem f_all_1 : f_all 10 t_cts_1 := ⟨rfl, rfl, rfl, rfl, rfl, rfl, rfl, rfl, rfl, rfl, trivial⟩
theorem f_all_2 : f_all 20 t_cts_2 := ⟨rfl, rfl, rfl, rfl, rfl, rfl, rfl, rfl, rfl, rfl, trivial⟩
theorem f_all_3 : f_all 30 t_cts_3 := ⟨rfl, rfl, rfl, rfl, rfl, rfl, rfl, rfl, rfl, rfl, trivial⟩
theorem f_all_4 : f_all 40 t_cts_4 := ⟨rfl, rfl, rfl, rfl, rfl, rfl, rfl, rfl, rfl, rfl, trivial⟩
theorem f_all_5 : f_all 50 t_cts_5 := ⟨rfl, rfl, rfl, rfl, rfl, rfl, rfl, rfl, rfl, rfl, trivial⟩
theorem f_all_6 : f_all 60 t_cts_6 := ⟨rfl, rfl, rfl, rfl, rfl, rfl, rfl, rfl, rfl, rfl, trivial⟩
theorem f_all_7 : f_all 70 t_cts_7 := ⟨rfl, rfl, rfl, rfl, rfl, rfl, rfl, rfl, rfl, rfl, trivial⟩
theorem f_all_8 : f_all 80 t_cts_8 := ⟨rfl, rfl, rfl, rfl, rfl, rfl, rfl, rfl, rfl, rfl, trivial⟩
theorem f_all_9 : f_all 90 t_cts_9 := ⟨rfl, rfl, rfl, rfl, rfl, rfl, rfl, rfl, rfl, rfl, trivial⟩
theorem f_all_10 : f_all 100 t_cts_10 := ⟨rfl, rfl, rfl, rfl, rfl, rfl, rfl, rfl, rfl, rfl, trivial⟩
theorem f_all_11 : f_all 110 t_cts_11 := ⟨rfl, rfl, rfl, rfl, rfl, rfl, rfl, rfl, rfl, rfl, trivial⟩
theorem f_all_12 : f_all 120 t_cts_12 := ⟨rfl, rfl, rfl, rfl, rfl, rfl, rfl, rfl, rfl, rfl, trivial⟩
theorem f_all_13 : f_all 130 t_cts_13 := ⟨rfl, rfl, rfl, rfl, rfl, rfl, rfl, rfl, rfl, rfl, trivial⟩
theorem f_all_14 : f_all 140 t_cts_14 := ⟨rfl, rfl, rfl, rfl, rfl, rfl, rfl, rfl, rfl, rfl, trivial⟩
theorem f_all_15 : f_all 150 t_cts_15 := ⟨rfl, rfl, rfl, rfl, rfl, rfl, rfl, rfl, rfl, rfl, trivial⟩
theorem f_all_16 : f_all 160 t_cts_16 := ⟨rfl, rfl, rfl, rfl, rfl, rfl, rfl, rfl, rfl, rfl, trivial⟩
theorem f_all_17 : f_all 170 t_cts_17 := ⟨rfl, rfl, rfl, rfl, rfl, rfl, rfl, rfl, rfl, rfl, trivial⟩
theorem f_all_18 : f_all 180 t_cts_18 := ⟨rfl, rfl, rfl, rfl, rfl, rfl, rfl, rfl, rfl, rfl, trivial⟩
theorem f_all_19 : f_all 190 t_cts_19 := ⟨rfl, rfl, rfl, rfl, rfl, rfl, rfl, rfl, rfl, rfl, trivial⟩
theorem f_all_20 : f_all 200 t_cts_20 := ⟨rfl, rfl, rfl, rfl, rfl, rfl, rfl, rfl, rfl, rfl, trivial⟩
theorem f_all_21 : f_all 210 t_cts_21 := ⟨rfl, rfl, rfl, rfl, rfl, rfl, rfl, rfl, rfl, rfl, trivial⟩
theorem f_all_22 : f_all 220 t_cts_22 := ⟨rfl, rfl, rfl, rfl, rfl, rfl, rfl, rfl, rfl, rfl, trivial⟩
theorem f_all_23 : f_all 230 t_cts_23 := ⟨rfl, rfl, rfl, rfl, rfl, rfl, rfl, rfl, rfl, rfl, trivial⟩
theorem f_all_24 : f_all 240 t_cts_24 := ⟨rfl, rfl, rfl, rfl, rfl, rfl, rfl, rfl, rfl, rfl, trivial⟩
theorem f_all_25 : f_all 250 t_cts_25 := ⟨rfl, rfl, rfl, rfl, rfl, rfl, rfl, rfl, rfl, rfl, trivial⟩
theorem f_all_26 : f_all 260 t_cts_26 := ⟨rfl, rfl, rfl, rfl, rfl, rfl, rfl, rfl, rfl, rfl, trivial⟩
theorem f_all_27 : f_all 270 t_cts_27 := ⟨rfl, rfl, rfl, rfl, rfl, rfl, rfl, rfl, rfl, rfl, trivial⟩
theorem f_all_28 : f_all 280 t_cts_28 := ⟨rfl, rfl, rfl, rfl, rfl, rfl, rfl, rfl, rfl, rfl, trivial⟩
theorem f_all_29 : f_all 290 t_cts_29 := ⟨rfl, rfl, rfl, rfl, rfl, rfl, rfl, rfl, rfl, rfl, trivial⟩
theorem f_all_30 : f_all 300 t_cts_30 := ⟨rfl, rfl, rfl, rfl, trivial⟩
theorem f_all_ok : f_all 0 t_cts := f_all_app f_all_0 (f_all_app f_all_1 (f_all_app f_all_2 (f_all_app f_all_3 (f_all_app f_all_4 (f_all_app f_all_5 (f_all_app f_all_6 (f_all_app f_all_7 (f_all_app f_all_8 (f_all_app f_all_9 (f_all_app f_all_10 (f_all_app f_all_11 (f_all_app f_all_12 (f_all_app f_all_13 (f_all_app f_all_14 (f_all_app f_all_15 (f_all_app f_all_16 (f_all_app f_all_17 (f_all_app f_all_18 (f_all_app f_all_19 (f_all_app f_all_20 (f_all_app f_all_21 (f_all_app f_all_22 (f_all_app f_all_23 (f_all_app f_all_24 (f_all_app f_all_25 (f_all_app f_all_26 (f_all_app f_all_27 (f_all_app f_all_28 (f_all_app f_all_29 (f_all_30))))))))))))))))))))))))))))))
theorem f_len : t_cts.length = 304 := by decide +kernel
theorem f_ct : t_ctf = t_ct0 := by
  funext i pc
  unfold t_ct0
  cases hf : t_cts[i]? with
  | none =>
    have hl : 304 ≤ i := by
      rw [← f_len]
      exact List.getElem?_eq_none_iff.mp hf
    unfold t_ctf
    rw [f_ge hl]
    rfl
  | some f =>
    have := f_all_of f_all_ok i f hf
    rw [Nat.zero_add] at this
    rw [this]
def f_mis : List Nat → Bool
  | [] => true
  | j :: t => decide (t_mif j = t_mi j) && f_mis t
theorem f_mis_of : ∀ {L : List Nat}, f_mis L = true → ∀ j ∈ L, t_mif j = t_mi j
  | [], _, j, h => by cases h
  | a :: t, h, j, hj => by
    simp only [f_mis, Bool.and_eq_true, decide_eq_true_eq] at h
    rcases List.mem_cons.mp hj with rfl | hj
    · exact h.1
    · exact f_mis_of h.2 j hj
theorem f_mlen : t_mil.length = 304 := by decide +kernel
theorem f_mi : t_mif = t_mi := by
  funext j
  by_cases h : j < 304
  · exact f_mis_of (L := List.range 304) (by decide +kernel) j (List.mem_range.mpr h)
  · unfold t_mif t_mi
    rw [f_ge (by omega), List.getElem?_eq_none (by rw [f_mlen]; omega)]
    rfl
end
section
/-! ===== runs of the small machine, put together ===== -/
section WM
variable {ct : Nat → Nat → Option tI} {mi : Nat → Option (Nat × Nat × Nat)}
theorem t_step_mono {f g : t_Ty} (hfg : ∀ xo d i nL pc lv st th ns res, f xo d i nL pc lv st th ns = some res → g xo d i nL pc lv st th ns = some res) {xo : Option (List Int32)} {d i nL pc : Nat} {lv : tL} {st : List Value} {th : tH} {ns : Nat} {res : t_Res} (h : t_step ct mi f xo d i nL pc lv st th ns = some res) : t_step ct mi g xo d i nL pc lv st th ns = some res := by
  unfold t_step at h ⊢
  cases hct : ct i pc with
  | none => rw [hct] at h; cases h
  | some en =>
    obtain ⟨cat, ins, a1, a2⟩ := en
    rw [hct] at h
    dsimp only at h ⊢
    by_cases c1 : cat < 3
    · rw [if_pos c1] at h ⊢
      split at h
      · rename_i pc' lv' st' hp
        try rw [hp]
        exact hfg _ _ _ _ _ _ _ _ _ _ h
      · cases h
    rw [if_neg c1] at h ⊢
    by_cases c2 : cat < 8
    · rw [if_pos c2] at h ⊢
      split at h
      · rename_i pc' st' hp
        try rw [hp]
        exact hfg _ _ _ _ _ _ _ _ _ _ h
      · cases h
    rw [if_neg c2] at h ⊢
    by_cases c3 : cat < 15
    · rw [if_pos c3] at h ⊢
      cases d with
      | zero => cases h
      | succ d =>
        dsimp only at h ⊢
        split at h
        · rename_i pc' st' th2 hp
          try rw [hp]
          exact hfg _ _ _ _ _ _ _ _ _ _ h
        · cases h
    rw [if_neg c3] at h ⊢
    by_cases c4 : cat < 20
    · rw [if_pos c4] at h ⊢
      split at h
      · rename_i pc' st' add n1 hp
        try rw [hp]
        try dsimp only
        split at h
        · rename_i hck
          rw [if_pos hck]
          exact hfg _ _ _ _ _ _ _ _ _ _ h
        · cases h
      · cases h
    rw [if_neg c4] at h ⊢
    by_cases c5 : cat < 30
    · rw [if_pos c5] at h ⊢
      cases d with
      | zero => cases h
      | succ d =>
        dsimp only at h ⊢
        by_cases c26 : cat = 26
        · rw [if_pos c26] at h ⊢
          split at h
          · rename_i b r0
            try dsimp only
            split at h
            · rename_i h8
              rw [if_pos h8]
              exact hfg _ _ _ _ _ _ _ _ _ _ h
            · cases h
          · cases h
        rw [if_neg c26] at h ⊢
        by_cases c28 : cat = 28
        · rw [if_pos c28] at h ⊢
          split at h
          · rename_i st' hm
            try rw [hm]
            exact hfg _ _ _ _ _ _ _ _ _ _ h
          · cases h
        rw [if_neg c28] at h ⊢
        split at h
        · cases h
        rename_i nL' na rc hmi
        try rw [hmi]
        try dsimp only
        split at h
        · cases h
        rename_i vs rest hcut
        try rw [hcut]
        try dsimp only
        split at h
        · rename_i hcond
          rw [if_pos hcond]
          split at h
          · cases h
          rename_i r1 th1 n1 hcall
          rw [hfg _ _ _ _ _ _ _ _ _ _ hcall]
          try dsimp only
          split at h
          · rename_i hfr
            rw [if_pos hfr]
            exact hfg _ _ _ _ _ _ _ _ _ _ h
          · cases h
        · cases h
    rw [if_neg c5] at h ⊢
    exact h
theorem t_mono1 : ∀ (n : Nat) xo d i nL pc lv st th ns res, t_exec ct mi n xo d i nL pc lv st th ns = some res → t_exec ct mi (n + 1) xo d i nL pc lv st th ns = some res
  | 0, _, _, _, _, _, _, _, _, _, _, h => by cases h
  | n + 1, _, _, _, _, _, _, _, _, _, _, h => t_step_mono (t_mono1 n) h
theorem t_mono {n : Nat} (k : Nat) {xo : Option (List Int32)} {d i nL pc : Nat} {lv : tL} {st : List Value} {th : tH} {ns : Nat} {res : t_Res} (h : t_exec ct mi n xo d i nL pc lv st th ns = some res) : t_exec ct mi (n + k) xo d i nL pc lv st th ns = some res := by
  induction k with
  | zero => exact h
  | succ k ih => exact t_mono1 _ _ _ _ _ _ _ _ _ _ _ ih
/-- what writes and makes keep, a run keeps -/
theorem t_inv {P : tH → Prop} (hW : ∀ cat ins pc a1 a2 st th pc' st' th', t_W cat ins pc a1 a2 st th = some (pc', st', th') → P th → P th') (hA : ∀ th add : tH, P th → P (th ++ add)) : ∀ (n : Nat) (xo : Option (List Int32)) (d i nL pc : Nat) (lv : tL) (st : List Value) (th : tH) (ns : Nat) (r : Option Value) (th' : tH) (ns' : Nat), t_exec ct mi n xo d i nL pc lv st th ns = some (r, th', ns') → P th → P th' := by
  intro n
  induction n with
  | zero => intro xo d i nL pc lv st th ns r th' ns' h; cases h
  | succ n ih =>
    intro xo d i nL pc lv st th ns r th' ns' h hp0
    rw [t_exec_s] at h
    unfold t_step at h
    split at h
    · cases h
    rename_i cat ins a1 a2 hct
    by_cases c1 : cat < 3
    · rw [if_pos c1] at h
      split at h
      · exact ih _ _ _ _ _ _ _ _ _ _ _ _ h hp0
      · cases h
    rw [if_neg c1] at h
    by_cases c2 : cat < 8
    · rw [if_pos c2] at h
      split at h
      · exact ih _ _ _ _ _ _ _ _ _ _ _ _ h hp0
      · cases h
    rw [if_neg c2] at h
    by_cases c3 : cat < 15
    · rw [if_pos c3] at h
      cases d with
      | zero => cases h
      | succ d =>
        dsimp only at h
        split at h
        · rename_i pc' st' th2 hp
          exact ih _ _ _ _ _ _ _ _ _ _ _ _ h (hW _ _ _ _ _ _ _ _ _ _ hp hp0)
        · cases h
    rw [if_neg c3] at h
    by_cases c4 : cat < 20
    · rw [if_pos c4] at h
      split at h
      · split at h
        · exact ih _ _ _ _ _ _ _ _ _ _ _ _ h (hA _ _ hp0)
        · cases h
      · cases h
    rw [if_neg c4] at h
    by_cases c5 : cat < 30
    · rw [if_pos c5] at h
      cases d with
      | zero => cases h
      | succ d =>
        dsimp only at h
        by_cases c26 : cat = 26
        · rw [if_pos c26] at h
          split at h
          · split at h
            · exact ih _ _ _ _ _ _ _ _ _ _ _ _ h hp0
            · cases h
          · cases h
        rw [if_neg c26] at h
        by_cases c28 : cat = 28
        · rw [if_pos c28] at h
          split at h
          · exact ih _ _ _ _ _ _ _ _ _ _ _ _ h hp0
          · cases h
        rw [if_neg c28] at h
        split at h
        · cases h
        split at h
        · cases h
        split at h
        · split at h
          · cases h
          rename_i r1 th1 n1 hcall
          split at h
          · exact ih _ _ _ _ _ _ _ _ _ _ _ _ h (ih _ _ _ _ _ _ _ _ _ _ _ _ hcall hp0)
          · cases h
        · cases h
    rw [if_neg c5] at h
    split at h
    · cases h
      exact hp0
    · cases h
theorem t_set_obj {th : tH} {k j c : Nat} {e : tE} (he : (∃ a, th[j]? = some (.inl a)) ∨ ∃ c0 fs0 fs1, th[j]? = some (.inr (c0, fs0)) ∧ e = .inr (c0, fs1)) (h : ∃ fs, th[k]? = some (.inr (c, fs))) : ∃ fs, (th.set j e)[k]? = some (.inr (c, fs)) := by
  obtain ⟨fs, h⟩ := h
  by_cases hj : j = k
  · subst hj
    rcases he with ⟨a, ha⟩ | ⟨c0, fs0, fs1, h1, h2⟩
    · rw [ha] at h; cases h
    · rw [h1] at h
      cases h
      subst h2
      exact ⟨fs1, List.getElem?_set_self (List.getElem?_eq_some_iff.mp h1).1⟩
  · exact ⟨fs, by rw [List.getElem?_set_ne hj]; exact h⟩
/-- an object stays an object of its kind -/
theorem t_W_obj {k c : Nat} : ∀ cat ins pc a1 a2 st (th : tH) pc' st' (th' : tH), t_W cat ins pc a1 a2 st th = some (pc', st', th') → (∃ fs, th[k]? = some (.inr (c, fs))) → ∃ fs, th'[k]? = some (.inr (c, fs)) := by
  intro cat ins pc a1 a2 st th pc' st' th' h hk
  cases ins <;> simp only [t_W, t_rii, t_rij, t_rir] at h <;> (try cases h) <;> (repeat' split at h) <;> (first | (cases h; done) | skip)
  all_goals
    cases h
    refine t_set_obj ?_ hk
    first
      | exact Or.inr ⟨_, _, _, by assumption, rfl⟩
      | exact Or.inl ⟨_, by assumption⟩
theorem t_obj {k c : Nat} {n : Nat} {xo : Option (List Int32)} {d i nL pc : Nat} {lv : tL} {st : List Value} {th : tH} {ns : Nat} {r : Option Value} {th' : tH} {ns' : Nat} (h : t_exec ct mi n xo d i nL pc lv st th ns = some (r, th', ns')) (hk : ∃ fs, th[k]? = some (.inr (c, fs))) : ∃ fs, th'[k]? = some (.inr (c, fs)) :=
  t_inv (P := fun th => ∃ fs, th[k]? = some (.inr (c, fs))) t_W_obj (fun th add h => by
    obtain ⟨fs, h⟩ := h
    exact ⟨fs, by rw [List.getElem?_append_left (List.getElem?_eq_some_iff.mp h).1]; exact h⟩) _ _ _ _ _ _ _ _ _ _ _ _ _ h hk
end WM
/-- from here the method comes to an answer with Q -/
def Wp (xo : Option (List Int32)) (d i nL pc : Nat) (lv : tL) (st : List Value) (th : tH) (ns : Nat) (Q : t_Res → Prop) : Prop := ∃ (n : Nat) (res : t_Res), t_exec t_ctf t_mif n xo d i nL pc lv st th ns = some res ∧ Q res
section WP
variable {xo : Option (List Int32)} {d i nL pc cat a1 a2 pc' : Nat} {ins : Instr} {lv lv' : tL} {st st' : List Value} {th : tH} {ns : Nat} {Q : t_Res → Prop}
theorem w_P (hc : t_ctf i pc = some (cat, ins, a1, a2)) (h3 : cat < 3) (hp : t_P ins pc a1 nL lv st = some (pc', lv', st')) (k : Wp xo d i nL pc' lv' st' th ns Q) : Wp xo d i nL pc lv st th ns Q := by
  obtain ⟨n, res, h1, h2⟩ := k
  refine ⟨n + 1, res, ?_, h2⟩
  rw [t_exec_s]
  unfold t_step
  rw [hc]
  dsimp only
  rw [if_pos h3, hp]
  exact h1
theorem w_R (hc : t_ctf i pc = some (cat, ins, a1, a2)) (h3 : ¬ cat < 3 ∧ cat < 8) (hp : t_R xo cat ins pc a1 a2 st th = some (pc', st')) (k : Wp xo d i nL pc' lv st' th ns Q) : Wp xo d i nL pc lv st th ns Q := by
  obtain ⟨n, res, h1, h2⟩ := k
  refine ⟨n + 1, res, ?_, h2⟩
  rw [t_exec_s]
  unfold t_step
  rw [hc]
  dsimp only
  rw [if_neg h3.1, if_pos h3.2, hp]
  exact h1
theorem w_A {add : tH} {n1 : Nat} (hc : t_ctf i pc = some (cat, ins, a1, a2)) (h3 : ¬ cat < 3 ∧ ¬ cat < 8 ∧ ¬ cat < 15 ∧ cat < 20) (hp : t_A ins pc a1 st th.length = some (pc', st', add, n1)) (hck : (t_okh th.length th && (st.all (t_okv th.length) && (t_okl th.length lv && decide (th.length + add.length ≤ 1000)))) = true) (k : Wp xo d i nL pc' lv st' (th ++ add) (ns + n1) Q) : Wp xo d i nL pc lv st th ns Q := by
  obtain ⟨n, res, h1, h2⟩ := k
  refine ⟨n + 1, res, ?_, h2⟩
  rw [t_exec_s]
  unfold t_step
  rw [hc]
  dsimp only
  rw [if_neg h3.1, if_neg h3.2.1, if_neg h3.2.2.1, if_pos h3.2.2.2, hp]
  dsimp only
  rw [if_pos hck]
  exact h1
theorem w_call {nL' na rc n1 m1 : Nat} {vs rest : List Value} {r : Option Value} {th' : tH} (hc : t_ctf i pc = some (cat, ins, a1, a2)) (h3 : ¬ cat < 20 ∧ cat < 30 ∧ cat ≠ 26 ∧ cat ≠ 28) (hm : t_mif a1 = some (nL', na, rc)) (hcut : t_cut cat na rc st th = some (vs, rest)) (h8 : t_sum rest ≤ 8 ∧ (lg_sl vs).length ≤ nL') (hcall : t_exec t_ctf t_mif n1 none d a1 nL' 0 (lv_args 0 vs) [] th 0 = some (r, th', m1)) (hfr : th'.length = th.length ∨ (t_okl th.length lv && rest.all (t_okv th.length)) = true) (k : Wp xo (d + 1) i nL (pc + 3) lv (r.toList ++ rest) th' (ns + m1) Q) : Wp xo (d + 1) i nL pc lv st th ns Q := by
  obtain ⟨n, res, h1, h2⟩ := k
  refine ⟨n1 + n + 1, res, ?_, h2⟩
  rw [t_exec_s]
  unfold t_step
  rw [hc]
  dsimp only
  rw [if_neg (by omega), if_neg (by omega), if_neg (by omega), if_neg h3.1, if_pos h3.2.1, if_neg h3.2.2.1, if_neg h3.2.2.2, hm]
  dsimp only
  rw [hcut]
  dsimp only
  rw [if_pos h8, t_mono n hcall]
  dsimp only
  rw [if_pos hfr, Nat.add_comm n1 n]
  exact t_mono n1 h1
theorem w_ret {r : Option Value} (hc : t_ctf i pc = some (cat, ins, a1, a2)) (h3 : ¬ cat < 30) (hr : t_ret cat st = some r) (hq : Q (r, th, ns)) : Wp xo d i nL pc lv st th ns Q := by
  refine ⟨1, (r, th, ns), ?_, hq⟩
  show t_step t_ctf t_mif _ xo d i nL pc lv st th ns = _
  unfold t_step
  rw [hc]
  dsimp only
  rw [if_neg (by omega), if_neg (by omega), if_neg (by omega), if_neg (by omega), if_neg h3, hr]
end WP
end
section
/-! ===== programs: what a method does, as a function of its arguments and the cells ===== -/
def gI (th : tH) (c o k : Nat) : Option Int32 := match th[o]? with
  | some (.inr (c', fs)) => if c' = c then (match fs[k]? with | some (.int x) => some x | _ => none) else none
  | _ => none
def gR (th : tH) (c o k : Nat) : Option (Option Nat) := match th[o]? with
  | some (.inr (c', fs)) => if c' = c then (match fs[k]? with | some (.ref x) => some (some x) | some .null => some none | _ => none) else none
  | _ => none
def gN (th : tH) (c o k : Nat) : Option Nat := (gR th c o k).bind id
def gC (th : tH) (c o : Nat) : Option Unit := match th[o]? with
  | some (.inr (c', _)) => if c' = c then some () else none
  | _ => none
def pV (th : tH) (c o k : Nat) (v : Value) : Option tH := match th[o]? with
  | some (.inr (c', fs)) => if c' = c ∧ k < fs.length then some (th.set o (.inr (c', fs.set k v))) else none
  | _ => none
def pI (th : tH) (c o k : Nat) (x : Int32) : Option tH := pV th c o k (.int x)
def pB (th : tH) (c o k : Nat) (x : Int32) : Option tH := if x = 0 ∨ x = 1 then pV th c o k (.int x) else none
def pR (th : tH) (c o k : Nat) (x : Option Nat) : Option tH := pV th c o k (va_rf x)
def aI (th : tH) (o : Nat) (i : Int32) : Option Int32 := match th[o]? with
  | some (.inl (d, .inl a)) => if d = 0 ∧ ¬ i < 0 then a[i.toNatClampNeg]? else none
  | _ => none
def aJ (th : tH) (o : Nat) (i : Int32) : Option Int64 := match th[o]? with
  | some (.inl (d, .inr (.inl a))) => if d = 1 ∧ ¬ i < 0 then a[i.toNatClampNeg]? else none
  | _ => none
def aR (th : tH) (o : Nat) (i : Int32) : Option (Option Nat) := match th[o]? with
  | some (.inl (d, .inr (.inr a))) => if (d = 2 ∨ d = 3) ∧ ¬ i < 0 then a[i.toNatClampNeg]? else none
  | _ => none
def aN (th : tH) (o : Nat) (i : Int32) : Option Nat := (aR th o i).bind id
def aB (o : Nat) (i : Int32) : Option Int32 := if (1021 ≤ o ∧ o < 1031) ∧ ¬ i < 0 then (t_byt.getD (o - 1021) [])[i.toNatClampNeg]? else none
def aL (th : tH) (o : Nat) : Option Int32 := if o = 1000 then none else if 1021 ≤ o ∧ o < 1031 then some (Int32.ofNat 4) else match th[o]? with
  | some (.inl (d, .inl a)) => if d = 0 then some (Int32.ofNat a.length) else none
  | some (.inl (d, .inr (.inl a))) => if d = 1 then some (Int32.ofNat a.length) else none
  | some (.inl (d, .inr (.inr a))) => if d = 2 then some (Int32.ofNat a.length) else none
  | _ => none
def xS (o : Nat) : Option Unit := if 1001 ≤ o ∧ o < 1011 then some () else none
def sI (th : tH) (o : Nat) (i x : Int32) : Option tH := match th[o]? with
  | some (.inl (d, .inl a)) => if d = 0 ∧ ¬ i < 0 ∧ i.toNatClampNeg < a.length then some (th.set o (.inl (0, .inl (a.set i.toNatClampNeg x)))) else none
  | _ => none
def sJ (th : tH) (o : Nat) (i : Int32) (x : Int64) : Option tH := match th[o]? with
  | some (.inl (d, .inr (.inl a))) => if d = 1 ∧ ¬ i < 0 ∧ i.toNatClampNeg < a.length then some (th.set o (.inl (1, .inr (.inl (a.set i.toNatClampNeg x))))) else none
  | _ => none
def cpI (th : tH) (j : Nat) (sp : Int32) (k : Nat) (dp n : Int32) : Option tH := if ¬ sp < 0 ∧ ¬ dp < 0 ∧ ¬ n < 0 then match th[j]? with
    | some (.inl (d, .inl f)) => match th[k]? with
      | some (.inl (d', .inl g)) => if d = 0 ∧ d' = 0 ∧ sp.toNatClampNeg + n.toNatClampNeg ≤ f.length ∧ dp.toNatClampNeg + n.toNatClampNeg ≤ g.length then some (th.set k (.inl (0, .inl (t_cpy f g sp.toNatClampNeg dp.toNatClampNeg n.toNatClampNeg)))) else none
      | _ => none
    | _ => none
  else none
def cpJ (th : tH) (j : Nat) (sp : Int32) (k : Nat) (dp n : Int32) : Option tH := if ¬ sp < 0 ∧ ¬ dp < 0 ∧ ¬ n < 0 then match th[j]? with
    | some (.inl (d, .inr (.inl f))) => match th[k]? with
      | some (.inl (d', .inr (.inl g))) => if d = 1 ∧ d' = 1 ∧ sp.toNatClampNeg + n.toNatClampNeg ≤ f.length ∧ dp.toNatClampNeg + n.toNatClampNeg ≤ g.length then some (th.set k (.inl (1, .inr (.inl (t_cpy f g sp.toNatClampNeg dp.toNatClampNeg n.toNatClampNeg))))) else none
      | _ => none
    | _ => none
  else none
def dvI (x y : Int32) : Option Int32 := if y = 0 then none else some (x / y)
def rmI (x y : Int32) : Option Int32 := if y = 0 then none else some (x - x / y * y)
def mxI (x y : Int32) : Int32 := if x < y then y else x
def mnI (x y : Int32) : Int32 := if y < x then y else x
def abI (x : Int32) : Int32 := if 0 ≤ x then x else 0 - x
def rB (x : Int32) : Option Int32 := if x = 0 ∨ x = 1 then some x else none
def rC (x : Int32) : Option Int32 := if 0 ≤ x ∧ x ≤ 65535 then some x else none
def rY (x : Int32) : Option Int32 := if x = 0 then some x else none
/-- a loop: the body says how it goes on, or how it ends -/
def lp {σ X R : Type} (F : σ → (σ → Option R) → (X → Option R) → Option R) : Nat → σ → (X → Option R) → Option R
  | 0, _, _ => none
  | n + 1, s, K => F s (fun s' => lp F n s' K) K
/-- a place where two ways meet -/
def jn {α β : Type} (a : α) (f : α → β) : β := f a
/-! ===== more variables do no harm ===== -/
def t_le (a b : tL) : Prop := (∀ q ∈ a, q ∈ b) ∧ (b.map Prod.fst).Nodup
theorem t_get_of {k : Nat} {v : Value} : ∀ {b : tL}, (b.map Prod.fst).Nodup → (k, v) ∈ b → t_get b k = some v
  | [], _, h => by cases h
  | q :: t, hn, h => by
    rw [List.map_cons, List.nodup_cons] at hn
    unfold t_get
    rcases List.mem_cons.mp h with h | h
    · subst h
      rw [if_pos rfl]
    · rw [if_neg (fun e => hn.1 (List.mem_map.mpr ⟨(k, v), h, e.symm⟩))]
      exact t_get_of hn.2 h
theorem t_le_get {a b : tL} {k : Nat} {v : Value} (h : t_le a b) (hg : t_get a k = some v) : t_get b k = some v := t_get_of h.2 (h.1 _ (t_get_mem hg))
theorem t_nd_cons {b : tL} {k : Nat} {v : Value} {p : Nat × Value → Bool} (hn : (b.map Prod.fst).Nodup) (hp : ∀ q, p q = true → q.1 ≠ k) : (((k, v) :: b.filter p).map Prod.fst).Nodup := by
  rw [List.map_cons, List.nodup_cons]
  refine ⟨fun h => ?_, List.Sublist.nodup ((List.filter_sublist).map _) hn⟩
  obtain ⟨q, hq, e⟩ := List.mem_map.mp h
  exact hp q (List.mem_filter.mp hq).2 e
theorem t_le_cons {a b : tL} {k : Nat} {v : Value} {p : Nat × Value → Bool} (h : t_le a b) (hp : ∀ q, p q = true → q.1 ≠ k) : t_le ((k, v) :: a.filter p) ((k, v) :: b.filter p) := by
  refine ⟨fun q hq => ?_, t_nd_cons h.2 hp⟩
  rcases List.mem_cons.mp hq with e | e
  · subst e; exact List.mem_cons_self
  · rw [List.mem_filter] at e
    exact List.mem_cons_of_mem _ (List.mem_filter.mpr ⟨h.1 q e.1, e.2⟩)
theorem t_le_set1 {a b : tL} {k : Nat} {v : Value} (h : t_le a b) : t_le (t_set1 a k v) (t_set1 b k v) := t_le_cons h (fun q hq e => by simp [e] at hq)
theorem t_le_set2 {a b : tL} {k : Nat} {v : Value} (h : t_le a b) : t_le (t_set2 a k v) (t_set2 b k v) := t_le_cons h (fun q hq e => by simp [e] at hq)
def t_tsw (pc : Nat) (d lo hi : Int) (offs : Array Int) (z : Int) : Option Nat := if z < lo ∨ hi < z then t_go pc d else match offs[(z - lo).toNat]? with
  | some off => t_go pc off
  | none => none
theorem t_P_tsw {pc a1 nL : Nat} {d lo hi : Int} {offs : Array Int} {lv : tL} {x : Int32} {r : List Value} : t_P (.tableswitch d lo hi offs) pc a1 nL lv (.int x :: r) = (t_tsw pc d lo hi offs x.toInt).map (fun t => (t, lv, r)) := by
  show (if x.toInt < lo ∨ hi < x.toInt then _ else _) = _
  unfold t_tsw
  split
  · rfl
  · cases offs[(x.toInt - lo).toNat]? <;> rfl
theorem t_P_mono {ins : Instr} {pc a1 nL pc1 : Nat} {lv lv' lv1 : tL} {st st1 : List Value} (hle : t_le lv lv') (h : t_P ins pc a1 nL lv st = some (pc1, lv1, st1)) : ∃ lv1', t_P ins pc a1 nL lv' st = some (pc1, lv1', st1) ∧ t_le lv1 lv1' := by
  cases ins
  case tableswitch dd lo hi offs =>
    obtain ⟨x, r, rfl, -⟩ := t_i1_of (show t_i1 st _ = _ from h)
    rw [t_P_tsw] at h ⊢
    cases hq : t_tsw pc dd lo hi offs x.toInt with
    | none => rw [hq] at h; cases h
    | some t => rw [hq] at h; cases h; exact ⟨_, rfl, hle⟩
  case astore k =>
    obtain ⟨x, r, rfl, h2⟩ := t_a1_of (show t_a1 st (fun x r => if k < nL then some (pc + 2, t_set1 lv k (va_rf x), r) else none) = _ from h)
    obtain ⟨c, e⟩ := t_if_of h2
    cases e
    refine ⟨t_set1 lv' k (va_rf x), ?_, t_le_set1 hle⟩
    cases x <;> exact if_pos c
  case astore_n k =>
    obtain ⟨x, r, rfl, h2⟩ := t_a1_of (show t_a1 st (fun x r => if k.val < nL then some (pc + 1, t_set1 lv k.val (va_rf x), r) else none) = _ from h)
    obtain ⟨c, e⟩ := t_if_of h2
    cases e
    refine ⟨t_set1 lv' k.val (va_rf x), ?_, t_le_set1 hle⟩
    cases x <;> exact if_pos c
  all_goals simp only [t_P] at h
  all_goals (try cases h)
  all_goals simp only [t_P]
  all_goals first
    | exact ⟨_, rfl, hle⟩
    | (obtain ⟨x, hx, h⟩ := t_gI_of h
       have hx' := t_le_get hle hx
       unfold t_gI
       rw [hx']
       first
         | (cases h; exact ⟨_, rfl, hle⟩)
         | (obtain ⟨c, e⟩ := t_if_of h
            cases e
            dsimp only
            rw [if_pos c]
            exact ⟨_, rfl, t_le_set1 hle⟩))
    | (obtain ⟨x, hx, h⟩ := t_gJ_of h
       have hx' := t_le_get hle hx
       unfold t_gJ
       rw [hx']
       cases h
       exact ⟨_, rfl, hle⟩)
    | (obtain ⟨x, hx, h⟩ := t_gA_of h
       have hx' := t_le_get hle hx
       unfold t_gA
       rw [hx']
       cases x <;> (cases h; exact ⟨_, rfl, hle⟩))
    | (obtain ⟨x, y, r, rfl, h⟩ := t_i2_of h
       first
         | (cases h; exact ⟨_, rfl, hle⟩)
         | (obtain ⟨c, e⟩ := t_ifn_of h
            cases e
            refine ⟨_, ?_, hle⟩
            show (if y = 0 then none else _) = _
            rw [if_neg c]))
    | (obtain ⟨x, y, r, rfl, h⟩ := t_j2_of h
       cases h
       exact ⟨_, rfl, hle⟩)
    | (obtain ⟨x, y, r, rfl, h⟩ := t_ji_of h
       cases h
       exact ⟨_, rfl, hle⟩)
    | (obtain ⟨x, r, rfl, h⟩ := t_i1_of h
       first
         | (cases h; exact ⟨_, rfl, hle⟩)
         | (obtain ⟨c, e⟩ := t_if_of h
            cases e
            refine ⟨_, ?_, t_le_set1 hle⟩
            show (if _ then some _ else none) = _
            rw [if_pos c]))
    | (obtain ⟨x, r, rfl, h⟩ := t_j1_of h
       first
         | (cases h; exact ⟨_, rfl, hle⟩)
         | (obtain ⟨c, e⟩ := t_if_of h
            cases e
            refine ⟨_, ?_, t_le_set2 hle⟩
            show (if _ then some _ else none) = _
            rw [if_pos c]))
    | (obtain ⟨x, r, rfl, h⟩ := t_a1_of h
       first
         | (cases x <;> (cases h; exact ⟨_, rfl, hle⟩))
         | (obtain ⟨c, e⟩ := t_if_of h
            cases e
            refine ⟨_, ?_, t_le_set1 hle⟩
            cases x <;> (unfold t_a1 va_rf; dsimp only; rw [if_pos c])))
    | (split at h
       · rename_i hst
         obtain ⟨c, e⟩ := t_if_of h
         cases e
         refine ⟨_, ?_, hle⟩
         try dsimp only
         rw [if_pos c]
       · cases h)
/-! ===== a run of a method that makes no cell does what its program says ===== -/
def Wx {ρ : Type} (L : Nat) (emb : ρ → Option Value × tH) (d i nL pc : Nat) (lv : tL) (st : List Value) (th : tH) (m : Option ρ) : Prop :=
  th.length = L → L ≤ 1000 → ∀ x, m = some x → (emb x).2.length = L ∧ ∃ n, ∀ lv', t_le lv lv' → t_exec t_ctf t_mif n none d i nL pc lv' st th 0 = some ((emb x).1, (emb x).2, 0)
def x_al : tL → tL → Prop
  | [], _ => True
  | q :: t, b => t_get b q.1 = some q.2 ∧ x_al t b
theorem x_al_mem : ∀ {a b : tL}, x_al a b → ∀ q ∈ a, q ∈ b
  | [], _, _, q, h => by cases h
  | p :: t, b, ha, q, h => by
    rcases List.mem_cons.mp h with e | e
    · subst e; exact t_get_mem ha.1
    · exact x_al_mem ha.2 q e
theorem t_args_ge : ∀ (vs : List Value) (i : Nat), ∀ k ∈ (lv_args i vs).map Prod.fst, i ≤ k
  | [], i, k, h => by cases h
  | v :: vs, i, k, h => by
    have h' : k ∈ i :: (lv_args (if v.category = 2 then i + 2 else i + 1) vs).map Prod.fst := h
    rcases List.mem_cons.mp h' with e | e
    · omega
    · have := t_args_ge vs _ k e
      split at this <;> omega
theorem t_args_nd : ∀ (vs : List Value) (i : Nat), ((lv_args i vs).map Prod.fst).Nodup
  | [], i => List.nodup_nil
  | v :: vs, i => by
    show (i :: (lv_args (if v.category = 2 then i + 2 else i + 1) vs).map Prod.fst).Nodup
    rw [List.nodup_cons]
    refine ⟨fun h => ?_, t_args_nd vs _⟩
    have := t_args_ge vs _ i h
    split at this <;> omega
theorem t_P_ald {k pc a1 nL : Nat} {lv : tL} {st : List Value} {x : Option Nat} (h : t_get lv k = some (va_rf x)) : t_P (.aload k) pc a1 nL lv st = some (pc + 2, lv, va_rf x :: st) := by
  unfold t_P t_gA
  dsimp only
  rw [h]
  cases x <;> rfl
theorem t_P_ald_n {k : Fin 4} {pc a1 nL : Nat} {lv : tL} {st : List Value} {x : Option Nat} (h : t_get lv k.val = some (va_rf x)) : t_P (.aload_n k) pc a1 nL lv st = some (pc + 1, lv, va_rf x :: st) := by
  unfold t_P t_gA
  dsimp only
  rw [h]
  cases x <;> rfl
section WX
variable {ρ : Type} {L : Nat} {emb : ρ → Option Value × tH} {d i nL pc cat a1 a2 pc' : Nat} {ins : Instr} {lv lv' : tL} {st st' r : List Value} {th : tH} {m m1 m2 : Option ρ}
theorem x_none : Wx L emb d i nL pc lv st th none := fun _ _ x h => by cases h
theorem x_lv (k : Wx L emb d i nL pc lv st th m) (ha : x_al lv lv') : Wx L emb d i nL pc lv' st th m := fun hl hL x hx => by
  obtain ⟨h1, n, h2⟩ := k hl hL x hx
  exact ⟨h1, n, fun lv2 hle => h2 lv2 ⟨fun q hq => hle.1 q (x_al_mem ha q hq), hle.2⟩⟩
theorem x_P (pc' : Nat) (hc : t_ctf i pc = some (cat, ins, a1, a2)) (h3 : Nat.blt cat 3 = true) (hp : t_P ins pc a1 nL lv st = some (pc', lv', st')) (k : Wx L emb d i nL pc' lv' st' th m) : Wx L emb d i nL pc lv st th m := fun hl hL x hx => by
  obtain ⟨h1, n, h2⟩ := k hl hL x hx
  refine ⟨h1, n + 1, fun lv2 hle => ?_⟩
  obtain ⟨lv3, e1, e2⟩ := t_P_mono hle hp
  rw [t_exec_s]
  unfold t_step
  rw [hc]
  dsimp only
  have h3' : cat < 3 := Nat.le_of_ble_eq_true h3
  rw [if_pos h3', e1]
  exact h2 lv3 e2
theorem x_R (hc : t_ctf i pc = some (cat, ins, a1, a2)) (h3 : ¬ cat < 3 ∧ cat < 8) (hp : th.length ≤ 1000 → t_R none cat ins pc a1 a2 st th = some (pc', st')) (k : Wx L emb d i nL pc' lv st' th m) : Wx L emb d i nL pc lv st th m := fun hl hL x hx => by
  obtain ⟨h1, n, h2⟩ := k hl hL x hx
  refine ⟨h1, n + 1, fun lv2 hle => ?_⟩
  rw [t_exec_s]
  unfold t_step
  rw [hc]
  dsimp only
  rw [if_neg h3.1, if_pos h3.2, hp (by omega)]
  exact h2 lv2 hle
theorem x_W {th2 : tH} (hc : t_ctf i pc = some (cat, ins, a1, a2)) (h3 : ¬ cat < 3 ∧ ¬ cat < 8 ∧ cat < 15) (hp : t_W cat ins pc a1 a2 st th = some (pc', st', th2)) (k : Wx L emb (d + 1) i nL pc' lv st' th2 m) : Wx L emb (d + 1) i nL pc lv st th m := fun hl hL x hx => by
  obtain ⟨h1, n, h2⟩ := k (by rw [t_W_len hp]; exact hl) hL x hx
  refine ⟨h1, n + 1, fun lv2 hle => ?_⟩
  rw [t_exec_s]
  unfold t_step
  rw [hc]
  dsimp only
  rw [if_neg h3.1, if_neg h3.2.1, if_pos h3.2.2, hp]
  exact h2 lv2 hle
theorem x_ret {x : ρ} {v : Option Value} (hc : t_ctf i pc = some (cat, ins, a1, a2)) (h3 : Nat.ble 30 cat = true) (hr : t_ret cat st = some v) (he : emb x = (v, th)) : Wx L emb d i nL pc lv st th (some x) := fun hl hL y hy => by
  cases hy
  rw [he]
  refine ⟨hl, 1, fun lv2 hle => ?_⟩
  have h3' : 30 ≤ cat := Nat.le_of_ble_eq_true h3
  show t_step t_ctf t_mif _ none d i nL pc lv2 st th 0 = _
  unfold t_step
  rw [hc]
  dsimp only
  rw [if_neg (by omega), if_neg (by omega), if_neg (by omega), if_neg (by omega), if_neg (by omega), hr]
theorem x_bind {α : Type} {g : Option α} {f : α → Option ρ} (k : ∀ v, g = some v → Wx L emb d i nL pc lv st th (f v)) : Wx L emb d i nL pc lv st th (g.bind f) := fun hl hL x hx => by
  cases hg : g with
  | none => rw [hg] at hx; cases hx
  | some v => rw [hg] at hx; exact k v hg hl hL x hx
theorem x_oS {α : Type} {o : α} {f : α → Option ρ} (k : Wx L emb d i nL pc lv st th (f o)) : Wx L emb d i nL pc lv st th ((some o).bind f) := k
theorem x_ite {c : Prop} [Decidable c] (k1 : c → Wx L emb d i nL pc lv st th m1) (k2 : ¬ c → Wx L emb d i nL pc lv st th m2) : Wx L emb d i nL pc lv st th (if c then m1 else m2) := by
  by_cases h : c
  · rw [if_pos h]; exact k1 h
  · rw [if_neg h]; exact k2 h
theorem x_jn {α : Type} {K : α → Option ρ} {B : (α → Option ρ) → Option ρ} (pj : Nat) (LV : α → tL) (SV : α → List Value) (TV : α → tH) (hK : ∀ v, Wx L emb d i nL pj (LV v) (SV v) (TV v) (K v)) (hB : ∀ j, (∀ v, Wx L emb d i nL pj (LV v) (SV v) (TV v) (j v)) → Wx L emb d i nL pc lv st th (B j)) : Wx L emb d i nL pc lv st th (jn K B) := hB K hK
theorem x_lp {σ X : Type} {F : σ → (σ → Option ρ) → (X → Option ρ) → Option ρ} {K : X → Option ρ} {ph : Nat} (px : Nat) (LV : σ → tL) (TH : σ → tH) (LX : X → tL) (TX : X → tH)
    (hF : ∀ (s : σ) (nx : σ → Option ρ), (∀ s', Wx L emb d i nL ph (LV s') [] (TH s') (nx s')) → ∀ (ex : X → Option ρ), (∀ x, Wx L emb d i nL px (LX x) [] (TX x) (ex x)) → Wx L emb d i nL ph (LV s) [] (TH s) (F s nx ex))
    (hK : ∀ x, Wx L emb d i nL px (LX x) [] (TX x) (K x)) : ∀ (n : Nat) (s : σ), Wx L emb d i nL ph (LV s) [] (TH s) (lp F n s K)
  | 0, s => x_none
  | n + 1, s => hF s _ (fun s' => x_lp px LV TH LX TX hF hK n s') _ hK
-- branches
theorem x_br {c : Jvm.ClassFile.Cond} {o : Int} {x y : Int32} {P : Prop} [Decidable P] (hP : (t_icmp c x y = true) ↔ P) (hc : t_ctf i pc = some (cat, .if_icmp c o, a1, a2)) (h3 : Nat.blt cat 3 = true) (k1 : P → Wx L emb d i nL a1 lv r th m1) (k2 : ¬ P → Wx L emb d i nL (pc + 3) lv r th m2) : Wx L emb d i nL pc lv (.int y :: .int x :: r) th (if P then m1 else m2) := by
  refine x_ite (fun h => ?_) (fun h => ?_)
  · refine x_P a1 hc h3 ?_ (k1 h)
    show some (if t_icmp c x y = true then a1 else pc + 3, lv, r) = _
    rw [if_pos (hP.mpr h)]
  · refine x_P (pc + 3) hc h3 ?_ (k2 h)
    show some (if t_icmp c x y = true then a1 else pc + 3, lv, r) = _
    rw [if_neg (fun e => h (hP.mp e))]
theorem x_br0 {c : Jvm.ClassFile.Cond} {o : Int} {x : Int32} {P : Prop} [Decidable P] (hP : (t_icmp c x 0 = true) ↔ P) (hc : t_ctf i pc = some (cat, .ifCond c o, a1, a2)) (h3 : Nat.blt cat 3 = true) (k1 : P → Wx L emb d i nL a1 lv r th m1) (k2 : ¬ P → Wx L emb d i nL (pc + 3) lv r th m2) : Wx L emb d i nL pc lv (.int x :: r) th (if P then m1 else m2) := by
  refine x_ite (fun h => ?_) (fun h => ?_)
  · refine x_P a1 hc h3 ?_ (k1 h)
    show some (if t_icmp c x 0 = true then a1 else pc + 3, lv, r) = _
    rw [if_pos (hP.mpr h)]
  · refine x_P (pc + 3) hc h3 ?_ (k2 h)
    show some (if t_icmp c x 0 = true then a1 else pc + 3, lv, r) = _
    rw [if_neg (fun e => h (hP.mp e))]
theorem x_sw {P : Prop} [Decidable P] : (if P then m1 else m2) = (if ¬ P then m2 else m1) := by
  by_cases h : P
  · rw [if_pos h, if_neg (fun e => e h)]
  · rw [if_neg h, if_pos h]
theorem x_ic_eq {o : Int} {x y : Int32} (hc : t_ctf i pc = some (cat, .if_icmp .eq o, a1, a2)) (h3 : Nat.blt cat 3 = true) (k1 : x = y → Wx L emb d i nL a1 lv r th m1) (k2 : ¬ x = y → Wx L emb d i nL (pc + 3) lv r th m2) : Wx L emb d i nL pc lv (.int y :: .int x :: r) th (if x = y then m1 else m2) := x_br (c := .eq) (by show decide (x = y) = true ↔ _; exact decide_eq_true_iff) hc h3 k1 k2
theorem x_ic_lt {o : Int} {x y : Int32} (hc : t_ctf i pc = some (cat, .if_icmp .lt o, a1, a2)) (h3 : Nat.blt cat 3 = true) (k1 : x < y → Wx L emb d i nL a1 lv r th m1) (k2 : ¬ x < y → Wx L emb d i nL (pc + 3) lv r th m2) : Wx L emb d i nL pc lv (.int y :: .int x :: r) th (if x < y then m1 else m2) := x_br (c := .lt) (by show decide (x < y) = true ↔ _; exact decide_eq_true_iff) hc h3 k1 k2
theorem x_ic_ge {o : Int} {x y : Int32} (hc : t_ctf i pc = some (cat, .if_icmp .ge o, a1, a2)) (h3 : Nat.blt cat 3 = true) (k1 : y ≤ x → Wx L emb d i nL a1 lv r th m1) (k2 : ¬ y ≤ x → Wx L emb d i nL (pc + 3) lv r th m2) : Wx L emb d i nL pc lv (.int y :: .int x :: r) th (if y ≤ x then m1 else m2) := x_br (c := .ge) (by show decide (y ≤ x) = true ↔ _; exact decide_eq_true_iff) hc h3 k1 k2
theorem x_ic_gt {o : Int} {x y : Int32} (hc : t_ctf i pc = some (cat, .if_icmp .gt o, a1, a2)) (h3 : Nat.blt cat 3 = true) (k1 : y < x → Wx L emb d i nL a1 lv r th m1) (k2 : ¬ y < x → Wx L emb d i nL (pc + 3) lv r th m2) : Wx L emb d i nL pc lv (.int y :: .int x :: r) th (if y < x then m1 else m2) := x_br (c := .gt) (by show decide (y < x) = true ↔ _; exact decide_eq_true_iff) hc h3 k1 k2
theorem x_ic_le {o : Int} {x y : Int32} (hc : t_ctf i pc = some (cat, .if_icmp .le o, a1, a2)) (h3 : Nat.blt cat 3 = true) (k1 : x ≤ y → Wx L emb d i nL a1 lv r th m1) (k2 : ¬ x ≤ y → Wx L emb d i nL (pc + 3) lv r th m2) : Wx L emb d i nL pc lv (.int y :: .int x :: r) th (if x ≤ y then m1 else m2) := x_br (c := .le) (by show decide (x ≤ y) = true ↔ _; exact decide_eq_true_iff) hc h3 k1 k2
theorem x_ic_ne {o : Int} {x y : Int32} (hc : t_ctf i pc = some (cat, .if_icmp .ne o, a1, a2)) (h3 : Nat.blt cat 3 = true) (k1 : x = y → Wx L emb d i nL (pc + 3) lv r th m1) (k2 : ¬ x = y → Wx L emb d i nL a1 lv r th m2) : Wx L emb d i nL pc lv (.int y :: .int x :: r) th (if x = y then m1 else m2) := by
  rw [x_sw]
  exact x_br (c := .ne) (P := ¬ x = y) (by show (!decide (x = y)) = true ↔ _; simp) hc h3 k2 (fun h => k1 (Decidable.not_not.mp h))
theorem x_if_eq {o : Int} {x : Int32} (hc : t_ctf i pc = some (cat, .ifCond .eq o, a1, a2)) (h3 : Nat.blt cat 3 = true) (k1 : x = 0 → Wx L emb d i nL a1 lv r th m1) (k2 : ¬ x = 0 → Wx L emb d i nL (pc + 3) lv r th m2) : Wx L emb d i nL pc lv (.int x :: r) th (if x = 0 then m1 else m2) := x_br0 (c := .eq) (by show decide (x = 0) = true ↔ _; exact decide_eq_true_iff) hc h3 k1 k2
theorem x_if_lt {o : Int} {x : Int32} (hc : t_ctf i pc = some (cat, .ifCond .lt o, a1, a2)) (h3 : Nat.blt cat 3 = true) (k1 : x < 0 → Wx L emb d i nL a1 lv r th m1) (k2 : ¬ x < 0 → Wx L emb d i nL (pc + 3) lv r th m2) : Wx L emb d i nL pc lv (.int x :: r) th (if x < 0 then m1 else m2) := x_br0 (c := .lt) (by show decide (x < 0) = true ↔ _; exact decide_eq_true_iff) hc h3 k1 k2
theorem x_if_ge {o : Int} {x : Int32} (hc : t_ctf i pc = some (cat, .ifCond .ge o, a1, a2)) (h3 : Nat.blt cat 3 = true) (k1 : 0 ≤ x → Wx L emb d i nL a1 lv r th m1) (k2 : ¬ 0 ≤ x → Wx L emb d i nL (pc + 3) lv r th m2) : Wx L emb d i nL pc lv (.int x :: r) th (if 0 ≤ x then m1 else m2) := x_br0 (c := .ge) (by show decide (0 ≤ x) = true ↔ _; exact decide_eq_true_iff) hc h3 k1 k2
theorem x_if_gt {o : Int} {x : Int32} (hc : t_ctf i pc = some (cat, .ifCond .gt o, a1, a2)) (h3 : Nat.blt cat 3 = true) (k1 : 0 < x → Wx L emb d i nL a1 lv r th m1) (k2 : ¬ 0 < x → Wx L emb d i nL (pc + 3) lv r th m2) : Wx L emb d i nL pc lv (.int x :: r) th (if 0 < x then m1 else m2) := x_br0 (c := .gt) (by show decide (0 < x) = true ↔ _; exact decide_eq_true_iff) hc h3 k1 k2
theorem x_if_le {o : Int} {x : Int32} (hc : t_ctf i pc = some (cat, .ifCond .le o, a1, a2)) (h3 : Nat.blt cat 3 = true) (k1 : x ≤ 0 → Wx L emb d i nL a1 lv r th m1) (k2 : ¬ x ≤ 0 → Wx L emb d i nL (pc + 3) lv r th m2) : Wx L emb d i nL pc lv (.int x :: r) th (if x ≤ 0 then m1 else m2) := x_br0 (c := .le) (by show decide (x ≤ 0) = true ↔ _; exact decide_eq_true_iff) hc h3 k1 k2
theorem x_if_ne {o : Int} {x : Int32} (hc : t_ctf i pc = some (cat, .ifCond .ne o, a1, a2)) (h3 : Nat.blt cat 3 = true) (k1 : x = 0 → Wx L emb d i nL (pc + 3) lv r th m1) (k2 : ¬ x = 0 → Wx L emb d i nL a1 lv r th m2) : Wx L emb d i nL pc lv (.int x :: r) th (if x = 0 then m1 else m2) := by
  rw [x_sw]
  exact x_br0 (c := .ne) (P := ¬ x = 0) (by show (!decide (x = 0)) = true ↔ _; simp) hc h3 k2 (fun h => k1 (Decidable.not_not.mp h))
theorem x_ts {dd lo hi : Int} {offs : Array Int} {x k : Int32} {t : Nat} (hx : x = k) (hk : t_tsw pc dd lo hi offs k.toInt = some t) : t_P (.tableswitch dd lo hi offs) pc a1 nL lv (.int x :: r) = some (t, lv, r) := by
  rw [t_P_tsw, hx, hk]; rfl
theorem x_td {dd lo hi : Int} {offs : Array Int} {x kl kh : Int32} {t : Nat} (hx : x < kl ∨ kh < x) (hk : kl.toInt = lo ∧ kh.toInt = hi ∧ t_go pc dd = some t) : t_P (.tableswitch dd lo hi offs) pc a1 nL lv (.int x :: r) = some (t, lv, r) := by
  rw [t_P_tsw]
  unfold t_tsw
  rw [if_pos, hk.2.2]
  · rfl
  · rw [← hk.1, ← hk.2.1]
    rcases hx with h | h
    · exact Or.inl (Int32.lt_iff_toInt_lt.mp h)
    · exact Or.inr (Int32.lt_iff_toInt_lt.mp h)
-- cells that are read
theorem x_gI {c o k : Nat} {q : Nat} {f : Int32 → Option ρ} (hc : t_ctf i pc = some (3, .getfield q, c, k)) (kk : ∀ v, gI th c o k = some v → Wx L emb d i nL (pc + 3) lv (.int v :: r) th (f v)) : Wx L emb d i nL pc lv (.ref o :: r) th ((gI th c o k).bind f) := x_bind fun v hv => by
  refine x_R hc (by omega) (fun _ => ?_) (kk v hv)
  unfold t_R t_r1
  dsimp only
  rw [if_pos rfl]
  unfold gI at hv
  split at hv
  · rename_i c' fs he
    rw [he]
    dsimp only
    split at hv
    · rename_i hcc
      rw [if_pos hcc]
      split at hv
      · rename_i x hf
        cases hv
        rw [hf]
        rfl
      · cases hv
    · cases hv
  · cases hv
theorem x_gR {c o k : Nat} {q : Nat} {f : Option Nat → Option ρ} (hc : t_ctf i pc = some (3, .getfield q, c, k)) (kk : ∀ v, gR th c o k = some v → Wx L emb d i nL (pc + 3) lv (va_rf v :: r) th (f v)) : Wx L emb d i nL pc lv (.ref o :: r) th ((gR th c o k).bind f) := x_bind fun v hv => by
  refine x_R hc (by omega) (fun _ => ?_) (kk v hv)
  unfold t_R t_r1
  dsimp only
  rw [if_pos rfl]
  unfold gR at hv
  split at hv
  · rename_i c' fs he
    rw [he]
    dsimp only
    split at hv
    · rename_i hcc
      rw [if_pos hcc]
      split at hv
      · rename_i x hf
        cases hv
        rw [hf]
        rfl
      · rename_i hf
        cases hv
        rw [hf]
        rfl
      · cases hv
    · cases hv
  · cases hv
theorem x_gN {c o k : Nat} {q : Nat} {f : Nat → Option ρ} (hc : t_ctf i pc = some (3, .getfield q, c, k)) (kk : ∀ v, gN th c o k = some v → Wx L emb d i nL (pc + 3) lv (.ref v :: r) th (f v)) : Wx L emb d i nL pc lv (.ref o :: r) th ((gN th c o k).bind f) := by
  have e : (gN th c o k).bind f = (gR th c o k).bind (fun x => x.bind f) := by
    unfold gN
    cases gR th c o k <;> rfl
  rw [e]
  refine x_gR hc (fun v hv => ?_)
  cases v with
  | none => exact x_none
  | some v => exact kk v (by unfold gN; rw [hv]; rfl)
theorem x_gC {c o : Nat} {f : Unit → Option ρ} (kk : Wx L emb d i nL pc lv st th (f ())) : Wx L emb d i nL pc lv st th ((gC th c o).bind f) := x_bind fun _ _ => kk
theorem gC_of {α : Type} {c o : Nat} {f : Unit → Option α} {x : α} (h : (gC th c o).bind f = some x) : ∃ fs, th[o]? = some (.inr (c, fs)) := by
  cases hg : gC th c o with
  | none => rw [hg] at h; cases h
  | some u =>
    unfold gC at hg
    split at hg
    · rename_i c' fs he
      split at hg
      · rename_i hcc
        exact ⟨fs, by rw [he, hcc]⟩
      · cases hg
    · cases hg
theorem xS_of {α : Type} {o : Nat} {f : Unit → Option α} {x : α} (h : (xS o).bind f = some x) : 1001 ≤ o ∧ o < 1011 := by
  cases hg : xS o with
  | none => rw [hg] at h; cases h
  | some u =>
    unfold xS at hg
    exact (t_if_of hg).1
theorem x_xS0 {o q a1 : Nat} {f : Unit → Option ρ} (hc : t_ctf i pc = some (7, .getfield q, a1, 0)) (kk : ∀ u, xS o = some u → Wx L emb d i nL (pc + 3) lv (.int 0 :: r) th (f u)) : Wx L emb d i nL pc lv (.ref o :: r) th ((xS o).bind f) := x_bind fun u hu => by
  refine x_R hc (by omega) (fun _ => ?_) (kk u hu)
  unfold t_R t_r1
  dsimp only
  rw [if_neg (by omega), if_pos (t_if_of hu).1, if_pos rfl]
theorem x_xS1 {o q a1 : Nat} {f : Unit → Option ρ} (hc : t_ctf i pc = some (7, .getfield q, a1, 1)) (kk : ∀ u, xS o = some u → Wx L emb d i nL (pc + 3) lv (.ref (o + 20) :: r) th (f u)) : Wx L emb d i nL pc lv (.ref o :: r) th ((xS o).bind f) := x_bind fun u hu => by
  refine x_R hc (by omega) (fun _ => ?_) (kk u hu)
  unfold t_R t_r1
  dsimp only
  rw [if_neg (by omega), if_pos (t_if_of hu).1, if_neg (by omega)]
theorem x_aI {o : Nat} {j : Int32} {f : Int32 → Option ρ} (hc : t_ctf i pc = some (cat, .iaload, a1, a2)) (h3 : Nat.blt 2 cat = true ∧ Nat.blt cat 8 = true) (kk : ∀ v, aI th o j = some v → Wx L emb d i nL (pc + 1) lv (.int v :: r) th (f v)) : Wx L emb d i nL pc lv (.int j :: .ref o :: r) th ((aI th o j).bind f) := x_bind fun v hv => by
  have h1 : 2 < cat := Nat.le_of_ble_eq_true h3.1
  have h2 : cat < 8 := Nat.le_of_ble_eq_true h3.2
  refine x_R hc (by omega) (fun hl => ?_) (kk v hv)
  unfold aI at hv
  split at hv
  · rename_i dd a he
    have ho : o < th.length := (List.getElem?_eq_some_iff.mp he).1
    unfold t_R t_ri
    dsimp only
    rw [if_neg (by omega), he]
    dsimp only
    split at hv
    · rename_i hcc
      rw [if_pos hcc, hv]
      rfl
    · cases hv
  · cases hv
theorem x_aJ {o : Nat} {j : Int32} {f : Int64 → Option ρ} (hc : t_ctf i pc = some (cat, .laload, a1, a2)) (h3 : Nat.blt 2 cat = true ∧ Nat.blt cat 8 = true) (kk : ∀ v, aJ th o j = some v → Wx L emb d i nL (pc + 1) lv (.long v :: r) th (f v)) : Wx L emb d i nL pc lv (.int j :: .ref o :: r) th ((aJ th o j).bind f) := x_bind fun v hv => by
  have h1 : 2 < cat := Nat.le_of_ble_eq_true h3.1
  have h2 : cat < 8 := Nat.le_of_ble_eq_true h3.2
  refine x_R hc (by omega) (fun hl => ?_) (kk v hv)
  unfold aJ at hv
  split at hv
  · rename_i dd a he
    unfold t_R t_ri
    dsimp only
    rw [he]
    dsimp only
    split at hv
    · rename_i hcc
      rw [if_pos hcc, hv]
      rfl
    · cases hv
  · cases hv
theorem x_aR {o : Nat} {j : Int32} {f : Option Nat → Option ρ} (hc : t_ctf i pc = some (cat, .aaload, a1, a2)) (h3 : Nat.blt 2 cat = true ∧ Nat.blt cat 8 = true) (kk : ∀ v, aR th o j = some v → Wx L emb d i nL (pc + 1) lv (va_rf v :: r) th (f v)) : Wx L emb d i nL pc lv (.int j :: .ref o :: r) th ((aR th o j).bind f) := x_bind fun v hv => by
  have h1 : 2 < cat := Nat.le_of_ble_eq_true h3.1
  have h2 : cat < 8 := Nat.le_of_ble_eq_true h3.2
  refine x_R hc (by omega) (fun hl => ?_) (kk v hv)
  unfold aR at hv
  split at hv
  · rename_i dd a he
    unfold t_R t_ri
    dsimp only
    rw [he]
    dsimp only
    split at hv
    · rename_i hcc
      rw [if_pos hcc, hv]
      rfl
    · cases hv
  · cases hv
theorem x_aN {o : Nat} {j : Int32} {f : Nat → Option ρ} (hc : t_ctf i pc = some (cat, .aaload, a1, a2)) (h3 : Nat.blt 2 cat = true ∧ Nat.blt cat 8 = true) (kk : ∀ v, aN th o j = some v → Wx L emb d i nL (pc + 1) lv (.ref v :: r) th (f v)) : Wx L emb d i nL pc lv (.int j :: .ref o :: r) th ((aN th o j).bind f) := by
  have e : (aN th o j).bind f = (aR th o j).bind (fun x => x.bind f) := by
    unfold aN
    cases aR th o j <;> rfl
  rw [e]
  refine x_aR hc h3 (fun v hv => ?_)
  cases v with
  | none => exact x_none
  | some v => exact kk v (by unfold aN; rw [hv]; rfl)
theorem x_aB {o : Nat} {j : Int32} {f : Int32 → Option ρ} (hc : t_ctf i pc = some (cat, .baload, a1, a2)) (h3 : Nat.blt 2 cat = true ∧ Nat.blt cat 8 = true) (kk : ∀ v, aB o j = some v → Wx L emb d i nL (pc + 1) lv (.int v :: r) th (f v)) : Wx L emb d i nL pc lv (.int j :: .ref o :: r) th ((aB o j).bind f) := x_bind fun v hv => by
  have h1 : 2 < cat := Nat.le_of_ble_eq_true h3.1
  have h2 : cat < 8 := Nat.le_of_ble_eq_true h3.2
  refine x_R hc (by omega) (fun hl => ?_) (kk v hv)
  unfold aB at hv
  unfold t_R t_ri
  dsimp only
  split at hv
  · rename_i hcc
    rw [if_pos hcc, hv]
    rfl
  · cases hv
theorem x_aL {o : Nat} {f : Int32 → Option ρ} (hc : t_ctf i pc = some (cat, .arraylength, a1, a2)) (h3 : Nat.blt 2 cat = true ∧ Nat.blt cat 8 = true) (kk : ∀ v, aL th o = some v → Wx L emb d i nL (pc + 1) lv (.int v :: r) th (f v)) : Wx L emb d i nL pc lv (.ref o :: r) th ((aL th o).bind f) := x_bind fun v hv => by
  have h1 : 2 < cat := Nat.le_of_ble_eq_true h3.1
  have h2 : cat < 8 := Nat.le_of_ble_eq_true h3.2
  refine x_R hc (by omega) (fun hl => ?_) (kk v hv)
  unfold aL at hv
  unfold t_R t_r1
  dsimp only
  by_cases c1 : o = 1000
  · rw [if_pos c1] at hv; cases hv
  rw [if_neg c1] at hv ⊢
  by_cases c2 : 1021 ≤ o ∧ o < 1031
  · rw [if_pos c2] at hv ⊢; cases hv; rfl
  rw [if_neg c2] at hv ⊢
  split at hv
  · rename_i he
    rw [he]
    dsimp only
    obtain ⟨c, e⟩ := t_if_of hv
    rw [if_pos c, e]
  · rename_i he
    rw [he]
    dsimp only
    obtain ⟨c, e⟩ := t_if_of hv
    rw [if_pos c, e]
  · rename_i he
    rw [he]
    dsimp only
    obtain ⟨c, e⟩ := t_if_of hv
    rw [if_pos c, e]
  · cases hv
theorem x_gs0 {q a2 : Nat} (hc : t_ctf i pc = some (cat, .getstatic q, 0, a2)) (h3 : Nat.blt 2 cat = true ∧ Nat.blt cat 8 = true) (k : Wx L emb d i nL (pc + 3) lv (.int 1 :: st) th m) : Wx L emb d i nL pc lv st th m := by
  have h1 : 2 < cat := Nat.le_of_ble_eq_true h3.1
  have h2 : cat < 8 := Nat.le_of_ble_eq_true h3.2
  exact x_R hc (by omega) (fun _ => rfl) k
theorem x_gs1 {q a2 : Nat} (hc : t_ctf i pc = some (cat, .getstatic q, 1, a2)) (h3 : Nat.blt 2 cat = true ∧ Nat.blt cat 8 = true) (k : Wx L emb d i nL (pc + 3) lv (.retAddr 0 :: st) th m) : Wx L emb d i nL pc lv st th m := by
  have h1 : 2 < cat := Nat.le_of_ble_eq_true h3.1
  have h2 : cat < 8 := Nat.le_of_ble_eq_true h3.2
  exact x_R hc (by omega) (fun _ => rfl) k
theorem x_ls {q a1 a2 : Nat} (hc : t_ctf i pc = some (cat, .ldc q, a1, a2)) (h3 : Nat.blt 2 cat = true ∧ Nat.blt cat 8 = true) (k : Wx L emb d i nL (pc + 2) lv (.ref (1001 + a1) :: st) th m) : Wx L emb d i nL pc lv st th m := by
  have h1 : 2 < cat := Nat.le_of_ble_eq_true h3.1
  have h2 : cat < 8 := Nat.le_of_ble_eq_true h3.2
  exact x_R hc (by omega) (fun _ => rfl) k
-- cells that are written
theorem x_pV {c o k q : Nat} {v : Value} {f : tH → Option ρ} (hc : t_ctf i pc = some (cat, .putfield q, c, k)) (h3 : ¬ cat < 3 ∧ ¬ cat < 8 ∧ cat < 15) (hf : t_fit cat v = true) (kk : ∀ t, pV th c o k v = some t → Wx L emb (d + 1) i nL (pc + 3) lv r t (f t)) : Wx L emb (d + 1) i nL pc lv (v :: .ref o :: r) th ((pV th c o k v).bind f) := x_bind fun t ht => by
  refine x_W hc h3 ?_ (kk t ht)
  unfold t_W
  dsimp only
  unfold pV at ht
  split at ht
  · rename_i c' fs he
    rw [he]
    dsimp only
    obtain ⟨c1, e⟩ := t_if_of ht
    rw [if_pos ⟨c1.1, c1.2, hf⟩, e]
  · cases ht
theorem x_pI {c o k q : Nat} {x : Int32} {f : tH → Option ρ} (hc : t_ctf i pc = some (8, .putfield q, c, k)) (kk : ∀ t, pI th c o k x = some t → Wx L emb (d + 1) i nL (pc + 3) lv r t (f t)) : Wx L emb (d + 1) i nL pc lv (.int x :: .ref o :: r) th ((pI th c o k x).bind f) := x_pV hc (by omega) rfl kk
theorem x_pB {c o k q : Nat} {x : Int32} {f : tH → Option ρ} (hc : t_ctf i pc = some (9, .putfield q, c, k)) (kk : ∀ t, pB th c o k x = some t → Wx L emb (d + 1) i nL (pc + 3) lv r t (f t)) : Wx L emb (d + 1) i nL pc lv (.int x :: .ref o :: r) th ((pB th c o k x).bind f) := by
  unfold pB at kk ⊢
  by_cases h : x = 0 ∨ x = 1
  · rw [if_pos h] at kk ⊢
    refine x_pV hc (by omega) ?_ kk
    rcases h with h | h <;> (rw [h]; rfl)
  · rw [if_neg h]
    exact x_none
theorem x_pR {c o k q : Nat} {x : Option Nat} {f : tH → Option ρ} (hc : t_ctf i pc = some (10, .putfield q, c, k)) (kk : ∀ t, pR th c o k x = some t → Wx L emb (d + 1) i nL (pc + 3) lv r t (f t)) : Wx L emb (d + 1) i nL pc lv (va_rf x :: .ref o :: r) th ((pR th c o k x).bind f) := x_pV hc (by omega) (by cases x <;> rfl) kk
theorem x_pRN {c o k q : Nat} {x : Nat} {f : tH → Option ρ} (hc : t_ctf i pc = some (10, .putfield q, c, k)) (kk : ∀ t, pR th c o k (some x) = some t → Wx L emb (d + 1) i nL (pc + 3) lv r t (f t)) : Wx L emb (d + 1) i nL pc lv (.ref x :: .ref o :: r) th ((pR th c o k (some x)).bind f) := x_pR hc kk
theorem x_sI {o : Nat} {j x : Int32} {f : tH → Option ρ} (hc : t_ctf i pc = some (cat, .iastore, a1, a2)) (h3 : Nat.blt 7 cat = true ∧ Nat.blt cat 15 = true) (kk : ∀ t, sI th o j x = some t → Wx L emb (d + 1) i nL (pc + 1) lv r t (f t)) : Wx L emb (d + 1) i nL pc lv (.int x :: .int j :: .ref o :: r) th ((sI th o j x).bind f) := x_bind fun t ht => by
  have h1 : 7 < cat := Nat.le_of_ble_eq_true h3.1
  have h2 : cat < 15 := Nat.le_of_ble_eq_true h3.2
  refine x_W hc (by omega) ?_ (kk t ht)
  unfold sI at ht
  split at ht
  · rename_i dd a he
    unfold t_W t_rii
    dsimp only
    rw [he]
    dsimp only
    obtain ⟨c, e⟩ := t_if_of ht
    rw [if_pos c, e]
  · cases ht
theorem x_sJ {o : Nat} {j : Int32} {x : Int64} {f : tH → Option ρ} (hc : t_ctf i pc = some (cat, .lastore, a1, a2)) (h3 : Nat.blt 7 cat = true ∧ Nat.blt cat 15 = true) (kk : ∀ t, sJ th o j x = some t → Wx L emb (d + 1) i nL (pc + 1) lv r t (f t)) : Wx L emb (d + 1) i nL pc lv (.long x :: .int j :: .ref o :: r) th ((sJ th o j x).bind f) := x_bind fun t ht => by
  have h1 : 7 < cat := Nat.le_of_ble_eq_true h3.1
  have h2 : cat < 15 := Nat.le_of_ble_eq_true h3.2
  refine x_W hc (by omega) ?_ (kk t ht)
  unfold sJ at ht
  split at ht
  · rename_i dd a he
    unfold t_W t_rij
    dsimp only
    rw [he]
    dsimp only
    obtain ⟨c, e⟩ := t_if_of ht
    rw [if_pos c, e]
  · cases ht
theorem x_cpI {q j k : Nat} {sp dp n : Int32} {f : tH → Option ρ} (hc : t_ctf i pc = some (13, .invokestatic q, a1, a2)) (h8 : Nat.ble (r.map fun v => v.category).sum 8 = true) (kk : ∀ t, cpI th j sp k dp n = some t → Wx L emb (d + 1) i nL (pc + 3) lv r t (f t)) : Wx L emb (d + 1) i nL pc lv (.int n :: .int dp :: .ref k :: .int sp :: .ref j :: r) th ((cpI th j sp k dp n).bind f) := x_bind fun t ht => by
  refine x_W hc (by omega) ?_ (kk t ht)
  unfold cpI at ht
  by_cases h0 : ¬ sp < 0 ∧ ¬ dp < 0 ∧ ¬ n < 0
  · rw [if_pos h0] at ht
    split at ht
    · rename_i d1 f1 he
      split at ht
      · rename_i d2 g2 he2
        obtain ⟨c, e⟩ := t_if_of ht
        unfold t_W
        dsimp only
        rw [if_pos ⟨h0.1, h0.2.1, h0.2.2, Nat.le_of_ble_eq_true h8⟩, if_pos rfl, he]
        dsimp only
        rw [he2]
        dsimp only
        rw [if_pos c, e]
      · cases ht
    · cases ht
  · rw [if_neg h0] at ht; cases ht
theorem x_cpJ {q j k : Nat} {sp dp n : Int32} {f : tH → Option ρ} (hc : t_ctf i pc = some (14, .invokestatic q, a1, a2)) (h8 : Nat.ble (r.map fun v => v.category).sum 8 = true) (kk : ∀ t, cpJ th j sp k dp n = some t → Wx L emb (d + 1) i nL (pc + 3) lv r t (f t)) : Wx L emb (d + 1) i nL pc lv (.int n :: .int dp :: .ref k :: .int sp :: .ref j :: r) th ((cpJ th j sp k dp n).bind f) := x_bind fun t ht => by
  refine x_W hc (by omega) ?_ (kk t ht)
  unfold cpJ at ht
  by_cases h0 : ¬ sp < 0 ∧ ¬ dp < 0 ∧ ¬ n < 0
  · rw [if_pos h0] at ht
    split at ht
    · rename_i d1 f1 he
      split at ht
      · rename_i d2 g2 he2
        obtain ⟨c, e⟩ := t_if_of ht
        unfold t_W
        dsimp only
        rw [if_pos ⟨h0.1, h0.2.1, h0.2.2, Nat.le_of_ble_eq_true h8⟩, if_neg (by omega), he]
        dsimp only
        rw [he2]
        dsimp only
        rw [if_pos c, e]
      · cases ht
    · cases ht
  · rw [if_neg h0] at ht; cases ht
-- what may fail
theorem x_dv {x y : Int32} {f : Int32 → Option ρ} (hc : t_ctf i pc = some (cat, .idiv, a1, a2)) (h3 : Nat.blt cat 3 = true) (kk : ∀ v, dvI x y = some v → Wx L emb d i nL (pc + 1) lv (.int v :: r) th (f v)) : Wx L emb d i nL pc lv (.int y :: .int x :: r) th ((dvI x y).bind f) := x_bind fun v hv => by
  refine x_P (pc + 1) hc h3 ?_ (kk v hv)
  obtain ⟨c, e⟩ := t_ifn_of hv
  show (if y = 0 then none else some (pc + 1, lv, Value.int (x / y) :: r)) = _
  rw [if_neg c, e]
theorem x_rm {x y : Int32} {f : Int32 → Option ρ} (hc : t_ctf i pc = some (cat, .irem, a1, a2)) (h3 : Nat.blt cat 3 = true) (kk : ∀ v, rmI x y = some v → Wx L emb d i nL (pc + 1) lv (.int v :: r) th (f v)) : Wx L emb d i nL pc lv (.int y :: .int x :: r) th ((rmI x y).bind f) := x_bind fun v hv => by
  refine x_P (pc + 1) hc h3 ?_ (kk v hv)
  obtain ⟨c, e⟩ := t_ifn_of hv
  show (if y = 0 then none else some (pc + 1, lv, Value.int (x - x / y * y) :: r)) = _
  rw [if_neg c, e]
theorem x_retV {x : ρ} {T : ρ → tH} (hc : t_ctf i pc = some (34, ins, a1, a2)) : Wx L (fun x => (none, T x)) d i nL pc lv [] (T x) (some x) := x_ret hc rfl rfl rfl
theorem x_retI {x : ρ} {V : ρ → Int32} {T : ρ → tH} (hc : t_ctf i pc = some (30, ins, a1, a2)) : Wx L (fun x => (some (.int (V x)), T x)) d i nL pc lv [.int (V x)] (T x) (some x) := x_ret hc rfl (by unfold t_ret; dsimp only; rw [if_pos (Or.inl rfl)]) rfl
theorem x_retJ {x : ρ} {V : ρ → Int64} {T : ρ → tH} (hc : t_ctf i pc = some (32, ins, a1, a2)) : Wx L (fun x => (some (.long (V x)), T x)) d i nL pc lv [.long (V x)] (T x) (some x) := x_ret hc rfl rfl rfl
theorem x_retR {x : ρ} {V : ρ → Option Nat} {T : ρ → tH} (hc : t_ctf i pc = some (33, ins, a1, a2)) : Wx L (fun x => (some (va_rf (V x)), T x)) d i nL pc lv [va_rf (V x)] (T x) (some x) := x_ret hc rfl (by cases V x <;> rfl) rfl
theorem x_retN {x : ρ} {V : ρ → Value} {n : Nat} {T : ρ → tH} (hc : t_ctf i pc = some (33, ins, a1, a2)) (he : V x = .ref n) : Wx L (fun x => (some (V x), T x)) d i nL pc lv [.ref n] (T x) (some x) := x_ret hc rfl rfl (by rw [he])
theorem x_rB {x : Int32} (hc : t_ctf i pc = some (31, ins, a1, a2)) : Wx L (fun x => (some (.int x), th)) d i nL pc lv [.int x] th (rB x) := by
  unfold rB
  refine x_ite (fun h => ?_) (fun _ => x_none)
  exact x_ret hc rfl (by unfold t_ret; dsimp only; rw [if_pos (Or.inr (Or.inl ⟨rfl, h⟩))]) rfl
theorem x_rC {x : Int32} (hc : t_ctf i pc = some (35, ins, a1, a2)) : Wx L (fun x => (some (.int x), th)) d i nL pc lv [.int x] th (rC x) := by
  unfold rC
  refine x_ite (fun h => ?_) (fun _ => x_none)
  exact x_ret hc rfl (by unfold t_ret; dsimp only; rw [if_pos (Or.inr (Or.inr (Or.inl ⟨rfl, h⟩)))]) rfl
theorem x_rY {x : Int32} (hc : t_ctf i pc = some (36, ins, a1, a2)) : Wx L (fun x => (some (.int x), th)) d i nL pc lv [.int x] th (rY x) := by
  unfold rY
  refine x_ite (fun h => ?_) (fun _ => x_none)
  exact x_ret hc rfl (by unfold t_ret; dsimp only; rw [if_pos (Or.inr (Or.inr (Or.inr ⟨rfl, h⟩)))]) rfl
theorem x_rBw {x : Int32} (hc : t_ctf i pc = some (31, ins, a1, a2)) : Wx L (fun x => (some (.int x.1), x.2)) d i nL pc lv [.int x] th ((rB x).bind fun y => some (y, th)) := by
  unfold rB
  by_cases h : x = 0 ∨ x = 1
  · rw [if_pos h]
    exact x_ret hc rfl (by unfold t_ret; dsimp only; rw [if_pos (Or.inr (Or.inl ⟨rfl, h⟩))]) rfl
  · rw [if_neg h]
    exact x_none
-- calls
theorem x_M (st' : List Value) (hc : t_ctf i pc = some (28, ins, a1, a2)) (hm : t_math a2 st = some st') (k : Wx L emb (d + 1) i nL (pc + 3) lv st' th m) : Wx L emb (d + 1) i nL pc lv st th m := fun hl hL x hx => by
  obtain ⟨h1, n, h2⟩ := k hl hL x hx
  refine ⟨h1, n + 1, fun lv2 hle => ?_⟩
  rw [t_exec_s]
  unfold t_step
  rw [hc]
  dsimp only
  rw [if_neg (by omega), if_neg (by omega), if_neg (by omega), if_neg (by omega), if_pos (by omega), if_neg (by omega), if_pos rfl, hm]
  exact h2 lv2 hle
theorem x_Mmax {x y : Int32} (hc : t_ctf i pc = some (28, ins, a1, 0)) (h8 : Nat.ble (t_sum r) 8 = true) (k : Wx L emb (d + 1) i nL (pc + 3) lv (.int (mxI x y) :: r) th m) : Wx L emb (d + 1) i nL pc lv (.int y :: .int x :: r) th m :=
  x_M _ hc (by show (if t_sum r ≤ 8 then some (Value.int (mxI x y) :: r) else none) = _; rw [if_pos (Nat.le_of_ble_eq_true h8)]) k
theorem x_Mmin {x y : Int32} (hc : t_ctf i pc = some (28, ins, a1, 1)) (h8 : Nat.ble (t_sum r) 8 = true) (k : Wx L emb (d + 1) i nL (pc + 3) lv (.int (mnI x y) :: r) th m) : Wx L emb (d + 1) i nL pc lv (.int y :: .int x :: r) th m :=
  x_M _ hc (by show (if t_sum r ≤ 8 then some (Value.int (mnI x y) :: r) else none) = _; rw [if_pos (Nat.le_of_ble_eq_true h8)]) k
theorem x_Mabs {x : Int32} (hc : t_ctf i pc = some (28, ins, a1, 2)) (h8 : Nat.ble (t_sum r) 8 = true) (k : Wx L emb (d + 1) i nL (pc + 3) lv (.int (abI x) :: r) th m) : Wx L emb (d + 1) i nL pc lv (.int x :: r) th m :=
  x_M _ hc (by show (if t_sum r ≤ 8 then some (Value.int (abI x) :: r) else none) = _; rw [if_pos (Nat.le_of_ble_eq_true h8)]) k
theorem x_call {ρ' : Type} {embj : ρ' → Option Value × tH} {j nL' na rc : Nat} {vs rest : List Value} {mj : Option ρ'} {f : ρ' → Option ρ} (hc : t_ctf i pc = some (cat, ins, j, a2)) (h3 : ¬ cat < 20 ∧ cat < 30 ∧ cat ≠ 26 ∧ cat ≠ 28) (hm : t_mif j = some (nL', na, rc)) (hcut : ∀ x, mj = some x → t_cut cat na rc st th = some (vs, rest)) (h8 : t_sum rest ≤ 8 ∧ (lg_sl vs).length ≤ nL') (hS : Wx L embj d j nL' 0 (lv_args 0 vs) [] th mj) (kk : ∀ v, mj = some v → Wx L emb (d + 1) i nL (pc + 3) lv ((embj v).1.toList ++ rest) (embj v).2 (f v)) : Wx L emb (d + 1) i nL pc lv st th (mj.bind f) := x_bind fun v hv => fun hl hL x hx => by
  obtain ⟨g1, n1, g2⟩ := hS hl hL v hv
  obtain ⟨h1, n, h2⟩ := kk v hv g1 hL x hx
  refine ⟨h1, n1 + n + 1, fun lv2 hle => ?_⟩
  rw [t_exec_s]
  unfold t_step
  rw [hc]
  dsimp only
  rw [if_neg (by omega), if_neg (by omega), if_neg (by omega), if_neg h3.1, if_pos h3.2.1, if_neg h3.2.2.1, if_neg h3.2.2.2, hm]
  dsimp only
  rw [hcut v hv]
  dsimp only
  rw [if_pos h8, t_mono n (g2 _ ⟨fun q hq => hq, t_args_nd vs 0⟩)]
  dsimp only
  rw [if_pos (Or.inl (by omega)), Nat.add_comm n1 n]
  exact t_mono n1 (h2 lv2 hle)
theorem x_callV {ρ' : Type} {V : ρ' → Value} {T : ρ' → tH} {j nL' na rc b : Nat} {vs rest : List Value} {mj : Option ρ'} {f : ρ' → Option ρ} (hc : t_ctf i pc = some (20, ins, j, a2)) (hm : t_mif j = some (nL', na, rc)) (hn : Nat.ble na st.length = true) (hd : st.drop na = .ref b :: rest) (ht : (st.take na).reverse = vs) (h8 : Nat.ble (t_sum rest) 8 = true ∧ Nat.ble (lg_sl (.ref b :: vs)).length nL' = true) (hcl : ∀ x, mj = some x → ∃ fs, th[b]? = some (.inr (rc, fs))) (hS : Wx L (fun x => (some (V x), T x)) d j nL' 0 (lv_args 0 (.ref b :: vs)) [] th mj) (kk : ∀ v, mj = some v → Wx L emb (d + 1) i nL (pc + 3) lv (V v :: rest) (T v) (f v)) : Wx L emb (d + 1) i nL pc lv st th (mj.bind f) := by
  refine x_call hc (by omega) hm (fun x hx => ?_) ⟨Nat.le_of_ble_eq_true h8.1, Nat.le_of_ble_eq_true h8.2⟩ hS kk
  obtain ⟨fs, hfs⟩ := hcl x hx
  have hn' : na ≤ st.length := Nat.le_of_ble_eq_true hn
  unfold t_cut
  rw [if_neg (by omega), if_neg (by omega), hd]
  dsimp only
  rw [if_neg (by omega), if_pos rfl, hfs]
  dsimp only
  rw [if_pos rfl, ht]
theorem x_callW {ρ' : Type} {T : ρ' → tH} {j nL' na rc b : Nat} {vs rest : List Value} {mj : Option ρ'} {f : ρ' → Option ρ} (hc : t_ctf i pc = some (20, ins, j, a2)) (hm : t_mif j = some (nL', na, rc)) (hn : Nat.ble na st.length = true) (hd : st.drop na = .ref b :: rest) (ht : (st.take na).reverse = vs) (h8 : Nat.ble (t_sum rest) 8 = true ∧ Nat.ble (lg_sl (.ref b :: vs)).length nL' = true) (hcl : ∀ x, mj = some x → ∃ fs, th[b]? = some (.inr (rc, fs))) (hS : Wx L (fun x => (none, T x)) d j nL' 0 (lv_args 0 (.ref b :: vs)) [] th mj) (kk : ∀ v, mj = some v → Wx L emb (d + 1) i nL (pc + 3) lv rest (T v) (f v)) : Wx L emb (d + 1) i nL pc lv st th (mj.bind f) := by
  refine x_call hc (by omega) hm (fun x hx => ?_) ⟨Nat.le_of_ble_eq_true h8.1, Nat.le_of_ble_eq_true h8.2⟩ hS kk
  obtain ⟨fs, hfs⟩ := hcl x hx
  have hn' : na ≤ st.length := Nat.le_of_ble_eq_true hn
  unfold t_cut
  rw [if_neg (by omega), if_neg (by omega), hd]
  dsimp only
  rw [if_neg (by omega), if_pos rfl, hfs]
  dsimp only
  rw [if_pos rfl, ht]
theorem x_callT {ρ' : Type} {V : ρ' → Value} {T : ρ' → tH} {j nL' na rc b : Nat} {vs rest : List Value} {mj : Option ρ'} {f : ρ' → Option ρ} (hc : t_ctf i pc = some (27, ins, j, a2)) (hm : t_mif j = some (nL', na, rc)) (hn : Nat.ble na st.length = true) (hd : st.drop na = .ref b :: rest) (ht : (st.take na).reverse = vs) (h8 : Nat.ble (t_sum rest) 8 = true ∧ Nat.ble (lg_sl (.ref b :: vs)).length nL' = true) (hcl : ∀ x, mj = some x → 1001 ≤ b ∧ b < 1011) (hS : Wx L (fun x => (some (V x), T x)) d j nL' 0 (lv_args 0 (.ref b :: vs)) [] th mj) (kk : ∀ v, mj = some v → Wx L emb (d + 1) i nL (pc + 3) lv (V v :: rest) (T v) (f v)) : Wx L emb (d + 1) i nL pc lv st th (mj.bind f) := by
  refine x_call hc (by omega) hm (fun x hx => ?_) ⟨Nat.le_of_ble_eq_true h8.1, Nat.le_of_ble_eq_true h8.2⟩ hS kk
  have hb := hcl x hx
  have hn' : na ≤ st.length := Nat.le_of_ble_eq_true hn
  unfold t_cut
  rw [if_neg (by omega), if_neg (by omega), hd]
  dsimp only
  rw [if_neg (by omega), if_neg (by omega), if_pos hb, ht]
theorem x_callS {ρ' : Type} {V : ρ' → Value} {T : ρ' → tH} {j nL' na rc : Nat} {vs rest : List Value} {mj : Option ρ'} {f : ρ' → Option ρ} (hc : t_ctf i pc = some (cat, ins, j, a2)) (h3 : (cat == 21 || cat == 24) = true) (hm : t_mif j = some (nL', na, rc)) (hn : Nat.ble na st.length = true) (hd : st.drop na = rest) (ht : (st.take na).reverse = vs) (h8 : Nat.ble (t_sum rest) 8 = true ∧ Nat.ble (lg_sl vs).length nL' = true) (hS : Wx L (fun x => (some (V x), T x)) d j nL' 0 (lv_args 0 vs) [] th mj) (kk : ∀ v, mj = some v → Wx L emb (d + 1) i nL (pc + 3) lv (V v :: rest) (T v) (f v)) : Wx L emb (d + 1) i nL pc lv st th (mj.bind f) := by
  have h3' : cat = 21 ∨ cat = 24 := by simpa using h3
  refine x_call hc (by omega) hm (fun x hx => ?_) ⟨Nat.le_of_ble_eq_true h8.1, Nat.le_of_ble_eq_true h8.2⟩ hS kk
  have hn' : na ≤ st.length := Nat.le_of_ble_eq_true hn
  unfold t_cut
  rw [if_neg (by omega), if_pos h3', hd, ht]
theorem x_callSW {ρ' : Type} {T : ρ' → tH} {j nL' na rc : Nat} {vs rest : List Value} {mj : Option ρ'} {f : ρ' → Option ρ} (hc : t_ctf i pc = some (cat, ins, j, a2)) (h3 : (cat == 21 || cat == 24) = true) (hm : t_mif j = some (nL', na, rc)) (hn : Nat.ble na st.length = true) (hd : st.drop na = rest) (ht : (st.take na).reverse = vs) (h8 : Nat.ble (t_sum rest) 8 = true ∧ Nat.ble (lg_sl vs).length nL' = true) (hS : Wx L (fun x => (none, T x)) d j nL' 0 (lv_args 0 vs) [] th mj) (kk : ∀ v, mj = some v → Wx L emb (d + 1) i nL (pc + 3) lv rest (T v) (f v)) : Wx L emb (d + 1) i nL pc lv st th (mj.bind f) := by
  have h3' : cat = 21 ∨ cat = 24 := by simpa using h3
  refine x_call hc (by omega) hm (fun x hx => ?_) ⟨Nat.le_of_ble_eq_true h8.1, Nat.le_of_ble_eq_true h8.2⟩ hS kk
  have hn' : na ≤ st.length := Nat.le_of_ble_eq_true hn
  unfold t_cut
  rw [if_neg (by omega), if_pos h3', hd, ht]
end WX
end
