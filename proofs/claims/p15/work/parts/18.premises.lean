-- ===== end of PART A; then your names; then what follows =====
/-! THE CLAIM OUT OF ONE WALK OF THE LAW'S BODY. Your part is whole_start (and what it stands on); all else here is the same for every law, but numbers. -/
def R_law : String := "NineTreesLaw"
def lw_P (b : Addr) (xs : List Int32) (args : Array Value) (s : State) : Prop := args = #[.ref b] ∧ s.IntsAt b xs ∧ xs.length ≤ 3072 ∧ (Jvm.Cond.and given_1 narrow_1).before args s = true
def lw_Q (_ : Array Value) (s : State) (o : Outcome) (t : State) : Prop := o = .returned (some (.int 1)) ∧ Framed s o t [] 600000 7302250
def lw_Z (below : List Frame) (a : Array Value) (s : State) : State → Prop := fun t => ∃ o, t.status = .running ∧ Ended t below o ∧ lw_Q a s o t
/-- the law's own end, with 1 on the stack, nothing written that was there before, its room as the claim has it -/
theorem lw_ret {p : Program} {l : Launch} {e : Env} {s : State} {m : MethodId} {below : List Frame} {meth : Method} {c : Code} {b : Nat} (hx : p.tables.exec = Jvm.exec) (hb : c.code = code) (hr : meth.sig.returnType = ret) (hlocks : meth.locks = false) {pc : Nat} {H : Heap} {ls : Array Slot} (hdg : decode code pc = .ok (.ireturn, 1)) : W p l e room_1 s m #[Value.ref b] below meth c H [] 600000 7302250 (lw_Z below #[Value.ref b] s) (F0 m pc ls [.int 1]) := by
  intro T hT X
  obtain ⟨fs, hret, hrun, hended, hW, hframe⟩ := X.leave (v := some (.int 1)) (hlocks := hlocks) (fun h => by rw [hr] at h; cases h)
  have hmeth' : T.vm.method? m = some meth := X.method'
  refine ⟨T.setFrames fs, ?_, .returned (some (.int 1)), hrun, hended, rfl, ⟨_, rfl⟩, hW, hframe⟩
  jvm_step X.here [X.here.top, hx, hb, hdg, hmeth', hr, ret, narrow_b1]
  (try refine ⟨rfl, ?_⟩); (try refine ⟨rfl, ?_⟩)
  first | (intro acts; rw [hret _ acts rfl rfl rfl]) | rw [hret _ _ rfl rfl rfl]
  exact Steps.refl _
/-- what holds at the law's entry: the machine, the code, the tables' words (any of lw_tbl by 'hts w (by decide +kernel)'), the script of L ints xs at the cell b, what the Statement gives of the start (any of its parts by flat_of_before) -/
def lw_At (p : Program) (s : State) (m : MethodId) (meth : Method) (c : Code) (b L : Nat) (xs : Nat → Int32) : Prop :=
  p.tables.exec = Jvm.exec ∧ c.code = code ∧ meth.sig.returnType = ret ∧ c.maxLocals = 4 ∧ s.vm.findClass R_law = some m.cls ∧ (∀ w ∈ lw_tbl, w.before #[Value.ref b] s = true) ∧ va_X b L xs s s.heap ∧ b < s.heap.size ∧ meth.locks = false ∧ (Jvm.Cond.and given_1 narrow_1).before #[Value.ref b] s = true ∧ meth.name = "law"

theorem s_in {ws : List Jvm.Cond} {ps : List Nat} (h : (ws.zip ps).all (fun q => decide (lw_tbl[q.2]? = some q.1)) = true) (hl : ws.length = ps.length) : ∀ w ∈ ws, w ∈ lw_tbl := by
  intro w hw
  obtain ⟨i, hi⟩ := List.getElem?_of_mem hw
  have hlt := (List.getElem?_eq_some_iff.mp hi).1
  have hp : ps[i]? = some ps[i] := List.getElem?_eq_getElem (by omega)
  have hz : (ws.zip ps)[i]? = some (w, ps[i]) := by
    rw [List.getElem?_zip_eq_some]
    exact ⟨hi, hp⟩
  exact List.mem_of_getElem? (of_decide_eq_true (List.all_eq_true.mp h _ (List.mem_of_getElem? hz)))
theorem s_nst : ∀ q ∈ t_nst, Jvm.Cond.methodLinkNest q.1 q.2.1 q.2.2 "NineTrees" ∈ lw_tbl := by
  have h := s_in (ws := t_nst.map (fun q => Jvm.Cond.methodLinkNest q.1 q.2.1 q.2.2 "NineTrees")) (ps := [106, 162, 182, 194, 199, 221, 242, 274, 435, 442, 769, 770, 799, 800, 847, 848]) (by decide +kernel) (by decide +kernel)
  exact fun q hq => h _ (List.mem_map.mpr ⟨q, hq, rfl⟩)
theorem s_str : ∀ q ∈ t_strs, Jvm.Cond.stringRef q.1 q.2.1 q.2.2.1 ∈ lw_tbl := by
  have h := s_in (ws := t_strs.map (fun q => Jvm.Cond.stringRef q.1 q.2.1 q.2.2.1)) (ps := [606, 671, 679, 685, 691, 1403, 1422, 1427, 1432, 1437]) (by decide +kernel) (by decide +kernel)
  exact fun q hq => h _ (List.mem_map.mpr ⟨q, hq, rfl⟩)
theorem s_ws : ∀ w ∈ ([.laysStatic "java/lang/String" "COMPACT_STRINGS" "Z", .initialized "java/lang/String", .laysStatic "jdk/internal/util/Preconditions" "SIOOBE_FORMATTER" "Ljava/util/function/BiFunction;", .initialized "jdk/internal/util/Preconditions", .arrayOver (.object "NineTrees$Shelf"), .arrayOver (.array .long), .arrayClass .int, .arrayClass .long] : List Jvm.Cond), w ∈ lw_tbl := s_in (ps := [620, 92, 636, 94, 272, 1102, 159, 295]) (by decide +kernel) (by decide +kernel)
def s_tma : Nat → Term := fun i => match i with | 0 => Term.string "NineTrees$Tape" 40 | 1 => Term.string "NineTrees$Tape" 49 | 2 => Term.string "NineTrees$Tape" 54 | 3 => Term.string "NineTrees$Tape" 59 | _ => Term.string "NineTrees$Tape" 64
theorem s_fivea {P : Nat → Prop} (h0 : P 0) (h1 : P 1) (h2 : P 2) (h3 : P 3) (h4 : P 4) : ∀ i, i < 5 → P i := by
  intro i hi
  match i, hi with
  | 0, _ => exact h0
  | 1, _ => exact h1
  | 2, _ => exact h2
  | 3, _ => exact h3
  | 4, _ => exact h4
  | n + 5, h => omega
set_option maxRecDepth 20000 in
set_option maxHeartbeats 4000000 in
theorem s_Sa {b : Nat} {s : State} {A : Nat → Prop} (hs : ∀ w ∈ flatC (Jvm.Cond.and given_1 narrow_1), w.before #[Value.ref b] s = true) (hA : ∀ a : Nat, a < s.heap.size → ¬ A a) : ∃ adK adV : Nat → Nat, vk_S 5 [4, 4, 4, 4, 4] (t_byt.take 5) adK adV A s s.heap ∧ ∀ i : Nat, i < 5 → (s_tma i).eval #[Value.ref b] s none [] s = some (.ref (adK i)) := by
  refine vk_Sof (tm := s_tma) (s_fivea (by decide) (by decide) (by decide) (by decide) (by decide)) (s_fivea (hs _ (by decide +kernel)) (hs _ (by decide +kernel)) (hs _ (by decide +kernel)) (hs _ (by decide +kernel)) (hs _ (by decide +kernel))) (s_fivea (hs _ (by decide +kernel)) (hs _ (by decide +kernel)) (hs _ (by decide +kernel)) (hs _ (by decide +kernel)) (hs _ (by decide +kernel))) (s_fivea (hs _ (by decide +kernel)) (hs _ (by decide +kernel)) (hs _ (by decide +kernel)) (hs _ (by decide +kernel)) (hs _ (by decide +kernel))) (s_fivea (hs _ (by decide +kernel)) (hs _ (by decide +kernel)) (hs _ (by decide +kernel)) (hs _ (by decide +kernel)) (hs _ (by decide +kernel))) (s_fivea (fun j hj => by match j, hj with | 0, _ => exact hs _ (by decide +kernel) | 1, _ => exact hs _ (by decide +kernel) | 2, _ => exact hs _ (by decide +kernel) | 3, _ => exact hs _ (by decide +kernel) | n + 4, h => exact absurd h (by show ¬ n + 4 < 4; omega)) (fun j hj => by match j, hj with | 0, _ => exact hs _ (by decide +kernel) | 1, _ => exact hs _ (by decide +kernel) | 2, _ => exact hs _ (by decide +kernel) | 3, _ => exact hs _ (by decide +kernel) | n + 4, h => exact absurd h (by show ¬ n + 4 < 4; omega)) (fun j hj => by match j, hj with | 0, _ => exact hs _ (by decide +kernel) | 1, _ => exact hs _ (by decide +kernel) | 2, _ => exact hs _ (by decide +kernel) | 3, _ => exact hs _ (by decide +kernel) | n + 4, h => exact absurd h (by show ¬ n + 4 < 4; omega)) (fun j hj => by match j, hj with | 0, _ => exact hs _ (by decide +kernel) | 1, _ => exact hs _ (by decide +kernel) | 2, _ => exact hs _ (by decide +kernel) | 3, _ => exact hs _ (by decide +kernel) | n + 4, h => exact absurd h (by show ¬ n + 4 < 4; omega)) (fun j hj => by match j, hj with | 0, _ => exact hs _ (by decide +kernel) | 1, _ => exact hs _ (by decide +kernel) | 2, _ => exact hs _ (by decide +kernel) | 3, _ => exact hs _ (by decide +kernel) | n + 4, h => exact absurd h (by show ¬ n + 4 < 4; omega))) (fun i j hi hj hne => by
    match i, hi, j, hj with
    | 0, _, 0, _ => exact absurd rfl hne
    | 0, _, 1, _ => exact Or.inl (hs _ (by decide +kernel))
    | 0, _, 2, _ => exact Or.inl (hs _ (by decide +kernel))
    | 0, _, 3, _ => exact Or.inl (hs _ (by decide +kernel))
    | 0, _, 4, _ => exact Or.inl (hs _ (by decide +kernel))
    | 1, _, 0, _ => exact Or.inr (hs _ (by decide +kernel))
    | 1, _, 1, _ => exact absurd rfl hne
    | 1, _, 2, _ => exact Or.inl (hs _ (by decide +kernel))
    | 1, _, 3, _ => exact Or.inl (hs _ (by decide +kernel))
    | 1, _, 4, _ => exact Or.inl (hs _ (by decide +kernel))
    | 2, _, 0, _ => exact Or.inr (hs _ (by decide +kernel))
    | 2, _, 1, _ => exact Or.inr (hs _ (by decide +kernel))
    | 2, _, 2, _ => exact absurd rfl hne
    | 2, _, 3, _ => exact Or.inl (hs _ (by decide +kernel))
    | 2, _, 4, _ => exact Or.inl (hs _ (by decide +kernel))
    | 3, _, 0, _ => exact Or.inr (hs _ (by decide +kernel))
    | 3, _, 1, _ => exact Or.inr (hs _ (by decide +kernel))
    | 3, _, 2, _ => exact Or.inr (hs _ (by decide +kernel))
    | 3, _, 3, _ => exact absurd rfl hne
    | 3, _, 4, _ => exact Or.inl (hs _ (by decide +kernel))
    | 4, _, 0, _ => exact Or.inr (hs _ (by decide +kernel))
    | 4, _, 1, _ => exact Or.inr (hs _ (by decide +kernel))
    | 4, _, 2, _ => exact Or.inr (hs _ (by decide +kernel))
    | 4, _, 3, _ => exact Or.inr (hs _ (by decide +kernel))
    | 4, _, 4, _ => exact absurd rfl hne
    | n + 5, h, _, _ => omega
    | _, _, n + 5, h => omega) hA
def s_tmb : Nat → Term := fun i => match i with | 0 => Term.string "NineTreesModel" 199 | 1 => Term.string "NineTreesModel" 207 | 2 => Term.string "NineTreesModel" 209 | 3 => Term.string "NineTreesModel" 214 | _ => Term.string "NineTreesModel" 219
theorem s_fiveb {P : Nat → Prop} (h0 : P 0) (h1 : P 1) (h2 : P 2) (h3 : P 3) (h4 : P 4) : ∀ i, i < 5 → P i := by
  intro i hi
  match i, hi with
  | 0, _ => exact h0
  | 1, _ => exact h1
  | 2, _ => exact h2
  | 3, _ => exact h3
  | 4, _ => exact h4
  | n + 5, h => omega
set_option maxRecDepth 20000 in
set_option maxHeartbeats 4000000 in
theorem s_Sb {b : Nat} {s : State} {A : Nat → Prop} (hs : ∀ w ∈ flatC (Jvm.Cond.and given_1 narrow_1), w.before #[Value.ref b] s = true) (hA : ∀ a : Nat, a < s.heap.size → ¬ A a) : ∃ adK adV : Nat → Nat, vk_S 5 [4, 4, 4, 4, 4] (t_byt.take 5) adK adV A s s.heap ∧ ∀ i : Nat, i < 5 → (s_tmb i).eval #[Value.ref b] s none [] s = some (.ref (adK i)) := by
  refine vk_Sof (tm := s_tmb) (s_fiveb (by decide) (by decide) (by decide) (by decide) (by decide)) (s_fiveb (hs _ (by decide +kernel)) (hs _ (by decide +kernel)) (hs _ (by decide +kernel)) (hs _ (by decide +kernel)) (hs _ (by decide +kernel))) (s_fiveb (hs _ (by decide +kernel)) (hs _ (by decide +kernel)) (hs _ (by decide +kernel)) (hs _ (by decide +kernel)) (hs _ (by decide +kernel))) (s_fiveb (hs _ (by decide +kernel)) (hs _ (by decide +kernel)) (hs _ (by decide +kernel)) (hs _ (by decide +kernel)) (hs _ (by decide +kernel))) (s_fiveb (hs _ (by decide +kernel)) (hs _ (by decide +kernel)) (hs _ (by decide +kernel)) (hs _ (by decide +kernel)) (hs _ (by decide +kernel))) (s_fiveb (fun j hj => by match j, hj with | 0, _ => exact hs _ (by decide +kernel) | 1, _ => exact hs _ (by decide +kernel) | 2, _ => exact hs _ (by decide +kernel) | 3, _ => exact hs _ (by decide +kernel) | n + 4, h => exact absurd h (by show ¬ n + 4 < 4; omega)) (fun j hj => by match j, hj with | 0, _ => exact hs _ (by decide +kernel) | 1, _ => exact hs _ (by decide +kernel) | 2, _ => exact hs _ (by decide +kernel) | 3, _ => exact hs _ (by decide +kernel) | n + 4, h => exact absurd h (by show ¬ n + 4 < 4; omega)) (fun j hj => by match j, hj with | 0, _ => exact hs _ (by decide +kernel) | 1, _ => exact hs _ (by decide +kernel) | 2, _ => exact hs _ (by decide +kernel) | 3, _ => exact hs _ (by decide +kernel) | n + 4, h => exact absurd h (by show ¬ n + 4 < 4; omega)) (fun j hj => by match j, hj with | 0, _ => exact hs _ (by decide +kernel) | 1, _ => exact hs _ (by decide +kernel) | 2, _ => exact hs _ (by decide +kernel) | 3, _ => exact hs _ (by decide +kernel) | n + 4, h => exact absurd h (by show ¬ n + 4 < 4; omega)) (fun j hj => by match j, hj with | 0, _ => exact hs _ (by decide +kernel) | 1, _ => exact hs _ (by decide +kernel) | 2, _ => exact hs _ (by decide +kernel) | 3, _ => exact hs _ (by decide +kernel) | n + 4, h => exact absurd h (by show ¬ n + 4 < 4; omega))) (fun i j hi hj hne => by
    match i, hi, j, hj with
    | 0, _, 0, _ => exact absurd rfl hne
    | 0, _, 1, _ => exact Or.inl (hs _ (by decide +kernel))
    | 0, _, 2, _ => exact Or.inl (hs _ (by decide +kernel))
    | 0, _, 3, _ => exact Or.inl (hs _ (by decide +kernel))
    | 0, _, 4, _ => exact Or.inl (hs _ (by decide +kernel))
    | 1, _, 0, _ => exact Or.inr (hs _ (by decide +kernel))
    | 1, _, 1, _ => exact absurd rfl hne
    | 1, _, 2, _ => exact Or.inl (hs _ (by decide +kernel))
    | 1, _, 3, _ => exact Or.inl (hs _ (by decide +kernel))
    | 1, _, 4, _ => exact Or.inl (hs _ (by decide +kernel))
    | 2, _, 0, _ => exact Or.inr (hs _ (by decide +kernel))
    | 2, _, 1, _ => exact Or.inr (hs _ (by decide +kernel))
    | 2, _, 2, _ => exact absurd rfl hne
    | 2, _, 3, _ => exact Or.inl (hs _ (by decide +kernel))
    | 2, _, 4, _ => exact Or.inl (hs _ (by decide +kernel))
    | 3, _, 0, _ => exact Or.inr (hs _ (by decide +kernel))
    | 3, _, 1, _ => exact Or.inr (hs _ (by decide +kernel))
    | 3, _, 2, _ => exact Or.inr (hs _ (by decide +kernel))
    | 3, _, 3, _ => exact absurd rfl hne
    | 3, _, 4, _ => exact Or.inl (hs _ (by decide +kernel))
    | 4, _, 0, _ => exact Or.inr (hs _ (by decide +kernel))
    | 4, _, 1, _ => exact Or.inr (hs _ (by decide +kernel))
    | 4, _, 2, _ => exact Or.inr (hs _ (by decide +kernel))
    | 4, _, 3, _ => exact Or.inr (hs _ (by decide +kernel))
    | 4, _, 4, _ => exact absurd rfl hne
    | n + 5, h, _, _ => omega
    | _, _, n + 5, h => omega) hA
