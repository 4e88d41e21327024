/-! ===== programs: what a method does, as a function of its arguments and the cells ===== -/
def gI (th : tH) (c o k : Nat) : Option Int32 := match th[o]? with
  | some (.inr (c', fs)) => if c' = c then (match fs[k]? with | some (.int x) => some x | _ => none) else none
  | _ => none
def gR (th : tH) (c o k : Nat) : Option (Option Nat) := match th[o]? with
  | some (.inr (c', fs)) => if c' = c then (match fs[k]? with | some (.ref x) => some (some x) | some .null => some none | _ => none) else none
  | _ => none
def gN (th : tH) (c o k : Nat) : Option Nat := (gR th c o k).bind id
def gC (th : tH) (c o : Nat) : Option Unit := match th[o]? with
  | some (.inr (c', _)) => if c' = c then some () else none
  | _ => none
def pV (th : tH) (c o k : Nat) (v : Value) : Option tH := match th[o]? with
  | some (.inr (c', fs)) => if c' = c ∧ k < fs.length then some (th.set o (.inr (c', fs.set k v))) else none
  | _ => none
def pI (th : tH) (c o k : Nat) (x : Int32) : Option tH := pV th c o k (.int x)
def pB (th : tH) (c o k : Nat) (x : Int32) : Option tH := if x = 0 ∨ x = 1 then pV th c o k (.int x) else none
def pR (th : tH) (c o k : Nat) (x : Option Nat) : Option tH := pV th c o k (va_rf x)
def aI (th : tH) (o : Nat) (i : Int32) : Option Int32 := match th[o]? with
  | some (.inl (d, .inl a)) => if d = 0 ∧ ¬ i < 0 then a[i.toNatClampNeg]? else none
  | _ => none
def aJ (th : tH) (o : Nat) (i : Int32) : Option Int64 := match th[o]? with
  | some (.inl (d, .inr (.inl a))) => if d = 1 ∧ ¬ i < 0 then a[i.toNatClampNeg]? else none
  | _ => none
def aR (th : tH) (o : Nat) (i : Int32) : Option (Option Nat) := match th[o]? with
  | some (.inl (d, .inr (.inr a))) => if (d = 2 ∨ d = 3) ∧ ¬ i < 0 then a[i.toNatClampNeg]? else none
  | _ => none
def aN (th : tH) (o : Nat) (i : Int32) : Option Nat := (aR th o i).bind id
def aB (o : Nat) (i : Int32) : Option Int32 := if (1021 ≤ o ∧ o < 1031) ∧ ¬ i < 0 then (t_byt.getD (o - 1021) [])[i.toNatClampNeg]? else none
def aL (th : tH) (o : Nat) : Option Int32 := if o = 1000 then none else if 1021 ≤ o ∧ o < 1031 then some (Int32.ofNat 4) else match th[o]? with
  | some (.inl (d, .inl a)) => if d = 0 then some (Int32.ofNat a.length) else none
  | some (.inl (d, .inr (.inl a))) => if d = 1 then some (Int32.ofNat a.length) else none
  | some (.inl (d, .inr (.inr a))) => if d = 2 then some (Int32.ofNat a.length) else none
  | _ => none
def xS (o : Nat) : Option Unit := if 1001 ≤ o ∧ o < 1011 then some () else none
def sI (th : tH) (o : Nat) (i x : Int32) : Option tH := match th[o]? with
  | some (.inl (d, .inl a)) => if d = 0 ∧ ¬ i < 0 ∧ i.toNatClampNeg < a.length then some (th.set o (.inl (0, .inl (a.set i.toNatClampNeg x)))) else none
  | _ => none
def sJ (th : tH) (o : Nat) (i : Int32) (x : Int64) : Option tH := match th[o]? with
  | some (.inl (d, .inr (.inl a))) => if d = 1 ∧ ¬ i < 0 ∧ i.toNatClampNeg < a.length then some (th.set o (.inl (1, .inr (.inl (a.set i.toNatClampNeg x))))) else none
  | _ => none
def cpI (th : tH) (j : Nat) (sp : Int32) (k : Nat) (dp n : Int32) : Option tH := if ¬ sp < 0 ∧ ¬ dp < 0 ∧ ¬ n < 0 then match th[j]? with
    | some (.inl (d, .inl f)) => match th[k]? with
      | some (.inl (d', .inl g)) => if d = 0 ∧ d' = 0 ∧ sp.toNatClampNeg + n.toNatClampNeg ≤ f.length ∧ dp.toNatClampNeg + n.toNatClampNeg ≤ g.length then some (th.set k (.inl (0, .inl (t_cpy f g sp.toNatClampNeg dp.toNatClampNeg n.toNatClampNeg)))) else none
      | _ => none
    | _ => none
  else none
def cpJ (th : tH) (j : Nat) (sp : Int32) (k : Nat) (dp n : Int32) : Option tH := if ¬ sp < 0 ∧ ¬ dp < 0 ∧ ¬ n < 0 then match th[j]? with
    | some (.inl (d, .inr (.inl f))) => match th[k]? with
      | some (.inl (d', .inr (.inl g))) => if d = 1 ∧ d' = 1 ∧ sp.toNatClampNeg + n.toNatClampNeg ≤ f.length ∧ dp.toNatClampNeg + n.toNatClampNeg ≤ g.length then some (th.set k (.inl (1, .inr (.inl (t_cpy f g sp.toNatClampNeg dp.toNatClampNeg n.toNatClampNeg))))) else none
      | _ => none
    | _ => none
  else none
def dvI (x y : Int32) : Option Int32 := if y = 0 then none else some (x / y)
def rmI (x y : Int32) : Option Int32 := if y = 0 then none else some (x - x / y * y)
def mxI (x y : Int32) : Int32 := if x < y then y else x
def mnI (x y : Int32) : Int32 := if y < x then y else x
def abI (x : Int32) : Int32 := if 0 ≤ x then x else 0 - x
def rB (x : Int32) : Option Int32 := if x = 0 ∨ x = 1 then some x else none
def rC (x : Int32) : Option Int32 := if 0 ≤ x ∧ x ≤ 65535 then some x else none
def rY (x : Int32) : Option Int32 := if x = 0 then some x else none
/-- a loop: the body says how it goes on, or how it ends -/
def lp {σ X R : Type} (F : σ → (σ → Option R) → (X → Option R) → Option R) : Nat → σ → (X → Option R) → Option R
  | 0, _, _ => none
  | n + 1, s, K => F s (fun s' => lp F n s' K) K
/-- a place where two ways meet -/
def jn {α β : Type} (a : α) (f : α → β) : β := f a
/-! ===== more variables do no harm ===== -/
def t_le (a b : tL) : Prop := (∀ q ∈ a, q ∈ b) ∧ (b.map Prod.fst).Nodup
theorem t_get_of {k : Nat} {v : Value} : ∀ {b : tL}, (b.map Prod.fst).Nodup → (k, v) ∈ b → t_get b k = some v
  | [], _, h => by cases h
  | q :: t, hn, h => by
    rw [List.map_cons, List.nodup_cons] at hn
    unfold t_get
    rcases List.mem_cons.mp h with h | h
    · subst h
      rw [if_pos rfl]
    · rw [if_neg (fun e => hn.1 (List.mem_map.mpr ⟨(k, v), h, e.symm⟩))]
      exact t_get_of hn.2 h
theorem t_le_get {a b : tL} {k : Nat} {v : Value} (h : t_le a b) (hg : t_get a k = some v) : t_get b k = some v := t_get_of h.2 (h.1 _ (t_get_mem hg))
theorem t_nd_cons {b : tL} {k : Nat} {v : Value} {p : Nat × Value → Bool} (hn : (b.map Prod.fst).Nodup) (hp : ∀ q, p q = true → q.1 ≠ k) : (((k, v) :: b.filter p).map Prod.fst).Nodup := by
  rw [List.map_cons, List.nodup_cons]
  refine ⟨fun h => ?_, List.Sublist.nodup ((List.filter_sublist).map _) hn⟩
  obtain ⟨q, hq, e⟩ := List.mem_map.mp h
  exact hp q (List.mem_filter.mp hq).2 e
theorem t_le_cons {a b : tL} {k : Nat} {v : Value} {p : Nat × Value → Bool} (h : t_le a b) (hp : ∀ q, p q = true → q.1 ≠ k) : t_le ((k, v) :: a.filter p) ((k, v) :: b.filter p) := by
  refine ⟨fun q hq => ?_, t_nd_cons h.2 hp⟩
  rcases List.mem_cons.mp hq with e | e
  · subst e; exact List.mem_cons_self
  · rw [List.mem_filter] at e
    exact List.mem_cons_of_mem _ (List.mem_filter.mpr ⟨h.1 q e.1, e.2⟩)
theorem t_le_set1 {a b : tL} {k : Nat} {v : Value} (h : t_le a b) : t_le (t_set1 a k v) (t_set1 b k v) := t_le_cons h (fun q hq e => by simp [e] at hq)
theorem t_le_set2 {a b : tL} {k : Nat} {v : Value} (h : t_le a b) : t_le (t_set2 a k v) (t_set2 b k v) := t_le_cons h (fun q hq e => by simp [e] at hq)
def t_tsw (pc : Nat) (d lo hi : Int) (offs : Array Int) (z : Int) : Option Nat := if z < lo ∨ hi < z then t_go pc d else match offs[(z - lo).toNat]? with
  | some off => t_go pc off
  | none => none
theorem t_P_tsw {pc a1 nL : Nat} {d lo hi : Int} {offs : Array Int} {lv : tL} {x : Int32} {r : List Value} : t_P (.tableswitch d lo hi offs) pc a1 nL lv (.int x :: r) = (t_tsw pc d lo hi offs x.toInt).map (fun t => (t, lv, r)) := by
  show (if x.toInt < lo ∨ hi < x.toInt then _ else _) = _
  unfold t_tsw
  split
  · rfl
  · cases offs[(x.toInt - lo).toNat]? <;> rfl
theorem t_P_mono {ins : Instr} {pc a1 nL pc1 : Nat} {lv lv' lv1 : tL} {st st1 : List Value} (hle : t_le lv lv') (h : t_P ins pc a1 nL lv st = some (pc1, lv1, st1)) : ∃ lv1', t_P ins pc a1 nL lv' st = some (pc1, lv1', st1) ∧ t_le lv1 lv1' := by
  cases ins
  case tableswitch dd lo hi offs =>
    obtain ⟨x, r, rfl, -⟩ := t_i1_of (show t_i1 st _ = _ from h)
    rw [t_P_tsw] at h ⊢
    cases hq : t_tsw pc dd lo hi offs x.toInt with
    | none => rw [hq] at h; cases h
    | some t => rw [hq] at h; cases h; exact ⟨_, rfl, hle⟩
  case astore k =>
    obtain ⟨x, r, rfl, h2⟩ := t_a1_of (show t_a1 st (fun x r => if k < nL then some (pc + 2, t_set1 lv k (va_rf x), r) else none) = _ from h)
    obtain ⟨c, e⟩ := t_if_of h2
    cases e
    refine ⟨t_set1 lv' k (va_rf x), ?_, t_le_set1 hle⟩
    cases x <;> exact if_pos c
  case astore_n k =>
    obtain ⟨x, r, rfl, h2⟩ := t_a1_of (show t_a1 st (fun x r => if k.val < nL then some (pc + 1, t_set1 lv k.val (va_rf x), r) else none) = _ from h)
    obtain ⟨c, e⟩ := t_if_of h2
    cases e
    refine ⟨t_set1 lv' k.val (va_rf x), ?_, t_le_set1 hle⟩
    cases x <;> exact if_pos c
  all_goals simp only [t_P] at h
  all_goals (try cases h)
  all_goals simp only [t_P]
  all_goals first
    | exact ⟨_, rfl, hle⟩
    | (obtain ⟨x, hx, h⟩ := t_gI_of h
       have hx' := t_le_get hle hx
       unfold t_gI
       rw [hx']
       first
         | (cases h; exact ⟨_, rfl, hle⟩)
         | (obtain ⟨c, e⟩ := t_if_of h
            cases e
            dsimp only
            rw [if_pos c]
            exact ⟨_, rfl, t_le_set1 hle⟩))
    | (obtain ⟨x, hx, h⟩ := t_gJ_of h
       have hx' := t_le_get hle hx
       unfold t_gJ
       rw [hx']
       cases h
       exact ⟨_, rfl, hle⟩)
    | (obtain ⟨x, hx, h⟩ := t_gA_of h
       have hx' := t_le_get hle hx
       unfold t_gA
       rw [hx']
       cases x <;> (cases h; exact ⟨_, rfl, hle⟩))
    | (obtain ⟨x, y, r, rfl, h⟩ := t_i2_of h
       first
         | (cases h; exact ⟨_, rfl, hle⟩)
         | (obtain ⟨c, e⟩ := t_ifn_of h
            cases e
            refine ⟨_, ?_, hle⟩
            show (if y = 0 then none else _) = _
            rw [if_neg c]))
    | (obtain ⟨x, y, r, rfl, h⟩ := t_j2_of h
       cases h
       exact ⟨_, rfl, hle⟩)
    | (obtain ⟨x, y, r, rfl, h⟩ := t_ji_of h
       cases h
       exact ⟨_, rfl, hle⟩)
    | (obtain ⟨x, r, rfl, h⟩ := t_i1_of h
       first
         | (cases h; exact ⟨_, rfl, hle⟩)
         | (obtain ⟨c, e⟩ := t_if_of h
            cases e
            refine ⟨_, ?_, t_le_set1 hle⟩
            show (if _ then some _ else none) = _
            rw [if_pos c]))
    | (obtain ⟨x, r, rfl, h⟩ := t_j1_of h
       first
         | (cases h; exact ⟨_, rfl, hle⟩)
         | (obtain ⟨c, e⟩ := t_if_of h
            cases e
            refine ⟨_, ?_, t_le_set2 hle⟩
            show (if _ then some _ else none) = _
            rw [if_pos c]))
    | (obtain ⟨x, r, rfl, h⟩ := t_a1_of h
       first
         | (cases x <;> (cases h; exact ⟨_, rfl, hle⟩))
         | (obtain ⟨c, e⟩ := t_if_of h
            cases e
            refine ⟨_, ?_, t_le_set1 hle⟩
            cases x <;> (unfold t_a1 va_rf; dsimp only; rw [if_pos c])))
    | (split at h
       · rename_i hst
         obtain ⟨c, e⟩ := t_if_of h
         cases e
         refine ⟨_, ?_, hle⟩
         try dsimp only
         rw [if_pos c]
       · cases h)
/-! ===== a run of a method that makes no cell does what its program says ===== -/
def Wx {ρ : Type} (L : Nat) (emb : ρ → Option Value × tH) (d i nL pc : Nat) (lv : tL) (st : List Value) (th : tH) (m : Option ρ) : Prop :=
  th.length = L → L ≤ 1000 → ∀ x, m = some x → (emb x).2.length = L ∧ ∃ n, ∀ lv', t_le lv lv' → t_exec t_ctf t_mif n none d i nL pc lv' st th 0 = some ((emb x).1, (emb x).2, 0)
def x_al : tL → tL → Prop
  | [], _ => True
  | q :: t, b => t_get b q.1 = some q.2 ∧ x_al t b
theorem x_al_mem : ∀ {a b : tL}, x_al a b → ∀ q ∈ a, q ∈ b
  | [], _, _, q, h => by cases h
  | p :: t, b, ha, q, h => by
    rcases List.mem_cons.mp h with e | e
    · subst e; exact t_get_mem ha.1
    · exact x_al_mem ha.2 q e
theorem t_args_ge : ∀ (vs : List Value) (i : Nat), ∀ k ∈ (lv_args i vs).map Prod.fst, i ≤ k
  | [], i, k, h => by cases h
  | v :: vs, i, k, h => by
    have h' : k ∈ i :: (lv_args (if v.category = 2 then i + 2 else i + 1) vs).map Prod.fst := h
    rcases List.mem_cons.mp h' with e | e
    · omega
    · have := t_args_ge vs _ k e
      split at this <;> omega
theorem t_args_nd : ∀ (vs : List Value) (i : Nat), ((lv_args i vs).map Prod.fst).Nodup
  | [], i => List.nodup_nil
  | v :: vs, i => by
    show (i :: (lv_args (if v.category = 2 then i + 2 else i + 1) vs).map Prod.fst).Nodup
    rw [List.nodup_cons]
    refine ⟨fun h => ?_, t_args_nd vs _⟩
    have := t_args_ge vs _ i h
    split at this <;> omega
theorem t_P_ald {k pc a1 nL : Nat} {lv : tL} {st : List Value} {x : Option Nat} (h : t_get lv k = some (va_rf x)) : t_P (.aload k) pc a1 nL lv st = some (pc + 2, lv, va_rf x :: st) := by
  unfold t_P t_gA
  dsimp only
  rw [h]
  cases x <;> rfl
theorem t_P_ald_n {k : Fin 4} {pc a1 nL : Nat} {lv : tL} {st : List Value} {x : Option Nat} (h : t_get lv k.val = some (va_rf x)) : t_P (.aload_n k) pc a1 nL lv st = some (pc + 1, lv, va_rf x :: st) := by
  unfold t_P t_gA
  dsimp only
  rw [h]
  cases x <;> rfl
section WX
variable {ρ : Type} {L : Nat} {emb : ρ → Option Value × tH} {d i nL pc cat a1 a2 pc' : Nat} {ins : Instr} {lv lv' : tL} {st st' r : List Value} {th : tH} {m m1 m2 : Option ρ}
theorem x_none : Wx L emb d i nL pc lv st th none := fun _ _ x h => by cases h
theorem x_lv (k : Wx L emb d i nL pc lv st th m) (ha : x_al lv lv') : Wx L emb d i nL pc lv' st th m := fun hl hL x hx => by
  obtain ⟨h1, n, h2⟩ := k hl hL x hx
  exact ⟨h1, n, fun lv2 hle => h2 lv2 ⟨fun q hq => hle.1 q (x_al_mem ha q hq), hle.2⟩⟩
theorem x_P (pc' : Nat) (hc : t_ctf i pc = some (cat, ins, a1, a2)) (h3 : Nat.blt cat 3 = true) (hp : t_P ins pc a1 nL lv st = some (pc', lv', st')) (k : Wx L emb d i nL pc' lv' st' th m) : Wx L emb d i nL pc lv st th m := fun hl hL x hx => by
  obtain ⟨h1, n, h2⟩ := k hl hL x hx
  refine ⟨h1, n + 1, fun lv2 hle => ?_⟩
  obtain ⟨lv3, e1, e2⟩ := t_P_mono hle hp
  rw [t_exec_s]
  unfold t_step
  rw [hc]
  dsimp only
  have h3' : cat < 3 := Nat.le_of_ble_eq_true h3
  rw [if_pos h3', e1]
  exact h2 lv3 e2
theorem x_R (hc : t_ctf i pc = some (cat, ins, a1, a2)) (h3 : ¬ cat < 3 ∧ cat < 8) (hp : th.length ≤ 1000 → t_R none cat ins pc a1 a2 st th = some (pc', st')) (k : Wx L emb d i nL pc' lv st' th m) : Wx L emb d i nL pc lv st th m := fun hl hL x hx => by
  obtain ⟨h1, n, h2⟩ := k hl hL x hx
  refine ⟨h1, n + 1, fun lv2 hle => ?_⟩
  rw [t_exec_s]
  unfold t_step
  rw [hc]
  dsimp only
  rw [if_neg h3.1, if_pos h3.2, hp (by omega)]
  exact h2 lv2 hle
theorem x_W {th2 : tH} (hc : t_ctf i pc = some (cat, ins, a1, a2)) (h3 : ¬ cat < 3 ∧ ¬ cat < 8 ∧ cat < 15) (hp : t_W cat ins pc a1 a2 st th = some (pc', st', th2)) (k : Wx L emb (d + 1) i nL pc' lv st' th2 m) : Wx L emb (d + 1) i nL pc lv st th m := fun hl hL x hx => by
  obtain ⟨h1, n, h2⟩ := k (by rw [t_W_len hp]; exact hl) hL x hx
  refine ⟨h1, n + 1, fun lv2 hle => ?_⟩
  rw [t_exec_s]
  unfold t_step
  rw [hc]
  dsimp only
  rw [if_neg h3.1, if_neg h3.2.1, if_pos h3.2.2, hp]
  exact h2 lv2 hle
theorem x_ret {x : ρ} {v : Option Value} (hc : t_ctf i pc = some (cat, ins, a1, a2)) (h3 : Nat.ble 30 cat = true) (hr : t_ret cat st = some v) (he : emb x = (v, th)) : Wx L emb d i nL pc lv st th (some x) := fun hl hL y hy => by
  cases hy
  rw [he]
  refine ⟨hl, 1, fun lv2 hle => ?_⟩
  have h3' : 30 ≤ cat := Nat.le_of_ble_eq_true h3
  show t_step t_ctf t_mif _ none d i nL pc lv2 st th 0 = _
  unfold t_step
  rw [hc]
  dsimp only
  rw [if_neg (by omega), if_neg (by omega), if_neg (by omega), if_neg (by omega), if_neg (by omega), hr]
theorem x_bind {α : Type} {g : Option α} {f : α → Option ρ} (k : ∀ v, g = some v → Wx L emb d i nL pc lv st th (f v)) : Wx L emb d i nL pc lv st th (g.bind f) := fun hl hL x hx => by
  cases hg : g with
  | none => rw [hg] at hx; cases hx
  | some v => rw [hg] at hx; exact k v hg hl hL x hx
theorem x_oS {α : Type} {o : α} {f : α → Option ρ} (k : Wx L emb d i nL pc lv st th (f o)) : Wx L emb d i nL pc lv st th ((some o).bind f) := k
theorem x_ite {c : Prop} [Decidable c] (k1 : c → Wx L emb d i nL pc lv st th m1) (k2 : ¬ c → Wx L emb d i nL pc lv st th m2) : Wx L emb d i nL pc lv st th (if c then m1 else m2) := by
  by_cases h : c
  · rw [if_pos h]; exact k1 h
  · rw [if_neg h]; exact k2 h
theorem x_jn {α : Type} {K : α → Option ρ} {B : (α → Option ρ) → Option ρ} (pj : Nat) (LV : α → tL) (SV : α → List Value) (TV : α → tH) (hK : ∀ v, Wx L emb d i nL pj (LV v) (SV v) (TV v) (K v)) (hB : ∀ j, (∀ v, Wx L emb d i nL pj (LV v) (SV v) (TV v) (j v)) → Wx L emb d i nL pc lv st th (B j)) : Wx L emb d i nL pc lv st th (jn K B) := hB K hK
theorem x_lp {σ X : Type} {F : σ → (σ → Option ρ) → (X → Option ρ) → Option ρ} {K : X → Option ρ} {ph : Nat} (px : Nat) (LV : σ → tL) (TH : σ → tH) (LX : X → tL) (TX : X → tH)
    (hF : ∀ (s : σ) (nx : σ → Option ρ), (∀ s', Wx L emb d i nL ph (LV s') [] (TH s') (nx s')) → ∀ (ex : X → Option ρ), (∀ x, Wx L emb d i nL px (LX x) [] (TX x) (ex x)) → Wx L emb d i nL ph (LV s) [] (TH s) (F s nx ex))
    (hK : ∀ x, Wx L emb d i nL px (LX x) [] (TX x) (K x)) : ∀ (n : Nat) (s : σ), Wx L emb d i nL ph (LV s) [] (TH s) (lp F n s K)
  | 0, s => x_none
  | n + 1, s => hF s _ (fun s' => x_lp px LV TH LX TX hF hK n s') _ hK
-- branches
theorem x_br {c : Jvm.ClassFile.Cond} {o : Int} {x y : Int32} {P : Prop} [Decidable P] (hP : (t_icmp c x y = true) ↔ P) (hc : t_ctf i pc = some (cat, .if_icmp c o, a1, a2)) (h3 : Nat.blt cat 3 = true) (k1 : P → Wx L emb d i nL a1 lv r th m1) (k2 : ¬ P → Wx L emb d i nL (pc + 3) lv r th m2) : Wx L emb d i nL pc lv (.int y :: .int x :: r) th (if P then m1 else m2) := by
  refine x_ite (fun h => ?_) (fun h => ?_)
  · refine x_P a1 hc h3 ?_ (k1 h)
    show some (if t_icmp c x y = true then a1 else pc + 3, lv, r) = _
    rw [if_pos (hP.mpr h)]
  · refine x_P (pc + 3) hc h3 ?_ (k2 h)
    show some (if t_icmp c x y = true then a1 else pc + 3, lv, r) = _
    rw [if_neg (fun e => h (hP.mp e))]
theorem x_br0 {c : Jvm.ClassFile.Cond} {o : Int} {x : Int32} {P : Prop} [Decidable P] (hP : (t_icmp c x 0 = true) ↔ P) (hc : t_ctf i pc = some (cat, .ifCond c o, a1, a2)) (h3 : Nat.blt cat 3 = true) (k1 : P → Wx L emb d i nL a1 lv r th m1) (k2 : ¬ P → Wx L emb d i nL (pc + 3) lv r th m2) : Wx L emb d i nL pc lv (.int x :: r) th (if P then m1 else m2) := by
  refine x_ite (fun h => ?_) (fun h => ?_)
  · refine x_P a1 hc h3 ?_ (k1 h)
    show some (if t_icmp c x 0 = true then a1 else pc + 3, lv, r) = _
    rw [if_pos (hP.mpr h)]
  · refine x_P (pc + 3) hc h3 ?_ (k2 h)
    show some (if t_icmp c x 0 = true then a1 else pc + 3, lv, r) = _
    rw [if_neg (fun e => h (hP.mp e))]
theorem x_sw {P : Prop} [Decidable P] : (if P then m1 else m2) = (if ¬ P then m2 else m1) := by
  by_cases h : P
  · rw [if_pos h, if_neg (fun e => e h)]
  · rw [if_neg h, if_pos h]
theorem x_ic_eq {o : Int} {x y : Int32} (hc : t_ctf i pc = some (cat, .if_icmp .eq o, a1, a2)) (h3 : Nat.blt cat 3 = true) (k1 : x = y → Wx L emb d i nL a1 lv r th m1) (k2 : ¬ x = y → Wx L emb d i nL (pc + 3) lv r th m2) : Wx L emb d i nL pc lv (.int y :: .int x :: r) th (if x = y then m1 else m2) := x_br (c := .eq) (by show decide (x = y) = true ↔ _; exact decide_eq_true_iff) hc h3 k1 k2
theorem x_ic_lt {o : Int} {x y : Int32} (hc : t_ctf i pc = some (cat, .if_icmp .lt o, a1, a2)) (h3 : Nat.blt cat 3 = true) (k1 : x < y → Wx L emb d i nL a1 lv r th m1) (k2 : ¬ x < y → Wx L emb d i nL (pc + 3) lv r th m2) : Wx L emb d i nL pc lv (.int y :: .int x :: r) th (if x < y then m1 else m2) := x_br (c := .lt) (by show decide (x < y) = true ↔ _; exact decide_eq_true_iff) hc h3 k1 k2
theorem x_ic_ge {o : Int} {x y : Int32} (hc : t_ctf i pc = some (cat, .if_icmp .ge o, a1, a2)) (h3 : Nat.blt cat 3 = true) (k1 : y ≤ x → Wx L emb d i nL a1 lv r th m1) (k2 : ¬ y ≤ x → Wx L emb d i nL (pc + 3) lv r th m2) : Wx L emb d i nL pc lv (.int y :: .int x :: r) th (if y ≤ x then m1 else m2) := x_br (c := .ge) (by show decide (y ≤ x) = true ↔ _; exact decide_eq_true_iff) hc h3 k1 k2
theorem x_ic_gt {o : Int} {x y : Int32} (hc : t_ctf i pc = some (cat, .if_icmp .gt o, a1, a2)) (h3 : Nat.blt cat 3 = true) (k1 : y < x → Wx L emb d i nL a1 lv r th m1) (k2 : ¬ y < x → Wx L emb d i nL (pc + 3) lv r th m2) : Wx L emb d i nL pc lv (.int y :: .int x :: r) th (if y < x then m1 else m2) := x_br (c := .gt) (by show decide (y < x) = true ↔ _; exact decide_eq_true_iff) hc h3 k1 k2
theorem x_ic_le {o : Int} {x y : Int32} (hc : t_ctf i pc = some (cat, .if_icmp .le o, a1, a2)) (h3 : Nat.blt cat 3 = true) (k1 : x ≤ y → Wx L emb d i nL a1 lv r th m1) (k2 : ¬ x ≤ y → Wx L emb d i nL (pc + 3) lv r th m2) : Wx L emb d i nL pc lv (.int y :: .int x :: r) th (if x ≤ y then m1 else m2) := x_br (c := .le) (by show decide (x ≤ y) = true ↔ _; exact decide_eq_true_iff) hc h3 k1 k2
theorem x_ic_ne {o : Int} {x y : Int32} (hc : t_ctf i pc = some (cat, .if_icmp .ne o, a1, a2)) (h3 : Nat.blt cat 3 = true) (k1 : x = y → Wx L emb d i nL (pc + 3) lv r th m1) (k2 : ¬ x = y → Wx L emb d i nL a1 lv r th m2) : Wx L emb d i nL pc lv (.int y :: .int x :: r) th (if x = y then m1 else m2) := by
  rw [x_sw]
  exact x_br (c := .ne) (P := ¬ x = y) (by show (!decide (x = y)) = true ↔ _; simp) hc h3 k2 (fun h => k1 (Decidable.not_not.mp h))
theorem x_if_eq {o : Int} {x : Int32} (hc : t_ctf i pc = some (cat, .ifCond .eq o, a1, a2)) (h3 : Nat.blt cat 3 = true) (k1 : x = 0 → Wx L emb d i nL a1 lv r th m1) (k2 : ¬ x = 0 → Wx L emb d i nL (pc + 3) lv r th m2) : Wx L emb d i nL pc lv (.int x :: r) th (if x = 0 then m1 else m2) := x_br0 (c := .eq) (by show decide (x = 0) = true ↔ _; exact decide_eq_true_iff) hc h3 k1 k2
theorem x_if_lt {o : Int} {x : Int32} (hc : t_ctf i pc = some (cat, .ifCond .lt o, a1, a2)) (h3 : Nat.blt cat 3 = true) (k1 : x < 0 → Wx L emb d i nL a1 lv r th m1) (k2 : ¬ x < 0 → Wx L emb d i nL (pc + 3) lv r th m2) : Wx L emb d i nL pc lv (.int x :: r) th (if x < 0 then m1 else m2) := x_br0 (c := .lt) (by show decide (x < 0) = true ↔ _; exact decide_eq_true_iff) hc h3 k1 k2
theorem x_if_ge {o : Int} {x : Int32} (hc : t_ctf i pc = some (cat, .ifCond .ge o, a1, a2)) (h3 : Nat.blt cat 3 = true) (k1 : 0 ≤ x → Wx L emb d i nL a1 lv r th m1) (k2 : ¬ 0 ≤ x → Wx L emb d i nL (pc + 3) lv r th m2) : Wx L emb d i nL pc lv (.int x :: r) th (if 0 ≤ x then m1 else m2) := x_br0 (c := .ge) (by show decide (0 ≤ x) = true ↔ _; exact decide_eq_true_iff) hc h3 k1 k2
theorem x_if_gt {o : Int} {x : Int32} (hc : t_ctf i pc = some (cat, .ifCond .gt o, a1, a2)) (h3 : Nat.blt cat 3 = true) (k1 : 0 < x → Wx L emb d i nL a1 lv r th m1) (k2 : ¬ 0 < x → Wx L emb d i nL (pc + 3) lv r th m2) : Wx L emb d i nL pc lv (.int x :: r) th (if 0 < x then m1 else m2) := x_br0 (c := .gt) (by show decide (0 < x) = true ↔ _; exact decide_eq_true_iff) hc h3 k1 k2
theorem x_if_le {o : Int} {x : Int32} (hc : t_ctf i pc = some (cat, .ifCond .le o, a1, a2)) (h3 : Nat.blt cat 3 = true) (k1 : x ≤ 0 → Wx L emb d i nL a1 lv r th m1) (k2 : ¬ x ≤ 0 → Wx L emb d i nL (pc + 3) lv r th m2) : Wx L emb d i nL pc lv (.int x :: r) th (if x ≤ 0 then m1 else m2) := x_br0 (c := .le) (by show decide (x ≤ 0) = true ↔ _; exact decide_eq_true_iff) hc h3 k1 k2
theorem x_if_ne {o : Int} {x : Int32} (hc : t_ctf i pc = some (cat, .ifCond .ne o, a1, a2)) (h3 : Nat.blt cat 3 = true) (k1 : x = 0 → Wx L emb d i nL (pc + 3) lv r th m1) (k2 : ¬ x = 0 → Wx L emb d i nL a1 lv r th m2) : Wx L emb d i nL pc lv (.int x :: r) th (if x = 0 then m1 else m2) := by
  rw [x_sw]
  exact x_br0 (c := .ne) (P := ¬ x = 0) (by show (!decide (x = 0)) = true ↔ _; simp) hc h3 k2 (fun h => k1 (Decidable.not_not.mp h))
theorem x_ts {dd lo hi : Int} {offs : Array Int} {x k : Int32} {t : Nat} (hx : x = k) (hk : t_tsw pc dd lo hi offs k.toInt = some t) : t_P (.tableswitch dd lo hi offs) pc a1 nL lv (.int x :: r) = some (t, lv, r) := by
  rw [t_P_tsw, hx, hk]; rfl
theorem x_td {dd lo hi : Int} {offs : Array Int} {x kl kh : Int32} {t : Nat} (hx : x < kl ∨ kh < x) (hk : kl.toInt = lo ∧ kh.toInt = hi ∧ t_go pc dd = some t) : t_P (.tableswitch dd lo hi offs) pc a1 nL lv (.int x :: r) = some (t, lv, r) := by
  rw [t_P_tsw]
  unfold t_tsw
  rw [if_pos, hk.2.2]
  · rfl
  · rw [← hk.1, ← hk.2.1]
    rcases hx with h | h
    · exact Or.inl (Int32.lt_iff_toInt_lt.mp h)
    · exact Or.inr (Int32.lt_iff_toInt_lt.mp h)
-- cells that are read
theorem x_gI {c o k : Nat} {q : Nat} {f : Int32 → Option ρ} (hc : t_ctf i pc = some (3, .getfield q, c, k)) (kk : ∀ v, gI th c o k = some v → Wx L emb d i nL (pc + 3) lv (.int v :: r) th (f v)) : Wx L emb d i nL pc lv (.ref o :: r) th ((gI th c o k).bind f) := x_bind fun v hv => by
  refine x_R hc (by omega) (fun _ => ?_) (kk v hv)
  unfold t_R t_r1
  dsimp only
  rw [if_pos rfl]
  unfold gI at hv
  split at hv
  · rename_i c' fs he
    rw [he]
    dsimp only
    split at hv
    · rename_i hcc
      rw [if_pos hcc]
      split at hv
      · rename_i x hf
        cases hv
        rw [hf]
        rfl
      · cases hv
    · cases hv
  · cases hv
theorem x_gR {c o k : Nat} {q : Nat} {f : Option Nat → Option ρ} (hc : t_ctf i pc = some (3, .getfield q, c, k)) (kk : ∀ v, gR th c o k = some v → Wx L emb d i nL (pc + 3) lv (va_rf v :: r) th (f v)) : Wx L emb d i nL pc lv (.ref o :: r) th ((gR th c o k).bind f) := x_bind fun v hv => by
  refine x_R hc (by omega) (fun _ => ?_) (kk v hv)
  unfold t_R t_r1
  dsimp only
  rw [if_pos rfl]
  unfold gR at hv
  split at hv
  · rename_i c' fs he
    rw [he]
    dsimp only
    split at hv
    · rename_i hcc
      rw [if_pos hcc]
      split at hv
      · rename_i x hf
        cases hv
        rw [hf]
        rfl
      · rename_i hf
        cases hv
        rw [hf]
        rfl
      · cases hv
    · cases hv
  · cases hv
theorem x_gN {c o k : Nat} {q : Nat} {f : Nat → Option ρ} (hc : t_ctf i pc = some (3, .getfield q, c, k)) (kk : ∀ v, gN th c o k = some v → Wx L emb d i nL (pc + 3) lv (.ref v :: r) th (f v)) : Wx L emb d i nL pc lv (.ref o :: r) th ((gN th c o k).bind f) := by
  have e : (gN th c o k).bind f = (gR th c o k).bind (fun x => x.bind f) := by
    unfold gN
    cases gR th c o k <;> rfl
  rw [e]
  refine x_gR hc (fun v hv => ?_)
  cases v with
  | none => exact x_none
  | some v => exact kk v (by unfold gN; rw [hv]; rfl)
theorem x_gC {c o : Nat} {f : Unit → Option ρ} (kk : Wx L emb d i nL pc lv st th (f ())) : Wx L emb d i nL pc lv st th ((gC th c o).bind f) := x_bind fun _ _ => kk
theorem gC_of {α : Type} {c o : Nat} {f : Unit → Option α} {x : α} (h : (gC th c o).bind f = some x) : ∃ fs, th[o]? = some (.inr (c, fs)) := by
  cases hg : gC th c o with
  | none => rw [hg] at h; cases h
  | some u =>
    unfold gC at hg
    split at hg
    · rename_i c' fs he
      split at hg
      · rename_i hcc
        exact ⟨fs, by rw [he, hcc]⟩
      · cases hg
    · cases hg
theorem xS_of {α : Type} {o : Nat} {f : Unit → Option α} {x : α} (h : (xS o).bind f = some x) : 1001 ≤ o ∧ o < 1011 := by
  cases hg : xS o with
  | none => rw [hg] at h; cases h
  | some u =>
    unfold xS at hg
    exact (t_if_of hg).1
theorem x_xS0 {o q a1 : Nat} {f : Unit → Option ρ} (hc : t_ctf i pc = some (7, .getfield q, a1, 0)) (kk : ∀ u, xS o = some u → Wx L emb d i nL (pc + 3) lv (.int 0 :: r) th (f u)) : Wx L emb d i nL pc lv (.ref o :: r) th ((xS o).bind f) := x_bind fun u hu => by
  refine x_R hc (by omega) (fun _ => ?_) (kk u hu)
  unfold t_R t_r1
  dsimp only
  rw [if_neg (by omega), if_pos (t_if_of hu).1, if_pos rfl]
theorem x_xS1 {o q a1 : Nat} {f : Unit → Option ρ} (hc : t_ctf i pc = some (7, .getfield q, a1, 1)) (kk : ∀ u, xS o = some u → Wx L emb d i nL (pc + 3) lv (.ref (o + 20) :: r) th (f u)) : Wx L emb d i nL pc lv (.ref o :: r) th ((xS o).bind f) := x_bind fun u hu => by
  refine x_R hc (by omega) (fun _ => ?_) (kk u hu)
  unfold t_R t_r1
  dsimp only
  rw [if_neg (by omega), if_pos (t_if_of hu).1, if_neg (by omega)]
theorem x_aI {o : Nat} {j : Int32} {f : Int32 → Option ρ} (hc : t_ctf i pc = some (cat, .iaload, a1, a2)) (h3 : Nat.blt 2 cat = true ∧ Nat.blt cat 8 = true) (kk : ∀ v, aI th o j = some v → Wx L emb d i nL (pc + 1) lv (.int v :: r) th (f v)) : Wx L emb d i nL pc lv (.int j :: .ref o :: r) th ((aI th o j).bind f) := x_bind fun v hv => by
  have h1 : 2 < cat := Nat.le_of_ble_eq_true h3.1
  have h2 : cat < 8 := Nat.le_of_ble_eq_true h3.2
  refine x_R hc (by omega) (fun hl => ?_) (kk v hv)
  unfold aI at hv
  split at hv
  · rename_i dd a he
    have ho : o < th.length := (List.getElem?_eq_some_iff.mp he).1
    unfold t_R t_ri
    dsimp only
    rw [if_neg (by omega), he]
    dsimp only
    split at hv
    · rename_i hcc
      rw [if_pos hcc, hv]
      rfl
    · cases hv
  · cases hv
theorem x_aJ {o : Nat} {j : Int32} {f : Int64 → Option ρ} (hc : t_ctf i pc = some (cat, .laload, a1, a2)) (h3 : Nat.blt 2 cat = true ∧ Nat.blt cat 8 = true) (kk : ∀ v, aJ th o j = some v → Wx L emb d i nL (pc + 1) lv (.long v :: r) th (f v)) : Wx L emb d i nL pc lv (.int j :: .ref o :: r) th ((aJ th o j).bind f) := x_bind fun v hv => by
  have h1 : 2 < cat := Nat.le_of_ble_eq_true h3.1
  have h2 : cat < 8 := Nat.le_of_ble_eq_true h3.2
  refine x_R hc (by omega) (fun hl => ?_) (kk v hv)
  unfold aJ at hv
  split at hv
  · rename_i dd a he
    unfold t_R t_ri
    dsimp only
    rw [he]
    dsimp only
    split at hv
    · rename_i hcc
      rw [if_pos hcc, hv]
      rfl
    · cases hv
  · cases hv
theorem x_aR {o : Nat} {j : Int32} {f : Option Nat → Option ρ} (hc : t_ctf i pc = some (cat, .aaload, a1, a2)) (h3 : Nat.blt 2 cat = true ∧ Nat.blt cat 8 = true) (kk : ∀ v, aR th o j = some v → Wx L emb d i nL (pc + 1) lv (va_rf v :: r) th (f v)) : Wx L emb d i nL pc lv (.int j :: .ref o :: r) th ((aR th o j).bind f) := x_bind fun v hv => by
  have h1 : 2 < cat := Nat.le_of_ble_eq_true h3.1
  have h2 : cat < 8 := Nat.le_of_ble_eq_true h3.2
  refine x_R hc (by omega) (fun hl => ?_) (kk v hv)
  unfold aR at hv
  split at hv
  · rename_i dd a he
    unfold t_R t_ri
    dsimp only
    rw [he]
    dsimp only
    split at hv
    · rename_i hcc
      rw [if_pos hcc, hv]
      rfl
    · cases hv
  · cases hv
theorem x_aN {o : Nat} {j : Int32} {f : Nat → Option ρ} (hc : t_ctf i pc = some (cat, .aaload, a1, a2)) (h3 : Nat.blt 2 cat = true ∧ Nat.blt cat 8 = true) (kk : ∀ v, aN th o j = some v → Wx L emb d i nL (pc + 1) lv (.ref v :: r) th (f v)) : Wx L emb d i nL pc lv (.int j :: .ref o :: r) th ((aN th o j).bind f) := by
  have e : (aN th o j).bind f = (aR th o j).bind (fun x => x.bind f) := by
    unfold aN
    cases aR th o j <;> rfl
  rw [e]
  refine x_aR hc h3 (fun v hv => ?_)
  cases v with
  | none => exact x_none
  | some v => exact kk v (by unfold aN; rw [hv]; rfl)
theorem x_aB {o : Nat} {j : Int32} {f : Int32 → Option ρ} (hc : t_ctf i pc = some (cat, .baload, a1, a2)) (h3 : Nat.blt 2 cat = true ∧ Nat.blt cat 8 = true) (kk : ∀ v, aB o j = some v → Wx L emb d i nL (pc + 1) lv (.int v :: r) th (f v)) : Wx L emb d i nL pc lv (.int j :: .ref o :: r) th ((aB o j).bind f) := x_bind fun v hv => by
  have h1 : 2 < cat := Nat.le_of_ble_eq_true h3.1
  have h2 : cat < 8 := Nat.le_of_ble_eq_true h3.2
  refine x_R hc (by omega) (fun hl => ?_) (kk v hv)
  unfold aB at hv
  unfold t_R t_ri
  dsimp only
  split at hv
  · rename_i hcc
    rw [if_pos hcc, hv]
    rfl
  · cases hv
theorem x_aL {o : Nat} {f : Int32 → Option ρ} (hc : t_ctf i pc = some (cat, .arraylength, a1, a2)) (h3 : Nat.blt 2 cat = true ∧ Nat.blt cat 8 = true) (kk : ∀ v, aL th o = some v → Wx L emb d i nL (pc + 1) lv (.int v :: r) th (f v)) : Wx L emb d i nL pc lv (.ref o :: r) th ((aL th o).bind f) := x_bind fun v hv => by
  have h1 : 2 < cat := Nat.le_of_ble_eq_true h3.1
  have h2 : cat < 8 := Nat.le_of_ble_eq_true h3.2
  refine x_R hc (by omega) (fun hl => ?_) (kk v hv)
  unfold aL at hv
  unfold t_R t_r1
  dsimp only
  by_cases c1 : o = 1000
  · rw [if_pos c1] at hv; cases hv
  rw [if_neg c1] at hv ⊢
  by_cases c2 : 1021 ≤ o ∧ o < 1031
  · rw [if_pos c2] at hv ⊢; cases hv; rfl
  rw [if_neg c2] at hv ⊢
  split at hv
  · rename_i he
    rw [he]
    dsimp only
    obtain ⟨c, e⟩ := t_if_of hv
    rw [if_pos c, e]
  · rename_i he
    rw [he]
    dsimp only
    obtain ⟨c, e⟩ := t_if_of hv
    rw [if_pos c, e]
  · rename_i he
    rw [he]
    dsimp only
    obtain ⟨c, e⟩ := t_if_of hv
    rw [if_pos c, e]
  · cases hv
theorem x_gs0 {q a2 : Nat} (hc : t_ctf i pc = some (cat, .getstatic q, 0, a2)) (h3 : Nat.blt 2 cat = true ∧ Nat.blt cat 8 = true) (k : Wx L emb d i nL (pc + 3) lv (.int 1 :: st) th m) : Wx L emb d i nL pc lv st th m := by
  have h1 : 2 < cat := Nat.le_of_ble_eq_true h3.1
  have h2 : cat < 8 := Nat.le_of_ble_eq_true h3.2
  exact x_R hc (by omega) (fun _ => rfl) k
theorem x_gs1 {q a2 : Nat} (hc : t_ctf i pc = some (cat, .getstatic q, 1, a2)) (h3 : Nat.blt 2 cat = true ∧ Nat.blt cat 8 = true) (k : Wx L emb d i nL (pc + 3) lv (.retAddr 0 :: st) th m) : Wx L emb d i nL pc lv st th m := by
  have h1 : 2 < cat := Nat.le_of_ble_eq_true h3.1
  have h2 : cat < 8 := Nat.le_of_ble_eq_true h3.2
  exact x_R hc (by omega) (fun _ => rfl) k
theorem x_ls {q a1 a2 : Nat} (hc : t_ctf i pc = some (cat, .ldc q, a1, a2)) (h3 : Nat.blt 2 cat = true ∧ Nat.blt cat 8 = true) (k : Wx L emb d i nL (pc + 2) lv (.ref (1001 + a1) :: st) th m) : Wx L emb d i nL pc lv st th m := by
  have h1 : 2 < cat := Nat.le_of_ble_eq_true h3.1
  have h2 : cat < 8 := Nat.le_of_ble_eq_true h3.2
  exact x_R hc (by omega) (fun _ => rfl) k
-- cells that are written
theorem x_pV {c o k q : Nat} {v : Value} {f : tH → Option ρ} (hc : t_ctf i pc = some (cat, .putfield q, c, k)) (h3 : ¬ cat < 3 ∧ ¬ cat < 8 ∧ cat < 15) (hf : t_fit cat v = true) (kk : ∀ t, pV th c o k v = some t → Wx L emb (d + 1) i nL (pc + 3) lv r t (f t)) : Wx L emb (d + 1) i nL pc lv (v :: .ref o :: r) th ((pV th c o k v).bind f) := x_bind fun t ht => by
  refine x_W hc h3 ?_ (kk t ht)
  unfold t_W
  dsimp only
  unfold pV at ht
  split at ht
  · rename_i c' fs he
    rw [he]
    dsimp only
    obtain ⟨c1, e⟩ := t_if_of ht
    rw [if_pos ⟨c1.1, c1.2, hf⟩, e]
  · cases ht
theorem x_pI {c o k q : Nat} {x : Int32} {f : tH → Option ρ} (hc : t_ctf i pc = some (8, .putfield q, c, k)) (kk : ∀ t, pI th c o k x = some t → Wx L emb (d + 1) i nL (pc + 3) lv r t (f t)) : Wx L emb (d + 1) i nL pc lv (.int x :: .ref o :: r) th ((pI th c o k x).bind f) := x_pV hc (by omega) rfl kk
theorem x_pB {c o k q : Nat} {x : Int32} {f : tH → Option ρ} (hc : t_ctf i pc = some (9, .putfield q, c, k)) (kk : ∀ t, pB th c o k x = some t → Wx L emb (d + 1) i nL (pc + 3) lv r t (f t)) : Wx L emb (d + 1) i nL pc lv (.int x :: .ref o :: r) th ((pB th c o k x).bind f) := by
  unfold pB at kk ⊢
  by_cases h : x = 0 ∨ x = 1
  · rw [if_pos h] at kk ⊢
    refine x_pV hc (by omega) ?_ kk
    rcases h with h | h <;> (rw [h]; rfl)
  · rw [if_neg h]
    exact x_none
theorem x_pR {c o k q : Nat} {x : Option Nat} {f : tH → Option ρ} (hc : t_ctf i pc = some (10, .putfield q, c, k)) (kk : ∀ t, pR th c o k x = some t → Wx L emb (d + 1) i nL (pc + 3) lv r t (f t)) : Wx L emb (d + 1) i nL pc lv (va_rf x :: .ref o :: r) th ((pR th c o k x).bind f) := x_pV hc (by omega) (by cases x <;> rfl) kk
theorem x_pRN {c o k q : Nat} {x : Nat} {f : tH → Option ρ} (hc : t_ctf i pc = some (10, .putfield q, c, k)) (kk : ∀ t, pR th c o k (some x) = some t → Wx L emb (d + 1) i nL (pc + 3) lv r t (f t)) : Wx L emb (d + 1) i nL pc lv (.ref x :: .ref o :: r) th ((pR th c o k (some x)).bind f) := x_pR hc kk
theorem x_sI {o : Nat} {j x : Int32} {f : tH → Option ρ} (hc : t_ctf i pc = some (cat, .iastore, a1, a2)) (h3 : Nat.blt 7 cat = true ∧ Nat.blt cat 15 = true) (kk : ∀ t, sI th o j x = some t → Wx L emb (d + 1) i nL (pc + 1) lv r t (f t)) : Wx L emb (d + 1) i nL pc lv (.int x :: .int j :: .ref o :: r) th ((sI th o j x).bind f) := x_bind fun t ht => by
  have h1 : 7 < cat := Nat.le_of_ble_eq_true h3.1
  have h2 : cat < 15 := Nat.le_of_ble_eq_true h3.2
  refine x_W hc (by omega) ?_ (kk t ht)
  unfold sI at ht
  split at ht
  · rename_i dd a he
    unfold t_W t_rii
    dsimp only
    rw [he]
    dsimp only
    obtain ⟨c, e⟩ := t_if_of ht
    rw [if_pos c, e]
  · cases ht
theorem x_sJ {o : Nat} {j : Int32} {x : Int64} {f : tH → Option ρ} (hc : t_ctf i pc = some (cat, .lastore, a1, a2)) (h3 : Nat.blt 7 cat = true ∧ Nat.blt cat 15 = true) (kk : ∀ t, sJ th o j x = some t → Wx L emb (d + 1) i nL (pc + 1) lv r t (f t)) : Wx L emb (d + 1) i nL pc lv (.long x :: .int j :: .ref o :: r) th ((sJ th o j x).bind f) := x_bind fun t ht => by
  have h1 : 7 < cat := Nat.le_of_ble_eq_true h3.1
  have h2 : cat < 15 := Nat.le_of_ble_eq_true h3.2
  refine x_W hc (by omega) ?_ (kk t ht)
  unfold sJ at ht
  split at ht
  · rename_i dd a he
    unfold t_W t_rij
    dsimp only
    rw [he]
    dsimp only
    obtain ⟨c, e⟩ := t_if_of ht
    rw [if_pos c, e]
  · cases ht
theorem x_cpI {q j k : Nat} {sp dp n : Int32} {f : tH → Option ρ} (hc : t_ctf i pc = some (13, .invokestatic q, a1, a2)) (h8 : Nat.ble (r.map fun v => v.category).sum 8 = true) (kk : ∀ t, cpI th j sp k dp n = some t → Wx L emb (d + 1) i nL (pc + 3) lv r t (f t)) : Wx L emb (d + 1) i nL pc lv (.int n :: .int dp :: .ref k :: .int sp :: .ref j :: r) th ((cpI th j sp k dp n).bind f) := x_bind fun t ht => by
  refine x_W hc (by omega) ?_ (kk t ht)
  unfold cpI at ht
  by_cases h0 : ¬ sp < 0 ∧ ¬ dp < 0 ∧ ¬ n < 0
  · rw [if_pos h0] at ht
    split at ht
    · rename_i d1 f1 he
      split at ht
      · rename_i d2 g2 he2
        obtain ⟨c, e⟩ := t_if_of ht
        unfold t_W
        dsimp only
        rw [if_pos ⟨h0.1, h0.2.1, h0.2.2, Nat.le_of_ble_eq_true h8⟩, if_pos rfl, he]
        dsimp only
        rw [he2]
        dsimp only
        rw [if_pos c, e]
      · cases ht
    · cases ht
  · rw [if_neg h0] at ht; cases ht
theorem x_cpJ {q j k : Nat} {sp dp n : Int32} {f : tH → Option ρ} (hc : t_ctf i pc = some (14, .invokestatic q, a1, a2)) (h8 : Nat.ble (r.map fun v => v.category).sum 8 = true) (kk : ∀ t, cpJ th j sp k dp n = some t → Wx L emb (d + 1) i nL (pc + 3) lv r t (f t)) : Wx L emb (d + 1) i nL pc lv (.int n :: .int dp :: .ref k :: .int sp :: .ref j :: r) th ((cpJ th j sp k dp n).bind f) := x_bind fun t ht => by
  refine x_W hc (by omega) ?_ (kk t ht)
  unfold cpJ at ht
  by_cases h0 : ¬ sp < 0 ∧ ¬ dp < 0 ∧ ¬ n < 0
  · rw [if_pos h0] at ht
    split at ht
    · rename_i d1 f1 he
      split at ht
      · rename_i d2 g2 he2
        obtain ⟨c, e⟩ := t_if_of ht
        unfold t_W
        dsimp only
        rw [if_pos ⟨h0.1, h0.2.1, h0.2.2, Nat.le_of_ble_eq_true h8⟩, if_neg (by omega), he]
        dsimp only
        rw [he2]
        dsimp only
        rw [if_pos c, e]
      · cases ht
    · cases ht
  · rw [if_neg h0] at ht; cases ht
-- what may fail
theorem x_dv {x y : Int32} {f : Int32 → Option ρ} (hc : t_ctf i pc = some (cat, .idiv, a1, a2)) (h3 : Nat.blt cat 3 = true) (kk : ∀ v, dvI x y = some v → Wx L emb d i nL (pc + 1) lv (.int v :: r) th (f v)) : Wx L emb d i nL pc lv (.int y :: .int x :: r) th ((dvI x y).bind f) := x_bind fun v hv => by
  refine x_P (pc + 1) hc h3 ?_ (kk v hv)
  obtain ⟨c, e⟩ := t_ifn_of hv
  show (if y = 0 then none else some (pc + 1, lv, Value.int (x / y) :: r)) = _
  rw [if_neg c, e]
theorem x_rm {x y : Int32} {f : Int32 → Option ρ} (hc : t_ctf i pc = some (cat, .irem, a1, a2)) (h3 : Nat.blt cat 3 = true) (kk : ∀ v, rmI x y = some v → Wx L emb d i nL (pc + 1) lv (.int v :: r) th (f v)) : Wx L emb d i nL pc lv (.int y :: .int x :: r) th ((rmI x y).bind f) := x_bind fun v hv => by
  refine x_P (pc + 1) hc h3 ?_ (kk v hv)
  obtain ⟨c, e⟩ := t_ifn_of hv
  show (if y = 0 then none else some (pc + 1, lv, Value.int (x - x / y * y) :: r)) = _
  rw [if_neg c, e]
theorem x_retV {x : ρ} {T : ρ → tH} (hc : t_ctf i pc = some (34, ins, a1, a2)) : Wx L (fun x => (none, T x)) d i nL pc lv [] (T x) (some x) := x_ret hc rfl rfl rfl
theorem x_retI {x : ρ} {V : ρ → Int32} {T : ρ → tH} (hc : t_ctf i pc = some (30, ins, a1, a2)) : Wx L (fun x => (some (.int (V x)), T x)) d i nL pc lv [.int (V x)] (T x) (some x) := x_ret hc rfl (by unfold t_ret; dsimp only; rw [if_pos (Or.inl rfl)]) rfl
theorem x_retJ {x : ρ} {V : ρ → Int64} {T : ρ → tH} (hc : t_ctf i pc = some (32, ins, a1, a2)) : Wx L (fun x => (some (.long (V x)), T x)) d i nL pc lv [.long (V x)] (T x) (some x) := x_ret hc rfl rfl rfl
theorem x_retR {x : ρ} {V : ρ → Option Nat} {T : ρ → tH} (hc : t_ctf i pc = some (33, ins, a1, a2)) : Wx L (fun x => (some (va_rf (V x)), T x)) d i nL pc lv [va_rf (V x)] (T x) (some x) := x_ret hc rfl (by cases V x <;> rfl) rfl
theorem x_retN {x : ρ} {V : ρ → Value} {n : Nat} {T : ρ → tH} (hc : t_ctf i pc = some (33, ins, a1, a2)) (he : V x = .ref n) : Wx L (fun x => (some (V x), T x)) d i nL pc lv [.ref n] (T x) (some x) := x_ret hc rfl rfl (by rw [he])
theorem x_rB {x : Int32} (hc : t_ctf i pc = some (31, ins, a1, a2)) : Wx L (fun x => (some (.int x), th)) d i nL pc lv [.int x] th (rB x) := by
  unfold rB
  refine x_ite (fun h => ?_) (fun _ => x_none)
  exact x_ret hc rfl (by unfold t_ret; dsimp only; rw [if_pos (Or.inr (Or.inl ⟨rfl, h⟩))]) rfl
theorem x_rC {x : Int32} (hc : t_ctf i pc = some (35, ins, a1, a2)) : Wx L (fun x => (some (.int x), th)) d i nL pc lv [.int x] th (rC x) := by
  unfold rC
  refine x_ite (fun h => ?_) (fun _ => x_none)
  exact x_ret hc rfl (by unfold t_ret; dsimp only; rw [if_pos (Or.inr (Or.inr (Or.inl ⟨rfl, h⟩)))]) rfl
theorem x_rY {x : Int32} (hc : t_ctf i pc = some (36, ins, a1, a2)) : Wx L (fun x => (some (.int x), th)) d i nL pc lv [.int x] th (rY x) := by
  unfold rY
  refine x_ite (fun h => ?_) (fun _ => x_none)
  exact x_ret hc rfl (by unfold t_ret; dsimp only; rw [if_pos (Or.inr (Or.inr (Or.inr ⟨rfl, h⟩)))]) rfl
theorem x_rBw {x : Int32} (hc : t_ctf i pc = some (31, ins, a1, a2)) : Wx L (fun x => (some (.int x.1), x.2)) d i nL pc lv [.int x] th ((rB x).bind fun y => some (y, th)) := by
  unfold rB
  by_cases h : x = 0 ∨ x = 1
  · rw [if_pos h]
    exact x_ret hc rfl (by unfold t_ret; dsimp only; rw [if_pos (Or.inr (Or.inl ⟨rfl, h⟩))]) rfl
  · rw [if_neg h]
    exact x_none
-- calls
theorem x_M (st' : List Value) (hc : t_ctf i pc = some (28, ins, a1, a2)) (hm : t_math a2 st = some st') (k : Wx L emb (d + 1) i nL (pc + 3) lv st' th m) : Wx L emb (d + 1) i nL pc lv st th m := fun hl hL x hx => by
  obtain ⟨h1, n, h2⟩ := k hl hL x hx
  refine ⟨h1, n + 1, fun lv2 hle => ?_⟩
  rw [t_exec_s]
  unfold t_step
  rw [hc]
  dsimp only
  rw [if_neg (by omega), if_neg (by omega), if_neg (by omega), if_neg (by omega), if_pos (by omega), if_neg (by omega), if_pos rfl, hm]
  exact h2 lv2 hle
theorem x_Mmax {x y : Int32} (hc : t_ctf i pc = some (28, ins, a1, 0)) (h8 : Nat.ble (t_sum r) 8 = true) (k : Wx L emb (d + 1) i nL (pc + 3) lv (.int (mxI x y) :: r) th m) : Wx L emb (d + 1) i nL pc lv (.int y :: .int x :: r) th m :=
  x_M _ hc (by show (if t_sum r ≤ 8 then some (Value.int (mxI x y) :: r) else none) = _; rw [if_pos (Nat.le_of_ble_eq_true h8)]) k
theorem x_Mmin {x y : Int32} (hc : t_ctf i pc = some (28, ins, a1, 1)) (h8 : Nat.ble (t_sum r) 8 = true) (k : Wx L emb (d + 1) i nL (pc + 3) lv (.int (mnI x y) :: r) th m) : Wx L emb (d + 1) i nL pc lv (.int y :: .int x :: r) th m :=
  x_M _ hc (by show (if t_sum r ≤ 8 then some (Value.int (mnI x y) :: r) else none) = _; rw [if_pos (Nat.le_of_ble_eq_true h8)]) k
theorem x_Mabs {x : Int32} (hc : t_ctf i pc = some (28, ins, a1, 2)) (h8 : Nat.ble (t_sum r) 8 = true) (k : Wx L emb (d + 1) i nL (pc + 3) lv (.int (abI x) :: r) th m) : Wx L emb (d + 1) i nL pc lv (.int x :: r) th m :=
  x_M _ hc (by show (if t_sum r ≤ 8 then some (Value.int (abI x) :: r) else none) = _; rw [if_pos (Nat.le_of_ble_eq_true h8)]) k
theorem x_call {ρ' : Type} {embj : ρ' → Option Value × tH} {j nL' na rc : Nat} {vs rest : List Value} {mj : Option ρ'} {f : ρ' → Option ρ} (hc : t_ctf i pc = some (cat, ins, j, a2)) (h3 : ¬ cat < 20 ∧ cat < 30 ∧ cat ≠ 26 ∧ cat ≠ 28) (hm : t_mif j = some (nL', na, rc)) (hcut : ∀ x, mj = some x → t_cut cat na rc st th = some (vs, rest)) (h8 : t_sum rest ≤ 8 ∧ (lg_sl vs).length ≤ nL') (hS : Wx L embj d j nL' 0 (lv_args 0 vs) [] th mj) (kk : ∀ v, mj = some v → Wx L emb (d + 1) i nL (pc + 3) lv ((embj v).1.toList ++ rest) (embj v).2 (f v)) : Wx L emb (d + 1) i nL pc lv st th (mj.bind f) := x_bind fun v hv => fun hl hL x hx => by
  obtain ⟨g1, n1, g2⟩ := hS hl hL v hv
  obtain ⟨h1, n, h2⟩ := kk v hv g1 hL x hx
  refine ⟨h1, n1 + n + 1, fun lv2 hle => ?_⟩
  rw [t_exec_s]
  unfold t_step
  rw [hc]
  dsimp only
  rw [if_neg (by omega), if_neg (by omega), if_neg (by omega), if_neg h3.1, if_pos h3.2.1, if_neg h3.2.2.1, if_neg h3.2.2.2, hm]
  dsimp only
  rw [hcut v hv]
  dsimp only
  rw [if_pos h8, t_mono n (g2 _ ⟨fun q hq => hq, t_args_nd vs 0⟩)]
  dsimp only
  rw [if_pos (Or.inl (by omega)), Nat.add_comm n1 n]
  exact t_mono n1 (h2 lv2 hle)
theorem x_callV {ρ' : Type} {V : ρ' → Value} {T : ρ' → tH} {j nL' na rc b : Nat} {vs rest : List Value} {mj : Option ρ'} {f : ρ' → Option ρ} (hc : t_ctf i pc = some (20, ins, j, a2)) (hm : t_mif j = some (nL', na, rc)) (hn : Nat.ble na st.length = true) (hd : st.drop na = .ref b :: rest) (ht : (st.take na).reverse = vs) (h8 : Nat.ble (t_sum rest) 8 = true ∧ Nat.ble (lg_sl (.ref b :: vs)).length nL' = true) (hcl : ∀ x, mj = some x → ∃ fs, th[b]? = some (.inr (rc, fs))) (hS : Wx L (fun x => (some (V x), T x)) d j nL' 0 (lv_args 0 (.ref b :: vs)) [] th mj) (kk : ∀ v, mj = some v → Wx L emb (d + 1) i nL (pc + 3) lv (V v :: rest) (T v) (f v)) : Wx L emb (d + 1) i nL pc lv st th (mj.bind f) := by
  refine x_call hc (by omega) hm (fun x hx => ?_) ⟨Nat.le_of_ble_eq_true h8.1, Nat.le_of_ble_eq_true h8.2⟩ hS kk
  obtain ⟨fs, hfs⟩ := hcl x hx
  have hn' : na ≤ st.length := Nat.le_of_ble_eq_true hn
  unfold t_cut
  rw [if_neg (by omega), if_neg (by omega), hd]
  dsimp only
  rw [if_neg (by omega), if_pos rfl, hfs]
  dsimp only
  rw [if_pos rfl, ht]
theorem x_callW {ρ' : Type} {T : ρ' → tH} {j nL' na rc b : Nat} {vs rest : List Value} {mj : Option ρ'} {f : ρ' → Option ρ} (hc : t_ctf i pc = some (20, ins, j, a2)) (hm : t_mif j = some (nL', na, rc)) (hn : Nat.ble na st.length = true) (hd : st.drop na = .ref b :: rest) (ht : (st.take na).reverse = vs) (h8 : Nat.ble (t_sum rest) 8 = true ∧ Nat.ble (lg_sl (.ref b :: vs)).length nL' = true) (hcl : ∀ x, mj = some x → ∃ fs, th[b]? = some (.inr (rc, fs))) (hS : Wx L (fun x => (none, T x)) d j nL' 0 (lv_args 0 (.ref b :: vs)) [] th mj) (kk : ∀ v, mj = some v → Wx L emb (d + 1) i nL (pc + 3) lv rest (T v) (f v)) : Wx L emb (d + 1) i nL pc lv st th (mj.bind f) := by
  refine x_call hc (by omega) hm (fun x hx => ?_) ⟨Nat.le_of_ble_eq_true h8.1, Nat.le_of_ble_eq_true h8.2⟩ hS kk
  obtain ⟨fs, hfs⟩ := hcl x hx
  have hn' : na ≤ st.length := Nat.le_of_ble_eq_true hn
  unfold t_cut
  rw [if_neg (by omega), if_neg (by omega), hd]
  dsimp only
  rw [if_neg (by omega), if_pos rfl, hfs]
  dsimp only
  rw [if_pos rfl, ht]
theorem x_callT {ρ' : Type} {V : ρ' → Value} {T : ρ' → tH} {j nL' na rc b : Nat} {vs rest : List Value} {mj : Option ρ'} {f : ρ' → Option ρ} (hc : t_ctf i pc = some (27, ins, j, a2)) (hm : t_mif j = some (nL', na, rc)) (hn : Nat.ble na st.length = true) (hd : st.drop na = .ref b :: rest) (ht : (st.take na).reverse = vs) (h8 : Nat.ble (t_sum rest) 8 = true ∧ Nat.ble (lg_sl (.ref b :: vs)).length nL' = true) (hcl : ∀ x, mj = some x → 1001 ≤ b ∧ b < 1011) (hS : Wx L (fun x => (some (V x), T x)) d j nL' 0 (lv_args 0 (.ref b :: vs)) [] th mj) (kk : ∀ v, mj = some v → Wx L emb (d + 1) i nL (pc + 3) lv (V v :: rest) (T v) (f v)) : Wx L emb (d + 1) i nL pc lv st th (mj.bind f) := by
  refine x_call hc (by omega) hm (fun x hx => ?_) ⟨Nat.le_of_ble_eq_true h8.1, Nat.le_of_ble_eq_true h8.2⟩ hS kk
  have hb := hcl x hx
  have hn' : na ≤ st.length := Nat.le_of_ble_eq_true hn
  unfold t_cut
  rw [if_neg (by omega), if_neg (by omega), hd]
  dsimp only
  rw [if_neg (by omega), if_neg (by omega), if_pos hb, ht]
theorem x_callS {ρ' : Type} {V : ρ' → Value} {T : ρ' → tH} {j nL' na rc : Nat} {vs rest : List Value} {mj : Option ρ'} {f : ρ' → Option ρ} (hc : t_ctf i pc = some (cat, ins, j, a2)) (h3 : (cat == 21 || cat == 24) = true) (hm : t_mif j = some (nL', na, rc)) (hn : Nat.ble na st.length = true) (hd : st.drop na = rest) (ht : (st.take na).reverse = vs) (h8 : Nat.ble (t_sum rest) 8 = true ∧ Nat.ble (lg_sl vs).length nL' = true) (hS : Wx L (fun x => (some (V x), T x)) d j nL' 0 (lv_args 0 vs) [] th mj) (kk : ∀ v, mj = some v → Wx L emb (d + 1) i nL (pc + 3) lv (V v :: rest) (T v) (f v)) : Wx L emb (d + 1) i nL pc lv st th (mj.bind f) := by
  have h3' : cat = 21 ∨ cat = 24 := by simpa using h3
  refine x_call hc (by omega) hm (fun x hx => ?_) ⟨Nat.le_of_ble_eq_true h8.1, Nat.le_of_ble_eq_true h8.2⟩ hS kk
  have hn' : na ≤ st.length := Nat.le_of_ble_eq_true hn
  unfold t_cut
  rw [if_neg (by omega), if_pos h3', hd, ht]
theorem x_callSW {ρ' : Type} {T : ρ' → tH} {j nL' na rc : Nat} {vs rest : List Value} {mj : Option ρ'} {f : ρ' → Option ρ} (hc : t_ctf i pc = some (cat, ins, j, a2)) (h3 : (cat == 21 || cat == 24) = true) (hm : t_mif j = some (nL', na, rc)) (hn : Nat.ble na st.length = true) (hd : st.drop na = rest) (ht : (st.take na).reverse = vs) (h8 : Nat.ble (t_sum rest) 8 = true ∧ Nat.ble (lg_sl vs).length nL' = true) (hS : Wx L (fun x => (none, T x)) d j nL' 0 (lv_args 0 vs) [] th mj) (kk : ∀ v, mj = some v → Wx L emb (d + 1) i nL (pc + 3) lv rest (T v) (f v)) : Wx L emb (d + 1) i nL pc lv st th (mj.bind f) := by
  have h3' : cat = 21 ∨ cat = 24 := by simpa using h3
  refine x_call hc (by omega) hm (fun x hx => ?_) ⟨Nat.le_of_ble_eq_true h8.1, Nat.le_of_ble_eq_true h8.2⟩ hS kk
  have hn' : na ≤ st.length := Nat.le_of_ble_eq_true hn
  unfold t_cut
  rw [if_neg (by omega), if_pos h3', hd, ht]
end WX
