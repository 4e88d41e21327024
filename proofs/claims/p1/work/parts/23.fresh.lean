/-! ===== the fresh objects ===== -/
def TH0 : tH := [.inr (7, [.ref 1, .ref 6, .ref 11, .ref 16, .ref 18, .ref 20, .ref 23, .ref 24, .ref 26, .ref 27, .int 0]),
  .inr (2, [.ref 2, .ref 3, .ref 4, .ref 5, .int 5, .int 0, .int 0, .int 1]),
  .inl (0, .inl [0, 0, 0, 0, 0, 0, 0, 0, 0, 0, 0, 0]),
  .inl (0, .inl [0, 0, 0, 0, 0, 0, 0, 0, 0, 0, 0, 0]),
  .inl (0, .inl [0, 0, 0, 0, 0, 0, 0, 0, 0, 0, 0, 0]),
  .inl (0, .inl [0, 0, 0, 0, 0, 0, 0, 0]),
  .inr (2, [.ref 7, .ref 8, .ref 9, .ref 10, .int 5, .int 0, .int 0, .int 1]),
  .inl (0, .inl [0, 0, 0, 0, 0, 0, 0, 0, 0, 0, 0, 0]),
  .inl (0, .inl [0, 0, 0, 0, 0, 0, 0, 0, 0, 0, 0, 0]),
  .inl (0, .inl [0, 0, 0, 0, 0, 0, 0, 0, 0, 0, 0, 0]),
  .inl (0, .inl [0, 0, 0, 0, 0, 0, 0, 0]),
  .inr (2, [.ref 12, .ref 13, .ref 14, .ref 15, .int 5, .int 0, .int 0, .int 1]),
  .inl (0, .inl [0, 0, 0, 0, 0, 0, 0, 0, 0, 0, 0, 0]),
  .inl (0, .inl [0, 0, 0, 0, 0, 0, 0, 0, 0, 0, 0, 0]),
  .inl (0, .inl [0, 0, 0, 0, 0, 0, 0, 0, 0, 0, 0, 0]),
  .inl (0, .inl [0, 0, 0, 0, 0, 0, 0, 0]),
  .inr (4, [.ref 17, .int 0]),
  .inl (0, .inl (List.replicate 66 0)),
  .inr (0, [.ref 19]),
  .inl (0, .inl (List.replicate 64 0)),
  .inr (3, [.ref 21, .int 0, .int (-1), .int (-1), .int (-1)]),
  .inr (0, [.ref 22]),
  .inl (0, .inl (List.replicate 64 0)),
  .inr (1, [.int 0, .int (-1), .int 0, .int 0]),
  .inr (6, [.ref 25, .int 0, .int 0, .int 0, .int 0, .int 0, .int 0]),
  .inl (0, .inl (List.replicate 250 0)),
  .inl (2, .inr (.inr [some 28, some 30, some 32, some 34, some 36, some 38, some 40, some 42])),
  .inl (0, .inl [0, 0, 0, 0, 0]),
  .inr (5, [.ref 29, .int (-1), .int 0, .int (-1)]),
  .inl (1, .inr (.inl (List.replicate 40 0))),
  .inr (5, [.ref 31, .int (-1), .int 0, .int (-1)]),
  .inl (1, .inr (.inl (List.replicate 40 0))),
  .inr (5, [.ref 33, .int (-1), .int 0, .int (-1)]),
  .inl (1, .inr (.inl (List.replicate 40 0))),
  .inr (5, [.ref 35, .int (-1), .int 0, .int (-1)]),
  .inl (1, .inr (.inl (List.replicate 40 0))),
  .inr (5, [.ref 37, .int (-1), .int 0, .int (-1)]),
  .inl (1, .inr (.inl (List.replicate 40 0))),
  .inr (5, [.ref 39, .int (-1), .int 0, .int (-1)]),
  .inl (1, .inr (.inl (List.replicate 40 0))),
  .inr (5, [.ref 41, .int (-1), .int 0, .int (-1)]),
  .inl (1, .inr (.inl (List.replicate 40 0))),
  .inr (5, [.ref 43, .int (-1), .int 0, .int (-1)]),
  .inl (1, .inr (.inl (List.replicate 40 0))),
  .inr (8, [.ref 45, .ref 46, .ref 47, .ref 48, .ref 57, .ref 58, .ref 59, .int 0, .ref 60, .int 5, .int 0, .ref 61, .ref 62, .ref 63, .int 0, .ref 64, .int 1, .null, .null, .int 0, .int 0, .int 0, .int 0, .int 0, .ref 65, .int 0, .ref 66, .int 0, .int 0, .int 0, .int 0]),
  .inl (0, .inl [0, 0, 0, 0, 0, 0, 0, 0]),
  .inl (0, .inl [0, 0, 0, 0, 0, 0, 0, 0]),
  .inl (0, .inl [0, 0, 0, 0, 0, 0, 0, 0]),
  .inl (3, .inr (.inr [some 49, some 50, some 51, some 52, some 53, some 54, some 55, some 56])),
  .inl (1, .inr (.inl (List.replicate 40 0))),
  .inl (1, .inr (.inl (List.replicate 40 0))),
  .inl (1, .inr (.inl (List.replicate 40 0))),
  .inl (1, .inr (.inl (List.replicate 40 0))),
  .inl (1, .inr (.inl (List.replicate 40 0))),
  .inl (1, .inr (.inl (List.replicate 40 0))),
  .inl (1, .inr (.inl (List.replicate 40 0))),
  .inl (1, .inr (.inl (List.replicate 40 0))),
  .inl (1, .inr (.inl (List.replicate 40 0))),
  .inl (0, .inl [0, 0, 0, 0, 0, 0, 0, 0]),
  .inl (0, .inl (List.replicate 250 0)),
  .inl (0, .inl [0, 0, 0, 0, 0, 0, 0, 0]),
  .inl (0, .inl [0, 0, 0, 0, 0, 0, 0, 0, 0, 0, 0, 0]),
  .inl (0, .inl [0, 0, 0, 0, 0, 0, 0, 0, 0, 0, 0, 0]),
  .inl (0, .inl [0, 0, 0, 0, 0, 0, 0, 0, 0, 0, 0, 0]),
  .inl (0, .inl [0, 0, 0, 0, 0, 0, 0, 0]),
  .inl (0, .inl [0, 0, 0]),
  .inl (0, .inl (List.replicate 70 0))]
def THA : tH := TH0.take 44
def q_list {α : Type} (f : α → α → Bool) : List α → List α → Bool
  | [], [] => true
  | a :: x, b :: y => f a b && q_list f x y
  | _, _ => false
theorem q_list_of {α : Type} {f : α → α → Bool} (hf : ∀ a b, f a b = true → a = b) : ∀ {x y : List α}, q_list f x y = true → x = y
  | [], [], _ => rfl
  | a :: x, b :: y, h => by
    simp only [q_list, Bool.and_eq_true] at h
    rw [hf a b h.1, q_list_of hf h.2]
  | [], _ :: _, h => by cases h
  | _ :: _, [], h => by cases h
def q_E : tE → tE → Bool
  | .inl (k, .inl a), .inl (j, .inl b) => Nat.beq k j && q_list (fun x y => decide (x = y)) a b
  | .inl (k, .inr (.inl a)), .inl (j, .inr (.inl b)) => Nat.beq k j && q_list (fun x y => decide (x = y)) a b
  | .inl (k, .inr (.inr a)), .inl (j, .inr (.inr b)) => Nat.beq k j && q_list (fun x y => decide (x = y)) a b
  | .inr (k, a), .inr (j, b) => Nat.beq k j && q_list (fun x y => decide (x = y)) a b
  | _, _ => false
theorem q_E_of : ∀ a b : tE, q_E a b = true → a = b := by
  intro a b h
  rcases a with ⟨k, a | a | a⟩ | ⟨k, a⟩ <;> rcases b with ⟨j, b | b | b⟩ | ⟨j, b⟩ <;> simp only [q_E, Bool.and_eq_true] at h <;> first | (cases h; done) | (rw [Nat.eq_of_beq_eq_true h.1, q_list_of (fun x y z => of_decide_eq_true z) h.2])
def q_res (x : Option t_Res) (r : Option Value) (th : tH) (n : Nat) : Bool := match x with
  | some (r', th', n') => decide (r' = r) && (q_list q_E th' th && Nat.beq n' n)
  | none => false
theorem q_res_of {x : Option t_Res} {r : Option Value} {th : tH} {n : Nat} (h : q_res x r th n = true) : x = some (r, th, n) := by
  unfold q_res at h
  split at h
  · simp only [Bool.and_eq_true, decide_eq_true_eq] at h
    rw [h.1, q_list_of q_E_of h.2.1, Nat.eq_of_beq_eq_true h.2.2]
  · cases h
theorem p_newA : t_exec t_ctf t_mif 1000 none 10 1 2 0 (lv_args 0 [.ref 0]) [] [.inr (7, [.null, .null, .null, .null, .null, .null, .null, .null, .null, .null, .int 0])] 0 = some (none, THA, 985) := q_res_of (by decide +kernel)
theorem p_newB : t_exec t_ctf t_mif 1000 none 10 188 1 0 (lv_args 0 [.ref 44]) [] (THA ++ [.inr (8, [.null, .null, .null, .null, .null, .null, .null, .int 0, .null, .int 0, .int 0, .null, .null, .null, .int 0, .null, .int 0, .null, .null, .int 0, .int 0, .int 0, .int 0, .int 0, .null, .int 0, .null, .int 0, .int 0, .int 0, .int 0])]) 0 = some (none, TH0, 775) := q_res_of (by decide +kernel)
def p_tok (x : Value) : Bool := match x with
  | .float _ | .double _ => false
  | _ => true
def p_no : tE → Bool
  | .inl (_, .inl a) => a.all (fun x => (oU x).isNone)
  | .inl _ => true
  | .inr (_, fs) => fs.all p_tok
theorem p_no_of {v : Nat → Int32} {w : Int64} {e : tE} (h : p_no e = true) : oC v w e = e := by
  rcases e with ⟨k, a | a⟩ | ⟨k, fs⟩
  · show Sum.inl (k, Sum.inl (a.map (oE v))) = _
    have : a.map (oE v) = a := by
      conv => rhs; rw [← List.map_id a]
      exact List.map_congr_left (fun x hx => oE_id (Option.isNone_iff_eq_none.mp (List.all_eq_true.mp h x hx)))
    rw [this]
  · rfl
  · show Sum.inr (k, fs.map (oV v w)) = _
    have : fs.map (oV v w) = fs := by
      conv => rhs; rw [← List.map_id fs]
      refine List.map_congr_left (fun x hx => ?_)
      have hx2 := List.all_eq_true.mp h x hx
      cases x <;> first | rfl | cases hx2
    rw [this]
theorem p_TH0 (v : Nat → Int32) (w : Int64) : oH v w TH0 = TH0 := by
  have h : TH0.all p_no = true := by decide +kernel
  unfold oH
  conv => rhs; rw [← List.map_id TH0]
  exact List.map_congr_left (fun e he => p_no_of (List.all_eq_true.mp h e he))
/-- a call of the class and the same of the reference, over a box -/
def p_sh (lg : Nat) (r : Option Value) : Bool := match r with
  | some (.int _) => Nat.beq lg 0
  | some (.long _) => Nat.beq lg 1
  | _ => false
noncomputable def p_pair (cell : List (Int32 × Int32)) (lg ic nc im nm : Nat) (as : List Value) : Bool := match oExec t_ctf t_mif cell 40000 10 ic nc 0 (lv_args 0 (.ref 0 :: as)) [] TH0 0 with
  | some (r, th1, m1) => match oExec t_ctf t_mif cell 40000 10 im nm 0 (lv_args 0 (.ref 44 :: as)) [] th1 0 with
    | some (r2, _, m2) => decide (r = r2) && (p_sh lg r && decide (m1 + m2 ≤ 3000))
    | none => false
  | none => false
/-- what a case of the law leans on -/
def p_two (lg ic nc im nm : Nat) (as : List Value) : Prop := ∃ (n1 n2 : Nat) (r : Option Value) (th1 th2 : tH) (m1 m2 : Nat), p_sh lg r = true ∧ t_exec t_ctf t_mif n1 none 10 ic nc 0 (lv_args 0 (.ref 0 :: as)) [] TH0 0 = some (r, th1, m1) ∧ t_exec t_ctf t_mif n2 none 10 im nm 0 (lv_args 0 (.ref 44 :: as)) [] th1 0 = some (r, th2, m2) ∧ m1 + m2 ≤ 3000
theorem p_pair_of {cell : List (Int32 × Int32)} {lg ic nc im nm : Nat} {as : List Value} (h : p_pair cell lg ic nc im nm as = true) (v : Nat → Int32) (w : Int64) (hv : oIn cell v) : p_two lg ic nc im nm (as.map (oV v w)) := by
  unfold p_pair at h
  split at h
  · rename_i r th1 m1 h1
    split at h
    · rename_i r2 th2 m2 h2
      simp only [Bool.and_eq_true, decide_eq_true_eq] at h
      obtain ⟨rfl, hsh, hm⟩ := h
      have hsh2 : p_sh lg (r.map (oV v w)) = true := by
        cases r with
        | none => cases hsh
        | some x => cases x <;> first | exact hsh | cases hsh
      have k1 := o_sound (w := w) hv _ _ _ _ _ _ _ _ _ _ _ _ h1
      have k2 := o_sound (w := w) hv _ _ _ _ _ _ _ _ _ _ _ _ h2
      rw [p_TH0, ← o_lv_args] at k1
      rw [← o_lv_args] at k2
      exact ⟨_, _, _, _, _, _, _, hsh2, k1, k2, hm⟩
    · cases h
  · cases h
/-- stretches that lie one behind the other, from the least int to the greatest -/
def p_cov : Int → List (Int32 × Int32) → Bool
  | a, [] => decide (a = 2147483648)
  | a, q :: t => decide (q.1.toInt = a) && (decide (q.1.toInt ≤ q.2.toInt) && p_cov (q.2.toInt + 1) t)
theorem p_cov_of : ∀ {L : List (Int32 × Int32)} {a : Int}, p_cov a L = true → ∀ x : Int32, a ≤ x.toInt → ∃ q ∈ L, q.1 ≤ x ∧ x ≤ q.2
  | [], a, h, x, hx => by
    simp only [p_cov, decide_eq_true_eq] at h
    have := x.toInt_lt
    omega
  | q :: t, a, h, x, hx => by
    simp only [p_cov, Bool.and_eq_true, decide_eq_true_eq] at h
    by_cases c : x.toInt ≤ q.2.toInt
    · exact ⟨q, List.mem_cons_self, Int32.le_iff_toInt_le.mpr (by omega), Int32.le_iff_toInt_le.mpr c⟩
    · obtain ⟨z, h1, h2⟩ := p_cov_of h.2.2 x (by omega)
      exact ⟨z, List.mem_cons_of_mem _ h1, h2⟩
theorem p_in {L : List (Int32 × Int32)} (h : p_cov (-2147483648) L = true) (x : Int32) : ∃ q ∈ L, q.1 ≤ x ∧ x ≤ q.2 := p_cov_of h x (by have := x.le_toInt; omega)
/-- a number of the box: itself where it is one alone -/
def p_a (k : Nat) (q : Int32 × Int32) : Value := if q.1 = q.2 then .int q.1 else .float (UInt32.ofNat k)
theorem p_a_of {k : Nat} {q : Int32 × Int32} {v : Nat → Int32} {w : Int64} (hk : k < 6) (h1 : q.1 ≤ v k) (h2 : v k ≤ q.2) : oV v w (p_a k q) = .int (v k) := by
  unfold p_a
  split
  · rename_i e
    rw [← e] at h2
    show Value.int q.1 = _
    congr 1
    rw [Int32.le_iff_toInt_le] at h1 h2
    exact Int32.toInt_inj.mp (by omega)
  · have e : ∀ j, j < 6 → (UInt32.ofNat j).toNat = j := by decide
    show Value.int (v (UInt32.ofNat k).toNat) = _
    rw [e k hk]
