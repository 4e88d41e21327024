/-! ===== the fresh objects ===== -/
noncomputable def TH0 : tH := [.inr (7, [.ref 1, .ref 6, .ref 11, .ref 16, .ref 18, .ref 20, .ref 23, .ref 24, .ref 26, .ref 27, .int 0]),
  .inr (2, [.ref 2, .ref 3, .ref 4, .ref 5, .int 5, .int 0, .int 0, .int 1]),
  .inl (0, .inl [0, 0, 0, 0, 0, 0, 0, 0, 0, 0, 0, 0]),
  .inl (0, .inl [0, 0, 0, 0, 0, 0, 0, 0, 0, 0, 0, 0]),
  .inl (0, .inl [0, 0, 0, 0, 0, 0, 0, 0, 0, 0, 0, 0]),
  .inl (0, .inl [0, 0, 0, 0, 0, 0, 0, 0]),
  .inr (2, [.ref 7, .ref 8, .ref 9, .ref 10, .int 5, .int 0, .int 0, .int 1]),
  .inl (0, .inl [0, 0, 0, 0, 0, 0, 0, 0, 0, 0, 0, 0]),
  .inl (0, .inl [0, 0, 0, 0, 0, 0, 0, 0, 0, 0, 0, 0]),
  .inl (0, .inl [0, 0, 0, 0, 0, 0, 0, 0, 0, 0, 0, 0]),
  .inl (0, .inl [0, 0, 0, 0, 0, 0, 0, 0]),
  .inr (2, [.ref 12, .ref 13, .ref 14, .ref 15, .int 5, .int 0, .int 0, .int 1]),
  .inl (0, .inl [0, 0, 0, 0, 0, 0, 0, 0, 0, 0, 0, 0]),
  .inl (0, .inl [0, 0, 0, 0, 0, 0, 0, 0, 0, 0, 0, 0]),
  .inl (0, .inl [0, 0, 0, 0, 0, 0, 0, 0, 0, 0, 0, 0]),
  .inl (0, .inl [0, 0, 0, 0, 0, 0, 0, 0]),
  .inr (4, [.ref 17, .int 0]),
  .inl (0, .inl (List.replicate 66 0)),
  .inr (0, [.ref 19]),
  .inl (0, .inl (List.replicate 64 0)),
  .inr (3, [.ref 21, .int 0, .int (-1), .int (-1), .int (-1)]),
  .inr (0, [.ref 22]),
  .inl (0, .inl (List.replicate 64 0)),
  .inr (1, [.int 0, .int (-1), .int 0, .int 0]),
  .inr (6, [.ref 25, .int 0, .int 0, .int 0, .int 0, .int 0, .int 0]),
  .inl (0, .inl (List.replicate 250 0)),
  .inl (2, .inr (.inr [some 28, some 30, some 32, some 34, some 36, some 38, some 40, some 42])),
  .inl (0, .inl [0, 0, 0, 0, 0]),
  .inr (5, [.ref 29, .int (-1), .int 0, .int (-1)]),
  .inl (1, .inr (.inl (List.replicate 40 0))),
  .inr (5, [.ref 31, .int (-1), .int 0, .int (-1)]),
  .inl (1, .inr (.inl (List.replicate 40 0))),
  .inr (5, [.ref 33, .int (-1), .int 0, .int (-1)]),
  .inl (1, .inr (.inl (List.replicate 40 0))),
  .inr (5, [.ref 35, .int (-1), .int 0, .int (-1)]),
  .inl (1, .inr (.inl (List.replicate 40 0))),
  .inr (5, [.ref 37, .int (-1), .int 0, .int (-1)]),
  .inl (1, .inr (.inl (List.replicate 40 0))),
  .inr (5, [.ref 39, .int (-1), .int 0, .int (-1)]),
  .inl (1, .inr (.inl (List.replicate 40 0))),
  .inr (5, [.ref 41, .int (-1), .int 0, .int (-1)]),
  .inl (1, .inr (.inl (List.replicate 40 0))),
  .inr (5, [.ref 43, .int (-1), .int 0, .int (-1)]),
  .inl (1, .inr (.inl (List.replicate 40 0))),
  .inr (8, [.ref 45, .ref 46, .ref 47, .ref 48, .ref 57, .ref 58, .ref 59, .int 0, .ref 60, .int 5, .int 0, .ref 61, .ref 62, .ref 63, .int 0, .ref 64, .int 1, .null, .null, .int 0, .int 0, .int 0, .int 0, .int 0, .ref 65, .int 0, .ref 66, .int 0, .int 0, .int 0, .int 0]),
  .inl (0, .inl [0, 0, 0, 0, 0, 0, 0, 0]),
  .inl (0, .inl [0, 0, 0, 0, 0, 0, 0, 0]),
  .inl (0, .inl [0, 0, 0, 0, 0, 0, 0, 0]),
  .inl (3, .inr (.inr [some 49, some 50, some 51, some 52, some 53, some 54, some 55, some 56])),
  .inl (1, .inr (.inl (List.replicate 40 0))),
  .inl (1, .inr (.inl (List.replicate 40 0))),
  .inl (1, .inr (.inl (List.replicate 40 0))),
  .inl (1, .inr (.inl (List.replicate 40 0))),
  .inl (1, .inr (.inl (List.replicate 40 0))),
  .inl (1, .inr (.inl (List.replicate 40 0))),
  .inl (1, .inr (.inl (List.replicate 40 0))),
  .inl (1, .inr (.inl (List.replicate 40 0))),
  .inl (1, .inr (.inl (List.replicate 40 0))),
  .inl (0, .inl [0, 0, 0, 0, 0, 0, 0, 0]),
  .inl (0, .inl (List.replicate 250 0)),
  .inl (0, .inl [0, 0, 0, 0, 0, 0, 0, 0]),
  .inl (0, .inl [0, 0, 0, 0, 0, 0, 0, 0, 0, 0, 0, 0]),
  .inl (0, .inl [0, 0, 0, 0, 0, 0, 0, 0, 0, 0, 0, 0]),
  .inl (0, .inl [0, 0, 0, 0, 0, 0, 0, 0, 0, 0, 0, 0]),
  .inl (0, .inl [0, 0, 0, 0, 0, 0, 0, 0]),
  .inl (0, .inl [0, 0, 0]),
  .inl (0, .inl (List.replicate 70 0))]
noncomputable def THA : tH := TH0.take 44
noncomputable def q_list {α : Type} (f : α → α → Bool) : List α → List α → Bool
  | [], [] => true
  | a :: x, b :: y => f a b && q_list f x y
  | _, _ => false
theorem q_list_of {α : Type} {f : α → α → Bool} (hf : ∀ a b, f a b = true → a = b) : ∀ {x y : List α}, q_list f x y = true → x = y
  | [], [], _ => rfl
  | a :: x, b :: y, h => by
    simp only [q_list, Bool.and_eq_true] at h
    rw [hf a b h.1, q_list_of hf h.2]
  | [], _ :: _, h => by cases h
  | _ :: _, [], h => by cases h
noncomputable def q_E : tE → tE → Bool
  | .inl (k, .inl a), .inl (j, .inl b) => Nat.beq k j && q_list (fun x y => decide (x = y)) a b
  | .inl (k, .inr (.inl a)), .inl (j, .inr (.inl b)) => Nat.beq k j && q_list (fun x y => decide (x = y)) a b
  | .inl (k, .inr (.inr a)), .inl (j, .inr (.inr b)) => Nat.beq k j && q_list (fun x y => decide (x = y)) a b
  | .inr (k, a), .inr (j, b) => Nat.beq k j && q_list (fun x y => decide (x = y)) a b
  | _, _ => false
theorem q_E_of : ∀ a b : tE, q_E a b = true → a = b := by
  intro a b h
  rcases a with ⟨k, a | a | a⟩ | ⟨k, a⟩ <;> rcases b with ⟨j, b | b | b⟩ | ⟨j, b⟩ <;> simp only [q_E, Bool.and_eq_true] at h <;> first | (cases h; done) | (rw [Nat.eq_of_beq_eq_true h.1, q_list_of (fun x y z => of_decide_eq_true z) h.2])
noncomputable def q_res (x : Option t_Res) (r : Option Value) (th : tH) (n : Nat) : Bool := match x with
  | some (r', th', n') => decide (r' = r) && (q_list q_E th' th && Nat.beq n' n)
  | none => false
theorem q_res_of {x : Option t_Res} {r : Option Value} {th : tH} {n : Nat} (h : q_res x r th n = true) : x = some (r, th, n) := by
  unfold q_res at h
  split at h
  · simp only [Bool.and_eq_true, decide_eq_true_eq] at h
    rw [h.1, q_list_of q_E_of h.2.1, Nat.eq_of_beq_eq_true h.2.2]
  · cases h
theorem p_newA : t_exec t_ctf t_mif 1000 none 10 1 2 0 (lv_args 0 [.ref 0]) [] [.inr (7, [.null, .null, .null, .null, .null, .null, .null, .null, .null, .null, .int 0])] 0 = some (none, THA, 985) := q_res_of (by decide +kernel)
theorem p_newB : t_exec t_ctf t_mif 1000 none 10 188 1 0 (lv_args 0 [.ref 44]) [] (THA ++ [.inr (8, [.null, .null, .null, .null, .null, .null, .null, .int 0, .null, .int 0, .int 0, .null, .null, .null, .int 0, .null, .int 0, .null, .null, .int 0, .int 0, .int 0, .int 0, .int 0, .null, .int 0, .null, .int 0, .int 0, .int 0, .int 0])]) 0 = some (none, TH0, 775) := q_res_of (by decide +kernel)
/-! ===== the first state ===== -/
noncomputable def ln0 (p : Nat) : Nat := match p with
  | 5 => 8 | 10 => 8 | 15 => 8 | 17 => 66 | 19 => 64 | 22 => 64 | 25 => 250 | 27 => 5 | 45 => 8 | 46 => 8 | 47 => 8 | 58 => 8 | 59 => 250 | 60 => 8 | 64 => 8 | 65 => 3 | 66 => 70 | _ => 12
noncomputable def fi0 (o k : Nat) : Int32 := if o = 1 ∨ o = 6 ∨ o = 11 then (if k = 4 then i3 5 else if k = 7 then i3 1 else 0) else if o = 44 then (if k = 9 then i3 5 else if k = 16 then i3 1 else 0) else if o = 20 then (if 2 ≤ k then i3 (-1) else 0) else if o = 23 then (if k = 1 then i3 (-1) else 0) else if 28 ≤ o ∧ o ≤ 42 then (if k = 1 ∨ k = 3 then i3 (-1) else 0) else 0
noncomputable def s00 : St := (fun p => List.replicate (ln0 p) 0, fun _ => List.replicate 40 0, fi0, none, none, 0)
theorem TH0_eq : TH0 = H s00 := q_list_of q_E_of (by decide +kernel)
noncomputable def g00 : Gd := (i3 5, 0, 0, i3 1, List.replicate 12 0, List.replicate 12 0, List.replicate 12 0, List.replicate 8 0)
theorem noT (t : Int32) : ¬ isT g00 t := fun e => e.2 (Int32.not_lt.mp e.1)
theorem noW (t : Int32) : ¬ isW g00 t := fun e => e.2 (Int32.not_lt.mp e.1)
theorem ok00 : ok g00 := ⟨⟨by decide +kernel, by decide +kernel⟩, ⟨by decide +kernel, by decide +kernel⟩, ⟨by decide +kernel, by decide +kernel⟩, ⟨rfl, rfl, rfl, rfl⟩, fun t h => absurd h (noT t), fun t h => absurd h (noT t), fun t _ h => absurd h (noT t), fun t h => absurd h (noW t)⟩
theorem Sz00 : Sz s00 := ⟨rfl, rfl, rfl, rfl, rfl, rfl⟩
theorem CI00 : CI s00 := by
  refine ⟨⟨ok00, Sz00, rfl⟩, ⟨rfl, rfl, rfl, rfl⟩, ⟨rfl, rfl, rfl, rfl⟩, ⟨List.length_replicate, by decide +kernel, by decide +kernel⟩, Or.inl (by decide +kernel), fun k hk => ?_⟩
  have e1 : fi s00 (28 + 2 * k) 1 = i3 (-1) := by
    show fi0 (28 + 2 * k) 1 = _
    unfold fi0
    rw [if_neg (by omega), if_neg (by omega), if_neg (by omega), if_neg (by omega), if_pos (by omega), if_pos (by omega)]
  have e2 : fi s00 (28 + 2 * k) 2 = 0 := by
    show fi0 (28 + 2 * k) 2 = _
    unfold fi0
    rw [if_neg (by omega), if_neg (by omega), if_neg (by omega), if_neg (by omega), if_pos (by omega), if_neg (by omega)]
  have e3 : fi s00 (28 + 2 * k) 3 = i3 (-1) := by
    show fi0 (28 + 2 * k) 3 = _
    unfold fi0
    rw [if_neg (by omega), if_neg (by omega), if_neg (by omega), if_neg (by omega), if_pos (by omega), if_pos (by omega)]
  unfold shO
  rw [e1, e2, e3]
  exact ⟨rfl, Or.inl rfl, ⟨by decide +kernel, by decide +kernel⟩, fun _ => rfl, Or.inl rfl⟩
theorem lg00 (n k : Nat) : lg (List.replicate n (0 : Int32)) k = 0 := by
  unfold lg
  rw [List.getD_eq_getElem?_getD, List.getElem?_replicate]
  split <;> rfl
theorem MI00 : MI s00 := by
  refine ⟨⟨ok00, Sz00, rfl⟩, ⟨rfl, rfl, rfl, rfl⟩, ⟨List.length_replicate, by decide +kernel, by decide +kernel⟩, ⟨Or.inl ⟨rfl, rfl, rfl⟩, fun o h => (by cases h), fun o h => (by cases h)⟩, fun k hk => ?_⟩
  have e1 : lg (ia s00 45) k = i3 0 := lg00 8 k
  unfold smO
  rw [e1]
  exact ⟨rfl, Or.inl rfl, fun e => absurd e (by decide +kernel), fun e => absurd e (by decide +kernel)⟩
theorem ab00 : abC s00 = abM s00 := by
  refine Prod.ext rfl (Prod.ext ?_ (Prod.ext rfl (funext fun k => ?_)))
  · show (if fi s00 0 10 = 0 then none else some (gd s00 11)) = none
    rw [if_pos (by decide +kernel)]
  · show (if k < 8 then shC s00 k else none) = if k < 8 then shM s00 k else none
    by_cases hk : k < 8
    · rw [if_pos hk, if_pos hk]
      unfold shC shM
      have e1 : fi s00 (28 + 2 * k) 1 = i3 (-1) := by
        show fi0 (28 + 2 * k) 1 = _
        unfold fi0
        rw [if_neg (by omega), if_neg (by omega), if_neg (by omega), if_neg (by omega), if_pos (by omega), if_pos (by omega)]
      rw [if_pos e1, if_neg]
      show ¬ lg (List.replicate 8 0) k = i3 1
      rw [lg00]
      decide +kernel
    · rw [if_neg hk, if_neg hk]
