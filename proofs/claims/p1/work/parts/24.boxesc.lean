theorem p_box9 : ([((-2147483648), (-1)), (0, 0), (1, 2147483647)] : List (Int32 × Int32)).all (fun q1 => p_pair [(0, 0), q1] 0 11 2 214 2 [p_a 1 q1]) = true := by decide +kernel
theorem p_op9 (x1 : Int32) : p_two 0 11 2 214 2 [.int x1] := by
  obtain ⟨q1, m1, l1, u1⟩ := p_in (L := [((-2147483648), (-1)), (0, 0), (1, 2147483647)]) (by decide +kernel) x1
  have h := p_box9
  replace h := List.all_eq_true.mp h q1 m1
  have k := p_pair_of h (fun k => match k with | 1 => x1 | _ => 0) 0 (fun k q hq => by
    match k, hq with
    | 0, hq => cases hq; exact ⟨Int32.le_refl _, Int32.le_refl _⟩
    | 1, hq => cases hq; exact ⟨l1, u1⟩
    | n + 2, hq => simp at hq)
  simp only [List.map_cons, List.map_nil] at k
  rw [p_a_of (k := 1) (by decide) l1 u1] at k
  exact k
theorem p_box10 : p_pair [(0, 0)] 0 12 2 215 2 [] = true := by decide +kernel
theorem p_op10 : p_two 0 12 2 215 2 [] := by
  exact p_pair_of p_box10 (fun _ => 0) 0 (fun k q hq => by
    match k, hq with
    | 0, hq => cases hq; exact ⟨Int32.le_refl _, Int32.le_refl _⟩
    | n + 1, hq => simp at hq)
theorem p_box11 : ([((-2147483648), (-1)), (0, 0), (1, 2147483647)] : List (Int32 × Int32)).all (fun q1 => ([((-2147483648), 2147483647)] : List (Int32 × Int32)).all (fun q2 => p_pair [(0, 0), q1, q2] 0 13 5 217 5 [p_a 1 q1, p_a 2 q2])) = true := by decide +kernel
theorem p_op11 (x1 x2 : Int32) : p_two 0 13 5 217 5 [.int x1, .int x2] := by
  obtain ⟨q1, m1, l1, u1⟩ := p_in (L := [((-2147483648), (-1)), (0, 0), (1, 2147483647)]) (by decide +kernel) x1
  obtain ⟨q2, m2, l2, u2⟩ := p_in (L := [((-2147483648), 2147483647)]) (by decide +kernel) x2
  have h := p_box11
  replace h := List.all_eq_true.mp h q1 m1
  replace h := List.all_eq_true.mp h q2 m2
  have k := p_pair_of h (fun k => match k with | 1 => x1 | 2 => x2 | _ => 0) 0 (fun k q hq => by
    match k, hq with
    | 0, hq => cases hq; exact ⟨Int32.le_refl _, Int32.le_refl _⟩
    | 1, hq => cases hq; exact ⟨l1, u1⟩
    | 2, hq => cases hq; exact ⟨l2, u2⟩
    | n + 3, hq => simp at hq)
  simp only [List.map_cons, List.map_nil] at k
  rw [p_a_of (k := 1) (by decide) l1 u1, p_a_of (k := 2) (by decide) l2 u2] at k
  exact k
theorem p_box12 : p_pair [(0, 0)] 0 14 1 219 1 [] = true := by decide +kernel
theorem p_op12 : p_two 0 14 1 219 1 [] := by
  exact p_pair_of p_box12 (fun _ => 0) 0 (fun k q hq => by
    match k, hq with
    | 0, hq => cases hq; exact ⟨Int32.le_refl _, Int32.le_refl _⟩
    | n + 1, hq => simp at hq)
theorem p_box13 : ([((-2147483648), (-1)), (0, 0), (1, 254), (255, 255), (256, 2147483647)] : List (Int32 × Int32)).all (fun q1 => p_pair [(0, 0), q1] 0 15 2 220 2 [p_a 1 q1]) = true := by decide +kernel
theorem p_op13 (x1 : Int32) : p_two 0 15 2 220 2 [.int x1] := by
  obtain ⟨q1, m1, l1, u1⟩ := p_in (L := [((-2147483648), (-1)), (0, 0), (1, 254), (255, 255), (256, 2147483647)]) (by decide +kernel) x1
  have h := p_box13
  replace h := List.all_eq_true.mp h q1 m1
  have k := p_pair_of h (fun k => match k with | 1 => x1 | _ => 0) 0 (fun k q hq => by
    match k, hq with
    | 0, hq => cases hq; exact ⟨Int32.le_refl _, Int32.le_refl _⟩
    | 1, hq => cases hq; exact ⟨l1, u1⟩
    | n + 2, hq => simp at hq)
  simp only [List.map_cons, List.map_nil] at k
  rw [p_a_of (k := 1) (by decide) l1 u1] at k
  exact k
theorem p_box14 : p_pair [(0, 0)] 0 16 2 221 2 [] = true := by decide +kernel
theorem p_op14 : p_two 0 16 2 221 2 [] := by
  exact p_pair_of p_box14 (fun _ => 0) 0 (fun k q hq => by
    match k, hq with
    | 0, hq => cases hq; exact ⟨Int32.le_refl _, Int32.le_refl _⟩
    | n + 1, hq => simp at hq)
theorem p_box15 : p_pair [(0, 0)] 0 17 2 234 3 [] = true := by decide +kernel
theorem p_op15 : p_two 0 17 2 234 3 [] := by
  exact p_pair_of p_box15 (fun _ => 0) 0 (fun k q hq => by
    match k, hq with
    | 0, hq => cases hq; exact ⟨Int32.le_refl _, Int32.le_refl _⟩
    | n + 1, hq => simp at hq)
theorem p_box16 : ([((-2147483648), (-1)), (0, 0), (1, 2147483647)] : List (Int32 × Int32)).all (fun q1 => ([((-2147483648), 2147483647)] : List (Int32 × Int32)).all (fun q2 => p_pair [(0, 0), q1, q2] 0 18 3 244 3 [p_a 1 q1, p_a 2 q2])) = true := by decide +kernel
theorem p_op16 (x1 x2 : Int32) : p_two 0 18 3 244 3 [.int x1, .int x2] := by
  obtain ⟨q1, m1, l1, u1⟩ := p_in (L := [((-2147483648), (-1)), (0, 0), (1, 2147483647)]) (by decide +kernel) x1
  obtain ⟨q2, m2, l2, u2⟩ := p_in (L := [((-2147483648), 2147483647)]) (by decide +kernel) x2
  have h := p_box16
  replace h := List.all_eq_true.mp h q1 m1
  replace h := List.all_eq_true.mp h q2 m2
  have k := p_pair_of h (fun k => match k with | 1 => x1 | 2 => x2 | _ => 0) 0 (fun k q hq => by
    match k, hq with
    | 0, hq => cases hq; exact ⟨Int32.le_refl _, Int32.le_refl _⟩
    | 1, hq => cases hq; exact ⟨l1, u1⟩
    | 2, hq => cases hq; exact ⟨l2, u2⟩
    | n + 3, hq => simp at hq)
  simp only [List.map_cons, List.map_nil] at k
  rw [p_a_of (k := 1) (by decide) l1 u1, p_a_of (k := 2) (by decide) l2 u2] at k
  exact k
theorem p_box17 : ([((-2147483648), (-1)), (0, 0), (1, 23), (24, 24), (25, 2147483647)] : List (Int32 × Int32)).all (fun q1 => p_pair [(0, 0), q1] 0 19 2 245 2 [p_a 1 q1]) = true := by decide +kernel
theorem p_op17 (x1 : Int32) : p_two 0 19 2 245 2 [.int x1] := by
  obtain ⟨q1, m1, l1, u1⟩ := p_in (L := [((-2147483648), (-1)), (0, 0), (1, 23), (24, 24), (25, 2147483647)]) (by decide +kernel) x1
  have h := p_box17
  replace h := List.all_eq_true.mp h q1 m1
  have k := p_pair_of h (fun k => match k with | 1 => x1 | _ => 0) 0 (fun k q hq => by
    match k, hq with
    | 0, hq => cases hq; exact ⟨Int32.le_refl _, Int32.le_refl _⟩
    | 1, hq => cases hq; exact ⟨l1, u1⟩
    | n + 2, hq => simp at hq)
  simp only [List.map_cons, List.map_nil] at k
  rw [p_a_of (k := 1) (by decide) l1 u1] at k
  exact k
theorem p_box18 : ([((-2147483648), 1), (2, 2), (3, 11), (12, 12), (13, 2147483647)] : List (Int32 × Int32)).all (fun q1 => p_pair [(0, 0), q1] 0 20 2 246 4 [p_a 1 q1]) = true := by decide +kernel
theorem p_op18 (x1 : Int32) : p_two 0 20 2 246 4 [.int x1] := by
  obtain ⟨q1, m1, l1, u1⟩ := p_in (L := [((-2147483648), 1), (2, 2), (3, 11), (12, 12), (13, 2147483647)]) (by decide +kernel) x1
  have h := p_box18
  replace h := List.all_eq_true.mp h q1 m1
  have k := p_pair_of h (fun k => match k with | 1 => x1 | _ => 0) 0 (fun k q hq => by
    match k, hq with
    | 0, hq => cases hq; exact ⟨Int32.le_refl _, Int32.le_refl _⟩
    | 1, hq => cases hq; exact ⟨l1, u1⟩
    | n + 2, hq => simp at hq)
  simp only [List.map_cons, List.map_nil] at k
  rw [p_a_of (k := 1) (by decide) l1 u1] at k
  exact k
theorem p_box19 : p_pair [(0, 0)] 0 21 1 247 1 [] = true := by decide +kernel
theorem p_op19 : p_two 0 21 1 247 1 [] := by
  exact p_pair_of p_box19 (fun _ => 0) 0 (fun k q hq => by
    match k, hq with
    | 0, hq => cases hq; exact ⟨Int32.le_refl _, Int32.le_refl _⟩
    | n + 1, hq => simp at hq)
theorem p_box20 : ([((-2147483648), 1), (2, 2), (3, 11), (12, 12), (13, 2147483647)] : List (Int32 × Int32)).all (fun q1 => ([((-2147483648), (-1)), (0, 0), (1, 2147483647)] : List (Int32 × Int32)).all (fun q2 => p_pair [(0, 0), q1, q2] 0 22 4 248 5 [p_a 1 q1, p_a 2 q2])) = true := by decide +kernel
theorem p_op20 (x1 x2 : Int32) : p_two 0 22 4 248 5 [.int x1, .int x2] := by
  obtain ⟨q1, m1, l1, u1⟩ := p_in (L := [((-2147483648), 1), (2, 2), (3, 11), (12, 12), (13, 2147483647)]) (by decide +kernel) x1
  obtain ⟨q2, m2, l2, u2⟩ := p_in (L := [((-2147483648), (-1)), (0, 0), (1, 2147483647)]) (by decide +kernel) x2
  have h := p_box20
  replace h := List.all_eq_true.mp h q1 m1
  replace h := List.all_eq_true.mp h q2 m2
  have k := p_pair_of h (fun k => match k with | 1 => x1 | 2 => x2 | _ => 0) 0 (fun k q hq => by
    match k, hq with
    | 0, hq => cases hq; exact ⟨Int32.le_refl _, Int32.le_refl _⟩
    | 1, hq => cases hq; exact ⟨l1, u1⟩
    | 2, hq => cases hq; exact ⟨l2, u2⟩
    | n + 3, hq => simp at hq)
  simp only [List.map_cons, List.map_nil] at k
  rw [p_a_of (k := 1) (by decide) l1 u1, p_a_of (k := 2) (by decide) l2 u2] at k
  exact k
theorem p_box21 : p_pair [(0, 0)] 0 23 2 249 3 [] = true := by decide +kernel
theorem p_op21 : p_two 0 23 2 249 3 [] := by
  exact p_pair_of p_box21 (fun _ => 0) 0 (fun k q hq => by
    match k, hq with
    | 0, hq => cases hq; exact ⟨Int32.le_refl _, Int32.le_refl _⟩
    | n + 1, hq => simp at hq)
theorem p_box22 : p_pair [(0, 0)] 0 24 1 250 3 [] = true := by decide +kernel
theorem p_op22 : p_two 0 24 1 250 3 [] := by
  exact p_pair_of p_box22 (fun _ => 0) 0 (fun k q hq => by
    match k, hq with
    | 0, hq => cases hq; exact ⟨Int32.le_refl _, Int32.le_refl _⟩
    | n + 1, hq => simp at hq)
theorem p_box23 : ([((-2147483648), (-1)), (0, 0), (1, 2147483647)] : List (Int32 × Int32)).all (fun q1 => ([((-2147483648), 2147483647)] : List (Int32 × Int32)).all (fun q2 => p_pair [(0, 0), q1, q2] 0 25 3 251 3 [p_a 1 q1, p_a 2 q2])) = true := by decide +kernel
theorem p_op23 (x1 x2 : Int32) : p_two 0 25 3 251 3 [.int x1, .int x2] := by
  obtain ⟨q1, m1, l1, u1⟩ := p_in (L := [((-2147483648), (-1)), (0, 0), (1, 2147483647)]) (by decide +kernel) x1
  obtain ⟨q2, m2, l2, u2⟩ := p_in (L := [((-2147483648), 2147483647)]) (by decide +kernel) x2
  have h := p_box23
  replace h := List.all_eq_true.mp h q1 m1
  replace h := List.all_eq_true.mp h q2 m2
  have k := p_pair_of h (fun k => match k with | 1 => x1 | 2 => x2 | _ => 0) 0 (fun k q hq => by
    match k, hq with
    | 0, hq => cases hq; exact ⟨Int32.le_refl _, Int32.le_refl _⟩
    | 1, hq => cases hq; exact ⟨l1, u1⟩
    | 2, hq => cases hq; exact ⟨l2, u2⟩
    | n + 3, hq => simp at hq)
  simp only [List.map_cons, List.map_nil] at k
  rw [p_a_of (k := 1) (by decide) l1 u1, p_a_of (k := 2) (by decide) l2 u2] at k
  exact k
theorem p_box24 : ([((-2147483648), (-1)), (0, 0), (1, 2147483647)] : List (Int32 × Int32)).all (fun q1 => p_pair [(0, 0), q1] 0 26 2 253 2 [p_a 1 q1]) = true := by decide +kernel
theorem p_op24 (x1 : Int32) : p_two 0 26 2 253 2 [.int x1] := by
  obtain ⟨q1, m1, l1, u1⟩ := p_in (L := [((-2147483648), (-1)), (0, 0), (1, 2147483647)]) (by decide +kernel) x1
  have h := p_box24
  replace h := List.all_eq_true.mp h q1 m1
  have k := p_pair_of h (fun k => match k with | 1 => x1 | _ => 0) 0 (fun k q hq => by
    match k, hq with
    | 0, hq => cases hq; exact ⟨Int32.le_refl _, Int32.le_refl _⟩
    | 1, hq => cases hq; exact ⟨l1, u1⟩
    | n + 2, hq => simp at hq)
  simp only [List.map_cons, List.map_nil] at k
  rw [p_a_of (k := 1) (by decide) l1 u1] at k
  exact k
theorem p_box25 : ([((-2147483648), (-1)), (0, 0), (1, 1), (2, 2), (3, 3), (4, 4), (5, 5), (6, 6), (7, 7), (8, 2147483647)] : List (Int32 × Int32)).all (fun q1 => ([((-2147483648), (-1)), (0, 0), (1, 11), (12, 12), (13, 2147483647)] : List (Int32 × Int32)).all (fun q2 => p_pair [(0, 0), q1, q2] 0 27 4 254 8 [p_a 1 q1, p_a 2 q2])) = true := by decide +kernel
theorem p_op25 (x1 x2 : Int32) : p_two 0 27 4 254 8 [.int x1, .int x2] := by
  obtain ⟨q1, m1, l1, u1⟩ := p_in (L := [((-2147483648), (-1)), (0, 0), (1, 1), (2, 2), (3, 3), (4, 4), (5, 5), (6, 6), (7, 7), (8, 2147483647)]) (by decide +kernel) x1
  obtain ⟨q2, m2, l2, u2⟩ := p_in (L := [((-2147483648), (-1)), (0, 0), (1, 11), (12, 12), (13, 2147483647)]) (by decide +kernel) x2
  have h := p_box25
  replace h := List.all_eq_true.mp h q1 m1
  replace h := List.all_eq_true.mp h q2 m2
  have k := p_pair_of h (fun k => match k with | 1 => x1 | 2 => x2 | _ => 0) 0 (fun k q hq => by
    match k, hq with
    | 0, hq => cases hq; exact ⟨Int32.le_refl _, Int32.le_refl _⟩
    | 1, hq => cases hq; exact ⟨l1, u1⟩
    | 2, hq => cases hq; exact ⟨l2, u2⟩
    | n + 3, hq => simp at hq)
  simp only [List.map_cons, List.map_nil] at k
  rw [p_a_of (k := 1) (by decide) l1 u1, p_a_of (k := 2) (by decide) l2 u2] at k
  exact k
theorem p_box26 : ([((-2147483648), (-1)), (0, 0), (1, 1), (2, 2147483647)] : List (Int32 × Int32)).all (fun q1 => p_pair [(0, 0), q1] 0 30 2 256 17 [p_a 1 q1]) = true := by decide +kernel
theorem p_op26 (x1 : Int32) : p_two 0 30 2 256 17 [.int x1] := by
  obtain ⟨q1, m1, l1, u1⟩ := p_in (L := [((-2147483648), (-1)), (0, 0), (1, 1), (2, 2147483647)]) (by decide +kernel) x1
  have h := p_box26
  replace h := List.all_eq_true.mp h q1 m1
  have k := p_pair_of h (fun k => match k with | 1 => x1 | _ => 0) 0 (fun k q hq => by
    match k, hq with
    | 0, hq => cases hq; exact ⟨Int32.le_refl _, Int32.le_refl _⟩
    | 1, hq => cases hq; exact ⟨l1, u1⟩
    | n + 2, hq => simp at hq)
  simp only [List.map_cons, List.map_nil] at k
  rw [p_a_of (k := 1) (by decide) l1 u1] at k
  exact k
theorem p_box27 : ([((-2147483648), (-1)), (0, 0), (1, 2147483647)] : List (Int32 × Int32)).all (fun q1 => p_pair [(0, 0), q1] 0 31 2 259 2 [p_a 1 q1]) = true := by decide +kernel
theorem p_op27 (x1 : Int32) : p_two 0 31 2 259 2 [.int x1] := by
  obtain ⟨q1, m1, l1, u1⟩ := p_in (L := [((-2147483648), (-1)), (0, 0), (1, 2147483647)]) (by decide +kernel) x1
  have h := p_box27
  replace h := List.all_eq_true.mp h q1 m1
  have k := p_pair_of h (fun k => match k with | 1 => x1 | _ => 0) 0 (fun k q hq => by
    match k, hq with
    | 0, hq => cases hq; exact ⟨Int32.le_refl _, Int32.le_refl _⟩
    | 1, hq => cases hq; exact ⟨l1, u1⟩
    | n + 2, hq => simp at hq)
  simp only [List.map_cons, List.map_nil] at k
  rw [p_a_of (k := 1) (by decide) l1 u1] at k
  exact k
theorem p_box28 : p_pair [(0, 0)] 0 32 3 260 3 [] = true := by decide +kernel
theorem p_op28 : p_two 0 32 3 260 3 [] := by
  exact p_pair_of p_box28 (fun _ => 0) 0 (fun k q hq => by
    match k, hq with
    | 0, hq => cases hq; exact ⟨Int32.le_refl _, Int32.le_refl _⟩
    | n + 1, hq => simp at hq)
theorem p_box29 : ([((-2147483648), (-1)), (0, 0), (1, 1), (2, 2), (3, 2147483647)] : List (Int32 × Int32)).all (fun q1 => p_pair [(0, 0), q1] 0 33 2 264 2 [p_a 1 q1]) = true := by decide +kernel
theorem p_op29 (x1 : Int32) : p_two 0 33 2 264 2 [.int x1] := by
  obtain ⟨q1, m1, l1, u1⟩ := p_in (L := [((-2147483648), (-1)), (0, 0), (1, 1), (2, 2), (3, 2147483647)]) (by decide +kernel) x1
  have h := p_box29
  replace h := List.all_eq_true.mp h q1 m1
  have k := p_pair_of h (fun k => match k with | 1 => x1 | _ => 0) 0 (fun k q hq => by
    match k, hq with
    | 0, hq => cases hq; exact ⟨Int32.le_refl _, Int32.le_refl _⟩
    | 1, hq => cases hq; exact ⟨l1, u1⟩
    | n + 2, hq => simp at hq)
  simp only [List.map_cons, List.map_nil] at k
  rw [p_a_of (k := 1) (by decide) l1 u1] at k
  exact k
