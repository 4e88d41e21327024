/-! ===== programs ===== -/
-- 20 NineTrees.many(I)I
noncomputable def m_20 (a0 : Nat) (a1 : Int32) (th : tH) : Option (Int32 × tH) :=
  (gC th 7 a0).bind fun _ =>
  (m_64 a1 th).bind fun x1 =>
  jn (fun (v2 : Int32 × tH) =>
      some (v2.1, v2.2)
    ) (fun j3 =>
      if x1 = 0 then
        (m_59 a0 (Int8.ofInt (-2)).toInt32 th).bind fun q4 =>
        j3 (q4.1, q4.2)
      else
        (m_63 a0 th).bind fun q5 =>
        (m_105 q5.1 a1 q5.2).bind fun x6 =>
        j3 (x6, q5.2)
    )
theorem c_20 {a0 : Nat} {a1 : Int32} {th : tH} {x : (Int32 × tH)} (h : m_20 a0 a1 th = some x) : ∃ fs, th[a0]? = some (.inr (7, fs)) := gC_of h
theorem S_20 {L : Nat} (d : Nat) (a0 : Nat) (a1 : Int32) (th : tH) : Wx L (fun x => (some (.int x.1), x.2)) (d + 5) 20 2 0 [(0, .ref a0), (1, .int a1)] [] th (m_20 a0 a1 th) := by
  unfold m_20
  refine x_gC ?_
  refine x_P 1 rfl rfl rfl ?_
  refine x_callS rfl rfl rfl rfl rfl rfl ⟨rfl, rfl⟩ (S_64 (d + 4) a1 th) (fun x1 hx1 => ?_)
  refine x_jn 24 (fun v2 => []) (fun v2 => [.int v2.1]) (fun v2 => v2.2) (fun v2 => ?_) (fun j3 hj3 => ?_)
  · exact x_retI (x := (v2.1, v2.2)) rfl
  · refine x_if_eq rfl rfl (fun h7 => ?_) (fun h7 => ?_)
    · refine x_P 19 rfl rfl rfl ?_
      refine x_P 21 rfl rfl rfl ?_
      refine x_callV rfl rfl rfl rfl rfl ⟨rfl, rfl⟩ (fun x h => c_59 h) (S_59 (d + 3) a0 (Int8.ofInt (-2)).toInt32 th) (fun q4 hq4 => ?_)
      exact x_lv (hj3 (q4.1, q4.2)) trivial
    · refine x_P 8 rfl rfl rfl ?_
      refine x_callV rfl rfl rfl rfl rfl ⟨rfl, rfl⟩ (fun x h => c_63 h) (S_63 d a0 th) (fun q5 hq5 => ?_)
      refine x_P 12 rfl rfl rfl ?_
      refine x_callV rfl rfl rfl rfl rfl ⟨rfl, rfl⟩ (fun x h => c_105 h) (S_105 (d + 3) q5.1 a1 q5.2) (fun x6 hx6 => ?_)
      refine x_P 24 rfl rfl rfl ?_
      exact x_lv (hj3 (x6, q5.2)) trivial
-- 106 NineTrees$RowList.countThrees()I
noncomputable def m_106 (a0 : Nat) (th : tH) : Option (Int32) :=
  (gC th 4 a0).bind fun _ =>
  (gI th 4 a0 1).bind fun x1 =>
  (m_105 a0 (Int32.ofInt 2) th).bind fun x2 =>
  some (x1 - x2)
theorem c_106 {a0 : Nat} {th : tH} {x : (Int32)} (h : m_106 a0 th = some x) : ∃ fs, th[a0]? = some (.inr (4, fs)) := gC_of h
theorem S_106 {L : Nat} (d : Nat) (a0 : Nat) (th : tH) : Wx L (fun x => (some (.int x), th)) (d + 2) 106 1 0 [(0, .ref a0)] [] th (m_106 a0 th) := by
  unfold m_106
  refine x_gC ?_
  refine x_P 1 rfl rfl rfl ?_
  refine x_gI rfl (fun x1 hx1 => ?_)
  refine x_P 5 rfl rfl rfl ?_
  refine x_P 6 rfl rfl rfl ?_
  refine x_callV rfl rfl rfl rfl rfl ⟨rfl, rfl⟩ (fun x h => c_105 h) (S_105 d a0 (Int32.ofInt 2) th) (fun x2 hx2 => ?_)
  refine x_P 10 rfl rfl rfl ?_
  exact x_retI (x := (x1 - x2)) rfl
-- 21 NineTrees.threes()I
noncomputable def m_21 (a0 : Nat) (th : tH) : Option (Int32 × tH) :=
  (gC th 7 a0).bind fun _ =>
  (m_63 a0 th).bind fun q1 =>
  (m_106 q1.1 q1.2).bind fun x2 =>
  some (x2, q1.2)
theorem c_21 {a0 : Nat} {th : tH} {x : (Int32 × tH)} (h : m_21 a0 th = some x) : ∃ fs, th[a0]? = some (.inr (7, fs)) := gC_of h
theorem S_21 {L : Nat} (d : Nat) (a0 : Nat) (th : tH) : Wx L (fun x => (some (.int x.1), x.2)) (d + 5) 21 1 0 [(0, .ref a0)] [] th (m_21 a0 th) := by
  unfold m_21
  refine x_gC ?_
  refine x_P 1 rfl rfl rfl ?_
  refine x_callV rfl rfl rfl rfl rfl ⟨rfl, rfl⟩ (fun x h => c_63 h) (S_63 d a0 th) (fun q1 hq1 => ?_)
  refine x_callV rfl rfl rfl rfl rfl ⟨rfl, rfl⟩ (fun x h => c_106 h) (S_106 (d + 2) q1.1 q1.2) (fun x2 hx2 => ?_)
  exact x_retI (x := (x2, q1.2)) rfl
-- 110 NineTrees$RowList.pick(II)I
noncomputable def m_110 (a0 : Nat) (a1 : Int32) (a2 : Int32) (th : tH) : Option (Int32) :=
  (gC th 4 a0).bind fun _ =>
  lp (fun (s1 : Int32 × Int32) nx2 ex3 =>
      (gI th 4 a0 1).bind fun x5 =>
      if x5 ≤ s1.2 then
        ex3 ()
      else
        (gN th 4 a0 0).bind fun o6 =>
        (aI th o6 s1.2).bind fun x7 =>
        (m_173 x7 th).bind fun x8 =>
        jn (fun (v9 : Int32) =>
            nx2 (v9, (s1.2 + Int32.ofInt 1))
          ) (fun j10 =>
            if x8 = a1 then
              if s1.1 = a2 then
                (gN th 4 a0 0).bind fun o11 =>
                (aI th o11 s1.2).bind fun x12 =>
                some x12
              else
                j10 (s1.1 + Int32.ofInt 1)
            else
              j10 s1.1
          )
    ) 4096 ((Int32.ofInt 0), (Int32.ofInt 0)) (fun (x4 : Unit) =>
      some (Int32.ofInt 0)
    )
theorem c_110 {a0 : Nat} {a1 : Int32} {a2 : Int32} {th : tH} {x : (Int32)} (h : m_110 a0 a1 a2 th = some x) : ∃ fs, th[a0]? = some (.inr (4, fs)) := gC_of h
theorem S_110 {L : Nat} (d : Nat) (a0 : Nat) (a1 : Int32) (a2 : Int32) (th : tH) : Wx L (fun x => (some (.int x), th)) (d + 1) 110 5 0 [(0, .ref a0), (1, .int a1), (2, .int a2)] [] th (m_110 a0 a1 a2 th) := by
  unfold m_110
  refine x_gC ?_
  refine x_P 1 rfl rfl rfl ?_
  refine x_P (lv' := [(3, .int (Int32.ofInt 0)), (0, .ref a0), (1, .int a1), (2, .int a2)]) 2 rfl rfl rfl ?_
  refine x_P 3 rfl rfl rfl ?_
  refine x_P (lv' := [(4, .int (Int32.ofInt 0)), (3, .int (Int32.ofInt 0)), (0, .ref a0), (1, .int a1), (2, .int a2)]) 5 rfl rfl rfl ?_
  refine x_lv (lv := [(0, .ref a0), (1, .int a1), (2, .int a2), (3, .int (Int32.ofInt 0)), (4, .int (Int32.ofInt 0))]) (x_lp 50 (fun s1 => [(0, .ref a0), (1, .int a1), (2, .int a2), (3, .int s1.1), (4, .int s1.2)]) (fun s1 => th) (fun x4 => []) (fun x4 => th) (fun s1 nx2 hnx2 ex3 hex3 => ?_) (fun x4 => ?_) 4096 ((Int32.ofInt 0), (Int32.ofInt 0))) ⟨rfl, rfl, rfl, rfl, rfl, trivial⟩
  · refine x_P 7 rfl rfl rfl ?_
    refine x_P 8 rfl rfl rfl ?_
    refine x_gI rfl (fun x5 hx5 => ?_)
    refine x_ic_ge rfl rfl (fun h15 => ?_) (fun h15 => ?_)
    · exact x_lv (hex3 ()) trivial
    · refine x_P 15 rfl rfl rfl ?_
      refine x_gN rfl (fun o6 ho6 => ?_)
      refine x_P 20 rfl rfl rfl ?_
      refine x_aI rfl ⟨rfl, rfl⟩ (fun x7 hx7 => ?_)
      refine x_callS rfl rfl rfl rfl rfl rfl ⟨rfl, rfl⟩ (S_173 d x7 th) (fun x8 hx8 => ?_)
      refine x_P 25 rfl rfl rfl ?_
      refine x_jn 44 (fun v9 => [(0, .ref a0), (1, .int a1), (2, .int a2), (3, .int v9), (4, .int s1.2)]) (fun v9 => []) (fun v9 => th) (fun v9 => ?_) (fun j10 hj10 => ?_)
      · refine x_P (lv' := [(4, .int (s1.2 + Int32.ofInt 1)), (0, .ref a0), (1, .int a1), (2, .int a2), (3, .int v9)]) 47 rfl rfl rfl ?_
        refine x_P 5 rfl rfl rfl ?_
        exact x_lv (hnx2 (v9, (s1.2 + Int32.ofInt 1))) ⟨rfl, rfl, rfl, rfl, rfl, trivial⟩
      · refine x_ic_ne rfl rfl (fun h14 => ?_) (fun h14 => ?_)
        · refine x_P 29 rfl rfl rfl ?_
          refine x_P 30 rfl rfl rfl ?_
          refine x_ic_ne rfl rfl (fun h13 => ?_) (fun h13 => ?_)
          · refine x_P 34 rfl rfl rfl ?_
            refine x_gN rfl (fun o11 ho11 => ?_)
            refine x_P 39 rfl rfl rfl ?_
            refine x_aI rfl ⟨rfl, rfl⟩ (fun x12 hx12 => ?_)
            exact x_retI (x := x12) rfl
          · refine x_P (lv' := [(3, .int (s1.1 + Int32.ofInt 1)), (0, .ref a0), (1, .int a1), (2, .int a2), (4, .int s1.2)]) 44 rfl rfl rfl ?_
            exact x_lv (hj10 (s1.1 + Int32.ofInt 1)) ⟨rfl, rfl, rfl, rfl, rfl, trivial⟩
        · exact x_lv (hj10 s1.1) ⟨rfl, rfl, rfl, rfl, rfl, trivial⟩
  · refine x_P 51 rfl rfl rfl ?_
    exact x_retI (x := (Int32.ofInt 0)) rfl
-- 22 NineTrees.rowAt(II)I
noncomputable def m_22 (a0 : Nat) (a1 : Int32) (a2 : Int32) (th : tH) : Option (Int32 × tH) :=
  (gC th 7 a0).bind fun _ =>
  (m_64 a1 th).bind fun x1 =>
  jn (fun (v2 : Unit) =>
      (m_59 a0 (Int8.ofInt (-2)).toInt32 th).bind fun q4 =>
      some (q4.1, q4.2)
    ) (fun j3 =>
      if x1 = 0 then
        j3 ()
      else
        if 0 ≤ a2 then
          (m_63 a0 th).bind fun q5 =>
          (m_110 q5.1 a1 a2 q5.2).bind fun x6 =>
          jn (fun (v7 : Int32 × tH) =>
              some (v7.1, v7.2)
            ) (fun j8 =>
              if x6 = 0 then
                (m_59 a0 (Int8.ofInt (-5)).toInt32 q5.2).bind fun q9 =>
                j8 (q9.1, q9.2)
              else
                j8 (x6, q5.2)
            )
        else
          j3 ()
    )
theorem c_22 {a0 : Nat} {a1 : Int32} {a2 : Int32} {th : tH} {x : (Int32 × tH)} (h : m_22 a0 a1 a2 th = some x) : ∃ fs, th[a0]? = some (.inr (7, fs)) := gC_of h
theorem S_22 {L : Nat} (d : Nat) (a0 : Nat) (a1 : Int32) (a2 : Int32) (th : tH) : Wx L (fun x => (some (.int x.1), x.2)) (d + 5) 22 4 0 [(0, .ref a0), (1, .int a1), (2, .int a2)] [] th (m_22 a0 a1 a2 th) := by
  unfold m_22
  refine x_gC ?_
  refine x_P 1 rfl rfl rfl ?_
  refine x_callS rfl rfl rfl rfl rfl rfl ⟨rfl, rfl⟩ (S_64 (d + 4) a1 th) (fun x1 hx1 => ?_)
  refine x_jn 11 (fun v2 => [(0, .ref a0)]) (fun v2 => []) (fun v2 => th) (fun v2 => ?_) (fun j3 hj3 => ?_)
  · refine x_P 12 rfl rfl rfl ?_
    refine x_P 14 rfl rfl rfl ?_
    refine x_callV rfl rfl rfl rfl rfl ⟨rfl, rfl⟩ (fun x h => c_59 h) (S_59 (d + 3) a0 (Int8.ofInt (-2)).toInt32 th) (fun q4 hq4 => ?_)
    exact x_retI (x := (q4.1, q4.2)) rfl
  · refine x_if_eq rfl rfl (fun h12 => ?_) (fun h12 => ?_)
    · exact x_lv (hj3 ()) ⟨rfl, trivial⟩
    · refine x_P 8 rfl rfl rfl ?_
      refine x_if_ge rfl rfl (fun h11 => ?_) (fun h11 => ?_)
      · refine x_P 19 rfl rfl rfl ?_
        refine x_callV rfl rfl rfl rfl rfl ⟨rfl, rfl⟩ (fun x h => c_63 h) (S_63 d a0 th) (fun q5 hq5 => ?_)
        refine x_P 23 rfl rfl rfl ?_
        refine x_P 24 rfl rfl rfl ?_
        refine x_callV rfl rfl rfl rfl rfl ⟨rfl, rfl⟩ (fun x h => c_110 h) (S_110 (d + 3) q5.1 a1 a2 q5.2) (fun x6 hx6 => ?_)
        refine x_P (lv' := [(3, .int x6), (0, .ref a0), (1, .int a1), (2, .int a2)]) 28 rfl rfl rfl ?_
        refine x_P 29 rfl rfl rfl ?_
        refine x_jn 42 (fun v7 => []) (fun v7 => [.int v7.1]) (fun v7 => v7.2) (fun v7 => ?_) (fun j8 hj8 => ?_)
        · exact x_retI (x := (v7.1, v7.2)) rfl
        · refine x_if_ne rfl rfl (fun h10 => ?_) (fun h10 => ?_)
          · refine x_P 33 rfl rfl rfl ?_
            refine x_P 35 rfl rfl rfl ?_
            refine x_callV rfl rfl rfl rfl rfl ⟨rfl, rfl⟩ (fun x h => c_59 h) (S_59 (d + 3) a0 (Int8.ofInt (-5)).toInt32 q5.2) (fun q9 hq9 => ?_)
            refine x_P 42 rfl rfl rfl ?_
            exact x_lv (hj8 (q9.1, q9.2)) trivial
          · refine x_P 42 rfl rfl rfl ?_
            exact x_lv (hj8 (x6, q5.2)) trivial
      · exact x_lv (hj3 ()) ⟨rfl, trivial⟩
-- 111 NineTrees$RowList.fullest()I
noncomputable def m_111 (a0 : Nat) (th : tH) : Option (Int32) :=
  (gC th 4 a0).bind fun _ =>
  lp (fun (s1 : Int32 × Int32) nx2 ex3 =>
      (gI th 4 a0 1).bind fun x5 =>
      if x5 ≤ s1.2 then
        ex3 s1.1
      else
        (gN th 4 a0 0).bind fun o6 =>
        (aI th o6 s1.2).bind fun x7 =>
        (m_173 x7 th).bind fun x8 =>
        (m_173 s1.1 th).bind fun x9 =>
        jn (fun (v10 : Int32) =>
            nx2 (v10, (s1.2 + Int32.ofInt 1))
          ) (fun j11 =>
            if x8 ≤ x9 then
              j11 s1.1
            else
              (gN th 4 a0 0).bind fun o12 =>
              (aI th o12 s1.2).bind fun x13 =>
              j11 x13
          )
    ) 4096 ((Int32.ofInt 0), (Int32.ofInt 0)) (fun (x4 : Int32) =>
      some x4
    )
theorem c_111 {a0 : Nat} {th : tH} {x : (Int32)} (h : m_111 a0 th = some x) : ∃ fs, th[a0]? = some (.inr (4, fs)) := gC_of h
theorem S_111 {L : Nat} (d : Nat) (a0 : Nat) (th : tH) : Wx L (fun x => (some (.int x), th)) (d + 1) 111 3 0 [(0, .ref a0)] [] th (m_111 a0 th) := by
  unfold m_111
  refine x_gC ?_
  refine x_P 1 rfl rfl rfl ?_
  refine x_P (lv' := [(1, .int (Int32.ofInt 0)), (0, .ref a0)]) 2 rfl rfl rfl ?_
  refine x_P 3 rfl rfl rfl ?_
  refine x_P (lv' := [(2, .int (Int32.ofInt 0)), (1, .int (Int32.ofInt 0)), (0, .ref a0)]) 4 rfl rfl rfl ?_
  refine x_lv (lv := [(0, .ref a0), (1, .int (Int32.ofInt 0)), (2, .int (Int32.ofInt 0))]) (x_lp 41 (fun s1 => [(0, .ref a0), (1, .int s1.1), (2, .int s1.2)]) (fun s1 => th) (fun x4 => [(1, .int x4)]) (fun x4 => th) (fun s1 nx2 hnx2 ex3 hex3 => ?_) (fun x4 => ?_) 4096 ((Int32.ofInt 0), (Int32.ofInt 0))) ⟨rfl, rfl, rfl, trivial⟩
  · refine x_P 5 rfl rfl rfl ?_
    refine x_P 6 rfl rfl rfl ?_
    refine x_gI rfl (fun x5 hx5 => ?_)
    refine x_ic_ge rfl rfl (fun h15 => ?_) (fun h15 => ?_)
    · exact x_lv (hex3 s1.1) ⟨rfl, trivial⟩
    · refine x_P 13 rfl rfl rfl ?_
      refine x_gN rfl (fun o6 ho6 => ?_)
      refine x_P 17 rfl rfl rfl ?_
      refine x_aI rfl ⟨rfl, rfl⟩ (fun x7 hx7 => ?_)
      refine x_callS rfl rfl rfl rfl rfl rfl ⟨rfl, rfl⟩ (S_173 d x7 th) (fun x8 hx8 => ?_)
      refine x_P 22 rfl rfl rfl ?_
      refine x_callS rfl rfl rfl rfl rfl rfl ⟨rfl, rfl⟩ (S_173 d s1.1 th) (fun x9 hx9 => ?_)
      refine x_jn 35 (fun v10 => [(0, .ref a0), (1, .int v10), (2, .int s1.2)]) (fun v10 => []) (fun v10 => th) (fun v10 => ?_) (fun j11 hj11 => ?_)
      · refine x_P (lv' := [(2, .int (s1.2 + Int32.ofInt 1)), (0, .ref a0), (1, .int v10)]) 38 rfl rfl rfl ?_
        refine x_P 4 rfl rfl rfl ?_
        exact x_lv (hnx2 (v10, (s1.2 + Int32.ofInt 1))) ⟨rfl, rfl, rfl, trivial⟩
      · refine x_ic_le rfl rfl (fun h14 => ?_) (fun h14 => ?_)
        · exact x_lv (hj11 s1.1) ⟨rfl, rfl, rfl, trivial⟩
        · refine x_P 29 rfl rfl rfl ?_
          refine x_gN rfl (fun o12 ho12 => ?_)
          refine x_P 33 rfl rfl rfl ?_
          refine x_aI rfl ⟨rfl, rfl⟩ (fun x13 hx13 => ?_)
          refine x_P (lv' := [(1, .int x13), (0, .ref a0), (2, .int s1.2)]) 35 rfl rfl rfl ?_
          exact x_lv (hj11 x13) ⟨rfl, rfl, rfl, trivial⟩
  · refine x_P 42 rfl rfl rfl ?_
    exact x_retI (x := x4) rfl
-- 23 NineTrees.longest()I
noncomputable def m_23 (a0 : Nat) (th : tH) : Option (Int32 × tH) :=
  (gC th 7 a0).bind fun _ =>
  (m_63 a0 th).bind fun q1 =>
  (m_111 q1.1 q1.2).bind fun x2 =>
  jn (fun (v3 : Int32 × tH) =>
      some (v3.1, v3.2)
    ) (fun j4 =>
      if x2 = 0 then
        (m_59 a0 (Int8.ofInt (-5)).toInt32 q1.2).bind fun q5 =>
        j4 (q5.1, q5.2)
      else
        j4 (x2, q1.2)
    )
theorem c_23 {a0 : Nat} {th : tH} {x : (Int32 × tH)} (h : m_23 a0 th = some x) : ∃ fs, th[a0]? = some (.inr (7, fs)) := gC_of h
theorem S_23 {L : Nat} (d : Nat) (a0 : Nat) (th : tH) : Wx L (fun x => (some (.int x.1), x.2)) (d + 5) 23 2 0 [(0, .ref a0)] [] th (m_23 a0 th) := by
  unfold m_23
  refine x_gC ?_
  refine x_P 1 rfl rfl rfl ?_
  refine x_callV rfl rfl rfl rfl rfl ⟨rfl, rfl⟩ (fun x h => c_63 h) (S_63 d a0 th) (fun q1 hq1 => ?_)
  refine x_callV rfl rfl rfl rfl rfl ⟨rfl, rfl⟩ (fun x h => c_111 h) (S_111 (d + 3) q1.1 q1.2) (fun x2 hx2 => ?_)
  refine x_P (lv' := [(1, .int x2), (0, .ref a0)]) 8 rfl rfl rfl ?_
  refine x_P 9 rfl rfl rfl ?_
  refine x_jn 22 (fun v3 => []) (fun v3 => [.int v3.1]) (fun v3 => v3.2) (fun v3 => ?_) (fun j4 hj4 => ?_)
  · exact x_retI (x := (v3.1, v3.2)) rfl
  · refine x_if_ne rfl rfl (fun h6 => ?_) (fun h6 => ?_)
    · refine x_P 13 rfl rfl rfl ?_
      refine x_P 15 rfl rfl rfl ?_
      refine x_callV rfl rfl rfl rfl rfl ⟨rfl, rfl⟩ (fun x h => c_59 h) (S_59 (d + 3) a0 (Int8.ofInt (-5)).toInt32 q1.2) (fun q5 hq5 => ?_)
      refine x_P 22 rfl rfl rfl ?_
      exact x_lv (hj4 (q5.1, q5.2)) trivial
    · refine x_P 22 rfl rfl rfl ?_
      exact x_lv (hj4 (x2, q1.2)) trivial
-- 109 NineTrees$RowList.treesInThrees()I
noncomputable def m_109 (a0 : Nat) (th : tH) : Option (Int32) :=
  (gC th 4 a0).bind fun _ =>
  lp (fun (s1 : Int32 × Int32) nx2 ex3 =>
      (gI th 4 a0 1).bind fun x5 =>
      if x5 ≤ s1.2 then
        ex3 s1.1
      else
        (gN th 4 a0 0).bind fun o6 =>
        (aI th o6 s1.2).bind fun x7 =>
        (m_173 x7 th).bind fun x8 =>
        jn (fun (v9 : Int32) =>
            nx2 (v9, (s1.2 + Int32.ofInt 1))
          ) (fun j10 =>
            if x8 < (Int32.ofInt 3) then
              j10 s1.1
            else
              (gN th 4 a0 0).bind fun o11 =>
              (aI th o11 s1.2).bind fun x12 =>
              j10 (s1.1 ||| x12)
          )
    ) 4096 ((Int32.ofInt 0), (Int32.ofInt 0)) (fun (x4 : Int32) =>
      some x4
    )
theorem c_109 {a0 : Nat} {th : tH} {x : (Int32)} (h : m_109 a0 th = some x) : ∃ fs, th[a0]? = some (.inr (4, fs)) := gC_of h
theorem S_109 {L : Nat} (d : Nat) (a0 : Nat) (th : tH) : Wx L (fun x => (some (.int x), th)) (d + 1) 109 3 0 [(0, .ref a0)] [] th (m_109 a0 th) := by
  unfold m_109
  refine x_gC ?_
  refine x_P 1 rfl rfl rfl ?_
  refine x_P (lv' := [(1, .int (Int32.ofInt 0)), (0, .ref a0)]) 2 rfl rfl rfl ?_
  refine x_P 3 rfl rfl rfl ?_
  refine x_P (lv' := [(2, .int (Int32.ofInt 0)), (1, .int (Int32.ofInt 0)), (0, .ref a0)]) 4 rfl rfl rfl ?_
  refine x_lv (lv := [(0, .ref a0), (1, .int (Int32.ofInt 0)), (2, .int (Int32.ofInt 0))]) (x_lp 40 (fun s1 => [(0, .ref a0), (1, .int s1.1), (2, .int s1.2)]) (fun s1 => th) (fun x4 => [(1, .int x4)]) (fun x4 => th) (fun s1 nx2 hnx2 ex3 hex3 => ?_) (fun x4 => ?_) 4096 ((Int32.ofInt 0), (Int32.ofInt 0))) ⟨rfl, rfl, rfl, trivial⟩
  · refine x_P 5 rfl rfl rfl ?_
    refine x_P 6 rfl rfl rfl ?_
    refine x_gI rfl (fun x5 hx5 => ?_)
    refine x_ic_ge rfl rfl (fun h14 => ?_) (fun h14 => ?_)
    · exact x_lv (hex3 s1.1) ⟨rfl, trivial⟩
    · refine x_P 13 rfl rfl rfl ?_
      refine x_gN rfl (fun o6 ho6 => ?_)
      refine x_P 17 rfl rfl rfl ?_
      refine x_aI rfl ⟨rfl, rfl⟩ (fun x7 hx7 => ?_)
      refine x_callS rfl rfl rfl rfl rfl rfl ⟨rfl, rfl⟩ (S_173 d x7 th) (fun x8 hx8 => ?_)
      refine x_P 22 rfl rfl rfl ?_
      refine x_jn 34 (fun v9 => [(0, .ref a0), (1, .int v9), (2, .int s1.2)]) (fun v9 => []) (fun v9 => th) (fun v9 => ?_) (fun j10 hj10 => ?_)
      · refine x_P (lv' := [(2, .int (s1.2 + Int32.ofInt 1)), (0, .ref a0), (1, .int v9)]) 37 rfl rfl rfl ?_
        refine x_P 4 rfl rfl rfl ?_
        exact x_lv (hnx2 (v9, (s1.2 + Int32.ofInt 1))) ⟨rfl, rfl, rfl, trivial⟩
      · refine x_ic_lt rfl rfl (fun h13 => ?_) (fun h13 => ?_)
        · exact x_lv (hj10 s1.1) ⟨rfl, rfl, rfl, trivial⟩
        · refine x_P 26 rfl rfl rfl ?_
          refine x_P 27 rfl rfl rfl ?_
          refine x_gN rfl (fun o11 ho11 => ?_)
          refine x_P 31 rfl rfl rfl ?_
          refine x_aI rfl ⟨rfl, rfl⟩ (fun x12 hx12 => ?_)
          refine x_P 33 rfl rfl rfl ?_
          refine x_P (lv' := [(1, .int (s1.1 ||| x12)), (0, .ref a0), (2, .int s1.2)]) 34 rfl rfl rfl ?_
          exact x_lv (hj10 (s1.1 ||| x12)) ⟨rfl, rfl, rfl, trivial⟩
  · refine x_P 41 rfl rfl rfl ?_
    exact x_retI (x := x4) rfl
-- 24 NineTrees.alone()I
noncomputable def m_24 (a0 : Nat) (th : tH) : Option (Int32 × tH) :=
  (gC th 7 a0).bind fun _ =>
  (gN th 7 a0 0).bind fun o1 =>
  (m_82 o1 th).bind fun x2 =>
  (m_63 a0 th).bind fun q3 =>
  (m_109 q3.1 q3.2).bind fun x4 =>
  some ((x2 &&& (x4 ^^^ (Int32.ofInt (-1)))), q3.2)
theorem c_24 {a0 : Nat} {th : tH} {x : (Int32 × tH)} (h : m_24 a0 th = some x) : ∃ fs, th[a0]? = some (.inr (7, fs)) := gC_of h
theorem S_24 {L : Nat} (d : Nat) (a0 : Nat) (th : tH) : Wx L (fun x => (some (.int x.1), x.2)) (d + 5) 24 1 0 [(0, .ref a0)] [] th (m_24 a0 th) := by
  unfold m_24
  refine x_gC ?_
  refine x_P 1 rfl rfl rfl ?_
  refine x_gN rfl (fun o1 ho1 => ?_)
  refine x_callV rfl rfl rfl rfl rfl ⟨rfl, rfl⟩ (fun x h => c_82 h) (S_82 (d + 4) o1 th) (fun x2 hx2 => ?_)
  refine x_P 8 rfl rfl rfl ?_
  refine x_callV rfl rfl rfl rfl rfl ⟨rfl, rfl⟩ (fun x h => c_63 h) (S_63 d a0 th) (fun q3 hq3 => ?_)
  refine x_callV rfl rfl rfl rfl rfl ⟨rfl, rfl⟩ (fun x h => c_109 h) (S_109 (d + 3) q3.1 q3.2) (fun x4 hx4 => ?_)
  refine x_P 15 rfl rfl rfl ?_
  refine x_P 16 rfl rfl rfl ?_
  refine x_P 17 rfl rfl rfl ?_
  exact x_retI (x := ((x2 &&& (x4 ^^^ (Int32.ofInt (-1)))), q3.2)) rfl
-- 25 NineTrees.through(II)I
noncomputable def m_25 (a0 : Nat) (a1 : Int32) (a2 : Int32) (th : tH) : Option (Int32 × tH) :=
  (gC th 7 a0).bind fun _ =>
  (gN th 7 a0 0).bind fun o1 =>
  (m_81 o1 a1 th).bind fun x2 =>
  jn (fun (v3 : Unit) =>
      (m_59 a0 (Int8.ofInt (-2)).toInt32 th).bind fun q5 =>
      some (q5.1, q5.2)
    ) (fun j4 =>
      if x2 = 0 then
        j4 ()
      else
        (gN th 7 a0 0).bind fun o6 =>
        (m_81 o6 a2 th).bind fun x7 =>
        if x7 = 0 then
          j4 ()
        else
          if a1 = a2 then
            j4 ()
          else
            (gN th 7 a0 0).bind fun o8 =>
            (m_85 o8 a1 (Int32.ofInt 4) th).bind fun x9 =>
            jn (fun (v10 : Unit) =>
                (m_59 a0 (Int8.ofInt (-5)).toInt32 th).bind fun q12 =>
                some (q12.1, q12.2)
              ) (fun j11 =>
                if x9 = 0 then
                  (gN th 7 a0 0).bind fun o13 =>
                  (m_85 o13 a2 (Int32.ofInt 4) th).bind fun x14 =>
                  if x14 = 0 then
                    (gN th 7 a0 0).bind fun o15 =>
                    (m_92 o15 a1 a2 th).bind fun x16 =>
                    some (x16, th)
                  else
                    j11 ()
                else
                  j11 ()
              )
    )
theorem c_25 {a0 : Nat} {a1 : Int32} {a2 : Int32} {th : tH} {x : (Int32 × tH)} (h : m_25 a0 a1 a2 th = some x) : ∃ fs, th[a0]? = some (.inr (7, fs)) := gC_of h
theorem S_25 {L : Nat} (d : Nat) (a0 : Nat) (a1 : Int32) (a2 : Int32) (th : tH) : Wx L (fun x => (some (.int x.1), x.2)) (d + 3) 25 3 0 [(0, .ref a0), (1, .int a1), (2, .int a2)] [] th (m_25 a0 a1 a2 th) := by
  unfold m_25
  refine x_gC ?_
  refine x_P 1 rfl rfl rfl ?_
  refine x_gN rfl (fun o1 ho1 => ?_)
  refine x_P 5 rfl rfl rfl ?_
  refine x_callV rfl rfl rfl rfl rfl ⟨rfl, rfl⟩ (fun x h => c_81 h) (S_81 (d + 2) o1 a1 th) (fun x2 hx2 => ?_)
  refine x_jn 27 (fun v3 => [(0, .ref a0)]) (fun v3 => []) (fun v3 => th) (fun v3 => ?_) (fun j4 hj4 => ?_)
  · refine x_P 28 rfl rfl rfl ?_
    refine x_P 30 rfl rfl rfl ?_
    refine x_callV rfl rfl rfl rfl rfl ⟨rfl, rfl⟩ (fun x h => c_59 h) (S_59 (d + 1) a0 (Int8.ofInt (-2)).toInt32 th) (fun q5 hq5 => ?_)
    exact x_retI (x := (q5.1, q5.2)) rfl
  · refine x_if_eq rfl rfl (fun h21 => ?_) (fun h21 => ?_)
    · exact x_lv (hj4 ()) ⟨rfl, trivial⟩
    · refine x_P 12 rfl rfl rfl ?_
      refine x_gN rfl (fun o6 ho6 => ?_)
      refine x_P 16 rfl rfl rfl ?_
      refine x_callV rfl rfl rfl rfl rfl ⟨rfl, rfl⟩ (fun x h => c_81 h) (S_81 (d + 2) o6 a2 th) (fun x7 hx7 => ?_)
      refine x_if_eq rfl rfl (fun h20 => ?_) (fun h20 => ?_)
      · exact x_lv (hj4 ()) ⟨rfl, trivial⟩
      · refine x_P 23 rfl rfl rfl ?_
        refine x_P 24 rfl rfl rfl ?_
        refine x_ic_ne rfl rfl (fun h19 => ?_) (fun h19 => ?_)
        · exact x_lv (hj4 ()) ⟨rfl, trivial⟩
        · refine x_P 35 rfl rfl rfl ?_
          refine x_gN rfl (fun o8 ho8 => ?_)
          refine x_P 39 rfl rfl rfl ?_
          refine x_P 40 rfl rfl rfl ?_
          refine x_callV rfl rfl rfl rfl rfl ⟨rfl, rfl⟩ (fun x h => c_85 h) (S_85 (d + 2) o8 a1 (Int32.ofInt 4) th) (fun x9 hx9 => ?_)
          refine x_jn 58 (fun v10 => [(0, .ref a0)]) (fun v10 => []) (fun v10 => th) (fun v10 => ?_) (fun j11 hj11 => ?_)
          · refine x_P 59 rfl rfl rfl ?_
            refine x_P 61 rfl rfl rfl ?_
            refine x_callV rfl rfl rfl rfl rfl ⟨rfl, rfl⟩ (fun x h => c_59 h) (S_59 (d + 1) a0 (Int8.ofInt (-5)).toInt32 th) (fun q12 hq12 => ?_)
            exact x_retI (x := (q12.1, q12.2)) rfl
          · refine x_if_ne rfl rfl (fun h18 => ?_) (fun h18 => ?_)
            · refine x_P 47 rfl rfl rfl ?_
              refine x_gN rfl (fun o13 ho13 => ?_)
              refine x_P 51 rfl rfl rfl ?_
              refine x_P 52 rfl rfl rfl ?_
              refine x_callV rfl rfl rfl rfl rfl ⟨rfl, rfl⟩ (fun x h => c_85 h) (S_85 (d + 2) o13 a2 (Int32.ofInt 4) th) (fun x14 hx14 => ?_)
              refine x_if_eq rfl rfl (fun h17 => ?_) (fun h17 => ?_)
              · refine x_P 66 rfl rfl rfl ?_
                refine x_gN rfl (fun o15 ho15 => ?_)
                refine x_P 70 rfl rfl rfl ?_
                refine x_P 71 rfl rfl rfl ?_
                refine x_callV rfl rfl rfl rfl rfl ⟨rfl, rfl⟩ (fun x h => c_92 h) (S_92 d o15 a1 a2 th) (fun x16 hx16 => ?_)
                exact x_retI (x := (x16, th)) rfl
              · exact x_lv (hj11 ()) ⟨rfl, trivial⟩
            · exact x_lv (hj11 ()) ⟨rfl, trivial⟩
-- 94 NineTrees$Garden.isInOneRow(I)Z
noncomputable def m_94 (a0 : Nat) (a1 : Int32) (th : tH) : Option (Int32) :=
  (gC th 2 a0).bind fun _ =>
  (m_65 a1 th).bind fun x1 =>
  (m_66 a1 th).bind fun x2 =>
  (m_81 a0 x1 th).bind fun x3 =>
  jn (fun (v4 : Int32) =>
      rB v4
    ) (fun j5 =>
      jn (fun (v6 : Unit) =>
          j5 (Int32.ofInt 0)
        ) (fun j7 =>
          if x3 = 0 then
            j7 ()
          else
            (m_81 a0 x2 th).bind fun x8 =>
            if x8 = 0 then
              j7 ()
            else
              (m_92 a0 x1 x2 th).bind fun x9 =>
              if (a1 &&& (x9 ^^^ (Int32.ofInt (-1)))) = 0 then
                j5 (Int32.ofInt 1)
              else
                j7 ()
        )
    )
theorem c_94 {a0 : Nat} {a1 : Int32} {th : tH} {x : (Int32)} (h : m_94 a0 a1 th = some x) : ∃ fs, th[a0]? = some (.inr (2, fs)) := gC_of h
theorem S_94 {L : Nat} (d : Nat) (a0 : Nat) (a1 : Int32) (th : tH) : Wx L (fun x => (some (.int x), th)) (d + 3) 94 4 0 [(0, .ref a0), (1, .int a1)] [] th (m_94 a0 a1 th) := by
  unfold m_94
  refine x_gC ?_
  refine x_P 1 rfl rfl rfl ?_
  refine x_callS rfl rfl rfl rfl rfl rfl ⟨rfl, rfl⟩ (S_65 (d + 1) a1 th) (fun x1 hx1 => ?_)
  refine x_P (lv' := [(2, .int x1), (0, .ref a0), (1, .int a1)]) 5 rfl rfl rfl ?_
  refine x_P 6 rfl rfl rfl ?_
  refine x_callS rfl rfl rfl rfl rfl rfl ⟨rfl, rfl⟩ (S_66 (d + 1) a1 th) (fun x2 hx2 => ?_)
  refine x_P (lv' := [(3, .int x2), (2, .int x1), (0, .ref a0), (1, .int a1)]) 10 rfl rfl rfl ?_
  refine x_P 11 rfl rfl rfl ?_
  refine x_P 12 rfl rfl rfl ?_
  refine x_callV rfl rfl rfl rfl rfl ⟨rfl, rfl⟩ (fun x h => c_81 h) (S_81 (d + 2) a0 x1 th) (fun x3 hx3 => ?_)
  refine x_jn 44 (fun v4 => []) (fun v4 => [.int v4]) (fun v4 => th) (fun v4 => ?_) (fun j5 hj5 => ?_)
  · exact x_rB rfl
  · refine x_jn 43 (fun v6 => []) (fun v6 => []) (fun v6 => th) (fun v6 => ?_) (fun j7 hj7 => ?_)
    · refine x_P 44 rfl rfl rfl ?_
      exact x_lv (hj5 (Int32.ofInt 0)) trivial
    · refine x_if_eq rfl rfl (fun h12 => ?_) (fun h12 => ?_)
      · exact x_lv (hj7 ()) trivial
      · refine x_P 19 rfl rfl rfl ?_
        refine x_P 20 rfl rfl rfl ?_
        refine x_callV rfl rfl rfl rfl rfl ⟨rfl, rfl⟩ (fun x h => c_81 h) (S_81 (d + 2) a0 x2 th) (fun x8 hx8 => ?_)
        refine x_if_eq rfl rfl (fun h11 => ?_) (fun h11 => ?_)
        · exact x_lv (hj7 ()) trivial
        · refine x_P 27 rfl rfl rfl ?_
          refine x_P 28 rfl rfl rfl ?_
          refine x_P 29 rfl rfl rfl ?_
          refine x_P 30 rfl rfl rfl ?_
          refine x_callV rfl rfl rfl rfl rfl ⟨rfl, rfl⟩ (fun x h => c_92 h) (S_92 d a0 x1 x2 th) (fun x9 hx9 => ?_)
          refine x_P 34 rfl rfl rfl ?_
          refine x_P 35 rfl rfl rfl ?_
          refine x_P 36 rfl rfl rfl ?_
          refine x_if_ne rfl rfl (fun h10 => ?_) (fun h10 => ?_)
          · refine x_P 40 rfl rfl rfl ?_
            refine x_P 44 rfl rfl rfl ?_
            exact x_lv (hj5 (Int32.ofInt 1)) trivial
          · exact x_lv (hj7 ()) trivial
-- 26 NineTrees.inLine(I)I
noncomputable def m_26 (a0 : Nat) (a1 : Int32) (th : tH) : Option (Int32 × tH) :=
  (gC th 7 a0).bind fun _ =>
  (gN th 7 a0 0).bind fun o1 =>
  (m_93 o1 a1 th).bind fun x2 =>
  if x2 = 0 then
    (m_59 a0 (Int8.ofInt (-2)).toInt32 th).bind fun q8 =>
    some (q8.1, q8.2)
  else
    (gN th 7 a0 0).bind fun o3 =>
    (m_94 o3 a1 th).bind fun x4 =>
    jn (fun (v5 : Int32) =>
        some (v5, th)
      ) (fun j6 =>
        if x4 = 0 then
          j6 (Int32.ofInt 0)
        else
          j6 (Int32.ofInt 1)
      )
theorem c_26 {a0 : Nat} {a1 : Int32} {th : tH} {x : (Int32 × tH)} (h : m_26 a0 a1 th = some x) : ∃ fs, th[a0]? = some (.inr (7, fs)) := gC_of h
theorem S_26 {L : Nat} (d : Nat) (a0 : Nat) (a1 : Int32) (th : tH) : Wx L (fun x => (some (.int x.1), x.2)) (d + 4) 26 2 0 [(0, .ref a0), (1, .int a1)] [] th (m_26 a0 a1 th) := by
  unfold m_26
  refine x_gC ?_
  refine x_P 1 rfl rfl rfl ?_
  refine x_gN rfl (fun o1 ho1 => ?_)
  refine x_P 5 rfl rfl rfl ?_
  refine x_callV rfl rfl rfl rfl rfl ⟨rfl, rfl⟩ (fun x h => c_93 h) (S_93 (d + 2) o1 a1 th) (fun x2 hx2 => ?_)
  refine x_if_ne rfl rfl (fun h9 => ?_) (fun h9 => ?_)
  · refine x_P 12 rfl rfl rfl ?_
    refine x_P 14 rfl rfl rfl ?_
    refine x_callV rfl rfl rfl rfl rfl ⟨rfl, rfl⟩ (fun x h => c_59 h) (S_59 (d + 2) a0 (Int8.ofInt (-2)).toInt32 th) (fun q8 hq8 => ?_)
    exact x_retI (x := (q8.1, q8.2)) rfl
  · refine x_P 19 rfl rfl rfl ?_
    refine x_gN rfl (fun o3 ho3 => ?_)
    refine x_P 23 rfl rfl rfl ?_
    refine x_callV rfl rfl rfl rfl rfl ⟨rfl, rfl⟩ (fun x h => c_94 h) (S_94 d o3 a1 th) (fun x4 hx4 => ?_)
    refine x_jn 34 (fun v5 => []) (fun v5 => [.int v5]) (fun v5 => th) (fun v5 => ?_) (fun j6 hj6 => ?_)
    · exact x_retI (x := (v5, th)) rfl
    · refine x_if_eq rfl rfl (fun h7 => ?_) (fun h7 => ?_)
      · refine x_P 34 rfl rfl rfl ?_
        exact x_lv (hj6 (Int32.ofInt 0)) trivial
      · refine x_P 30 rfl rfl rfl ?_
        refine x_P 34 rfl rfl rfl ?_
        exact x_lv (hj6 (Int32.ofInt 1)) trivial
-- 29 NineTrees.isInLineWithFirst(LNineTrees$Shelf;I)Z
noncomputable def m_29 (a0 : Nat) (a1 : Nat) (a2 : Int32) (th : tH) : Option (Int32) :=
  (gC th 7 a0).bind fun _ =>
  (gN th 5 a1 0).bind fun o1 =>
  (aJ th o1 (Int32.ofInt 0)).bind fun x2 =>
  (gN th 5 a1 0).bind fun o3 =>
  (aJ th o3 (Int32.ofInt 1)).bind fun x4 =>
  (gN th 7 a0 0).bind fun o5 =>
  (m_81 o5 (Int64.toInt32 x2) th).bind fun x6 =>
  jn (fun (v7 : Int32) =>
      rB v7
    ) (fun j8 =>
      jn (fun (v9 : Unit) =>
          j8 (Int32.ofInt 0)
        ) (fun j10 =>
          if x6 = 0 then
            j10 ()
          else
            (gN th 7 a0 0).bind fun o11 =>
            (m_81 o11 (Int64.toInt32 x4) th).bind fun x12 =>
            if x12 = 0 then
              j10 ()
            else
              (gN th 7 a0 0).bind fun o13 =>
              (gN th 7 a0 0).bind fun o14 =>
              (gN th 2 o14 1).bind fun o15 =>
              (aI th o15 (Int64.toInt32 x2)).bind fun x16 =>
              (gN th 7 a0 0).bind fun o17 =>
              (gN th 2 o17 1).bind fun o18 =>
              (aI th o18 (Int64.toInt32 x4)).bind fun x19 =>
              (gN th 7 a0 0).bind fun o20 =>
              (gN th 2 o20 1).bind fun o21 =>
              (aI th o21 a2).bind fun x22 =>
              (m_79 o13 x16 x19 x22 th).bind fun x23 =>
              if x23 = 0 then
                j8 (Int32.ofInt 1)
              else
                j10 ()
        )
    )
theorem c_29 {a0 : Nat} {a1 : Nat} {a2 : Int32} {th : tH} {x : (Int32)} (h : m_29 a0 a1 a2 th = some x) : ∃ fs, th[a0]? = some (.inr (7, fs)) := gC_of h
theorem S_29 {L : Nat} (d : Nat) (a0 : Nat) (a1 : Nat) (a2 : Int32) (th : tH) : Wx L (fun x => (some (.int x), th)) (d + 2) 29 5 0 [(0, .ref a0), (1, .ref a1), (2, .int a2)] [] th (m_29 a0 a1 a2 th) := by
  unfold m_29
  refine x_gC ?_
  refine x_P 1 rfl rfl rfl ?_
  refine x_gN rfl (fun o1 ho1 => ?_)
  refine x_P 5 rfl rfl rfl ?_
  refine x_aJ rfl ⟨rfl, rfl⟩ (fun x2 hx2 => ?_)
  refine x_P 7 rfl rfl rfl ?_
  refine x_P (lv' := [(3, .int (Int64.toInt32 x2)), (0, .ref a0), (1, .ref a1), (2, .int a2)]) 8 rfl rfl rfl ?_
  refine x_P 9 rfl rfl rfl ?_
  refine x_gN rfl (fun o3 ho3 => ?_)
  refine x_P 13 rfl rfl rfl ?_
  refine x_aJ rfl ⟨rfl, rfl⟩ (fun x4 hx4 => ?_)
  refine x_P 15 rfl rfl rfl ?_
  refine x_P (lv' := [(4, .int (Int64.toInt32 x4)), (3, .int (Int64.toInt32 x2)), (0, .ref a0), (1, .ref a1), (2, .int a2)]) 17 rfl rfl rfl ?_
  refine x_P 18 rfl rfl rfl ?_
  refine x_gN rfl (fun o5 ho5 => ?_)
  refine x_P 22 rfl rfl rfl ?_
  refine x_callV rfl rfl rfl rfl rfl ⟨rfl, rfl⟩ (fun x h => c_81 h) (S_81 (d + 1) o5 (Int64.toInt32 x2) th) (fun x6 hx6 => ?_)
  refine x_jn 83 (fun v7 => []) (fun v7 => [.int v7]) (fun v7 => th) (fun v7 => ?_) (fun j8 hj8 => ?_)
  · exact x_rB rfl
  · refine x_jn 82 (fun v9 => []) (fun v9 => []) (fun v9 => th) (fun v9 => ?_) (fun j10 hj10 => ?_)
    · refine x_P 83 rfl rfl rfl ?_
      exact x_lv (hj8 (Int32.ofInt 0)) trivial
    · refine x_if_eq rfl rfl (fun h26 => ?_) (fun h26 => ?_)
      · exact x_lv (hj10 ()) trivial
      · refine x_P 29 rfl rfl rfl ?_
        refine x_gN rfl (fun o11 ho11 => ?_)
        refine x_P 34 rfl rfl rfl ?_
        refine x_callV rfl rfl rfl rfl rfl ⟨rfl, rfl⟩ (fun x h => c_81 h) (S_81 (d + 1) o11 (Int64.toInt32 x4) th) (fun x12 hx12 => ?_)
        refine x_if_eq rfl rfl (fun h25 => ?_) (fun h25 => ?_)
        · exact x_lv (hj10 ()) trivial
        · refine x_P 41 rfl rfl rfl ?_
          refine x_gN rfl (fun o13 ho13 => ?_)
          refine x_P 45 rfl rfl rfl ?_
          refine x_gN rfl (fun o14 ho14 => ?_)
          refine x_gN rfl (fun o15 ho15 => ?_)
          refine x_P 52 rfl rfl rfl ?_
          refine x_aI rfl ⟨rfl, rfl⟩ (fun x16 hx16 => ?_)
          refine x_P 54 rfl rfl rfl ?_
          refine x_gN rfl (fun o17 ho17 => ?_)
          refine x_gN rfl (fun o18 ho18 => ?_)
          refine x_P 62 rfl rfl rfl ?_
          refine x_aI rfl ⟨rfl, rfl⟩ (fun x19 hx19 => ?_)
          refine x_P 64 rfl rfl rfl ?_
          refine x_gN rfl (fun o20 ho20 => ?_)
          refine x_gN rfl (fun o21 ho21 => ?_)
          refine x_P 71 rfl rfl rfl ?_
          refine x_aI rfl ⟨rfl, rfl⟩ (fun x22 hx22 => ?_)
          refine x_callV rfl rfl rfl rfl rfl ⟨rfl, rfl⟩ (fun x h => c_79 h) (S_79 d o13 x16 x19 x22 th) (fun x23 hx23 => ?_)
          refine x_if_ne rfl rfl (fun h24 => ?_) (fun h24 => ?_)
          · refine x_P 79 rfl rfl rfl ?_
            refine x_P 83 rfl rfl rfl ?_
            exact x_lv (hj8 (Int32.ofInt 1)) trivial
          · exact x_lv (hj10 ()) trivial
-- 28 NineTrees.firstMisfit(LNineTrees$Shelf;I)I
noncomputable def m_28 (a0 : Nat) (a1 : Nat) (a2 : Int32) (th : tH) : Option (Int32) :=
  (gC th 7 a0).bind fun _ =>
  lp (fun (s1 : Int32 × Int32) nx2 ex3 =>
      if a2 ≤ s1.2 then
        ex3 ()
      else
        (gN th 5 a1 0).bind fun o5 =>
        (aJ th o5 s1.2).bind fun x6 =>
        jn (fun (v7 : Unit) =>
            some s1.2
          ) (fun j8 =>
            if (lg_cmp x6 (Int64.ofNat 0)) < 0 then
              j8 ()
            else
              (gN th 7 a0 0).bind fun o9 =>
              (gI th 2 o9 5).bind fun x10 =>
              if (lg_cmp x6 (Int32.toInt64 x10)) < 0 then
                jn (fun (v11 : Int32) =>
                    jn (fun (v13 : Unit) =>
                        some s1.2
                      ) (fun j14 =>
                        if v11 = 0 then
                          (gN th 7 a0 0).bind fun o15 =>
                          (m_85 o15 (Int64.toInt32 x6) (Int32.ofInt 4) th).bind fun x16 =>
                          if x16 = 0 then
                            jn (fun (v17 : Unit) =>
                                nx2 ((s1.1 ||| ((Int32.ofInt 1) <<< ((Int64.toInt32 x6) &&& 31))), (s1.2 + Int32.ofInt 1))
                              ) (fun j18 =>
                                if s1.2 < (Int32.ofInt 2) then
                                  j18 ()
                                else
                                  (m_29 a0 a1 (Int64.toInt32 x6) th).bind fun x19 =>
                                  if x19 = 0 then
                                    j14 ()
                                  else
                                    j18 ()
                              )
                          else
                            j14 ()
                        else
                          j14 ()
                      )
                  ) (fun j12 =>
                    if (s1.1 &&& ((Int32.ofInt 1) <<< ((Int64.toInt32 x6) &&& 31))) = 0 then
                      j12 (Int32.ofInt 0)
                    else
                      j12 (Int32.ofInt 1)
                  )
              else
                j8 ()
          )
    ) 4096 ((Int32.ofInt 0), (Int32.ofInt 0)) (fun (x4 : Unit) =>
      some (Int32.ofInt (-1))
    )
theorem c_28 {a0 : Nat} {a1 : Nat} {a2 : Int32} {th : tH} {x : (Int32)} (h : m_28 a0 a1 a2 th = some x) : ∃ fs, th[a0]? = some (.inr (7, fs)) := gC_of h
theorem S_28 {L : Nat} (d : Nat) (a0 : Nat) (a1 : Nat) (a2 : Int32) (th : tH) : Wx L (fun x => (some (.int x), th)) (d + 3) 28 9 0 [(0, .ref a0), (1, .ref a1), (2, .int a2)] [] th (m_28 a0 a1 a2 th) := by
  unfold m_28
  refine x_gC ?_
  refine x_P 1 rfl rfl rfl ?_
  refine x_P (lv' := [(3, .int (Int32.ofInt 0)), (0, .ref a0), (1, .ref a1), (2, .int a2)]) 2 rfl rfl rfl ?_
  refine x_P 3 rfl rfl rfl ?_
  refine x_P (lv' := [(4, .int (Int32.ofInt 0)), (3, .int (Int32.ofInt 0)), (0, .ref a0), (1, .ref a1), (2, .int a2)]) 5 rfl rfl rfl ?_
  refine x_lv (lv := [(0, .ref a0), (1, .ref a1), (2, .int a2), (3, .int (Int32.ofInt 0)), (4, .int (Int32.ofInt 0))]) (x_lp 115 (fun s1 => [(0, .ref a0), (1, .ref a1), (2, .int a2), (3, .int s1.1), (4, .int s1.2)]) (fun s1 => th) (fun x4 => []) (fun x4 => th) (fun s1 nx2 hnx2 ex3 hex3 => ?_) (fun x4 => ?_) 4096 ((Int32.ofInt 0), (Int32.ofInt 0))) ⟨rfl, rfl, rfl, rfl, rfl, trivial⟩
  · refine x_P 7 rfl rfl rfl ?_
    refine x_P 8 rfl rfl rfl ?_
    refine x_ic_ge rfl rfl (fun h27 => ?_) (fun h27 => ?_)
    · exact x_lv (hex3 ()) trivial
    · refine x_P 12 rfl rfl rfl ?_
      refine x_gN rfl (fun o5 ho5 => ?_)
      refine x_P 17 rfl rfl rfl ?_
      refine x_aJ rfl ⟨rfl, rfl⟩ (fun x6 hx6 => ?_)
      refine x_P (lv' := [(5, .long x6), (0, .ref a0), (1, .ref a1), (2, .int a2), (3, .int s1.1), (4, .int s1.2)]) 20 rfl rfl rfl ?_
      refine x_P 22 rfl rfl rfl ?_
      refine x_P 23 rfl rfl rfl ?_
      refine x_P 24 rfl rfl rfl ?_
      refine x_jn 41 (fun v7 => [(4, .int s1.2)]) (fun v7 => []) (fun v7 => th) (fun v7 => ?_) (fun j8 hj8 => ?_)
      · refine x_P 43 rfl rfl rfl ?_
        exact x_retI (x := s1.2) rfl
      · refine x_if_lt rfl rfl (fun h26 => ?_) (fun h26 => ?_)
        · exact x_lv (hj8 ()) ⟨rfl, trivial⟩
        · refine x_P 29 rfl rfl rfl ?_
          refine x_P 30 rfl rfl rfl ?_
          refine x_gN rfl (fun o9 ho9 => ?_)
          refine x_gI rfl (fun x10 hx10 => ?_)
          refine x_P 37 rfl rfl rfl ?_
          refine x_P 38 rfl rfl rfl ?_
          refine x_if_lt rfl rfl (fun h25 => ?_) (fun h25 => ?_)
          · refine x_P 46 rfl rfl rfl ?_
            refine x_P 47 rfl rfl rfl ?_
            refine x_P (lv' := [(7, .int (Int64.toInt32 x6)), (5, .long x6), (0, .ref a0), (1, .ref a1), (2, .int a2), (3, .int s1.1), (4, .int s1.2)]) 49 rfl rfl rfl ?_
            refine x_P 50 rfl rfl rfl ?_
            refine x_P 51 rfl rfl rfl ?_
            refine x_P 53 rfl rfl rfl ?_
            refine x_P 54 rfl rfl rfl ?_
            refine x_P 55 rfl rfl rfl ?_
            refine x_jn 63 (fun v11 => [(0, .ref a0), (1, .ref a1), (2, .int a2), (3, .int s1.1), (4, .int s1.2), (7, .int (Int64.toInt32 x6))]) (fun v11 => [.int v11]) (fun v11 => th) (fun v11 => ?_) (fun j12 hj12 => ?_)
            · refine x_P (lv' := [(8, .int v11), (0, .ref a0), (1, .ref a1), (2, .int a2), (3, .int s1.1), (4, .int s1.2), (7, .int (Int64.toInt32 x6))]) 65 rfl rfl rfl ?_
              refine x_P 67 rfl rfl rfl ?_
              refine x_jn 99 (fun v13 => [(4, .int s1.2)]) (fun v13 => []) (fun v13 => th) (fun v13 => ?_) (fun j14 hj14 => ?_)
              · refine x_P 101 rfl rfl rfl ?_
                exact x_retI (x := s1.2) rfl
              · refine x_if_ne rfl rfl (fun h23 => ?_) (fun h23 => ?_)
                · refine x_P 71 rfl rfl rfl ?_
                  refine x_gN rfl (fun o15 ho15 => ?_)
                  refine x_P 76 rfl rfl rfl ?_
                  refine x_P 77 rfl rfl rfl ?_
                  refine x_callV rfl rfl rfl rfl rfl ⟨rfl, rfl⟩ (fun x h => c_85 h) (S_85 (d + 2) o15 (Int64.toInt32 x6) (Int32.ofInt 4) th) (fun x16 hx16 => ?_)
                  refine x_if_ne rfl rfl (fun h22 => ?_) (fun h22 => ?_)
                  · refine x_P 85 rfl rfl rfl ?_
                    refine x_P 86 rfl rfl rfl ?_
                    refine x_jn 102 (fun v17 => [(0, .ref a0), (1, .ref a1), (2, .int a2), (3, .int s1.1), (4, .int s1.2), (7, .int (Int64.toInt32 x6))]) (fun v17 => []) (fun v17 => th) (fun v17 => ?_) (fun j18 hj18 => ?_)
                    · refine x_P 103 rfl rfl rfl ?_
                      refine x_P 104 rfl rfl rfl ?_
                      refine x_P 106 rfl rfl rfl ?_
                      refine x_P 107 rfl rfl rfl ?_
                      refine x_P 108 rfl rfl rfl ?_
                      refine x_P (lv' := [(3, .int (s1.1 ||| ((Int32.ofInt 1) <<< ((Int64.toInt32 x6) &&& 31)))), (0, .ref a0), (1, .ref a1), (2, .int a2), (4, .int s1.2), (7, .int (Int64.toInt32 x6))]) 109 rfl rfl rfl ?_
                      refine x_P (lv' := [(4, .int (s1.2 + Int32.ofInt 1)), (3, .int (s1.1 ||| ((Int32.ofInt 1) <<< ((Int64.toInt32 x6) &&& 31)))), (0, .ref a0), (1, .ref a1), (2, .int a2), (7, .int (Int64.toInt32 x6))]) 112 rfl rfl rfl ?_
                      refine x_P 5 rfl rfl rfl ?_
                      exact x_lv (hnx2 ((s1.1 ||| ((Int32.ofInt 1) <<< ((Int64.toInt32 x6) &&& 31))), (s1.2 + Int32.ofInt 1))) ⟨rfl, rfl, rfl, rfl, rfl, trivial⟩
                    · refine x_ic_lt rfl rfl (fun h21 => ?_) (fun h21 => ?_)
                      · exact x_lv (hj18 ()) ⟨rfl, rfl, rfl, rfl, rfl, rfl, trivial⟩
                      · refine x_P 90 rfl rfl rfl ?_
                        refine x_P 91 rfl rfl rfl ?_
                        refine x_P 93 rfl rfl rfl ?_
                        refine x_callV rfl rfl rfl rfl rfl ⟨rfl, rfl⟩ (fun x h => c_29 h) (S_29 d a0 a1 (Int64.toInt32 x6) th) (fun x19 hx19 => ?_)
                        refine x_if_ne rfl rfl (fun h20 => ?_) (fun h20 => ?_)
                        · exact x_lv (hj14 ()) ⟨rfl, trivial⟩
                        · exact x_lv (hj18 ()) ⟨rfl, rfl, rfl, rfl, rfl, rfl, trivial⟩
                  · exact x_lv (hj14 ()) ⟨rfl, trivial⟩
                · exact x_lv (hj14 ()) ⟨rfl, trivial⟩
            · refine x_if_eq rfl rfl (fun h24 => ?_) (fun h24 => ?_)
              · refine x_P 63 rfl rfl rfl ?_
                exact x_lv (hj12 (Int32.ofInt 0)) ⟨rfl, rfl, rfl, rfl, rfl, rfl, trivial⟩
              · refine x_P 59 rfl rfl rfl ?_
                refine x_P 63 rfl rfl rfl ?_
                exact x_lv (hj12 (Int32.ofInt 1)) ⟨rfl, rfl, rfl, rfl, rfl, rfl, trivial⟩
          · exact x_lv (hj8 ()) ⟨rfl, trivial⟩
  · refine x_P 116 rfl rfl rfl ?_
    exact x_retI (x := (Int32.ofInt (-1))) rfl
-- 27 NineTrees.judge(II)I
noncomputable def m_27 (a0 : Nat) (a1 : Int32) (a2 : Int32) (th : tH) : Option (Int32 × tH) :=
  (gC th 7 a0).bind fun _ =>
  (m_60 a0 a1 th).bind fun r1 =>
  jn (fun (v2 : Unit) =>
      (m_59 a0 (Int8.ofInt (-2)).toInt32 th).bind fun q4 =>
      some (q4.1, q4.2)
    ) (fun j3 =>
      match r1 with
      | none =>
        j3 ()
      | some o5 =>
        if a2 < 0 then
          j3 ()
        else
          if a2 ≤ (Int8.ofInt 12).toInt32 then
            (m_150 o5 th).bind fun x6 =>
            if x6 = 0 then
              (m_152 o5 th).bind fun x11 =>
              (m_59 a0 x11 th).bind fun q12 =>
              some (q12.1, q12.2)
            else
              (gI th 5 o5 2).bind fun x7 =>
              if a2 ≤ x7 then
                (m_28 a0 o5 a2 th).bind fun x8 =>
                some (x8, th)
              else
                (m_59 a0 (Int8.ofInt (-2)).toInt32 th).bind fun q9 =>
                some (q9.1, q9.2)
          else
            j3 ()
    )
theorem c_27 {a0 : Nat} {a1 : Int32} {a2 : Int32} {th : tH} {x : (Int32 × tH)} (h : m_27 a0 a1 a2 th = some x) : ∃ fs, th[a0]? = some (.inr (7, fs)) := gC_of h
theorem S_27 {L : Nat} (d : Nat) (a0 : Nat) (a1 : Int32) (a2 : Int32) (th : tH) : Wx L (fun x => (some (.int x.1), x.2)) (d + 4) 27 4 0 [(0, .ref a0), (1, .int a1), (2, .int a2)] [] th (m_27 a0 a1 a2 th) := by
  unfold m_27
  refine x_gC ?_
  refine x_P 1 rfl rfl rfl ?_
  refine x_P 2 rfl rfl rfl ?_
  refine x_callV rfl rfl rfl rfl rfl ⟨rfl, rfl⟩ (fun x h => c_60 h) (S_60 (d + 3) a0 a1 th) (fun r1 hr1 => ?_)
  refine x_P (lv' := [(3, va_rf r1), (0, .ref a0), (1, .int a1), (2, .int a2)]) (st' := []) 6 rfl rfl (by rcases r1 with _ | _ <;> rfl) ?_
  refine x_P 7 rfl rfl (t_P_ald_n rfl) ?_
  refine x_jn 20 (fun v2 => [(0, .ref a0)]) (fun v2 => []) (fun v2 => th) (fun v2 => ?_) (fun j3 hj3 => ?_)
  · refine x_P 21 rfl rfl rfl ?_
    refine x_P 23 rfl rfl rfl ?_
    refine x_callV rfl rfl rfl rfl rfl ⟨rfl, rfl⟩ (fun x h => c_59 h) (S_59 (d + 2) a0 (Int8.ofInt (-2)).toInt32 th) (fun q4 hq4 => ?_)
    exact x_retI (x := (q4.1, q4.2)) rfl
  · rcases r1 with _ | o5
    · refine x_P 20 rfl rfl rfl ?_
      exact x_lv (hj3 ()) ⟨rfl, trivial⟩
    · refine x_P 10 rfl rfl rfl ?_
      refine x_P 11 rfl rfl rfl ?_
      refine x_if_lt rfl rfl (fun h15 => ?_) (fun h15 => ?_)
      · exact x_lv (hj3 ()) ⟨rfl, trivial⟩
      · refine x_P 15 rfl rfl rfl ?_
        refine x_P 17 rfl rfl rfl ?_
        refine x_ic_le rfl rfl (fun h14 => ?_) (fun h14 => ?_)
        · refine x_P 28 rfl rfl rfl ?_
          refine x_callV rfl rfl rfl rfl rfl ⟨rfl, rfl⟩ (fun x h => c_150 h) (S_150 (d + 3) o5 th) (fun x6 hx6 => ?_)
          refine x_if_ne rfl rfl (fun h13 => ?_) (fun h13 => ?_)
          · refine x_P 35 rfl rfl rfl ?_
            refine x_P 36 rfl rfl rfl ?_
            refine x_callV rfl rfl rfl rfl rfl ⟨rfl, rfl⟩ (fun x h => c_152 h) (S_152 (d + 2) o5 th) (fun x11 hx11 => ?_)
            refine x_callV rfl rfl rfl rfl rfl ⟨rfl, rfl⟩ (fun x h => c_59 h) (S_59 (d + 2) a0 x11 th) (fun q12 hq12 => ?_)
            exact x_retI (x := (q12.1, q12.2)) rfl
          · refine x_P 44 rfl rfl rfl ?_
            refine x_gI rfl (fun x7 hx7 => ?_)
            refine x_P 48 rfl rfl rfl ?_
            refine x_ic_ge rfl rfl (fun h10 => ?_) (fun h10 => ?_)
            · refine x_P 59 rfl rfl rfl ?_
              refine x_P 60 rfl rfl rfl ?_
              refine x_P 61 rfl rfl rfl ?_
              refine x_callV rfl rfl rfl rfl rfl ⟨rfl, rfl⟩ (fun x h => c_28 h) (S_28 d a0 o5 a2 th) (fun x8 hx8 => ?_)
              exact x_retI (x := (x8, th)) rfl
            · refine x_P 52 rfl rfl rfl ?_
              refine x_P 54 rfl rfl rfl ?_
              refine x_callV rfl rfl rfl rfl rfl ⟨rfl, rfl⟩ (fun x h => c_59 h) (S_59 (d + 2) a0 (Int8.ofInt (-2)).toInt32 th) (fun q9 hq9 => ?_)
              exact x_retI (x := (q9.1, q9.2)) rfl
        · exact x_lv (hj3 ()) ⟨rfl, trivial⟩
-- 78 NineTrees$Garden.squaredLength(II)I
noncomputable def m_78 (a0 : Nat) (a1 : Int32) (a2 : Int32) (th : tH) : Option (Int32) :=
  (gC th 2 a0).bind fun _ =>
  (m_72 a0 a1 th).bind fun x1 =>
  (m_72 a0 a2 th).bind fun x2 =>
  (m_73 a0 a1 th).bind fun x3 =>
  (m_73 a0 a2 th).bind fun x4 =>
  some (((x1 - x2) * (x1 - x2)) + ((x3 - x4) * (x3 - x4)))
theorem c_78 {a0 : Nat} {a1 : Int32} {a2 : Int32} {th : tH} {x : (Int32)} (h : m_78 a0 a1 a2 th = some x) : ∃ fs, th[a0]? = some (.inr (2, fs)) := gC_of h
theorem S_78 {L : Nat} (d : Nat) (a0 : Nat) (a1 : Int32) (a2 : Int32) (th : tH) : Wx L (fun x => (some (.int x), th)) (d + 1) 78 5 0 [(0, .ref a0), (1, .int a1), (2, .int a2)] [] th (m_78 a0 a1 a2 th) := by
  unfold m_78
  refine x_gC ?_
  refine x_P 1 rfl rfl rfl ?_
  refine x_P 2 rfl rfl rfl ?_
  refine x_callV rfl rfl rfl rfl rfl ⟨rfl, rfl⟩ (fun x h => c_72 h) (S_72 d a0 a1 th) (fun x1 hx1 => ?_)
  refine x_P 6 rfl rfl rfl ?_
  refine x_P 7 rfl rfl rfl ?_
  refine x_callV rfl rfl rfl rfl rfl ⟨rfl, rfl⟩ (fun x h => c_72 h) (S_72 d a0 a2 th) (fun x2 hx2 => ?_)
  refine x_P 11 rfl rfl rfl ?_
  refine x_P (lv' := [(3, .int (x1 - x2)), (0, .ref a0), (1, .int a1), (2, .int a2)]) 12 rfl rfl rfl ?_
  refine x_P 13 rfl rfl rfl ?_
  refine x_P 14 rfl rfl rfl ?_
  refine x_callV rfl rfl rfl rfl rfl ⟨rfl, rfl⟩ (fun x h => c_73 h) (S_73 d a0 a1 th) (fun x3 hx3 => ?_)
  refine x_P 18 rfl rfl rfl ?_
  refine x_P 19 rfl rfl rfl ?_
  refine x_callV rfl rfl rfl rfl rfl ⟨rfl, rfl⟩ (fun x h => c_73 h) (S_73 d a0 a2 th) (fun x4 hx4 => ?_)
  refine x_P 23 rfl rfl rfl ?_
  refine x_P (lv' := [(4, .int (x3 - x4)), (3, .int (x1 - x2)), (0, .ref a0), (1, .int a1), (2, .int a2)]) 25 rfl rfl rfl ?_
  refine x_P 26 rfl rfl rfl ?_
  refine x_P 27 rfl rfl rfl ?_
  refine x_P 28 rfl rfl rfl ?_
  refine x_P 30 rfl rfl rfl ?_
  refine x_P 32 rfl rfl rfl ?_
  refine x_P 33 rfl rfl rfl ?_
  refine x_P 34 rfl rfl rfl ?_
  exact x_retI (x := (((x1 - x2) * (x1 - x2)) + ((x3 - x4) * (x3 - x4)))) rfl
-- 127 NineTrees$Gap.offer(LNineTrees$Garden;II)V
noncomputable def m_127 (a0 : Nat) (a1 : Nat) (a2 : Int32) (a3 : Int32) (th : tH) : Option tH :=
  (gC th 1 a0).bind fun _ =>
  (m_65 a2 th).bind fun x1 =>
  (m_66 a2 th).bind fun x2 =>
  (m_81 a1 x1 th).bind fun x3 =>
  jn (fun (v4 : Unit) =>
      some th
    ) (fun j5 =>
      if x3 = 0 then
        j5 ()
      else
        (m_81 a1 x2 th).bind fun x6 =>
        if x6 = 0 then
          j5 ()
        else
          (gN th 2 a1 1).bind fun o7 =>
          (aI th o7 x1).bind fun x8 =>
          (gN th 2 a1 1).bind fun o9 =>
          (aI th o9 x2).bind fun x10 =>
          (gN th 2 a1 1).bind fun o11 =>
          (aI th o11 a3).bind fun x12 =>
          (m_79 a1 x8 x10 x12 th).bind fun x13 =>
          (gN th 2 a1 1).bind fun o14 =>
          (aI th o14 x1).bind fun x15 =>
          (gN th 2 a1 1).bind fun o16 =>
          (aI th o16 x2).bind fun x17 =>
          (m_78 a1 x15 x17 th).bind fun x18 =>
          (gI th 1 a0 1).bind fun x19 =>
          jn (fun (v20 : tH) =>
              some v20
            ) (fun j21 =>
              jn (fun (v22 : Unit) =>
                  (pI th 1 a0 0 a2).bind fun th24 =>
                  (pI th24 1 a0 1 a3).bind fun th25 =>
                  (pI th25 1 a0 2 (x13 * x13)).bind fun th26 =>
                  (pI th26 1 a0 3 x18).bind fun th27 =>
                  j21 th27
                ) (fun j23 =>
                  if x19 = (Int32.ofInt (-1)) then
                    j23 ()
                  else
                    (gI th 1 a0 3).bind fun x28 =>
                    (gI th 1 a0 2).bind fun x29 =>
                    if (x29 * x18) ≤ ((x13 * x13) * x28) then
                      j21 th
                    else
                      j23 ()
                )
            )
    )
theorem c_127 {a0 : Nat} {a1 : Nat} {a2 : Int32} {a3 : Int32} {th : tH} {x : tH} (h : m_127 a0 a1 a2 a3 th = some x) : ∃ fs, th[a0]? = some (.inr (1, fs)) := gC_of h
theorem S_127 {L : Nat} (d : Nat) (a0 : Nat) (a1 : Nat) (a2 : Int32) (a3 : Int32) (th : tH) : Wx L (fun x => (none, x)) (d + 2) 127 8 0 [(0, .ref a0), (1, .ref a1), (2, .int a2), (3, .int a3)] [] th (m_127 a0 a1 a2 a3 th) := by
  unfold m_127
  refine x_gC ?_
  refine x_P 1 rfl rfl rfl ?_
  refine x_callS rfl rfl rfl rfl rfl rfl ⟨rfl, rfl⟩ (S_65 d a2 th) (fun x1 hx1 => ?_)
  refine x_P (lv' := [(4, .int x1), (0, .ref a0), (1, .ref a1), (2, .int a2), (3, .int a3)]) 6 rfl rfl rfl ?_
  refine x_P 7 rfl rfl rfl ?_
  refine x_callS rfl rfl rfl rfl rfl rfl ⟨rfl, rfl⟩ (S_66 d a2 th) (fun x2 hx2 => ?_)
  refine x_P (lv' := [(5, .int x2), (4, .int x1), (0, .ref a0), (1, .ref a1), (2, .int a2), (3, .int a3)]) 12 rfl rfl rfl ?_
  refine x_P 13 rfl rfl rfl ?_
  refine x_P 15 rfl rfl rfl ?_
  refine x_callV rfl rfl rfl rfl rfl ⟨rfl, rfl⟩ (fun x h => c_81 h) (S_81 (d + 1) a1 x1 th) (fun x3 hx3 => ?_)
  refine x_jn 30 (fun v4 => []) (fun v4 => []) (fun v4 => th) (fun v4 => ?_) (fun j5 hj5 => ?_)
  · exact x_retV (x := th) rfl
  · refine x_if_eq rfl rfl (fun h33 => ?_) (fun h33 => ?_)
    · exact x_lv (hj5 ()) trivial
    · refine x_P 22 rfl rfl rfl ?_
      refine x_P 24 rfl rfl rfl ?_
      refine x_callV rfl rfl rfl rfl rfl ⟨rfl, rfl⟩ (fun x h => c_81 h) (S_81 (d + 1) a1 x2 th) (fun x6 hx6 => ?_)
      refine x_if_ne rfl rfl (fun h32 => ?_) (fun h32 => ?_)
      · exact x_lv (hj5 ()) trivial
      · refine x_P 32 rfl rfl rfl ?_
        refine x_P 33 rfl rfl rfl ?_
        refine x_gN rfl (fun o7 ho7 => ?_)
        refine x_P 38 rfl rfl rfl ?_
        refine x_aI rfl ⟨rfl, rfl⟩ (fun x8 hx8 => ?_)
        refine x_P 40 rfl rfl rfl ?_
        refine x_gN rfl (fun o9 ho9 => ?_)
        refine x_P 45 rfl rfl rfl ?_
        refine x_aI rfl ⟨rfl, rfl⟩ (fun x10 hx10 => ?_)
        refine x_P 47 rfl rfl rfl ?_
        refine x_gN rfl (fun o11 ho11 => ?_)
        refine x_P 51 rfl rfl rfl ?_
        refine x_aI rfl ⟨rfl, rfl⟩ (fun x12 hx12 => ?_)
        refine x_callV rfl rfl rfl rfl rfl ⟨rfl, rfl⟩ (fun x h => c_79 h) (S_79 d a1 x8 x10 x12 th) (fun x13 hx13 => ?_)
        refine x_P (lv' := [(6, .int x13), (5, .int x2), (4, .int x1), (0, .ref a0), (1, .ref a1), (2, .int a2), (3, .int a3)]) 57 rfl rfl rfl ?_
        refine x_P 58 rfl rfl rfl ?_
        refine x_P 59 rfl rfl rfl ?_
        refine x_gN rfl (fun o14 ho14 => ?_)
        refine x_P 64 rfl rfl rfl ?_
        refine x_aI rfl ⟨rfl, rfl⟩ (fun x15 hx15 => ?_)
        refine x_P 66 rfl rfl rfl ?_
        refine x_gN rfl (fun o16 ho16 => ?_)
        refine x_P 71 rfl rfl rfl ?_
        refine x_aI rfl ⟨rfl, rfl⟩ (fun x17 hx17 => ?_)
        refine x_callV rfl rfl rfl rfl rfl ⟨rfl, rfl⟩ (fun x h => c_78 h) (S_78 d a1 x15 x17 th) (fun x18 hx18 => ?_)
        refine x_P (lv' := [(7, .int x18), (6, .int x13), (5, .int x2), (4, .int x1), (0, .ref a0), (1, .ref a1), (2, .int a2), (3, .int a3)]) 77 rfl rfl rfl ?_
        refine x_P 78 rfl rfl rfl ?_
        refine x_gI rfl (fun x19 hx19 => ?_)
        refine x_P 82 rfl rfl rfl ?_
        refine x_jn 130 (fun v20 => []) (fun v20 => []) (fun v20 => v20) (fun v20 => ?_) (fun j21 hj21 => ?_)
        · exact x_retV (x := v20) rfl
        · refine x_jn 105 (fun v22 => [(0, .ref a0), (2, .int a2), (3, .int a3), (6, .int x13), (7, .int x18)]) (fun v22 => []) (fun v22 => th) (fun v22 => ?_) (fun j23 hj23 => ?_)
          · refine x_P 106 rfl rfl rfl ?_
            refine x_P 107 rfl rfl rfl ?_
            refine x_pI rfl (fun th24 hth24 => ?_)
            refine x_P 111 rfl rfl rfl ?_
            refine x_P 112 rfl rfl rfl ?_
            refine x_pI rfl (fun th25 hth25 => ?_)
            refine x_P 116 rfl rfl rfl ?_
            refine x_P 118 rfl rfl rfl ?_
            refine x_P 120 rfl rfl rfl ?_
            refine x_P 121 rfl rfl rfl ?_
            refine x_pI rfl (fun th26 hth26 => ?_)
            refine x_P 125 rfl rfl rfl ?_
            refine x_P 127 rfl rfl rfl ?_
            refine x_pI rfl (fun th27 hth27 => ?_)
            exact x_lv (hj21 th27) trivial
          · refine x_ic_eq rfl rfl (fun h31 => ?_) (fun h31 => ?_)
            · exact x_lv (hj23 ()) ⟨rfl, rfl, rfl, rfl, rfl, trivial⟩
            · refine x_P 87 rfl rfl rfl ?_
              refine x_P 89 rfl rfl rfl ?_
              refine x_P 90 rfl rfl rfl ?_
              refine x_P 91 rfl rfl rfl ?_
              refine x_gI rfl (fun x28 hx28 => ?_)
              refine x_P 95 rfl rfl rfl ?_
              refine x_P 96 rfl rfl rfl ?_
              refine x_gI rfl (fun x29 hx29 => ?_)
              refine x_P 101 rfl rfl rfl ?_
              refine x_P 102 rfl rfl rfl ?_
              refine x_ic_ge rfl rfl (fun h30 => ?_) (fun h30 => ?_)
              · exact x_lv (hj21 th) trivial
              · exact x_lv (hj23 ()) ⟨rfl, rfl, rfl, rfl, rfl, trivial⟩
-- 126 NineTrees$Gap.find(LNineTrees$Garden;LNineTrees$RowList;)V
noncomputable def m_126 (a0 : Nat) (a1 : Nat) (a2 : Nat) (th : tH) : Option tH :=
  (gC th 1 a0).bind fun _ =>
  (pI th 1 a0 1 (Int32.ofInt (-1))).bind fun th1 =>
  lp (fun (s2 : Int32 × tH) nx3 ex4 =>
      (gI s2.2 4 a2 1).bind fun x6 =>
      if x6 ≤ s2.1 then
        ex4 s2.2
      else
        lp (fun (s7 : Int32 × tH) nx8 ex9 =>
            (gI s7.2 2 a1 5).bind fun x11 =>
            if x11 ≤ s7.1 then
              ex9 s7.2
            else
              (gN s7.2 4 a2 0).bind fun o12 =>
              (aI s7.2 o12 s2.1).bind fun x13 =>
              jn (fun (v14 : tH) =>
                  nx8 ((s7.1 + Int32.ofInt 1), v14)
                ) (fun j15 =>
                  if (x13 &&& ((Int32.ofInt 1) <<< (s7.1 &&& 31))) = 0 then
                    (m_85 a1 s7.1 (Int32.ofInt 4) s7.2).bind fun x16 =>
                    if x16 = 0 then
                      (gN s7.2 4 a2 0).bind fun o17 =>
                      (aI s7.2 o17 s2.1).bind fun x18 =>
                      (m_127 a0 a1 x18 s7.1 s7.2).bind fun th19 =>
                      j15 th19
                    else
                      j15 s7.2
                  else
                    j15 s7.2
                )
          ) 4096 ((Int32.ofInt 0), s2.2) (fun (x10 : tH) =>
            nx3 ((s2.1 + Int32.ofInt 1), x10)
          )
    ) 4096 ((Int32.ofInt 0), th1) (fun (x5 : tH) =>
      some x5
    )
theorem c_126 {a0 : Nat} {a1 : Nat} {a2 : Nat} {th : tH} {x : tH} (h : m_126 a0 a1 a2 th = some x) : ∃ fs, th[a0]? = some (.inr (1, fs)) := gC_of h
theorem S_126 {L : Nat} (d : Nat) (a0 : Nat) (a1 : Nat) (a2 : Nat) (th : tH) : Wx L (fun x => (none, x)) (d + 3) 126 5 0 [(0, .ref a0), (1, .ref a1), (2, .ref a2)] [] th (m_126 a0 a1 a2 th) := by
  unfold m_126
  refine x_gC ?_
  refine x_P 1 rfl rfl rfl ?_
  refine x_P 2 rfl rfl rfl ?_
  refine x_pI rfl (fun th1 hth1 => ?_)
  refine x_P 6 rfl rfl rfl ?_
  refine x_P (lv' := [(3, .int (Int32.ofInt 0)), (0, .ref a0), (1, .ref a1), (2, .ref a2)]) 7 rfl rfl rfl ?_
  refine x_lv (lv := [(0, .ref a0), (1, .ref a1), (2, .ref a2), (3, .int (Int32.ofInt 0))]) (x_lp 76 (fun s2 => [(0, .ref a0), (1, .ref a1), (2, .ref a2), (3, .int s2.1)]) (fun s2 => s2.2) (fun x5 => []) (fun x5 => x5) (fun s2 nx3 hnx3 ex4 hex4 => ?_) (fun x5 => ?_) 4096 ((Int32.ofInt 0), th1)) ⟨rfl, rfl, rfl, rfl, trivial⟩
  · refine x_P 8 rfl rfl rfl ?_
    refine x_P 9 rfl rfl rfl ?_
    refine x_gI rfl (fun x6 hx6 => ?_)
    refine x_ic_ge rfl rfl (fun h23 => ?_) (fun h23 => ?_)
    · exact x_lv (hex4 s2.2) trivial
    · refine x_P 16 rfl rfl rfl ?_
      refine x_P (lv' := [(4, .int (Int32.ofInt 0)), (0, .ref a0), (1, .ref a1), (2, .ref a2), (3, .int s2.1)]) 18 rfl rfl rfl ?_
      refine x_lv (lv := [(0, .ref a0), (1, .ref a1), (2, .ref a2), (3, .int s2.1), (4, .int (Int32.ofInt 0))]) (x_lp 70 (fun s7 => [(0, .ref a0), (1, .ref a1), (2, .ref a2), (3, .int s2.1), (4, .int s7.1)]) (fun s7 => s7.2) (fun x10 => [(0, .ref a0), (1, .ref a1), (2, .ref a2), (3, .int s2.1)]) (fun x10 => x10) (fun s7 nx8 hnx8 ex9 hex9 => ?_) (fun x10 => ?_) 4096 ((Int32.ofInt 0), s2.2)) ⟨rfl, rfl, rfl, rfl, rfl, trivial⟩
      · refine x_P 20 rfl rfl rfl ?_
        refine x_P 21 rfl rfl rfl ?_
        refine x_gI rfl (fun x11 hx11 => ?_)
        refine x_ic_ge rfl rfl (fun h22 => ?_) (fun h22 => ?_)
        · exact x_lv (hex9 s7.2) ⟨rfl, rfl, rfl, rfl, trivial⟩
        · refine x_P 28 rfl rfl rfl ?_
          refine x_gN rfl (fun o12 ho12 => ?_)
          refine x_P 32 rfl rfl rfl ?_
          refine x_aI rfl ⟨rfl, rfl⟩ (fun x13 hx13 => ?_)
          refine x_P 34 rfl rfl rfl ?_
          refine x_P 36 rfl rfl rfl ?_
          refine x_P 37 rfl rfl rfl ?_
          refine x_P 38 rfl rfl rfl ?_
          refine x_jn 64 (fun v14 => [(0, .ref a0), (1, .ref a1), (2, .ref a2), (3, .int s2.1), (4, .int s7.1)]) (fun v14 => []) (fun v14 => v14) (fun v14 => ?_) (fun j15 hj15 => ?_)
          · refine x_P (lv' := [(4, .int (s7.1 + Int32.ofInt 1)), (0, .ref a0), (1, .ref a1), (2, .ref a2), (3, .int s2.1)]) 67 rfl rfl rfl ?_
            refine x_P 18 rfl rfl rfl ?_
            exact x_lv (hnx8 ((s7.1 + Int32.ofInt 1), v14)) ⟨rfl, rfl, rfl, rfl, rfl, trivial⟩
          · refine x_if_ne rfl rfl (fun h21 => ?_) (fun h21 => ?_)
            · refine x_P 42 rfl rfl rfl ?_
              refine x_P 44 rfl rfl rfl ?_
              refine x_P 45 rfl rfl rfl ?_
              refine x_callV rfl rfl rfl rfl rfl ⟨rfl, rfl⟩ (fun x h => c_85 h) (S_85 (d + 2) a1 s7.1 (Int32.ofInt 4) s7.2) (fun x16 hx16 => ?_)
              refine x_if_ne rfl rfl (fun h20 => ?_) (fun h20 => ?_)
              · refine x_P 52 rfl rfl rfl ?_
                refine x_P 53 rfl rfl rfl ?_
                refine x_P 54 rfl rfl rfl ?_
                refine x_gN rfl (fun o17 ho17 => ?_)
                refine x_P 58 rfl rfl rfl ?_
                refine x_aI rfl ⟨rfl, rfl⟩ (fun x18 hx18 => ?_)
                refine x_P 61 rfl rfl rfl ?_
                refine x_callW rfl rfl rfl rfl rfl ⟨rfl, rfl⟩ (fun x h => c_127 h) (S_127 d a0 a1 x18 s7.1 s7.2) (fun th19 hth19 => ?_)
                exact x_lv (hj15 th19) ⟨rfl, rfl, rfl, rfl, rfl, trivial⟩
              · exact x_lv (hj15 s7.2) ⟨rfl, rfl, rfl, rfl, rfl, trivial⟩
            · exact x_lv (hj15 s7.2) ⟨rfl, rfl, rfl, rfl, rfl, trivial⟩
      · refine x_P (lv' := [(3, .int (s2.1 + Int32.ofInt 1)), (0, .ref a0), (1, .ref a1), (2, .ref a2)]) 73 rfl rfl rfl ?_
        refine x_P 7 rfl rfl rfl ?_
        exact x_lv (hnx3 ((s2.1 + Int32.ofInt 1), x10)) ⟨rfl, rfl, rfl, rfl, trivial⟩
  · exact x_retV (x := x5) rfl
-- 30 NineTrees.gap(I)I
noncomputable def m_30 (a0 : Nat) (a1 : Int32) (th : tH) : Option (Int32 × tH) :=
  (gC th 7 a0).bind fun _ =>
  jn (fun (v1 : Unit) =>
      (m_59 a0 (Int8.ofInt (-2)).toInt32 th).bind fun q3 =>
      some (q3.1, q3.2)
    ) (fun j2 =>
      if a1 < 0 then
        j2 ()
      else
        if a1 ≤ (Int32.ofInt 1) then
          (gN th 7 a0 6).bind fun o4 =>
          (gN th 7 a0 0).bind fun o5 =>
          (m_63 a0 th).bind fun q6 =>
          (m_126 o4 o5 q6.1 q6.2).bind fun th7 =>
          (gN th7 7 a0 6).bind fun o8 =>
          (gI th7 1 o8 1).bind fun x9 =>
          if x9 = (Int32.ofInt (-1)) then
            (m_59 a0 (Int8.ofInt (-5)).toInt32 th7).bind fun q17 =>
            some (q17.1, q17.2)
          else
            jn (fun (v10 : Int32) =>
                some (v10, th7)
              ) (fun j11 =>
                if a1 = 0 then
                  (gN th7 7 a0 6).bind fun o14 =>
                  (gI th7 1 o14 0).bind fun x15 =>
                  j11 x15
                else
                  (gN th7 7 a0 6).bind fun o12 =>
                  (gI th7 1 o12 1).bind fun x13 =>
                  j11 x13
              )
        else
          j2 ()
    )
theorem c_30 {a0 : Nat} {a1 : Int32} {th : tH} {x : (Int32 × tH)} (h : m_30 a0 a1 th = some x) : ∃ fs, th[a0]? = some (.inr (7, fs)) := gC_of h
theorem S_30 {L : Nat} (d : Nat) (a0 : Nat) (a1 : Int32) (th : tH) : Wx L (fun x => (some (.int x.1), x.2)) (d + 5) 30 2 0 [(0, .ref a0), (1, .int a1)] [] th (m_30 a0 a1 th) := by
  unfold m_30
  refine x_gC ?_
  refine x_P 1 rfl rfl rfl ?_
  refine x_jn 9 (fun v1 => [(0, .ref a0)]) (fun v1 => []) (fun v1 => th) (fun v1 => ?_) (fun j2 hj2 => ?_)
  · refine x_P 10 rfl rfl rfl ?_
    refine x_P 12 rfl rfl rfl ?_
    refine x_callV rfl rfl rfl rfl rfl ⟨rfl, rfl⟩ (fun x h => c_59 h) (S_59 (d + 3) a0 (Int8.ofInt (-2)).toInt32 th) (fun q3 hq3 => ?_)
    exact x_retI (x := (q3.1, q3.2)) rfl
  · refine x_if_lt rfl rfl (fun h20 => ?_) (fun h20 => ?_)
    · exact x_lv (hj2 ()) ⟨rfl, trivial⟩
    · refine x_P 5 rfl rfl rfl ?_
      refine x_P 6 rfl rfl rfl ?_
      refine x_ic_le rfl rfl (fun h19 => ?_) (fun h19 => ?_)
      · refine x_P 17 rfl rfl rfl ?_
        refine x_gN rfl (fun o4 ho4 => ?_)
        refine x_P 21 rfl rfl rfl ?_
        refine x_gN rfl (fun o5 ho5 => ?_)
        refine x_P 25 rfl rfl rfl ?_
        refine x_callV rfl rfl rfl rfl rfl ⟨rfl, rfl⟩ (fun x h => c_63 h) (S_63 d a0 th) (fun q6 hq6 => ?_)
        refine x_callW rfl rfl rfl rfl rfl ⟨rfl, rfl⟩ (fun x h => c_126 h) (S_126 (d + 1) o4 o5 q6.1 q6.2) (fun th7 hth7 => ?_)
        refine x_P 32 rfl rfl rfl ?_
        refine x_gN rfl (fun o8 ho8 => ?_)
        refine x_gI rfl (fun x9 hx9 => ?_)
        refine x_P 39 rfl rfl rfl ?_
        refine x_ic_ne rfl rfl (fun h18 => ?_) (fun h18 => ?_)
        · refine x_P 43 rfl rfl rfl ?_
          refine x_P 45 rfl rfl rfl ?_
          refine x_callV rfl rfl rfl rfl rfl ⟨rfl, rfl⟩ (fun x h => c_59 h) (S_59 (d + 3) a0 (Int8.ofInt (-5)).toInt32 th7) (fun q17 hq17 => ?_)
          exact x_retI (x := (q17.1, q17.2)) rfl
        · refine x_P 50 rfl rfl rfl ?_
          refine x_jn 70 (fun v10 => []) (fun v10 => [.int v10]) (fun v10 => th7) (fun v10 => ?_) (fun j11 hj11 => ?_)
          · exact x_retI (x := (v10, th7)) rfl
          · refine x_if_ne rfl rfl (fun h16 => ?_) (fun h16 => ?_)
            · refine x_P 54 rfl rfl rfl ?_
              refine x_gN rfl (fun o14 ho14 => ?_)
              refine x_gI rfl (fun x15 hx15 => ?_)
              refine x_P 70 rfl rfl rfl ?_
              exact x_lv (hj11 x15) trivial
            · refine x_P 64 rfl rfl rfl ?_
              refine x_gN rfl (fun o12 ho12 => ?_)
              refine x_gI rfl (fun x13 hx13 => ?_)
              exact x_lv (hj11 x13) trivial
      · exact x_lv (hj2 ()) ⟨rfl, trivial⟩
-- 108 NineTrees$RowList.countOnlyBy(I)I
noncomputable def m_108 (a0 : Nat) (a1 : Int32) (th : tH) : Option (Int32) :=
  (gC th 4 a0).bind fun _ =>
  (m_107 a0 a1 (Int32.ofInt 3) th).bind fun x1 =>
  (m_107 a0 a1 (Int32.ofInt 4) th).bind fun x2 =>
  some (x1 - x2)
theorem c_108 {a0 : Nat} {a1 : Int32} {th : tH} {x : (Int32)} (h : m_108 a0 a1 th = some x) : ∃ fs, th[a0]? = some (.inr (4, fs)) := gC_of h
theorem S_108 {L : Nat} (d : Nat) (a0 : Nat) (a1 : Int32) (th : tH) : Wx L (fun x => (some (.int x), th)) (d + 2) 108 2 0 [(0, .ref a0), (1, .int a1)] [] th (m_108 a0 a1 th) := by
  unfold m_108
  refine x_gC ?_
  refine x_P 1 rfl rfl rfl ?_
  refine x_P 2 rfl rfl rfl ?_
  refine x_P 3 rfl rfl rfl ?_
  refine x_callV rfl rfl rfl rfl rfl ⟨rfl, rfl⟩ (fun x h => c_107 h) (S_107 d a0 a1 (Int32.ofInt 3) th) (fun x1 hx1 => ?_)
  refine x_P 7 rfl rfl rfl ?_
  refine x_P 8 rfl rfl rfl ?_
  refine x_P 9 rfl rfl rfl ?_
  refine x_callV rfl rfl rfl rfl rfl ⟨rfl, rfl⟩ (fun x h => c_107 h) (S_107 d a0 a1 (Int32.ofInt 4) th) (fun x2 hx2 => ?_)
  refine x_P 13 rfl rfl rfl ?_
  exact x_retI (x := (x1 - x2)) rfl
-- 31 NineTrees.missed(I)I
noncomputable def m_31 (a0 : Nat) (a1 : Int32) (th : tH) : Option (Int32 × tH) :=
  (gC th 7 a0).bind fun _ =>
  (gN th 7 a0 0).bind fun o1 =>
  (m_81 o1 a1 th).bind fun x2 =>
  jn (fun (v3 : Int32 × tH) =>
      some (v3.1, v3.2)
    ) (fun j4 =>
      if x2 = 0 then
        (m_59 a0 (Int8.ofInt (-2)).toInt32 th).bind fun q5 =>
        j4 (q5.1, q5.2)
      else
        (m_63 a0 th).bind fun q6 =>
        (m_108 q6.1 a1 q6.2).bind fun x7 =>
        j4 (x7, q6.2)
    )
theorem c_31 {a0 : Nat} {a1 : Int32} {th : tH} {x : (Int32 × tH)} (h : m_31 a0 a1 th = some x) : ∃ fs, th[a0]? = some (.inr (7, fs)) := gC_of h
theorem S_31 {L : Nat} (d : Nat) (a0 : Nat) (a1 : Int32) (th : tH) : Wx L (fun x => (some (.int x.1), x.2)) (d + 5) 31 2 0 [(0, .ref a0), (1, .int a1)] [] th (m_31 a0 a1 th) := by
  unfold m_31
  refine x_gC ?_
  refine x_P 1 rfl rfl rfl ?_
  refine x_gN rfl (fun o1 ho1 => ?_)
  refine x_P 5 rfl rfl rfl ?_
  refine x_callV rfl rfl rfl rfl rfl ⟨rfl, rfl⟩ (fun x h => c_81 h) (S_81 (d + 4) o1 a1 th) (fun x2 hx2 => ?_)
  refine x_jn 28 (fun v3 => []) (fun v3 => [.int v3.1]) (fun v3 => v3.2) (fun v3 => ?_) (fun j4 hj4 => ?_)
  · exact x_retI (x := (v3.1, v3.2)) rfl
  · refine x_if_eq rfl rfl (fun h8 => ?_) (fun h8 => ?_)
    · refine x_P 23 rfl rfl rfl ?_
      refine x_P 25 rfl rfl rfl ?_
      refine x_callV rfl rfl rfl rfl rfl ⟨rfl, rfl⟩ (fun x h => c_59 h) (S_59 (d + 3) a0 (Int8.ofInt (-2)).toInt32 th) (fun q5 hq5 => ?_)
      exact x_lv (hj4 (q5.1, q5.2)) trivial
    · refine x_P 12 rfl rfl rfl ?_
      refine x_callV rfl rfl rfl rfl rfl ⟨rfl, rfl⟩ (fun x h => c_63 h) (S_63 d a0 th) (fun q6 hq6 => ?_)
      refine x_P 16 rfl rfl rfl ?_
      refine x_callV rfl rfl rfl rfl rfl ⟨rfl, rfl⟩ (fun x h => c_108 h) (S_108 (d + 2) q6.1 a1 q6.2) (fun x7 hx7 => ?_)
      refine x_P 28 rfl rfl rfl ?_
      exact x_lv (hj4 (x7, q6.2)) trivial
-- 32 NineTrees.least()I
noncomputable def m_32 (a0 : Nat) (th : tH) : Option (Int32 × tH) :=
  (gC th 7 a0).bind fun _ =>
  (gN th 7 a0 0).bind fun o1 =>
  (gI th 2 o1 5).bind fun x2 =>
  if x2 = 0 then
    (m_59 a0 (Int8.ofInt (-5)).toInt32 th).bind fun q18 =>
    some (q18.1, q18.2)
  else
    (m_63 a0 th).bind fun q3 =>
    lp (fun (s4 : Int32 × Int32) nx5 ex6 =>
        (gN q3.2 7 a0 0).bind fun o8 =>
        (gI q3.2 2 o8 5).bind fun x9 =>
        if x9 ≤ s4.2 then
          ex6 s4.1
        else
          (gN q3.2 7 a0 3).bind fun o10 =>
          (m_108 o10 s4.2 q3.2).bind fun x11 =>
          (gN q3.2 7 a0 3).bind fun o12 =>
          (m_108 o12 s4.1 q3.2).bind fun x13 =>
          jn (fun (v14 : Int32) =>
              nx5 (v14, (s4.2 + Int32.ofInt 1))
            ) (fun j15 =>
              if x13 ≤ x11 then
                j15 s4.1
              else
                j15 s4.2
            )
      ) 4096 ((Int32.ofInt 0), (Int32.ofInt 1)) (fun (x7 : Int32) =>
        some (x7, q3.2)
      )
theorem c_32 {a0 : Nat} {th : tH} {x : (Int32 × tH)} (h : m_32 a0 th = some x) : ∃ fs, th[a0]? = some (.inr (7, fs)) := gC_of h
theorem S_32 {L : Nat} (d : Nat) (a0 : Nat) (th : tH) : Wx L (fun x => (some (.int x.1), x.2)) (d + 5) 32 3 0 [(0, .ref a0)] [] th (m_32 a0 th) := by
  unfold m_32
  refine x_gC ?_
  refine x_P 1 rfl rfl rfl ?_
  refine x_gN rfl (fun o1 ho1 => ?_)
  refine x_gI rfl (fun x2 hx2 => ?_)
  refine x_if_ne rfl rfl (fun h19 => ?_) (fun h19 => ?_)
  · refine x_P 11 rfl rfl rfl ?_
    refine x_P 13 rfl rfl rfl ?_
    refine x_callV rfl rfl rfl rfl rfl ⟨rfl, rfl⟩ (fun x h => c_59 h) (S_59 (d + 3) a0 (Int8.ofInt (-5)).toInt32 th) (fun q18 hq18 => ?_)
    exact x_retI (x := (q18.1, q18.2)) rfl
  · refine x_P 18 rfl rfl rfl ?_
    refine x_callV rfl rfl rfl rfl rfl ⟨rfl, rfl⟩ (fun x h => c_63 h) (S_63 d a0 th) (fun q3 hq3 => ?_)
    refine x_P 22 rfl rfl rfl ?_
    refine x_P 23 rfl rfl rfl ?_
    refine x_P (lv' := [(1, .int (Int32.ofInt 0)), (0, .ref a0)]) 24 rfl rfl rfl ?_
    refine x_P 25 rfl rfl rfl ?_
    refine x_P (lv' := [(2, .int (Int32.ofInt 1)), (1, .int (Int32.ofInt 0)), (0, .ref a0)]) 26 rfl rfl rfl ?_
    refine x_lv (lv := [(0, .ref a0), (1, .int (Int32.ofInt 0)), (2, .int (Int32.ofInt 1))]) (x_lp 64 (fun s4 => [(0, .ref a0), (1, .int s4.1), (2, .int s4.2)]) (fun s4 => q3.2) (fun x7 => [(1, .int x7)]) (fun x7 => q3.2) (fun s4 nx5 hnx5 ex6 hex6 => ?_) (fun x7 => ?_) 4096 ((Int32.ofInt 0), (Int32.ofInt 1))) ⟨rfl, rfl, rfl, trivial⟩
    · refine x_P 27 rfl rfl rfl ?_
      refine x_P 28 rfl rfl rfl ?_
      refine x_gN rfl (fun o8 ho8 => ?_)
      refine x_gI rfl (fun x9 hx9 => ?_)
      refine x_ic_ge rfl rfl (fun h17 => ?_) (fun h17 => ?_)
      · exact x_lv (hex6 s4.1) ⟨rfl, trivial⟩
      · refine x_P 38 rfl rfl rfl ?_
        refine x_gN rfl (fun o10 ho10 => ?_)
        refine x_P 42 rfl rfl rfl ?_
        refine x_callV rfl rfl rfl rfl rfl ⟨rfl, rfl⟩ (fun x h => c_108 h) (S_108 (d + 2) o10 s4.2 q3.2) (fun x11 hx11 => ?_)
        refine x_P 46 rfl rfl rfl ?_
        refine x_gN rfl (fun o12 ho12 => ?_)
        refine x_P 50 rfl rfl rfl ?_
        refine x_callV rfl rfl rfl rfl rfl ⟨rfl, rfl⟩ (fun x h => c_108 h) (S_108 (d + 2) o12 s4.1 q3.2) (fun x13 hx13 => ?_)
        refine x_jn 58 (fun v14 => [(0, .ref a0), (1, .int v14), (2, .int s4.2)]) (fun v14 => []) (fun v14 => q3.2) (fun v14 => ?_) (fun j15 hj15 => ?_)
        · refine x_P (lv' := [(2, .int (s4.2 + Int32.ofInt 1)), (0, .ref a0), (1, .int v14)]) 61 rfl rfl rfl ?_
          refine x_P 26 rfl rfl rfl ?_
          exact x_lv (hnx5 (v14, (s4.2 + Int32.ofInt 1))) ⟨rfl, rfl, rfl, trivial⟩
        · refine x_ic_ge rfl rfl (fun h16 => ?_) (fun h16 => ?_)
          · exact x_lv (hj15 s4.1) ⟨rfl, rfl, rfl, trivial⟩
          · refine x_P 57 rfl rfl rfl ?_
            refine x_P (lv' := [(1, .int s4.2), (0, .ref a0), (2, .int s4.2)]) 58 rfl rfl rfl ?_
            exact x_lv (hj15 s4.2) ⟨rfl, rfl, rfl, trivial⟩
    · refine x_P 65 rfl rfl rfl ?_
      exact x_retI (x := (x7, q3.2)) rfl
-- 122 NineTrees$Moves.forget()V
noncomputable def m_122 (a0 : Nat) (th : tH) : Option tH :=
  (gC th 3 a0).bind fun _ =>
  (pI th 3 a0 2 (Int32.ofInt (-1))).bind fun th1 =>
  (pI th1 3 a0 3 (Int32.ofInt (-1))).bind fun th2 =>
  (pI th2 3 a0 4 (Int32.ofInt (-1))).bind fun th3 =>
  some th3
theorem c_122 {a0 : Nat} {th : tH} {x : tH} (h : m_122 a0 th = some x) : ∃ fs, th[a0]? = some (.inr (3, fs)) := gC_of h
theorem S_122 {L : Nat} (d : Nat) (a0 : Nat) (th : tH) : Wx L (fun x => (none, x)) (d + 1) 122 1 0 [(0, .ref a0)] [] th (m_122 a0 th) := by
  unfold m_122
  refine x_gC ?_
  refine x_P 1 rfl rfl rfl ?_
  refine x_P 2 rfl rfl rfl ?_
  refine x_pI rfl (fun th1 hth1 => ?_)
  refine x_P 6 rfl rfl rfl ?_
  refine x_P 7 rfl rfl rfl ?_
  refine x_pI rfl (fun th2 hth2 => ?_)
  refine x_P 11 rfl rfl rfl ?_
  refine x_P 12 rfl rfl rfl ?_
  refine x_pI rfl (fun th3 hth3 => ?_)
  exact x_retV (x := th3) rfl
-- 113 NineTrees$Crossings.clear()V
noncomputable def m_113 (a0 : Nat) (th : tH) : Option tH :=
  (gC th 0 a0).bind fun _ =>
  lp (fun (s1 : Int32 × tH) nx2 ex3 =>
      (gN s1.2 0 a0 0).bind fun o5 =>
      (aL s1.2 o5).bind fun x6 =>
      if x6 ≤ s1.1 then
        ex3 s1.2
      else
        (gN s1.2 0 a0 0).bind fun o7 =>
        (sI s1.2 o7 s1.1 (Int32.ofInt 0)).bind fun th8 =>
        nx2 ((s1.1 + Int32.ofInt 1), th8)
    ) 4096 ((Int32.ofInt 0), th) (fun (x4 : tH) =>
      some x4
    )
theorem c_113 {a0 : Nat} {th : tH} {x : tH} (h : m_113 a0 th = some x) : ∃ fs, th[a0]? = some (.inr (0, fs)) := gC_of h
theorem S_113 {L : Nat} (d : Nat) (a0 : Nat) (th : tH) : Wx L (fun x => (none, x)) (d + 1) 113 2 0 [(0, .ref a0)] [] th (m_113 a0 th) := by
  unfold m_113
  refine x_gC ?_
  refine x_P 1 rfl rfl rfl ?_
  refine x_P (lv' := [(1, .int (Int32.ofInt 0)), (0, .ref a0)]) 2 rfl rfl rfl ?_
  refine x_lv (lv := [(0, .ref a0), (1, .int (Int32.ofInt 0))]) (x_lp 24 (fun s1 => [(0, .ref a0), (1, .int s1.1)]) (fun s1 => s1.2) (fun x4 => []) (fun x4 => x4) (fun s1 nx2 hnx2 ex3 hex3 => ?_) (fun x4 => ?_) 4096 ((Int32.ofInt 0), th)) ⟨rfl, rfl, trivial⟩
  · refine x_P 3 rfl rfl rfl ?_
    refine x_P 4 rfl rfl rfl ?_
    refine x_gN rfl (fun o5 ho5 => ?_)
    refine x_aL rfl ⟨rfl, rfl⟩ (fun x6 hx6 => ?_)
    refine x_ic_ge rfl rfl (fun h9 => ?_) (fun h9 => ?_)
    · exact x_lv (hex3 s1.2) trivial
    · refine x_P 12 rfl rfl rfl ?_
      refine x_gN rfl (fun o7 ho7 => ?_)
      refine x_P 16 rfl rfl rfl ?_
      refine x_P 17 rfl rfl rfl ?_
      refine x_sI rfl ⟨rfl, rfl⟩ (fun th8 hth8 => ?_)
      refine x_P (lv' := [(1, .int (s1.1 + Int32.ofInt 1)), (0, .ref a0)]) 21 rfl rfl rfl ?_
      refine x_P 2 rfl rfl rfl ?_
      exact x_lv (hnx2 ((s1.1 + Int32.ofInt 1), th8)) ⟨rfl, rfl, trivial⟩
  · exact x_retV (x := x4) rfl
-- 74 NineTrees$Garden.cellOf(II)I
noncomputable def m_74 (a0 : Nat) (a1 : Int32) (a2 : Int32) (th : tH) : Option (Int32) :=
  (gC th 2 a0).bind fun _ =>
  jn (fun (v1 : Int32) =>
      jn (fun (v3 : Int32) =>
          some v3
        ) (fun j4 =>
          if v1 = 0 then
            j4 (Int32.ofInt (-1))
          else
            (gI th 2 a0 4).bind fun x5 =>
            j4 ((a1 * x5) + a2)
        )
    ) (fun j2 =>
      jn (fun (v7 : Unit) =>
          j2 (Int32.ofInt 0)
        ) (fun j8 =>
          if a1 < 0 then
            j8 ()
          else
            (gI th 2 a0 4).bind fun x9 =>
            if x9 ≤ a1 then
              j8 ()
            else
              if a2 < 0 then
                j8 ()
              else
                (gI th 2 a0 4).bind fun x10 =>
                if x10 ≤ a2 then
                  j8 ()
                else
                  j2 (Int32.ofInt 1)
        )
    )
theorem c_74 {a0 : Nat} {a1 : Int32} {a2 : Int32} {th : tH} {x : (Int32)} (h : m_74 a0 a1 a2 th = some x) : ∃ fs, th[a0]? = some (.inr (2, fs)) := gC_of h
theorem S_74 {L : Nat} (d : Nat) (a0 : Nat) (a1 : Int32) (a2 : Int32) (th : tH) : Wx L (fun x => (some (.int x), th)) d 74 4 0 [(0, .ref a0), (1, .int a1), (2, .int a2)] [] th (m_74 a0 a1 a2 th) := by
  unfold m_74
  refine x_gC ?_
  refine x_P 1 rfl rfl rfl ?_
  refine x_jn 29 (fun v1 => [(0, .ref a0), (1, .int a1), (2, .int a2)]) (fun v1 => [.int v1]) (fun v1 => th) (fun v1 => ?_) (fun j2 hj2 => ?_)
  · refine x_P (lv' := [(3, .int v1), (0, .ref a0), (1, .int a1), (2, .int a2)]) 30 rfl rfl rfl ?_
    refine x_P 31 rfl rfl rfl ?_
    refine x_jn 46 (fun v3 => []) (fun v3 => [.int v3]) (fun v3 => th) (fun v3 => ?_) (fun j4 hj4 => ?_)
    · exact x_retI (x := v3) rfl
    · refine x_if_eq rfl rfl (fun h6 => ?_) (fun h6 => ?_)
      · refine x_P 46 rfl rfl rfl ?_
        exact x_lv (hj4 (Int32.ofInt (-1))) trivial
      · refine x_P 35 rfl rfl rfl ?_
        refine x_P 36 rfl rfl rfl ?_
        refine x_gI rfl (fun x5 hx5 => ?_)
        refine x_P 40 rfl rfl rfl ?_
        refine x_P 41 rfl rfl rfl ?_
        refine x_P 42 rfl rfl rfl ?_
        refine x_P 46 rfl rfl rfl ?_
        exact x_lv (hj4 ((a1 * x5) + a2)) trivial
  · refine x_jn 28 (fun v7 => [(0, .ref a0), (1, .int a1), (2, .int a2)]) (fun v7 => []) (fun v7 => th) (fun v7 => ?_) (fun j8 hj8 => ?_)
    · refine x_P 29 rfl rfl rfl ?_
      exact x_lv (hj2 (Int32.ofInt 0)) ⟨rfl, rfl, rfl, trivial⟩
    · refine x_if_lt rfl rfl (fun h14 => ?_) (fun h14 => ?_)
      · exact x_lv (hj8 ()) ⟨rfl, rfl, rfl, trivial⟩
      · refine x_P 5 rfl rfl rfl ?_
        refine x_P 6 rfl rfl rfl ?_
        refine x_gI rfl (fun x9 hx9 => ?_)
        refine x_ic_ge rfl rfl (fun h13 => ?_) (fun h13 => ?_)
        · exact x_lv (hj8 ()) ⟨rfl, rfl, rfl, trivial⟩
        · refine x_P 13 rfl rfl rfl ?_
          refine x_if_lt rfl rfl (fun h12 => ?_) (fun h12 => ?_)
          · exact x_lv (hj8 ()) ⟨rfl, rfl, rfl, trivial⟩
          · refine x_P 17 rfl rfl rfl ?_
            refine x_P 18 rfl rfl rfl ?_
            refine x_gI rfl (fun x10 hx10 => ?_)
            refine x_ic_ge rfl rfl (fun h11 => ?_) (fun h11 => ?_)
            · exact x_lv (hj8 ()) ⟨rfl, rfl, rfl, trivial⟩
            · refine x_P 25 rfl rfl rfl ?_
              refine x_P 29 rfl rfl rfl ?_
              exact x_lv (hj2 (Int32.ofInt 1)) ⟨rfl, rfl, rfl, trivial⟩
-- 115 NineTrees$Crossings.addLine(LNineTrees$Garden;I)V
noncomputable def m_115 (a0 : Nat) (a1 : Nat) (a2 : Int32) (th : tH) : Option tH :=
  (gC th 0 a0).bind fun _ =>
  (m_65 a2 th).bind fun x1 =>
  (m_66 a2 th).bind fun x2 =>
  (m_81 a1 x1 th).bind fun x3 =>
  jn (fun (v4 : Unit) =>
      some th
    ) (fun j5 =>
      if x3 = 0 then
        j5 ()
      else
        (m_81 a1 x2 th).bind fun x6 =>
        if x6 = 0 then
          j5 ()
        else
          (gN th 2 a1 1).bind fun o7 =>
          (aI th o7 x1).bind fun x8 =>
          (m_72 a1 x8 th).bind fun x9 =>
          (gN th 2 a1 1).bind fun o10 =>
          (aI th o10 x1).bind fun x11 =>
          (m_73 a1 x11 th).bind fun x12 =>
          (gN th 2 a1 1).bind fun o13 =>
          (aI th o13 x2).bind fun x14 =>
          (m_72 a1 x14 th).bind fun x15 =>
          (gN th 2 a1 1).bind fun o16 =>
          (aI th o16 x2).bind fun x17 =>
          (m_73 a1 x17 th).bind fun x18 =>
          lp (fun (s19 : Int32 × Int32 × Int32) nx20 ex21 =>
              if s19.2.2 ≤ (Int32.ofInt 1) then
                ex21 (s19.1, s19.2.1)
              else
                (rmI s19.1 s19.2.2).bind fun x35 =>
                jn (fun (v36 : Int32 × Int32) =>
                    nx20 (v36.1, v36.2, (s19.2.2 + Int32.ofInt (-1)))
                  ) (fun j37 =>
                    if x35 = 0 then
                      (rmI s19.2.1 s19.2.2).bind fun x38 =>
                      if x38 = 0 then
                        (dvI s19.1 s19.2.2).bind fun x39 =>
                        (dvI s19.2.1 s19.2.2).bind fun x40 =>
                        j37 (x39, x40)
                      else
                        j37 (s19.1, s19.2.1)
                    else
                      j37 (s19.1, s19.2.1)
                  )
            ) 4096 ((x15 - x9), (x18 - x12), (Int8.ofInt 8).toInt32) (fun (x22 : Int32 × Int32) =>
              lp (fun (s23 : Int32 × tH) nx24 ex25 =>
                  if (Int8.ofInt 8).toInt32 < s23.1 then
                    ex25 s23.2
                  else
                    (m_74 a1 (x9 + (s23.1 * x22.1)) (x12 + (s23.1 * x22.2)) s23.2).bind fun x27 =>
                    jn (fun (v28 : tH) =>
                        nx24 ((s23.1 + Int32.ofInt 1), v28)
                      ) (fun j29 =>
                        if x27 = (Int32.ofInt (-1)) then
                          j29 s23.2
                        else
                          (gN s23.2 0 a0 0).bind fun o30 =>
                          (aI s23.2 o30 x27).bind fun x31 =>
                          (sI s23.2 o30 x27 (x31 + (Int32.ofInt 1))).bind fun th32 =>
                          j29 th32
                      )
                ) 4096 ((Int8.ofInt (-8)).toInt32, th) (fun (x26 : tH) =>
                  some x26
                )
            )
    )
theorem c_115 {a0 : Nat} {a1 : Nat} {a2 : Int32} {th : tH} {x : tH} (h : m_115 a0 a1 a2 th = some x) : ∃ fs, th[a0]? = some (.inr (0, fs)) := gC_of h
theorem S_115 {L : Nat} (d : Nat) (a0 : Nat) (a1 : Nat) (a2 : Int32) (th : tH) : Wx L (fun x => (none, x)) (d + 2) 115 11 0 [(0, .ref a0), (1, .ref a1), (2, .int a2)] [] th (m_115 a0 a1 a2 th) := by
  unfold m_115
  refine x_gC ?_
  refine x_P 1 rfl rfl rfl ?_
  refine x_callS rfl rfl rfl rfl rfl rfl ⟨rfl, rfl⟩ (S_65 d a2 th) (fun x1 hx1 => ?_)
  refine x_P (lv' := [(3, .int x1), (0, .ref a0), (1, .ref a1), (2, .int a2)]) 5 rfl rfl rfl ?_
  refine x_P 6 rfl rfl rfl ?_
  refine x_callS rfl rfl rfl rfl rfl rfl ⟨rfl, rfl⟩ (S_66 d a2 th) (fun x2 hx2 => ?_)
  refine x_P (lv' := [(4, .int x2), (3, .int x1), (0, .ref a0), (1, .ref a1), (2, .int a2)]) 11 rfl rfl rfl ?_
  refine x_P 12 rfl rfl rfl ?_
  refine x_P 13 rfl rfl rfl ?_
  refine x_callV rfl rfl rfl rfl rfl ⟨rfl, rfl⟩ (fun x h => c_81 h) (S_81 (d + 1) a1 x1 th) (fun x3 hx3 => ?_)
  refine x_jn 28 (fun v4 => []) (fun v4 => []) (fun v4 => th) (fun v4 => ?_) (fun j5 hj5 => ?_)
  · exact x_retV (x := th) rfl
  · refine x_if_eq rfl rfl (fun h45 => ?_) (fun h45 => ?_)
    · exact x_lv (hj5 ()) trivial
    · refine x_P 20 rfl rfl rfl ?_
      refine x_P 22 rfl rfl rfl ?_
      refine x_callV rfl rfl rfl rfl rfl ⟨rfl, rfl⟩ (fun x h => c_81 h) (S_81 (d + 1) a1 x2 th) (fun x6 hx6 => ?_)
      refine x_if_ne rfl rfl (fun h44 => ?_) (fun h44 => ?_)
      · exact x_lv (hj5 ()) trivial
      · refine x_P 30 rfl rfl rfl ?_
        refine x_P 31 rfl rfl rfl ?_
        refine x_gN rfl (fun o7 ho7 => ?_)
        refine x_P 35 rfl rfl rfl ?_
        refine x_aI rfl ⟨rfl, rfl⟩ (fun x8 hx8 => ?_)
        refine x_callV rfl rfl rfl rfl rfl ⟨rfl, rfl⟩ (fun x h => c_72 h) (S_72 (d + 1) a1 x8 th) (fun x9 hx9 => ?_)
        refine x_P (lv' := [(5, .int x9), (4, .int x2), (3, .int x1), (0, .ref a0), (1, .ref a1), (2, .int a2)]) 41 rfl rfl rfl ?_
        refine x_P 42 rfl rfl rfl ?_
        refine x_P 43 rfl rfl rfl ?_
        refine x_gN rfl (fun o10 ho10 => ?_)
        refine x_P 47 rfl rfl rfl ?_
        refine x_aI rfl ⟨rfl, rfl⟩ (fun x11 hx11 => ?_)
        refine x_callV rfl rfl rfl rfl rfl ⟨rfl, rfl⟩ (fun x h => c_73 h) (S_73 (d + 1) a1 x11 th) (fun x12 hx12 => ?_)
        refine x_P (lv' := [(6, .int x12), (5, .int x9), (4, .int x2), (3, .int x1), (0, .ref a0), (1, .ref a1), (2, .int a2)]) 53 rfl rfl rfl ?_
        refine x_P 54 rfl rfl rfl ?_
        refine x_P 55 rfl rfl rfl ?_
        refine x_gN rfl (fun o13 ho13 => ?_)
        refine x_P 60 rfl rfl rfl ?_
        refine x_aI rfl ⟨rfl, rfl⟩ (fun x14 hx14 => ?_)
        refine x_callV rfl rfl rfl rfl rfl ⟨rfl, rfl⟩ (fun x h => c_72 h) (S_72 (d + 1) a1 x14 th) (fun x15 hx15 => ?_)
        refine x_P 66 rfl rfl rfl ?_
        refine x_P 67 rfl rfl rfl ?_
        refine x_P (lv' := [(7, .int (x15 - x9)), (6, .int x12), (5, .int x9), (4, .int x2), (3, .int x1), (0, .ref a0), (1, .ref a1), (2, .int a2)]) 69 rfl rfl rfl ?_
        refine x_P 70 rfl rfl rfl ?_
        refine x_P 71 rfl rfl rfl ?_
        refine x_gN rfl (fun o16 ho16 => ?_)
        refine x_P 76 rfl rfl rfl ?_
        refine x_aI rfl ⟨rfl, rfl⟩ (fun x17 hx17 => ?_)
        refine x_callV rfl rfl rfl rfl rfl ⟨rfl, rfl⟩ (fun x h => c_73 h) (S_73 (d + 1) a1 x17 th) (fun x18 hx18 => ?_)
        refine x_P 82 rfl rfl rfl ?_
        refine x_P 83 rfl rfl rfl ?_
        refine x_P (lv' := [(8, .int (x18 - x12)), (7, .int (x15 - x9)), (6, .int x12), (5, .int x9), (4, .int x2), (3, .int x1), (0, .ref a0), (1, .ref a1), (2, .int a2)]) 85 rfl rfl rfl ?_
        refine x_P 87 rfl rfl rfl ?_
        refine x_P (lv' := [(9, .int (Int8.ofInt 8).toInt32), (8, .int (x18 - x12)), (7, .int (x15 - x9)), (6, .int x12), (5, .int x9), (4, .int x2), (3, .int x1), (0, .ref a0), (1, .ref a1), (2, .int a2)]) 89 rfl rfl rfl ?_
        refine x_lv (lv := [(0, .ref a0), (1, .ref a1), (5, .int x9), (6, .int x12), (7, .int (x15 - x9)), (8, .int (x18 - x12)), (9, .int (Int8.ofInt 8).toInt32)]) (x_lp 131 (fun s19 => [(0, .ref a0), (1, .ref a1), (5, .int x9), (6, .int x12), (7, .int s19.1), (8, .int s19.2.1), (9, .int s19.2.2)]) (fun s19 => th) (fun x22 => [(0, .ref a0), (1, .ref a1), (5, .int x9), (6, .int x12), (7, .int x22.1), (8, .int x22.2)]) (fun x22 => th) (fun s19 nx20 hnx20 ex21 hex21 => ?_) (fun x22 => ?_) 4096 ((x15 - x9), (x18 - x12), (Int8.ofInt 8).toInt32)) ⟨rfl, rfl, rfl, rfl, rfl, rfl, rfl, trivial⟩
        · refine x_P 91 rfl rfl rfl ?_
          refine x_P 92 rfl rfl rfl ?_
          refine x_ic_le rfl rfl (fun h43 => ?_) (fun h43 => ?_)
          · exact x_lv (hex21 (s19.1, s19.2.1)) ⟨rfl, rfl, rfl, rfl, rfl, rfl, trivial⟩
          · refine x_P 97 rfl rfl rfl ?_
            refine x_P 99 rfl rfl rfl ?_
            refine x_rm rfl rfl (fun x35 hx35 => ?_)
            refine x_jn 125 (fun v36 => [(0, .ref a0), (1, .ref a1), (5, .int x9), (6, .int x12), (7, .int v36.1), (8, .int v36.2), (9, .int s19.2.2)]) (fun v36 => []) (fun v36 => th) (fun v36 => ?_) (fun j37 hj37 => ?_)
            · refine x_P (lv' := [(9, .int (s19.2.2 + Int32.ofInt (-1))), (0, .ref a0), (1, .ref a1), (5, .int x9), (6, .int x12), (7, .int v36.1), (8, .int v36.2)]) 128 rfl rfl rfl ?_
              refine x_P 89 rfl rfl rfl ?_
              exact x_lv (hnx20 (v36.1, v36.2, (s19.2.2 + Int32.ofInt (-1)))) ⟨rfl, rfl, rfl, rfl, rfl, rfl, rfl, trivial⟩
            · refine x_if_ne rfl rfl (fun h42 => ?_) (fun h42 => ?_)
              · refine x_P 105 rfl rfl rfl ?_
                refine x_P 107 rfl rfl rfl ?_
                refine x_rm rfl rfl (fun x38 hx38 => ?_)
                refine x_if_ne rfl rfl (fun h41 => ?_) (fun h41 => ?_)
                · refine x_P 113 rfl rfl rfl ?_
                  refine x_P 115 rfl rfl rfl ?_
                  refine x_dv rfl rfl (fun x39 hx39 => ?_)
                  refine x_P (lv' := [(7, .int x39), (0, .ref a0), (1, .ref a1), (5, .int x9), (6, .int x12), (8, .int s19.2.1), (9, .int s19.2.2)]) 118 rfl rfl rfl ?_
                  refine x_P 120 rfl rfl rfl ?_
                  refine x_P 122 rfl rfl rfl ?_
                  refine x_dv rfl rfl (fun x40 hx40 => ?_)
                  refine x_P (lv' := [(8, .int x40), (7, .int x39), (0, .ref a0), (1, .ref a1), (5, .int x9), (6, .int x12), (9, .int s19.2.2)]) 125 rfl rfl rfl ?_
                  exact x_lv (hj37 (x39, x40)) ⟨rfl, rfl, rfl, rfl, rfl, rfl, rfl, trivial⟩
                · exact x_lv (hj37 (s19.1, s19.2.1)) ⟨rfl, rfl, rfl, rfl, rfl, rfl, rfl, trivial⟩
              · exact x_lv (hj37 (s19.1, s19.2.1)) ⟨rfl, rfl, rfl, rfl, rfl, rfl, rfl, trivial⟩
        · refine x_P 133 rfl rfl rfl ?_
          refine x_P (lv' := [(9, .int (Int8.ofInt (-8)).toInt32), (0, .ref a0), (1, .ref a1), (5, .int x9), (6, .int x12), (7, .int x22.1), (8, .int x22.2)]) 135 rfl rfl rfl ?_
          refine x_lv (lv := [(0, .ref a0), (1, .ref a1), (5, .int x9), (6, .int x12), (7, .int x22.1), (8, .int x22.2), (9, .int (Int8.ofInt (-8)).toInt32)]) (x_lp 187 (fun s23 => [(0, .ref a0), (1, .ref a1), (5, .int x9), (6, .int x12), (7, .int x22.1), (8, .int x22.2), (9, .int s23.1)]) (fun s23 => s23.2) (fun x26 => []) (fun x26 => x26) (fun s23 nx24 hnx24 ex25 hex25 => ?_) (fun x26 => ?_) 4096 ((Int8.ofInt (-8)).toInt32, th)) ⟨rfl, rfl, rfl, rfl, rfl, rfl, rfl, trivial⟩
          · refine x_P 137 rfl rfl rfl ?_
            refine x_P 139 rfl rfl rfl ?_
            refine x_ic_gt rfl rfl (fun h34 => ?_) (fun h34 => ?_)
            · exact x_lv (hex25 s23.2) trivial
            · refine x_P 143 rfl rfl rfl ?_
              refine x_P 145 rfl rfl rfl ?_
              refine x_P 147 rfl rfl rfl ?_
              refine x_P 149 rfl rfl rfl ?_
              refine x_P 150 rfl rfl rfl ?_
              refine x_P 151 rfl rfl rfl ?_
              refine x_P 153 rfl rfl rfl ?_
              refine x_P 155 rfl rfl rfl ?_
              refine x_P 157 rfl rfl rfl ?_
              refine x_P 158 rfl rfl rfl ?_
              refine x_P 159 rfl rfl rfl ?_
              refine x_callV rfl rfl rfl rfl rfl ⟨rfl, rfl⟩ (fun x h => c_74 h) (S_74 (d + 1) a1 (x9 + (s23.1 * x22.1)) (x12 + (s23.1 * x22.2)) s23.2) (fun x27 hx27 => ?_)
              refine x_P (lv' := [(10, .int x27), (0, .ref a0), (1, .ref a1), (5, .int x9), (6, .int x12), (7, .int x22.1), (8, .int x22.2), (9, .int s23.1)]) 164 rfl rfl rfl ?_
              refine x_P 166 rfl rfl rfl ?_
              refine x_P 167 rfl rfl rfl ?_
              refine x_jn 181 (fun v28 => [(0, .ref a0), (1, .ref a1), (5, .int x9), (6, .int x12), (7, .int x22.1), (8, .int x22.2), (9, .int s23.1)]) (fun v28 => []) (fun v28 => v28) (fun v28 => ?_) (fun j29 hj29 => ?_)
              · refine x_P (lv' := [(9, .int (s23.1 + Int32.ofInt 1)), (0, .ref a0), (1, .ref a1), (5, .int x9), (6, .int x12), (7, .int x22.1), (8, .int x22.2)]) 184 rfl rfl rfl ?_
                refine x_P 135 rfl rfl rfl ?_
                exact x_lv (hnx24 ((s23.1 + Int32.ofInt 1), v28)) ⟨rfl, rfl, rfl, rfl, rfl, rfl, rfl, trivial⟩
              · refine x_ic_eq rfl rfl (fun h33 => ?_) (fun h33 => ?_)
                · exact x_lv (hj29 s23.2) ⟨rfl, rfl, rfl, rfl, rfl, rfl, rfl, trivial⟩
                · refine x_P 171 rfl rfl rfl ?_
                  refine x_gN rfl (fun o30 ho30 => ?_)
                  refine x_P 176 rfl rfl rfl ?_
                  refine x_P 177 rfl rfl rfl ?_
                  refine x_aI rfl ⟨rfl, rfl⟩ (fun x31 hx31 => ?_)
                  refine x_P 179 rfl rfl rfl ?_
                  refine x_P 180 rfl rfl rfl ?_
                  refine x_sI rfl ⟨rfl, rfl⟩ (fun th32 hth32 => ?_)
                  exact x_lv (hj29 th32) ⟨rfl, rfl, rfl, rfl, rfl, rfl, rfl, trivial⟩
          · exact x_retV (x := x26) rfl
