/-! ===== programs ===== -/
-- 130 NineTrees$Shapes.cellNearestToAll(LNineTrees$Garden;)I
noncomputable def m_130 (a0 : Nat) (th : tH) : Option (Int32) :=
  lp (fun (s1 : Int32 × Int32) nx2 ex3 =>
      (m_70 a0 th).bind fun x5 =>
      if x5 ≤ s1.2 then
        ex3 s1.1
      else
        (m_131 a0 s1.2 th).bind fun x6 =>
        (m_131 a0 s1.1 th).bind fun x7 =>
        jn (fun (v8 : Int32) =>
            nx2 (v8, (s1.2 + Int32.ofInt 1))
          ) (fun j9 =>
            if x7 ≤ x6 then
              j9 s1.1
            else
              j9 s1.2
          )
    ) 4096 ((Int32.ofInt 0), (Int32.ofInt 1)) (fun (x4 : Int32) =>
      some x4
    )
theorem S_130 {L : Nat} (d : Nat) (a0 : Nat) (th : tH) : Wx L (fun x => (some (.int x), th)) (d + 3) 130 3 0 [(0, .ref a0)] [] th (m_130 a0 th) := by
  unfold m_130
  refine x_P 1 rfl rfl rfl ?_
  refine x_P (lv' := [(1, .int (Int32.ofInt 0)), (0, .ref a0)]) 2 rfl rfl rfl ?_
  refine x_P 3 rfl rfl rfl ?_
  refine x_P (lv' := [(2, .int (Int32.ofInt 1)), (1, .int (Int32.ofInt 0)), (0, .ref a0)]) 4 rfl rfl rfl ?_
  refine x_lv (lv := [(0, .ref a0), (1, .int (Int32.ofInt 0)), (2, .int (Int32.ofInt 1))]) (x_lp 33 (fun s1 => [(0, .ref a0), (1, .int s1.1), (2, .int s1.2)]) (fun s1 => th) (fun x4 => [(1, .int x4)]) (fun x4 => th) (fun s1 nx2 hnx2 ex3 hex3 => ?_) (fun x4 => ?_) 4096 ((Int32.ofInt 0), (Int32.ofInt 1))) ⟨rfl, rfl, rfl, trivial⟩
  · refine x_P 5 rfl rfl rfl ?_
    refine x_P 6 rfl rfl rfl ?_
    refine x_callV rfl rfl rfl rfl rfl ⟨rfl, rfl⟩ (fun x h => c_70 h) (S_70 (d + 2) a0 th) (fun x5 hx5 => ?_)
    refine x_ic_ge rfl rfl (fun h11 => ?_) (fun h11 => ?_)
    · exact x_lv (hex3 s1.1) ⟨rfl, trivial⟩
    · refine x_P 13 rfl rfl rfl ?_
      refine x_P 14 rfl rfl rfl ?_
      refine x_callS rfl rfl rfl rfl rfl rfl ⟨rfl, rfl⟩ (S_131 d a0 s1.2 th) (fun x6 hx6 => ?_)
      refine x_P 18 rfl rfl rfl ?_
      refine x_P 19 rfl rfl rfl ?_
      refine x_callS rfl rfl rfl rfl rfl rfl ⟨rfl, rfl⟩ (S_131 d a0 s1.1 th) (fun x7 hx7 => ?_)
      refine x_jn 27 (fun v8 => [(0, .ref a0), (1, .int v8), (2, .int s1.2)]) (fun v8 => []) (fun v8 => th) (fun v8 => ?_) (fun j9 hj9 => ?_)
      · refine x_P (lv' := [(2, .int (s1.2 + Int32.ofInt 1)), (0, .ref a0), (1, .int v8)]) 30 rfl rfl rfl ?_
        refine x_P 4 rfl rfl rfl ?_
        exact x_lv (hnx2 (v8, (s1.2 + Int32.ofInt 1))) ⟨rfl, rfl, rfl, trivial⟩
      · refine x_ic_ge rfl rfl (fun h10 => ?_) (fun h10 => ?_)
        · exact x_lv (hj9 s1.1) ⟨rfl, rfl, rfl, trivial⟩
        · refine x_P 26 rfl rfl rfl ?_
          refine x_P (lv' := [(1, .int s1.2), (0, .ref a0), (2, .int s1.2)]) 27 rfl rfl rfl ?_
          exact x_lv (hj9 s1.2) ⟨rfl, rfl, rfl, trivial⟩
  · refine x_P 34 rfl rfl rfl ?_
    exact x_retI (x := x4) rfl
-- 45 NineTrees.middle()I
noncomputable def m_45 (a0 : Nat) (th : tH) : Option (Int32 × tH) :=
  (gC th 7 a0).bind fun _ =>
  (gN th 7 a0 0).bind fun o1 =>
  (gI th 2 o1 5).bind fun x2 =>
  jn (fun (v3 : Int32 × tH) =>
      some (v3.1, v3.2)
    ) (fun j4 =>
      if x2 = 0 then
        (m_59 a0 (Int8.ofInt (-5)).toInt32 th).bind fun q7 =>
        j4 (q7.1, q7.2)
      else
        (gN th 7 a0 0).bind fun o5 =>
        (m_130 o5 th).bind fun x6 =>
        j4 (x6, th)
    )
theorem c_45 {a0 : Nat} {th : tH} {x : (Int32 × tH)} (h : m_45 a0 th = some x) : ∃ fs, th[a0]? = some (.inr (7, fs)) := gC_of h
theorem S_45 {L : Nat} (d : Nat) (a0 : Nat) (th : tH) : Wx L (fun x => (some (.int x.1), x.2)) (d + 4) 45 1 0 [(0, .ref a0)] [] th (m_45 a0 th) := by
  unfold m_45
  refine x_gC ?_
  refine x_P 1 rfl rfl rfl ?_
  refine x_gN rfl (fun o1 ho1 => ?_)
  refine x_gI rfl (fun x2 hx2 => ?_)
  refine x_jn 26 (fun v3 => []) (fun v3 => [.int v3.1]) (fun v3 => v3.2) (fun v3 => ?_) (fun j4 hj4 => ?_)
  · exact x_retI (x := (v3.1, v3.2)) rfl
  · refine x_if_ne rfl rfl (fun h8 => ?_) (fun h8 => ?_)
    · refine x_P 11 rfl rfl rfl ?_
      refine x_P 13 rfl rfl rfl ?_
      refine x_callV rfl rfl rfl rfl rfl ⟨rfl, rfl⟩ (fun x h => c_59 h) (S_59 (d + 2) a0 (Int8.ofInt (-5)).toInt32 th) (fun q7 hq7 => ?_)
      refine x_P 26 rfl rfl rfl ?_
      exact x_lv (hj4 (q7.1, q7.2)) trivial
    · refine x_P 20 rfl rfl rfl ?_
      refine x_gN rfl (fun o5 ho5 => ?_)
      refine x_callS rfl rfl rfl rfl rfl rfl ⟨rfl, rfl⟩ (S_130 d o5 th) (fun x6 hx6 => ?_)
      exact x_lv (hj4 (x6, th)) trivial
-- 129 NineTrees$Shapes.nearestPair(LNineTrees$Garden;)I
noncomputable def m_129 (a0 : Nat) (th : tH) : Option (Int32) :=
  lp (fun (s1 : Int32 × Int32 × Int32) nx2 ex3 =>
      (gI th 2 a0 5).bind fun x5 =>
      if x5 ≤ s1.2.2 then
        ex3 s1.2.1
      else
        lp (fun (s6 : Int32 × Int32 × Int32) nx7 ex8 =>
            (gI th 2 a0 5).bind fun x10 =>
            if x10 ≤ s6.2.2 then
              ex8 (s6.1, s6.2.1)
            else
              (gN th 2 a0 1).bind fun o11 =>
              (aI th o11 s1.2.2).bind fun x12 =>
              (gN th 2 a0 1).bind fun o13 =>
              (aI th o13 s6.2.2).bind fun x14 =>
              (m_77 a0 x12 x14 th).bind fun x15 =>
              jn (fun (v16 : Int32 × Int32) =>
                  nx7 (v16.1, v16.2, (s6.2.2 + Int32.ofInt 1))
                ) (fun j17 =>
                  jn (fun (v18 : Unit) =>
                      j17 (x15, (((Int8.ofInt 100).toInt32 * s1.2.2) + s6.2.2))
                    ) (fun j19 =>
                      if s6.1 = (Int32.ofInt (-1)) then
                        j19 ()
                      else
                        if s6.1 ≤ x15 then
                          j17 (s6.1, s6.2.1)
                        else
                          j19 ()
                    )
                )
          ) 4096 (s1.1, s1.2.1, (s1.2.2 + (Int32.ofInt 1))) (fun (x9 : Int32 × Int32) =>
            nx2 (x9.1, x9.2, (s1.2.2 + Int32.ofInt 1))
          )
    ) 4096 ((Int32.ofInt (-1)), (Int32.ofInt (-1)), (Int32.ofInt 0)) (fun (x4 : Int32) =>
      some x4
    )
theorem S_129 {L : Nat} (d : Nat) (a0 : Nat) (th : tH) : Wx L (fun x => (some (.int x), th)) (d + 2) 129 6 0 [(0, .ref a0)] [] th (m_129 a0 th) := by
  unfold m_129
  refine x_P 1 rfl rfl rfl ?_
  refine x_P (lv' := [(1, .int (Int32.ofInt (-1))), (0, .ref a0)]) 2 rfl rfl rfl ?_
  refine x_P 3 rfl rfl rfl ?_
  refine x_P (lv' := [(2, .int (Int32.ofInt (-1))), (1, .int (Int32.ofInt (-1))), (0, .ref a0)]) 4 rfl rfl rfl ?_
  refine x_P 5 rfl rfl rfl ?_
  refine x_P (lv' := [(3, .int (Int32.ofInt 0)), (2, .int (Int32.ofInt (-1))), (1, .int (Int32.ofInt (-1))), (0, .ref a0)]) 6 rfl rfl rfl ?_
  refine x_lv (lv := [(0, .ref a0), (1, .int (Int32.ofInt (-1))), (2, .int (Int32.ofInt (-1))), (3, .int (Int32.ofInt 0))]) (x_lp 81 (fun s1 => [(0, .ref a0), (1, .int s1.1), (2, .int s1.2.1), (3, .int s1.2.2)]) (fun s1 => th) (fun x4 => [(2, .int x4)]) (fun x4 => th) (fun s1 nx2 hnx2 ex3 hex3 => ?_) (fun x4 => ?_) 4096 ((Int32.ofInt (-1)), (Int32.ofInt (-1)), (Int32.ofInt 0))) ⟨rfl, rfl, rfl, rfl, trivial⟩
  · refine x_P 7 rfl rfl rfl ?_
    refine x_P 8 rfl rfl rfl ?_
    refine x_gI rfl (fun x5 hx5 => ?_)
    refine x_ic_ge rfl rfl (fun h23 => ?_) (fun h23 => ?_)
    · exact x_lv (hex3 s1.2.1) ⟨rfl, trivial⟩
    · refine x_P 15 rfl rfl rfl ?_
      refine x_P 16 rfl rfl rfl ?_
      refine x_P 17 rfl rfl rfl ?_
      refine x_P (lv' := [(4, .int (s1.2.2 + (Int32.ofInt 1))), (0, .ref a0), (1, .int s1.1), (2, .int s1.2.1), (3, .int s1.2.2)]) 19 rfl rfl rfl ?_
      refine x_lv (lv := [(0, .ref a0), (1, .int s1.1), (2, .int s1.2.1), (3, .int s1.2.2), (4, .int (s1.2.2 + (Int32.ofInt 1)))]) (x_lp 75 (fun s6 => [(0, .ref a0), (1, .int s6.1), (2, .int s6.2.1), (3, .int s1.2.2), (4, .int s6.2.2)]) (fun s6 => th) (fun x9 => [(0, .ref a0), (1, .int x9.1), (2, .int x9.2), (3, .int s1.2.2)]) (fun x9 => th) (fun s6 nx7 hnx7 ex8 hex8 => ?_) (fun x9 => ?_) 4096 (s1.1, s1.2.1, (s1.2.2 + (Int32.ofInt 1)))) ⟨rfl, rfl, rfl, rfl, rfl, trivial⟩
      · refine x_P 21 rfl rfl rfl ?_
        refine x_P 22 rfl rfl rfl ?_
        refine x_gI rfl (fun x10 hx10 => ?_)
        refine x_ic_ge rfl rfl (fun h22 => ?_) (fun h22 => ?_)
        · exact x_lv (hex8 (s6.1, s6.2.1)) ⟨rfl, rfl, rfl, rfl, trivial⟩
        · refine x_P 29 rfl rfl rfl ?_
          refine x_P 30 rfl rfl rfl ?_
          refine x_gN rfl (fun o11 ho11 => ?_)
          refine x_P 34 rfl rfl rfl ?_
          refine x_aI rfl ⟨rfl, rfl⟩ (fun x12 hx12 => ?_)
          refine x_P 36 rfl rfl rfl ?_
          refine x_gN rfl (fun o13 ho13 => ?_)
          refine x_P 41 rfl rfl rfl ?_
          refine x_aI rfl ⟨rfl, rfl⟩ (fun x14 hx14 => ?_)
          refine x_callV rfl rfl rfl rfl rfl ⟨rfl, rfl⟩ (fun x h => c_77 h) (S_77 d a0 x12 x14 th) (fun x15 hx15 => ?_)
          refine x_P (lv' := [(5, .int x15), (0, .ref a0), (1, .int s6.1), (2, .int s6.2.1), (3, .int s1.2.2), (4, .int s6.2.2)]) 47 rfl rfl rfl ?_
          refine x_P 48 rfl rfl rfl ?_
          refine x_P 49 rfl rfl rfl ?_
          refine x_jn 69 (fun v16 => [(0, .ref a0), (1, .int v16.1), (2, .int v16.2), (3, .int s1.2.2), (4, .int s6.2.2)]) (fun v16 => []) (fun v16 => th) (fun v16 => ?_) (fun j17 hj17 => ?_)
          · refine x_P (lv' := [(4, .int (s6.2.2 + Int32.ofInt 1)), (0, .ref a0), (1, .int v16.1), (2, .int v16.2), (3, .int s1.2.2)]) 72 rfl rfl rfl ?_
            refine x_P 19 rfl rfl rfl ?_
            exact x_lv (hnx7 (v16.1, v16.2, (s6.2.2 + Int32.ofInt 1))) ⟨rfl, rfl, rfl, rfl, rfl, trivial⟩
          · refine x_jn 58 (fun v18 => [(0, .ref a0), (3, .int s1.2.2), (4, .int s6.2.2), (5, .int x15)]) (fun v18 => []) (fun v18 => th) (fun v18 => ?_) (fun j19 hj19 => ?_)
            · refine x_P 60 rfl rfl rfl ?_
              refine x_P (lv' := [(1, .int x15), (0, .ref a0), (3, .int s1.2.2), (4, .int s6.2.2), (5, .int x15)]) 61 rfl rfl rfl ?_
              refine x_P 63 rfl rfl rfl ?_
              refine x_P 64 rfl rfl rfl ?_
              refine x_P 65 rfl rfl rfl ?_
              refine x_P 67 rfl rfl rfl ?_
              refine x_P 68 rfl rfl rfl ?_
              refine x_P (lv' := [(2, .int (((Int8.ofInt 100).toInt32 * s1.2.2) + s6.2.2)), (1, .int x15), (0, .ref a0), (3, .int s1.2.2), (4, .int s6.2.2), (5, .int x15)]) 69 rfl rfl rfl ?_
              exact x_lv (hj17 (x15, (((Int8.ofInt 100).toInt32 * s1.2.2) + s6.2.2))) ⟨rfl, rfl, rfl, rfl, rfl, trivial⟩
            · refine x_ic_eq rfl rfl (fun h21 => ?_) (fun h21 => ?_)
              · exact x_lv (hj19 ()) ⟨rfl, rfl, rfl, rfl, trivial⟩
              · refine x_P 54 rfl rfl rfl ?_
                refine x_P 55 rfl rfl rfl ?_
                refine x_ic_ge rfl rfl (fun h20 => ?_) (fun h20 => ?_)
                · exact x_lv (hj17 (s6.1, s6.2.1)) ⟨rfl, rfl, rfl, rfl, rfl, trivial⟩
                · exact x_lv (hj19 ()) ⟨rfl, rfl, rfl, rfl, trivial⟩
      · refine x_P (lv' := [(3, .int (s1.2.2 + Int32.ofInt 1)), (0, .ref a0), (1, .int x9.1), (2, .int x9.2)]) 78 rfl rfl rfl ?_
        refine x_P 6 rfl rfl rfl ?_
        exact x_lv (hnx2 (x9.1, x9.2, (s1.2.2 + Int32.ofInt 1))) ⟨rfl, rfl, rfl, rfl, trivial⟩
  · refine x_P 82 rfl rfl rfl ?_
    exact x_retI (x := x4) rfl
-- 46 NineTrees.nearest()I
noncomputable def m_46 (a0 : Nat) (th : tH) : Option (Int32 × tH) :=
  (gC th 7 a0).bind fun _ =>
  (gN th 7 a0 0).bind fun o1 =>
  (gI th 2 o1 5).bind fun x2 =>
  jn (fun (v3 : Int32 × tH) =>
      some (v3.1, v3.2)
    ) (fun j4 =>
      if (Int32.ofInt 2) ≤ x2 then
        (gN th 7 a0 0).bind fun o5 =>
        (m_129 o5 th).bind fun x6 =>
        j4 (x6, th)
      else
        (m_59 a0 (Int8.ofInt (-5)).toInt32 th).bind fun q7 =>
        j4 (q7.1, q7.2)
    )
theorem c_46 {a0 : Nat} {th : tH} {x : (Int32 × tH)} (h : m_46 a0 th = some x) : ∃ fs, th[a0]? = some (.inr (7, fs)) := gC_of h
theorem S_46 {L : Nat} (d : Nat) (a0 : Nat) (th : tH) : Wx L (fun x => (some (.int x.1), x.2)) (d + 3) 46 1 0 [(0, .ref a0)] [] th (m_46 a0 th) := by
  unfold m_46
  refine x_gC ?_
  refine x_P 1 rfl rfl rfl ?_
  refine x_gN rfl (fun o1 ho1 => ?_)
  refine x_gI rfl (fun x2 hx2 => ?_)
  refine x_P 8 rfl rfl rfl ?_
  refine x_jn 27 (fun v3 => []) (fun v3 => [.int v3.1]) (fun v3 => v3.2) (fun v3 => ?_) (fun j4 hj4 => ?_)
  · exact x_retI (x := (v3.1, v3.2)) rfl
  · refine x_ic_ge rfl rfl (fun h8 => ?_) (fun h8 => ?_)
    · refine x_P 21 rfl rfl rfl ?_
      refine x_gN rfl (fun o5 ho5 => ?_)
      refine x_callS rfl rfl rfl rfl rfl rfl ⟨rfl, rfl⟩ (S_129 d o5 th) (fun x6 hx6 => ?_)
      exact x_lv (hj4 (x6, th)) trivial
    · refine x_P 12 rfl rfl rfl ?_
      refine x_P 14 rfl rfl rfl ?_
      refine x_callV rfl rfl rfl rfl rfl ⟨rfl, rfl⟩ (fun x h => c_59 h) (S_59 (d + 1) a0 (Int8.ofInt (-5)).toInt32 th) (fun q7 hq7 => ?_)
      refine x_P 27 rfl rfl rfl ?_
      exact x_lv (hj4 (q7.1, q7.2)) trivial
-- 136 NineTrees$Shapes.greatestArea(LNineTrees$Garden;)I
noncomputable def m_136 (a0 : Nat) (th : tH) : Option (Int32) :=
  (gN th 2 a0 1).bind fun o1 =>
  lp (fun (s2 : Int32 × Int32) nx3 ex4 =>
      (gI th 2 a0 5).bind fun x6 =>
      if x6 ≤ s2.2 then
        ex4 s2.1
      else
        lp (fun (s7 : Int32 × Int32) nx8 ex9 =>
            (gI th 2 a0 5).bind fun x11 =>
            if x11 ≤ s7.2 then
              ex9 s7.1
            else
              lp (fun (s12 : Int32 × Int32) nx13 ex14 =>
                  (gI th 2 a0 5).bind fun x16 =>
                  if x16 ≤ s12.2 then
                    ex14 s12.1
                  else
                    (aI th o1 s2.2).bind fun x17 =>
                    (aI th o1 s7.2).bind fun x18 =>
                    (aI th o1 s12.2).bind fun x19 =>
                    (m_79 a0 x17 x18 x19 th).bind fun x20 =>
                    nx13 ((mxI s12.1 (abI x20)), (s12.2 + Int32.ofInt 1))
                ) 4096 (s7.1, (s7.2 + (Int32.ofInt 1))) (fun (x15 : Int32) =>
                  nx8 (x15, (s7.2 + Int32.ofInt 1))
                )
          ) 4096 (s2.1, (s2.2 + (Int32.ofInt 1))) (fun (x10 : Int32) =>
            nx3 (x10, (s2.2 + Int32.ofInt 1))
          )
    ) 4096 ((Int32.ofInt 0), (Int32.ofInt 0)) (fun (x5 : Int32) =>
      some x5
    )
theorem S_136 {L : Nat} (d : Nat) (a0 : Nat) (th : tH) : Wx L (fun x => (some (.int x), th)) (d + 2) 136 6 0 [(0, .ref a0)] [] th (m_136 a0 th) := by
  unfold m_136
  refine x_P 1 rfl rfl rfl ?_
  refine x_gN rfl (fun o1 ho1 => ?_)
  refine x_P (lv' := [(1, .ref o1), (0, .ref a0)]) 5 rfl rfl rfl ?_
  refine x_P 6 rfl rfl rfl ?_
  refine x_P (lv' := [(2, .int (Int32.ofInt 0)), (1, .ref o1), (0, .ref a0)]) 7 rfl rfl rfl ?_
  refine x_P 8 rfl rfl rfl ?_
  refine x_P (lv' := [(3, .int (Int32.ofInt 0)), (2, .int (Int32.ofInt 0)), (1, .ref o1), (0, .ref a0)]) 9 rfl rfl rfl ?_
  refine x_lv (lv := [(0, .ref a0), (1, .ref o1), (2, .int (Int32.ofInt 0)), (3, .int (Int32.ofInt 0))]) (x_lp 87 (fun s2 => [(0, .ref a0), (1, .ref o1), (2, .int s2.1), (3, .int s2.2)]) (fun s2 => th) (fun x5 => [(2, .int x5)]) (fun x5 => th) (fun s2 nx3 hnx3 ex4 hex4 => ?_) (fun x5 => ?_) 4096 ((Int32.ofInt 0), (Int32.ofInt 0))) ⟨rfl, rfl, rfl, rfl, trivial⟩
  · refine x_P 10 rfl rfl rfl ?_
    refine x_P 11 rfl rfl rfl ?_
    refine x_gI rfl (fun x6 hx6 => ?_)
    refine x_ic_ge rfl rfl (fun h23 => ?_) (fun h23 => ?_)
    · exact x_lv (hex4 s2.1) ⟨rfl, trivial⟩
    · refine x_P 18 rfl rfl rfl ?_
      refine x_P 19 rfl rfl rfl ?_
      refine x_P 20 rfl rfl rfl ?_
      refine x_P (lv' := [(4, .int (s2.2 + (Int32.ofInt 1))), (0, .ref a0), (1, .ref o1), (2, .int s2.1), (3, .int s2.2)]) 22 rfl rfl rfl ?_
      refine x_lv (lv := [(0, .ref a0), (1, .ref o1), (2, .int s2.1), (3, .int s2.2), (4, .int (s2.2 + (Int32.ofInt 1)))]) (x_lp 81 (fun s7 => [(0, .ref a0), (1, .ref o1), (2, .int s7.1), (3, .int s2.2), (4, .int s7.2)]) (fun s7 => th) (fun x10 => [(0, .ref a0), (1, .ref o1), (2, .int x10), (3, .int s2.2)]) (fun x10 => th) (fun s7 nx8 hnx8 ex9 hex9 => ?_) (fun x10 => ?_) 4096 (s2.1, (s2.2 + (Int32.ofInt 1)))) ⟨rfl, rfl, rfl, rfl, rfl, trivial⟩
      · refine x_P 24 rfl rfl rfl ?_
        refine x_P 25 rfl rfl rfl ?_
        refine x_gI rfl (fun x11 hx11 => ?_)
        refine x_ic_ge rfl rfl (fun h22 => ?_) (fun h22 => ?_)
        · exact x_lv (hex9 s7.1) ⟨rfl, rfl, rfl, rfl, trivial⟩
        · refine x_P 33 rfl rfl rfl ?_
          refine x_P 34 rfl rfl rfl ?_
          refine x_P 35 rfl rfl rfl ?_
          refine x_P (lv' := [(5, .int (s7.2 + (Int32.ofInt 1))), (0, .ref a0), (1, .ref o1), (2, .int s7.1), (3, .int s2.2), (4, .int s7.2)]) 37 rfl rfl rfl ?_
          refine x_lv (lv := [(0, .ref a0), (1, .ref o1), (2, .int s7.1), (3, .int s2.2), (4, .int s7.2), (5, .int (s7.2 + (Int32.ofInt 1)))]) (x_lp 75 (fun s12 => [(0, .ref a0), (1, .ref o1), (2, .int s12.1), (3, .int s2.2), (4, .int s7.2), (5, .int s12.2)]) (fun s12 => th) (fun x15 => [(0, .ref a0), (1, .ref o1), (2, .int x15), (3, .int s2.2), (4, .int s7.2)]) (fun x15 => th) (fun s12 nx13 hnx13 ex14 hex14 => ?_) (fun x15 => ?_) 4096 (s7.1, (s7.2 + (Int32.ofInt 1)))) ⟨rfl, rfl, rfl, rfl, rfl, rfl, trivial⟩
          · refine x_P 39 rfl rfl rfl ?_
            refine x_P 40 rfl rfl rfl ?_
            refine x_gI rfl (fun x16 hx16 => ?_)
            refine x_ic_ge rfl rfl (fun h21 => ?_) (fun h21 => ?_)
            · exact x_lv (hex14 s12.1) ⟨rfl, rfl, rfl, rfl, rfl, trivial⟩
            · refine x_P 47 rfl rfl rfl ?_
              refine x_P 48 rfl rfl rfl ?_
              refine x_P 49 rfl rfl rfl ?_
              refine x_P 50 rfl rfl rfl ?_
              refine x_aI rfl ⟨rfl, rfl⟩ (fun x17 hx17 => ?_)
              refine x_P 52 rfl rfl rfl ?_
              refine x_P 54 rfl rfl rfl ?_
              refine x_aI rfl ⟨rfl, rfl⟩ (fun x18 hx18 => ?_)
              refine x_P 56 rfl rfl rfl ?_
              refine x_P 58 rfl rfl rfl ?_
              refine x_aI rfl ⟨rfl, rfl⟩ (fun x19 hx19 => ?_)
              refine x_callV rfl rfl rfl rfl rfl ⟨rfl, rfl⟩ (fun x h => c_79 h) (S_79 d a0 x17 x18 x19 th) (fun x20 hx20 => ?_)
              refine x_Mabs rfl rfl ?_
              refine x_Mmax rfl rfl ?_
              refine x_P (lv' := [(2, .int (mxI s12.1 (abI x20))), (0, .ref a0), (1, .ref o1), (3, .int s2.2), (4, .int s7.2), (5, .int s12.2)]) 69 rfl rfl rfl ?_
              refine x_P (lv' := [(5, .int (s12.2 + Int32.ofInt 1)), (2, .int (mxI s12.1 (abI x20))), (0, .ref a0), (1, .ref o1), (3, .int s2.2), (4, .int s7.2)]) 72 rfl rfl rfl ?_
              refine x_P 37 rfl rfl rfl ?_
              exact x_lv (hnx13 ((mxI s12.1 (abI x20)), (s12.2 + Int32.ofInt 1))) ⟨rfl, rfl, rfl, rfl, rfl, rfl, trivial⟩
          · refine x_P (lv' := [(4, .int (s7.2 + Int32.ofInt 1)), (0, .ref a0), (1, .ref o1), (2, .int x15), (3, .int s2.2)]) 78 rfl rfl rfl ?_
            refine x_P 22 rfl rfl rfl ?_
            exact x_lv (hnx8 (x15, (s7.2 + Int32.ofInt 1))) ⟨rfl, rfl, rfl, rfl, rfl, trivial⟩
      · refine x_P (lv' := [(3, .int (s2.2 + Int32.ofInt 1)), (0, .ref a0), (1, .ref o1), (2, .int x10)]) 84 rfl rfl rfl ?_
        refine x_P 9 rfl rfl rfl ?_
        exact x_lv (hnx3 (x10, (s2.2 + Int32.ofInt 1))) ⟨rfl, rfl, rfl, rfl, trivial⟩
  · refine x_P 88 rfl rfl rfl ?_
    exact x_retI (x := x5) rfl
-- 47 NineTrees.largest()I
noncomputable def m_47 (a0 : Nat) (th : tH) : Option (Int32) :=
  (gC th 7 a0).bind fun _ =>
  (gN th 7 a0 0).bind fun o1 =>
  (m_136 o1 th).bind fun x2 =>
  some x2
theorem c_47 {a0 : Nat} {th : tH} {x : (Int32)} (h : m_47 a0 th = some x) : ∃ fs, th[a0]? = some (.inr (7, fs)) := gC_of h
theorem S_47 {L : Nat} (d : Nat) (a0 : Nat) (th : tH) : Wx L (fun x => (some (.int x), th)) (d + 3) 47 1 0 [(0, .ref a0)] [] th (m_47 a0 th) := by
  unfold m_47
  refine x_gC ?_
  refine x_P 1 rfl rfl rfl ?_
  refine x_gN rfl (fun o1 ho1 => ?_)
  refine x_callS rfl rfl rfl rfl rfl rfl ⟨rfl, rfl⟩ (S_136 d o1 th) (fun x2 hx2 => ?_)
  exact x_retI (x := x2) rfl
-- 139 NineTrees$Shapes.isTaken(LNineTrees$Garden;II)Z
noncomputable def m_139 (a0 : Nat) (a1 : Int32) (a2 : Int32) (th : tH) : Option (Int32) :=
  (m_74 a0 a1 a2 th).bind fun x1 =>
  jn (fun (v2 : Int32) =>
      rB v2
    ) (fun j3 =>
      jn (fun (v4 : Unit) =>
          j3 (Int32.ofInt 0)
        ) (fun j5 =>
          if x1 = (Int32.ofInt (-1)) then
            j5 ()
          else
            (m_84 a0 x1 th).bind fun x6 =>
            if x6 = 0 then
              j3 (Int32.ofInt 1)
            else
              j5 ()
        )
    )
theorem S_139 {L : Nat} (d : Nat) (a0 : Nat) (a1 : Int32) (a2 : Int32) (th : tH) : Wx L (fun x => (some (.int x), th)) (d + 2) 139 4 0 [(0, .ref a0), (1, .int a1), (2, .int a2)] [] th (m_139 a0 a1 a2 th) := by
  unfold m_139
  refine x_P 1 rfl rfl rfl ?_
  refine x_P 2 rfl rfl rfl ?_
  refine x_P 3 rfl rfl rfl ?_
  refine x_callV rfl rfl rfl rfl rfl ⟨rfl, rfl⟩ (fun x h => c_74 h) (S_74 (d + 1) a0 a1 a2 th) (fun x1 hx1 => ?_)
  refine x_P (lv' := [(3, .int x1), (0, .ref a0), (1, .int a1), (2, .int a2)]) 7 rfl rfl rfl ?_
  refine x_P 8 rfl rfl rfl ?_
  refine x_P 9 rfl rfl rfl ?_
  refine x_jn 25 (fun v2 => []) (fun v2 => [.int v2]) (fun v2 => th) (fun v2 => ?_) (fun j3 hj3 => ?_)
  · exact x_rB rfl
  · refine x_jn 24 (fun v4 => []) (fun v4 => []) (fun v4 => th) (fun v4 => ?_) (fun j5 hj5 => ?_)
    · refine x_P 25 rfl rfl rfl ?_
      exact x_lv (hj3 (Int32.ofInt 0)) trivial
    · refine x_ic_eq rfl rfl (fun h8 => ?_) (fun h8 => ?_)
      · exact x_lv (hj5 ()) trivial
      · refine x_P 13 rfl rfl rfl ?_
        refine x_P 14 rfl rfl rfl ?_
        refine x_callV rfl rfl rfl rfl rfl ⟨rfl, rfl⟩ (fun x h => c_84 h) (S_84 d a0 x1 th) (fun x6 hx6 => ?_)
        refine x_if_ne rfl rfl (fun h7 => ?_) (fun h7 => ?_)
        · refine x_P 21 rfl rfl rfl ?_
          refine x_P 25 rfl rfl rfl ?_
          exact x_lv (hj3 (Int32.ofInt 1)) trivial
        · exact x_lv (hj5 ()) trivial
-- 138 NineTrees$Shapes.isEdgeOfSquare(LNineTrees$Garden;II)Z
noncomputable def m_138 (a0 : Nat) (a1 : Int32) (a2 : Int32) (th : tH) : Option (Int32) :=
  (m_72 a0 a2 th).bind fun x1 =>
  (m_72 a0 a1 th).bind fun x2 =>
  (m_73 a0 a2 th).bind fun x3 =>
  (m_73 a0 a1 th).bind fun x4 =>
  (m_72 a0 a1 th).bind fun x5 =>
  (m_73 a0 a1 th).bind fun x6 =>
  (m_139 a0 (x5 - (x3 - x4)) (x6 + (x1 - x2)) th).bind fun x7 =>
  jn (fun (v8 : Int32) =>
      rB v8
    ) (fun j9 =>
      jn (fun (v10 : Unit) =>
          j9 (Int32.ofInt 0)
        ) (fun j11 =>
          if x7 = 0 then
            j11 ()
          else
            (m_72 a0 a2 th).bind fun x12 =>
            (m_73 a0 a2 th).bind fun x13 =>
            (m_139 a0 (x12 - (x3 - x4)) (x13 + (x1 - x2)) th).bind fun x14 =>
            if x14 = 0 then
              j11 ()
            else
              j9 (Int32.ofInt 1)
        )
    )
theorem S_138 {L : Nat} (d : Nat) (a0 : Nat) (a1 : Int32) (a2 : Int32) (th : tH) : Wx L (fun x => (some (.int x), th)) (d + 3) 138 5 0 [(0, .ref a0), (1, .int a1), (2, .int a2)] [] th (m_138 a0 a1 a2 th) := by
  unfold m_138
  refine x_P 1 rfl rfl rfl ?_
  refine x_P 2 rfl rfl rfl ?_
  refine x_callV rfl rfl rfl rfl rfl ⟨rfl, rfl⟩ (fun x h => c_72 h) (S_72 (d + 2) a0 a2 th) (fun x1 hx1 => ?_)
  refine x_P 6 rfl rfl rfl ?_
  refine x_P 7 rfl rfl rfl ?_
  refine x_callV rfl rfl rfl rfl rfl ⟨rfl, rfl⟩ (fun x h => c_72 h) (S_72 (d + 2) a0 a1 th) (fun x2 hx2 => ?_)
  refine x_P 11 rfl rfl rfl ?_
  refine x_P (lv' := [(3, .int (x1 - x2)), (0, .ref a0), (1, .int a1), (2, .int a2)]) 12 rfl rfl rfl ?_
  refine x_P 13 rfl rfl rfl ?_
  refine x_P 14 rfl rfl rfl ?_
  refine x_callV rfl rfl rfl rfl rfl ⟨rfl, rfl⟩ (fun x h => c_73 h) (S_73 (d + 2) a0 a2 th) (fun x3 hx3 => ?_)
  refine x_P 18 rfl rfl rfl ?_
  refine x_P 19 rfl rfl rfl ?_
  refine x_callV rfl rfl rfl rfl rfl ⟨rfl, rfl⟩ (fun x h => c_73 h) (S_73 (d + 2) a0 a1 th) (fun x4 hx4 => ?_)
  refine x_P 23 rfl rfl rfl ?_
  refine x_P (lv' := [(4, .int (x3 - x4)), (3, .int (x1 - x2)), (0, .ref a0), (1, .int a1), (2, .int a2)]) 25 rfl rfl rfl ?_
  refine x_P 26 rfl rfl rfl ?_
  refine x_P 27 rfl rfl rfl ?_
  refine x_P 28 rfl rfl rfl ?_
  refine x_callV rfl rfl rfl rfl rfl ⟨rfl, rfl⟩ (fun x h => c_72 h) (S_72 (d + 2) a0 a1 th) (fun x5 hx5 => ?_)
  refine x_P 33 rfl rfl rfl ?_
  refine x_P 34 rfl rfl rfl ?_
  refine x_P 35 rfl rfl rfl ?_
  refine x_P 36 rfl rfl rfl ?_
  refine x_callV rfl rfl rfl rfl rfl ⟨rfl, rfl⟩ (fun x h => c_73 h) (S_73 (d + 2) a0 a1 th) (fun x6 hx6 => ?_)
  refine x_P 40 rfl rfl rfl ?_
  refine x_P 41 rfl rfl rfl ?_
  refine x_callS rfl rfl rfl rfl rfl rfl ⟨rfl, rfl⟩ (S_139 d a0 (x5 - (x3 - x4)) (x6 + (x1 - x2)) th) (fun x7 hx7 => ?_)
  refine x_jn 74 (fun v8 => []) (fun v8 => [.int v8]) (fun v8 => th) (fun v8 => ?_) (fun j9 hj9 => ?_)
  · exact x_rB rfl
  · refine x_jn 73 (fun v10 => []) (fun v10 => []) (fun v10 => th) (fun v10 => ?_) (fun j11 hj11 => ?_)
    · refine x_P 74 rfl rfl rfl ?_
      exact x_lv (hj9 (Int32.ofInt 0)) trivial
    · refine x_if_eq rfl rfl (fun h16 => ?_) (fun h16 => ?_)
      · exact x_lv (hj11 ()) trivial
      · refine x_P 48 rfl rfl rfl ?_
        refine x_P 49 rfl rfl rfl ?_
        refine x_P 50 rfl rfl rfl ?_
        refine x_callV rfl rfl rfl rfl rfl ⟨rfl, rfl⟩ (fun x h => c_72 h) (S_72 (d + 2) a0 a2 th) (fun x12 hx12 => ?_)
        refine x_P 55 rfl rfl rfl ?_
        refine x_P 56 rfl rfl rfl ?_
        refine x_P 57 rfl rfl rfl ?_
        refine x_P 58 rfl rfl rfl ?_
        refine x_callV rfl rfl rfl rfl rfl ⟨rfl, rfl⟩ (fun x h => c_73 h) (S_73 (d + 2) a0 a2 th) (fun x13 hx13 => ?_)
        refine x_P 62 rfl rfl rfl ?_
        refine x_P 63 rfl rfl rfl ?_
        refine x_callS rfl rfl rfl rfl rfl rfl ⟨rfl, rfl⟩ (S_139 d a0 (x12 - (x3 - x4)) (x13 + (x1 - x2)) th) (fun x14 hx14 => ?_)
        refine x_if_eq rfl rfl (fun h15 => ?_) (fun h15 => ?_)
        · exact x_lv (hj11 ()) trivial
        · refine x_P 70 rfl rfl rfl ?_
          refine x_P 74 rfl rfl rfl ?_
          exact x_lv (hj9 (Int32.ofInt 1)) trivial
-- 137 NineTrees$Shapes.countSquares(LNineTrees$Garden;)I
noncomputable def m_137 (a0 : Nat) (th : tH) : Option (Int32) :=
  lp (fun (s1 : Int32 × Int32) nx2 ex3 =>
      (gI th 2 a0 5).bind fun x6 =>
      if x6 ≤ s1.2 then
        ex3 s1.1
      else
        lp (fun (s7 : Int32 × Int32) nx8 ex9 =>
            (gI th 2 a0 5).bind fun x11 =>
            if x11 ≤ s7.2 then
              ex9 s7.1
            else
              jn (fun (v12 : Int32) =>
                  nx8 (v12, (s7.2 + Int32.ofInt 1))
                ) (fun j13 =>
                  if s1.2 = s7.2 then
                    j13 s7.1
                  else
                    (gN th 2 a0 1).bind fun o14 =>
                    (aI th o14 s1.2).bind fun x15 =>
                    (gN th 2 a0 1).bind fun o16 =>
                    (aI th o16 s7.2).bind fun x17 =>
                    (m_138 a0 x15 x17 th).bind fun x18 =>
                    if x18 = 0 then
                      j13 s7.1
                    else
                      j13 (s7.1 + Int32.ofInt 1)
                )
          ) 4096 (s1.1, (Int32.ofInt 0)) (fun (x10 : Int32) =>
            nx2 (x10, (s1.2 + Int32.ofInt 1))
          )
    ) 4096 ((Int32.ofInt 0), (Int32.ofInt 0)) (fun (x4 : Int32) =>
      (dvI x4 (Int32.ofInt 4)).bind fun x5 =>
      some x5
    )
theorem S_137 {L : Nat} (d : Nat) (a0 : Nat) (th : tH) : Wx L (fun x => (some (.int x), th)) (d + 4) 137 4 0 [(0, .ref a0)] [] th (m_137 a0 th) := by
  unfold m_137
  refine x_P 1 rfl rfl rfl ?_
  refine x_P (lv' := [(1, .int (Int32.ofInt 0)), (0, .ref a0)]) 2 rfl rfl rfl ?_
  refine x_P 3 rfl rfl rfl ?_
  refine x_P (lv' := [(2, .int (Int32.ofInt 0)), (1, .int (Int32.ofInt 0)), (0, .ref a0)]) 4 rfl rfl rfl ?_
  refine x_lv (lv := [(0, .ref a0), (1, .int (Int32.ofInt 0)), (2, .int (Int32.ofInt 0))]) (x_lp 61 (fun s1 => [(0, .ref a0), (1, .int s1.1), (2, .int s1.2)]) (fun s1 => th) (fun x4 => [(1, .int x4)]) (fun x4 => th) (fun s1 nx2 hnx2 ex3 hex3 => ?_) (fun x4 => ?_) 4096 ((Int32.ofInt 0), (Int32.ofInt 0))) ⟨rfl, rfl, rfl, trivial⟩
  · refine x_P 5 rfl rfl rfl ?_
    refine x_P 6 rfl rfl rfl ?_
    refine x_gI rfl (fun x6 hx6 => ?_)
    refine x_ic_ge rfl rfl (fun h22 => ?_) (fun h22 => ?_)
    · exact x_lv (hex3 s1.1) ⟨rfl, trivial⟩
    · refine x_P 13 rfl rfl rfl ?_
      refine x_P (lv' := [(3, .int (Int32.ofInt 0)), (0, .ref a0), (1, .int s1.1), (2, .int s1.2)]) 14 rfl rfl rfl ?_
      refine x_lv (lv := [(0, .ref a0), (1, .int s1.1), (2, .int s1.2), (3, .int (Int32.ofInt 0))]) (x_lp 55 (fun s7 => [(0, .ref a0), (1, .int s7.1), (2, .int s1.2), (3, .int s7.2)]) (fun s7 => th) (fun x10 => [(0, .ref a0), (1, .int x10), (2, .int s1.2)]) (fun x10 => th) (fun s7 nx8 hnx8 ex9 hex9 => ?_) (fun x10 => ?_) 4096 (s1.1, (Int32.ofInt 0))) ⟨rfl, rfl, rfl, rfl, trivial⟩
      · refine x_P 15 rfl rfl rfl ?_
        refine x_P 16 rfl rfl rfl ?_
        refine x_gI rfl (fun x11 hx11 => ?_)
        refine x_ic_ge rfl rfl (fun h21 => ?_) (fun h21 => ?_)
        · exact x_lv (hex9 s7.1) ⟨rfl, rfl, rfl, trivial⟩
        · refine x_P 23 rfl rfl rfl ?_
          refine x_P 24 rfl rfl rfl ?_
          refine x_jn 49 (fun v12 => [(0, .ref a0), (1, .int v12), (2, .int s1.2), (3, .int s7.2)]) (fun v12 => []) (fun v12 => th) (fun v12 => ?_) (fun j13 hj13 => ?_)
          · refine x_P (lv' := [(3, .int (s7.2 + Int32.ofInt 1)), (0, .ref a0), (1, .int v12), (2, .int s1.2)]) 52 rfl rfl rfl ?_
            refine x_P 14 rfl rfl rfl ?_
            exact x_lv (hnx8 (v12, (s7.2 + Int32.ofInt 1))) ⟨rfl, rfl, rfl, rfl, trivial⟩
          · refine x_ic_eq rfl rfl (fun h20 => ?_) (fun h20 => ?_)
            · exact x_lv (hj13 s7.1) ⟨rfl, rfl, rfl, rfl, trivial⟩
            · refine x_P 28 rfl rfl rfl ?_
              refine x_P 29 rfl rfl rfl ?_
              refine x_gN rfl (fun o14 ho14 => ?_)
              refine x_P 33 rfl rfl rfl ?_
              refine x_aI rfl ⟨rfl, rfl⟩ (fun x15 hx15 => ?_)
              refine x_P 35 rfl rfl rfl ?_
              refine x_gN rfl (fun o16 ho16 => ?_)
              refine x_P 39 rfl rfl rfl ?_
              refine x_aI rfl ⟨rfl, rfl⟩ (fun x17 hx17 => ?_)
              refine x_callS rfl rfl rfl rfl rfl rfl ⟨rfl, rfl⟩ (S_138 d a0 x15 x17 th) (fun x18 hx18 => ?_)
              refine x_if_eq rfl rfl (fun h19 => ?_) (fun h19 => ?_)
              · exact x_lv (hj13 s7.1) ⟨rfl, rfl, rfl, rfl, trivial⟩
              · refine x_P (lv' := [(1, .int (s7.1 + Int32.ofInt 1)), (0, .ref a0), (2, .int s1.2), (3, .int s7.2)]) 49 rfl rfl rfl ?_
                exact x_lv (hj13 (s7.1 + Int32.ofInt 1)) ⟨rfl, rfl, rfl, rfl, trivial⟩
      · refine x_P (lv' := [(2, .int (s1.2 + Int32.ofInt 1)), (0, .ref a0), (1, .int x10)]) 58 rfl rfl rfl ?_
        refine x_P 4 rfl rfl rfl ?_
        exact x_lv (hnx2 (x10, (s1.2 + Int32.ofInt 1))) ⟨rfl, rfl, rfl, trivial⟩
  · refine x_P 62 rfl rfl rfl ?_
    refine x_P 63 rfl rfl rfl ?_
    refine x_dv rfl rfl (fun x5 hx5 => ?_)
    exact x_retI (x := x5) rfl
-- 48 NineTrees.squares()I
noncomputable def m_48 (a0 : Nat) (th : tH) : Option (Int32) :=
  (gC th 7 a0).bind fun _ =>
  (gN th 7 a0 0).bind fun o1 =>
  (m_137 o1 th).bind fun x2 =>
  some x2
theorem c_48 {a0 : Nat} {th : tH} {x : (Int32)} (h : m_48 a0 th = some x) : ∃ fs, th[a0]? = some (.inr (7, fs)) := gC_of h
theorem S_48 {L : Nat} (d : Nat) (a0 : Nat) (th : tH) : Wx L (fun x => (some (.int x), th)) (d + 5) 48 1 0 [(0, .ref a0)] [] th (m_48 a0 th) := by
  unfold m_48
  refine x_gC ?_
  refine x_P 1 rfl rfl rfl ?_
  refine x_gN rfl (fun o1 ho1 => ?_)
  refine x_callS rfl rfl rfl rfl rfl rfl ⟨rfl, rfl⟩ (S_137 d o1 th) (fun x2 hx2 => ?_)
  exact x_retI (x := x2) rfl
-- 142 NineTrees$Shapes.isOnOneHand(LNineTrees$Garden;IIII)Z
noncomputable def m_142 (a0 : Nat) (a1 : Int32) (a2 : Int32) (a3 : Int32) (a4 : Int32) (th : tH) : Option (Int32) :=
  (m_79 a0 a2 a3 a1 th).bind fun x1 =>
  (m_79 a0 a3 a4 a1 th).bind fun x2 =>
  (m_79 a0 a4 a2 a1 th).bind fun x3 =>
  jn (fun (v4 : Int32) =>
      jn (fun (v6 : Int32) =>
          jn (fun (v8 : Int32) =>
              rB v8
            ) (fun j9 =>
              jn (fun (v10 : Unit) =>
                  j9 (Int32.ofInt 1)
                ) (fun j11 =>
                  if v4 = 0 then
                    if v6 = 0 then
                      j9 (Int32.ofInt 0)
                    else
                      j11 ()
                  else
                    j11 ()
                )
            )
        ) (fun j7 =>
          jn (fun (v14 : Unit) =>
              j7 (Int32.ofInt 0)
            ) (fun j15 =>
              if 0 < x1 then
                j15 ()
              else
                if 0 < x2 then
                  j15 ()
                else
                  if 0 < x3 then
                    j15 ()
                  else
                    j7 (Int32.ofInt 1)
            )
        )
    ) (fun j5 =>
      jn (fun (v19 : Unit) =>
          j5 (Int32.ofInt 0)
        ) (fun j20 =>
          if x1 < 0 then
            j20 ()
          else
            if x2 < 0 then
              j20 ()
            else
              if x3 < 0 then
                j20 ()
              else
                j5 (Int32.ofInt 1)
        )
    )
theorem S_142 {L : Nat} (d : Nat) (a0 : Nat) (a1 : Int32) (a2 : Int32) (a3 : Int32) (a4 : Int32) (th : tH) : Wx L (fun x => (some (.int x), th)) (d + 2) 142 10 0 [(0, .ref a0), (1, .int a1), (2, .int a2), (3, .int a3), (4, .int a4)] [] th (m_142 a0 a1 a2 a3 a4 th) := by
  unfold m_142
  refine x_P 1 rfl rfl rfl ?_
  refine x_P 2 rfl rfl rfl ?_
  refine x_P 3 rfl rfl rfl ?_
  refine x_P 4 rfl rfl rfl ?_
  refine x_callV rfl rfl rfl rfl rfl ⟨rfl, rfl⟩ (fun x h => c_79 h) (S_79 d a0 a2 a3 a1 th) (fun x1 hx1 => ?_)
  refine x_P (lv' := [(5, .int x1), (0, .ref a0), (1, .int a1), (2, .int a2), (3, .int a3), (4, .int a4)]) 9 rfl rfl rfl ?_
  refine x_P 10 rfl rfl rfl ?_
  refine x_P 11 rfl rfl rfl ?_
  refine x_P 13 rfl rfl rfl ?_
  refine x_P 14 rfl rfl rfl ?_
  refine x_callV rfl rfl rfl rfl rfl ⟨rfl, rfl⟩ (fun x h => c_79 h) (S_79 d a0 a3 a4 a1 th) (fun x2 hx2 => ?_)
  refine x_P (lv' := [(6, .int x2), (5, .int x1), (0, .ref a0), (1, .int a1), (2, .int a2), (3, .int a3), (4, .int a4)]) 19 rfl rfl rfl ?_
  refine x_P 20 rfl rfl rfl ?_
  refine x_P 22 rfl rfl rfl ?_
  refine x_P 23 rfl rfl rfl ?_
  refine x_P 24 rfl rfl rfl ?_
  refine x_callV rfl rfl rfl rfl rfl ⟨rfl, rfl⟩ (fun x h => c_79 h) (S_79 d a0 a4 a2 a1 th) (fun x3 hx3 => ?_)
  refine x_P (lv' := [(7, .int x3), (6, .int x2), (5, .int x1), (0, .ref a0), (1, .int a1), (2, .int a2), (3, .int a3), (4, .int a4)]) 29 rfl rfl rfl ?_
  refine x_P 31 rfl rfl rfl ?_
  refine x_jn 49 (fun v4 => [(5, .int x1), (6, .int x2), (7, .int x3)]) (fun v4 => [.int v4]) (fun v4 => th) (fun v4 => ?_) (fun j5 hj5 => ?_)
  · refine x_P (lv' := [(8, .int v4), (5, .int x1), (6, .int x2), (7, .int x3)]) 51 rfl rfl rfl ?_
    refine x_P 53 rfl rfl rfl ?_
    refine x_jn 71 (fun v6 => [(8, .int v4)]) (fun v6 => [.int v6]) (fun v6 => th) (fun v6 => ?_) (fun j7 hj7 => ?_)
    · refine x_P (lv' := [(9, .int v6), (8, .int v4)]) 73 rfl rfl rfl ?_
      refine x_P 75 rfl rfl rfl ?_
      refine x_jn 88 (fun v8 => []) (fun v8 => [.int v8]) (fun v8 => th) (fun v8 => ?_) (fun j9 hj9 => ?_)
      · exact x_rB rfl
      · refine x_jn 83 (fun v10 => []) (fun v10 => []) (fun v10 => th) (fun v10 => ?_) (fun j11 hj11 => ?_)
        · refine x_P 84 rfl rfl rfl ?_
          refine x_P 88 rfl rfl rfl ?_
          exact x_lv (hj9 (Int32.ofInt 1)) trivial
        · refine x_if_ne rfl rfl (fun h13 => ?_) (fun h13 => ?_)
          · refine x_P 80 rfl rfl rfl ?_
            refine x_if_eq rfl rfl (fun h12 => ?_) (fun h12 => ?_)
            · refine x_P 88 rfl rfl rfl ?_
              exact x_lv (hj9 (Int32.ofInt 0)) trivial
            · exact x_lv (hj11 ()) trivial
          · exact x_lv (hj11 ()) trivial
    · refine x_jn 70 (fun v14 => [(8, .int v4)]) (fun v14 => []) (fun v14 => th) (fun v14 => ?_) (fun j15 hj15 => ?_)
      · refine x_P 71 rfl rfl rfl ?_
        exact x_lv (hj7 (Int32.ofInt 0)) ⟨rfl, trivial⟩
      · refine x_if_gt rfl rfl (fun h18 => ?_) (fun h18 => ?_)
        · exact x_lv (hj15 ()) ⟨rfl, trivial⟩
        · refine x_P 58 rfl rfl rfl ?_
          refine x_if_gt rfl rfl (fun h17 => ?_) (fun h17 => ?_)
          · exact x_lv (hj15 ()) ⟨rfl, trivial⟩
          · refine x_P 63 rfl rfl rfl ?_
            refine x_if_gt rfl rfl (fun h16 => ?_) (fun h16 => ?_)
            · exact x_lv (hj15 ()) ⟨rfl, trivial⟩
            · refine x_P 67 rfl rfl rfl ?_
              refine x_P 71 rfl rfl rfl ?_
              exact x_lv (hj7 (Int32.ofInt 1)) ⟨rfl, trivial⟩
  · refine x_jn 48 (fun v19 => [(5, .int x1), (6, .int x2), (7, .int x3)]) (fun v19 => []) (fun v19 => th) (fun v19 => ?_) (fun j20 hj20 => ?_)
    · refine x_P 49 rfl rfl rfl ?_
      exact x_lv (hj5 (Int32.ofInt 0)) ⟨rfl, rfl, rfl, trivial⟩
    · refine x_if_lt rfl rfl (fun h23 => ?_) (fun h23 => ?_)
      · exact x_lv (hj20 ()) ⟨rfl, rfl, rfl, trivial⟩
      · refine x_P 36 rfl rfl rfl ?_
        refine x_if_lt rfl rfl (fun h22 => ?_) (fun h22 => ?_)
        · exact x_lv (hj20 ()) ⟨rfl, rfl, rfl, trivial⟩
        · refine x_P 41 rfl rfl rfl ?_
          refine x_if_lt rfl rfl (fun h21 => ?_) (fun h21 => ?_)
          · exact x_lv (hj20 ()) ⟨rfl, rfl, rfl, trivial⟩
          · refine x_P 45 rfl rfl rfl ?_
            refine x_P 49 rfl rfl rfl ?_
            exact x_lv (hj5 (Int32.ofInt 1)) ⟨rfl, rfl, rfl, trivial⟩
-- 141 NineTrees$Shapes.isInTriangleOnto(LNineTrees$Garden;III)Z
noncomputable def m_141 (a0 : Nat) (a1 : Int32) (a2 : Int32) (a3 : Int32) (th : tH) : Option (Int32) :=
  jn (fun (v1 : Unit) =>
      rB (Int32.ofInt 0)
    ) (fun j2 =>
      if a1 = a2 then
        j2 ()
      else
        if a1 = a3 then
          j2 ()
        else
          (gN th 2 a0 1).bind fun o3 =>
          lp (fun (s4 : Int32) nx5 ex6 =>
              (gI th 2 a0 5).bind fun x8 =>
              if x8 ≤ s4 then
                ex6 ()
              else
                jn (fun (v9 : Unit) =>
                    nx5 (s4 + Int32.ofInt 1)
                  ) (fun j10 =>
                    if s4 = a1 then
                      j10 ()
                    else
                      (aI th o3 a2).bind fun x11 =>
                      (aI th o3 a3).bind fun x12 =>
                      (aI th o3 s4).bind fun x13 =>
                      (m_79 a0 x11 x12 x13 th).bind fun x14 =>
                      if x14 = 0 then
                        j10 ()
                      else
                        (aI th o3 a1).bind fun x15 =>
                        (aI th o3 a2).bind fun x16 =>
                        (aI th o3 a3).bind fun x17 =>
                        (aI th o3 s4).bind fun x18 =>
                        (m_142 a0 x15 x16 x17 x18 th).bind fun x19 =>
                        if x19 = 0 then
                          j10 ()
                        else
                          rB (Int32.ofInt 1)
                  )
            ) 4096 (a3 + (Int32.ofInt 1)) (fun (x7 : Unit) =>
              rB (Int32.ofInt 0)
            )
    )
theorem S_141 {L : Nat} (d : Nat) (a0 : Nat) (a1 : Int32) (a2 : Int32) (a3 : Int32) (th : tH) : Wx L (fun x => (some (.int x), th)) (d + 3) 141 6 0 [(0, .ref a0), (1, .int a1), (2, .int a2), (3, .int a3)] [] th (m_141 a0 a1 a2 a3 th) := by
  unfold m_141
  refine x_P 1 rfl rfl rfl ?_
  refine x_P 2 rfl rfl rfl ?_
  refine x_jn 10 (fun v1 => []) (fun v1 => []) (fun v1 => th) (fun v1 => ?_) (fun j2 hj2 => ?_)
  · refine x_P 11 rfl rfl rfl ?_
    exact x_rB rfl
  · refine x_ic_eq rfl rfl (fun h25 => ?_) (fun h25 => ?_)
    · exact x_lv (hj2 ()) trivial
    · refine x_P 6 rfl rfl rfl ?_
      refine x_P 7 rfl rfl rfl ?_
      refine x_ic_ne rfl rfl (fun h24 => ?_) (fun h24 => ?_)
      · exact x_lv (hj2 ()) trivial
      · refine x_P 13 rfl rfl rfl ?_
        refine x_gN rfl (fun o3 ho3 => ?_)
        refine x_P (lv' := [(4, .ref o3), (0, .ref a0), (1, .int a1), (2, .int a2), (3, .int a3)]) 18 rfl rfl rfl ?_
        refine x_P 19 rfl rfl rfl ?_
        refine x_P 20 rfl rfl rfl ?_
        refine x_P 21 rfl rfl rfl ?_
        refine x_P (lv' := [(5, .int (a3 + (Int32.ofInt 1))), (4, .ref o3), (0, .ref a0), (1, .int a1), (2, .int a2), (3, .int a3)]) 23 rfl rfl rfl ?_
        refine x_lv (lv := [(0, .ref a0), (1, .int a1), (2, .int a2), (3, .int a3), (4, .ref o3), (5, .int (a3 + (Int32.ofInt 1)))]) (x_lp 90 (fun s4 => [(0, .ref a0), (1, .int a1), (2, .int a2), (3, .int a3), (4, .ref o3), (5, .int s4)]) (fun s4 => th) (fun x7 => []) (fun x7 => th) (fun s4 nx5 hnx5 ex6 hex6 => ?_) (fun x7 => ?_) 4096 (a3 + (Int32.ofInt 1))) ⟨rfl, rfl, rfl, rfl, rfl, rfl, trivial⟩
        · refine x_P 25 rfl rfl rfl ?_
          refine x_P 26 rfl rfl rfl ?_
          refine x_gI rfl (fun x8 hx8 => ?_)
          refine x_ic_ge rfl rfl (fun h23 => ?_) (fun h23 => ?_)
          · exact x_lv (hex6 ()) trivial
          · refine x_P 34 rfl rfl rfl ?_
            refine x_P 35 rfl rfl rfl ?_
            refine x_jn 84 (fun v9 => [(0, .ref a0), (1, .int a1), (2, .int a2), (3, .int a3), (4, .ref o3), (5, .int s4)]) (fun v9 => []) (fun v9 => th) (fun v9 => ?_) (fun j10 hj10 => ?_)
            · refine x_P (lv' := [(5, .int (s4 + Int32.ofInt 1)), (0, .ref a0), (1, .int a1), (2, .int a2), (3, .int a3), (4, .ref o3)]) 87 rfl rfl rfl ?_
              refine x_P 23 rfl rfl rfl ?_
              exact x_lv (hnx5 (s4 + Int32.ofInt 1)) ⟨rfl, rfl, rfl, rfl, rfl, rfl, trivial⟩
            · refine x_ic_eq rfl rfl (fun h22 => ?_) (fun h22 => ?_)
              · exact x_lv (hj10 ()) ⟨rfl, rfl, rfl, rfl, rfl, rfl, trivial⟩
              · refine x_P 39 rfl rfl rfl ?_
                refine x_P 41 rfl rfl rfl ?_
                refine x_P 42 rfl rfl rfl ?_
                refine x_aI rfl ⟨rfl, rfl⟩ (fun x11 hx11 => ?_)
                refine x_P 45 rfl rfl rfl ?_
                refine x_P 46 rfl rfl rfl ?_
                refine x_aI rfl ⟨rfl, rfl⟩ (fun x12 hx12 => ?_)
                refine x_P 49 rfl rfl rfl ?_
                refine x_P 51 rfl rfl rfl ?_
                refine x_aI rfl ⟨rfl, rfl⟩ (fun x13 hx13 => ?_)
                refine x_callV rfl rfl rfl rfl rfl ⟨rfl, rfl⟩ (fun x h => c_79 h) (S_79 (d + 1) a0 x11 x12 x13 th) (fun x14 hx14 => ?_)
                refine x_if_eq rfl rfl (fun h21 => ?_) (fun h21 => ?_)
                · exact x_lv (hj10 ()) ⟨rfl, rfl, rfl, rfl, rfl, rfl, trivial⟩
                · refine x_P 59 rfl rfl rfl ?_
                  refine x_P 61 rfl rfl rfl ?_
                  refine x_P 62 rfl rfl rfl ?_
                  refine x_aI rfl ⟨rfl, rfl⟩ (fun x15 hx15 => ?_)
                  refine x_P 65 rfl rfl rfl ?_
                  refine x_P 66 rfl rfl rfl ?_
                  refine x_aI rfl ⟨rfl, rfl⟩ (fun x16 hx16 => ?_)
                  refine x_P 69 rfl rfl rfl ?_
                  refine x_P 70 rfl rfl rfl ?_
                  refine x_aI rfl ⟨rfl, rfl⟩ (fun x17 hx17 => ?_)
                  refine x_P 73 rfl rfl rfl ?_
                  refine x_P 75 rfl rfl rfl ?_
                  refine x_aI rfl ⟨rfl, rfl⟩ (fun x18 hx18 => ?_)
                  refine x_callS rfl rfl rfl rfl rfl rfl ⟨rfl, rfl⟩ (S_142 d a0 x15 x16 x17 x18 th) (fun x19 hx19 => ?_)
                  refine x_if_eq rfl rfl (fun h20 => ?_) (fun h20 => ?_)
                  · exact x_lv (hj10 ()) ⟨rfl, rfl, rfl, rfl, rfl, rfl, trivial⟩
                  · refine x_P 83 rfl rfl rfl ?_
                    exact x_rB rfl
        · refine x_P 91 rfl rfl rfl ?_
          exact x_rB rfl
-- 140 NineTrees$Shapes.isCorner(LNineTrees$Garden;I)Z
noncomputable def m_140 (a0 : Nat) (a1 : Int32) (th : tH) : Option (Int32) :=
  (gN th 2 a0 1).bind fun o1 =>
  (aI th o1 a1).bind fun x2 =>
  lp (fun (s3 : Int32) nx4 ex5 =>
      (gI th 2 a0 5).bind fun x7 =>
      if x7 ≤ s3 then
        ex5 ()
      else
        lp (fun (s8 : Int32) nx9 ex10 =>
            (gI th 2 a0 5).bind fun x12 =>
            if x12 ≤ s8 then
              ex10 ()
            else
              (gN th 2 a0 1).bind fun o13 =>
              (aI th o13 s3).bind fun x14 =>
              (gN th 2 a0 1).bind fun o15 =>
              (aI th o15 s8).bind fun x16 =>
              (m_80 a0 x2 x14 x16 th).bind fun x17 =>
              jn (fun (v18 : Unit) =>
                  rB (Int32.ofInt 0)
                ) (fun j19 =>
                  if x17 = 0 then
                    (m_141 a0 a1 s3 s8 th).bind fun x20 =>
                    if x20 = 0 then
                      nx9 (s8 + Int32.ofInt 1)
                    else
                      j19 ()
                  else
                    j19 ()
                )
          ) 4096 (s3 + (Int32.ofInt 1)) (fun (x11 : Unit) =>
            nx4 (s3 + Int32.ofInt 1)
          )
    ) 4096 (Int32.ofInt 0) (fun (x6 : Unit) =>
      rB (Int32.ofInt 1)
    )
theorem S_140 {L : Nat} (d : Nat) (a0 : Nat) (a1 : Int32) (th : tH) : Wx L (fun x => (some (.int x), th)) (d + 4) 140 5 0 [(0, .ref a0), (1, .int a1)] [] th (m_140 a0 a1 th) := by
  unfold m_140
  refine x_P 1 rfl rfl rfl ?_
  refine x_gN rfl (fun o1 ho1 => ?_)
  refine x_P 5 rfl rfl rfl ?_
  refine x_aI rfl ⟨rfl, rfl⟩ (fun x2 hx2 => ?_)
  refine x_P (lv' := [(2, .int x2), (0, .ref a0), (1, .int a1)]) 7 rfl rfl rfl ?_
  refine x_P 8 rfl rfl rfl ?_
  refine x_P (lv' := [(3, .int (Int32.ofInt 0)), (2, .int x2), (0, .ref a0), (1, .int a1)]) 9 rfl rfl rfl ?_
  refine x_lv (lv := [(0, .ref a0), (1, .int a1), (2, .int x2), (3, .int (Int32.ofInt 0))]) (x_lp 77 (fun s3 => [(0, .ref a0), (1, .int a1), (2, .int x2), (3, .int s3)]) (fun s3 => th) (fun x6 => []) (fun x6 => th) (fun s3 nx4 hnx4 ex5 hex5 => ?_) (fun x6 => ?_) 4096 (Int32.ofInt 0)) ⟨rfl, rfl, rfl, rfl, trivial⟩
  · refine x_P 10 rfl rfl rfl ?_
    refine x_P 11 rfl rfl rfl ?_
    refine x_gI rfl (fun x7 hx7 => ?_)
    refine x_ic_ge rfl rfl (fun h24 => ?_) (fun h24 => ?_)
    · exact x_lv (hex5 ()) trivial
    · refine x_P 18 rfl rfl rfl ?_
      refine x_P 19 rfl rfl rfl ?_
      refine x_P 20 rfl rfl rfl ?_
      refine x_P (lv' := [(4, .int (s3 + (Int32.ofInt 1))), (0, .ref a0), (1, .int a1), (2, .int x2), (3, .int s3)]) 22 rfl rfl rfl ?_
      refine x_lv (lv := [(0, .ref a0), (1, .int a1), (2, .int x2), (3, .int s3), (4, .int (s3 + (Int32.ofInt 1)))]) (x_lp 71 (fun s8 => [(0, .ref a0), (1, .int a1), (2, .int x2), (3, .int s3), (4, .int s8)]) (fun s8 => th) (fun x11 => [(0, .ref a0), (1, .int a1), (2, .int x2), (3, .int s3)]) (fun x11 => th) (fun s8 nx9 hnx9 ex10 hex10 => ?_) (fun x11 => ?_) 4096 (s3 + (Int32.ofInt 1))) ⟨rfl, rfl, rfl, rfl, rfl, trivial⟩
      · refine x_P 24 rfl rfl rfl ?_
        refine x_P 25 rfl rfl rfl ?_
        refine x_gI rfl (fun x12 hx12 => ?_)
        refine x_ic_ge rfl rfl (fun h23 => ?_) (fun h23 => ?_)
        · exact x_lv (hex10 ()) ⟨rfl, rfl, rfl, rfl, trivial⟩
        · refine x_P 32 rfl rfl rfl ?_
          refine x_P 33 rfl rfl rfl ?_
          refine x_P 34 rfl rfl rfl ?_
          refine x_gN rfl (fun o13 ho13 => ?_)
          refine x_P 38 rfl rfl rfl ?_
          refine x_aI rfl ⟨rfl, rfl⟩ (fun x14 hx14 => ?_)
          refine x_P 40 rfl rfl rfl ?_
          refine x_gN rfl (fun o15 ho15 => ?_)
          refine x_P 45 rfl rfl rfl ?_
          refine x_aI rfl ⟨rfl, rfl⟩ (fun x16 hx16 => ?_)
          refine x_callV rfl rfl rfl rfl rfl ⟨rfl, rfl⟩ (fun x h => c_80 h) (S_80 (d + 1) a0 x2 x14 x16 th) (fun x17 hx17 => ?_)
          refine x_jn 63 (fun v18 => []) (fun v18 => []) (fun v18 => th) (fun v18 => ?_) (fun j19 hj19 => ?_)
          · refine x_P 64 rfl rfl rfl ?_
            exact x_rB rfl
          · refine x_if_ne rfl rfl (fun h22 => ?_) (fun h22 => ?_)
            · refine x_P 53 rfl rfl rfl ?_
              refine x_P 54 rfl rfl rfl ?_
              refine x_P 55 rfl rfl rfl ?_
              refine x_P 57 rfl rfl rfl ?_
              refine x_callS rfl rfl rfl rfl rfl rfl ⟨rfl, rfl⟩ (S_141 d a0 a1 s3 s8 th) (fun x20 hx20 => ?_)
              refine x_if_eq rfl rfl (fun h21 => ?_) (fun h21 => ?_)
              · refine x_P (lv' := [(4, .int (s8 + Int32.ofInt 1)), (0, .ref a0), (1, .int a1), (2, .int x2), (3, .int s3)]) 68 rfl rfl rfl ?_
                refine x_P 22 rfl rfl rfl ?_
                exact x_lv (hnx9 (s8 + Int32.ofInt 1)) ⟨rfl, rfl, rfl, rfl, rfl, trivial⟩
              · exact x_lv (hj19 ()) trivial
            · exact x_lv (hj19 ()) trivial
      · refine x_P (lv' := [(3, .int (s3 + Int32.ofInt 1)), (0, .ref a0), (1, .int a1), (2, .int x2)]) 74 rfl rfl rfl ?_
        refine x_P 9 rfl rfl rfl ?_
        exact x_lv (hnx4 (s3 + Int32.ofInt 1)) ⟨rfl, rfl, rfl, rfl, trivial⟩
  · refine x_P 78 rfl rfl rfl ?_
    exact x_rB rfl
-- 49 NineTrees.corners()I
noncomputable def m_49 (a0 : Nat) (th : tH) : Option (Int32) :=
  (gC th 7 a0).bind fun _ =>
  lp (fun (s1 : Int32 × Int32) nx2 ex3 =>
      (gN th 7 a0 0).bind fun o5 =>
      (gI th 2 o5 5).bind fun x6 =>
      if x6 ≤ s1.2 then
        ex3 s1.1
      else
        (gN th 7 a0 0).bind fun o7 =>
        (m_140 o7 s1.2 th).bind fun x8 =>
        jn (fun (v9 : Int32) =>
            nx2 (v9, (s1.2 + Int32.ofInt 1))
          ) (fun j10 =>
            if x8 = 0 then
              j10 s1.1
            else
              j10 (s1.1 ||| ((Int32.ofInt 1) <<< (s1.2 &&& 31)))
          )
    ) 4096 ((Int32.ofInt 0), (Int32.ofInt 0)) (fun (x4 : Int32) =>
      some x4
    )
theorem c_49 {a0 : Nat} {th : tH} {x : (Int32)} (h : m_49 a0 th = some x) : ∃ fs, th[a0]? = some (.inr (7, fs)) := gC_of h
theorem S_49 {L : Nat} (d : Nat) (a0 : Nat) (th : tH) : Wx L (fun x => (some (.int x), th)) (d + 5) 49 3 0 [(0, .ref a0)] [] th (m_49 a0 th) := by
  unfold m_49
  refine x_gC ?_
  refine x_P 1 rfl rfl rfl ?_
  refine x_P (lv' := [(1, .int (Int32.ofInt 0)), (0, .ref a0)]) 2 rfl rfl rfl ?_
  refine x_P 3 rfl rfl rfl ?_
  refine x_P (lv' := [(2, .int (Int32.ofInt 0)), (1, .int (Int32.ofInt 0)), (0, .ref a0)]) 4 rfl rfl rfl ?_
  refine x_lv (lv := [(0, .ref a0), (1, .int (Int32.ofInt 0)), (2, .int (Int32.ofInt 0))]) (x_lp 38 (fun s1 => [(0, .ref a0), (1, .int s1.1), (2, .int s1.2)]) (fun s1 => th) (fun x4 => [(1, .int x4)]) (fun x4 => th) (fun s1 nx2 hnx2 ex3 hex3 => ?_) (fun x4 => ?_) 4096 ((Int32.ofInt 0), (Int32.ofInt 0))) ⟨rfl, rfl, rfl, trivial⟩
  · refine x_P 5 rfl rfl rfl ?_
    refine x_P 6 rfl rfl rfl ?_
    refine x_gN rfl (fun o5 ho5 => ?_)
    refine x_gI rfl (fun x6 hx6 => ?_)
    refine x_ic_ge rfl rfl (fun h12 => ?_) (fun h12 => ?_)
    · exact x_lv (hex3 s1.1) ⟨rfl, trivial⟩
    · refine x_P 16 rfl rfl rfl ?_
      refine x_gN rfl (fun o7 ho7 => ?_)
      refine x_P 20 rfl rfl rfl ?_
      refine x_callS rfl rfl rfl rfl rfl rfl ⟨rfl, rfl⟩ (S_140 d o7 s1.2 th) (fun x8 hx8 => ?_)
      refine x_jn 32 (fun v9 => [(0, .ref a0), (1, .int v9), (2, .int s1.2)]) (fun v9 => []) (fun v9 => th) (fun v9 => ?_) (fun j10 hj10 => ?_)
      · refine x_P (lv' := [(2, .int (s1.2 + Int32.ofInt 1)), (0, .ref a0), (1, .int v9)]) 35 rfl rfl rfl ?_
        refine x_P 4 rfl rfl rfl ?_
        exact x_lv (hnx2 (v9, (s1.2 + Int32.ofInt 1))) ⟨rfl, rfl, rfl, trivial⟩
      · refine x_if_eq rfl rfl (fun h11 => ?_) (fun h11 => ?_)
        · exact x_lv (hj10 s1.1) ⟨rfl, rfl, rfl, trivial⟩
        · refine x_P 27 rfl rfl rfl ?_
          refine x_P 28 rfl rfl rfl ?_
          refine x_P 29 rfl rfl rfl ?_
          refine x_P 30 rfl rfl rfl ?_
          refine x_P 31 rfl rfl rfl ?_
          refine x_P (lv' := [(1, .int (s1.1 ||| ((Int32.ofInt 1) <<< (s1.2 &&& 31)))), (0, .ref a0), (2, .int s1.2)]) 32 rfl rfl rfl ?_
          exact x_lv (hj10 (s1.1 ||| ((Int32.ofInt 1) <<< (s1.2 &&& 31)))) ⟨rfl, rfl, rfl, trivial⟩
  · refine x_P 39 rfl rfl rfl ?_
    exact x_retI (x := x4) rfl
-- 50 NineTrees.pointed(I)I
noncomputable def m_50 (a0 : Nat) (a1 : Int32) (th : tH) : Option (Int32 × tH) :=
  (gC th 7 a0).bind fun _ =>
  (gN th 7 a0 0).bind fun o1 =>
  (m_71 o1 a1 th).bind fun x2 =>
  if x2 = 0 then
    (m_59 a0 (Int8.ofInt (-2)).toInt32 th).bind fun q10 =>
    some (q10.1, q10.2)
  else
    (gN th 7 a0 4).bind fun o3 =>
    (gN th 7 a0 0).bind fun o4 =>
    (m_63 a0 th).bind fun q5 =>
    (m_114 o3 o4 q5.1 (Int32.ofInt 3) q5.2).bind fun th6 =>
    (gN th6 7 a0 4).bind fun o7 =>
    (gN th6 0 o7 0).bind fun o8 =>
    (aI th6 o8 a1).bind fun x9 =>
    some (x9, th6)
theorem c_50 {a0 : Nat} {a1 : Int32} {th : tH} {x : (Int32 × tH)} (h : m_50 a0 a1 th = some x) : ∃ fs, th[a0]? = some (.inr (7, fs)) := gC_of h
theorem S_50 {L : Nat} (d : Nat) (a0 : Nat) (a1 : Int32) (th : tH) : Wx L (fun x => (some (.int x.1), x.2)) (d + 5) 50 2 0 [(0, .ref a0), (1, .int a1)] [] th (m_50 a0 a1 th) := by
  unfold m_50
  refine x_gC ?_
  refine x_P 1 rfl rfl rfl ?_
  refine x_gN rfl (fun o1 ho1 => ?_)
  refine x_P 5 rfl rfl rfl ?_
  refine x_callV rfl rfl rfl rfl rfl ⟨rfl, rfl⟩ (fun x h => c_71 h) (S_71 (d + 3) o1 a1 th) (fun x2 hx2 => ?_)
  refine x_if_ne rfl rfl (fun h11 => ?_) (fun h11 => ?_)
  · refine x_P 12 rfl rfl rfl ?_
    refine x_P 14 rfl rfl rfl ?_
    refine x_callV rfl rfl rfl rfl rfl ⟨rfl, rfl⟩ (fun x h => c_59 h) (S_59 (d + 3) a0 (Int8.ofInt (-2)).toInt32 th) (fun q10 hq10 => ?_)
    exact x_retI (x := (q10.1, q10.2)) rfl
  · refine x_P 19 rfl rfl rfl ?_
    refine x_gN rfl (fun o3 ho3 => ?_)
    refine x_P 23 rfl rfl rfl ?_
    refine x_gN rfl (fun o4 ho4 => ?_)
    refine x_P 27 rfl rfl rfl ?_
    refine x_callV rfl rfl rfl rfl rfl ⟨rfl, rfl⟩ (fun x h => c_63 h) (S_63 d a0 th) (fun q5 hq5 => ?_)
    refine x_P 31 rfl rfl rfl ?_
    refine x_callW rfl rfl rfl rfl rfl ⟨rfl, rfl⟩ (fun x h => c_114 h) (S_114 (d + 1) o3 o4 q5.1 (Int32.ofInt 3) q5.2) (fun th6 hth6 => ?_)
    refine x_P 35 rfl rfl rfl ?_
    refine x_gN rfl (fun o7 ho7 => ?_)
    refine x_gN rfl (fun o8 ho8 => ?_)
    refine x_P 42 rfl rfl rfl ?_
    refine x_aI rfl ⟨rfl, rfl⟩ (fun x9 hx9 => ?_)
    exact x_retI (x := (x9, th6)) rfl
-- 86 NineTrees$Garden.countOf(I)I
noncomputable def m_86 (a0 : Nat) (a1 : Int32) (th : tH) : Option (Int32) :=
  (gC th 2 a0).bind fun _ =>
  lp (fun (s1 : Int32 × Int32) nx2 ex3 =>
      (gI th 2 a0 5).bind fun x5 =>
      if x5 ≤ s1.2 then
        ex3 s1.1
      else
        (m_85 a0 s1.2 a1 th).bind fun x6 =>
        jn (fun (v7 : Int32) =>
            nx2 (v7, (s1.2 + Int32.ofInt 1))
          ) (fun j8 =>
            if x6 = 0 then
              j8 s1.1
            else
              j8 (s1.1 + Int32.ofInt 1)
          )
    ) 4096 ((Int32.ofInt 0), (Int32.ofInt 0)) (fun (x4 : Int32) =>
      some x4
    )
theorem c_86 {a0 : Nat} {a1 : Int32} {th : tH} {x : (Int32)} (h : m_86 a0 a1 th = some x) : ∃ fs, th[a0]? = some (.inr (2, fs)) := gC_of h
theorem S_86 {L : Nat} (d : Nat) (a0 : Nat) (a1 : Int32) (th : tH) : Wx L (fun x => (some (.int x), th)) (d + 1) 86 4 0 [(0, .ref a0), (1, .int a1)] [] th (m_86 a0 a1 th) := by
  unfold m_86
  refine x_gC ?_
  refine x_P 1 rfl rfl rfl ?_
  refine x_P (lv' := [(2, .int (Int32.ofInt 0)), (0, .ref a0), (1, .int a1)]) 2 rfl rfl rfl ?_
  refine x_P 3 rfl rfl rfl ?_
  refine x_P (lv' := [(3, .int (Int32.ofInt 0)), (2, .int (Int32.ofInt 0)), (0, .ref a0), (1, .int a1)]) 4 rfl rfl rfl ?_
  refine x_lv (lv := [(0, .ref a0), (1, .int a1), (2, .int (Int32.ofInt 0)), (3, .int (Int32.ofInt 0))]) (x_lp 30 (fun s1 => [(0, .ref a0), (1, .int a1), (2, .int s1.1), (3, .int s1.2)]) (fun s1 => th) (fun x4 => [(2, .int x4)]) (fun x4 => th) (fun s1 nx2 hnx2 ex3 hex3 => ?_) (fun x4 => ?_) 4096 ((Int32.ofInt 0), (Int32.ofInt 0))) ⟨rfl, rfl, rfl, rfl, trivial⟩
  · refine x_P 5 rfl rfl rfl ?_
    refine x_P 6 rfl rfl rfl ?_
    refine x_gI rfl (fun x5 hx5 => ?_)
    refine x_ic_ge rfl rfl (fun h10 => ?_) (fun h10 => ?_)
    · exact x_lv (hex3 s1.1) ⟨rfl, trivial⟩
    · refine x_P 13 rfl rfl rfl ?_
      refine x_P 14 rfl rfl rfl ?_
      refine x_P 15 rfl rfl rfl ?_
      refine x_callV rfl rfl rfl rfl rfl ⟨rfl, rfl⟩ (fun x h => c_85 h) (S_85 d a0 s1.2 a1 th) (fun x6 hx6 => ?_)
      refine x_jn 24 (fun v7 => [(0, .ref a0), (1, .int a1), (2, .int v7), (3, .int s1.2)]) (fun v7 => []) (fun v7 => th) (fun v7 => ?_) (fun j8 hj8 => ?_)
      · refine x_P (lv' := [(3, .int (s1.2 + Int32.ofInt 1)), (0, .ref a0), (1, .int a1), (2, .int v7)]) 27 rfl rfl rfl ?_
        refine x_P 4 rfl rfl rfl ?_
        exact x_lv (hnx2 (v7, (s1.2 + Int32.ofInt 1))) ⟨rfl, rfl, rfl, rfl, trivial⟩
      · refine x_if_eq rfl rfl (fun h9 => ?_) (fun h9 => ?_)
        · exact x_lv (hj8 s1.1) ⟨rfl, rfl, rfl, rfl, trivial⟩
        · refine x_P (lv' := [(2, .int (s1.1 + Int32.ofInt 1)), (0, .ref a0), (1, .int a1), (3, .int s1.2)]) 24 rfl rfl rfl ?_
          exact x_lv (hj8 (s1.1 + Int32.ofInt 1)) ⟨rfl, rfl, rfl, rfl, trivial⟩
  · refine x_P 31 rfl rfl rfl ?_
    exact x_retI (x := x4) rfl
-- 51 NineTrees.turn()I
noncomputable def m_51 (a0 : Nat) (th : tH) : Option (Int32 × tH) :=
  (gC th 7 a0).bind fun _ =>
  lp (fun (s1 : Int32 × tH) nx2 ex3 =>
      (gN s1.2 7 a0 0).bind fun o7 =>
      (gI s1.2 2 o7 5).bind fun x8 =>
      if x8 ≤ s1.1 then
        ex3 s1.2
      else
        (gN s1.2 7 a0 0).bind fun o9 =>
        (gN s1.2 2 o9 1).bind fun o10 =>
        (gN s1.2 7 a0 0).bind fun o11 =>
        (gN s1.2 7 a0 0).bind fun o12 =>
        (gN s1.2 2 o12 1).bind fun o13 =>
        (aI s1.2 o13 s1.1).bind fun x14 =>
        (m_75 o11 x14 s1.2).bind fun x15 =>
        (sI s1.2 o10 s1.1 x15).bind fun th16 =>
        nx2 ((s1.1 + Int32.ofInt 1), th16)
    ) 4096 ((Int32.ofInt 0), th) (fun (x4 : tH) =>
      (gN x4 7 a0 0).bind fun o5 =>
      (m_86 o5 (Int32.ofInt 1) x4).bind fun x6 =>
      some (x6, x4)
    )
theorem c_51 {a0 : Nat} {th : tH} {x : (Int32 × tH)} (h : m_51 a0 th = some x) : ∃ fs, th[a0]? = some (.inr (7, fs)) := gC_of h
theorem S_51 {L : Nat} (d : Nat) (a0 : Nat) (th : tH) : Wx L (fun x => (some (.int x.1), x.2)) (d + 2) 51 2 0 [(0, .ref a0)] [] th (m_51 a0 th) := by
  unfold m_51
  refine x_gC ?_
  refine x_P 1 rfl rfl rfl ?_
  refine x_P (lv' := [(1, .int (Int32.ofInt 0)), (0, .ref a0)]) 2 rfl rfl rfl ?_
  refine x_lv (lv := [(0, .ref a0), (1, .int (Int32.ofInt 0))]) (x_lp 44 (fun s1 => [(0, .ref a0), (1, .int s1.1)]) (fun s1 => s1.2) (fun x4 => [(0, .ref a0)]) (fun x4 => x4) (fun s1 nx2 hnx2 ex3 hex3 => ?_) (fun x4 => ?_) 4096 ((Int32.ofInt 0), th)) ⟨rfl, rfl, trivial⟩
  · refine x_P 3 rfl rfl rfl ?_
    refine x_P 4 rfl rfl rfl ?_
    refine x_gN rfl (fun o7 ho7 => ?_)
    refine x_gI rfl (fun x8 hx8 => ?_)
    refine x_ic_ge rfl rfl (fun h17 => ?_) (fun h17 => ?_)
    · exact x_lv (hex3 s1.2) ⟨rfl, trivial⟩
    · refine x_P 14 rfl rfl rfl ?_
      refine x_gN rfl (fun o9 ho9 => ?_)
      refine x_gN rfl (fun o10 ho10 => ?_)
      refine x_P 21 rfl rfl rfl ?_
      refine x_P 22 rfl rfl rfl ?_
      refine x_gN rfl (fun o11 ho11 => ?_)
      refine x_P 26 rfl rfl rfl ?_
      refine x_gN rfl (fun o12 ho12 => ?_)
      refine x_gN rfl (fun o13 ho13 => ?_)
      refine x_P 33 rfl rfl rfl ?_
      refine x_aI rfl ⟨rfl, rfl⟩ (fun x14 hx14 => ?_)
      refine x_callV rfl rfl rfl rfl rfl ⟨rfl, rfl⟩ (fun x h => c_75 h) (S_75 d o11 x14 s1.2) (fun x15 hx15 => ?_)
      refine x_sI rfl ⟨rfl, rfl⟩ (fun th16 hth16 => ?_)
      refine x_P (lv' := [(1, .int (s1.1 + Int32.ofInt 1)), (0, .ref a0)]) 41 rfl rfl rfl ?_
      refine x_P 2 rfl rfl rfl ?_
      exact x_lv (hnx2 ((s1.1 + Int32.ofInt 1), th16)) ⟨rfl, rfl, trivial⟩
  · refine x_P 45 rfl rfl rfl ?_
    refine x_gN rfl (fun o5 ho5 => ?_)
    refine x_P 49 rfl rfl rfl ?_
    refine x_callV rfl rfl rfl rfl rfl ⟨rfl, rfl⟩ (fun x h => c_86 h) (S_86 d o5 (Int32.ofInt 1) x4) (fun x6 hx6 => ?_)
    exact x_retI (x := (x6, x4)) rfl
-- 52 NineTrees.mirror()I
noncomputable def m_52 (a0 : Nat) (th : tH) : Option (Int32 × tH) :=
  (gC th 7 a0).bind fun _ =>
  lp (fun (s1 : Int32 × tH) nx2 ex3 =>
      (gN s1.2 7 a0 0).bind fun o7 =>
      (gI s1.2 2 o7 5).bind fun x8 =>
      if x8 ≤ s1.1 then
        ex3 s1.2
      else
        (gN s1.2 7 a0 0).bind fun o9 =>
        (gN s1.2 2 o9 1).bind fun o10 =>
        (gN s1.2 7 a0 0).bind fun o11 =>
        (gN s1.2 7 a0 0).bind fun o12 =>
        (gN s1.2 2 o12 1).bind fun o13 =>
        (aI s1.2 o13 s1.1).bind fun x14 =>
        (m_76 o11 x14 s1.2).bind fun x15 =>
        (sI s1.2 o10 s1.1 x15).bind fun th16 =>
        nx2 ((s1.1 + Int32.ofInt 1), th16)
    ) 4096 ((Int32.ofInt 0), th) (fun (x4 : tH) =>
      (gN x4 7 a0 0).bind fun o5 =>
      (m_86 o5 (Int32.ofInt 1) x4).bind fun x6 =>
      some (x6, x4)
    )
theorem c_52 {a0 : Nat} {th : tH} {x : (Int32 × tH)} (h : m_52 a0 th = some x) : ∃ fs, th[a0]? = some (.inr (7, fs)) := gC_of h
theorem S_52 {L : Nat} (d : Nat) (a0 : Nat) (th : tH) : Wx L (fun x => (some (.int x.1), x.2)) (d + 2) 52 2 0 [(0, .ref a0)] [] th (m_52 a0 th) := by
  unfold m_52
  refine x_gC ?_
  refine x_P 1 rfl rfl rfl ?_
  refine x_P (lv' := [(1, .int (Int32.ofInt 0)), (0, .ref a0)]) 2 rfl rfl rfl ?_
  refine x_lv (lv := [(0, .ref a0), (1, .int (Int32.ofInt 0))]) (x_lp 44 (fun s1 => [(0, .ref a0), (1, .int s1.1)]) (fun s1 => s1.2) (fun x4 => [(0, .ref a0)]) (fun x4 => x4) (fun s1 nx2 hnx2 ex3 hex3 => ?_) (fun x4 => ?_) 4096 ((Int32.ofInt 0), th)) ⟨rfl, rfl, trivial⟩
  · refine x_P 3 rfl rfl rfl ?_
    refine x_P 4 rfl rfl rfl ?_
    refine x_gN rfl (fun o7 ho7 => ?_)
    refine x_gI rfl (fun x8 hx8 => ?_)
    refine x_ic_ge rfl rfl (fun h17 => ?_) (fun h17 => ?_)
    · exact x_lv (hex3 s1.2) ⟨rfl, trivial⟩
    · refine x_P 14 rfl rfl rfl ?_
      refine x_gN rfl (fun o9 ho9 => ?_)
      refine x_gN rfl (fun o10 ho10 => ?_)
      refine x_P 21 rfl rfl rfl ?_
      refine x_P 22 rfl rfl rfl ?_
      refine x_gN rfl (fun o11 ho11 => ?_)
      refine x_P 26 rfl rfl rfl ?_
      refine x_gN rfl (fun o12 ho12 => ?_)
      refine x_gN rfl (fun o13 ho13 => ?_)
      refine x_P 33 rfl rfl rfl ?_
      refine x_aI rfl ⟨rfl, rfl⟩ (fun x14 hx14 => ?_)
      refine x_callV rfl rfl rfl rfl rfl ⟨rfl, rfl⟩ (fun x h => c_76 h) (S_76 d o11 x14 s1.2) (fun x15 hx15 => ?_)
      refine x_sI rfl ⟨rfl, rfl⟩ (fun th16 hth16 => ?_)
      refine x_P (lv' := [(1, .int (s1.1 + Int32.ofInt 1)), (0, .ref a0)]) 41 rfl rfl rfl ?_
      refine x_P 2 rfl rfl rfl ?_
      exact x_lv (hnx2 ((s1.1 + Int32.ofInt 1), th16)) ⟨rfl, rfl, trivial⟩
  · refine x_P 45 rfl rfl rfl ?_
    refine x_gN rfl (fun o5 ho5 => ?_)
    refine x_P 49 rfl rfl rfl ?_
    refine x_callV rfl rfl rfl rfl rfl ⟨rfl, rfl⟩ (fun x h => c_86 h) (S_86 d o5 (Int32.ofInt 1) x4) (fun x6 hx6 => ?_)
    exact x_retI (x := (x6, x4)) rfl
-- 53 NineTrees.improve()I
noncomputable def m_53 (a0 : Nat) (th : tH) : Option (Int32 × tH) :=
  (gC th 7 a0).bind fun _ =>
  (m_63 a0 th).bind fun q1 =>
  (m_106 q1.1 q1.2).bind fun x2 =>
  (gN q1.2 7 a0 5).bind fun o3 =>
  (gN q1.2 7 a0 0).bind fun o4 =>
  (gN q1.2 7 a0 3).bind fun o5 =>
  (m_117 o3 o4 o5 q1.2).bind fun th6 =>
  (gN th6 7 a0 5).bind fun o7 =>
  (gI th6 3 o7 2).bind fun x8 =>
  jn (fun (v9 : Unit) =>
      some (x2, th6)
    ) (fun j10 =>
      if x8 = (Int32.ofInt (-1)) then
        j10 ()
      else
        (gN th6 7 a0 5).bind fun o11 =>
        (gI th6 3 o11 4).bind fun x12 =>
        if x2 < x12 then
          (gN th6 7 a0 0).bind fun o13 =>
          (gN th6 2 o13 1).bind fun o14 =>
          (gN th6 7 a0 5).bind fun o15 =>
          (gI th6 3 o15 2).bind fun x16 =>
          (gN th6 7 a0 5).bind fun o17 =>
          (gI th6 3 o17 3).bind fun x18 =>
          (sI th6 o14 x16 x18).bind fun th19 =>
          (gN th19 7 a0 5).bind fun o20 =>
          (gI th19 3 o20 4).bind fun x21 =>
          some (x21, th19)
        else
          j10 ()
    )
theorem c_53 {a0 : Nat} {th : tH} {x : (Int32 × tH)} (h : m_53 a0 th = some x) : ∃ fs, th[a0]? = some (.inr (7, fs)) := gC_of h
theorem S_53 {L : Nat} (d : Nat) (a0 : Nat) (th : tH) : Wx L (fun x => (some (.int x.1), x.2)) (d + 5) 53 2 0 [(0, .ref a0)] [] th (m_53 a0 th) := by
  unfold m_53
  refine x_gC ?_
  refine x_P 1 rfl rfl rfl ?_
  refine x_callV rfl rfl rfl rfl rfl ⟨rfl, rfl⟩ (fun x h => c_63 h) (S_63 d a0 th) (fun q1 hq1 => ?_)
  refine x_callV rfl rfl rfl rfl rfl ⟨rfl, rfl⟩ (fun x h => c_106 h) (S_106 (d + 2) q1.1 q1.2) (fun x2 hx2 => ?_)
  refine x_P (lv' := [(1, .int x2), (0, .ref a0)]) 8 rfl rfl rfl ?_
  refine x_P 9 rfl rfl rfl ?_
  refine x_gN rfl (fun o3 ho3 => ?_)
  refine x_P 13 rfl rfl rfl ?_
  refine x_gN rfl (fun o4 ho4 => ?_)
  refine x_P 17 rfl rfl rfl ?_
  refine x_gN rfl (fun o5 ho5 => ?_)
  refine x_callW rfl rfl rfl rfl rfl ⟨rfl, rfl⟩ (fun x h => c_117 h) (S_117 d o3 o4 o5 q1.2) (fun th6 hth6 => ?_)
  refine x_P 24 rfl rfl rfl ?_
  refine x_gN rfl (fun o7 ho7 => ?_)
  refine x_gI rfl (fun x8 hx8 => ?_)
  refine x_P 31 rfl rfl rfl ?_
  refine x_jn 45 (fun v9 => [(1, .int x2)]) (fun v9 => []) (fun v9 => th6) (fun v9 => ?_) (fun j10 hj10 => ?_)
  · refine x_P 46 rfl rfl rfl ?_
    exact x_retI (x := (x2, th6)) rfl
  · refine x_ic_eq rfl rfl (fun h23 => ?_) (fun h23 => ?_)
    · exact x_lv (hj10 ()) ⟨rfl, trivial⟩
    · refine x_P 35 rfl rfl rfl ?_
      refine x_gN rfl (fun o11 ho11 => ?_)
      refine x_gI rfl (fun x12 hx12 => ?_)
      refine x_P 42 rfl rfl rfl ?_
      refine x_ic_gt rfl rfl (fun h22 => ?_) (fun h22 => ?_)
      · refine x_P 48 rfl rfl rfl ?_
        refine x_gN rfl (fun o13 ho13 => ?_)
        refine x_gN rfl (fun o14 ho14 => ?_)
        refine x_P 55 rfl rfl rfl ?_
        refine x_gN rfl (fun o15 ho15 => ?_)
        refine x_gI rfl (fun x16 hx16 => ?_)
        refine x_P 62 rfl rfl rfl ?_
        refine x_gN rfl (fun o17 ho17 => ?_)
        refine x_gI rfl (fun x18 hx18 => ?_)
        refine x_sI rfl ⟨rfl, rfl⟩ (fun th19 hth19 => ?_)
        refine x_P 70 rfl rfl rfl ?_
        refine x_gN rfl (fun o20 ho20 => ?_)
        refine x_gI rfl (fun x21 hx21 => ?_)
        exact x_retI (x := (x21, th19)) rfl
      · exact x_lv (hj10 ()) ⟨rfl, trivial⟩
-- 88 NineTrees$Garden.hasRoom()Z
noncomputable def m_88 (a0 : Nat) (th : tH) : Option (Int32) :=
  (gC th 2 a0).bind fun _ =>
  (gI th 2 a0 5).bind fun x1 =>
  jn (fun (v2 : Int32) =>
      rB v2
    ) (fun j3 =>
      jn (fun (v4 : Unit) =>
          j3 (Int32.ofInt 0)
        ) (fun j5 =>
          if (Int8.ofInt 12).toInt32 ≤ x1 then
            j5 ()
          else
            (gI th 2 a0 5).bind fun x6 =>
            (m_70 a0 th).bind fun x7 =>
            if x7 ≤ x6 then
              j5 ()
            else
              j3 (Int32.ofInt 1)
        )
    )
theorem c_88 {a0 : Nat} {th : tH} {x : (Int32)} (h : m_88 a0 th = some x) : ∃ fs, th[a0]? = some (.inr (2, fs)) := gC_of h
theorem S_88 {L : Nat} (d : Nat) (a0 : Nat) (th : tH) : Wx L (fun x => (some (.int x), th)) (d + 1) 88 1 0 [(0, .ref a0)] [] th (m_88 a0 th) := by
  unfold m_88
  refine x_gC ?_
  refine x_P 1 rfl rfl rfl ?_
  refine x_gI rfl (fun x1 hx1 => ?_)
  refine x_P 6 rfl rfl rfl ?_
  refine x_jn 25 (fun v2 => []) (fun v2 => [.int v2]) (fun v2 => th) (fun v2 => ?_) (fun j3 hj3 => ?_)
  · exact x_rB rfl
  · refine x_jn 24 (fun v4 => []) (fun v4 => []) (fun v4 => th) (fun v4 => ?_) (fun j5 hj5 => ?_)
    · refine x_P 25 rfl rfl rfl ?_
      exact x_lv (hj3 (Int32.ofInt 0)) trivial
    · refine x_ic_ge rfl rfl (fun h9 => ?_) (fun h9 => ?_)
      · exact x_lv (hj5 ()) trivial
      · refine x_P 10 rfl rfl rfl ?_
        refine x_gI rfl (fun x6 hx6 => ?_)
        refine x_P 14 rfl rfl rfl ?_
        refine x_callV rfl rfl rfl rfl rfl ⟨rfl, rfl⟩ (fun x h => c_70 h) (S_70 d a0 th) (fun x7 hx7 => ?_)
        refine x_ic_ge rfl rfl (fun h8 => ?_) (fun h8 => ?_)
        · exact x_lv (hj5 ()) trivial
        · refine x_P 21 rfl rfl rfl ?_
          refine x_P 25 rfl rfl rfl ?_
          exact x_lv (hj3 (Int32.ofInt 1)) trivial
-- 99 NineTrees$Garden.drawBelow(I)I
noncomputable def m_99 (a0 : Nat) (a1 : Int32) (th : tH) : Option (Int32 × tH) :=
  (gC th 2 a0).bind fun _ =>
  (gI th 2 a0 7).bind fun x1 =>
  (pI th 2 a0 7 ((x1 * (Int32.ofNat 1103515245)) + (Int16.ofInt 12345).toInt32)).bind fun th2 =>
  jn (fun (v3 : Int32) =>
      some (v3, th2)
    ) (fun j4 =>
      if (Int32.ofInt 1) ≤ a1 then
        (gI th2 2 a0 7).bind fun x5 =>
        (rmI (Int32.toUInt32 x5 >>> (Int32.toUInt32 (Int8.ofInt 16).toInt32 &&& Int32.toUInt32 31)).toInt32 a1).bind fun x6 =>
        j4 x6
      else
        j4 (Int32.ofInt 0)
    )
theorem c_99 {a0 : Nat} {a1 : Int32} {th : tH} {x : (Int32 × tH)} (h : m_99 a0 a1 th = some x) : ∃ fs, th[a0]? = some (.inr (2, fs)) := gC_of h
theorem S_99 {L : Nat} (d : Nat) (a0 : Nat) (a1 : Int32) (th : tH) : Wx L (fun x => (some (.int x.1), x.2)) (d + 1) 99 2 0 [(0, .ref a0), (1, .int a1)] [] th (m_99 a0 a1 th) := by
  unfold m_99
  refine x_gC ?_
  refine x_P 1 rfl rfl rfl ?_
  refine x_P 2 rfl rfl rfl ?_
  refine x_gI rfl (fun x1 hx1 => ?_)
  refine x_P 7 rfl rfl rfl ?_
  refine x_P 8 rfl rfl rfl ?_
  refine x_P 11 rfl rfl rfl ?_
  refine x_P 12 rfl rfl rfl ?_
  refine x_pI rfl (fun th2 hth2 => ?_)
  refine x_P 16 rfl rfl rfl ?_
  refine x_P 17 rfl rfl rfl ?_
  refine x_jn 33 (fun v3 => []) (fun v3 => [.int v3]) (fun v3 => th2) (fun v3 => ?_) (fun j4 hj4 => ?_)
  · exact x_retI (x := (v3, th2)) rfl
  · refine x_ic_ge rfl rfl (fun h7 => ?_) (fun h7 => ?_)
    · refine x_P 25 rfl rfl rfl ?_
      refine x_gI rfl (fun x5 hx5 => ?_)
      refine x_P 30 rfl rfl rfl ?_
      refine x_P 31 rfl rfl rfl ?_
      refine x_P 32 rfl rfl rfl ?_
      refine x_rm rfl rfl (fun x6 hx6 => ?_)
      exact x_lv (hj4 x6) trivial
    · refine x_P 21 rfl rfl rfl ?_
      refine x_P 33 rfl rfl rfl ?_
      exact x_lv (hj4 (Int32.ofInt 0)) trivial
-- 100 NineTrees$Garden.nextFree(I)I
noncomputable def m_100 (a0 : Nat) (a1 : Int32) (th : tH) : Option (Int32) :=
  (gC th 2 a0).bind fun _ =>
  lp (fun (s1 : Int32 × Int32) nx2 ex3 =>
      (m_70 a0 th).bind fun x5 =>
      if x5 ≤ s1.2 then
        ex3 s1.1
      else
        (m_84 a0 s1.1 th).bind fun x6 =>
        if x6 = 0 then
          (m_70 a0 th).bind fun x7 =>
          jn (fun (v8 : Int32) =>
              nx2 (v8, (s1.2 + Int32.ofInt 1))
            ) (fun j9 =>
              if x7 ≤ (s1.1 + (Int32.ofInt 1)) then
                j9 (Int32.ofInt 0)
              else
                j9 (s1.1 + (Int32.ofInt 1))
            )
        else
          ex3 s1.1
    ) 4096 (a1, (Int32.ofInt 0)) (fun (x4 : Int32) =>
      some x4
    )
theorem c_100 {a0 : Nat} {a1 : Int32} {th : tH} {x : (Int32)} (h : m_100 a0 a1 th = some x) : ∃ fs, th[a0]? = some (.inr (2, fs)) := gC_of h
theorem S_100 {L : Nat} (d : Nat) (a0 : Nat) (a1 : Int32) (th : tH) : Wx L (fun x => (some (.int x), th)) (d + 2) 100 4 0 [(0, .ref a0), (1, .int a1)] [] th (m_100 a0 a1 th) := by
  unfold m_100
  refine x_gC ?_
  refine x_P 1 rfl rfl rfl ?_
  refine x_P (lv' := [(2, .int a1), (0, .ref a0), (1, .int a1)]) 2 rfl rfl rfl ?_
  refine x_P 3 rfl rfl rfl ?_
  refine x_P (lv' := [(3, .int (Int32.ofInt 0)), (2, .int a1), (0, .ref a0), (1, .int a1)]) 4 rfl rfl rfl ?_
  refine x_lv (lv := [(0, .ref a0), (2, .int a1), (3, .int (Int32.ofInt 0))]) (x_lp 44 (fun s1 => [(0, .ref a0), (2, .int s1.1), (3, .int s1.2)]) (fun s1 => th) (fun x4 => [(2, .int x4)]) (fun x4 => th) (fun s1 nx2 hnx2 ex3 hex3 => ?_) (fun x4 => ?_) 4096 (a1, (Int32.ofInt 0))) ⟨rfl, rfl, rfl, trivial⟩
  · refine x_P 5 rfl rfl rfl ?_
    refine x_P 6 rfl rfl rfl ?_
    refine x_callV rfl rfl rfl rfl rfl ⟨rfl, rfl⟩ (fun x h => c_70 h) (S_70 (d + 1) a0 th) (fun x5 hx5 => ?_)
    refine x_ic_ge rfl rfl (fun h12 => ?_) (fun h12 => ?_)
    · exact x_lv (hex3 s1.1) ⟨rfl, trivial⟩
    · refine x_P 13 rfl rfl rfl ?_
      refine x_P 14 rfl rfl rfl ?_
      refine x_callV rfl rfl rfl rfl rfl ⟨rfl, rfl⟩ (fun x h => c_84 h) (S_84 d a0 s1.1 th) (fun x6 hx6 => ?_)
      refine x_if_ne rfl rfl (fun h11 => ?_) (fun h11 => ?_)
      · refine x_P 21 rfl rfl rfl ?_
        refine x_P 22 rfl rfl rfl ?_
        refine x_P 23 rfl rfl rfl ?_
        refine x_P 24 rfl rfl rfl ?_
        refine x_callV rfl rfl rfl rfl rfl ⟨rfl, rfl⟩ (fun x h => c_70 h) (S_70 (d + 1) a0 th) (fun x7 hx7 => ?_)
        refine x_jn 37 (fun v8 => [(0, .ref a0), (3, .int s1.2)]) (fun v8 => [.int v8]) (fun v8 => th) (fun v8 => ?_) (fun j9 hj9 => ?_)
        · refine x_P (lv' := [(2, .int v8), (0, .ref a0), (3, .int s1.2)]) 38 rfl rfl rfl ?_
          refine x_P (lv' := [(3, .int (s1.2 + Int32.ofInt 1)), (2, .int v8), (0, .ref a0)]) 41 rfl rfl rfl ?_
          refine x_P 4 rfl rfl rfl ?_
          exact x_lv (hnx2 (v8, (s1.2 + Int32.ofInt 1))) ⟨rfl, rfl, rfl, trivial⟩
        · refine x_ic_ge rfl rfl (fun h10 => ?_) (fun h10 => ?_)
          · refine x_P 37 rfl rfl rfl ?_
            exact x_lv (hj9 (Int32.ofInt 0)) ⟨rfl, rfl, trivial⟩
          · refine x_P 31 rfl rfl rfl ?_
            refine x_P 32 rfl rfl rfl ?_
            refine x_P 33 rfl rfl rfl ?_
            refine x_P 37 rfl rfl rfl ?_
            exact x_lv (hj9 (s1.1 + (Int32.ofInt 1))) ⟨rfl, rfl, trivial⟩
      · exact x_lv (hex3 s1.1) ⟨rfl, trivial⟩
  · refine x_P 45 rfl rfl rfl ?_
    exact x_retI (x := x4) rfl
-- 101 NineTrees$Garden.addByDraws()V
noncomputable def m_101 (a0 : Nat) (th : tH) : Option tH :=
  (gC th 2 a0).bind fun _ =>
  (m_99 a0 (Int8.ofInt 6).toInt32 th).bind fun q1 =>
  (m_70 a0 q1.2).bind fun x2 =>
  (m_99 a0 x2 q1.2).bind fun q3 =>
  (m_100 a0 q3.1 q3.2).bind fun x4 =>
  (m_99 a0 (Int8.ofInt 10).toInt32 q3.2).bind fun q5 =>
  (m_89 a0 q1.1 x4 q5.1 q5.2).bind fun th6 =>
  some th6
theorem c_101 {a0 : Nat} {th : tH} {x : tH} (h : m_101 a0 th = some x) : ∃ fs, th[a0]? = some (.inr (2, fs)) := gC_of h
theorem S_101 {L : Nat} (d : Nat) (a0 : Nat) (th : tH) : Wx L (fun x => (none, x)) (d + 3) 101 3 0 [(0, .ref a0)] [] th (m_101 a0 th) := by
  unfold m_101
  refine x_gC ?_
  refine x_P 1 rfl rfl rfl ?_
  refine x_P 3 rfl rfl rfl ?_
  refine x_callV rfl rfl rfl rfl rfl ⟨rfl, rfl⟩ (fun x h => c_99 h) (S_99 (d + 1) a0 (Int8.ofInt 6).toInt32 th) (fun q1 hq1 => ?_)
  refine x_P (lv' := [(1, .int q1.1), (0, .ref a0)]) 7 rfl rfl rfl ?_
  refine x_P 8 rfl rfl rfl ?_
  refine x_P 9 rfl rfl rfl ?_
  refine x_P 10 rfl rfl rfl ?_
  refine x_callV rfl rfl rfl rfl rfl ⟨rfl, rfl⟩ (fun x h => c_70 h) (S_70 (d + 2) a0 q1.2) (fun x2 hx2 => ?_)
  refine x_callV rfl rfl rfl rfl rfl ⟨rfl, rfl⟩ (fun x h => c_99 h) (S_99 (d + 1) a0 x2 q1.2) (fun q3 hq3 => ?_)
  refine x_callV rfl rfl rfl rfl rfl ⟨rfl, rfl⟩ (fun x h => c_100 h) (S_100 d a0 q3.1 q3.2) (fun x4 hx4 => ?_)
  refine x_P (lv' := [(2, .int x4), (1, .int q1.1), (0, .ref a0)]) 20 rfl rfl rfl ?_
  refine x_P 21 rfl rfl rfl ?_
  refine x_P 22 rfl rfl rfl ?_
  refine x_P 23 rfl rfl rfl ?_
  refine x_P 24 rfl rfl rfl ?_
  refine x_P 26 rfl rfl rfl ?_
  refine x_callV rfl rfl rfl rfl rfl ⟨rfl, rfl⟩ (fun x h => c_99 h) (S_99 (d + 1) a0 (Int8.ofInt 10).toInt32 q3.2) (fun q5 hq5 => ?_)
  refine x_callW rfl rfl rfl rfl rfl ⟨rfl, rfl⟩ (fun x h => c_89 h) (S_89 (d + 1) a0 q1.1 x4 q5.1 q5.2) (fun th6 hth6 => ?_)
  exact x_retV (x := th6) rfl
-- 54 NineTrees.plant(I)I
noncomputable def m_54 (a0 : Nat) (a1 : Int32) (th : tH) : Option (Int32 × tH) :=
  (gC th 7 a0).bind fun _ =>
  jn (fun (v1 : Unit) =>
      (m_59 a0 (Int8.ofInt (-2)).toInt32 th).bind fun q3 =>
      some (q3.1, q3.2)
    ) (fun j2 =>
      if a1 < (Int32.ofInt 1) then
        j2 ()
      else
        if a1 ≤ (Int8.ofInt 12).toInt32 then
          lp (fun (s4 : Int32 × tH) nx5 ex6 =>
              if a1 ≤ s4.1 then
                ex6 (s4.1, s4.2)
              else
                (gN s4.2 7 a0 0).bind fun o8 =>
                (m_88 o8 s4.2).bind fun x9 =>
                if x9 = 0 then
                  ex6 (s4.1, s4.2)
                else
                  (gN s4.2 7 a0 0).bind fun o10 =>
                  (m_101 o10 s4.2).bind fun th11 =>
                  nx5 ((s4.1 + Int32.ofInt 1), th11)
            ) 4096 ((Int32.ofInt 0), th) (fun (x7 : Int32 × tH) =>
              some (x7.1, x7.2)
            )
        else
          j2 ()
    )
theorem c_54 {a0 : Nat} {a1 : Int32} {th : tH} {x : (Int32 × tH)} (h : m_54 a0 a1 th = some x) : ∃ fs, th[a0]? = some (.inr (7, fs)) := gC_of h
theorem S_54 {L : Nat} (d : Nat) (a0 : Nat) (a1 : Int32) (th : tH) : Wx L (fun x => (some (.int x.1), x.2)) (d + 4) 54 3 0 [(0, .ref a0), (1, .int a1)] [] th (m_54 a0 a1 th) := by
  unfold m_54
  refine x_gC ?_
  refine x_P 1 rfl rfl rfl ?_
  refine x_P 2 rfl rfl rfl ?_
  refine x_jn 11 (fun v1 => [(0, .ref a0)]) (fun v1 => []) (fun v1 => th) (fun v1 => ?_) (fun j2 hj2 => ?_)
  · refine x_P 12 rfl rfl rfl ?_
    refine x_P 14 rfl rfl rfl ?_
    refine x_callV rfl rfl rfl rfl rfl ⟨rfl, rfl⟩ (fun x h => c_59 h) (S_59 (d + 2) a0 (Int8.ofInt (-2)).toInt32 th) (fun q3 hq3 => ?_)
    exact x_retI (x := (q3.1, q3.2)) rfl
  · refine x_ic_lt rfl rfl (fun h15 => ?_) (fun h15 => ?_)
    · exact x_lv (hj2 ()) ⟨rfl, trivial⟩
    · refine x_P 6 rfl rfl rfl ?_
      refine x_P 8 rfl rfl rfl ?_
      refine x_ic_le rfl rfl (fun h14 => ?_) (fun h14 => ?_)
      · refine x_P 19 rfl rfl rfl ?_
        refine x_P (lv' := [(2, .int (Int32.ofInt 0)), (0, .ref a0), (1, .int a1)]) 20 rfl rfl rfl ?_
        refine x_lv (lv := [(0, .ref a0), (1, .int a1), (2, .int (Int32.ofInt 0))]) (x_lp 48 (fun s4 => [(0, .ref a0), (1, .int a1), (2, .int s4.1)]) (fun s4 => s4.2) (fun x7 => [(2, .int x7.1)]) (fun x7 => x7.2) (fun s4 nx5 hnx5 ex6 hex6 => ?_) (fun x7 => ?_) 4096 ((Int32.ofInt 0), th)) ⟨rfl, rfl, rfl, trivial⟩
        · refine x_P 21 rfl rfl rfl ?_
          refine x_P 22 rfl rfl rfl ?_
          refine x_ic_ge rfl rfl (fun h13 => ?_) (fun h13 => ?_)
          · exact x_lv (hex6 (s4.1, s4.2)) ⟨rfl, trivial⟩
          · refine x_P 26 rfl rfl rfl ?_
            refine x_gN rfl (fun o8 ho8 => ?_)
            refine x_callV rfl rfl rfl rfl rfl ⟨rfl, rfl⟩ (fun x h => c_88 h) (S_88 (d + 2) o8 s4.2) (fun x9 hx9 => ?_)
            refine x_if_eq rfl rfl (fun h12 => ?_) (fun h12 => ?_)
            · exact x_lv (hex6 (s4.1, s4.2)) ⟨rfl, trivial⟩
            · refine x_P 36 rfl rfl rfl ?_
              refine x_gN rfl (fun o10 ho10 => ?_)
              refine x_callW rfl rfl rfl rfl rfl ⟨rfl, rfl⟩ (fun x h => c_101 h) (S_101 d o10 s4.2) (fun th11 hth11 => ?_)
              refine x_P (lv' := [(2, .int (s4.1 + Int32.ofInt 1)), (0, .ref a0), (1, .int a1)]) 45 rfl rfl rfl ?_
              refine x_P 20 rfl rfl rfl ?_
              exact x_lv (hnx5 ((s4.1 + Int32.ofInt 1), th11)) ⟨rfl, rfl, rfl, trivial⟩
        · refine x_P 49 rfl rfl rfl ?_
          exact x_retI (x := (x7.1, x7.2)) rfl
      · exact x_lv (hj2 ()) ⟨rfl, trivial⟩
-- 55 NineTrees.seed(I)I
noncomputable def m_55 (a0 : Nat) (a1 : Int32) (th : tH) : Option (Int32 × tH) :=
  (gC th 7 a0).bind fun _ =>
  (gN th 7 a0 0).bind fun o1 =>
  (gI th 2 o1 7).bind fun x2 =>
  (gN th 7 a0 0).bind fun o3 =>
  (pI th 2 o3 7 a1).bind fun th4 =>
  some (x2, th4)
theorem c_55 {a0 : Nat} {a1 : Int32} {th : tH} {x : (Int32 × tH)} (h : m_55 a0 a1 th = some x) : ∃ fs, th[a0]? = some (.inr (7, fs)) := gC_of h
theorem S_55 {L : Nat} (d : Nat) (a0 : Nat) (a1 : Int32) (th : tH) : Wx L (fun x => (some (.int x.1), x.2)) (d + 1) 55 3 0 [(0, .ref a0), (1, .int a1)] [] th (m_55 a0 a1 th) := by
  unfold m_55
  refine x_gC ?_
  refine x_P 1 rfl rfl rfl ?_
  refine x_gN rfl (fun o1 ho1 => ?_)
  refine x_gI rfl (fun x2 hx2 => ?_)
  refine x_P (lv' := [(2, .int x2), (0, .ref a0), (1, .int a1)]) 8 rfl rfl rfl ?_
  refine x_P 9 rfl rfl rfl ?_
  refine x_gN rfl (fun o3 ho3 => ?_)
  refine x_P 13 rfl rfl rfl ?_
  refine x_pI rfl (fun th4 hth4 => ?_)
  refine x_P 17 rfl rfl rfl ?_
  exact x_retI (x := (x2, th4)) rfl
-- 56 NineTrees.image()I
noncomputable def m_56 (a0 : Nat) (th : tH) : Option (Int32 × tH) :=
  (gC th 7 a0).bind fun _ =>
  (gN th 7 a0 2).bind fun o1 =>
  (gN th 7 a0 0).bind fun o2 =>
  (m_69 o1 o2 th).bind fun th3 =>
  (pB th3 7 a0 10 (Int32.ofInt 1)).bind fun th4 =>
  some ((Int32.ofInt 1), th4)
theorem c_56 {a0 : Nat} {th : tH} {x : (Int32 × tH)} (h : m_56 a0 th = some x) : ∃ fs, th[a0]? = some (.inr (7, fs)) := gC_of h
theorem S_56 {L : Nat} (d : Nat) (a0 : Nat) (th : tH) : Wx L (fun x => (some (.int x.1), x.2)) (d + 2) 56 1 0 [(0, .ref a0)] [] th (m_56 a0 th) := by
  unfold m_56
  refine x_gC ?_
  refine x_P 1 rfl rfl rfl ?_
  refine x_gN rfl (fun o1 ho1 => ?_)
  refine x_P 5 rfl rfl rfl ?_
  refine x_gN rfl (fun o2 ho2 => ?_)
  refine x_callW rfl rfl rfl rfl rfl ⟨rfl, rfl⟩ (fun x h => c_69 h) (S_69 d o1 o2 th) (fun th3 hth3 => ?_)
  refine x_P 12 rfl rfl rfl ?_
  refine x_P 13 rfl rfl rfl ?_
  refine x_pB rfl (fun th4 hth4 => ?_)
  refine x_P 17 rfl rfl rfl ?_
  exact x_retI (x := ((Int32.ofInt 1), th4)) rfl
-- 57 NineTrees.back()I
noncomputable def m_57 (a0 : Nat) (th : tH) : Option (Int32 × tH) :=
  (gC th 7 a0).bind fun _ =>
  (gI th 7 a0 10).bind fun x1 =>
  if x1 = 0 then
    (m_59 a0 (Int8.ofInt (-5)).toInt32 th).bind fun q8 =>
    some (q8.1, q8.2)
  else
    (gN th 7 a0 0).bind fun o2 =>
    (gN th 7 a0 2).bind fun o3 =>
    (m_69 o2 o3 th).bind fun th4 =>
    (gN th4 7 a0 0).bind fun o5 =>
    (gI th4 2 o5 5).bind fun x6 =>
    (m_62 a0 x6 th4).bind fun th7 =>
    some ((Int32.ofInt 1), th7)
theorem c_57 {a0 : Nat} {th : tH} {x : (Int32 × tH)} (h : m_57 a0 th = some x) : ∃ fs, th[a0]? = some (.inr (7, fs)) := gC_of h
theorem S_57 {L : Nat} (d : Nat) (a0 : Nat) (th : tH) : Wx L (fun x => (some (.int x.1), x.2)) (d + 3) 57 1 0 [(0, .ref a0)] [] th (m_57 a0 th) := by
  unfold m_57
  refine x_gC ?_
  refine x_P 1 rfl rfl rfl ?_
  refine x_gI rfl (fun x1 hx1 => ?_)
  refine x_if_ne rfl rfl (fun h9 => ?_) (fun h9 => ?_)
  · refine x_P 8 rfl rfl rfl ?_
    refine x_P 10 rfl rfl rfl ?_
    refine x_callV rfl rfl rfl rfl rfl ⟨rfl, rfl⟩ (fun x h => c_59 h) (S_59 (d + 1) a0 (Int8.ofInt (-5)).toInt32 th) (fun q8 hq8 => ?_)
    exact x_retI (x := (q8.1, q8.2)) rfl
  · refine x_P 15 rfl rfl rfl ?_
    refine x_gN rfl (fun o2 ho2 => ?_)
    refine x_P 19 rfl rfl rfl ?_
    refine x_gN rfl (fun o3 ho3 => ?_)
    refine x_callW rfl rfl rfl rfl rfl ⟨rfl, rfl⟩ (fun x h => c_69 h) (S_69 (d + 1) o2 o3 th) (fun th4 hth4 => ?_)
    refine x_P 26 rfl rfl rfl ?_
    refine x_P 27 rfl rfl rfl ?_
    refine x_gN rfl (fun o5 ho5 => ?_)
    refine x_gI rfl (fun x6 hx6 => ?_)
    refine x_callW rfl rfl rfl rfl rfl ⟨rfl, rfl⟩ (fun x h => c_62 h) (S_62 d a0 x6 th4) (fun th7 hth7 => ?_)
    refine x_P 37 rfl rfl rfl ?_
    exact x_retI (x := ((Int32.ofInt 1), th7)) rfl
-- 61 NineTrees.fullShelves()I
noncomputable def m_61 (a0 : Nat) (th : tH) : Option (Int32) :=
  (gC th 7 a0).bind fun _ =>
  lp (fun (s1 : Int32 × Int32) nx2 ex3 =>
      (gN th 7 a0 8).bind fun o5 =>
      (aL th o5).bind fun x6 =>
      if x6 ≤ s1.2 then
        ex3 s1.1
      else
        (m_60 a0 s1.2 th).bind fun r7 =>
        jn (fun (v8 : Int32) =>
            nx2 (v8, (s1.2 + Int32.ofInt 1))
          ) (fun j9 =>
            match r7 with
            | none =>
              j9 s1.1
            | some o10 =>
              (m_150 o10 th).bind fun x11 =>
              jn (fun (v12 : Unit) =>
                  j9 (s1.1 + Int32.ofInt 1)
                ) (fun j13 =>
                  if x11 = 0 then
                    (m_151 o10 th).bind fun x14 =>
                    if x14 = 0 then
                      j9 s1.1
                    else
                      j13 ()
                  else
                    j13 ()
                )
          )
    ) 4096 ((Int32.ofInt 0), (Int32.ofInt 0)) (fun (x4 : Int32) =>
      some x4
    )
theorem c_61 {a0 : Nat} {th : tH} {x : (Int32)} (h : m_61 a0 th = some x) : ∃ fs, th[a0]? = some (.inr (7, fs)) := gC_of h
theorem S_61 {L : Nat} (d : Nat) (a0 : Nat) (th : tH) : Wx L (fun x => (some (.int x), th)) (d + 1) 61 4 0 [(0, .ref a0)] [] th (m_61 a0 th) := by
  unfold m_61
  refine x_gC ?_
  refine x_P 1 rfl rfl rfl ?_
  refine x_P (lv' := [(1, .int (Int32.ofInt 0)), (0, .ref a0)]) 2 rfl rfl rfl ?_
  refine x_P 3 rfl rfl rfl ?_
  refine x_P (lv' := [(2, .int (Int32.ofInt 0)), (1, .int (Int32.ofInt 0)), (0, .ref a0)]) 4 rfl rfl rfl ?_
  refine x_lv (lv := [(0, .ref a0), (1, .int (Int32.ofInt 0)), (2, .int (Int32.ofInt 0))]) (x_lp 46 (fun s1 => [(0, .ref a0), (1, .int s1.1), (2, .int s1.2)]) (fun s1 => th) (fun x4 => [(1, .int x4)]) (fun x4 => th) (fun s1 nx2 hnx2 ex3 hex3 => ?_) (fun x4 => ?_) 4096 ((Int32.ofInt 0), (Int32.ofInt 0))) ⟨rfl, rfl, rfl, trivial⟩
  · refine x_P 5 rfl rfl rfl ?_
    refine x_P 6 rfl rfl rfl ?_
    refine x_gN rfl (fun o5 ho5 => ?_)
    refine x_aL rfl ⟨rfl, rfl⟩ (fun x6 hx6 => ?_)
    refine x_ic_ge rfl rfl (fun h17 => ?_) (fun h17 => ?_)
    · exact x_lv (hex3 s1.1) ⟨rfl, trivial⟩
    · refine x_P 14 rfl rfl rfl ?_
      refine x_P 15 rfl rfl rfl ?_
      refine x_callV rfl rfl rfl rfl rfl ⟨rfl, rfl⟩ (fun x h => c_60 h) (S_60 d a0 s1.2 th) (fun r7 hr7 => ?_)
      refine x_P (lv' := [(3, va_rf r7), (0, .ref a0), (1, .int s1.1), (2, .int s1.2)]) (st' := []) 19 rfl rfl (by rcases r7 with _ | _ <;> rfl) ?_
      refine x_P 20 rfl rfl (t_P_ald_n rfl) ?_
      refine x_jn 40 (fun v8 => [(0, .ref a0), (1, .int v8), (2, .int s1.2)]) (fun v8 => []) (fun v8 => th) (fun v8 => ?_) (fun j9 hj9 => ?_)
      · refine x_P (lv' := [(2, .int (s1.2 + Int32.ofInt 1)), (0, .ref a0), (1, .int v8)]) 43 rfl rfl rfl ?_
        refine x_P 4 rfl rfl rfl ?_
        exact x_lv (hnx2 (v8, (s1.2 + Int32.ofInt 1))) ⟨rfl, rfl, rfl, trivial⟩
      · rcases r7 with _ | o10
        · refine x_P 40 rfl rfl rfl ?_
          exact x_lv (hj9 s1.1) ⟨rfl, rfl, rfl, trivial⟩
        · refine x_P 23 rfl rfl rfl ?_
          refine x_P 24 rfl rfl rfl ?_
          refine x_callV rfl rfl rfl rfl rfl ⟨rfl, rfl⟩ (fun x h => c_150 h) (S_150 d o10 th) (fun x11 hx11 => ?_)
          refine x_jn 37 (fun v12 => [(0, .ref a0), (1, .int s1.1), (2, .int s1.2)]) (fun v12 => []) (fun v12 => th) (fun v12 => ?_) (fun j13 hj13 => ?_)
          · refine x_P (lv' := [(1, .int (s1.1 + Int32.ofInt 1)), (0, .ref a0), (2, .int s1.2)]) 40 rfl rfl rfl ?_
            exact x_lv (hj9 (s1.1 + Int32.ofInt 1)) ⟨rfl, rfl, rfl, trivial⟩
          · refine x_if_ne rfl rfl (fun h16 => ?_) (fun h16 => ?_)
            · refine x_P 31 rfl rfl rfl ?_
              refine x_callV rfl rfl rfl rfl rfl ⟨rfl, rfl⟩ (fun x h => c_151 h) (S_151 d o10 th) (fun x14 hx14 => ?_)
              refine x_if_eq rfl rfl (fun h15 => ?_) (fun h15 => ?_)
              · exact x_lv (hj9 s1.1) ⟨rfl, rfl, rfl, trivial⟩
              · exact x_lv (hj13 ()) ⟨rfl, rfl, rfl, trivial⟩
            · exact x_lv (hj13 ()) ⟨rfl, rfl, rfl, trivial⟩
  · refine x_P 47 rfl rfl rfl ?_
    exact x_retI (x := x4) rfl
