/-! ===== programs ===== -/
-- 120 NineTrees$Moves.weighThrees(LNineTrees$Garden;LNineTrees$RowList;I)V
noncomputable def m_120 (a0 : Nat) (a1 : Nat) (a2 : Nat) (a3 : Int32) (th : tH) : Option tH :=
  (gC th 3 a0).bind fun _ =>
  (pI th 3 a0 1 (Int32.ofInt 0)).bind fun th1 =>
  (gN th1 3 a0 0).bind fun o2 =>
  (m_113 o2 th1).bind fun th3 =>
  lp (fun (s4 : Int32 × tH) nx5 ex6 =>
      (gI s4.2 4 a2 1).bind fun x8 =>
      if x8 ≤ s4.1 then
        ex6 s4.2
      else
        (gN s4.2 4 a2 0).bind fun o9 =>
        (aI s4.2 o9 s4.1).bind fun x10 =>
        (m_173 (x10 &&& (((Int32.ofInt 1) <<< (a3 &&& 31)) ^^^ (Int32.ofInt (-1)))) s4.2).bind fun x11 =>
        jn (fun (v12 : tH) =>
            nx5 ((s4.1 + Int32.ofInt 1), v12)
          ) (fun j13 =>
            if x11 < (Int32.ofInt 3) then
              if x11 = (Int32.ofInt 2) then
                (m_85 a1 a3 (Int32.ofInt 4) s4.2).bind fun x14 =>
                if x14 = 0 then
                  (gN s4.2 3 a0 0).bind fun o15 =>
                  (m_115 o15 a1 (x10 &&& (((Int32.ofInt 1) <<< (a3 &&& 31)) ^^^ (Int32.ofInt (-1)))) s4.2).bind fun th16 =>
                  j13 th16
                else
                  j13 s4.2
              else
                j13 s4.2
            else
              (gI s4.2 3 a0 1).bind fun x19 =>
              (pI s4.2 3 a0 1 (x19 + (Int32.ofInt 1))).bind fun th20 =>
              j13 th20
          )
    ) 4096 ((Int32.ofInt 0), th3) (fun (x7 : tH) =>
      some x7
    )
theorem c_120 {a0 : Nat} {a1 : Nat} {a2 : Nat} {a3 : Int32} {th : tH} {x : tH} (h : m_120 a0 a1 a2 a3 th = some x) : ∃ fs, th[a0]? = some (.inr (3, fs)) := gC_of h
theorem S_120 {L : Nat} (d : Nat) (a0 : Nat) (a1 : Nat) (a2 : Nat) (a3 : Int32) (th : tH) : Wx L (fun x => (none, x)) (d + 3) 120 7 0 [(0, .ref a0), (1, .ref a1), (2, .ref a2), (3, .int a3)] [] th (m_120 a0 a1 a2 a3 th) := by
  unfold m_120
  refine x_gC ?_
  refine x_P 1 rfl rfl rfl ?_
  refine x_P 2 rfl rfl rfl ?_
  refine x_pI rfl (fun th1 hth1 => ?_)
  refine x_P 6 rfl rfl rfl ?_
  refine x_gN rfl (fun o2 ho2 => ?_)
  refine x_callW rfl rfl rfl rfl rfl ⟨rfl, rfl⟩ (fun x h => c_113 h) (S_113 (d + 1) o2 th1) (fun th3 hth3 => ?_)
  refine x_P 13 rfl rfl rfl ?_
  refine x_P (lv' := [(4, .int (Int32.ofInt 0)), (0, .ref a0), (1, .ref a1), (2, .ref a2), (3, .int a3)]) 15 rfl rfl rfl ?_
  refine x_lv (lv := [(0, .ref a0), (1, .ref a1), (2, .ref a2), (3, .int a3), (4, .int (Int32.ofInt 0))]) (x_lp 96 (fun s4 => [(0, .ref a0), (1, .ref a1), (2, .ref a2), (3, .int a3), (4, .int s4.1)]) (fun s4 => s4.2) (fun x7 => []) (fun x7 => x7) (fun s4 nx5 hnx5 ex6 hex6 => ?_) (fun x7 => ?_) 4096 ((Int32.ofInt 0), th3)) ⟨rfl, rfl, rfl, rfl, rfl, trivial⟩
  · refine x_P 17 rfl rfl rfl ?_
    refine x_P 18 rfl rfl rfl ?_
    refine x_gI rfl (fun x8 hx8 => ?_)
    refine x_ic_ge rfl rfl (fun h22 => ?_) (fun h22 => ?_)
    · exact x_lv (hex6 s4.2) trivial
    · refine x_P 25 rfl rfl rfl ?_
      refine x_gN rfl (fun o9 ho9 => ?_)
      refine x_P 30 rfl rfl rfl ?_
      refine x_aI rfl ⟨rfl, rfl⟩ (fun x10 hx10 => ?_)
      refine x_P 32 rfl rfl rfl ?_
      refine x_P 33 rfl rfl rfl ?_
      refine x_P 34 rfl rfl rfl ?_
      refine x_P 35 rfl rfl rfl ?_
      refine x_P 36 rfl rfl rfl ?_
      refine x_P 37 rfl rfl rfl ?_
      refine x_P (lv' := [(5, .int (x10 &&& (((Int32.ofInt 1) <<< (a3 &&& 31)) ^^^ (Int32.ofInt (-1))))), (0, .ref a0), (1, .ref a1), (2, .ref a2), (3, .int a3), (4, .int s4.1)]) 39 rfl rfl rfl ?_
      refine x_P 41 rfl rfl rfl ?_
      refine x_callS rfl rfl rfl rfl rfl rfl ⟨rfl, rfl⟩ (S_173 (d + 2) (x10 &&& (((Int32.ofInt 1) <<< (a3 &&& 31)) ^^^ (Int32.ofInt (-1)))) s4.2) (fun x11 hx11 => ?_)
      refine x_P (lv' := [(6, .int x11), (5, .int (x10 &&& (((Int32.ofInt 1) <<< (a3 &&& 31)) ^^^ (Int32.ofInt (-1))))), (0, .ref a0), (1, .ref a1), (2, .ref a2), (3, .int a3), (4, .int s4.1)]) 46 rfl rfl rfl ?_
      refine x_P 48 rfl rfl rfl ?_
      refine x_P 49 rfl rfl rfl ?_
      refine x_jn 90 (fun v12 => [(0, .ref a0), (1, .ref a1), (2, .ref a2), (3, .int a3), (4, .int s4.1)]) (fun v12 => []) (fun v12 => v12) (fun v12 => ?_) (fun j13 hj13 => ?_)
      · refine x_P (lv' := [(4, .int (s4.1 + Int32.ofInt 1)), (0, .ref a0), (1, .ref a1), (2, .ref a2), (3, .int a3)]) 93 rfl rfl rfl ?_
        refine x_P 15 rfl rfl rfl ?_
        exact x_lv (hnx5 ((s4.1 + Int32.ofInt 1), v12)) ⟨rfl, rfl, rfl, rfl, rfl, trivial⟩
      · refine x_ic_lt rfl rfl (fun h21 => ?_) (fun h21 => ?_)
        · refine x_P 67 rfl rfl rfl ?_
          refine x_P 68 rfl rfl rfl ?_
          refine x_ic_ne rfl rfl (fun h18 => ?_) (fun h18 => ?_)
          · refine x_P 72 rfl rfl rfl ?_
            refine x_P 73 rfl rfl rfl ?_
            refine x_P 74 rfl rfl rfl ?_
            refine x_callV rfl rfl rfl rfl rfl ⟨rfl, rfl⟩ (fun x h => c_85 h) (S_85 (d + 2) a1 a3 (Int32.ofInt 4) s4.2) (fun x14 hx14 => ?_)
            refine x_if_ne rfl rfl (fun h17 => ?_) (fun h17 => ?_)
            · refine x_P 81 rfl rfl rfl ?_
              refine x_gN rfl (fun o15 ho15 => ?_)
              refine x_P 85 rfl rfl rfl ?_
              refine x_P 87 rfl rfl rfl ?_
              refine x_callW rfl rfl rfl rfl rfl ⟨rfl, rfl⟩ (fun x h => c_115 h) (S_115 d o15 a1 (x10 &&& (((Int32.ofInt 1) <<< (a3 &&& 31)) ^^^ (Int32.ofInt (-1)))) s4.2) (fun th16 hth16 => ?_)
              exact x_lv (hj13 th16) ⟨rfl, rfl, rfl, rfl, rfl, trivial⟩
            · exact x_lv (hj13 s4.2) ⟨rfl, rfl, rfl, rfl, rfl, trivial⟩
          · exact x_lv (hj13 s4.2) ⟨rfl, rfl, rfl, rfl, rfl, trivial⟩
        · refine x_P 53 rfl rfl rfl ?_
          refine x_P 54 rfl rfl rfl ?_
          refine x_gI rfl (fun x19 hx19 => ?_)
          refine x_P 58 rfl rfl rfl ?_
          refine x_P 59 rfl rfl rfl ?_
          refine x_pI rfl (fun th20 hth20 => ?_)
          refine x_P 90 rfl rfl rfl ?_
          exact x_lv (hj13 th20) ⟨rfl, rfl, rfl, rfl, rfl, trivial⟩
  · exact x_retV (x := x7) rfl
-- 123 NineTrees$Moves.offerCells(LNineTrees$Garden;I)V
noncomputable def m_123 (a0 : Nat) (a1 : Nat) (a2 : Int32) (th : tH) : Option tH :=
  (gC th 3 a0).bind fun _ =>
  lp (fun (s1 : Int32 × tH) nx2 ex3 =>
      (m_70 a1 s1.2).bind fun x5 =>
      if x5 ≤ s1.1 then
        ex3 s1.2
      else
        (gI s1.2 3 a0 1).bind fun x6 =>
        (gN s1.2 3 a0 0).bind fun o7 =>
        (gN s1.2 0 o7 0).bind fun o8 =>
        (aI s1.2 o8 s1.1).bind fun x9 =>
        (gI s1.2 3 a0 4).bind fun x10 =>
        jn (fun (v11 : tH) =>
            nx2 ((s1.1 + Int32.ofInt 1), v11)
          ) (fun j12 =>
            if (x6 + x9) ≤ x10 then
              j12 s1.2
            else
              (m_84 a1 s1.1 s1.2).bind fun x13 =>
              if x13 = 0 then
                j12 s1.2
              else
                (pI s1.2 3 a0 2 a2).bind fun th14 =>
                (pI th14 3 a0 3 s1.1).bind fun th15 =>
                (gI th15 3 a0 1).bind fun x16 =>
                (gN th15 3 a0 0).bind fun o17 =>
                (gN th15 0 o17 0).bind fun o18 =>
                (aI th15 o18 s1.1).bind fun x19 =>
                (pI th15 3 a0 4 (x16 + x19)).bind fun th20 =>
                j12 th20
          )
    ) 4096 ((Int32.ofInt 0), th) (fun (x4 : tH) =>
      some x4
    )
theorem c_123 {a0 : Nat} {a1 : Nat} {a2 : Int32} {th : tH} {x : tH} (h : m_123 a0 a1 a2 th = some x) : ∃ fs, th[a0]? = some (.inr (3, fs)) := gC_of h
theorem S_123 {L : Nat} (d : Nat) (a0 : Nat) (a1 : Nat) (a2 : Int32) (th : tH) : Wx L (fun x => (none, x)) (d + 2) 123 4 0 [(0, .ref a0), (1, .ref a1), (2, .int a2)] [] th (m_123 a0 a1 a2 th) := by
  unfold m_123
  refine x_gC ?_
  refine x_P 1 rfl rfl rfl ?_
  refine x_P (lv' := [(3, .int (Int32.ofInt 0)), (0, .ref a0), (1, .ref a1), (2, .int a2)]) 2 rfl rfl rfl ?_
  refine x_lv (lv := [(0, .ref a0), (1, .ref a1), (2, .int a2), (3, .int (Int32.ofInt 0))]) (x_lp 73 (fun s1 => [(0, .ref a0), (1, .ref a1), (2, .int a2), (3, .int s1.1)]) (fun s1 => s1.2) (fun x4 => []) (fun x4 => x4) (fun s1 nx2 hnx2 ex3 hex3 => ?_) (fun x4 => ?_) 4096 ((Int32.ofInt 0), th)) ⟨rfl, rfl, rfl, rfl, trivial⟩
  · refine x_P 3 rfl rfl rfl ?_
    refine x_P 4 rfl rfl rfl ?_
    refine x_callV rfl rfl rfl rfl rfl ⟨rfl, rfl⟩ (fun x h => c_70 h) (S_70 (d + 1) a1 s1.2) (fun x5 hx5 => ?_)
    refine x_ic_ge rfl rfl (fun h23 => ?_) (fun h23 => ?_)
    · exact x_lv (hex3 s1.2) trivial
    · refine x_P 11 rfl rfl rfl ?_
      refine x_gI rfl (fun x6 hx6 => ?_)
      refine x_P 15 rfl rfl rfl ?_
      refine x_gN rfl (fun o7 ho7 => ?_)
      refine x_gN rfl (fun o8 ho8 => ?_)
      refine x_P 22 rfl rfl rfl ?_
      refine x_aI rfl ⟨rfl, rfl⟩ (fun x9 hx9 => ?_)
      refine x_P 24 rfl rfl rfl ?_
      refine x_P 25 rfl rfl rfl ?_
      refine x_gI rfl (fun x10 hx10 => ?_)
      refine x_jn 67 (fun v11 => [(0, .ref a0), (1, .ref a1), (2, .int a2), (3, .int s1.1)]) (fun v11 => []) (fun v11 => v11) (fun v11 => ?_) (fun j12 hj12 => ?_)
      · refine x_P (lv' := [(3, .int (s1.1 + Int32.ofInt 1)), (0, .ref a0), (1, .ref a1), (2, .int a2)]) 70 rfl rfl rfl ?_
        refine x_P 2 rfl rfl rfl ?_
        exact x_lv (hnx2 ((s1.1 + Int32.ofInt 1), v11)) ⟨rfl, rfl, rfl, rfl, trivial⟩
      · refine x_ic_le rfl rfl (fun h22 => ?_) (fun h22 => ?_)
        · exact x_lv (hj12 s1.2) ⟨rfl, rfl, rfl, rfl, trivial⟩
        · refine x_P 32 rfl rfl rfl ?_
          refine x_P 33 rfl rfl rfl ?_
          refine x_callV rfl rfl rfl rfl rfl ⟨rfl, rfl⟩ (fun x h => c_84 h) (S_84 d a1 s1.1 s1.2) (fun x13 hx13 => ?_)
          refine x_if_eq rfl rfl (fun h21 => ?_) (fun h21 => ?_)
          · exact x_lv (hj12 s1.2) ⟨rfl, rfl, rfl, rfl, trivial⟩
          · refine x_P 40 rfl rfl rfl ?_
            refine x_P 41 rfl rfl rfl ?_
            refine x_pI rfl (fun th14 hth14 => ?_)
            refine x_P 45 rfl rfl rfl ?_
            refine x_P 46 rfl rfl rfl ?_
            refine x_pI rfl (fun th15 hth15 => ?_)
            refine x_P 50 rfl rfl rfl ?_
            refine x_P 51 rfl rfl rfl ?_
            refine x_gI rfl (fun x16 hx16 => ?_)
            refine x_P 55 rfl rfl rfl ?_
            refine x_gN rfl (fun o17 ho17 => ?_)
            refine x_gN rfl (fun o18 ho18 => ?_)
            refine x_P 62 rfl rfl rfl ?_
            refine x_aI rfl ⟨rfl, rfl⟩ (fun x19 hx19 => ?_)
            refine x_P 64 rfl rfl rfl ?_
            refine x_pI rfl (fun th20 hth20 => ?_)
            exact x_lv (hj12 th20) ⟨rfl, rfl, rfl, rfl, trivial⟩
  · exact x_retV (x := x4) rfl
-- 117 NineTrees$Moves.findMostThrees(LNineTrees$Garden;LNineTrees$RowList;)V
noncomputable def m_117 (a0 : Nat) (a1 : Nat) (a2 : Nat) (th : tH) : Option tH :=
  (gC th 3 a0).bind fun _ =>
  (m_122 a0 th).bind fun th1 =>
  lp (fun (s2 : Int32 × tH) nx3 ex4 =>
      (gI s2.2 2 a1 5).bind fun x6 =>
      if x6 ≤ s2.1 then
        ex4 s2.2
      else
        (m_87 a1 s2.1 s2.2).bind fun x7 =>
        jn (fun (v8 : tH) =>
            nx3 ((s2.1 + Int32.ofInt 1), v8)
          ) (fun j9 =>
            if x7 = 0 then
              j9 s2.2
            else
              (m_120 a0 a1 a2 s2.1 s2.2).bind fun th10 =>
              (m_123 a0 a1 s2.1 th10).bind fun th11 =>
              j9 th11
          )
    ) 4096 ((Int32.ofInt 0), th1) (fun (x5 : tH) =>
      some x5
    )
theorem c_117 {a0 : Nat} {a1 : Nat} {a2 : Nat} {th : tH} {x : tH} (h : m_117 a0 a1 a2 th = some x) : ∃ fs, th[a0]? = some (.inr (3, fs)) := gC_of h
theorem S_117 {L : Nat} (d : Nat) (a0 : Nat) (a1 : Nat) (a2 : Nat) (th : tH) : Wx L (fun x => (none, x)) (d + 4) 117 4 0 [(0, .ref a0), (1, .ref a1), (2, .ref a2)] [] th (m_117 a0 a1 a2 th) := by
  unfold m_117
  refine x_gC ?_
  refine x_P 1 rfl rfl rfl ?_
  refine x_callW rfl rfl rfl rfl rfl ⟨rfl, rfl⟩ (fun x h => c_122 h) (S_122 (d + 2) a0 th) (fun th1 hth1 => ?_)
  refine x_P 5 rfl rfl rfl ?_
  refine x_P (lv' := [(3, .int (Int32.ofInt 0)), (0, .ref a0), (1, .ref a1), (2, .ref a2)]) 6 rfl rfl rfl ?_
  refine x_lv (lv := [(0, .ref a0), (1, .ref a1), (2, .ref a2), (3, .int (Int32.ofInt 0))]) (x_lp 41 (fun s2 => [(0, .ref a0), (1, .ref a1), (2, .ref a2), (3, .int s2.1)]) (fun s2 => s2.2) (fun x5 => []) (fun x5 => x5) (fun s2 nx3 hnx3 ex4 hex4 => ?_) (fun x5 => ?_) 4096 ((Int32.ofInt 0), th1)) ⟨rfl, rfl, rfl, rfl, trivial⟩
  · refine x_P 7 rfl rfl rfl ?_
    refine x_P 8 rfl rfl rfl ?_
    refine x_gI rfl (fun x6 hx6 => ?_)
    refine x_ic_ge rfl rfl (fun h13 => ?_) (fun h13 => ?_)
    · exact x_lv (hex4 s2.2) trivial
    · refine x_P 15 rfl rfl rfl ?_
      refine x_P 16 rfl rfl rfl ?_
      refine x_callV rfl rfl rfl rfl rfl ⟨rfl, rfl⟩ (fun x h => c_87 h) (S_87 (d + 2) a1 s2.1 s2.2) (fun x7 hx7 => ?_)
      refine x_jn 35 (fun v8 => [(0, .ref a0), (1, .ref a1), (2, .ref a2), (3, .int s2.1)]) (fun v8 => []) (fun v8 => v8) (fun v8 => ?_) (fun j9 hj9 => ?_)
      · refine x_P (lv' := [(3, .int (s2.1 + Int32.ofInt 1)), (0, .ref a0), (1, .ref a1), (2, .ref a2)]) 38 rfl rfl rfl ?_
        refine x_P 6 rfl rfl rfl ?_
        exact x_lv (hnx3 ((s2.1 + Int32.ofInt 1), v8)) ⟨rfl, rfl, rfl, rfl, trivial⟩
      · refine x_if_eq rfl rfl (fun h12 => ?_) (fun h12 => ?_)
        · exact x_lv (hj9 s2.2) ⟨rfl, rfl, rfl, rfl, trivial⟩
        · refine x_P 23 rfl rfl rfl ?_
          refine x_P 24 rfl rfl rfl ?_
          refine x_P 25 rfl rfl rfl ?_
          refine x_P 26 rfl rfl rfl ?_
          refine x_callW rfl rfl rfl rfl rfl ⟨rfl, rfl⟩ (fun x h => c_120 h) (S_120 d a0 a1 a2 s2.1 s2.2) (fun th10 hth10 => ?_)
          refine x_P 30 rfl rfl rfl ?_
          refine x_P 31 rfl rfl rfl ?_
          refine x_P 32 rfl rfl rfl ?_
          refine x_callW rfl rfl rfl rfl rfl ⟨rfl, rfl⟩ (fun x h => c_123 h) (S_123 (d + 1) a0 a1 s2.1 th10) (fun th11 hth11 => ?_)
          exact x_lv (hj9 th11) ⟨rfl, rfl, rfl, rfl, trivial⟩
  · exact x_retV (x := x5) rfl
-- 124 NineTrees$Moves.tell(I)I
noncomputable def m_124 (a0 : Nat) (a1 : Int32) (th : tH) : Option (Int32) :=
  (gC th 3 a0).bind fun _ =>
  if a1 = 0 then
    (gI th 3 a0 2).bind fun x6 =>
    some x6
  else
    jn (fun (v1 : Int32) =>
        some v1
      ) (fun j2 =>
        if a1 = (Int32.ofInt 1) then
          (gI th 3 a0 3).bind fun x4 =>
          j2 x4
        else
          (gI th 3 a0 4).bind fun x3 =>
          j2 x3
      )
theorem c_124 {a0 : Nat} {a1 : Int32} {th : tH} {x : (Int32)} (h : m_124 a0 a1 th = some x) : ∃ fs, th[a0]? = some (.inr (3, fs)) := gC_of h
theorem S_124 {L : Nat} (d : Nat) (a0 : Nat) (a1 : Int32) (th : tH) : Wx L (fun x => (some (.int x), th)) d 124 2 0 [(0, .ref a0), (1, .int a1)] [] th (m_124 a0 a1 th) := by
  unfold m_124
  refine x_gC ?_
  refine x_P 1 rfl rfl rfl ?_
  refine x_if_ne rfl rfl (fun h7 => ?_) (fun h7 => ?_)
  · refine x_P 5 rfl rfl rfl ?_
    refine x_gI rfl (fun x6 hx6 => ?_)
    exact x_retI (x := x6) rfl
  · refine x_P 10 rfl rfl rfl ?_
    refine x_P 11 rfl rfl rfl ?_
    refine x_jn 25 (fun v1 => []) (fun v1 => [.int v1]) (fun v1 => th) (fun v1 => ?_) (fun j2 hj2 => ?_)
    · exact x_retI (x := v1) rfl
    · refine x_ic_ne rfl rfl (fun h5 => ?_) (fun h5 => ?_)
      · refine x_P 15 rfl rfl rfl ?_
        refine x_gI rfl (fun x4 hx4 => ?_)
        refine x_P 25 rfl rfl rfl ?_
        exact x_lv (hj2 x4) trivial
      · refine x_P 22 rfl rfl rfl ?_
        refine x_gI rfl (fun x3 hx3 => ?_)
        exact x_lv (hj2 x3) trivial
-- 33 NineTrees.best(I)I
noncomputable def m_33 (a0 : Nat) (a1 : Int32) (th : tH) : Option (Int32 × tH) :=
  (gC th 7 a0).bind fun _ =>
  jn (fun (v1 : Unit) =>
      (m_59 a0 (Int8.ofInt (-2)).toInt32 th).bind fun q3 =>
      some (q3.1, q3.2)
    ) (fun j2 =>
      if a1 < 0 then
        j2 ()
      else
        if a1 ≤ (Int32.ofInt 2) then
          (gN th 7 a0 5).bind fun o4 =>
          (gN th 7 a0 0).bind fun o5 =>
          (m_63 a0 th).bind fun q6 =>
          (m_117 o4 o5 q6.1 q6.2).bind fun th7 =>
          (gN th7 7 a0 5).bind fun o8 =>
          (m_124 o8 a1 th7).bind fun x9 =>
          some (x9, th7)
        else
          j2 ()
    )
theorem c_33 {a0 : Nat} {a1 : Int32} {th : tH} {x : (Int32 × tH)} (h : m_33 a0 a1 th = some x) : ∃ fs, th[a0]? = some (.inr (7, fs)) := gC_of h
theorem S_33 {L : Nat} (d : Nat) (a0 : Nat) (a1 : Int32) (th : tH) : Wx L (fun x => (some (.int x.1), x.2)) (d + 5) 33 2 0 [(0, .ref a0), (1, .int a1)] [] th (m_33 a0 a1 th) := by
  unfold m_33
  refine x_gC ?_
  refine x_P 1 rfl rfl rfl ?_
  refine x_jn 9 (fun v1 => [(0, .ref a0)]) (fun v1 => []) (fun v1 => th) (fun v1 => ?_) (fun j2 hj2 => ?_)
  · refine x_P 10 rfl rfl rfl ?_
    refine x_P 12 rfl rfl rfl ?_
    refine x_callV rfl rfl rfl rfl rfl ⟨rfl, rfl⟩ (fun x h => c_59 h) (S_59 (d + 3) a0 (Int8.ofInt (-2)).toInt32 th) (fun q3 hq3 => ?_)
    exact x_retI (x := (q3.1, q3.2)) rfl
  · refine x_if_lt rfl rfl (fun h11 => ?_) (fun h11 => ?_)
    · exact x_lv (hj2 ()) ⟨rfl, trivial⟩
    · refine x_P 5 rfl rfl rfl ?_
      refine x_P 6 rfl rfl rfl ?_
      refine x_ic_le rfl rfl (fun h10 => ?_) (fun h10 => ?_)
      · refine x_P 17 rfl rfl rfl ?_
        refine x_gN rfl (fun o4 ho4 => ?_)
        refine x_P 21 rfl rfl rfl ?_
        refine x_gN rfl (fun o5 ho5 => ?_)
        refine x_P 25 rfl rfl rfl ?_
        refine x_callV rfl rfl rfl rfl rfl ⟨rfl, rfl⟩ (fun x h => c_63 h) (S_63 d a0 th) (fun q6 hq6 => ?_)
        refine x_callW rfl rfl rfl rfl rfl ⟨rfl, rfl⟩ (fun x h => c_117 h) (S_117 d o4 o5 q6.1 q6.2) (fun th7 hth7 => ?_)
        refine x_P 32 rfl rfl rfl ?_
        refine x_gN rfl (fun o8 ho8 => ?_)
        refine x_P 36 rfl rfl rfl ?_
        refine x_callV rfl rfl rfl rfl rfl ⟨rfl, rfl⟩ (fun x h => c_124 h) (S_124 (d + 4) o8 a1 th7) (fun x9 hx9 => ?_)
        exact x_retI (x := (x9, th7)) rfl
      · exact x_lv (hj2 ()) ⟨rfl, trivial⟩
-- 119 NineTrees$Moves.threesBy(LNineTrees$Garden;LNineTrees$RowList;II)I
noncomputable def m_119 (a0 : Nat) (a1 : Nat) (a2 : Nat) (a3 : Int32) (a4 : Int32) (th : tH) : Option (Int32 × tH) :=
  (gC th 3 a0).bind fun _ =>
  (m_120 a0 a1 a2 a3 th).bind fun th1 =>
  (gI th1 3 a0 1).bind fun x2 =>
  (gN th1 3 a0 0).bind fun o3 =>
  (gN th1 0 o3 0).bind fun o4 =>
  (aI th1 o4 a4).bind fun x5 =>
  some ((x2 + x5), th1)
theorem c_119 {a0 : Nat} {a1 : Nat} {a2 : Nat} {a3 : Int32} {a4 : Int32} {th : tH} {x : (Int32 × tH)} (h : m_119 a0 a1 a2 a3 a4 th = some x) : ∃ fs, th[a0]? = some (.inr (3, fs)) := gC_of h
theorem S_119 {L : Nat} (d : Nat) (a0 : Nat) (a1 : Nat) (a2 : Nat) (a3 : Int32) (a4 : Int32) (th : tH) : Wx L (fun x => (some (.int x.1), x.2)) (d + 4) 119 5 0 [(0, .ref a0), (1, .ref a1), (2, .ref a2), (3, .int a3), (4, .int a4)] [] th (m_119 a0 a1 a2 a3 a4 th) := by
  unfold m_119
  refine x_gC ?_
  refine x_P 1 rfl rfl rfl ?_
  refine x_P 2 rfl rfl rfl ?_
  refine x_P 3 rfl rfl rfl ?_
  refine x_P 4 rfl rfl rfl ?_
  refine x_callW rfl rfl rfl rfl rfl ⟨rfl, rfl⟩ (fun x h => c_120 h) (S_120 d a0 a1 a2 a3 th) (fun th1 hth1 => ?_)
  refine x_P 8 rfl rfl rfl ?_
  refine x_gI rfl (fun x2 hx2 => ?_)
  refine x_P 12 rfl rfl rfl ?_
  refine x_gN rfl (fun o3 ho3 => ?_)
  refine x_gN rfl (fun o4 ho4 => ?_)
  refine x_P 20 rfl rfl rfl ?_
  refine x_aI rfl ⟨rfl, rfl⟩ (fun x5 hx5 => ?_)
  refine x_P 22 rfl rfl rfl ?_
  exact x_retI (x := ((x2 + x5), th1)) rfl
-- 34 NineTrees.moved(II)I
noncomputable def m_34 (a0 : Nat) (a1 : Int32) (a2 : Int32) (th : tH) : Option (Int32 × tH) :=
  (gC th 7 a0).bind fun _ =>
  (m_67 a0 a1 a2 th).bind fun x1 =>
  jn (fun (v2 : Int32 × tH) =>
      some (v2.1, v2.2)
    ) (fun j3 =>
      if x1 = 0 then
        (gN th 7 a0 5).bind fun o5 =>
        (gN th 7 a0 0).bind fun o6 =>
        (m_63 a0 th).bind fun q7 =>
        (m_119 o5 o6 q7.1 a1 a2 q7.2).bind fun q8 =>
        j3 (q8.1, q8.2)
      else
        (m_59 a0 x1 th).bind fun q4 =>
        j3 (q4.1, q4.2)
    )
theorem c_34 {a0 : Nat} {a1 : Int32} {a2 : Int32} {th : tH} {x : (Int32 × tH)} (h : m_34 a0 a1 a2 th = some x) : ∃ fs, th[a0]? = some (.inr (7, fs)) := gC_of h
theorem S_34 {L : Nat} (d : Nat) (a0 : Nat) (a1 : Int32) (a2 : Int32) (th : tH) : Wx L (fun x => (some (.int x.1), x.2)) (d + 5) 34 4 0 [(0, .ref a0), (1, .int a1), (2, .int a2)] [] th (m_34 a0 a1 a2 th) := by
  unfold m_34
  refine x_gC ?_
  refine x_P 1 rfl rfl rfl ?_
  refine x_P 2 rfl rfl rfl ?_
  refine x_P 3 rfl rfl rfl ?_
  refine x_callV rfl rfl rfl rfl rfl ⟨rfl, rfl⟩ (fun x h => c_67 h) (S_67 (d + 2) a0 a1 a2 th) (fun x1 hx1 => ?_)
  refine x_P (lv' := [(3, .int x1), (0, .ref a0), (1, .int a1), (2, .int a2)]) 7 rfl rfl rfl ?_
  refine x_P 8 rfl rfl rfl ?_
  refine x_jn 36 (fun v2 => []) (fun v2 => [.int v2.1]) (fun v2 => v2.2) (fun v2 => ?_) (fun j3 hj3 => ?_)
  · exact x_retI (x := (v2.1, v2.2)) rfl
  · refine x_if_ne rfl rfl (fun h9 => ?_) (fun h9 => ?_)
    · refine x_P 12 rfl rfl rfl ?_
      refine x_gN rfl (fun o5 ho5 => ?_)
      refine x_P 16 rfl rfl rfl ?_
      refine x_gN rfl (fun o6 ho6 => ?_)
      refine x_P 20 rfl rfl rfl ?_
      refine x_callV rfl rfl rfl rfl rfl ⟨rfl, rfl⟩ (fun x h => c_63 h) (S_63 d a0 th) (fun q7 hq7 => ?_)
      refine x_P 24 rfl rfl rfl ?_
      refine x_P 25 rfl rfl rfl ?_
      refine x_callV rfl rfl rfl rfl rfl ⟨rfl, rfl⟩ (fun x h => c_119 h) (S_119 d o5 o6 q7.1 a1 a2 q7.2) (fun q8 hq8 => ?_)
      refine x_P 36 rfl rfl rfl ?_
      exact x_lv (hj3 (q8.1, q8.2)) trivial
    · refine x_P 32 rfl rfl rfl ?_
      refine x_P 33 rfl rfl rfl ?_
      refine x_callV rfl rfl rfl rfl rfl ⟨rfl, rfl⟩ (fun x h => c_59 h) (S_59 (d + 3) a0 x1 th) (fun q4 hq4 => ?_)
      exact x_lv (hj3 (q4.1, q4.2)) trivial
-- 114 NineTrees$Crossings.countRows(LNineTrees$Garden;LNineTrees$RowList;I)V
noncomputable def m_114 (a0 : Nat) (a1 : Nat) (a2 : Nat) (a3 : Int32) (th : tH) : Option tH :=
  (gC th 0 a0).bind fun _ =>
  (m_113 a0 th).bind fun th1 =>
  lp (fun (s2 : Int32 × tH) nx3 ex4 =>
      (gI s2.2 4 a2 1).bind fun x6 =>
      if x6 ≤ s2.1 then
        ex4 s2.2
      else
        (gN s2.2 4 a2 0).bind fun o7 =>
        (aI s2.2 o7 s2.1).bind fun x8 =>
        (m_173 x8 s2.2).bind fun x9 =>
        jn (fun (v10 : tH) =>
            nx3 ((s2.1 + Int32.ofInt 1), v10)
          ) (fun j11 =>
            if x9 < a3 then
              j11 s2.2
            else
              (gN s2.2 4 a2 0).bind fun o12 =>
              (aI s2.2 o12 s2.1).bind fun x13 =>
              (m_115 a0 a1 x13 s2.2).bind fun th14 =>
              j11 th14
          )
    ) 4096 ((Int32.ofInt 0), th1) (fun (x5 : tH) =>
      some x5
    )
theorem c_114 {a0 : Nat} {a1 : Nat} {a2 : Nat} {a3 : Int32} {th : tH} {x : tH} (h : m_114 a0 a1 a2 a3 th = some x) : ∃ fs, th[a0]? = some (.inr (0, fs)) := gC_of h
theorem S_114 {L : Nat} (d : Nat) (a0 : Nat) (a1 : Nat) (a2 : Nat) (a3 : Int32) (th : tH) : Wx L (fun x => (none, x)) (d + 3) 114 5 0 [(0, .ref a0), (1, .ref a1), (2, .ref a2), (3, .int a3)] [] th (m_114 a0 a1 a2 a3 th) := by
  unfold m_114
  refine x_gC ?_
  refine x_P 1 rfl rfl rfl ?_
  refine x_callW rfl rfl rfl rfl rfl ⟨rfl, rfl⟩ (fun x h => c_113 h) (S_113 (d + 1) a0 th) (fun th1 hth1 => ?_)
  refine x_P 5 rfl rfl rfl ?_
  refine x_P (lv' := [(4, .int (Int32.ofInt 0)), (0, .ref a0), (1, .ref a1), (2, .ref a2), (3, .int a3)]) 7 rfl rfl rfl ?_
  refine x_lv (lv := [(0, .ref a0), (1, .ref a1), (2, .ref a2), (3, .int a3), (4, .int (Int32.ofInt 0))]) (x_lp 48 (fun s2 => [(0, .ref a0), (1, .ref a1), (2, .ref a2), (3, .int a3), (4, .int s2.1)]) (fun s2 => s2.2) (fun x5 => []) (fun x5 => x5) (fun s2 nx3 hnx3 ex4 hex4 => ?_) (fun x5 => ?_) 4096 ((Int32.ofInt 0), th1)) ⟨rfl, rfl, rfl, rfl, rfl, trivial⟩
  · refine x_P 9 rfl rfl rfl ?_
    refine x_P 10 rfl rfl rfl ?_
    refine x_gI rfl (fun x6 hx6 => ?_)
    refine x_ic_ge rfl rfl (fun h16 => ?_) (fun h16 => ?_)
    · exact x_lv (hex4 s2.2) trivial
    · refine x_P 17 rfl rfl rfl ?_
      refine x_gN rfl (fun o7 ho7 => ?_)
      refine x_P 22 rfl rfl rfl ?_
      refine x_aI rfl ⟨rfl, rfl⟩ (fun x8 hx8 => ?_)
      refine x_callS rfl rfl rfl rfl rfl rfl ⟨rfl, rfl⟩ (S_173 (d + 2) x8 s2.2) (fun x9 hx9 => ?_)
      refine x_P 27 rfl rfl rfl ?_
      refine x_jn 42 (fun v10 => [(0, .ref a0), (1, .ref a1), (2, .ref a2), (3, .int a3), (4, .int s2.1)]) (fun v10 => []) (fun v10 => v10) (fun v10 => ?_) (fun j11 hj11 => ?_)
      · refine x_P (lv' := [(4, .int (s2.1 + Int32.ofInt 1)), (0, .ref a0), (1, .ref a1), (2, .ref a2), (3, .int a3)]) 45 rfl rfl rfl ?_
        refine x_P 7 rfl rfl rfl ?_
        exact x_lv (hnx3 ((s2.1 + Int32.ofInt 1), v10)) ⟨rfl, rfl, rfl, rfl, rfl, trivial⟩
      · refine x_ic_lt rfl rfl (fun h15 => ?_) (fun h15 => ?_)
        · exact x_lv (hj11 s2.2) ⟨rfl, rfl, rfl, rfl, rfl, trivial⟩
        · refine x_P 31 rfl rfl rfl ?_
          refine x_P 32 rfl rfl rfl ?_
          refine x_P 33 rfl rfl rfl ?_
          refine x_gN rfl (fun o12 ho12 => ?_)
          refine x_P 38 rfl rfl rfl ?_
          refine x_aI rfl ⟨rfl, rfl⟩ (fun x13 hx13 => ?_)
          refine x_callW rfl rfl rfl rfl rfl ⟨rfl, rfl⟩ (fun x h => c_115 h) (S_115 d a0 a1 x13 s2.2) (fun th14 hth14 => ?_)
          exact x_lv (hj11 th14) ⟨rfl, rfl, rfl, rfl, rfl, trivial⟩
  · exact x_retV (x := x5) rfl
-- 35 NineTrees.may()J
noncomputable def m_35 (a0 : Nat) (th : tH) : Option (Int64 × tH) :=
  (gC th 7 a0).bind fun _ =>
  (gN th 7 a0 4).bind fun o1 =>
  (gN th 7 a0 0).bind fun o2 =>
  (m_63 a0 th).bind fun q3 =>
  (m_114 o1 o2 q3.1 (Int32.ofInt 2) q3.2).bind fun th4 =>
  lp (fun (s5 : Int64 × Int32) nx6 ex7 =>
      (gN th4 7 a0 0).bind fun o9 =>
      (m_70 o9 th4).bind fun x10 =>
      if x10 ≤ s5.2 then
        ex7 s5.1
      else
        (gN th4 7 a0 0).bind fun o11 =>
        (m_84 o11 s5.2 th4).bind fun x12 =>
        jn (fun (v13 : Int64) =>
            nx6 (v13, (s5.2 + Int32.ofInt 1))
          ) (fun j14 =>
            if x12 = 0 then
              j14 s5.1
            else
              (gN th4 7 a0 4).bind fun o15 =>
              (gN th4 0 o15 0).bind fun o16 =>
              (aI th4 o16 s5.2).bind fun x17 =>
              if x17 = 0 then
                j14 (s5.1 ||| ((Int64.ofNat 1) <<< ((Int32.toInt64 s5.2) &&& 63)))
              else
                j14 s5.1
          )
    ) 4096 ((Int64.ofNat 0), (Int32.ofInt 0)) (fun (x8 : Int64) =>
      some (x8, th4)
    )
theorem c_35 {a0 : Nat} {th : tH} {x : (Int64 × tH)} (h : m_35 a0 th = some x) : ∃ fs, th[a0]? = some (.inr (7, fs)) := gC_of h
theorem S_35 {L : Nat} (d : Nat) (a0 : Nat) (th : tH) : Wx L (fun x => (some (.long x.1), x.2)) (d + 5) 35 4 0 [(0, .ref a0)] [] th (m_35 a0 th) := by
  unfold m_35
  refine x_gC ?_
  refine x_P 1 rfl rfl rfl ?_
  refine x_gN rfl (fun o1 ho1 => ?_)
  refine x_P 5 rfl rfl rfl ?_
  refine x_gN rfl (fun o2 ho2 => ?_)
  refine x_P 9 rfl rfl rfl ?_
  refine x_callV rfl rfl rfl rfl rfl ⟨rfl, rfl⟩ (fun x h => c_63 h) (S_63 d a0 th) (fun q3 hq3 => ?_)
  refine x_P 13 rfl rfl rfl ?_
  refine x_callW rfl rfl rfl rfl rfl ⟨rfl, rfl⟩ (fun x h => c_114 h) (S_114 (d + 1) o1 o2 q3.1 (Int32.ofInt 2) q3.2) (fun th4 hth4 => ?_)
  refine x_P 17 rfl rfl rfl ?_
  refine x_P (lv' := [(1, .long (Int64.ofNat 0)), (0, .ref a0)]) 18 rfl rfl rfl ?_
  refine x_P 19 rfl rfl rfl ?_
  refine x_P (lv' := [(3, .int (Int32.ofInt 0)), (1, .long (Int64.ofNat 0)), (0, .ref a0)]) 20 rfl rfl rfl ?_
  refine x_lv (lv := [(0, .ref a0), (1, .long (Int64.ofNat 0)), (3, .int (Int32.ofInt 0))]) (x_lp 66 (fun s5 => [(0, .ref a0), (1, .long s5.1), (3, .int s5.2)]) (fun s5 => th4) (fun x8 => [(1, .long x8)]) (fun x8 => th4) (fun s5 nx6 hnx6 ex7 hex7 => ?_) (fun x8 => ?_) 4096 ((Int64.ofNat 0), (Int32.ofInt 0))) ⟨rfl, rfl, rfl, trivial⟩
  · refine x_P 21 rfl rfl rfl ?_
    refine x_P 22 rfl rfl rfl ?_
    refine x_gN rfl (fun o9 ho9 => ?_)
    refine x_callV rfl rfl rfl rfl rfl ⟨rfl, rfl⟩ (fun x h => c_70 h) (S_70 (d + 4) o9 th4) (fun x10 hx10 => ?_)
    refine x_ic_ge rfl rfl (fun h20 => ?_) (fun h20 => ?_)
    · exact x_lv (hex7 s5.1) ⟨rfl, trivial⟩
    · refine x_P 32 rfl rfl rfl ?_
      refine x_gN rfl (fun o11 ho11 => ?_)
      refine x_P 36 rfl rfl rfl ?_
      refine x_callV rfl rfl rfl rfl rfl ⟨rfl, rfl⟩ (fun x h => c_84 h) (S_84 (d + 3) o11 s5.2 th4) (fun x12 hx12 => ?_)
      refine x_jn 60 (fun v13 => [(0, .ref a0), (1, .long v13), (3, .int s5.2)]) (fun v13 => []) (fun v13 => th4) (fun v13 => ?_) (fun j14 hj14 => ?_)
      · refine x_P (lv' := [(3, .int (s5.2 + Int32.ofInt 1)), (0, .ref a0), (1, .long v13)]) 63 rfl rfl rfl ?_
        refine x_P 20 rfl rfl rfl ?_
        exact x_lv (hnx6 (v13, (s5.2 + Int32.ofInt 1))) ⟨rfl, rfl, rfl, trivial⟩
      · refine x_if_eq rfl rfl (fun h19 => ?_) (fun h19 => ?_)
        · exact x_lv (hj14 s5.1) ⟨rfl, rfl, rfl, trivial⟩
        · refine x_P 43 rfl rfl rfl ?_
          refine x_gN rfl (fun o15 ho15 => ?_)
          refine x_gN rfl (fun o16 ho16 => ?_)
          refine x_P 50 rfl rfl rfl ?_
          refine x_aI rfl ⟨rfl, rfl⟩ (fun x17 hx17 => ?_)
          refine x_if_ne rfl rfl (fun h18 => ?_) (fun h18 => ?_)
          · refine x_P 55 rfl rfl rfl ?_
            refine x_P 56 rfl rfl rfl ?_
            refine x_P 57 rfl rfl rfl ?_
            refine x_P 58 rfl rfl rfl ?_
            refine x_P 59 rfl rfl rfl ?_
            refine x_P (lv' := [(1, .long (s5.1 ||| ((Int64.ofNat 1) <<< ((Int32.toInt64 s5.2) &&& 63)))), (0, .ref a0), (3, .int s5.2)]) 60 rfl rfl rfl ?_
            exact x_lv (hj14 (s5.1 ||| ((Int64.ofNat 1) <<< ((Int32.toInt64 s5.2) &&& 63)))) ⟨rfl, rfl, rfl, trivial⟩
          · exact x_lv (hj14 s5.1) ⟨rfl, rfl, rfl, trivial⟩
  · refine x_P 67 rfl rfl rfl ?_
    exact x_retJ (x := (x8, th4)) rfl
-- 36 NineTrees.most(I)I
noncomputable def m_36 (a0 : Nat) (a1 : Int32) (th : tH) : Option (Int32 × tH) :=
  (gC th 7 a0).bind fun _ =>
  jn (fun (v1 : Unit) =>
      (m_59 a0 (Int8.ofInt (-2)).toInt32 th).bind fun q3 =>
      some (q3.1, q3.2)
    ) (fun j2 =>
      if a1 < (Int32.ofInt 1) then
        j2 ()
      else
        if a1 ≤ (Int32.ofInt 5) then
          jn (fun (v4 : Int32) =>
              some (v4, th)
            ) (fun j5 =>
              if a1 = (Int32.ofInt 1) then
                j5 (Int32.ofInt 1)
              else
                j5 ((Int32.ofInt 2) * a1)
            )
        else
          j2 ()
    )
theorem c_36 {a0 : Nat} {a1 : Int32} {th : tH} {x : (Int32 × tH)} (h : m_36 a0 a1 th = some x) : ∃ fs, th[a0]? = some (.inr (7, fs)) := gC_of h
theorem S_36 {L : Nat} (d : Nat) (a0 : Nat) (a1 : Int32) (th : tH) : Wx L (fun x => (some (.int x.1), x.2)) (d + 2) 36 2 0 [(0, .ref a0), (1, .int a1)] [] th (m_36 a0 a1 th) := by
  unfold m_36
  refine x_gC ?_
  refine x_P 1 rfl rfl rfl ?_
  refine x_P 2 rfl rfl rfl ?_
  refine x_jn 10 (fun v1 => [(0, .ref a0)]) (fun v1 => []) (fun v1 => th) (fun v1 => ?_) (fun j2 hj2 => ?_)
  · refine x_P 11 rfl rfl rfl ?_
    refine x_P 13 rfl rfl rfl ?_
    refine x_callV rfl rfl rfl rfl rfl ⟨rfl, rfl⟩ (fun x h => c_59 h) (S_59 d a0 (Int8.ofInt (-2)).toInt32 th) (fun q3 hq3 => ?_)
    exact x_retI (x := (q3.1, q3.2)) rfl
  · refine x_ic_lt rfl rfl (fun h8 => ?_) (fun h8 => ?_)
    · exact x_lv (hj2 ()) ⟨rfl, trivial⟩
    · refine x_P 6 rfl rfl rfl ?_
      refine x_P 7 rfl rfl rfl ?_
      refine x_ic_le rfl rfl (fun h7 => ?_) (fun h7 => ?_)
      · refine x_P 18 rfl rfl rfl ?_
        refine x_P 19 rfl rfl rfl ?_
        refine x_jn 29 (fun v4 => []) (fun v4 => [.int v4]) (fun v4 => th) (fun v4 => ?_) (fun j5 hj5 => ?_)
        · exact x_retI (x := (v4, th)) rfl
        · refine x_ic_ne rfl rfl (fun h6 => ?_) (fun h6 => ?_)
          · refine x_P 23 rfl rfl rfl ?_
            refine x_P 29 rfl rfl rfl ?_
            exact x_lv (hj5 (Int32.ofInt 1)) trivial
          · refine x_P 27 rfl rfl rfl ?_
            refine x_P 28 rfl rfl rfl ?_
            refine x_P 29 rfl rfl rfl ?_
            exact x_lv (hj5 ((Int32.ofInt 2) * a1)) trivial
      · exact x_lv (hj2 ()) ⟨rfl, trivial⟩
-- 146 NineTrees$Sight.seenFrom(LNineTrees$Garden;I)I
noncomputable def m_146 (a0 : Nat) (a1 : Int32) (th : tH) : Option (Int32) :=
  lp (fun (s1 : Int32 × Int32) nx2 ex3 =>
      (gI th 2 a0 5).bind fun x5 =>
      if x5 ≤ s1.2 then
        ex3 s1.1
      else
        (m_145 a0 s1.2 a1 th).bind fun x6 =>
        jn (fun (v7 : Int32) =>
            nx2 (v7, (s1.2 + Int32.ofInt 1))
          ) (fun j8 =>
            if x6 = 0 then
              j8 s1.1
            else
              j8 (s1.1 ||| ((Int32.ofInt 1) <<< (s1.2 &&& 31)))
          )
    ) 4096 ((Int32.ofInt 0), (Int32.ofInt 0)) (fun (x4 : Int32) =>
      some x4
    )
theorem S_146 {L : Nat} (d : Nat) (a0 : Nat) (a1 : Int32) (th : tH) : Wx L (fun x => (some (.int x), th)) (d + 5) 146 4 0 [(0, .ref a0), (1, .int a1)] [] th (m_146 a0 a1 th) := by
  unfold m_146
  refine x_P 1 rfl rfl rfl ?_
  refine x_P (lv' := [(2, .int (Int32.ofInt 0)), (0, .ref a0), (1, .int a1)]) 2 rfl rfl rfl ?_
  refine x_P 3 rfl rfl rfl ?_
  refine x_P (lv' := [(3, .int (Int32.ofInt 0)), (2, .int (Int32.ofInt 0)), (0, .ref a0), (1, .int a1)]) 4 rfl rfl rfl ?_
  refine x_lv (lv := [(0, .ref a0), (1, .int a1), (2, .int (Int32.ofInt 0)), (3, .int (Int32.ofInt 0))]) (x_lp 33 (fun s1 => [(0, .ref a0), (1, .int a1), (2, .int s1.1), (3, .int s1.2)]) (fun s1 => th) (fun x4 => [(2, .int x4)]) (fun x4 => th) (fun s1 nx2 hnx2 ex3 hex3 => ?_) (fun x4 => ?_) 4096 ((Int32.ofInt 0), (Int32.ofInt 0))) ⟨rfl, rfl, rfl, rfl, trivial⟩
  · refine x_P 5 rfl rfl rfl ?_
    refine x_P 6 rfl rfl rfl ?_
    refine x_gI rfl (fun x5 hx5 => ?_)
    refine x_ic_ge rfl rfl (fun h10 => ?_) (fun h10 => ?_)
    · exact x_lv (hex3 s1.1) ⟨rfl, trivial⟩
    · refine x_P 13 rfl rfl rfl ?_
      refine x_P 14 rfl rfl rfl ?_
      refine x_P 15 rfl rfl rfl ?_
      refine x_callS rfl rfl rfl rfl rfl rfl ⟨rfl, rfl⟩ (S_145 d a0 s1.2 a1 th) (fun x6 hx6 => ?_)
      refine x_jn 27 (fun v7 => [(0, .ref a0), (1, .int a1), (2, .int v7), (3, .int s1.2)]) (fun v7 => []) (fun v7 => th) (fun v7 => ?_) (fun j8 hj8 => ?_)
      · refine x_P (lv' := [(3, .int (s1.2 + Int32.ofInt 1)), (0, .ref a0), (1, .int a1), (2, .int v7)]) 30 rfl rfl rfl ?_
        refine x_P 4 rfl rfl rfl ?_
        exact x_lv (hnx2 (v7, (s1.2 + Int32.ofInt 1))) ⟨rfl, rfl, rfl, rfl, trivial⟩
      · refine x_if_eq rfl rfl (fun h9 => ?_) (fun h9 => ?_)
        · exact x_lv (hj8 s1.1) ⟨rfl, rfl, rfl, rfl, trivial⟩
        · refine x_P 22 rfl rfl rfl ?_
          refine x_P 23 rfl rfl rfl ?_
          refine x_P 24 rfl rfl rfl ?_
          refine x_P 25 rfl rfl rfl ?_
          refine x_P 26 rfl rfl rfl ?_
          refine x_P (lv' := [(2, .int (s1.1 ||| ((Int32.ofInt 1) <<< (s1.2 &&& 31)))), (0, .ref a0), (1, .int a1), (3, .int s1.2)]) 27 rfl rfl rfl ?_
          exact x_lv (hj8 (s1.1 ||| ((Int32.ofInt 1) <<< (s1.2 &&& 31)))) ⟨rfl, rfl, rfl, rfl, trivial⟩
  · refine x_P 34 rfl rfl rfl ?_
    exact x_retI (x := x4) rfl
-- 37 NineTrees.view(I)I
noncomputable def m_37 (a0 : Nat) (a1 : Int32) (th : tH) : Option (Int32 × tH) :=
  (gC th 7 a0).bind fun _ =>
  (gN th 7 a0 0).bind fun o1 =>
  (m_71 o1 a1 th).bind fun x2 =>
  jn (fun (v3 : Int32 × tH) =>
      some (v3.1, v3.2)
    ) (fun j4 =>
      if x2 = 0 then
        (m_59 a0 (Int8.ofInt (-2)).toInt32 th).bind fun q5 =>
        j4 (q5.1, q5.2)
      else
        (gN th 7 a0 0).bind fun o6 =>
        (m_146 o6 a1 th).bind fun x7 =>
        j4 (x7, th)
    )
theorem c_37 {a0 : Nat} {a1 : Int32} {th : tH} {x : (Int32 × tH)} (h : m_37 a0 a1 th = some x) : ∃ fs, th[a0]? = some (.inr (7, fs)) := gC_of h
theorem S_37 {L : Nat} (d : Nat) (a0 : Nat) (a1 : Int32) (th : tH) : Wx L (fun x => (some (.int x.1), x.2)) (d + 6) 37 2 0 [(0, .ref a0), (1, .int a1)] [] th (m_37 a0 a1 th) := by
  unfold m_37
  refine x_gC ?_
  refine x_P 1 rfl rfl rfl ?_
  refine x_gN rfl (fun o1 ho1 => ?_)
  refine x_P 5 rfl rfl rfl ?_
  refine x_callV rfl rfl rfl rfl rfl ⟨rfl, rfl⟩ (fun x h => c_71 h) (S_71 (d + 4) o1 a1 th) (fun x2 hx2 => ?_)
  refine x_jn 28 (fun v3 => []) (fun v3 => [.int v3.1]) (fun v3 => v3.2) (fun v3 => ?_) (fun j4 hj4 => ?_)
  · exact x_retI (x := (v3.1, v3.2)) rfl
  · refine x_if_eq rfl rfl (fun h8 => ?_) (fun h8 => ?_)
    · refine x_P 23 rfl rfl rfl ?_
      refine x_P 25 rfl rfl rfl ?_
      refine x_callV rfl rfl rfl rfl rfl ⟨rfl, rfl⟩ (fun x h => c_59 h) (S_59 (d + 4) a0 (Int8.ofInt (-2)).toInt32 th) (fun q5 hq5 => ?_)
      exact x_lv (hj4 (q5.1, q5.2)) trivial
    · refine x_P 12 rfl rfl rfl ?_
      refine x_gN rfl (fun o6 ho6 => ?_)
      refine x_P 16 rfl rfl rfl ?_
      refine x_callS rfl rfl rfl rfl rfl rfl ⟨rfl, rfl⟩ (S_146 d o6 a1 th) (fun x7 hx7 => ?_)
      refine x_P 28 rfl rfl rfl ?_
      exact x_lv (hj4 (x7, th)) trivial
-- 147 NineTrees$Sight.areAllSeen(LNineTrees$Garden;I)Z
noncomputable def m_147 (a0 : Nat) (a1 : Int32) (th : tH) : Option (Int32) :=
  lp (fun (s1 : Int32) nx2 ex3 =>
      (gI th 2 a0 5).bind fun x5 =>
      if x5 ≤ s1 then
        ex3 ()
      else
        (m_145 a0 s1 a1 th).bind fun x6 =>
        if x6 = 0 then
          rB (Int32.ofInt 0)
        else
          nx2 (s1 + Int32.ofInt 1)
    ) 4096 (Int32.ofInt 0) (fun (x4 : Unit) =>
      rB (Int32.ofInt 1)
    )
theorem S_147 {L : Nat} (d : Nat) (a0 : Nat) (a1 : Int32) (th : tH) : Wx L (fun x => (some (.int x), th)) (d + 5) 147 3 0 [(0, .ref a0), (1, .int a1)] [] th (m_147 a0 a1 th) := by
  unfold m_147
  refine x_P 1 rfl rfl rfl ?_
  refine x_P (lv' := [(2, .int (Int32.ofInt 0)), (0, .ref a0), (1, .int a1)]) 2 rfl rfl rfl ?_
  refine x_lv (lv := [(0, .ref a0), (1, .int a1), (2, .int (Int32.ofInt 0))]) (x_lp 27 (fun s1 => [(0, .ref a0), (1, .int a1), (2, .int s1)]) (fun s1 => th) (fun x4 => []) (fun x4 => th) (fun s1 nx2 hnx2 ex3 hex3 => ?_) (fun x4 => ?_) 4096 (Int32.ofInt 0)) ⟨rfl, rfl, rfl, trivial⟩
  · refine x_P 3 rfl rfl rfl ?_
    refine x_P 4 rfl rfl rfl ?_
    refine x_gI rfl (fun x5 hx5 => ?_)
    refine x_ic_ge rfl rfl (fun h8 => ?_) (fun h8 => ?_)
    · exact x_lv (hex3 ()) trivial
    · refine x_P 11 rfl rfl rfl ?_
      refine x_P 12 rfl rfl rfl ?_
      refine x_P 13 rfl rfl rfl ?_
      refine x_callS rfl rfl rfl rfl rfl rfl ⟨rfl, rfl⟩ (S_145 d a0 s1 a1 th) (fun x6 hx6 => ?_)
      refine x_if_ne rfl rfl (fun h7 => ?_) (fun h7 => ?_)
      · refine x_P 20 rfl rfl rfl ?_
        exact x_rB rfl
      · refine x_P (lv' := [(2, .int (s1 + Int32.ofInt 1)), (0, .ref a0), (1, .int a1)]) 24 rfl rfl rfl ?_
        refine x_P 2 rfl rfl rfl ?_
        exact x_lv (hnx2 (s1 + Int32.ofInt 1)) ⟨rfl, rfl, rfl, trivial⟩
  · refine x_P 28 rfl rfl rfl ?_
    exact x_rB rfl
-- 38 NineTrees.overlooks()J
noncomputable def m_38 (a0 : Nat) (th : tH) : Option (Int64) :=
  (gC th 7 a0).bind fun _ =>
  lp (fun (s1 : Int64 × Int32) nx2 ex3 =>
      (gN th 7 a0 0).bind fun o5 =>
      (m_70 o5 th).bind fun x6 =>
      if x6 ≤ s1.2 then
        ex3 s1.1
      else
        (gN th 7 a0 0).bind fun o7 =>
        (m_84 o7 s1.2 th).bind fun x8 =>
        jn (fun (v9 : Int64) =>
            nx2 (v9, (s1.2 + Int32.ofInt 1))
          ) (fun j10 =>
            if x8 = 0 then
              j10 s1.1
            else
              (gN th 7 a0 0).bind fun o11 =>
              (m_147 o11 s1.2 th).bind fun x12 =>
              if x12 = 0 then
                j10 s1.1
              else
                j10 (s1.1 ||| ((Int64.ofNat 1) <<< ((Int32.toInt64 s1.2) &&& 63)))
          )
    ) 4096 ((Int64.ofNat 0), (Int32.ofInt 0)) (fun (x4 : Int64) =>
      some x4
    )
theorem c_38 {a0 : Nat} {th : tH} {x : (Int64)} (h : m_38 a0 th = some x) : ∃ fs, th[a0]? = some (.inr (7, fs)) := gC_of h
theorem S_38 {L : Nat} (d : Nat) (a0 : Nat) (th : tH) : Wx L (fun x => (some (.long x), th)) (d + 6) 38 4 0 [(0, .ref a0)] [] th (m_38 a0 th) := by
  unfold m_38
  refine x_gC ?_
  refine x_P 1 rfl rfl rfl ?_
  refine x_P (lv' := [(1, .long (Int64.ofNat 0)), (0, .ref a0)]) 2 rfl rfl rfl ?_
  refine x_P 3 rfl rfl rfl ?_
  refine x_P (lv' := [(3, .int (Int32.ofInt 0)), (1, .long (Int64.ofNat 0)), (0, .ref a0)]) 4 rfl rfl rfl ?_
  refine x_lv (lv := [(0, .ref a0), (1, .long (Int64.ofNat 0)), (3, .int (Int32.ofInt 0))]) (x_lp 49 (fun s1 => [(0, .ref a0), (1, .long s1.1), (3, .int s1.2)]) (fun s1 => th) (fun x4 => [(1, .long x4)]) (fun x4 => th) (fun s1 nx2 hnx2 ex3 hex3 => ?_) (fun x4 => ?_) 4096 ((Int64.ofNat 0), (Int32.ofInt 0))) ⟨rfl, rfl, rfl, trivial⟩
  · refine x_P 5 rfl rfl rfl ?_
    refine x_P 6 rfl rfl rfl ?_
    refine x_gN rfl (fun o5 ho5 => ?_)
    refine x_callV rfl rfl rfl rfl rfl ⟨rfl, rfl⟩ (fun x h => c_70 h) (S_70 (d + 5) o5 th) (fun x6 hx6 => ?_)
    refine x_ic_ge rfl rfl (fun h15 => ?_) (fun h15 => ?_)
    · exact x_lv (hex3 s1.1) ⟨rfl, trivial⟩
    · refine x_P 16 rfl rfl rfl ?_
      refine x_gN rfl (fun o7 ho7 => ?_)
      refine x_P 20 rfl rfl rfl ?_
      refine x_callV rfl rfl rfl rfl rfl ⟨rfl, rfl⟩ (fun x h => c_84 h) (S_84 (d + 4) o7 s1.2 th) (fun x8 hx8 => ?_)
      refine x_jn 43 (fun v9 => [(0, .ref a0), (1, .long v9), (3, .int s1.2)]) (fun v9 => []) (fun v9 => th) (fun v9 => ?_) (fun j10 hj10 => ?_)
      · refine x_P (lv' := [(3, .int (s1.2 + Int32.ofInt 1)), (0, .ref a0), (1, .long v9)]) 46 rfl rfl rfl ?_
        refine x_P 4 rfl rfl rfl ?_
        exact x_lv (hnx2 (v9, (s1.2 + Int32.ofInt 1))) ⟨rfl, rfl, rfl, trivial⟩
      · refine x_if_eq rfl rfl (fun h14 => ?_) (fun h14 => ?_)
        · exact x_lv (hj10 s1.1) ⟨rfl, rfl, rfl, trivial⟩
        · refine x_P 27 rfl rfl rfl ?_
          refine x_gN rfl (fun o11 ho11 => ?_)
          refine x_P 31 rfl rfl rfl ?_
          refine x_callS rfl rfl rfl rfl rfl rfl ⟨rfl, rfl⟩ (S_147 d o11 s1.2 th) (fun x12 hx12 => ?_)
          refine x_if_eq rfl rfl (fun h13 => ?_) (fun h13 => ?_)
          · exact x_lv (hj10 s1.1) ⟨rfl, rfl, rfl, trivial⟩
          · refine x_P 38 rfl rfl rfl ?_
            refine x_P 39 rfl rfl rfl ?_
            refine x_P 40 rfl rfl rfl ?_
            refine x_P 41 rfl rfl rfl ?_
            refine x_P 42 rfl rfl rfl ?_
            refine x_P (lv' := [(1, .long (s1.1 ||| ((Int64.ofNat 1) <<< ((Int32.toInt64 s1.2) &&& 63)))), (0, .ref a0), (3, .int s1.2)]) 43 rfl rfl rfl ?_
            exact x_lv (hj10 (s1.1 ||| ((Int64.ofNat 1) <<< ((Int32.toInt64 s1.2) &&& 63)))) ⟨rfl, rfl, rfl, trivial⟩
  · refine x_P 50 rfl rfl rfl ?_
    exact x_retJ (x := x4) rfl
-- 39 NineTrees.behind(II)I
noncomputable def m_39 (a0 : Nat) (a1 : Int32) (a2 : Int32) (th : tH) : Option (Int32 × tH) :=
  (gC th 7 a0).bind fun _ =>
  (gN th 7 a0 0).bind fun o1 =>
  (m_81 o1 a1 th).bind fun x2 =>
  jn (fun (v3 : Unit) =>
      (m_59 a0 (Int8.ofInt (-2)).toInt32 th).bind fun q5 =>
      some (q5.1, q5.2)
    ) (fun j4 =>
      if x2 = 0 then
        j4 ()
      else
        (gN th 7 a0 0).bind fun o6 =>
        (m_71 o6 a2 th).bind fun x7 =>
        if x7 = 0 then
          j4 ()
        else
          (gN th 7 a0 0).bind fun o8 =>
          (gN th 2 o8 1).bind fun o9 =>
          (aI th o9 a1).bind fun x10 =>
          if x10 = a2 then
            j4 ()
          else
            (gN th 7 a0 0).bind fun o11 =>
            (m_143 o11 a1 a2 th).bind fun x12 =>
            some (x12, th)
    )
theorem c_39 {a0 : Nat} {a1 : Int32} {a2 : Int32} {th : tH} {x : (Int32 × tH)} (h : m_39 a0 a1 a2 th = some x) : ∃ fs, th[a0]? = some (.inr (7, fs)) := gC_of h
theorem S_39 {L : Nat} (d : Nat) (a0 : Nat) (a1 : Int32) (a2 : Int32) (th : tH) : Wx L (fun x => (some (.int x.1), x.2)) (d + 4) 39 3 0 [(0, .ref a0), (1, .int a1), (2, .int a2)] [] th (m_39 a0 a1 a2 th) := by
  unfold m_39
  refine x_gC ?_
  refine x_P 1 rfl rfl rfl ?_
  refine x_gN rfl (fun o1 ho1 => ?_)
  refine x_P 5 rfl rfl rfl ?_
  refine x_callV rfl rfl rfl rfl rfl ⟨rfl, rfl⟩ (fun x h => c_81 h) (S_81 (d + 3) o1 a1 th) (fun x2 hx2 => ?_)
  refine x_jn 35 (fun v3 => [(0, .ref a0)]) (fun v3 => []) (fun v3 => th) (fun v3 => ?_) (fun j4 hj4 => ?_)
  · refine x_P 36 rfl rfl rfl ?_
    refine x_P 38 rfl rfl rfl ?_
    refine x_callV rfl rfl rfl rfl rfl ⟨rfl, rfl⟩ (fun x h => c_59 h) (S_59 (d + 2) a0 (Int8.ofInt (-2)).toInt32 th) (fun q5 hq5 => ?_)
    exact x_retI (x := (q5.1, q5.2)) rfl
  · refine x_if_eq rfl rfl (fun h15 => ?_) (fun h15 => ?_)
    · exact x_lv (hj4 ()) ⟨rfl, trivial⟩
    · refine x_P 12 rfl rfl rfl ?_
      refine x_gN rfl (fun o6 ho6 => ?_)
      refine x_P 16 rfl rfl rfl ?_
      refine x_callV rfl rfl rfl rfl rfl ⟨rfl, rfl⟩ (fun x h => c_71 h) (S_71 (d + 2) o6 a2 th) (fun x7 hx7 => ?_)
      refine x_if_eq rfl rfl (fun h14 => ?_) (fun h14 => ?_)
      · exact x_lv (hj4 ()) ⟨rfl, trivial⟩
      · refine x_P 23 rfl rfl rfl ?_
        refine x_gN rfl (fun o8 ho8 => ?_)
        refine x_gN rfl (fun o9 ho9 => ?_)
        refine x_P 30 rfl rfl rfl ?_
        refine x_aI rfl ⟨rfl, rfl⟩ (fun x10 hx10 => ?_)
        refine x_P 32 rfl rfl rfl ?_
        refine x_ic_ne rfl rfl (fun h13 => ?_) (fun h13 => ?_)
        · exact x_lv (hj4 ()) ⟨rfl, trivial⟩
        · refine x_P 43 rfl rfl rfl ?_
          refine x_gN rfl (fun o11 ho11 => ?_)
          refine x_P 47 rfl rfl rfl ?_
          refine x_P 48 rfl rfl rfl ?_
          refine x_callS rfl rfl rfl rfl rfl rfl ⟨rfl, rfl⟩ (S_143 d o11 a1 a2 th) (fun x12 hx12 => ?_)
          exact x_retI (x := (x12, th)) rfl
-- 133 NineTrees$Shapes.lineOf(LNineTrees$Garden;II)I
noncomputable def m_133 (a0 : Nat) (a1 : Int32) (a2 : Int32) (th : tH) : Option (Int32) :=
  (m_72 a0 a1 th).bind fun x1 =>
  (m_73 a0 a1 th).bind fun x2 =>
  if a2 < 0 ∨ 2 < a2 then
    some (x1 + x2)
  else if a2 = 0 then
    some x1
  else if a2 = 1 then
    some x2
  else if a2 = 2 then
    (gI th 2 a0 4).bind fun x7 =>
    some (((x1 - x2) + x7) - (Int32.ofInt 1))
  else
    none
theorem S_133 {L : Nat} (d : Nat) (a0 : Nat) (a1 : Int32) (a2 : Int32) (th : tH) : Wx L (fun x => (some (.int x), th)) (d + 1) 133 5 0 [(0, .ref a0), (1, .int a1), (2, .int a2)] [] th (m_133 a0 a1 a2 th) := by
  unfold m_133
  refine x_P 1 rfl rfl rfl ?_
  refine x_P 2 rfl rfl rfl ?_
  refine x_callV rfl rfl rfl rfl rfl ⟨rfl, rfl⟩ (fun x h => c_72 h) (S_72 d a0 a1 th) (fun x1 hx1 => ?_)
  refine x_P (lv' := [(3, .int x1), (0, .ref a0), (1, .int a1), (2, .int a2)]) 6 rfl rfl rfl ?_
  refine x_P 7 rfl rfl rfl ?_
  refine x_P 8 rfl rfl rfl ?_
  refine x_callV rfl rfl rfl rfl rfl ⟨rfl, rfl⟩ (fun x h => c_73 h) (S_73 d a0 a1 th) (fun x2 hx2 => ?_)
  refine x_P (lv' := [(4, .int x2), (3, .int x1), (0, .ref a0), (1, .int a1), (2, .int a2)]) 13 rfl rfl rfl ?_
  refine x_P 14 rfl rfl rfl ?_
  refine x_ite (fun h3 => ?_) (fun h3 => ?_)
  · refine x_P 57 rfl rfl (x_td h3 (by decide +kernel)) ?_
    refine x_P 58 rfl rfl rfl ?_
    refine x_P 60 rfl rfl rfl ?_
    refine x_P 61 rfl rfl rfl ?_
    exact x_retI (x := (x1 + x2)) rfl
  · skip
    refine x_ite (fun h4 => ?_) (fun h4 => ?_)
    · refine x_P 40 rfl rfl (x_ts h4 (by decide +kernel)) ?_
      refine x_P 41 rfl rfl rfl ?_
      exact x_retI (x := x1) rfl
    · skip
      refine x_ite (fun h5 => ?_) (fun h5 => ?_)
      · refine x_P 42 rfl rfl (x_ts h5 (by decide +kernel)) ?_
        refine x_P 44 rfl rfl rfl ?_
        exact x_retI (x := x2) rfl
      · skip
        refine x_ite (fun h6 => ?_) (fun h6 => ?_)
        · refine x_P 45 rfl rfl (x_ts h6 (by decide +kernel)) ?_
          refine x_P 46 rfl rfl rfl ?_
          refine x_P 48 rfl rfl rfl ?_
          refine x_P 49 rfl rfl rfl ?_
          refine x_P 50 rfl rfl rfl ?_
          refine x_gI rfl (fun x7 hx7 => ?_)
          refine x_P 54 rfl rfl rfl ?_
          refine x_P 55 rfl rfl rfl ?_
          refine x_P 56 rfl rfl rfl ?_
          exact x_retI (x := (((x1 - x2) + x7) - (Int32.ofInt 1))) rfl
        · skip
          exact x_none
-- 132 NineTrees$Shapes.freeLines(LNineTrees$Garden;I)I
noncomputable def m_132 (a0 : Nat) (a1 : Int32) (th : tH) : Option (Int32) :=
  lp (fun (s1 : Int32 × Int32) nx2 ex3 =>
      (gI th 2 a0 5).bind fun x11 =>
      if x11 ≤ s1.2 then
        ex3 s1.1
      else
        (gN th 2 a0 1).bind fun o12 =>
        (aI th o12 s1.2).bind fun x13 =>
        (m_133 a0 x13 a1 th).bind fun x14 =>
        nx2 ((s1.1 ||| ((Int32.ofInt 1) <<< (x14 &&& 31))), (s1.2 + Int32.ofInt 1))
    ) 4096 ((Int32.ofInt 0), (Int32.ofInt 0)) (fun (x4 : Int32) =>
      jn (fun (v5 : Int32) =>
          (m_173 x4 th).bind fun x7 =>
          some (v5 - x7)
        ) (fun j6 =>
          if (Int32.ofInt 2) ≤ a1 then
            (gI th 2 a0 4).bind fun x8 =>
            j6 (((Int32.ofInt 2) * x8) - (Int32.ofInt 1))
          else
            (gI th 2 a0 4).bind fun x9 =>
            j6 x9
        )
    )
theorem S_132 {L : Nat} (d : Nat) (a0 : Nat) (a1 : Int32) (th : tH) : Wx L (fun x => (some (.int x), th)) (d + 2) 132 4 0 [(0, .ref a0), (1, .int a1)] [] th (m_132 a0 a1 th) := by
  unfold m_132
  refine x_P 1 rfl rfl rfl ?_
  refine x_P (lv' := [(2, .int (Int32.ofInt 0)), (0, .ref a0), (1, .int a1)]) 2 rfl rfl rfl ?_
  refine x_P 3 rfl rfl rfl ?_
  refine x_P (lv' := [(3, .int (Int32.ofInt 0)), (2, .int (Int32.ofInt 0)), (0, .ref a0), (1, .int a1)]) 4 rfl rfl rfl ?_
  refine x_lv (lv := [(0, .ref a0), (1, .int a1), (2, .int (Int32.ofInt 0)), (3, .int (Int32.ofInt 0))]) (x_lp 34 (fun s1 => [(0, .ref a0), (1, .int a1), (2, .int s1.1), (3, .int s1.2)]) (fun s1 => th) (fun x4 => [(0, .ref a0), (1, .int a1), (2, .int x4)]) (fun x4 => th) (fun s1 nx2 hnx2 ex3 hex3 => ?_) (fun x4 => ?_) 4096 ((Int32.ofInt 0), (Int32.ofInt 0))) ⟨rfl, rfl, rfl, rfl, trivial⟩
  · refine x_P 5 rfl rfl rfl ?_
    refine x_P 6 rfl rfl rfl ?_
    refine x_gI rfl (fun x11 hx11 => ?_)
    refine x_ic_ge rfl rfl (fun h15 => ?_) (fun h15 => ?_)
    · exact x_lv (hex3 s1.1) ⟨rfl, rfl, rfl, trivial⟩
    · refine x_P 13 rfl rfl rfl ?_
      refine x_P 14 rfl rfl rfl ?_
      refine x_P 15 rfl rfl rfl ?_
      refine x_P 16 rfl rfl rfl ?_
      refine x_gN rfl (fun o12 ho12 => ?_)
      refine x_P 20 rfl rfl rfl ?_
      refine x_aI rfl ⟨rfl, rfl⟩ (fun x13 hx13 => ?_)
      refine x_P 22 rfl rfl rfl ?_
      refine x_callS rfl rfl rfl rfl rfl rfl ⟨rfl, rfl⟩ (S_133 d a0 x13 a1 th) (fun x14 hx14 => ?_)
      refine x_P 26 rfl rfl rfl ?_
      refine x_P 27 rfl rfl rfl ?_
      refine x_P (lv' := [(2, .int (s1.1 ||| ((Int32.ofInt 1) <<< (x14 &&& 31)))), (0, .ref a0), (1, .int a1), (3, .int s1.2)]) 28 rfl rfl rfl ?_
      refine x_P (lv' := [(3, .int (s1.2 + Int32.ofInt 1)), (2, .int (s1.1 ||| ((Int32.ofInt 1) <<< (x14 &&& 31)))), (0, .ref a0), (1, .int a1)]) 31 rfl rfl rfl ?_
      refine x_P 4 rfl rfl rfl ?_
      exact x_lv (hnx2 ((s1.1 ||| ((Int32.ofInt 1) <<< (x14 &&& 31))), (s1.2 + Int32.ofInt 1))) ⟨rfl, rfl, rfl, rfl, trivial⟩
  · refine x_P 35 rfl rfl rfl ?_
    refine x_P 36 rfl rfl rfl ?_
    refine x_jn 54 (fun v5 => [(2, .int x4)]) (fun v5 => [.int v5]) (fun v5 => th) (fun v5 => ?_) (fun j6 hj6 => ?_)
    · refine x_P (lv' := [(3, .int v5), (2, .int x4)]) 55 rfl rfl rfl ?_
      refine x_P 56 rfl rfl rfl ?_
      refine x_P 57 rfl rfl rfl ?_
      refine x_callS rfl rfl rfl rfl rfl rfl ⟨rfl, rfl⟩ (S_173 (d + 1) x4 th) (fun x7 hx7 => ?_)
      refine x_P 61 rfl rfl rfl ?_
      exact x_retI (x := (v5 - x7)) rfl
    · refine x_ic_ge rfl rfl (fun h10 => ?_) (fun h10 => ?_)
      · refine x_P 47 rfl rfl rfl ?_
        refine x_P 48 rfl rfl rfl ?_
        refine x_gI rfl (fun x8 hx8 => ?_)
        refine x_P 52 rfl rfl rfl ?_
        refine x_P 53 rfl rfl rfl ?_
        refine x_P 54 rfl rfl rfl ?_
        exact x_lv (hj6 (((Int32.ofInt 2) * x8) - (Int32.ofInt 1))) ⟨rfl, trivial⟩
      · refine x_P 40 rfl rfl rfl ?_
        refine x_gI rfl (fun x9 hx9 => ?_)
        refine x_P 54 rfl rfl rfl ?_
        exact x_lv (hj6 x9) ⟨rfl, trivial⟩
-- 40 NineTrees.paths(I)I
noncomputable def m_40 (a0 : Nat) (a1 : Int32) (th : tH) : Option (Int32 × tH) :=
  (gC th 7 a0).bind fun _ =>
  jn (fun (v1 : Int32 × tH) =>
      some (v1.1, v1.2)
    ) (fun j2 =>
      jn (fun (v3 : Unit) =>
          (m_59 a0 (Int8.ofInt (-2)).toInt32 th).bind fun q5 =>
          j2 (q5.1, q5.2)
        ) (fun j4 =>
          if a1 < 0 then
            j4 ()
          else
            if a1 ≤ (Int32.ofInt 3) then
              (gN th 7 a0 0).bind fun o6 =>
              (m_132 o6 a1 th).bind fun x7 =>
              j2 (x7, th)
            else
              j4 ()
        )
    )
theorem c_40 {a0 : Nat} {a1 : Int32} {th : tH} {x : (Int32 × tH)} (h : m_40 a0 a1 th = some x) : ∃ fs, th[a0]? = some (.inr (7, fs)) := gC_of h
theorem S_40 {L : Nat} (d : Nat) (a0 : Nat) (a1 : Int32) (th : tH) : Wx L (fun x => (some (.int x.1), x.2)) (d + 3) 40 2 0 [(0, .ref a0), (1, .int a1)] [] th (m_40 a0 a1 th) := by
  unfold m_40
  refine x_gC ?_
  refine x_P 1 rfl rfl rfl ?_
  refine x_jn 26 (fun v1 => []) (fun v1 => [.int v1.1]) (fun v1 => v1.2) (fun v1 => ?_) (fun j2 hj2 => ?_)
  · exact x_retI (x := (v1.1, v1.2)) rfl
  · refine x_jn 9 (fun v3 => [(0, .ref a0)]) (fun v3 => []) (fun v3 => th) (fun v3 => ?_) (fun j4 hj4 => ?_)
    · refine x_P 10 rfl rfl rfl ?_
      refine x_P 12 rfl rfl rfl ?_
      refine x_callV rfl rfl rfl rfl rfl ⟨rfl, rfl⟩ (fun x h => c_59 h) (S_59 (d + 1) a0 (Int8.ofInt (-2)).toInt32 th) (fun q5 hq5 => ?_)
      refine x_P 26 rfl rfl rfl ?_
      exact x_lv (hj2 (q5.1, q5.2)) trivial
    · refine x_if_lt rfl rfl (fun h9 => ?_) (fun h9 => ?_)
      · exact x_lv (hj4 ()) ⟨rfl, trivial⟩
      · refine x_P 5 rfl rfl rfl ?_
        refine x_P 6 rfl rfl rfl ?_
        refine x_ic_le rfl rfl (fun h8 => ?_) (fun h8 => ?_)
        · refine x_P 19 rfl rfl rfl ?_
          refine x_gN rfl (fun o6 ho6 => ?_)
          refine x_P 23 rfl rfl rfl ?_
          refine x_callS rfl rfl rfl rfl rfl rfl ⟨rfl, rfl⟩ (S_132 d o6 a1 th) (fun x7 hx7 => ?_)
          exact x_lv (hj2 (x7, th)) trivial
        · exact x_lv (hj4 ()) ⟨rfl, trivial⟩
-- 95 NineTrees$Garden.isWish(I)Z
noncomputable def m_95 (a0 : Nat) (a1 : Int32) (th : tH) : Option (Int32) :=
  (gC th 2 a0).bind fun _ =>
  jn (fun (v1 : Int32) =>
      rB v1
    ) (fun j2 =>
      jn (fun (v3 : Unit) =>
          j2 (Int32.ofInt 0)
        ) (fun j4 =>
          if a1 < 0 then
            j4 ()
          else
            (gI th 2 a0 6).bind fun x5 =>
            if x5 ≤ a1 then
              j4 ()
            else
              j2 (Int32.ofInt 1)
        )
    )
theorem c_95 {a0 : Nat} {a1 : Int32} {th : tH} {x : (Int32)} (h : m_95 a0 a1 th = some x) : ∃ fs, th[a0]? = some (.inr (2, fs)) := gC_of h
theorem S_95 {L : Nat} (d : Nat) (a0 : Nat) (a1 : Int32) (th : tH) : Wx L (fun x => (some (.int x), th)) d 95 2 0 [(0, .ref a0), (1, .int a1)] [] th (m_95 a0 a1 th) := by
  unfold m_95
  refine x_gC ?_
  refine x_P 1 rfl rfl rfl ?_
  refine x_jn 17 (fun v1 => []) (fun v1 => [.int v1]) (fun v1 => th) (fun v1 => ?_) (fun j2 hj2 => ?_)
  · exact x_rB rfl
  · refine x_jn 16 (fun v3 => []) (fun v3 => []) (fun v3 => th) (fun v3 => ?_) (fun j4 hj4 => ?_)
    · refine x_P 17 rfl rfl rfl ?_
      exact x_lv (hj2 (Int32.ofInt 0)) trivial
    · refine x_if_lt rfl rfl (fun h7 => ?_) (fun h7 => ?_)
      · exact x_lv (hj4 ()) trivial
      · refine x_P 5 rfl rfl rfl ?_
        refine x_P 6 rfl rfl rfl ?_
        refine x_gI rfl (fun x5 hx5 => ?_)
        refine x_ic_ge rfl rfl (fun h6 => ?_) (fun h6 => ?_)
        · exact x_lv (hj4 ()) trivial
        · refine x_P 13 rfl rfl rfl ?_
          refine x_P 17 rfl rfl rfl ?_
          exact x_lv (hj2 (Int32.ofInt 1)) trivial
-- 41 NineTrees.wishOf(I)I
noncomputable def m_41 (a0 : Nat) (a1 : Int32) (th : tH) : Option (Int32 × tH) :=
  (gC th 7 a0).bind fun _ =>
  (gN th 7 a0 0).bind fun o1 =>
  (m_95 o1 a1 th).bind fun x2 =>
  jn (fun (v3 : Int32 × tH) =>
      some (v3.1, v3.2)
    ) (fun j4 =>
      if x2 = 0 then
        (m_59 a0 (Int8.ofInt (-2)).toInt32 th).bind fun q5 =>
        j4 (q5.1, q5.2)
      else
        (gN th 7 a0 0).bind fun o6 =>
        (gN th 2 o6 3).bind fun o7 =>
        (aI th o7 a1).bind fun x8 =>
        j4 (x8, th)
    )
theorem c_41 {a0 : Nat} {a1 : Int32} {th : tH} {x : (Int32 × tH)} (h : m_41 a0 a1 th = some x) : ∃ fs, th[a0]? = some (.inr (7, fs)) := gC_of h
theorem S_41 {L : Nat} (d : Nat) (a0 : Nat) (a1 : Int32) (th : tH) : Wx L (fun x => (some (.int x.1), x.2)) (d + 2) 41 2 0 [(0, .ref a0), (1, .int a1)] [] th (m_41 a0 a1 th) := by
  unfold m_41
  refine x_gC ?_
  refine x_P 1 rfl rfl rfl ?_
  refine x_gN rfl (fun o1 ho1 => ?_)
  refine x_P 5 rfl rfl rfl ?_
  refine x_callV rfl rfl rfl rfl rfl ⟨rfl, rfl⟩ (fun x h => c_95 h) (S_95 (d + 1) o1 a1 th) (fun x2 hx2 => ?_)
  refine x_jn 29 (fun v3 => []) (fun v3 => [.int v3.1]) (fun v3 => v3.2) (fun v3 => ?_) (fun j4 hj4 => ?_)
  · exact x_retI (x := (v3.1, v3.2)) rfl
  · refine x_if_eq rfl rfl (fun h9 => ?_) (fun h9 => ?_)
    · refine x_P 24 rfl rfl rfl ?_
      refine x_P 26 rfl rfl rfl ?_
      refine x_callV rfl rfl rfl rfl rfl ⟨rfl, rfl⟩ (fun x h => c_59 h) (S_59 d a0 (Int8.ofInt (-2)).toInt32 th) (fun q5 hq5 => ?_)
      exact x_lv (hj4 (q5.1, q5.2)) trivial
    · refine x_P 12 rfl rfl rfl ?_
      refine x_gN rfl (fun o6 ho6 => ?_)
      refine x_gN rfl (fun o7 ho7 => ?_)
      refine x_P 19 rfl rfl rfl ?_
      refine x_aI rfl ⟨rfl, rfl⟩ (fun x8 hx8 => ?_)
      refine x_P 29 rfl rfl rfl ?_
      exact x_lv (hj4 (x8, th)) trivial
-- 98 NineTrees$Garden.wishesMet()I
noncomputable def m_98 (a0 : Nat) (th : tH) : Option (Int32) :=
  (gC th 2 a0).bind fun _ =>
  lp (fun (s1 : Int32 × Int32) nx2 ex3 =>
      (gI th 2 a0 6).bind fun x5 =>
      if x5 ≤ s1.2 then
        ex3 s1.1
      else
        (gN th 2 a0 3).bind fun o6 =>
        (aI th o6 s1.2).bind fun x7 =>
        (m_94 a0 x7 th).bind fun x8 =>
        jn (fun (v9 : Int32) =>
            nx2 (v9, (s1.2 + Int32.ofInt 1))
          ) (fun j10 =>
            if x8 = 0 then
              j10 s1.1
            else
              j10 (s1.1 + Int32.ofInt 1)
          )
    ) 4096 ((Int32.ofInt 0), (Int32.ofInt 0)) (fun (x4 : Int32) =>
      some x4
    )
theorem c_98 {a0 : Nat} {th : tH} {x : (Int32)} (h : m_98 a0 th = some x) : ∃ fs, th[a0]? = some (.inr (2, fs)) := gC_of h
theorem S_98 {L : Nat} (d : Nat) (a0 : Nat) (th : tH) : Wx L (fun x => (some (.int x), th)) (d + 4) 98 3 0 [(0, .ref a0)] [] th (m_98 a0 th) := by
  unfold m_98
  refine x_gC ?_
  refine x_P 1 rfl rfl rfl ?_
  refine x_P (lv' := [(1, .int (Int32.ofInt 0)), (0, .ref a0)]) 2 rfl rfl rfl ?_
  refine x_P 3 rfl rfl rfl ?_
  refine x_P (lv' := [(2, .int (Int32.ofInt 0)), (1, .int (Int32.ofInt 0)), (0, .ref a0)]) 4 rfl rfl rfl ?_
  refine x_lv (lv := [(0, .ref a0), (1, .int (Int32.ofInt 0)), (2, .int (Int32.ofInt 0))]) (x_lp 34 (fun s1 => [(0, .ref a0), (1, .int s1.1), (2, .int s1.2)]) (fun s1 => th) (fun x4 => [(1, .int x4)]) (fun x4 => th) (fun s1 nx2 hnx2 ex3 hex3 => ?_) (fun x4 => ?_) 4096 ((Int32.ofInt 0), (Int32.ofInt 0))) ⟨rfl, rfl, rfl, trivial⟩
  · refine x_P 5 rfl rfl rfl ?_
    refine x_P 6 rfl rfl rfl ?_
    refine x_gI rfl (fun x5 hx5 => ?_)
    refine x_ic_ge rfl rfl (fun h12 => ?_) (fun h12 => ?_)
    · exact x_lv (hex3 s1.1) ⟨rfl, trivial⟩
    · refine x_P 13 rfl rfl rfl ?_
      refine x_P 14 rfl rfl rfl ?_
      refine x_gN rfl (fun o6 ho6 => ?_)
      refine x_P 18 rfl rfl rfl ?_
      refine x_aI rfl ⟨rfl, rfl⟩ (fun x7 hx7 => ?_)
      refine x_callV rfl rfl rfl rfl rfl ⟨rfl, rfl⟩ (fun x h => c_94 h) (S_94 d a0 x7 th) (fun x8 hx8 => ?_)
      refine x_jn 28 (fun v9 => [(0, .ref a0), (1, .int v9), (2, .int s1.2)]) (fun v9 => []) (fun v9 => th) (fun v9 => ?_) (fun j10 hj10 => ?_)
      · refine x_P (lv' := [(2, .int (s1.2 + Int32.ofInt 1)), (0, .ref a0), (1, .int v9)]) 31 rfl rfl rfl ?_
        refine x_P 4 rfl rfl rfl ?_
        exact x_lv (hnx2 (v9, (s1.2 + Int32.ofInt 1))) ⟨rfl, rfl, rfl, trivial⟩
      · refine x_if_eq rfl rfl (fun h11 => ?_) (fun h11 => ?_)
        · exact x_lv (hj10 s1.1) ⟨rfl, rfl, rfl, trivial⟩
        · refine x_P (lv' := [(1, .int (s1.1 + Int32.ofInt 1)), (0, .ref a0), (2, .int s1.2)]) 28 rfl rfl rfl ?_
          exact x_lv (hj10 (s1.1 + Int32.ofInt 1)) ⟨rfl, rfl, rfl, trivial⟩
  · refine x_P 35 rfl rfl rfl ?_
    exact x_retI (x := x4) rfl
-- 42 NineTrees.met(I)I
noncomputable def m_42 (a0 : Nat) (a1 : Int32) (th : tH) : Option (Int32 × tH) :=
  (gC th 7 a0).bind fun _ =>
  if a1 = (Int32.ofInt (-1)) then
    (gN th 7 a0 0).bind fun o13 =>
    (m_98 o13 th).bind fun x14 =>
    some (x14, th)
  else
    (gN th 7 a0 0).bind fun o1 =>
    (m_95 o1 a1 th).bind fun x2 =>
    if x2 = 0 then
      (m_59 a0 (Int8.ofInt (-2)).toInt32 th).bind fun q11 =>
      some (q11.1, q11.2)
    else
      (gN th 7 a0 0).bind fun o3 =>
      (gN th 7 a0 0).bind fun o4 =>
      (gN th 2 o4 3).bind fun o5 =>
      (aI th o5 a1).bind fun x6 =>
      (m_94 o3 x6 th).bind fun x7 =>
      jn (fun (v8 : Int32) =>
          some (v8, th)
        ) (fun j9 =>
          if x7 = 0 then
            j9 (Int32.ofInt 0)
          else
            j9 (Int32.ofInt 1)
        )
theorem c_42 {a0 : Nat} {a1 : Int32} {th : tH} {x : (Int32 × tH)} (h : m_42 a0 a1 th = some x) : ∃ fs, th[a0]? = some (.inr (7, fs)) := gC_of h
theorem S_42 {L : Nat} (d : Nat) (a0 : Nat) (a1 : Int32) (th : tH) : Wx L (fun x => (some (.int x.1), x.2)) (d + 5) 42 2 0 [(0, .ref a0), (1, .int a1)] [] th (m_42 a0 a1 th) := by
  unfold m_42
  refine x_gC ?_
  refine x_P 1 rfl rfl rfl ?_
  refine x_P 2 rfl rfl rfl ?_
  refine x_ic_ne rfl rfl (fun h15 => ?_) (fun h15 => ?_)
  · refine x_P 6 rfl rfl rfl ?_
    refine x_gN rfl (fun o13 ho13 => ?_)
    refine x_callV rfl rfl rfl rfl rfl ⟨rfl, rfl⟩ (fun x h => c_98 h) (S_98 d o13 th) (fun x14 hx14 => ?_)
    exact x_retI (x := (x14, th)) rfl
  · refine x_P 14 rfl rfl rfl ?_
    refine x_gN rfl (fun o1 ho1 => ?_)
    refine x_P 18 rfl rfl rfl ?_
    refine x_callV rfl rfl rfl rfl rfl ⟨rfl, rfl⟩ (fun x h => c_95 h) (S_95 (d + 4) o1 a1 th) (fun x2 hx2 => ?_)
    refine x_if_ne rfl rfl (fun h12 => ?_) (fun h12 => ?_)
    · refine x_P 25 rfl rfl rfl ?_
      refine x_P 27 rfl rfl rfl ?_
      refine x_callV rfl rfl rfl rfl rfl ⟨rfl, rfl⟩ (fun x h => c_59 h) (S_59 (d + 3) a0 (Int8.ofInt (-2)).toInt32 th) (fun q11 hq11 => ?_)
      exact x_retI (x := (q11.1, q11.2)) rfl
    · refine x_P 32 rfl rfl rfl ?_
      refine x_gN rfl (fun o3 ho3 => ?_)
      refine x_P 36 rfl rfl rfl ?_
      refine x_gN rfl (fun o4 ho4 => ?_)
      refine x_gN rfl (fun o5 ho5 => ?_)
      refine x_P 43 rfl rfl rfl ?_
      refine x_aI rfl ⟨rfl, rfl⟩ (fun x6 hx6 => ?_)
      refine x_callV rfl rfl rfl rfl rfl ⟨rfl, rfl⟩ (fun x h => c_94 h) (S_94 (d + 1) o3 x6 th) (fun x7 hx7 => ?_)
      refine x_jn 55 (fun v8 => []) (fun v8 => [.int v8]) (fun v8 => th) (fun v8 => ?_) (fun j9 hj9 => ?_)
      · exact x_retI (x := (v8, th)) rfl
      · refine x_if_eq rfl rfl (fun h10 => ?_) (fun h10 => ?_)
        · refine x_P 55 rfl rfl rfl ?_
          exact x_lv (hj9 (Int32.ofInt 0)) trivial
        · refine x_P 51 rfl rfl rfl ?_
          refine x_P 55 rfl rfl rfl ?_
          exact x_lv (hj9 (Int32.ofInt 1)) trivial
-- 121 NineTrees$Moves.weighWishes(LNineTrees$Garden;I)V
noncomputable def m_121 (a0 : Nat) (a1 : Nat) (a2 : Int32) (th : tH) : Option tH :=
  (gC th 3 a0).bind fun _ =>
  (pI th 3 a0 1 (Int32.ofInt 0)).bind fun th1 =>
  (gN th1 3 a0 0).bind fun o2 =>
  (m_113 o2 th1).bind fun th3 =>
  lp (fun (s4 : Int32 × tH) nx5 ex6 =>
      (gI s4.2 2 a1 6).bind fun x8 =>
      if x8 ≤ s4.1 then
        ex6 s4.2
      else
        (gN s4.2 2 a1 3).bind fun o9 =>
        (aI s4.2 o9 s4.1).bind fun x10 =>
        (m_94 a1 (x10 &&& (((Int32.ofInt 1) <<< (a2 &&& 31)) ^^^ (Int32.ofInt (-1)))) s4.2).bind fun x11 =>
        jn (fun (v12 : tH) =>
            nx5 ((s4.1 + Int32.ofInt 1), v12)
          ) (fun j13 =>
            if x11 = 0 then
              j13 s4.2
            else
              (gN s4.2 2 a1 3).bind fun o14 =>
              (aI s4.2 o14 s4.1).bind fun x15 =>
              if (x10 &&& (((Int32.ofInt 1) <<< (a2 &&& 31)) ^^^ (Int32.ofInt (-1)))) = x15 then
                (gI s4.2 3 a0 1).bind fun x20 =>
                (pI s4.2 3 a0 1 (x20 + (Int32.ofInt 1))).bind fun th21 =>
                j13 th21
              else
                (m_85 a1 a2 (Int32.ofInt 4) s4.2).bind fun x16 =>
                if x16 = 0 then
                  (gN s4.2 3 a0 0).bind fun o17 =>
                  (m_115 o17 a1 (x10 &&& (((Int32.ofInt 1) <<< (a2 &&& 31)) ^^^ (Int32.ofInt (-1)))) s4.2).bind fun th18 =>
                  j13 th18
                else
                  j13 s4.2
          )
    ) 4096 ((Int32.ofInt 0), th3) (fun (x7 : tH) =>
      some x7
    )
theorem c_121 {a0 : Nat} {a1 : Nat} {a2 : Int32} {th : tH} {x : tH} (h : m_121 a0 a1 a2 th = some x) : ∃ fs, th[a0]? = some (.inr (3, fs)) := gC_of h
theorem S_121 {L : Nat} (d : Nat) (a0 : Nat) (a1 : Nat) (a2 : Int32) (th : tH) : Wx L (fun x => (none, x)) (d + 4) 121 5 0 [(0, .ref a0), (1, .ref a1), (2, .int a2)] [] th (m_121 a0 a1 a2 th) := by
  unfold m_121
  refine x_gC ?_
  refine x_P 1 rfl rfl rfl ?_
  refine x_P 2 rfl rfl rfl ?_
  refine x_pI rfl (fun th1 hth1 => ?_)
  refine x_P 6 rfl rfl rfl ?_
  refine x_gN rfl (fun o2 ho2 => ?_)
  refine x_callW rfl rfl rfl rfl rfl ⟨rfl, rfl⟩ (fun x h => c_113 h) (S_113 (d + 2) o2 th1) (fun th3 hth3 => ?_)
  refine x_P 13 rfl rfl rfl ?_
  refine x_P (lv' := [(3, .int (Int32.ofInt 0)), (0, .ref a0), (1, .ref a1), (2, .int a2)]) 14 rfl rfl rfl ?_
  refine x_lv (lv := [(0, .ref a0), (1, .ref a1), (2, .int a2), (3, .int (Int32.ofInt 0))]) (x_lp 94 (fun s4 => [(0, .ref a0), (1, .ref a1), (2, .int a2), (3, .int s4.1)]) (fun s4 => s4.2) (fun x7 => []) (fun x7 => x7) (fun s4 nx5 hnx5 ex6 hex6 => ?_) (fun x7 => ?_) 4096 ((Int32.ofInt 0), th3)) ⟨rfl, rfl, rfl, rfl, trivial⟩
  · refine x_P 15 rfl rfl rfl ?_
    refine x_P 16 rfl rfl rfl ?_
    refine x_gI rfl (fun x8 hx8 => ?_)
    refine x_ic_ge rfl rfl (fun h24 => ?_) (fun h24 => ?_)
    · exact x_lv (hex6 s4.2) trivial
    · refine x_P 23 rfl rfl rfl ?_
      refine x_gN rfl (fun o9 ho9 => ?_)
      refine x_P 27 rfl rfl rfl ?_
      refine x_aI rfl ⟨rfl, rfl⟩ (fun x10 hx10 => ?_)
      refine x_P 29 rfl rfl rfl ?_
      refine x_P 30 rfl rfl rfl ?_
      refine x_P 31 rfl rfl rfl ?_
      refine x_P 32 rfl rfl rfl ?_
      refine x_P 33 rfl rfl rfl ?_
      refine x_P 34 rfl rfl rfl ?_
      refine x_P (lv' := [(4, .int (x10 &&& (((Int32.ofInt 1) <<< (a2 &&& 31)) ^^^ (Int32.ofInt (-1))))), (0, .ref a0), (1, .ref a1), (2, .int a2), (3, .int s4.1)]) 36 rfl rfl rfl ?_
      refine x_P 37 rfl rfl rfl ?_
      refine x_P 39 rfl rfl rfl ?_
      refine x_callV rfl rfl rfl rfl rfl ⟨rfl, rfl⟩ (fun x h => c_94 h) (S_94 d a1 (x10 &&& (((Int32.ofInt 1) <<< (a2 &&& 31)) ^^^ (Int32.ofInt (-1)))) s4.2) (fun x11 hx11 => ?_)
      refine x_jn 88 (fun v12 => [(0, .ref a0), (1, .ref a1), (2, .int a2), (3, .int s4.1)]) (fun v12 => []) (fun v12 => v12) (fun v12 => ?_) (fun j13 hj13 => ?_)
      · refine x_P (lv' := [(3, .int (s4.1 + Int32.ofInt 1)), (0, .ref a0), (1, .ref a1), (2, .int a2)]) 91 rfl rfl rfl ?_
        refine x_P 14 rfl rfl rfl ?_
        exact x_lv (hnx5 ((s4.1 + Int32.ofInt 1), v12)) ⟨rfl, rfl, rfl, rfl, trivial⟩
      · refine x_if_eq rfl rfl (fun h23 => ?_) (fun h23 => ?_)
        · exact x_lv (hj13 s4.2) ⟨rfl, rfl, rfl, rfl, trivial⟩
        · refine x_P 47 rfl rfl rfl ?_
          refine x_P 48 rfl rfl rfl ?_
          refine x_gN rfl (fun o14 ho14 => ?_)
          refine x_P 52 rfl rfl rfl ?_
          refine x_aI rfl ⟨rfl, rfl⟩ (fun x15 hx15 => ?_)
          refine x_ic_ne rfl rfl (fun h22 => ?_) (fun h22 => ?_)
          · refine x_P 57 rfl rfl rfl ?_
            refine x_P 58 rfl rfl rfl ?_
            refine x_gI rfl (fun x20 hx20 => ?_)
            refine x_P 62 rfl rfl rfl ?_
            refine x_P 63 rfl rfl rfl ?_
            refine x_pI rfl (fun th21 hth21 => ?_)
            refine x_P 88 rfl rfl rfl ?_
            exact x_lv (hj13 th21) ⟨rfl, rfl, rfl, rfl, trivial⟩
          · refine x_P 70 rfl rfl rfl ?_
            refine x_P 71 rfl rfl rfl ?_
            refine x_P 72 rfl rfl rfl ?_
            refine x_callV rfl rfl rfl rfl rfl ⟨rfl, rfl⟩ (fun x h => c_85 h) (S_85 (d + 3) a1 a2 (Int32.ofInt 4) s4.2) (fun x16 hx16 => ?_)
            refine x_if_ne rfl rfl (fun h19 => ?_) (fun h19 => ?_)
            · refine x_P 79 rfl rfl rfl ?_
              refine x_gN rfl (fun o17 ho17 => ?_)
              refine x_P 83 rfl rfl rfl ?_
              refine x_P 85 rfl rfl rfl ?_
              refine x_callW rfl rfl rfl rfl rfl ⟨rfl, rfl⟩ (fun x h => c_115 h) (S_115 (d + 1) o17 a1 (x10 &&& (((Int32.ofInt 1) <<< (a2 &&& 31)) ^^^ (Int32.ofInt (-1)))) s4.2) (fun th18 hth18 => ?_)
              exact x_lv (hj13 th18) ⟨rfl, rfl, rfl, rfl, trivial⟩
            · exact x_lv (hj13 s4.2) ⟨rfl, rfl, rfl, rfl, trivial⟩
  · exact x_retV (x := x7) rfl
-- 118 NineTrees$Moves.findMostWishes(LNineTrees$Garden;)V
noncomputable def m_118 (a0 : Nat) (a1 : Nat) (th : tH) : Option tH :=
  (gC th 3 a0).bind fun _ =>
  (m_122 a0 th).bind fun th1 =>
  lp (fun (s2 : Int32 × tH) nx3 ex4 =>
      (gI s2.2 2 a1 5).bind fun x6 =>
      if x6 ≤ s2.1 then
        ex4 s2.2
      else
        (m_87 a1 s2.1 s2.2).bind fun x7 =>
        jn (fun (v8 : tH) =>
            nx3 ((s2.1 + Int32.ofInt 1), v8)
          ) (fun j9 =>
            if x7 = 0 then
              j9 s2.2
            else
              (m_121 a0 a1 s2.1 s2.2).bind fun th10 =>
              (m_123 a0 a1 s2.1 th10).bind fun th11 =>
              j9 th11
          )
    ) 4096 ((Int32.ofInt 0), th1) (fun (x5 : tH) =>
      some x5
    )
theorem c_118 {a0 : Nat} {a1 : Nat} {th : tH} {x : tH} (h : m_118 a0 a1 th = some x) : ∃ fs, th[a0]? = some (.inr (3, fs)) := gC_of h
theorem S_118 {L : Nat} (d : Nat) (a0 : Nat) (a1 : Nat) (th : tH) : Wx L (fun x => (none, x)) (d + 5) 118 3 0 [(0, .ref a0), (1, .ref a1)] [] th (m_118 a0 a1 th) := by
  unfold m_118
  refine x_gC ?_
  refine x_P 1 rfl rfl rfl ?_
  refine x_callW rfl rfl rfl rfl rfl ⟨rfl, rfl⟩ (fun x h => c_122 h) (S_122 (d + 3) a0 th) (fun th1 hth1 => ?_)
  refine x_P 5 rfl rfl rfl ?_
  refine x_P (lv' := [(2, .int (Int32.ofInt 0)), (0, .ref a0), (1, .ref a1)]) 6 rfl rfl rfl ?_
  refine x_lv (lv := [(0, .ref a0), (1, .ref a1), (2, .int (Int32.ofInt 0))]) (x_lp 40 (fun s2 => [(0, .ref a0), (1, .ref a1), (2, .int s2.1)]) (fun s2 => s2.2) (fun x5 => []) (fun x5 => x5) (fun s2 nx3 hnx3 ex4 hex4 => ?_) (fun x5 => ?_) 4096 ((Int32.ofInt 0), th1)) ⟨rfl, rfl, rfl, trivial⟩
  · refine x_P 7 rfl rfl rfl ?_
    refine x_P 8 rfl rfl rfl ?_
    refine x_gI rfl (fun x6 hx6 => ?_)
    refine x_ic_ge rfl rfl (fun h13 => ?_) (fun h13 => ?_)
    · exact x_lv (hex4 s2.2) trivial
    · refine x_P 15 rfl rfl rfl ?_
      refine x_P 16 rfl rfl rfl ?_
      refine x_callV rfl rfl rfl rfl rfl ⟨rfl, rfl⟩ (fun x h => c_87 h) (S_87 (d + 3) a1 s2.1 s2.2) (fun x7 hx7 => ?_)
      refine x_jn 34 (fun v8 => [(0, .ref a0), (1, .ref a1), (2, .int s2.1)]) (fun v8 => []) (fun v8 => v8) (fun v8 => ?_) (fun j9 hj9 => ?_)
      · refine x_P (lv' := [(2, .int (s2.1 + Int32.ofInt 1)), (0, .ref a0), (1, .ref a1)]) 37 rfl rfl rfl ?_
        refine x_P 6 rfl rfl rfl ?_
        exact x_lv (hnx3 ((s2.1 + Int32.ofInt 1), v8)) ⟨rfl, rfl, rfl, trivial⟩
      · refine x_if_eq rfl rfl (fun h12 => ?_) (fun h12 => ?_)
        · exact x_lv (hj9 s2.2) ⟨rfl, rfl, rfl, trivial⟩
        · refine x_P 23 rfl rfl rfl ?_
          refine x_P 24 rfl rfl rfl ?_
          refine x_P 25 rfl rfl rfl ?_
          refine x_callW rfl rfl rfl rfl rfl ⟨rfl, rfl⟩ (fun x h => c_121 h) (S_121 d a0 a1 s2.1 s2.2) (fun th10 hth10 => ?_)
          refine x_P 29 rfl rfl rfl ?_
          refine x_P 30 rfl rfl rfl ?_
          refine x_P 31 rfl rfl rfl ?_
          refine x_callW rfl rfl rfl rfl rfl ⟨rfl, rfl⟩ (fun x h => c_123 h) (S_123 (d + 2) a0 a1 s2.1 th10) (fun th11 hth11 => ?_)
          exact x_lv (hj9 th11) ⟨rfl, rfl, rfl, trivial⟩
  · exact x_retV (x := x5) rfl
-- 43 NineTrees.bestFor(I)I
noncomputable def m_43 (a0 : Nat) (a1 : Int32) (th : tH) : Option (Int32 × tH) :=
  (gC th 7 a0).bind fun _ =>
  jn (fun (v1 : Unit) =>
      (m_59 a0 (Int8.ofInt (-2)).toInt32 th).bind fun q3 =>
      some (q3.1, q3.2)
    ) (fun j2 =>
      if a1 < 0 then
        j2 ()
      else
        if a1 ≤ (Int32.ofInt 2) then
          (gN th 7 a0 5).bind fun o4 =>
          (gN th 7 a0 0).bind fun o5 =>
          (m_118 o4 o5 th).bind fun th6 =>
          (gN th6 7 a0 5).bind fun o7 =>
          (m_124 o7 a1 th6).bind fun x8 =>
          some (x8, th6)
        else
          j2 ()
    )
theorem c_43 {a0 : Nat} {a1 : Int32} {th : tH} {x : (Int32 × tH)} (h : m_43 a0 a1 th = some x) : ∃ fs, th[a0]? = some (.inr (7, fs)) := gC_of h
theorem S_43 {L : Nat} (d : Nat) (a0 : Nat) (a1 : Int32) (th : tH) : Wx L (fun x => (some (.int x.1), x.2)) (d + 6) 43 2 0 [(0, .ref a0), (1, .int a1)] [] th (m_43 a0 a1 th) := by
  unfold m_43
  refine x_gC ?_
  refine x_P 1 rfl rfl rfl ?_
  refine x_jn 9 (fun v1 => [(0, .ref a0)]) (fun v1 => []) (fun v1 => th) (fun v1 => ?_) (fun j2 hj2 => ?_)
  · refine x_P 10 rfl rfl rfl ?_
    refine x_P 12 rfl rfl rfl ?_
    refine x_callV rfl rfl rfl rfl rfl ⟨rfl, rfl⟩ (fun x h => c_59 h) (S_59 (d + 4) a0 (Int8.ofInt (-2)).toInt32 th) (fun q3 hq3 => ?_)
    exact x_retI (x := (q3.1, q3.2)) rfl
  · refine x_if_lt rfl rfl (fun h10 => ?_) (fun h10 => ?_)
    · exact x_lv (hj2 ()) ⟨rfl, trivial⟩
    · refine x_P 5 rfl rfl rfl ?_
      refine x_P 6 rfl rfl rfl ?_
      refine x_ic_le rfl rfl (fun h9 => ?_) (fun h9 => ?_)
      · refine x_P 17 rfl rfl rfl ?_
        refine x_gN rfl (fun o4 ho4 => ?_)
        refine x_P 21 rfl rfl rfl ?_
        refine x_gN rfl (fun o5 ho5 => ?_)
        refine x_callW rfl rfl rfl rfl rfl ⟨rfl, rfl⟩ (fun x h => c_118 h) (S_118 d o4 o5 th) (fun th6 hth6 => ?_)
        refine x_P 28 rfl rfl rfl ?_
        refine x_gN rfl (fun o7 ho7 => ?_)
        refine x_P 32 rfl rfl rfl ?_
        refine x_callV rfl rfl rfl rfl rfl ⟨rfl, rfl⟩ (fun x h => c_124 h) (S_124 (d + 5) o7 a1 th6) (fun x8 hx8 => ?_)
        exact x_retI (x := (x8, th6)) rfl
      · exact x_lv (hj2 ()) ⟨rfl, trivial⟩
-- 75 NineTrees$Garden.turned(I)I
noncomputable def m_75 (a0 : Nat) (a1 : Int32) (th : tH) : Option (Int32) :=
  (gC th 2 a0).bind fun _ =>
  (m_73 a0 a1 th).bind fun x1 =>
  (gI th 2 a0 4).bind fun x2 =>
  (m_72 a0 a1 th).bind fun x3 =>
  (m_74 a0 x1 ((x2 - (Int32.ofInt 1)) - x3) th).bind fun x4 =>
  some x4
theorem c_75 {a0 : Nat} {a1 : Int32} {th : tH} {x : (Int32)} (h : m_75 a0 a1 th = some x) : ∃ fs, th[a0]? = some (.inr (2, fs)) := gC_of h
theorem S_75 {L : Nat} (d : Nat) (a0 : Nat) (a1 : Int32) (th : tH) : Wx L (fun x => (some (.int x), th)) (d + 1) 75 2 0 [(0, .ref a0), (1, .int a1)] [] th (m_75 a0 a1 th) := by
  unfold m_75
  refine x_gC ?_
  refine x_P 1 rfl rfl rfl ?_
  refine x_P 2 rfl rfl rfl ?_
  refine x_P 3 rfl rfl rfl ?_
  refine x_callV rfl rfl rfl rfl rfl ⟨rfl, rfl⟩ (fun x h => c_73 h) (S_73 d a0 a1 th) (fun x1 hx1 => ?_)
  refine x_P 7 rfl rfl rfl ?_
  refine x_gI rfl (fun x2 hx2 => ?_)
  refine x_P 11 rfl rfl rfl ?_
  refine x_P 12 rfl rfl rfl ?_
  refine x_P 13 rfl rfl rfl ?_
  refine x_P 14 rfl rfl rfl ?_
  refine x_callV rfl rfl rfl rfl rfl ⟨rfl, rfl⟩ (fun x h => c_72 h) (S_72 d a0 a1 th) (fun x3 hx3 => ?_)
  refine x_P 18 rfl rfl rfl ?_
  refine x_callV rfl rfl rfl rfl rfl ⟨rfl, rfl⟩ (fun x h => c_74 h) (S_74 d a0 x1 ((x2 - (Int32.ofInt 1)) - x3) th) (fun x4 hx4 => ?_)
  exact x_retI (x := x4) rfl
-- 76 NineTrees$Garden.mirrored(I)I
noncomputable def m_76 (a0 : Nat) (a1 : Int32) (th : tH) : Option (Int32) :=
  (gC th 2 a0).bind fun _ =>
  (m_72 a0 a1 th).bind fun x1 =>
  (gI th 2 a0 4).bind fun x2 =>
  (m_73 a0 a1 th).bind fun x3 =>
  (m_74 a0 x1 ((x2 - (Int32.ofInt 1)) - x3) th).bind fun x4 =>
  some x4
theorem c_76 {a0 : Nat} {a1 : Int32} {th : tH} {x : (Int32)} (h : m_76 a0 a1 th = some x) : ∃ fs, th[a0]? = some (.inr (2, fs)) := gC_of h
theorem S_76 {L : Nat} (d : Nat) (a0 : Nat) (a1 : Int32) (th : tH) : Wx L (fun x => (some (.int x), th)) (d + 1) 76 2 0 [(0, .ref a0), (1, .int a1)] [] th (m_76 a0 a1 th) := by
  unfold m_76
  refine x_gC ?_
  refine x_P 1 rfl rfl rfl ?_
  refine x_P 2 rfl rfl rfl ?_
  refine x_P 3 rfl rfl rfl ?_
  refine x_callV rfl rfl rfl rfl rfl ⟨rfl, rfl⟩ (fun x h => c_72 h) (S_72 d a0 a1 th) (fun x1 hx1 => ?_)
  refine x_P 7 rfl rfl rfl ?_
  refine x_gI rfl (fun x2 hx2 => ?_)
  refine x_P 11 rfl rfl rfl ?_
  refine x_P 12 rfl rfl rfl ?_
  refine x_P 13 rfl rfl rfl ?_
  refine x_P 14 rfl rfl rfl ?_
  refine x_callV rfl rfl rfl rfl rfl ⟨rfl, rfl⟩ (fun x h => c_73 h) (S_73 d a0 a1 th) (fun x3 hx3 => ?_)
  refine x_P 18 rfl rfl rfl ?_
  refine x_callV rfl rfl rfl rfl rfl ⟨rfl, rfl⟩ (fun x h => c_74 h) (S_74 d a0 x1 ((x2 - (Int32.ofInt 1)) - x3) th) (fun x4 hx4 => ?_)
  exact x_retI (x := x4) rfl
-- 135 NineTrees$Shapes.isOwnImage(LNineTrees$Garden;IZ)Z
noncomputable def m_135 (a0 : Nat) (a1 : Int32) (a2 : Int32) (th : tH) : Option (Int32) :=
  lp (fun (s1 : Int32) nx2 ex3 =>
      (gI th 2 a0 5).bind fun x5 =>
      if x5 ≤ s1 then
        ex3 ()
      else
        (gN th 2 a0 1).bind fun o6 =>
        (aI th o6 s1).bind fun x7 =>
        lp (fun (s8 : Int32 × Int32) nx9 ex10 =>
            if a1 ≤ s8.2 then
              ex10 s8.1
            else
              (m_75 a0 s8.1 th).bind fun x18 =>
              nx9 (x18, (s8.2 + Int32.ofInt 1))
          ) 4096 (x7, (Int32.ofInt 0)) (fun (x11 : Int32) =>
            jn (fun (v12 : Int32 × Nat) =>
                (m_84 v12.2 v12.1 th).bind fun x14 =>
                if x14 = 0 then
                  nx2 (s1 + Int32.ofInt 1)
                else
                  rB (Int32.ofInt 0)
              ) (fun j13 =>
                if a2 = 0 then
                  j13 (x11, a0)
                else
                  (m_76 a0 x11 th).bind fun x16 =>
                  j13 (x16, a0)
              )
          )
    ) 4096 (Int32.ofInt 0) (fun (x4 : Unit) =>
      rB (Int32.ofInt 1)
    )
theorem S_135 {L : Nat} (d : Nat) (a0 : Nat) (a1 : Int32) (a2 : Int32) (th : tH) : Wx L (fun x => (some (.int x), th)) (d + 2) 135 6 0 [(0, .ref a0), (1, .int a1), (2, .int a2)] [] th (m_135 a0 a1 a2 th) := by
  unfold m_135
  refine x_P 1 rfl rfl rfl ?_
  refine x_P (lv' := [(3, .int (Int32.ofInt 0)), (0, .ref a0), (1, .int a1), (2, .int a2)]) 2 rfl rfl rfl ?_
  refine x_lv (lv := [(0, .ref a0), (1, .int a1), (2, .int a2), (3, .int (Int32.ofInt 0))]) (x_lp 71 (fun s1 => [(0, .ref a0), (1, .int a1), (2, .int a2), (3, .int s1)]) (fun s1 => th) (fun x4 => []) (fun x4 => th) (fun s1 nx2 hnx2 ex3 hex3 => ?_) (fun x4 => ?_) 4096 (Int32.ofInt 0)) ⟨rfl, rfl, rfl, rfl, trivial⟩
  · refine x_P 3 rfl rfl rfl ?_
    refine x_P 4 rfl rfl rfl ?_
    refine x_gI rfl (fun x5 hx5 => ?_)
    refine x_ic_ge rfl rfl (fun h20 => ?_) (fun h20 => ?_)
    · exact x_lv (hex3 ()) trivial
    · refine x_P 11 rfl rfl rfl ?_
      refine x_gN rfl (fun o6 ho6 => ?_)
      refine x_P 15 rfl rfl rfl ?_
      refine x_aI rfl ⟨rfl, rfl⟩ (fun x7 hx7 => ?_)
      refine x_P (lv' := [(4, .int x7), (0, .ref a0), (1, .int a1), (2, .int a2), (3, .int s1)]) 18 rfl rfl rfl ?_
      refine x_P 19 rfl rfl rfl ?_
      refine x_P (lv' := [(5, .int (Int32.ofInt 0)), (4, .int x7), (0, .ref a0), (1, .int a1), (2, .int a2), (3, .int s1)]) 21 rfl rfl rfl ?_
      refine x_lv (lv := [(0, .ref a0), (1, .int a1), (2, .int a2), (3, .int s1), (4, .int x7), (5, .int (Int32.ofInt 0))]) (x_lp 41 (fun s8 => [(0, .ref a0), (1, .int a1), (2, .int a2), (3, .int s1), (4, .int s8.1), (5, .int s8.2)]) (fun s8 => th) (fun x11 => [(0, .ref a0), (1, .int a1), (2, .int a2), (3, .int s1), (4, .int x11)]) (fun x11 => th) (fun s8 nx9 hnx9 ex10 hex10 => ?_) (fun x11 => ?_) 4096 (x7, (Int32.ofInt 0))) ⟨rfl, rfl, rfl, rfl, rfl, rfl, trivial⟩
      · refine x_P 23 rfl rfl rfl ?_
        refine x_P 24 rfl rfl rfl ?_
        refine x_ic_ge rfl rfl (fun h19 => ?_) (fun h19 => ?_)
        · exact x_lv (hex10 s8.1) ⟨rfl, rfl, rfl, rfl, rfl, trivial⟩
        · refine x_P 28 rfl rfl rfl ?_
          refine x_P 30 rfl rfl rfl ?_
          refine x_callV rfl rfl rfl rfl rfl ⟨rfl, rfl⟩ (fun x h => c_75 h) (S_75 d a0 s8.1 th) (fun x18 hx18 => ?_)
          refine x_P (lv' := [(4, .int x18), (0, .ref a0), (1, .int a1), (2, .int a2), (3, .int s1), (5, .int s8.2)]) 35 rfl rfl rfl ?_
          refine x_P (lv' := [(5, .int (s8.2 + Int32.ofInt 1)), (4, .int x18), (0, .ref a0), (1, .int a1), (2, .int a2), (3, .int s1)]) 38 rfl rfl rfl ?_
          refine x_P 21 rfl rfl rfl ?_
          exact x_lv (hnx9 (x18, (s8.2 + Int32.ofInt 1))) ⟨rfl, rfl, rfl, rfl, rfl, rfl, trivial⟩
      · refine x_P 42 rfl rfl rfl ?_
        refine x_P 43 rfl rfl rfl ?_
        refine x_jn 57 (fun v12 => [(0, .ref a0), (1, .int a1), (2, .int a2), (3, .int s1)]) (fun v12 => [.int v12.1, .ref v12.2]) (fun v12 => th) (fun v12 => ?_) (fun j13 hj13 => ?_)
        · refine x_callV rfl rfl rfl rfl rfl ⟨rfl, rfl⟩ (fun x h => c_84 h) (S_84 d v12.2 v12.1 th) (fun x14 hx14 => ?_)
          refine x_if_eq rfl rfl (fun h15 => ?_) (fun h15 => ?_)
          · refine x_P (lv' := [(3, .int (s1 + Int32.ofInt 1)), (0, .ref a0), (1, .int a1), (2, .int a2)]) 68 rfl rfl rfl ?_
            refine x_P 2 rfl rfl rfl ?_
            exact x_lv (hnx2 (s1 + Int32.ofInt 1)) ⟨rfl, rfl, rfl, rfl, trivial⟩
          · refine x_P 64 rfl rfl rfl ?_
            exact x_rB rfl
        · refine x_if_eq rfl rfl (fun h17 => ?_) (fun h17 => ?_)
          · refine x_P 57 rfl rfl rfl ?_
            exact x_lv (hj13 (x11, a0)) ⟨rfl, rfl, rfl, rfl, trivial⟩
          · refine x_P 47 rfl rfl rfl ?_
            refine x_P 49 rfl rfl rfl ?_
            refine x_callV rfl rfl rfl rfl rfl ⟨rfl, rfl⟩ (fun x h => c_76 h) (S_76 d a0 x11 th) (fun x16 hx16 => ?_)
            refine x_P 57 rfl rfl rfl ?_
            exact x_lv (hj13 (x16, a0)) ⟨rfl, rfl, rfl, rfl, trivial⟩
  · refine x_P 72 rfl rfl rfl ?_
    exact x_rB rfl
-- 134 NineTrees$Shapes.ownImages(LNineTrees$Garden;)I
noncomputable def m_134 (a0 : Nat) (th : tH) : Option (Int32) :=
  lp (fun (s1 : Int32 × Int32) nx2 ex3 =>
      if (Int32.ofInt 4) ≤ s1.2 then
        ex3 s1.1
      else
        (m_135 a0 s1.2 (Int32.ofInt 0) th).bind fun x5 =>
        jn (fun (v6 : Int32) =>
            (m_135 a0 s1.2 (Int32.ofInt 1) th).bind fun x8 =>
            jn (fun (v9 : Int32) =>
                nx2 (v9, (s1.2 + Int32.ofInt 1))
              ) (fun j10 =>
                if x8 = 0 then
                  j10 v6
                else
                  j10 (v6 + Int32.ofInt 1)
              )
          ) (fun j7 =>
            if x5 = 0 then
              j7 s1.1
            else
              j7 (s1.1 + Int32.ofInt 1)
          )
    ) 4096 ((Int32.ofInt 0), (Int32.ofInt 0)) (fun (x4 : Int32) =>
      some x4
    )
theorem S_134 {L : Nat} (d : Nat) (a0 : Nat) (th : tH) : Wx L (fun x => (some (.int x), th)) (d + 3) 134 3 0 [(0, .ref a0)] [] th (m_134 a0 th) := by
  unfold m_134
  refine x_P 1 rfl rfl rfl ?_
  refine x_P (lv' := [(1, .int (Int32.ofInt 0)), (0, .ref a0)]) 2 rfl rfl rfl ?_
  refine x_P 3 rfl rfl rfl ?_
  refine x_P (lv' := [(2, .int (Int32.ofInt 0)), (1, .int (Int32.ofInt 0)), (0, .ref a0)]) 4 rfl rfl rfl ?_
  refine x_lv (lv := [(0, .ref a0), (1, .int (Int32.ofInt 0)), (2, .int (Int32.ofInt 0))]) (x_lp 39 (fun s1 => [(0, .ref a0), (1, .int s1.1), (2, .int s1.2)]) (fun s1 => th) (fun x4 => [(1, .int x4)]) (fun x4 => th) (fun s1 nx2 hnx2 ex3 hex3 => ?_) (fun x4 => ?_) 4096 ((Int32.ofInt 0), (Int32.ofInt 0))) ⟨rfl, rfl, rfl, trivial⟩
  · refine x_P 5 rfl rfl rfl ?_
    refine x_P 6 rfl rfl rfl ?_
    refine x_ic_ge rfl rfl (fun h13 => ?_) (fun h13 => ?_)
    · exact x_lv (hex3 s1.1) ⟨rfl, trivial⟩
    · refine x_P 10 rfl rfl rfl ?_
      refine x_P 11 rfl rfl rfl ?_
      refine x_P 12 rfl rfl rfl ?_
      refine x_callS rfl rfl rfl rfl rfl rfl ⟨rfl, rfl⟩ (S_135 d a0 s1.2 (Int32.ofInt 0) th) (fun x5 hx5 => ?_)
      refine x_jn 21 (fun v6 => [(0, .ref a0), (1, .int v6), (2, .int s1.2)]) (fun v6 => []) (fun v6 => th) (fun v6 => ?_) (fun j7 hj7 => ?_)
      · refine x_P 22 rfl rfl rfl ?_
        refine x_P 23 rfl rfl rfl ?_
        refine x_P 24 rfl rfl rfl ?_
        refine x_callS rfl rfl rfl rfl rfl rfl ⟨rfl, rfl⟩ (S_135 d a0 s1.2 (Int32.ofInt 1) th) (fun x8 hx8 => ?_)
        refine x_jn 33 (fun v9 => [(0, .ref a0), (1, .int v9), (2, .int s1.2)]) (fun v9 => []) (fun v9 => th) (fun v9 => ?_) (fun j10 hj10 => ?_)
        · refine x_P (lv' := [(2, .int (s1.2 + Int32.ofInt 1)), (0, .ref a0), (1, .int v9)]) 36 rfl rfl rfl ?_
          refine x_P 4 rfl rfl rfl ?_
          exact x_lv (hnx2 (v9, (s1.2 + Int32.ofInt 1))) ⟨rfl, rfl, rfl, trivial⟩
        · refine x_if_eq rfl rfl (fun h11 => ?_) (fun h11 => ?_)
          · exact x_lv (hj10 v6) ⟨rfl, rfl, rfl, trivial⟩
          · refine x_P (lv' := [(1, .int (v6 + Int32.ofInt 1)), (0, .ref a0), (2, .int s1.2)]) 33 rfl rfl rfl ?_
            exact x_lv (hj10 (v6 + Int32.ofInt 1)) ⟨rfl, rfl, rfl, trivial⟩
      · refine x_if_eq rfl rfl (fun h12 => ?_) (fun h12 => ?_)
        · exact x_lv (hj7 s1.1) ⟨rfl, rfl, rfl, trivial⟩
        · refine x_P (lv' := [(1, .int (s1.1 + Int32.ofInt 1)), (0, .ref a0), (2, .int s1.2)]) 21 rfl rfl rfl ?_
          exact x_lv (hj7 (s1.1 + Int32.ofInt 1)) ⟨rfl, rfl, rfl, trivial⟩
  · refine x_P 40 rfl rfl rfl ?_
    exact x_retI (x := x4) rfl
-- 44 NineTrees.alike()I
noncomputable def m_44 (a0 : Nat) (th : tH) : Option (Int32) :=
  (gC th 7 a0).bind fun _ =>
  (gN th 7 a0 0).bind fun o1 =>
  (m_134 o1 th).bind fun x2 =>
  some x2
theorem c_44 {a0 : Nat} {th : tH} {x : (Int32)} (h : m_44 a0 th = some x) : ∃ fs, th[a0]? = some (.inr (7, fs)) := gC_of h
theorem S_44 {L : Nat} (d : Nat) (a0 : Nat) (th : tH) : Wx L (fun x => (some (.int x), th)) (d + 4) 44 1 0 [(0, .ref a0)] [] th (m_44 a0 th) := by
  unfold m_44
  refine x_gC ?_
  refine x_P 1 rfl rfl rfl ?_
  refine x_gN rfl (fun o1 ho1 => ?_)
  refine x_callS rfl rfl rfl rfl rfl rfl ⟨rfl, rfl⟩ (S_134 d o1 th) (fun x2 hx2 => ?_)
  exact x_retI (x := x2) rfl
-- 131 NineTrees$Shapes.sumOfDistances(LNineTrees$Garden;I)I
noncomputable def m_131 (a0 : Nat) (a1 : Int32) (th : tH) : Option (Int32) :=
  lp (fun (s1 : Int32 × Int32) nx2 ex3 =>
      (gI th 2 a0 5).bind fun x5 =>
      if x5 ≤ s1.2 then
        ex3 s1.1
      else
        (gN th 2 a0 1).bind fun o6 =>
        (aI th o6 s1.2).bind fun x7 =>
        (m_77 a0 x7 a1 th).bind fun x8 =>
        nx2 ((s1.1 + x8), (s1.2 + Int32.ofInt 1))
    ) 4096 ((Int32.ofInt 0), (Int32.ofInt 0)) (fun (x4 : Int32) =>
      some x4
    )
theorem S_131 {L : Nat} (d : Nat) (a0 : Nat) (a1 : Int32) (th : tH) : Wx L (fun x => (some (.int x), th)) (d + 2) 131 4 0 [(0, .ref a0), (1, .int a1)] [] th (m_131 a0 a1 th) := by
  unfold m_131
  refine x_P 1 rfl rfl rfl ?_
  refine x_P (lv' := [(2, .int (Int32.ofInt 0)), (0, .ref a0), (1, .int a1)]) 2 rfl rfl rfl ?_
  refine x_P 3 rfl rfl rfl ?_
  refine x_P (lv' := [(3, .int (Int32.ofInt 0)), (2, .int (Int32.ofInt 0)), (0, .ref a0), (1, .int a1)]) 4 rfl rfl rfl ?_
  refine x_lv (lv := [(0, .ref a0), (1, .int a1), (2, .int (Int32.ofInt 0)), (3, .int (Int32.ofInt 0))]) (x_lp 32 (fun s1 => [(0, .ref a0), (1, .int a1), (2, .int s1.1), (3, .int s1.2)]) (fun s1 => th) (fun x4 => [(2, .int x4)]) (fun x4 => th) (fun s1 nx2 hnx2 ex3 hex3 => ?_) (fun x4 => ?_) 4096 ((Int32.ofInt 0), (Int32.ofInt 0))) ⟨rfl, rfl, rfl, rfl, trivial⟩
  · refine x_P 5 rfl rfl rfl ?_
    refine x_P 6 rfl rfl rfl ?_
    refine x_gI rfl (fun x5 hx5 => ?_)
    refine x_ic_ge rfl rfl (fun h9 => ?_) (fun h9 => ?_)
    · exact x_lv (hex3 s1.1) ⟨rfl, trivial⟩
    · refine x_P 13 rfl rfl rfl ?_
      refine x_P 14 rfl rfl rfl ?_
      refine x_P 15 rfl rfl rfl ?_
      refine x_gN rfl (fun o6 ho6 => ?_)
      refine x_P 19 rfl rfl rfl ?_
      refine x_aI rfl ⟨rfl, rfl⟩ (fun x7 hx7 => ?_)
      refine x_P 21 rfl rfl rfl ?_
      refine x_callV rfl rfl rfl rfl rfl ⟨rfl, rfl⟩ (fun x h => c_77 h) (S_77 d a0 x7 a1 th) (fun x8 hx8 => ?_)
      refine x_P 25 rfl rfl rfl ?_
      refine x_P (lv' := [(2, .int (s1.1 + x8)), (0, .ref a0), (1, .int a1), (3, .int s1.2)]) 26 rfl rfl rfl ?_
      refine x_P (lv' := [(3, .int (s1.2 + Int32.ofInt 1)), (2, .int (s1.1 + x8)), (0, .ref a0), (1, .int a1)]) 29 rfl rfl rfl ?_
      refine x_P 4 rfl rfl rfl ?_
      exact x_lv (hnx2 ((s1.1 + x8), (s1.2 + Int32.ofInt 1))) ⟨rfl, rfl, rfl, rfl, trivial⟩
  · refine x_P 33 rfl rfl rfl ?_
    exact x_retI (x := x4) rfl
