section
/-! ===== programs ===== -/
-- 120 NineTrees$Moves.weighThrees(LNineTrees$Garden;LNineTrees$RowList;I)V
noncomputable def m_120 (a0 : Nat) (a1 : Nat) (a2 : Nat) (a3 : Int32) (th : tH) : Option tH :=
  (gC th 3 a0).bind fun _ =>
  (pI th 3 a0 1 (Int32.ofInt 0)).bind fun th1 =>
  (gN th1 3 a0 0).bind fun o2 =>
  (m_113 o2 th1).bind fun th3 =>
  lp (fun (s4 : Int32 × tH) nx5 ex6 =>
      (gI s4.2 4 a2 1).bind fun x8 =>
      if x8 ≤ s4.1 then
        ex6 s4.2
      else
        (gN s4.2 4 a2 0).bind fun o9 =>
        (aI s4.2 o9 s4.1).bind fun x10 =>
        (m_173 (x10 &&& (((Int32.ofInt 1) <<< (a3 &&& 31)) ^^^ (Int32.ofInt (-1)))) s4.2).bind fun x11 =>
        jn (fun (v12 : tH) =>
            nx5 ((s4.1 + Int32.ofInt 1), v12)
          ) (fun j13 =>
            if x11 < (Int32.ofInt 3) then
              if x11 = (Int32.ofInt 2) then
                (m_85 a1 a3 (Int32.ofInt 4) s4.2).bind fun x14 =>
                if x14 = 0 then
                  (gN s4.2 3 a0 0).bind fun o15 =>
                  (m_115 o15 a1 (x10 &&& (((Int32.ofInt 1) <<< (a3 &&& 31)) ^^^ (Int32.ofInt (-1)))) s4.2).bind fun th16 =>
                  j13 th16
                else
                  j13 s4.2
              else
                j13 s4.2
            else
              (gI s4.2 3 a0 1).bind fun x19 =>
              (pI s4.2 3 a0 1 (x19 + (Int32.ofInt 1))).bind fun th20 =>
              j13 th20
          )
    ) 4096 ((Int32.ofInt 0), th3) (fun (x7 : tH) =>
      some x7
    )
theorem c_120 {a0 : Nat} {a1 : Nat} {a2 : Nat} {a3 : Int32} {th : tH} {x : tH} (h : m_120 a0 a1 a2 a3 th = some x) : ∃ fs, th[a0]? = some (.inr (3, fs)) := gC_of h
theorem S_120 {L : Nat} (d : Nat) (a0 : Nat) (a1 : Nat) (a2 : Nat) (a3 : Int32) (th : tH) : Wx L (fun x => (none, x)) (d + 3) 120 7 0 [(0, .ref a0), (1, .ref a1), (2, .ref a2), (3, .int a3)] [] th (m_120 a0 a1 a2 a3 th) := by
  unfold m_120
  refine x_gC ?_
  refine x_P 1 rfl rfl rfl ?_
  refine x_P 2 rfl rfl rfl ?_
  refine x_pI rfl (fun th1 hth1 => ?_)
  refine x_P 6 rfl rfl rfl ?_
  refine x_gN rfl (fun o2 ho2 => ?_)
  refine x_callW rfl rfl rfl rfl rfl ⟨rfl, rfl⟩ (fun x h => c_113 h) (S_113 (d + 1) o2 th1) (fun th3 hth3 => ?_)
  refine x_P 13 rfl rfl rfl ?_
  refine x_P (lv' := [(4, .int (Int32.ofInt 0)), (0, .ref a0), (1, .ref a1), (2, .ref a2), (3, .int a3)]) 15 rfl rfl rfl ?_
  refine x_lv (lv := [(0, .ref a0), (1, .ref a1), (2, .ref a2), (3, .int a3), (4, .int (Int32.ofInt 0))]) (x_lp 96 (fun s4 => [(0, .ref a0), (1, .ref a1), (2, .ref a2), (3, .int a3), (4, .int s4.1)]) (fun s4 => s4.2) (fun x7 => []) (fun x7 => x7) (fun s4 nx5 hnx5 ex6 hex6 => ?_) (fun x7 => ?_) 4096 ((Int32.ofInt 0), th3)) ⟨rfl, rfl, rfl, rfl, rfl, trivial⟩
  · refine x_P 17 rfl rfl rfl ?_
    refine x_P 18 rfl rfl rfl ?_
    refine x_gI rfl (fun x8 hx8 => ?_)
    refine x_ic_ge rfl rfl (fun h22 => ?_) (fun h22 => ?_)
    · exact x_lv (hex6 s4.2) trivial
    · refine x_P 25 rfl rfl rfl ?_
      refine x_gN rfl (fun o9 ho9 => ?_)
      refine x_P 30 rfl rfl rfl ?_
      refine x_aI rfl ⟨rfl, rfl⟩ (fun x10 hx10 => ?_)
      refine x_P 32 rfl rfl rfl ?_
      refine x_P 33 rfl rfl rfl ?_
      refine x_P 34 rfl rfl rfl ?_
      refine x_P 35 rfl rfl rfl ?_
      refine x_P 36 rfl rfl rfl ?_
      refine x_P 37 rfl rfl rfl ?_
      refine x_P (lv' := [(5, .int (x10 &&& (((Int32.ofInt 1) <<< (a3 &&& 31)) ^^^ (Int32.ofInt (-1))))), (0, .ref a0), (1, .ref a1), (2, .ref a2), (3, .int a3), (4, .int s4.1)]) 39 rfl rfl rfl ?_
      refine x_P 41 rfl rfl rfl ?_
      refine x_callS rfl rfl rfl rfl rfl rfl ⟨rfl, rfl⟩ (S_173 (d + 2) (x10 &&& (((Int32.ofInt 1) <<< (a3 &&& 31)) ^^^ (Int32.ofInt (-1)))) s4.2) (fun x11 hx11 => ?_)
      refine x_P (lv' := [(6, .int x11), (5, .int (x10 &&& (((Int32.ofInt 1) <<< (a3 &&& 31)) ^^^ (Int32.ofInt (-1))))), (0, .ref a0), (1, .ref a1), (2, .ref a2), (3, .int a3), (4, .int s4.1)]) 46 rfl rfl rfl ?_
      refine x_P 48 rfl rfl rfl ?_
      refine x_P 49 rfl rfl rfl ?_
      refine x_jn 90 (fun v12 => [(0, .ref a0), (1, .ref a1), (2, .ref a2), (3, .int a3), (4, .int s4.1)]) (fun v12 => []) (fun v12 => v12) (fun v12 => ?_) (fun j13 hj13 => ?_)
      · refine x_P (lv' := [(4, .int (s4.1 + Int32.ofInt 1)), (0, .ref a0), (1, .ref a1), (2, .ref a2), (3, .int a3)]) 93 rfl rfl rfl ?_
        refine x_P 15 rfl rfl rfl ?_
        exact x_lv (hnx5 ((s4.1 + Int32.ofInt 1), v12)) ⟨rfl, rfl, rfl, rfl, rfl, trivial⟩
      · refine x_ic_lt rfl rfl (fun h21 => ?_) (fun h21 => ?_)
        · refine x_P 67 rfl rfl rfl ?_
          refine x_P 68 rfl rfl rfl ?_
          refine x_ic_ne rfl rfl (fun h18 => ?_) (fun h18 => ?_)
          · refine x_P 72 rfl rfl rfl ?_
            refine x_P 73 rfl rfl rfl ?_
            refine x_P 74 rfl rfl rfl ?_
            refine x_callV rfl rfl rfl rfl rfl ⟨rfl, rfl⟩ (fun x h => c_85 h) (S_85 (d + 2) a1 a3 (Int32.ofInt 4) s4.2) (fun x14 hx14 => ?_)
            refine x_if_ne rfl rfl (fun h17 => ?_) (fun h17 => ?_)
            · refine x_P 81 rfl rfl rfl ?_
              refine x_gN rfl (fun o15 ho15 => ?_)
              refine x_P 85 rfl rfl rfl ?_
              refine x_P 87 rfl rfl rfl ?_
              refine x_callW rfl rfl rfl rfl rfl ⟨rfl, rfl⟩ (fun x h => c_115 h) (S_115 d o15 a1 (x10 &&& (((Int32.ofInt 1) <<< (a3 &&& 31)) ^^^ (Int32.ofInt (-1)))) s4.2) (fun th16 hth16 => ?_)
              exact x_lv (hj13 th16) ⟨rfl, rfl, rfl, rfl, rfl, trivial⟩
            · exact x_lv (hj13 s4.2) ⟨rfl, rfl, rfl, rfl, rfl, trivial⟩
          · exact x_lv (hj13 s4.2) ⟨rfl, rfl, rfl, rfl, rfl, trivial⟩
        · refine x_P 53 rfl rfl rfl ?_
          refine x_P 54 rfl rfl rfl ?_
          refine x_gI rfl (fun x19 hx19 => ?_)
          refine x_P 58 rfl rfl rfl ?_
          refine x_P 59 rfl rfl rfl ?_
          refine x_pI rfl (fun th20 hth20 => ?_)
          refine x_P 90 rfl rfl rfl ?_
          exact x_lv (hj13 th20) ⟨rfl, rfl, rfl, rfl, rfl, trivial⟩
  · exact x_retV (x := x7) rfl
-- 123 NineTrees$Moves.offerCells(LNineTrees$Garden;I)V
noncomputable def m_123 (a0 : Nat) (a1 : Nat) (a2 : Int32) (th : tH) : Option tH :=
  (gC th 3 a0).bind fun _ =>
  lp (fun (s1 : Int32 × tH) nx2 ex3 =>
      (m_70 a1 s1.2).bind fun x5 =>
      if x5 ≤ s1.1 then
        ex3 s1.2
      else
        (gI s1.2 3 a0 1).bind fun x6 =>
        (gN s1.2 3 a0 0).bind fun o7 =>
        (gN s1.2 0 o7 0).bind fun o8 =>
        (aI s1.2 o8 s1.1).bind fun x9 =>
        (gI s1.2 3 a0 4).bind fun x10 =>
        jn (fun (v11 : tH) =>
            nx2 ((s1.1 + Int32.ofInt 1), v11)
          ) (fun j12 =>
            if (x6 + x9) ≤ x10 then
              j12 s1.2
            else
              (m_84 a1 s1.1 s1.2).bind fun x13 =>
              if x13 = 0 then
                j12 s1.2
              else
                (pI s1.2 3 a0 2 a2).bind fun th14 =>
                (pI th14 3 a0 3 s1.1).bind fun th15 =>
                (gI th15 3 a0 1).bind fun x16 =>
                (gN th15 3 a0 0).bind fun o17 =>
                (gN th15 0 o17 0).bind fun o18 =>
                (aI th15 o18 s1.1).bind fun x19 =>
                (pI th15 3 a0 4 (x16 + x19)).bind fun th20 =>
                j12 th20
          )
    ) 4096 ((Int32.ofInt 0), th) (fun (x4 : tH) =>
      some x4
    )
theorem c_123 {a0 : Nat} {a1 : Nat} {a2 : Int32} {th : tH} {x : tH} (h : m_123 a0 a1 a2 th = some x) : ∃ fs, th[a0]? = some (.inr (3, fs)) := gC_of h
theorem S_123 {L : Nat} (d : Nat) (a0 : Nat) (a1 : Nat) (a2 : Int32) (th : tH) : Wx L (fun x => (none, x)) (d + 2) 123 4 0 [(0, .ref a0), (1, .ref a1), (2, .int a2)] [] th (m_123 a0 a1 a2 th) := by
  unfold m_123
  refine x_gC ?_
  refine x_P 1 rfl rfl rfl ?_
  refine x_P (lv' := [(3, .int (Int32.ofInt 0)), (0, .ref a0), (1, .ref a1), (2, .int a2)]) 2 rfl rfl rfl ?_
  refine x_lv (lv := [(0, .ref a0), (1, .ref a1), (2, .int a2), (3, .int (Int32.ofInt 0))]) (x_lp 73 (fun s1 => [(0, .ref a0), (1, .ref a1), (2, .int a2), (3, .int s1.1)]) (fun s1 => s1.2) (fun x4 => []) (fun x4 => x4) (fun s1 nx2 hnx2 ex3 hex3 => ?_) (fun x4 => ?_) 4096 ((Int32.ofInt 0), th)) ⟨rfl, rfl, rfl, rfl, trivial⟩
  · refine x_P 3 rfl rfl rfl ?_
    refine x_P 4 rfl rfl rfl ?_
    refine x_callV rfl rfl rfl rfl rfl ⟨rfl, rfl⟩ (fun x h => c_70 h) (S_70 (d + 1) a1 s1.2) (fun x5 hx5 => ?_)
    refine x_ic_ge rfl rfl (fun h23 => ?_) (fun h23 => ?_)
    · exact x_lv (hex3 s1.2) trivial
    · refine x_P 11 rfl rfl rfl ?_
      refine x_gI rfl (fun x6 hx6 => ?_)
      refine x_P 15 rfl rfl rfl ?_
      refine x_gN rfl (fun o7 ho7 => ?_)
      refine x_gN rfl (fun o8 ho8 => ?_)
      refine x_P 22 rfl rfl rfl ?_
      refine x_aI rfl ⟨rfl, rfl⟩ (fun x9 hx9 => ?_)
      refine x_P 24 rfl rfl rfl ?_
      refine x_P 25 rfl rfl rfl ?_
      refine x_gI rfl (fun x10 hx10 => ?_)
      refine x_jn 67 (fun v11 => [(0, .ref a0), (1, .ref a1), (2, .int a2), (3, .int s1.1)]) (fun v11 => []) (fun v11 => v11) (fun v11 => ?_) (fun j12 hj12 => ?_)
      · refine x_P (lv' := [(3, .int (s1.1 + Int32.ofInt 1)), (0, .ref a0), (1, .ref a1), (2, .int a2)]) 70 rfl rfl rfl ?_
        refine x_P 2 rfl rfl rfl ?_
        exact x_lv (hnx2 ((s1.1 + Int32.ofInt 1), v11)) ⟨rfl, rfl, rfl, rfl, trivial⟩
      · refine x_ic_le rfl rfl (fun h22 => ?_) (fun h22 => ?_)
        · exact x_lv (hj12 s1.2) ⟨rfl, rfl, rfl, rfl, trivial⟩
        · refine x_P 32 rfl rfl rfl ?_
          refine x_P 33 rfl rfl rfl ?_
          refine x_callV rfl rfl rfl rfl rfl ⟨rfl, rfl⟩ (fun x h => c_84 h) (S_84 d a1 s1.1 s1.2) (fun x13 hx13 => ?_)
          refine x_if_eq rfl rfl (fun h21 => ?_) (fun h21 => ?_)
          · exact x_lv (hj12 s1.2) ⟨rfl, rfl, rfl, rfl, trivial⟩
          · refine x_P 40 rfl rfl rfl ?_
            refine x_P 41 rfl rfl rfl ?_
            refine x_pI rfl (fun th14 hth14 => ?_)
            refine x_P 45 rfl rfl rfl ?_
            refine x_P 46 rfl rfl rfl ?_
            refine x_pI rfl (fun th15 hth15 => ?_)
            refine x_P 50 rfl rfl rfl ?_
            refine x_P 51 rfl rfl rfl ?_
            refine x_gI rfl (fun x16 hx16 => ?_)
            refine x_P 55 rfl rfl rfl ?_
            refine x_gN rfl (fun o17 ho17 => ?_)
            refine x_gN rfl (fun o18 ho18 => ?_)
            refine x_P 62 rfl rfl rfl ?_
            refine x_aI rfl ⟨rfl, rfl⟩ (fun x19 hx19 => ?_)
            refine x_P 64 rfl rfl rfl ?_
            refine x_pI rfl (fun th20 hth20 => ?_)
            exact x_lv (hj12 th20) ⟨rfl, rfl, rfl, rfl, trivial⟩
  · exact x_retV (x := x4) rfl
-- 117 NineTrees$Moves.findMostThrees(LNineTrees$Garden;LNineTrees$RowList;)V
noncomputable def m_117 (a0 : Nat) (a1 : Nat) (a2 : Nat) (th : tH) : Option tH :=
  (gC th 3 a0).bind fun _ =>
  (m_122 a0 th).bind fun th1 =>
  lp (fun (s2 : Int32 × tH) nx3 ex4 =>
      (gI s2.2 2 a1 5).bind fun x6 =>
      if x6 ≤ s2.1 then
        ex4 s2.2
      else
        (m_87 a1 s2.1 s2.2).bind fun x7 =>
        jn (fun (v8 : tH) =>
            nx3 ((s2.1 + Int32.ofInt 1), v8)
          ) (fun j9 =>
            if x7 = 0 then
              j9 s2.2
            else
              (m_120 a0 a1 a2 s2.1 s2.2).bind fun th10 =>
              (m_123 a0 a1 s2.1 th10).bind fun th11 =>
              j9 th11
          )
    ) 4096 ((Int32.ofInt 0), th1) (fun (x5 : tH) =>
      some x5
    )
theorem c_117 {a0 : Nat} {a1 : Nat} {a2 : Nat} {th : tH} {x : tH} (h : m_117 a0 a1 a2 th = some x) : ∃ fs, th[a0]? = some (.inr (3, fs)) := gC_of h
theorem S_117 {L : Nat} (d : Nat) (a0 : Nat) (a1 : Nat) (a2 : Nat) (th : tH) : Wx L (fun x => (none, x)) (d + 4) 117 4 0 [(0, .ref a0), (1, .ref a1), (2, .ref a2)] [] th (m_117 a0 a1 a2 th) := by
  unfold m_117
  refine x_gC ?_
  refine x_P 1 rfl rfl rfl ?_
  refine x_callW rfl rfl rfl rfl rfl ⟨rfl, rfl⟩ (fun x h => c_122 h) (S_122 (d + 2) a0 th) (fun th1 hth1 => ?_)
  refine x_P 5 rfl rfl rfl ?_
  refine x_P (lv' := [(3, .int (Int32.ofInt 0)), (0, .ref a0), (1, .ref a1), (2, .ref a2)]) 6 rfl rfl rfl ?_
  refine x_lv (lv := [(0, .ref a0), (1, .ref a1), (2, .ref a2), (3, .int (Int32.ofInt 0))]) (x_lp 41 (fun s2 => [(0, .ref a0), (1, .ref a1), (2, .ref a2), (3, .int s2.1)]) (fun s2 => s2.2) (fun x5 => []) (fun x5 => x5) (fun s2 nx3 hnx3 ex4 hex4 => ?_) (fun x5 => ?_) 4096 ((Int32.ofInt 0), th1)) ⟨rfl, rfl, rfl, rfl, trivial⟩
  · refine x_P 7 rfl rfl rfl ?_
    refine x_P 8 rfl rfl rfl ?_
    refine x_gI rfl (fun x6 hx6 => ?_)
    refine x_ic_ge rfl rfl (fun h13 => ?_) (fun h13 => ?_)
    · exact x_lv (hex4 s2.2) trivial
    · refine x_P 15 rfl rfl rfl ?_
      refine x_P 16 rfl rfl rfl ?_
      refine x_callV rfl rfl rfl rfl rfl ⟨rfl, rfl⟩ (fun x h => c_87 h) (S_87 (d + 2) a1 s2.1 s2.2) (fun x7 hx7 => ?_)
      refine x_jn 35 (fun v8 => [(0, .ref a0), (1, .ref a1), (2, .ref a2), (3, .int s2.1)]) (fun v8 => []) (fun v8 => v8) (fun v8 => ?_) (fun j9 hj9 => ?_)
      · refine x_P (lv' := [(3, .int (s2.1 + Int32.ofInt 1)), (0, .ref a0), (1, .ref a1), (2, .ref a2)]) 38 rfl rfl rfl ?_
        refine x_P 6 rfl rfl rfl ?_
        exact x_lv (hnx3 ((s2.1 + Int32.ofInt 1), v8)) ⟨rfl, rfl, rfl, rfl, trivial⟩
      · refine x_if_eq rfl rfl (fun h12 => ?_) (fun h12 => ?_)
        · exact x_lv (hj9 s2.2) ⟨rfl, rfl, rfl, rfl, trivial⟩
        · refine x_P 23 rfl rfl rfl ?_
          refine x_P 24 rfl rfl rfl ?_
          refine x_P 25 rfl rfl rfl ?_
          refine x_P 26 rfl rfl rfl ?_
          refine x_callW rfl rfl rfl rfl rfl ⟨rfl, rfl⟩ (fun x h => c_120 h) (S_120 d a0 a1 a2 s2.1 s2.2) (fun th10 hth10 => ?_)
          refine x_P 30 rfl rfl rfl ?_
          refine x_P 31 rfl rfl rfl ?_
          refine x_P 32 rfl rfl rfl ?_
          refine x_callW rfl rfl rfl rfl rfl ⟨rfl, rfl⟩ (fun x h => c_123 h) (S_123 (d + 1) a0 a1 s2.1 th10) (fun th11 hth11 => ?_)
          exact x_lv (hj9 th11) ⟨rfl, rfl, rfl, rfl, trivial⟩
  · exact x_retV (x := x5) rfl
-- 124 NineTrees$Moves.tell(I)I
noncomputable def m_124 (a0 : Nat) (a1 : Int32) (th : tH) : Option (Int32) :=
  (gC th 3 a0).bind fun _ =>
  if a1 = 0 then
    (gI th 3 a0 2).bind fun x6 =>
    some x6
  else
    jn (fun (v1 : Int32) =>
        some v1
      ) (fun j2 =>
        if a1 = (Int32.ofInt 1) then
          (gI th 3 a0 3).bind fun x4 =>
          j2 x4
        else
          (gI th 3 a0 4).bind fun x3 =>
          j2 x3
      )
theorem c_124 {a0 : Nat} {a1 : Int32} {th : tH} {x : (Int32)} (h : m_124 a0 a1 th = some x) : ∃ fs, th[a0]? = some (.inr (3, fs)) := gC_of h
theorem S_124 {L : Nat} (d : Nat) (a0 : Nat) (a1 : Int32) (th : tH) : Wx L (fun x => (some (.int x), th)) d 124 2 0 [(0, .ref a0), (1, .int a1)] [] th (m_124 a0 a1 th) := by
  unfold m_124
  refine x_gC ?_
  refine x_P 1 rfl rfl rfl ?_
  refine x_if_ne rfl rfl (fun h7 => ?_) (fun h7 => ?_)
  · refine x_P 5 rfl rfl rfl ?_
    refine x_gI rfl (fun x6 hx6 => ?_)
    exact x_retI (x := x6) rfl
  · refine x_P 10 rfl rfl rfl ?_
    refine x_P 11 rfl rfl rfl ?_
    refine x_jn 25 (fun v1 => []) (fun v1 => [.int v1]) (fun v1 => th) (fun v1 => ?_) (fun j2 hj2 => ?_)
    · exact x_retI (x := v1) rfl
    · refine x_ic_ne rfl rfl (fun h5 => ?_) (fun h5 => ?_)
      · refine x_P 15 rfl rfl rfl ?_
        refine x_gI rfl (fun x4 hx4 => ?_)
        refine x_P 25 rfl rfl rfl ?_
        exact x_lv (hj2 x4) trivial
      · refine x_P 22 rfl rfl rfl ?_
        refine x_gI rfl (fun x3 hx3 => ?_)
        exact x_lv (hj2 x3) trivial
-- 33 NineTrees.best(I)I
noncomputable def m_33 (a0 : Nat) (a1 : Int32) (th : tH) : Option (Int32 × tH) :=
  (gC th 7 a0).bind fun _ =>
  jn (fun (v1 : Unit) =>
      (m_59 a0 (Int8.ofInt (-2)).toInt32 th).bind fun q3 =>
      some (q3.1, q3.2)
    ) (fun j2 =>
      if a1 < 0 then
        j2 ()
      else
        if a1 ≤ (Int32.ofInt 2) then
          (gN th 7 a0 5).bind fun o4 =>
          (gN th 7 a0 0).bind fun o5 =>
          (m_63 a0 th).bind fun q6 =>
          (m_117 o4 o5 q6.1 q6.2).bind fun th7 =>
          (gN th7 7 a0 5).bind fun o8 =>
          (m_124 o8 a1 th7).bind fun x9 =>
          some (x9, th7)
        else
          j2 ()
    )
theorem c_33 {a0 : Nat} {a1 : Int32} {th : tH} {x : (Int32 × tH)} (h : m_33 a0 a1 th = some x) : ∃ fs, th[a0]? = some (.inr (7, fs)) := gC_of h
theorem S_33 {L : Nat} (d : Nat) (a0 : Nat) (a1 : Int32) (th : tH) : Wx L (fun x => (some (.int x.1), x.2)) (d + 5) 33 2 0 [(0, .ref a0), (1, .int a1)] [] th (m_33 a0 a1 th) := by
  unfold m_33
  refine x_gC ?_
  refine x_P 1 rfl rfl rfl ?_
  refine x_jn 9 (fun v1 => [(0, .ref a0)]) (fun v1 => []) (fun v1 => th) (fun v1 => ?_) (fun j2 hj2 => ?_)
  · refine x_P 10 rfl rfl rfl ?_
    refine x_P 12 rfl rfl rfl ?_
    refine x_callV rfl rfl rfl rfl rfl ⟨rfl, rfl⟩ (fun x h => c_59 h) (S_59 (d + 3) a0 (Int8.ofInt (-2)).toInt32 th) (fun q3 hq3 => ?_)
    exact x_retI (x := (q3.1, q3.2)) rfl
  · refine x_if_lt rfl rfl (fun h11 => ?_) (fun h11 => ?_)
    · exact x_lv (hj2 ()) ⟨rfl, trivial⟩
    · refine x_P 5 rfl rfl rfl ?_
      refine x_P 6 rfl rfl rfl ?_
      refine x_ic_le rfl rfl (fun h10 => ?_) (fun h10 => ?_)
      · refine x_P 17 rfl rfl rfl ?_
        refine x_gN rfl (fun o4 ho4 => ?_)
        refine x_P 21 rfl rfl rfl ?_
        refine x_gN rfl (fun o5 ho5 => ?_)
        refine x_P 25 rfl rfl rfl ?_
        refine x_callV rfl rfl rfl rfl rfl ⟨rfl, rfl⟩ (fun x h => c_63 h) (S_63 d a0 th) (fun q6 hq6 => ?_)
        refine x_callW rfl rfl rfl rfl rfl ⟨rfl, rfl⟩ (fun x h => c_117 h) (S_117 d o4 o5 q6.1 q6.2) (fun th7 hth7 => ?_)
        refine x_P 32 rfl rfl rfl ?_
        refine x_gN rfl (fun o8 ho8 => ?_)
        refine x_P 36 rfl rfl rfl ?_
        refine x_callV rfl rfl rfl rfl rfl ⟨rfl, rfl⟩ (fun x h => c_124 h) (S_124 (d + 4) o8 a1 th7) (fun x9 hx9 => ?_)
        exact x_retI (x := (x9, th7)) rfl
      · exact x_lv (hj2 ()) ⟨rfl, trivial⟩
-- 119 NineTrees$Moves.threesBy(LNineTrees$Garden;LNineTrees$RowList;II)I
noncomputable def m_119 (a0 : Nat) (a1 : Nat) (a2 : Nat) (a3 : Int32) (a4 : Int32) (th : tH) : Option (Int32 × tH) :=
  (gC th 3 a0).bind fun _ =>
  (m_120 a0 a1 a2 a3 th).bind fun th1 =>
  (gI th1 3 a0 1).bind fun x2 =>
  (gN th1 3 a0 0).bind fun o3 =>
  (gN th1 0 o3 0).bind fun o4 =>
  (aI th1 o4 a4).bind fun x5 =>
  some ((x2 + x5), th1)
theorem c_119 {a0 : Nat} {a1 : Nat} {a2 : Nat} {a3 : Int32} {a4 : Int32} {th : tH} {x : (Int32 × tH)} (h : m_119 a0 a1 a2 a3 a4 th = some x) : ∃ fs, th[a0]? = some (.inr (3, fs)) := gC_of h
theorem S_119 {L : Nat} (d : Nat) (a0 : Nat) (a1 : Nat) (a2 : Nat) (a3 : Int32) (a4 : Int32) (th : tH) : Wx L (fun x => (some (.int x.1), x.2)) (d + 4) 119 5 0 [(0, .ref a0), (1, .ref a1), (2, .ref a2), (3, .int a3), (4, .int a4)] [] th (m_119 a0 a1 a2 a3 a4 th) := by
  unfold m_119
  refine x_gC ?_
  refine x_P 1 rfl rfl rfl ?_
  refine x_P 2 rfl rfl rfl ?_
  refine x_P 3 rfl rfl rfl ?_
  refine x_P 4 rfl rfl rfl ?_
  refine x_callW rfl rfl rfl rfl rfl ⟨rfl, rfl⟩ (fun x h => c_120 h) (S_120 d a0 a1 a2 a3 th) (fun th1 hth1 => ?_)
  refine x_P 8 rfl rfl rfl ?_
  refine x_gI rfl (fun x2 hx2 => ?_)
  refine x_P 12 rfl rfl rfl ?_
  refine x_gN rfl (fun o3 ho3 => ?_)
  refine x_gN rfl (fun o4 ho4 => ?_)
  refine x_P 20 rfl rfl rfl ?_
  refine x_aI rfl ⟨rfl, rfl⟩ (fun x5 hx5 => ?_)
  refine x_P 22 rfl rfl rfl ?_
  exact x_retI (x := ((x2 + x5), th1)) rfl
-- 34 NineTrees.moved(II)I
noncomputable def m_34 (a0 : Nat) (a1 : Int32) (a2 : Int32) (th : tH) : Option (Int32 × tH) :=
  (gC th 7 a0).bind fun _ =>
  (m_67 a0 a1 a2 th).bind fun x1 =>
  jn (fun (v2 : Int32 × tH) =>
      some (v2.1, v2.2)
    ) (fun j3 =>
      if x1 = 0 then
        (gN th 7 a0 5).bind fun o5 =>
        (gN th 7 a0 0).bind fun o6 =>
        (m_63 a0 th).bind fun q7 =>
        (m_119 o5 o6 q7.1 a1 a2 q7.2).bind fun q8 =>
        j3 (q8.1, q8.2)
      else
        (m_59 a0 x1 th).bind fun q4 =>
        j3 (q4.1, q4.2)
    )
theorem c_34 {a0 : Nat} {a1 : Int32} {a2 : Int32} {th : tH} {x : (Int32 × tH)} (h : m_34 a0 a1 a2 th = some x) : ∃ fs, th[a0]? = some (.inr (7, fs)) := gC_of h
theorem S_34 {L : Nat} (d : Nat) (a0 : Nat) (a1 : Int32) (a2 : Int32) (th : tH) : Wx L (fun x => (some (.int x.1), x.2)) (d + 5) 34 4 0 [(0, .ref a0), (1, .int a1), (2, .int a2)] [] th (m_34 a0 a1 a2 th) := by
  unfold m_34
  refine x_gC ?_
  refine x_P 1 rfl rfl rfl ?_
  refine x_P 2 rfl rfl rfl ?_
  refine x_P 3 rfl rfl rfl ?_
  refine x_callV rfl rfl rfl rfl rfl ⟨rfl, rfl⟩ (fun x h => c_67 h) (S_67 (d + 2) a0 a1 a2 th) (fun x1 hx1 => ?_)
  refine x_P (lv' := [(3, .int x1), (0, .ref a0), (1, .int a1), (2, .int a2)]) 7 rfl rfl rfl ?_
  refine x_P 8 rfl rfl rfl ?_
  refine x_jn 36 (fun v2 => []) (fun v2 => [.int v2.1]) (fun v2 => v2.2) (fun v2 => ?_) (fun j3 hj3 => ?_)
  · exact x_retI (x := (v2.1, v2.2)) rfl
  · refine x_if_ne rfl rfl (fun h9 => ?_) (fun h9 => ?_)
    · refine x_P 12 rfl rfl rfl ?_
      refine x_gN rfl (fun o5 ho5 => ?_)
      refine x_P 16 rfl rfl rfl ?_
      refine x_gN rfl (fun o6 ho6 => ?_)
      refine x_P 20 rfl rfl rfl ?_
      refine x_callV rfl rfl rfl rfl rfl ⟨rfl, rfl⟩ (fun x h => c_63 h) (S_63 d a0 th) (fun q7 hq7 => ?_)
      refine x_P 24 rfl rfl rfl ?_
      refine x_P 25 rfl rfl rfl ?_
      refine x_callV rfl rfl rfl rfl rfl ⟨rfl, rfl⟩ (fun x h => c_119 h) (S_119 d o5 o6 q7.1 a1 a2 q7.2) (fun q8 hq8 => ?_)
      refine x_P 36 rfl rfl rfl ?_
      exact x_lv (hj3 (q8.1, q8.2)) trivial
    · refine x_P 32 rfl rfl rfl ?_
      refine x_P 33 rfl rfl rfl ?_
      refine x_callV rfl rfl rfl rfl rfl ⟨rfl, rfl⟩ (fun x h => c_59 h) (S_59 (d + 3) a0 x1 th) (fun q4 hq4 => ?_)
      exact x_lv (hj3 (q4.1, q4.2)) trivial
-- 114 NineTrees$Crossings.countRows(LNineTrees$Garden;LNineTrees$RowList;I)V
noncomputable def m_114 (a0 : Nat) (a1 : Nat) (a2 : Nat) (a3 : Int32) (th : tH) : Option tH :=
  (gC th 0 a0).bind fun _ =>
  (m_113 a0 th).bind fun th1 =>
  lp (fun (s2 : Int32 × tH) nx3 ex4 =>
      (gI s2.2 4 a2 1).bind fun x6 =>
      if x6 ≤ s2.1 then
        ex4 s2.2
      else
        (gN s2.2 4 a2 0).bind fun o7 =>
        (aI s2.2 o7 s2.1).bind fun x8 =>
        (m_173 x8 s2.2).bind fun x9 =>
        jn (fun (v10 : tH) =>
            nx3 ((s2.1 + Int32.ofInt 1), v10)
          ) (fun j11 =>
            if x9 < a3 then
              j11 s2.2
            else
              (gN s2.2 4 a2 0).bind fun o12 =>
              (aI s2.2 o12 s2.1).bind fun x13 =>
              (m_115 a0 a1 x13 s2.2).bind fun th14 =>
              j11 th14
          )
    ) 4096 ((Int32.ofInt 0), th1) (fun (x5 : tH) =>
      some x5
    )
theorem c_114 {a0 : Nat} {a1 : Nat} {a2 : Nat} {a3 : Int32} {th : tH} {x : tH} (h : m_114 a0 a1 a2 a3 th = some x) : ∃ fs, th[a0]? = some (.inr (0, fs)) := gC_of h
theorem S_114 {L : Nat} (d : Nat) (a0 : Nat) (a1 : Nat) (a2 : Nat) (a3 : Int32) (th : tH) : Wx L (fun x => (none, x)) (d + 3) 114 5 0 [(0, .ref a0), (1, .ref a1), (2, .ref a2), (3, .int a3)] [] th (m_114 a0 a1 a2 a3 th) := by
  unfold m_114
  refine x_gC ?_
  refine x_P 1 rfl rfl rfl ?_
  refine x_callW rfl rfl rfl rfl rfl ⟨rfl, rfl⟩ (fun x h => c_113 h) (S_113 (d + 1) a0 th) (fun th1 hth1 => ?_)
  refine x_P 5 rfl rfl rfl ?_
  refine x_P (lv' := [(4, .int (Int32.ofInt 0)), (0, .ref a0), (1, .ref a1), (2, .ref a2), (3, .int a3)]) 7 rfl rfl rfl ?_
  refine x_lv (lv := [(0, .ref a0), (1, .ref a1), (2, .ref a2), (3, .int a3), (4, .int (Int32.ofInt 0))]) (x_lp 48 (fun s2 => [(0, .ref a0), (1, .ref a1), (2, .ref a2), (3, .int a3), (4, .int s2.1)]) (fun s2 => s2.2) (fun x5 => []) (fun x5 => x5) (fun s2 nx3 hnx3 ex4 hex4 => ?_) (fun x5 => ?_) 4096 ((Int32.ofInt 0), th1)) ⟨rfl, rfl, rfl, rfl, rfl, trivial⟩
  · refine x_P 9 rfl rfl rfl ?_
    refine x_P 10 rfl rfl rfl ?_
    refine x_gI rfl (fun x6 hx6 => ?_)
    refine x_ic_ge rfl rfl (fun h16 => ?_) (fun h16 => ?_)
    · exact x_lv (hex4 s2.2) trivial
    · refine x_P 17 rfl rfl rfl ?_
      refine x_gN rfl (fun o7 ho7 => ?_)
      refine x_P 22 rfl rfl rfl ?_
      refine x_aI rfl ⟨rfl, rfl⟩ (fun x8 hx8 => ?_)
      refine x_callS rfl rfl rfl rfl rfl rfl ⟨rfl, rfl⟩ (S_173 (d + 2) x8 s2.2) (fun x9 hx9 => ?_)
      refine x_P 27 rfl rfl rfl ?_
      refine x_jn 42 (fun v10 => [(0, .ref a0), (1, .ref a1), (2, .ref a2), (3, .int a3), (4, .int s2.1)]) (fun v10 => []) (fun v10 => v10) (fun v10 => ?_) (fun j11 hj11 => ?_)
      · refine x_P (lv' := [(4, .int (s2.1 + Int32.ofInt 1)), (0, .ref a0), (1, .ref a1), (2, .ref a2), (3, .int a3)]) 45 rfl rfl rfl ?_
        refine x_P 7 rfl rfl rfl ?_
        exact x_lv (hnx3 ((s2.1 + Int32.ofInt 1), v10)) ⟨rfl, rfl, rfl, rfl, rfl, trivial⟩
      · refine x_ic_lt rfl rfl (fun h15 => ?_) (fun h15 => ?_)
        · exact x_lv (hj11 s2.2) ⟨rfl, rfl, rfl, rfl, rfl, trivial⟩
        · refine x_P 31 rfl rfl rfl ?_
          refine x_P 32 rfl rfl rfl ?_
          refine x_P 33 rfl rfl rfl ?_
          refine x_gN rfl (fun o12 ho12 => ?_)
          refine x_P 38 rfl rfl rfl ?_
          refine x_aI rfl ⟨rfl, rfl⟩ (fun x13 hx13 => ?_)
          refine x_callW rfl rfl rfl rfl rfl ⟨rfl, rfl⟩ (fun x h => c_115 h) (S_115 d a0 a1 x13 s2.2) (fun th14 hth14 => ?_)
          exact x_lv (hj11 th14) ⟨rfl, rfl, rfl, rfl, rfl, trivial⟩
  · exact x_retV (x := x5) rfl
-- 35 NineTrees.may()J
noncomputable def m_35 (a0 : Nat) (th : tH) : Option (Int64 × tH) :=
  (gC th 7 a0).bind fun _ =>
  (gN th 7 a0 4).bind fun o1 =>
  (gN th 7 a0 0).bind fun o2 =>
  (m_63 a0 th).bind fun q3 =>
  (m_114 o1 o2 q3.1 (Int32.ofInt 2) q3.2).bind fun th4 =>
  lp (fun (s5 : Int64 × Int32) nx6 ex7 =>
      (gN th4 7 a0 0).bind fun o9 =>
      (m_70 o9 th4).bind fun x10 =>
      if x10 ≤ s5.2 then
        ex7 s5.1
      else
        (gN th4 7 a0 0).bind fun o11 =>
        (m_84 o11 s5.2 th4).bind fun x12 =>
        jn (fun (v13 : Int64) =>
            nx6 (v13, (s5.2 + Int32.ofInt 1))
          ) (fun j14 =>
            if x12 = 0 then
              j14 s5.1
            else
              (gN th4 7 a0 4).bind fun o15 =>
              (gN th4 0 o15 0).bind fun o16 =>
              (aI th4 o16 s5.2).bind fun x17 =>
              if x17 = 0 then
                j14 (s5.1 ||| ((Int64.ofNat 1) <<< ((Int32.toInt64 s5.2) &&& 63)))
              else
                j14 s5.1
          )
    ) 4096 ((Int64.ofNat 0), (Int32.ofInt 0)) (fun (x8 : Int64) =>
      some (x8, th4)
    )
theorem c_35 {a0 : Nat} {th : tH} {x : (Int64 × tH)} (h : m_35 a0 th = some x) : ∃ fs, th[a0]? = some (.inr (7, fs)) := gC_of h
theorem S_35 {L : Nat} (d : Nat) (a0 : Nat) (th : tH) : Wx L (fun x => (some (.long x.1), x.2)) (d + 5) 35 4 0 [(0, .ref a0)] [] th (m_35 a0 th) := by
  unfold m_35
  refine x_gC ?_
  refine x_P 1 rfl rfl rfl ?_
  refine x_gN rfl (fun o1 ho1 => ?_)
  refine x_P 5 rfl rfl rfl ?_
  refine x_gN rfl (fun o2 ho2 => ?_)
  refine x_P 9 rfl rfl rfl ?_
  refine x_callV rfl rfl rfl rfl rfl ⟨rfl, rfl⟩ (fun x h => c_63 h) (S_63 d a0 th) (fun q3 hq3 => ?_)
  refine x_P 13 rfl rfl rfl ?_
  refine x_callW rfl rfl rfl rfl rfl ⟨rfl, rfl⟩ (fun x h => c_114 h) (S_114 (d + 1) o1 o2 q3.1 (Int32.ofInt 2) q3.2) (fun th4 hth4 => ?_)
  refine x_P 17 rfl rfl rfl ?_
  refine x_P (lv' := [(1, .long (Int64.ofNat 0)), (0, .ref a0)]) 18 rfl rfl rfl ?_
  refine x_P 19 rfl rfl rfl ?_
  refine x_P (lv' := [(3, .int (Int32.ofInt 0)), (1, .long (Int64.ofNat 0)), (0, .ref a0)]) 20 rfl rfl rfl ?_
  refine x_lv (lv := [(0, .ref a0), (1, .long (Int64.ofNat 0)), (3, .int (Int32.ofInt 0))]) (x_lp 66 (fun s5 => [(0, .ref a0), (1, .long s5.1), (3, .int s5.2)]) (fun s5 => th4) (fun x8 => [(1, .long x8)]) (fun x8 => th4) (fun s5 nx6 hnx6 ex7 hex7 => ?_) (fun x8 => ?_) 4096 ((Int64.ofNat 0), (Int32.ofInt 0))) ⟨rfl, rfl, rfl, trivial⟩
  · refine x_P 21 rfl rfl rfl ?_
    refine x_P 22 rfl rfl rfl ?_
    refine x_gN rfl (fun o9 ho9 => ?_)
    refine x_callV rfl rfl rfl rfl rfl ⟨rfl, rfl⟩ (fun x h => c_70 h) (S_70 (d + 4) o9 th4) (fun x10 hx10 => ?_)
    refine x_ic_ge rfl rfl (fun h20 => ?_) (fun h20 => ?_)
    · exact x_lv (hex7 s5.1) ⟨rfl, trivial⟩
    · refine x_P 32 rfl rfl rfl ?_
      refine x_gN rfl (fun o11 ho11 => ?_)
      refine x_P 36 rfl rfl rfl ?_
      refine x_callV rfl rfl rfl rfl rfl ⟨rfl, rfl⟩ (fun x h => c_84 h) (S_84 (d + 3) o11 s5.2 th4) (fun x12 hx12 => ?_)
      refine x_jn 60 (fun v13 => [(0, .ref a0), (1, .long v13), (3, .int s5.2)]) (fun v13 => []) (fun v13 => th4) (fun v13 => ?_) (fun j14 hj14 => ?_)
      · refine x_P (lv' := [(3, .int (s5.2 + Int32.ofInt 1)), (0, .ref a0), (1, .long v13)]) 63 rfl rfl rfl ?_
        refine x_P 20 rfl rfl rfl ?_
        exact x_lv (hnx6 (v13, (s5.2 + Int32.ofInt 1))) ⟨rfl, rfl, rfl, trivial⟩
      · refine x_if_eq rfl rfl (fun h19 => ?_) (fun h19 => ?_)
        · exact x_lv (hj14 s5.1) ⟨rfl, rfl, rfl, trivial⟩
        · refine x_P 43 rfl rfl rfl ?_
          refine x_gN rfl (fun o15 ho15 => ?_)
          refine x_gN rfl (fun o16 ho16 => ?_)
          refine x_P 50 rfl rfl rfl ?_
          refine x_aI rfl ⟨rfl, rfl⟩ (fun x17 hx17 => ?_)
          refine x_if_ne rfl rfl (fun h18 => ?_) (fun h18 => ?_)
          · refine x_P 55 rfl rfl rfl ?_
            refine x_P 56 rfl rfl rfl ?_
            refine x_P 57 rfl rfl rfl ?_
            refine x_P 58 rfl rfl rfl ?_
            refine x_P 59 rfl rfl rfl ?_
            refine x_P (lv' := [(1, .long (s5.1 ||| ((Int64.ofNat 1) <<< ((Int32.toInt64 s5.2) &&& 63)))), (0, .ref a0), (3, .int s5.2)]) 60 rfl rfl rfl ?_
            exact x_lv (hj14 (s5.1 ||| ((Int64.ofNat 1) <<< ((Int32.toInt64 s5.2) &&& 63)))) ⟨rfl, rfl, rfl, trivial⟩
          · exact x_lv (hj14 s5.1) ⟨rfl, rfl, rfl, trivial⟩
  · refine x_P 67 rfl rfl rfl ?_
    exact x_retJ (x := (x8, th4)) rfl
-- 36 NineTrees.most(I)I
noncomputable def m_36 (a0 : Nat) (a1 : Int32) (th : tH) : Option (Int32 × tH) :=
  (gC th 7 a0).bind fun _ =>
  jn (fun (v1 : Unit) =>
      (m_59 a0 (Int8.ofInt (-2)).toInt32 th).bind fun q3 =>
      some (q3.1, q3.2)
    ) (fun j2 =>
      if a1 < (Int32.ofInt 1) then
        j2 ()
      else
        if a1 ≤ (Int32.ofInt 5) then
          jn (fun (v4 : Int32) =>
              some (v4, th)
            ) (fun j5 =>
              if a1 = (Int32.ofInt 1) then
                j5 (Int32.ofInt 1)
              else
                j5 ((Int32.ofInt 2) * a1)
            )
        else
          j2 ()
    )
theorem c_36 {a0 : Nat} {a1 : Int32} {th : tH} {x : (Int32 × tH)} (h : m_36 a0 a1 th = some x) : ∃ fs, th[a0]? = some (.inr (7, fs)) := gC_of h
theorem S_36 {L : Nat} (d : Nat) (a0 : Nat) (a1 : Int32) (th : tH) : Wx L (fun x => (some (.int x.1), x.2)) (d + 2) 36 2 0 [(0, .ref a0), (1, .int a1)] [] th (m_36 a0 a1 th) := by
  unfold m_36
  refine x_gC ?_
  refine x_P 1 rfl rfl rfl ?_
  refine x_P 2 rfl rfl rfl ?_
  refine x_jn 10 (fun v1 => [(0, .ref a0)]) (fun v1 => []) (fun v1 => th) (fun v1 => ?_) (fun j2 hj2 => ?_)
  · refine x_P 11 rfl rfl rfl ?_
    refine x_P 13 rfl rfl rfl ?_
    refine x_callV rfl rfl rfl rfl rfl ⟨rfl, rfl⟩ (fun x h => c_59 h) (S_59 d a0 (Int8.ofInt (-2)).toInt32 th) (fun q3 hq3 => ?_)
    exact x_retI (x := (q3.1, q3.2)) rfl
  · refine x_ic_lt rfl rfl (fun h8 => ?_) (fun h8 => ?_)
    · exact x_lv (hj2 ()) ⟨rfl, trivial⟩
    · refine x_P 6 rfl rfl rfl ?_
      refine x_P 7 rfl rfl rfl ?_
      refine x_ic_le rfl rfl (fun h7 => ?_) (fun h7 => ?_)
      · refine x_P 18 rfl rfl rfl ?_
        refine x_P 19 rfl rfl rfl ?_
        refine x_jn 29 (fun v4 => []) (fun v4 => [.int v4]) (fun v4 => th) (fun v4 => ?_) (fun j5 hj5 => ?_)
        · exact x_retI (x := (v4, th)) rfl
        · refine x_ic_ne rfl rfl (fun h6 => ?_) (fun h6 => ?_)
          · refine x_P 23 rfl rfl rfl ?_
            refine x_P 29 rfl rfl rfl ?_
            exact x_lv (hj5 (Int32.ofInt 1)) trivial
          · refine x_P 27 rfl rfl rfl ?_
            refine x_P 28 rfl rfl rfl ?_
            refine x_P 29 rfl rfl rfl ?_
            exact x_lv (hj5 ((Int32.ofInt 2) * a1)) trivial
      · exact x_lv (hj2 ()) ⟨rfl, trivial⟩
-- 146 NineTrees$Sight.seenFrom(LNineTrees$Garden;I)I
noncomputable def m_146 (a0 : Nat) (a1 : Int32) (th : tH) : Option (Int32) :=
  lp (fun (s1 : Int32 × Int32) nx2 ex3 =>
      (gI th 2 a0 5).bind fun x5 =>
      if x5 ≤ s1.2 then
        ex3 s1.1
      else
        (m_145 a0 s1.2 a1 th).bind fun x6 =>
        jn (fun (v7 : Int32) =>
            nx2 (v7, (s1.2 + Int32.ofInt 1))
          ) (fun j8 =>
            if x6 = 0 then
              j8 s1.1
            else
              j8 (s1.1 ||| ((Int32.ofInt 1) <<< (s1.2 &&& 31)))
          )
    ) 4096 ((Int32.ofInt 0), (Int32.ofInt 0)) (fun (x4 : Int32) =>
      some x4
    )
theorem S_146 {L : Nat} (d : Nat) (a0 : Nat) (a1 : Int32) (th : tH) : Wx L (fun x => (some (.int x), th)) (d + 5) 146 4 0 [(0, .ref a0), (1, .int a1)] [] th (m_146 a0 a1 th) := by
  unfold m_146
  refine x_P 1 rfl rfl rfl ?_
  refine x_P (lv' := [(2, .int (Int32.ofInt 0)), (0, .ref a0), (1, .int a1)]) 2 rfl rfl rfl ?_
  refine x_P 3 rfl rfl rfl ?_
  refine x_P (lv' := [(3, .int (Int32.ofInt 0)), (2, .int (Int32.ofInt 0)), (0, .ref a0), (1, .int a1)]) 4 rfl rfl rfl ?_
  refine x_lv (lv := [(0, .ref a0), (1, .int a1), (2, .int (Int32.ofInt 0)), (3, .int (Int32.ofInt 0))]) (x_lp 33 (fun s1 => [(0, .ref a0), (1, .int a1), (2, .int s1.1), (3, .int s1.2)]) (fun s1 => th) (fun x4 => [(2, .int x4)]) (fun x4 => th) (fun s1 nx2 hnx2 ex3 hex3 => ?_) (fun x4 => ?_) 4096 ((Int32.ofInt 0), (Int32.ofInt 0))) ⟨rfl, rfl, rfl, rfl, trivial⟩
  · refine x_P 5 rfl rfl rfl ?_
    refine x_P 6 rfl rfl rfl ?_
    refine x_gI rfl (fun x5 hx5 => ?_)
    refine x_ic_ge rfl rfl (fun h10 => ?_) (fun h10 => ?_)
    · exact x_lv (hex3 s1.1) ⟨rfl, trivial⟩
    · refine x_P 13 rfl rfl rfl ?_
      refine x_P 14 rfl rfl rfl ?_
      refine x_P 15 rfl rfl rfl ?_
      refine x_callS rfl rfl rfl rfl rfl rfl ⟨rfl, rfl⟩ (S_145 d a0 s1.2 a1 th) (fun x6 hx6 => ?_)
      refine x_jn 27 (fun v7 => [(0, .ref a0), (1, .int a1), (2, .int v7), (3, .int s1.2)]) (fun v7 => []) (fun v7 => th) (fun v7 => ?_) (fun j8 hj8 => ?_)
      · refine x_P (lv' := [(3, .int (s1.2 + Int32.ofInt 1)), (0, .ref a0), (1, .int a1), (2, .int v7)]) 30 rfl rfl rfl ?_
        refine x_P 4 rfl rfl rfl ?_
        exact x_lv (hnx2 (v7, (s1.2 + Int32.ofInt 1))) ⟨rfl, rfl, rfl, rfl, trivial⟩
      · refine x_if_eq rfl rfl (fun h9 => ?_) (fun h9 => ?_)
        · exact x_lv (hj8 s1.1) ⟨rfl, rfl, rfl, rfl, trivial⟩
        · refine x_P 22 rfl rfl rfl ?_
          refine x_P 23 rfl rfl rfl ?_
          refine x_P 24 rfl rfl rfl ?_
          refine x_P 25 rfl rfl rfl ?_
          refine x_P 26 rfl rfl rfl ?_
          refine x_P (lv' := [(2, .int (s1.1 ||| ((Int32.ofInt 1) <<< (s1.2 &&& 31)))), (0, .ref a0), (1, .int a1), (3, .int s1.2)]) 27 rfl rfl rfl ?_
          exact x_lv (hj8 (s1.1 ||| ((Int32.ofInt 1) <<< (s1.2 &&& 31)))) ⟨rfl, rfl, rfl, rfl, trivial⟩
  · refine x_P 34 rfl rfl rfl ?_
    exact x_retI (x := x4) rfl
-- 37 NineTrees.view(I)I
noncomputable def m_37 (a0 : Nat) (a1 : Int32) (th : tH) : Option (Int32 × tH) :=
  (gC th 7 a0).bind fun _ =>
  (gN th 7 a0 0).bind fun o1 =>
  (m_71 o1 a1 th).bind fun x2 =>
  jn (fun (v3 : Int32 × tH) =>
      some (v3.1, v3.2)
    ) (fun j4 =>
      if x2 = 0 then
        (m_59 a0 (Int8.ofInt (-2)).toInt32 th).bind fun q5 =>
        j4 (q5.1, q5.2)
      else
        (gN th 7 a0 0).bind fun o6 =>
        (m_146 o6 a1 th).bind fun x7 =>
        j4 (x7, th)
    )
theorem c_37 {a0 : Nat} {a1 : Int32} {th : tH} {x : (Int32 × tH)} (h : m_37 a0 a1 th = some x) : ∃ fs, th[a0]? = some (.inr (7, fs)) := gC_of h
theorem S_37 {L : Nat} (d : Nat) (a0 : Nat) (a1 : Int32) (th : tH) : Wx L (fun x => (some (.int x.1), x.2)) (d + 6) 37 2 0 [(0, .ref a0), (1, .int a1)] [] th (m_37 a0 a1 th) := by
  unfold m_37
  refine x_gC ?_
  refine x_P 1 rfl rfl rfl ?_
  refine x_gN rfl (fun o1 ho1 => ?_)
  refine x_P 5 rfl rfl rfl ?_
  refine x_callV rfl rfl rfl rfl rfl ⟨rfl, rfl⟩ (fun x h => c_71 h) (S_71 (d + 4) o1 a1 th) (fun x2 hx2 => ?_)
  refine x_jn 28 (fun v3 => []) (fun v3 => [.int v3.1]) (fun v3 => v3.2) (fun v3 => ?_) (fun j4 hj4 => ?_)
  · exact x_retI (x := (v3.1, v3.2)) rfl
  · refine x_if_eq rfl rfl (fun h8 => ?_) (fun h8 => ?_)
    · refine x_P 23 rfl rfl rfl ?_
      refine x_P 25 rfl rfl rfl ?_
      refine x_callV rfl rfl rfl rfl rfl ⟨rfl, rfl⟩ (fun x h => c_59 h) (S_59 (d + 4) a0 (Int8.ofInt (-2)).toInt32 th) (fun q5 hq5 => ?_)
      exact x_lv (hj4 (q5.1, q5.2)) trivial
    · refine x_P 12 rfl rfl rfl ?_
      refine x_gN rfl (fun o6 ho6 => ?_)
      refine x_P 16 rfl rfl rfl ?_
      refine x_callS rfl rfl rfl rfl rfl rfl ⟨rfl, rfl⟩ (S_146 d o6 a1 th) (fun x7 hx7 => ?_)
      refine x_P 28 rfl rfl rfl ?_
      exact x_lv (hj4 (x7, th)) trivial
-- 147 NineTrees$Sight.areAllSeen(LNineTrees$Garden;I)Z
noncomputable def m_147 (a0 : Nat) (a1 : Int32) (th : tH) : Option (Int32) :=
  lp (fun (s1 : Int32) nx2 ex3 =>
      (gI th 2 a0 5).bind fun x5 =>
      if x5 ≤ s1 then
        ex3 ()
      else
        (m_145 a0 s1 a1 th).bind fun x6 =>
        if x6 = 0 then
          rB (Int32.ofInt 0)
        else
          nx2 (s1 + Int32.ofInt 1)
    ) 4096 (Int32.ofInt 0) (fun (x4 : Unit) =>
      rB (Int32.ofInt 1)
    )
theorem S_147 {L : Nat} (d : Nat) (a0 : Nat) (a1 : Int32) (th : tH) : Wx L (fun x => (some (.int x), th)) (d + 5) 147 3 0 [(0, .ref a0), (1, .int a1)] [] th (m_147 a0 a1 th) := by
  unfold m_147
  refine x_P 1 rfl rfl rfl ?_
  refine x_P (lv' := [(2, .int (Int32.ofInt 0)), (0, .ref a0), (1, .int a1)]) 2 rfl rfl rfl ?_
  refine x_lv (lv := [(0, .ref a0), (1, .int a1), (2, .int (Int32.ofInt 0))]) (x_lp 27 (fun s1 => [(0, .ref a0), (1, .int a1), (2, .int s1)]) (fun s1 => th) (fun x4 => []) (fun x4 => th) (fun s1 nx2 hnx2 ex3 hex3 => ?_) (fun x4 => ?_) 4096 (Int32.ofInt 0)) ⟨rfl, rfl, rfl, trivial⟩
  · refine x_P 3 rfl rfl rfl ?_
    refine x_P 4 rfl rfl rfl ?_
    refine x_gI rfl (fun x5 hx5 => ?_)
    refine x_ic_ge rfl rfl (fun h8 => ?_) (fun h8 => ?_)
    · exact x_lv (hex3 ()) trivial
    · refine x_P 11 rfl rfl rfl ?_
      refine x_P 12 rfl rfl rfl ?_
      refine x_P 13 rfl rfl rfl ?_
      refine x_callS rfl rfl rfl rfl rfl rfl ⟨rfl, rfl⟩ (S_145 d a0 s1 a1 th) (fun x6 hx6 => ?_)
      refine x_if_ne rfl rfl (fun h7 => ?_) (fun h7 => ?_)
      · refine x_P 20 rfl rfl rfl ?_
        exact x_rB rfl
      · refine x_P (lv' := [(2, .int (s1 + Int32.ofInt 1)), (0, .ref a0), (1, .int a1)]) 24 rfl rfl rfl ?_
        refine x_P 2 rfl rfl rfl ?_
        exact x_lv (hnx2 (s1 + Int32.ofInt 1)) ⟨rfl, rfl, rfl, trivial⟩
  · refine x_P 28 rfl rfl rfl ?_
    exact x_rB rfl
-- 38 NineTrees.overlooks()J
noncomputable def m_38 (a0 : Nat) (th : tH) : Option (Int64) :=
  (gC th 7 a0).bind fun _ =>
  lp (fun (s1 : Int64 × Int32) nx2 ex3 =>
      (gN th 7 a0 0).bind fun o5 =>
      (m_70 o5 th).bind fun x6 =>
      if x6 ≤ s1.2 then
        ex3 s1.1
      else
        (gN th 7 a0 0).bind fun o7 =>
        (m_84 o7 s1.2 th).bind fun x8 =>
        jn (fun (v9 : Int64) =>
            nx2 (v9, (s1.2 + Int32.ofInt 1))
          ) (fun j10 =>
            if x8 = 0 then
              j10 s1.1
            else
              (gN th 7 a0 0).bind fun o11 =>
              (m_147 o11 s1.2 th).bind fun x12 =>
              if x12 = 0 then
                j10 s1.1
              else
                j10 (s1.1 ||| ((Int64.ofNat 1) <<< ((Int32.toInt64 s1.2) &&& 63)))
          )
    ) 4096 ((Int64.ofNat 0), (Int32.ofInt 0)) (fun (x4 : Int64) =>
      some x4
    )
theorem c_38 {a0 : Nat} {th : tH} {x : (Int64)} (h : m_38 a0 th = some x) : ∃ fs, th[a0]? = some (.inr (7, fs)) := gC_of h
theorem S_38 {L : Nat} (d : Nat) (a0 : Nat) (th : tH) : Wx L (fun x => (some (.long x), th)) (d + 6) 38 4 0 [(0, .ref a0)] [] th (m_38 a0 th) := by
  unfold m_38
  refine x_gC ?_
  refine x_P 1 rfl rfl rfl ?_
  refine x_P (lv' := [(1, .long (Int64.ofNat 0)), (0, .ref a0)]) 2 rfl rfl rfl ?_
  refine x_P 3 rfl rfl rfl ?_
  refine x_P (lv' := [(3, .int (Int32.ofInt 0)), (1, .long (Int64.ofNat 0)), (0, .ref a0)]) 4 rfl rfl rfl ?_
  refine x_lv (lv := [(0, .ref a0), (1, .long (Int64.ofNat 0)), (3, .int (Int32.ofInt 0))]) (x_lp 49 (fun s1 => [(0, .ref a0), (1, .long s1.1), (3, .int s1.2)]) (fun s1 => th) (fun x4 => [(1, .long x4)]) (fun x4 => th) (fun s1 nx2 hnx2 ex3 hex3 => ?_) (fun x4 => ?_) 4096 ((Int64.ofNat 0), (Int32.ofInt 0))) ⟨rfl, rfl, rfl, trivial⟩
  · refine x_P 5 rfl rfl rfl ?_
    refine x_P 6 rfl rfl rfl ?_
    refine x_gN rfl (fun o5 ho5 => ?_)
    refine x_callV rfl rfl rfl rfl rfl ⟨rfl, rfl⟩ (fun x h => c_70 h) (S_70 (d + 5) o5 th) (fun x6 hx6 => ?_)
    refine x_ic_ge rfl rfl (fun h15 => ?_) (fun h15 => ?_)
    · exact x_lv (hex3 s1.1) ⟨rfl, trivial⟩
    · refine x_P 16 rfl rfl rfl ?_
      refine x_gN rfl (fun o7 ho7 => ?_)
      refine x_P 20 rfl rfl rfl ?_
      refine x_callV rfl rfl rfl rfl rfl ⟨rfl, rfl⟩ (fun x h => c_84 h) (S_84 (d + 4) o7 s1.2 th) (fun x8 hx8 => ?_)
      refine x_jn 43 (fun v9 => [(0, .ref a0), (1, .long v9), (3, .int s1.2)]) (fun v9 => []) (fun v9 => th) (fun v9 => ?_) (fun j10 hj10 => ?_)
      · refine x_P (lv' := [(3, .int (s1.2 + Int32.ofInt 1)), (0, .ref a0), (1, .long v9)]) 46 rfl rfl rfl ?_
        refine x_P 4 rfl rfl rfl ?_
        exact x_lv (hnx2 (v9, (s1.2 + Int32.ofInt 1))) ⟨rfl, rfl, rfl, trivial⟩
      · refine x_if_eq rfl rfl (fun h14 => ?_) (fun h14 => ?_)
        · exact x_lv (hj10 s1.1) ⟨rfl, rfl, rfl, trivial⟩
        · refine x_P 27 rfl rfl rfl ?_
          refine x_gN rfl (fun o11 ho11 => ?_)
          refine x_P 31 rfl rfl rfl ?_
          refine x_callS rfl rfl rfl rfl rfl rfl ⟨rfl, rfl⟩ (S_147 d o11 s1.2 th) (fun x12 hx12 => ?_)
          refine x_if_eq rfl rfl (fun h13 => ?_) (fun h13 => ?_)
          · exact x_lv (hj10 s1.1) ⟨rfl, rfl, rfl, trivial⟩
          · refine x_P 38 rfl rfl rfl ?_
            refine x_P 39 rfl rfl rfl ?_
            refine x_P 40 rfl rfl rfl ?_
            refine x_P 41 rfl rfl rfl ?_
            refine x_P 42 rfl rfl rfl ?_
            refine x_P (lv' := [(1, .long (s1.1 ||| ((Int64.ofNat 1) <<< ((Int32.toInt64 s1.2) &&& 63)))), (0, .ref a0), (3, .int s1.2)]) 43 rfl rfl rfl ?_
            exact x_lv (hj10 (s1.1 ||| ((Int64.ofNat 1) <<< ((Int32.toInt64 s1.2) &&& 63)))) ⟨rfl, rfl, rfl, trivial⟩
  · refine x_P 50 rfl rfl rfl ?_
    exact x_retJ (x := x4) rfl
-- 39 NineTrees.behind(II)I
noncomputable def m_39 (a0 : Nat) (a1 : Int32) (a2 : Int32) (th : tH) : Option (Int32 × tH) :=
  (gC th 7 a0).bind fun _ =>
  (gN th 7 a0 0).bind fun o1 =>
  (m_81 o1 a1 th).bind fun x2 =>
  jn (fun (v3 : Unit) =>
      (m_59 a0 (Int8.ofInt (-2)).toInt32 th).bind fun q5 =>
      some (q5.1, q5.2)
    ) (fun j4 =>
      if x2 = 0 then
        j4 ()
      else
        (gN th 7 a0 0).bind fun o6 =>
        (m_71 o6 a2 th).bind fun x7 =>
        if x7 = 0 then
          j4 ()
        else
          (gN th 7 a0 0).bind fun o8 =>
          (gN th 2 o8 1).bind fun o9 =>
          (aI th o9 a1).bind fun x10 =>
          if x10 = a2 then
            j4 ()
          else
            (gN th 7 a0 0).bind fun o11 =>
            (m_143 o11 a1 a2 th).bind fun x12 =>
            some (x12, th)
    )
theorem c_39 {a0 : Nat} {a1 : Int32} {a2 : Int32} {th : tH} {x : (Int32 × tH)} (h : m_39 a0 a1 a2 th = some x) : ∃ fs, th[a0]? = some (.inr (7, fs)) := gC_of h
theorem S_39 {L : Nat} (d : Nat) (a0 : Nat) (a1 : Int32) (a2 : Int32) (th : tH) : Wx L (fun x => (some (.int x.1), x.2)) (d + 4) 39 3 0 [(0, .ref a0), (1, .int a1), (2, .int a2)] [] th (m_39 a0 a1 a2 th) := by
  unfold m_39
  refine x_gC ?_
  refine x_P 1 rfl rfl rfl ?_
  refine x_gN rfl (fun o1 ho1 => ?_)
  refine x_P 5 rfl rfl rfl ?_
  refine x_callV rfl rfl rfl rfl rfl ⟨rfl, rfl⟩ (fun x h => c_81 h) (S_81 (d + 3) o1 a1 th) (fun x2 hx2 => ?_)
  refine x_jn 35 (fun v3 => [(0, .ref a0)]) (fun v3 => []) (fun v3 => th) (fun v3 => ?_) (fun j4 hj4 => ?_)
  · refine x_P 36 rfl rfl rfl ?_
    refine x_P 38 rfl rfl rfl ?_
    refine x_callV rfl rfl rfl rfl rfl ⟨rfl, rfl⟩ (fun x h => c_59 h) (S_59 (d + 2) a0 (Int8.ofInt (-2)).toInt32 th) (fun q5 hq5 => ?_)
    exact x_retI (x := (q5.1, q5.2)) rfl
  · refine x_if_eq rfl rfl (fun h15 => ?_) (fun h15 => ?_)
    · exact x_lv (hj4 ()) ⟨rfl, trivial⟩
    · refine x_P 12 rfl rfl rfl ?_
      refine x_gN rfl (fun o6 ho6 => ?_)
      refine x_P 16 rfl rfl rfl ?_
      refine x_callV rfl rfl rfl rfl rfl ⟨rfl, rfl⟩ (fun x h => c_71 h) (S_71 (d + 2) o6 a2 th) (fun x7 hx7 => ?_)
      refine x_if_eq rfl rfl (fun h14 => ?_) (fun h14 => ?_)
      · exact x_lv (hj4 ()) ⟨rfl, trivial⟩
      · refine x_P 23 rfl rfl rfl ?_
        refine x_gN rfl (fun o8 ho8 => ?_)
        refine x_gN rfl (fun o9 ho9 => ?_)
        refine x_P 30 rfl rfl rfl ?_
        refine x_aI rfl ⟨rfl, rfl⟩ (fun x10 hx10 => ?_)
        refine x_P 32 rfl rfl rfl ?_
        refine x_ic_ne rfl rfl (fun h13 => ?_) (fun h13 => ?_)
        · exact x_lv (hj4 ()) ⟨rfl, trivial⟩
        · refine x_P 43 rfl rfl rfl ?_
          refine x_gN rfl (fun o11 ho11 => ?_)
          refine x_P 47 rfl rfl rfl ?_
          refine x_P 48 rfl rfl rfl ?_
          refine x_callS rfl rfl rfl rfl rfl rfl ⟨rfl, rfl⟩ (S_143 d o11 a1 a2 th) (fun x12 hx12 => ?_)
          exact x_retI (x := (x12, th)) rfl
-- 133 NineTrees$Shapes.lineOf(LNineTrees$Garden;II)I
noncomputable def m_133 (a0 : Nat) (a1 : Int32) (a2 : Int32) (th : tH) : Option (Int32) :=
  (m_72 a0 a1 th).bind fun x1 =>
  (m_73 a0 a1 th).bind fun x2 =>
  if a2 < 0 ∨ 2 < a2 then
    some (x1 + x2)
  else if a2 = 0 then
    some x1
  else if a2 = 1 then
    some x2
  else if a2 = 2 then
    (gI th 2 a0 4).bind fun x7 =>
    some (((x1 - x2) + x7) - (Int32.ofInt 1))
  else
    none
theorem S_133 {L : Nat} (d : Nat) (a0 : Nat) (a1 : Int32) (a2 : Int32) (th : tH) : Wx L (fun x => (some (.int x), th)) (d + 1) 133 5 0 [(0, .ref a0), (1, .int a1), (2, .int a2)] [] th (m_133 a0 a1 a2 th) := by
  unfold m_133
  refine x_P 1 rfl rfl rfl ?_
  refine x_P 2 rfl rfl rfl ?_
  refine x_callV rfl rfl rfl rfl rfl ⟨rfl, rfl⟩ (fun x h => c_72 h) (S_72 d a0 a1 th) (fun x1 hx1 => ?_)
  refine x_P (lv' := [(3, .int x1), (0, .ref a0), (1, .int a1), (2, .int a2)]) 6 rfl rfl rfl ?_
  refine x_P 7 rfl rfl rfl ?_
  refine x_P 8 rfl rfl rfl ?_
  refine x_callV rfl rfl rfl rfl rfl ⟨rfl, rfl⟩ (fun x h => c_73 h) (S_73 d a0 a1 th) (fun x2 hx2 => ?_)
  refine x_P (lv' := [(4, .int x2), (3, .int x1), (0, .ref a0), (1, .int a1), (2, .int a2)]) 13 rfl rfl rfl ?_
  refine x_P 14 rfl rfl rfl ?_
  refine x_ite (fun h3 => ?_) (fun h3 => ?_)
  · refine x_P 57 rfl rfl (x_td h3 (by decide +kernel)) ?_
    refine x_P 58 rfl rfl rfl ?_
    refine x_P 60 rfl rfl rfl ?_
    refine x_P 61 rfl rfl rfl ?_
    exact x_retI (x := (x1 + x2)) rfl
  · skip
    refine x_ite (fun h4 => ?_) (fun h4 => ?_)
    · refine x_P 40 rfl rfl (x_ts h4 (by decide +kernel)) ?_
      refine x_P 41 rfl rfl rfl ?_
      exact x_retI (x := x1) rfl
    · skip
      refine x_ite (fun h5 => ?_) (fun h5 => ?_)
      · refine x_P 42 rfl rfl (x_ts h5 (by decide +kernel)) ?_
        refine x_P 44 rfl rfl rfl ?_
        exact x_retI (x := x2) rfl
      · skip
        refine x_ite (fun h6 => ?_) (fun h6 => ?_)
        · refine x_P 45 rfl rfl (x_ts h6 (by decide +kernel)) ?_
          refine x_P 46 rfl rfl rfl ?_
          refine x_P 48 rfl rfl rfl ?_
          refine x_P 49 rfl rfl rfl ?_
          refine x_P 50 rfl rfl rfl ?_
          refine x_gI rfl (fun x7 hx7 => ?_)
          refine x_P 54 rfl rfl rfl ?_
          refine x_P 55 rfl rfl rfl ?_
          refine x_P 56 rfl rfl rfl ?_
          exact x_retI (x := (((x1 - x2) + x7) - (Int32.ofInt 1))) rfl
        · skip
          exact x_none
-- 132 NineTrees$Shapes.freeLines(LNineTrees$Garden;I)I
noncomputable def m_132 (a0 : Nat) (a1 : Int32) (th : tH) : Option (Int32) :=
  lp (fun (s1 : Int32 × Int32) nx2 ex3 =>
      (gI th 2 a0 5).bind fun x11 =>
      if x11 ≤ s1.2 then
        ex3 s1.1
      else
        (gN th 2 a0 1).bind fun o12 =>
        (aI th o12 s1.2).bind fun x13 =>
        (m_133 a0 x13 a1 th).bind fun x14 =>
        nx2 ((s1.1 ||| ((Int32.ofInt 1) <<< (x14 &&& 31))), (s1.2 + Int32.ofInt 1))
    ) 4096 ((Int32.ofInt 0), (Int32.ofInt 0)) (fun (x4 : Int32) =>
      jn (fun (v5 : Int32) =>
          (m_173 x4 th).bind fun x7 =>
          some (v5 - x7)
        ) (fun j6 =>
          if (Int32.ofInt 2) ≤ a1 then
            (gI th 2 a0 4).bind fun x8 =>
            j6 (((Int32.ofInt 2) * x8) - (Int32.ofInt 1))
          else
            (gI th 2 a0 4).bind fun x9 =>
            j6 x9
        )
    )
theorem S_132 {L : Nat} (d : Nat) (a0 : Nat) (a1 : Int32) (th : tH) : Wx L (fun x => (some (.int x), th)) (d + 2) 132 4 0 [(0, .ref a0), (1, .int a1)] [] th (m_132 a0 a1 th) := by
  unfold m_132
  refine x_P 1 rfl rfl rfl ?_
  refine x_P (lv' := [(2, .int (Int32.ofInt 0)), (0, .ref a0), (1, .int a1)]) 2 rfl rfl rfl ?_
  refine x_P 3 rfl rfl rfl ?_
  refine x_P (lv' := [(3, .int (Int32.ofInt 0)), (2, .int (Int32.ofInt 0)), (0, .ref a0), (1, .int a1)]) 4 rfl rfl rfl ?_
  refine x_lv (lv := [(0, .ref a0), (1, .int a1), (2, .int (Int32.ofInt 0)), (3, .int (Int32.ofInt 0))]) (x_lp 34 (fun s1 => [(0, .ref a0), (1, .int a1), (2, .int s1.1), (3, .int s1.2)]) (fun s1 => th) (fun x4 => [(0, .ref a0), (1, .int a1), (2, .int x4)]) (fun x4 => th) (fun s1 nx2 hnx2 ex3 hex3 => ?_) (fun x4 => ?_) 4096 ((Int32.ofInt 0), (Int32.ofInt 0))) ⟨rfl, rfl, rfl, rfl, trivial⟩
  · refine x_P 5 rfl rfl rfl ?_
    refine x_P 6 rfl rfl rfl ?_
    refine x_gI rfl (fun x11 hx11 => ?_)
    refine x_ic_ge rfl rfl (fun h15 => ?_) (fun h15 => ?_)
    · exact x_lv (hex3 s1.1) ⟨rfl, rfl, rfl, trivial⟩
    · refine x_P 13 rfl rfl rfl ?_
      refine x_P 14 rfl rfl rfl ?_
      refine x_P 15 rfl rfl rfl ?_
      refine x_P 16 rfl rfl rfl ?_
      refine x_gN rfl (fun o12 ho12 => ?_)
      refine x_P 20 rfl rfl rfl ?_
      refine x_aI rfl ⟨rfl, rfl⟩ (fun x13 hx13 => ?_)
      refine x_P 22 rfl rfl rfl ?_
      refine x_callS rfl rfl rfl rfl rfl rfl ⟨rfl, rfl⟩ (S_133 d a0 x13 a1 th) (fun x14 hx14 => ?_)
      refine x_P 26 rfl rfl rfl ?_
      refine x_P 27 rfl rfl rfl ?_
      refine x_P (lv' := [(2, .int (s1.1 ||| ((Int32.ofInt 1) <<< (x14 &&& 31)))), (0, .ref a0), (1, .int a1), (3, .int s1.2)]) 28 rfl rfl rfl ?_
      refine x_P (lv' := [(3, .int (s1.2 + Int32.ofInt 1)), (2, .int (s1.1 ||| ((Int32.ofInt 1) <<< (x14 &&& 31)))), (0, .ref a0), (1, .int a1)]) 31 rfl rfl rfl ?_
      refine x_P 4 rfl rfl rfl ?_
      exact x_lv (hnx2 ((s1.1 ||| ((Int32.ofInt 1) <<< (x14 &&& 31))), (s1.2 + Int32.ofInt 1))) ⟨rfl, rfl, rfl, rfl, trivial⟩
  · refine x_P 35 rfl rfl rfl ?_
    refine x_P 36 rfl rfl rfl ?_
    refine x_jn 54 (fun v5 => [(2, .int x4)]) (fun v5 => [.int v5]) (fun v5 => th) (fun v5 => ?_) (fun j6 hj6 => ?_)
    · refine x_P (lv' := [(3, .int v5), (2, .int x4)]) 55 rfl rfl rfl ?_
      refine x_P 56 rfl rfl rfl ?_
      refine x_P 57 rfl rfl rfl ?_
      refine x_callS rfl rfl rfl rfl rfl rfl ⟨rfl, rfl⟩ (S_173 (d + 1) x4 th) (fun x7 hx7 => ?_)
      refine x_P 61 rfl rfl rfl ?_
      exact x_retI (x := (v5 - x7)) rfl
    · refine x_ic_ge rfl rfl (fun h10 => ?_) (fun h10 => ?_)
      · refine x_P 47 rfl rfl rfl ?_
        refine x_P 48 rfl rfl rfl ?_
        refine x_gI rfl (fun x8 hx8 => ?_)
        refine x_P 52 rfl rfl rfl ?_
        refine x_P 53 rfl rfl rfl ?_
        refine x_P 54 rfl rfl rfl ?_
        exact x_lv (hj6 (((Int32.ofInt 2) * x8) - (Int32.ofInt 1))) ⟨rfl, trivial⟩
      · refine x_P 40 rfl rfl rfl ?_
        refine x_gI rfl (fun x9 hx9 => ?_)
        refine x_P 54 rfl rfl rfl ?_
        exact x_lv (hj6 x9) ⟨rfl, trivial⟩
-- 40 NineTrees.paths(I)I
noncomputable def m_40 (a0 : Nat) (a1 : Int32) (th : tH) : Option (Int32 × tH) :=
  (gC th 7 a0).bind fun _ =>
  jn (fun (v1 : Int32 × tH) =>
      some (v1.1, v1.2)
    ) (fun j2 =>
      jn (fun (v3 : Unit) =>
          (m_59 a0 (Int8.ofInt (-2)).toInt32 th).bind fun q5 =>
          j2 (q5.1, q5.2)
        ) (fun j4 =>
          if a1 < 0 then
            j4 ()
          else
            if a1 ≤ (Int32.ofInt 3) then
              (gN th 7 a0 0).bind fun o6 =>
              (m_132 o6 a1 th).bind fun x7 =>
              j2 (x7, th)
            else
              j4 ()
        )
    )
theorem c_40 {a0 : Nat} {a1 : Int32} {th : tH} {x : (Int32 × tH)} (h : m_40 a0 a1 th = some x) : ∃ fs, th[a0]? = some (.inr (7, fs)) := gC_of h
theorem S_40 {L : Nat} (d : Nat) (a0 : Nat) (a1 : Int32) (th : tH) : Wx L (fun x => (some (.int x.1), x.2)) (d + 3) 40 2 0 [(0, .ref a0), (1, .int a1)] [] th (m_40 a0 a1 th) := by
  unfold m_40
  refine x_gC ?_
  refine x_P 1 rfl rfl rfl ?_
  refine x_jn 26 (fun v1 => []) (fun v1 => [.int v1.1]) (fun v1 => v1.2) (fun v1 => ?_) (fun j2 hj2 => ?_)
  · exact x_retI (x := (v1.1, v1.2)) rfl
  · refine x_jn 9 (fun v3 => [(0, .ref a0)]) (fun v3 => []) (fun v3 => th) (fun v3 => ?_) (fun j4 hj4 => ?_)
    · refine x_P 10 rfl rfl rfl ?_
      refine x_P 12 rfl rfl rfl ?_
      refine x_callV rfl rfl rfl rfl rfl ⟨rfl, rfl⟩ (fun x h => c_59 h) (S_59 (d + 1) a0 (Int8.ofInt (-2)).toInt32 th) (fun q5 hq5 => ?_)
      refine x_P 26 rfl rfl rfl ?_
      exact x_lv (hj2 (q5.1, q5.2)) trivial
    · refine x_if_lt rfl rfl (fun h9 => ?_) (fun h9 => ?_)
      · exact x_lv (hj4 ()) ⟨rfl, trivial⟩
      · refine x_P 5 rfl rfl rfl ?_
        refine x_P 6 rfl rfl rfl ?_
        refine x_ic_le rfl rfl (fun h8 => ?_) (fun h8 => ?_)
        · refine x_P 19 rfl rfl rfl ?_
          refine x_gN rfl (fun o6 ho6 => ?_)
          refine x_P 23 rfl rfl rfl ?_
          refine x_callS rfl rfl rfl rfl rfl rfl ⟨rfl, rfl⟩ (S_132 d o6 a1 th) (fun x7 hx7 => ?_)
          exact x_lv (hj2 (x7, th)) trivial
        · exact x_lv (hj4 ()) ⟨rfl, trivial⟩
-- 95 NineTrees$Garden.isWish(I)Z
noncomputable def m_95 (a0 : Nat) (a1 : Int32) (th : tH) : Option (Int32) :=
  (gC th 2 a0).bind fun _ =>
  jn (fun (v1 : Int32) =>
      rB v1
    ) (fun j2 =>
      jn (fun (v3 : Unit) =>
          j2 (Int32.ofInt 0)
        ) (fun j4 =>
          if a1 < 0 then
            j4 ()
          else
            (gI th 2 a0 6).bind fun x5 =>
            if x5 ≤ a1 then
              j4 ()
            else
              j2 (Int32.ofInt 1)
        )
    )
theorem c_95 {a0 : Nat} {a1 : Int32} {th : tH} {x : (Int32)} (h : m_95 a0 a1 th = some x) : ∃ fs, th[a0]? = some (.inr (2, fs)) := gC_of h
theorem S_95 {L : Nat} (d : Nat) (a0 : Nat) (a1 : Int32) (th : tH) : Wx L (fun x => (some (.int x), th)) d 95 2 0 [(0, .ref a0), (1, .int a1)] [] th (m_95 a0 a1 th) := by
  unfold m_95
  refine x_gC ?_
  refine x_P 1 rfl rfl rfl ?_
  refine x_jn 17 (fun v1 => []) (fun v1 => [.int v1]) (fun v1 => th) (fun v1 => ?_) (fun j2 hj2 => ?_)
  · exact x_rB rfl
  · refine x_jn 16 (fun v3 => []) (fun v3 => []) (fun v3 => th) (fun v3 => ?_) (fun j4 hj4 => ?_)
    · refine x_P 17 rfl rfl rfl ?_
      exact x_lv (hj2 (Int32.ofInt 0)) trivial
    · refine x_if_lt rfl rfl (fun h7 => ?_) (fun h7 => ?_)
      · exact x_lv (hj4 ()) trivial
      · refine x_P 5 rfl rfl rfl ?_
        refine x_P 6 rfl rfl rfl ?_
        refine x_gI rfl (fun x5 hx5 => ?_)
        refine x_ic_ge rfl rfl (fun h6 => ?_) (fun h6 => ?_)
        · exact x_lv (hj4 ()) trivial
        · refine x_P 13 rfl rfl rfl ?_
          refine x_P 17 rfl rfl rfl ?_
          exact x_lv (hj2 (Int32.ofInt 1)) trivial
-- 41 NineTrees.wishOf(I)I
noncomputable def m_41 (a0 : Nat) (a1 : Int32) (th : tH) : Option (Int32 × tH) :=
  (gC th 7 a0).bind fun _ =>
  (gN th 7 a0 0).bind fun o1 =>
  (m_95 o1 a1 th).bind fun x2 =>
  jn (fun (v3 : Int32 × tH) =>
      some (v3.1, v3.2)
    ) (fun j4 =>
      if x2 = 0 then
        (m_59 a0 (Int8.ofInt (-2)).toInt32 th).bind fun q5 =>
        j4 (q5.1, q5.2)
      else
        (gN th 7 a0 0).bind fun o6 =>
        (gN th 2 o6 3).bind fun o7 =>
        (aI th o7 a1).bind fun x8 =>
        j4 (x8, th)
    )
theorem c_41 {a0 : Nat} {a1 : Int32} {th : tH} {x : (Int32 × tH)} (h : m_41 a0 a1 th = some x) : ∃ fs, th[a0]? = some (.inr (7, fs)) := gC_of h
theorem S_41 {L : Nat} (d : Nat) (a0 : Nat) (a1 : Int32) (th : tH) : Wx L (fun x => (some (.int x.1), x.2)) (d + 2) 41 2 0 [(0, .ref a0), (1, .int a1)] [] th (m_41 a0 a1 th) := by
  unfold m_41
  refine x_gC ?_
  refine x_P 1 rfl rfl rfl ?_
  refine x_gN rfl (fun o1 ho1 => ?_)
  refine x_P 5 rfl rfl rfl ?_
  refine x_callV rfl rfl rfl rfl rfl ⟨rfl, rfl⟩ (fun x h => c_95 h) (S_95 (d + 1) o1 a1 th) (fun x2 hx2 => ?_)
  refine x_jn 29 (fun v3 => []) (fun v3 => [.int v3.1]) (fun v3 => v3.2) (fun v3 => ?_) (fun j4 hj4 => ?_)
  · exact x_retI (x := (v3.1, v3.2)) rfl
  · refine x_if_eq rfl rfl (fun h9 => ?_) (fun h9 => ?_)
    · refine x_P 24 rfl rfl rfl ?_
      refine x_P 26 rfl rfl rfl ?_
      refine x_callV rfl rfl rfl rfl rfl ⟨rfl, rfl⟩ (fun x h => c_59 h) (S_59 d a0 (Int8.ofInt (-2)).toInt32 th) (fun q5 hq5 => ?_)
      exact x_lv (hj4 (q5.1, q5.2)) trivial
    · refine x_P 12 rfl rfl rfl ?_
      refine x_gN rfl (fun o6 ho6 => ?_)
      refine x_gN rfl (fun o7 ho7 => ?_)
      refine x_P 19 rfl rfl rfl ?_
      refine x_aI rfl ⟨rfl, rfl⟩ (fun x8 hx8 => ?_)
      refine x_P 29 rfl rfl rfl ?_
      exact x_lv (hj4 (x8, th)) trivial
-- 98 NineTrees$Garden.wishesMet()I
noncomputable def m_98 (a0 : Nat) (th : tH) : Option (Int32) :=
  (gC th 2 a0).bind fun _ =>
  lp (fun (s1 : Int32 × Int32) nx2 ex3 =>
      (gI th 2 a0 6).bind fun x5 =>
      if x5 ≤ s1.2 then
        ex3 s1.1
      else
        (gN th 2 a0 3).bind fun o6 =>
        (aI th o6 s1.2).bind fun x7 =>
        (m_94 a0 x7 th).bind fun x8 =>
        jn (fun (v9 : Int32) =>
            nx2 (v9, (s1.2 + Int32.ofInt 1))
          ) (fun j10 =>
            if x8 = 0 then
              j10 s1.1
            else
              j10 (s1.1 + Int32.ofInt 1)
          )
    ) 4096 ((Int32.ofInt 0), (Int32.ofInt 0)) (fun (x4 : Int32) =>
      some x4
    )
theorem c_98 {a0 : Nat} {th : tH} {x : (Int32)} (h : m_98 a0 th = some x) : ∃ fs, th[a0]? = some (.inr (2, fs)) := gC_of h
theorem S_98 {L : Nat} (d : Nat) (a0 : Nat) (th : tH) : Wx L (fun x => (some (.int x), th)) (d + 4) 98 3 0 [(0, .ref a0)] [] th (m_98 a0 th) := by
  unfold m_98
  refine x_gC ?_
  refine x_P 1 rfl rfl rfl ?_
  refine x_P (lv' := [(1, .int (Int32.ofInt 0)), (0, .ref a0)]) 2 rfl rfl rfl ?_
  refine x_P 3 rfl rfl rfl ?_
  refine x_P (lv' := [(2, .int (Int32.ofInt 0)), (1, .int (Int32.ofInt 0)), (0, .ref a0)]) 4 rfl rfl rfl ?_
  refine x_lv (lv := [(0, .ref a0), (1, .int (Int32.ofInt 0)), (2, .int (Int32.ofInt 0))]) (x_lp 34 (fun s1 => [(0, .ref a0), (1, .int s1.1), (2, .int s1.2)]) (fun s1 => th) (fun x4 => [(1, .int x4)]) (fun x4 => th) (fun s1 nx2 hnx2 ex3 hex3 => ?_) (fun x4 => ?_) 4096 ((Int32.ofInt 0), (Int32.ofInt 0))) ⟨rfl, rfl, rfl, trivial⟩
  · refine x_P 5 rfl rfl rfl ?_
    refine x_P 6 rfl rfl rfl ?_
    refine x_gI rfl (fun x5 hx5 => ?_)
    refine x_ic_ge rfl rfl (fun h12 => ?_) (fun h12 => ?_)
    · exact x_lv (hex3 s1.1) ⟨rfl, trivial⟩
    · refine x_P 13 rfl rfl rfl ?_
      refine x_P 14 rfl rfl rfl ?_
      refine x_gN rfl (fun o6 ho6 => ?_)
      refine x_P 18 rfl rfl rfl ?_
      refine x_aI rfl ⟨rfl, rfl⟩ (fun x7 hx7 => ?_)
      refine x_callV rfl rfl rfl rfl rfl ⟨rfl, rfl⟩ (fun x h => c_94 h) (S_94 d a0 x7 th) (fun x8 hx8 => ?_)
      refine x_jn 28 (fun v9 => [(0, .ref a0), (1, .int v9), (2, .int s1.2)]) (fun v9 => []) (fun v9 => th) (fun v9 => ?_) (fun j10 hj10 => ?_)
      · refine x_P (lv' := [(2, .int (s1.2 + Int32.ofInt 1)), (0, .ref a0), (1, .int v9)]) 31 rfl rfl rfl ?_
        refine x_P 4 rfl rfl rfl ?_
        exact x_lv (hnx2 (v9, (s1.2 + Int32.ofInt 1))) ⟨rfl, rfl, rfl, trivial⟩
      · refine x_if_eq rfl rfl (fun h11 => ?_) (fun h11 => ?_)
        · exact x_lv (hj10 s1.1) ⟨rfl, rfl, rfl, trivial⟩
        · refine x_P (lv' := [(1, .int (s1.1 + Int32.ofInt 1)), (0, .ref a0), (2, .int s1.2)]) 28 rfl rfl rfl ?_
          exact x_lv (hj10 (s1.1 + Int32.ofInt 1)) ⟨rfl, rfl, rfl, trivial⟩
  · refine x_P 35 rfl rfl rfl ?_
    exact x_retI (x := x4) rfl
-- 42 NineTrees.met(I)I
noncomputable def m_42 (a0 : Nat) (a1 : Int32) (th : tH) : Option (Int32 × tH) :=
  (gC th 7 a0).bind fun _ =>
  if a1 = (Int32.ofInt (-1)) then
    (gN th 7 a0 0).bind fun o13 =>
    (m_98 o13 th).bind fun x14 =>
    some (x14, th)
  else
    (gN th 7 a0 0).bind fun o1 =>
    (m_95 o1 a1 th).bind fun x2 =>
    if x2 = 0 then
      (m_59 a0 (Int8.ofInt (-2)).toInt32 th).bind fun q11 =>
      some (q11.1, q11.2)
    else
      (gN th 7 a0 0).bind fun o3 =>
      (gN th 7 a0 0).bind fun o4 =>
      (gN th 2 o4 3).bind fun o5 =>
      (aI th o5 a1).bind fun x6 =>
      (m_94 o3 x6 th).bind fun x7 =>
      jn (fun (v8 : Int32) =>
          some (v8, th)
        ) (fun j9 =>
          if x7 = 0 then
            j9 (Int32.ofInt 0)
          else
            j9 (Int32.ofInt 1)
        )
theorem c_42 {a0 : Nat} {a1 : Int32} {th : tH} {x : (Int32 × tH)} (h : m_42 a0 a1 th = some x) : ∃ fs, th[a0]? = some (.inr (7, fs)) := gC_of h
theorem S_42 {L : Nat} (d : Nat) (a0 : Nat) (a1 : Int32) (th : tH) : Wx L (fun x => (some (.int x.1), x.2)) (d + 5) 42 2 0 [(0, .ref a0), (1, .int a1)] [] th (m_42 a0 a1 th) := by
  unfold m_42
  refine x_gC ?_
  refine x_P 1 rfl rfl rfl ?_
  refine x_P 2 rfl rfl rfl ?_
  refine x_ic_ne rfl rfl (fun h15 => ?_) (fun h15 => ?_)
  · refine x_P 6 rfl rfl rfl ?_
    refine x_gN rfl (fun o13 ho13 => ?_)
    refine x_callV rfl rfl rfl rfl rfl ⟨rfl, rfl⟩ (fun x h => c_98 h) (S_98 d o13 th) (fun x14 hx14 => ?_)
    exact x_retI (x := (x14, th)) rfl
  · refine x_P 14 rfl rfl rfl ?_
    refine x_gN rfl (fun o1 ho1 => ?_)
    refine x_P 18 rfl rfl rfl ?_
    refine x_callV rfl rfl rfl rfl rfl ⟨rfl, rfl⟩ (fun x h => c_95 h) (S_95 (d + 4) o1 a1 th) (fun x2 hx2 => ?_)
    refine x_if_ne rfl rfl (fun h12 => ?_) (fun h12 => ?_)
    · refine x_P 25 rfl rfl rfl ?_
      refine x_P 27 rfl rfl rfl ?_
      refine x_callV rfl rfl rfl rfl rfl ⟨rfl, rfl⟩ (fun x h => c_59 h) (S_59 (d + 3) a0 (Int8.ofInt (-2)).toInt32 th) (fun q11 hq11 => ?_)
      exact x_retI (x := (q11.1, q11.2)) rfl
    · refine x_P 32 rfl rfl rfl ?_
      refine x_gN rfl (fun o3 ho3 => ?_)
      refine x_P 36 rfl rfl rfl ?_
      refine x_gN rfl (fun o4 ho4 => ?_)
      refine x_gN rfl (fun o5 ho5 => ?_)
      refine x_P 43 rfl rfl rfl ?_
      refine x_aI rfl ⟨rfl, rfl⟩ (fun x6 hx6 => ?_)
      refine x_callV rfl rfl rfl rfl rfl ⟨rfl, rfl⟩ (fun x h => c_94 h) (S_94 (d + 1) o3 x6 th) (fun x7 hx7 => ?_)
      refine x_jn 55 (fun v8 => []) (fun v8 => [.int v8]) (fun v8 => th) (fun v8 => ?_) (fun j9 hj9 => ?_)
      · exact x_retI (x := (v8, th)) rfl
      · refine x_if_eq rfl rfl (fun h10 => ?_) (fun h10 => ?_)
        · refine x_P 55 rfl rfl rfl ?_
          exact x_lv (hj9 (Int32.ofInt 0)) trivial
        · refine x_P 51 rfl rfl rfl ?_
          refine x_P 55 rfl rfl rfl ?_
          exact x_lv (hj9 (Int32.ofInt 1)) trivial
-- 121 NineTrees$Moves.weighWishes(LNineTrees$Garden;I)V
noncomputable def m_121 (a0 : Nat) (a1 : Nat) (a2 : Int32) (th : tH) : Option tH :=
  (gC th 3 a0).bind fun _ =>
  (pI th 3 a0 1 (Int32.ofInt 0)).bind fun th1 =>
  (gN th1 3 a0 0).bind fun o2 =>
  (m_113 o2 th1).bind fun th3 =>
  lp (fun (s4 : Int32 × tH) nx5 ex6 =>
      (gI s4.2 2 a1 6).bind fun x8 =>
      if x8 ≤ s4.1 then
        ex6 s4.2
      else
        (gN s4.2 2 a1 3).bind fun o9 =>
        (aI s4.2 o9 s4.1).bind fun x10 =>
        (m_94 a1 (x10 &&& (((Int32.ofInt 1) <<< (a2 &&& 31)) ^^^ (Int32.ofInt (-1)))) s4.2).bind fun x11 =>
        jn (fun (v12 : tH) =>
            nx5 ((s4.1 + Int32.ofInt 1), v12)
          ) (fun j13 =>
            if x11 = 0 then
              j13 s4.2
            else
              (gN s4.2 2 a1 3).bind fun o14 =>
              (aI s4.2 o14 s4.1).bind fun x15 =>
              if (x10 &&& (((Int32.ofInt 1) <<< (a2 &&& 31)) ^^^ (Int32.ofInt (-1)))) = x15 then
                (gI s4.2 3 a0 1).bind fun x20 =>
                (pI s4.2 3 a0 1 (x20 + (Int32.ofInt 1))).bind fun th21 =>
                j13 th21
              else
                (m_85 a1 a2 (Int32.ofInt 4) s4.2).bind fun x16 =>
                if x16 = 0 then
                  (gN s4.2 3 a0 0).bind fun o17 =>
                  (m_115 o17 a1 (x10 &&& (((Int32.ofInt 1) <<< (a2 &&& 31)) ^^^ (Int32.ofInt (-1)))) s4.2).bind fun th18 =>
                  j13 th18
                else
                  j13 s4.2
          )
    ) 4096 ((Int32.ofInt 0), th3) (fun (x7 : tH) =>
      some x7
    )
theorem c_121 {a0 : Nat} {a1 : Nat} {a2 : Int32} {th : tH} {x : tH} (h : m_121 a0 a1 a2 th = some x) : ∃ fs, th[a0]? = some (.inr (3, fs)) := gC_of h
theorem S_121 {L : Nat} (d : Nat) (a0 : Nat) (a1 : Nat) (a2 : Int32) (th : tH) : Wx L (fun x => (none, x)) (d + 4) 121 5 0 [(0, .ref a0), (1, .ref a1), (2, .int a2)] [] th (m_121 a0 a1 a2 th) := by
  unfold m_121
  refine x_gC ?_
  refine x_P 1 rfl rfl rfl ?_
  refine x_P 2 rfl rfl rfl ?_
  refine x_pI rfl (fun th1 hth1 => ?_)
  refine x_P 6 rfl rfl rfl ?_
  refine x_gN rfl (fun o2 ho2 => ?_)
  refine x_callW rfl rfl rfl rfl rfl ⟨rfl, rfl⟩ (fun x h => c_113 h) (S_113 (d + 2) o2 th1) (fun th3 hth3 => ?_)
  refine x_P 13 rfl rfl rfl ?_
  refine x_P (lv' := [(3, .int (Int32.ofInt 0)), (0, .ref a0), (1, .ref a1), (2, .int a2)]) 14 rfl rfl rfl ?_
  refine x_lv (lv := [(0, .ref a0), (1, .ref a1), (2, .int a2), (3, .int (Int32.ofInt 0))]) (x_lp 94 (fun s4 => [(0, .ref a0), (1, .ref a1), (2, .int a2), (3, .int s4.1)]) (fun s4 => s4.2) (fun x7 => []) (fun x7 => x7) (fun s4 nx5 hnx5 ex6 hex6 => ?_) (fun x7 => ?_) 4096 ((Int32.ofInt 0), th3)) ⟨rfl, rfl, rfl, rfl, trivial⟩
  · refine x_P 15 rfl rfl rfl ?_
    refine x_P 16 rfl rfl rfl ?_
    refine x_gI rfl (fun x8 hx8 => ?_)
    refine x_ic_ge rfl rfl (fun h24 => ?_) (fun h24 => ?_)
    · exact x_lv (hex6 s4.2) trivial
    · refine x_P 23 rfl rfl rfl ?_
      refine x_gN rfl (fun o9 ho9 => ?_)
      refine x_P 27 rfl rfl rfl ?_
      refine x_aI rfl ⟨rfl, rfl⟩ (fun x10 hx10 => ?_)
      refine x_P 29 rfl rfl rfl ?_
      refine x_P 30 rfl rfl rfl ?_
      refine x_P 31 rfl rfl rfl ?_
      refine x_P 32 rfl rfl rfl ?_
      refine x_P 33 rfl rfl rfl ?_
      refine x_P 34 rfl rfl rfl ?_
      refine x_P (lv' := [(4, .int (x10 &&& (((Int32.ofInt 1) <<< (a2 &&& 31)) ^^^ (Int32.ofInt (-1))))), (0, .ref a0), (1, .ref a1), (2, .int a2), (3, .int s4.1)]) 36 rfl rfl rfl ?_
      refine x_P 37 rfl rfl rfl ?_
      refine x_P 39 rfl rfl rfl ?_
      refine x_callV rfl rfl rfl rfl rfl ⟨rfl, rfl⟩ (fun x h => c_94 h) (S_94 d a1 (x10 &&& (((Int32.ofInt 1) <<< (a2 &&& 31)) ^^^ (Int32.ofInt (-1)))) s4.2) (fun x11 hx11 => ?_)
      refine x_jn 88 (fun v12 => [(0, .ref a0), (1, .ref a1), (2, .int a2), (3, .int s4.1)]) (fun v12 => []) (fun v12 => v12) (fun v12 => ?_) (fun j13 hj13 => ?_)
      · refine x_P (lv' := [(3, .int (s4.1 + Int32.ofInt 1)), (0, .ref a0), (1, .ref a1), (2, .int a2)]) 91 rfl rfl rfl ?_
        refine x_P 14 rfl rfl rfl ?_
        exact x_lv (hnx5 ((s4.1 + Int32.ofInt 1), v12)) ⟨rfl, rfl, rfl, rfl, trivial⟩
      · refine x_if_eq rfl rfl (fun h23 => ?_) (fun h23 => ?_)
        · exact x_lv (hj13 s4.2) ⟨rfl, rfl, rfl, rfl, trivial⟩
        · refine x_P 47 rfl rfl rfl ?_
          refine x_P 48 rfl rfl rfl ?_
          refine x_gN rfl (fun o14 ho14 => ?_)
          refine x_P 52 rfl rfl rfl ?_
          refine x_aI rfl ⟨rfl, rfl⟩ (fun x15 hx15 => ?_)
          refine x_ic_ne rfl rfl (fun h22 => ?_) (fun h22 => ?_)
          · refine x_P 57 rfl rfl rfl ?_
            refine x_P 58 rfl rfl rfl ?_
            refine x_gI rfl (fun x20 hx20 => ?_)
            refine x_P 62 rfl rfl rfl ?_
            refine x_P 63 rfl rfl rfl ?_
            refine x_pI rfl (fun th21 hth21 => ?_)
            refine x_P 88 rfl rfl rfl ?_
            exact x_lv (hj13 th21) ⟨rfl, rfl, rfl, rfl, trivial⟩
          · refine x_P 70 rfl rfl rfl ?_
            refine x_P 71 rfl rfl rfl ?_
            refine x_P 72 rfl rfl rfl ?_
            refine x_callV rfl rfl rfl rfl rfl ⟨rfl, rfl⟩ (fun x h => c_85 h) (S_85 (d + 3) a1 a2 (Int32.ofInt 4) s4.2) (fun x16 hx16 => ?_)
            refine x_if_ne rfl rfl (fun h19 => ?_) (fun h19 => ?_)
            · refine x_P 79 rfl rfl rfl ?_
              refine x_gN rfl (fun o17 ho17 => ?_)
              refine x_P 83 rfl rfl rfl ?_
              refine x_P 85 rfl rfl rfl ?_
              refine x_callW rfl rfl rfl rfl rfl ⟨rfl, rfl⟩ (fun x h => c_115 h) (S_115 (d + 1) o17 a1 (x10 &&& (((Int32.ofInt 1) <<< (a2 &&& 31)) ^^^ (Int32.ofInt (-1)))) s4.2) (fun th18 hth18 => ?_)
              exact x_lv (hj13 th18) ⟨rfl, rfl, rfl, rfl, trivial⟩
            · exact x_lv (hj13 s4.2) ⟨rfl, rfl, rfl, rfl, trivial⟩
  · exact x_retV (x := x7) rfl
-- 118 NineTrees$Moves.findMostWishes(LNineTrees$Garden;)V
noncomputable def m_118 (a0 : Nat) (a1 : Nat) (th : tH) : Option tH :=
  (gC th 3 a0).bind fun _ =>
  (m_122 a0 th).bind fun th1 =>
  lp (fun (s2 : Int32 × tH) nx3 ex4 =>
      (gI s2.2 2 a1 5).bind fun x6 =>
      if x6 ≤ s2.1 then
        ex4 s2.2
      else
        (m_87 a1 s2.1 s2.2).bind fun x7 =>
        jn (fun (v8 : tH) =>
            nx3 ((s2.1 + Int32.ofInt 1), v8)
          ) (fun j9 =>
            if x7 = 0 then
              j9 s2.2
            else
              (m_121 a0 a1 s2.1 s2.2).bind fun th10 =>
              (m_123 a0 a1 s2.1 th10).bind fun th11 =>
              j9 th11
          )
    ) 4096 ((Int32.ofInt 0), th1) (fun (x5 : tH) =>
      some x5
    )
theorem c_118 {a0 : Nat} {a1 : Nat} {th : tH} {x : tH} (h : m_118 a0 a1 th = some x) : ∃ fs, th[a0]? = some (.inr (3, fs)) := gC_of h
theorem S_118 {L : Nat} (d : Nat) (a0 : Nat) (a1 : Nat) (th : tH) : Wx L (fun x => (none, x)) (d + 5) 118 3 0 [(0, .ref a0), (1, .ref a1)] [] th (m_118 a0 a1 th) := by
  unfold m_118
  refine x_gC ?_
  refine x_P 1 rfl rfl rfl ?_
  refine x_callW rfl rfl rfl rfl rfl ⟨rfl, rfl⟩ (fun x h => c_122 h) (S_122 (d + 3) a0 th) (fun th1 hth1 => ?_)
  refine x_P 5 rfl rfl rfl ?_
  refine x_P (lv' := [(2, .int (Int32.ofInt 0)), (0, .ref a0), (1, .ref a1)]) 6 rfl rfl rfl ?_
  refine x_lv (lv := [(0, .ref a0), (1, .ref a1), (2, .int (Int32.ofInt 0))]) (x_lp 40 (fun s2 => [(0, .ref a0), (1, .ref a1), (2, .int s2.1)]) (fun s2 => s2.2) (fun x5 => []) (fun x5 => x5) (fun s2 nx3 hnx3 ex4 hex4 => ?_) (fun x5 => ?_) 4096 ((Int32.ofInt 0), th1)) ⟨rfl, rfl, rfl, trivial⟩
  · refine x_P 7 rfl rfl rfl ?_
    refine x_P 8 rfl rfl rfl ?_
    refine x_gI rfl (fun x6 hx6 => ?_)
    refine x_ic_ge rfl rfl (fun h13 => ?_) (fun h13 => ?_)
    · exact x_lv (hex4 s2.2) trivial
    · refine x_P 15 rfl rfl rfl ?_
      refine x_P 16 rfl rfl rfl ?_
      refine x_callV rfl rfl rfl rfl rfl ⟨rfl, rfl⟩ (fun x h => c_87 h) (S_87 (d + 3) a1 s2.1 s2.2) (fun x7 hx7 => ?_)
      refine x_jn 34 (fun v8 => [(0, .ref a0), (1, .ref a1), (2, .int s2.1)]) (fun v8 => []) (fun v8 => v8) (fun v8 => ?_) (fun j9 hj9 => ?_)
      · refine x_P (lv' := [(2, .int (s2.1 + Int32.ofInt 1)), (0, .ref a0), (1, .ref a1)]) 37 rfl rfl rfl ?_
        refine x_P 6 rfl rfl rfl ?_
        exact x_lv (hnx3 ((s2.1 + Int32.ofInt 1), v8)) ⟨rfl, rfl, rfl, trivial⟩
      · refine x_if_eq rfl rfl (fun h12 => ?_) (fun h12 => ?_)
        · exact x_lv (hj9 s2.2) ⟨rfl, rfl, rfl, trivial⟩
        · refine x_P 23 rfl rfl rfl ?_
          refine x_P 24 rfl rfl rfl ?_
          refine x_P 25 rfl rfl rfl ?_
          refine x_callW rfl rfl rfl rfl rfl ⟨rfl, rfl⟩ (fun x h => c_121 h) (S_121 d a0 a1 s2.1 s2.2) (fun th10 hth10 => ?_)
          refine x_P 29 rfl rfl rfl ?_
          refine x_P 30 rfl rfl rfl ?_
          refine x_P 31 rfl rfl rfl ?_
          refine x_callW rfl rfl rfl rfl rfl ⟨rfl, rfl⟩ (fun x h => c_123 h) (S_123 (d + 2) a0 a1 s2.1 th10) (fun th11 hth11 => ?_)
          exact x_lv (hj9 th11) ⟨rfl, rfl, rfl, trivial⟩
  · exact x_retV (x := x5) rfl
-- 43 NineTrees.bestFor(I)I
noncomputable def m_43 (a0 : Nat) (a1 : Int32) (th : tH) : Option (Int32 × tH) :=
  (gC th 7 a0).bind fun _ =>
  jn (fun (v1 : Unit) =>
      (m_59 a0 (Int8.ofInt (-2)).toInt32 th).bind fun q3 =>
      some (q3.1, q3.2)
    ) (fun j2 =>
      if a1 < 0 then
        j2 ()
      else
        if a1 ≤ (Int32.ofInt 2) then
          (gN th 7 a0 5).bind fun o4 =>
          (gN th 7 a0 0).bind fun o5 =>
          (m_118 o4 o5 th).bind fun th6 =>
          (gN th6 7 a0 5).bind fun o7 =>
          (m_124 o7 a1 th6).bind fun x8 =>
          some (x8, th6)
        else
          j2 ()
    )
theorem c_43 {a0 : Nat} {a1 : Int32} {th : tH} {x : (Int32 × tH)} (h : m_43 a0 a1 th = some x) : ∃ fs, th[a0]? = some (.inr (7, fs)) := gC_of h
theorem S_43 {L : Nat} (d : Nat) (a0 : Nat) (a1 : Int32) (th : tH) : Wx L (fun x => (some (.int x.1), x.2)) (d + 6) 43 2 0 [(0, .ref a0), (1, .int a1)] [] th (m_43 a0 a1 th) := by
  unfold m_43
  refine x_gC ?_
  refine x_P 1 rfl rfl rfl ?_
  refine x_jn 9 (fun v1 => [(0, .ref a0)]) (fun v1 => []) (fun v1 => th) (fun v1 => ?_) (fun j2 hj2 => ?_)
  · refine x_P 10 rfl rfl rfl ?_
    refine x_P 12 rfl rfl rfl ?_
    refine x_callV rfl rfl rfl rfl rfl ⟨rfl, rfl⟩ (fun x h => c_59 h) (S_59 (d + 4) a0 (Int8.ofInt (-2)).toInt32 th) (fun q3 hq3 => ?_)
    exact x_retI (x := (q3.1, q3.2)) rfl
  · refine x_if_lt rfl rfl (fun h10 => ?_) (fun h10 => ?_)
    · exact x_lv (hj2 ()) ⟨rfl, trivial⟩
    · refine x_P 5 rfl rfl rfl ?_
      refine x_P 6 rfl rfl rfl ?_
      refine x_ic_le rfl rfl (fun h9 => ?_) (fun h9 => ?_)
      · refine x_P 17 rfl rfl rfl ?_
        refine x_gN rfl (fun o4 ho4 => ?_)
        refine x_P 21 rfl rfl rfl ?_
        refine x_gN rfl (fun o5 ho5 => ?_)
        refine x_callW rfl rfl rfl rfl rfl ⟨rfl, rfl⟩ (fun x h => c_118 h) (S_118 d o4 o5 th) (fun th6 hth6 => ?_)
        refine x_P 28 rfl rfl rfl ?_
        refine x_gN rfl (fun o7 ho7 => ?_)
        refine x_P 32 rfl rfl rfl ?_
        refine x_callV rfl rfl rfl rfl rfl ⟨rfl, rfl⟩ (fun x h => c_124 h) (S_124 (d + 5) o7 a1 th6) (fun x8 hx8 => ?_)
        exact x_retI (x := (x8, th6)) rfl
      · exact x_lv (hj2 ()) ⟨rfl, trivial⟩
-- 75 NineTrees$Garden.turned(I)I
noncomputable def m_75 (a0 : Nat) (a1 : Int32) (th : tH) : Option (Int32) :=
  (gC th 2 a0).bind fun _ =>
  (m_73 a0 a1 th).bind fun x1 =>
  (gI th 2 a0 4).bind fun x2 =>
  (m_72 a0 a1 th).bind fun x3 =>
  (m_74 a0 x1 ((x2 - (Int32.ofInt 1)) - x3) th).bind fun x4 =>
  some x4
theorem c_75 {a0 : Nat} {a1 : Int32} {th : tH} {x : (Int32)} (h : m_75 a0 a1 th = some x) : ∃ fs, th[a0]? = some (.inr (2, fs)) := gC_of h
theorem S_75 {L : Nat} (d : Nat) (a0 : Nat) (a1 : Int32) (th : tH) : Wx L (fun x => (some (.int x), th)) (d + 1) 75 2 0 [(0, .ref a0), (1, .int a1)] [] th (m_75 a0 a1 th) := by
  unfold m_75
  refine x_gC ?_
  refine x_P 1 rfl rfl rfl ?_
  refine x_P 2 rfl rfl rfl ?_
  refine x_P 3 rfl rfl rfl ?_
  refine x_callV rfl rfl rfl rfl rfl ⟨rfl, rfl⟩ (fun x h => c_73 h) (S_73 d a0 a1 th) (fun x1 hx1 => ?_)
  refine x_P 7 rfl rfl rfl ?_
  refine x_gI rfl (fun x2 hx2 => ?_)
  refine x_P 11 rfl rfl rfl ?_
  refine x_P 12 rfl rfl rfl ?_
  refine x_P 13 rfl rfl rfl ?_
  refine x_P 14 rfl rfl rfl ?_
  refine x_callV rfl rfl rfl rfl rfl ⟨rfl, rfl⟩ (fun x h => c_72 h) (S_72 d a0 a1 th) (fun x3 hx3 => ?_)
  refine x_P 18 rfl rfl rfl ?_
  refine x_callV rfl rfl rfl rfl rfl ⟨rfl, rfl⟩ (fun x h => c_74 h) (S_74 d a0 x1 ((x2 - (Int32.ofInt 1)) - x3) th) (fun x4 hx4 => ?_)
  exact x_retI (x := x4) rfl
-- 76 NineTrees$Garden.mirrored(I)I
noncomputable def m_76 (a0 : Nat) (a1 : Int32) (th : tH) : Option (Int32) :=
  (gC th 2 a0).bind fun _ =>
  (m_72 a0 a1 th).bind fun x1 =>
  (gI th 2 a0 4).bind fun x2 =>
  (m_73 a0 a1 th).bind fun x3 =>
  (m_74 a0 x1 ((x2 - (Int32.ofInt 1)) - x3) th).bind fun x4 =>
  some x4
theorem c_76 {a0 : Nat} {a1 : Int32} {th : tH} {x : (Int32)} (h : m_76 a0 a1 th = some x) : ∃ fs, th[a0]? = some (.inr (2, fs)) := gC_of h
theorem S_76 {L : Nat} (d : Nat) (a0 : Nat) (a1 : Int32) (th : tH) : Wx L (fun x => (some (.int x), th)) (d + 1) 76 2 0 [(0, .ref a0), (1, .int a1)] [] th (m_76 a0 a1 th) := by
  unfold m_76
  refine x_gC ?_
  refine x_P 1 rfl rfl rfl ?_
  refine x_P 2 rfl rfl rfl ?_
  refine x_P 3 rfl rfl rfl ?_
  refine x_callV rfl rfl rfl rfl rfl ⟨rfl, rfl⟩ (fun x h => c_72 h) (S_72 d a0 a1 th) (fun x1 hx1 => ?_)
  refine x_P 7 rfl rfl rfl ?_
  refine x_gI rfl (fun x2 hx2 => ?_)
  refine x_P 11 rfl rfl rfl ?_
  refine x_P 12 rfl rfl rfl ?_
  refine x_P 13 rfl rfl rfl ?_
  refine x_P 14 rfl rfl rfl ?_
  refine x_callV rfl rfl rfl rfl rfl ⟨rfl, rfl⟩ (fun x h => c_73 h) (S_73 d a0 a1 th) (fun x3 hx3 => ?_)
  refine x_P 18 rfl rfl rfl ?_
  refine x_callV rfl rfl rfl rfl rfl ⟨rfl, rfl⟩ (fun x h => c_74 h) (S_74 d a0 x1 ((x2 - (Int32.ofInt 1)) - x3) th) (fun x4 hx4 => ?_)
  exact x_retI (x := x4) rfl
-- 135 NineTrees$Shapes.isOwnImage(LNineTrees$Garden;IZ)Z
noncomputable def m_135 (a0 : Nat) (a1 : Int32) (a2 : Int32) (th : tH) : Option (Int32) :=
  lp (fun (s1 : Int32) nx2 ex3 =>
      (gI th 2 a0 5).bind fun x5 =>
      if x5 ≤ s1 then
        ex3 ()
      else
        (gN th 2 a0 1).bind fun o6 =>
        (aI th o6 s1).bind fun x7 =>
        lp (fun (s8 : Int32 × Int32) nx9 ex10 =>
            if a1 ≤ s8.2 then
              ex10 s8.1
            else
              (m_75 a0 s8.1 th).bind fun x18 =>
              nx9 (x18, (s8.2 + Int32.ofInt 1))
          ) 4096 (x7, (Int32.ofInt 0)) (fun (x11 : Int32) =>
            jn (fun (v12 : Int32 × Nat) =>
                (m_84 v12.2 v12.1 th).bind fun x14 =>
                if x14 = 0 then
                  nx2 (s1 + Int32.ofInt 1)
                else
                  rB (Int32.ofInt 0)
              ) (fun j13 =>
                if a2 = 0 then
                  j13 (x11, a0)
                else
                  (m_76 a0 x11 th).bind fun x16 =>
                  j13 (x16, a0)
              )
          )
    ) 4096 (Int32.ofInt 0) (fun (x4 : Unit) =>
      rB (Int32.ofInt 1)
    )
theorem S_135 {L : Nat} (d : Nat) (a0 : Nat) (a1 : Int32) (a2 : Int32) (th : tH) : Wx L (fun x => (some (.int x), th)) (d + 2) 135 6 0 [(0, .ref a0), (1, .int a1), (2, .int a2)] [] th (m_135 a0 a1 a2 th) := by
  unfold m_135
  refine x_P 1 rfl rfl rfl ?_
  refine x_P (lv' := [(3, .int (Int32.ofInt 0)), (0, .ref a0), (1, .int a1), (2, .int a2)]) 2 rfl rfl rfl ?_
  refine x_lv (lv := [(0, .ref a0), (1, .int a1), (2, .int a2), (3, .int (Int32.ofInt 0))]) (x_lp 71 (fun s1 => [(0, .ref a0), (1, .int a1), (2, .int a2), (3, .int s1)]) (fun s1 => th) (fun x4 => []) (fun x4 => th) (fun s1 nx2 hnx2 ex3 hex3 => ?_) (fun x4 => ?_) 4096 (Int32.ofInt 0)) ⟨rfl, rfl, rfl, rfl, trivial⟩
  · refine x_P 3 rfl rfl rfl ?_
    refine x_P 4 rfl rfl rfl ?_
    refine x_gI rfl (fun x5 hx5 => ?_)
    refine x_ic_ge rfl rfl (fun h20 => ?_) (fun h20 => ?_)
    · exact x_lv (hex3 ()) trivial
    · refine x_P 11 rfl rfl rfl ?_
      refine x_gN rfl (fun o6 ho6 => ?_)
      refine x_P 15 rfl rfl rfl ?_
      refine x_aI rfl ⟨rfl, rfl⟩ (fun x7 hx7 => ?_)
      refine x_P (lv' := [(4, .int x7), (0, .ref a0), (1, .int a1), (2, .int a2), (3, .int s1)]) 18 rfl rfl rfl ?_
      refine x_P 19 rfl rfl rfl ?_
      refine x_P (lv' := [(5, .int (Int32.ofInt 0)), (4, .int x7), (0, .ref a0), (1, .int a1), (2, .int a2), (3, .int s1)]) 21 rfl rfl rfl ?_
      refine x_lv (lv := [(0, .ref a0), (1, .int a1), (2, .int a2), (3, .int s1), (4, .int x7), (5, .int (Int32.ofInt 0))]) (x_lp 41 (fun s8 => [(0, .ref a0), (1, .int a1), (2, .int a2), (3, .int s1), (4, .int s8.1), (5, .int s8.2)]) (fun s8 => th) (fun x11 => [(0, .ref a0), (1, .int a1), (2, .int a2), (3, .int s1), (4, .int x11)]) (fun x11 => th) (fun s8 nx9 hnx9 ex10 hex10 => ?_) (fun x11 => ?_) 4096 (x7, (Int32.ofInt 0))) ⟨rfl, rfl, rfl, rfl, rfl, rfl, trivial⟩
      · refine x_P 23 rfl rfl rfl ?_
        refine x_P 24 rfl rfl rfl ?_
        refine x_ic_ge rfl rfl (fun h19 => ?_) (fun h19 => ?_)
        · exact x_lv (hex10 s8.1) ⟨rfl, rfl, rfl, rfl, rfl, trivial⟩
        · refine x_P 28 rfl rfl rfl ?_
          refine x_P 30 rfl rfl rfl ?_
          refine x_callV rfl rfl rfl rfl rfl ⟨rfl, rfl⟩ (fun x h => c_75 h) (S_75 d a0 s8.1 th) (fun x18 hx18 => ?_)
          refine x_P (lv' := [(4, .int x18), (0, .ref a0), (1, .int a1), (2, .int a2), (3, .int s1), (5, .int s8.2)]) 35 rfl rfl rfl ?_
          refine x_P (lv' := [(5, .int (s8.2 + Int32.ofInt 1)), (4, .int x18), (0, .ref a0), (1, .int a1), (2, .int a2), (3, .int s1)]) 38 rfl rfl rfl ?_
          refine x_P 21 rfl rfl rfl ?_
          exact x_lv (hnx9 (x18, (s8.2 + Int32.ofInt 1))) ⟨rfl, rfl, rfl, rfl, rfl, rfl, trivial⟩
      · refine x_P 42 rfl rfl rfl ?_
        refine x_P 43 rfl rfl rfl ?_
        refine x_jn 57 (fun v12 => [(0, .ref a0), (1, .int a1), (2, .int a2), (3, .int s1)]) (fun v12 => [.int v12.1, .ref v12.2]) (fun v12 => th) (fun v12 => ?_) (fun j13 hj13 => ?_)
        · refine x_callV rfl rfl rfl rfl rfl ⟨rfl, rfl⟩ (fun x h => c_84 h) (S_84 d v12.2 v12.1 th) (fun x14 hx14 => ?_)
          refine x_if_eq rfl rfl (fun h15 => ?_) (fun h15 => ?_)
          · refine x_P (lv' := [(3, .int (s1 + Int32.ofInt 1)), (0, .ref a0), (1, .int a1), (2, .int a2)]) 68 rfl rfl rfl ?_
            refine x_P 2 rfl rfl rfl ?_
            exact x_lv (hnx2 (s1 + Int32.ofInt 1)) ⟨rfl, rfl, rfl, rfl, trivial⟩
          · refine x_P 64 rfl rfl rfl ?_
            exact x_rB rfl
        · refine x_if_eq rfl rfl (fun h17 => ?_) (fun h17 => ?_)
          · refine x_P 57 rfl rfl rfl ?_
            exact x_lv (hj13 (x11, a0)) ⟨rfl, rfl, rfl, rfl, trivial⟩
          · refine x_P 47 rfl rfl rfl ?_
            refine x_P 49 rfl rfl rfl ?_
            refine x_callV rfl rfl rfl rfl rfl ⟨rfl, rfl⟩ (fun x h => c_76 h) (S_76 d a0 x11 th) (fun x16 hx16 => ?_)
            refine x_P 57 rfl rfl rfl ?_
            exact x_lv (hj13 (x16, a0)) ⟨rfl, rfl, rfl, rfl, trivial⟩
  · refine x_P 72 rfl rfl rfl ?_
    exact x_rB rfl
-- 134 NineTrees$Shapes.ownImages(LNineTrees$Garden;)I
noncomputable def m_134 (a0 : Nat) (th : tH) : Option (Int32) :=
  lp (fun (s1 : Int32 × Int32) nx2 ex3 =>
      if (Int32.ofInt 4) ≤ s1.2 then
        ex3 s1.1
      else
        (m_135 a0 s1.2 (Int32.ofInt 0) th).bind fun x5 =>
        jn (fun (v6 : Int32) =>
            (m_135 a0 s1.2 (Int32.ofInt 1) th).bind fun x8 =>
            jn (fun (v9 : Int32) =>
                nx2 (v9, (s1.2 + Int32.ofInt 1))
              ) (fun j10 =>
                if x8 = 0 then
                  j10 v6
                else
                  j10 (v6 + Int32.ofInt 1)
              )
          ) (fun j7 =>
            if x5 = 0 then
              j7 s1.1
            else
              j7 (s1.1 + Int32.ofInt 1)
          )
    ) 4096 ((Int32.ofInt 0), (Int32.ofInt 0)) (fun (x4 : Int32) =>
      some x4
    )
theorem S_134 {L : Nat} (d : Nat) (a0 : Nat) (th : tH) : Wx L (fun x => (some (.int x), th)) (d + 3) 134 3 0 [(0, .ref a0)] [] th (m_134 a0 th) := by
  unfold m_134
  refine x_P 1 rfl rfl rfl ?_
  refine x_P (lv' := [(1, .int (Int32.ofInt 0)), (0, .ref a0)]) 2 rfl rfl rfl ?_
  refine x_P 3 rfl rfl rfl ?_
  refine x_P (lv' := [(2, .int (Int32.ofInt 0)), (1, .int (Int32.ofInt 0)), (0, .ref a0)]) 4 rfl rfl rfl ?_
  refine x_lv (lv := [(0, .ref a0), (1, .int (Int32.ofInt 0)), (2, .int (Int32.ofInt 0))]) (x_lp 39 (fun s1 => [(0, .ref a0), (1, .int s1.1), (2, .int s1.2)]) (fun s1 => th) (fun x4 => [(1, .int x4)]) (fun x4 => th) (fun s1 nx2 hnx2 ex3 hex3 => ?_) (fun x4 => ?_) 4096 ((Int32.ofInt 0), (Int32.ofInt 0))) ⟨rfl, rfl, rfl, trivial⟩
  · refine x_P 5 rfl rfl rfl ?_
    refine x_P 6 rfl rfl rfl ?_
    refine x_ic_ge rfl rfl (fun h13 => ?_) (fun h13 => ?_)
    · exact x_lv (hex3 s1.1) ⟨rfl, trivial⟩
    · refine x_P 10 rfl rfl rfl ?_
      refine x_P 11 rfl rfl rfl ?_
      refine x_P 12 rfl rfl rfl ?_
      refine x_callS rfl rfl rfl rfl rfl rfl ⟨rfl, rfl⟩ (S_135 d a0 s1.2 (Int32.ofInt 0) th) (fun x5 hx5 => ?_)
      refine x_jn 21 (fun v6 => [(0, .ref a0), (1, .int v6), (2, .int s1.2)]) (fun v6 => []) (fun v6 => th) (fun v6 => ?_) (fun j7 hj7 => ?_)
      · refine x_P 22 rfl rfl rfl ?_
        refine x_P 23 rfl rfl rfl ?_
        refine x_P 24 rfl rfl rfl ?_
        refine x_callS rfl rfl rfl rfl rfl rfl ⟨rfl, rfl⟩ (S_135 d a0 s1.2 (Int32.ofInt 1) th) (fun x8 hx8 => ?_)
        refine x_jn 33 (fun v9 => [(0, .ref a0), (1, .int v9), (2, .int s1.2)]) (fun v9 => []) (fun v9 => th) (fun v9 => ?_) (fun j10 hj10 => ?_)
        · refine x_P (lv' := [(2, .int (s1.2 + Int32.ofInt 1)), (0, .ref a0), (1, .int v9)]) 36 rfl rfl rfl ?_
          refine x_P 4 rfl rfl rfl ?_
          exact x_lv (hnx2 (v9, (s1.2 + Int32.ofInt 1))) ⟨rfl, rfl, rfl, trivial⟩
        · refine x_if_eq rfl rfl (fun h11 => ?_) (fun h11 => ?_)
          · exact x_lv (hj10 v6) ⟨rfl, rfl, rfl, trivial⟩
          · refine x_P (lv' := [(1, .int (v6 + Int32.ofInt 1)), (0, .ref a0), (2, .int s1.2)]) 33 rfl rfl rfl ?_
            exact x_lv (hj10 (v6 + Int32.ofInt 1)) ⟨rfl, rfl, rfl, trivial⟩
      · refine x_if_eq rfl rfl (fun h12 => ?_) (fun h12 => ?_)
        · exact x_lv (hj7 s1.1) ⟨rfl, rfl, rfl, trivial⟩
        · refine x_P (lv' := [(1, .int (s1.1 + Int32.ofInt 1)), (0, .ref a0), (2, .int s1.2)]) 21 rfl rfl rfl ?_
          exact x_lv (hj7 (s1.1 + Int32.ofInt 1)) ⟨rfl, rfl, rfl, trivial⟩
  · refine x_P 40 rfl rfl rfl ?_
    exact x_retI (x := x4) rfl
-- 44 NineTrees.alike()I
noncomputable def m_44 (a0 : Nat) (th : tH) : Option (Int32) :=
  (gC th 7 a0).bind fun _ =>
  (gN th 7 a0 0).bind fun o1 =>
  (m_134 o1 th).bind fun x2 =>
  some x2
theorem c_44 {a0 : Nat} {th : tH} {x : (Int32)} (h : m_44 a0 th = some x) : ∃ fs, th[a0]? = some (.inr (7, fs)) := gC_of h
theorem S_44 {L : Nat} (d : Nat) (a0 : Nat) (th : tH) : Wx L (fun x => (some (.int x), th)) (d + 4) 44 1 0 [(0, .ref a0)] [] th (m_44 a0 th) := by
  unfold m_44
  refine x_gC ?_
  refine x_P 1 rfl rfl rfl ?_
  refine x_gN rfl (fun o1 ho1 => ?_)
  refine x_callS rfl rfl rfl rfl rfl rfl ⟨rfl, rfl⟩ (S_134 d o1 th) (fun x2 hx2 => ?_)
  exact x_retI (x := x2) rfl
-- 131 NineTrees$Shapes.sumOfDistances(LNineTrees$Garden;I)I
noncomputable def m_131 (a0 : Nat) (a1 : Int32) (th : tH) : Option (Int32) :=
  lp (fun (s1 : Int32 × Int32) nx2 ex3 =>
      (gI th 2 a0 5).bind fun x5 =>
      if x5 ≤ s1.2 then
        ex3 s1.1
      else
        (gN th 2 a0 1).bind fun o6 =>
        (aI th o6 s1.2).bind fun x7 =>
        (m_77 a0 x7 a1 th).bind fun x8 =>
        nx2 ((s1.1 + x8), (s1.2 + Int32.ofInt 1))
    ) 4096 ((Int32.ofInt 0), (Int32.ofInt 0)) (fun (x4 : Int32) =>
      some x4
    )
theorem S_131 {L : Nat} (d : Nat) (a0 : Nat) (a1 : Int32) (th : tH) : Wx L (fun x => (some (.int x), th)) (d + 2) 131 4 0 [(0, .ref a0), (1, .int a1)] [] th (m_131 a0 a1 th) := by
  unfold m_131
  refine x_P 1 rfl rfl rfl ?_
  refine x_P (lv' := [(2, .int (Int32.ofInt 0)), (0, .ref a0), (1, .int a1)]) 2 rfl rfl rfl ?_
  refine x_P 3 rfl rfl rfl ?_
  refine x_P (lv' := [(3, .int (Int32.ofInt 0)), (2, .int (Int32.ofInt 0)), (0, .ref a0), (1, .int a1)]) 4 rfl rfl rfl ?_
  refine x_lv (lv := [(0, .ref a0), (1, .int a1), (2, .int (Int32.ofInt 0)), (3, .int (Int32.ofInt 0))]) (x_lp 32 (fun s1 => [(0, .ref a0), (1, .int a1), (2, .int s1.1), (3, .int s1.2)]) (fun s1 => th) (fun x4 => [(2, .int x4)]) (fun x4 => th) (fun s1 nx2 hnx2 ex3 hex3 => ?_) (fun x4 => ?_) 4096 ((Int32.ofInt 0), (Int32.ofInt 0))) ⟨rfl, rfl, rfl, rfl, trivial⟩
  · refine x_P 5 rfl rfl rfl ?_
    refine x_P 6 rfl rfl rfl ?_
    refine x_gI rfl (fun x5 hx5 => ?_)
    refine x_ic_ge rfl rfl (fun h9 => ?_) (fun h9 => ?_)
    · exact x_lv (hex3 s1.1) ⟨rfl, trivial⟩
    · refine x_P 13 rfl rfl rfl ?_
      refine x_P 14 rfl rfl rfl ?_
      refine x_P 15 rfl rfl rfl ?_
      refine x_gN rfl (fun o6 ho6 => ?_)
      refine x_P 19 rfl rfl rfl ?_
      refine x_aI rfl ⟨rfl, rfl⟩ (fun x7 hx7 => ?_)
      refine x_P 21 rfl rfl rfl ?_
      refine x_callV rfl rfl rfl rfl rfl ⟨rfl, rfl⟩ (fun x h => c_77 h) (S_77 d a0 x7 a1 th) (fun x8 hx8 => ?_)
      refine x_P 25 rfl rfl rfl ?_
      refine x_P (lv' := [(2, .int (s1.1 + x8)), (0, .ref a0), (1, .int a1), (3, .int s1.2)]) 26 rfl rfl rfl ?_
      refine x_P (lv' := [(3, .int (s1.2 + Int32.ofInt 1)), (2, .int (s1.1 + x8)), (0, .ref a0), (1, .int a1)]) 29 rfl rfl rfl ?_
      refine x_P 4 rfl rfl rfl ?_
      exact x_lv (hnx2 ((s1.1 + x8), (s1.2 + Int32.ofInt 1))) ⟨rfl, rfl, rfl, rfl, trivial⟩
  · refine x_P 33 rfl rfl rfl ?_
    exact x_retI (x := x4) rfl
end
section
/-! ===== programs ===== -/
-- 130 NineTrees$Shapes.cellNearestToAll(LNineTrees$Garden;)I
noncomputable def m_130 (a0 : Nat) (th : tH) : Option (Int32) :=
  lp (fun (s1 : Int32 × Int32) nx2 ex3 =>
      (m_70 a0 th).bind fun x5 =>
      if x5 ≤ s1.2 then
        ex3 s1.1
      else
        (m_131 a0 s1.2 th).bind fun x6 =>
        (m_131 a0 s1.1 th).bind fun x7 =>
        jn (fun (v8 : Int32) =>
            nx2 (v8, (s1.2 + Int32.ofInt 1))
          ) (fun j9 =>
            if x7 ≤ x6 then
              j9 s1.1
            else
              j9 s1.2
          )
    ) 4096 ((Int32.ofInt 0), (Int32.ofInt 1)) (fun (x4 : Int32) =>
      some x4
    )
theorem S_130 {L : Nat} (d : Nat) (a0 : Nat) (th : tH) : Wx L (fun x => (some (.int x), th)) (d + 3) 130 3 0 [(0, .ref a0)] [] th (m_130 a0 th) := by
  unfold m_130
  refine x_P 1 rfl rfl rfl ?_
  refine x_P (lv' := [(1, .int (Int32.ofInt 0)), (0, .ref a0)]) 2 rfl rfl rfl ?_
  refine x_P 3 rfl rfl rfl ?_
  refine x_P (lv' := [(2, .int (Int32.ofInt 1)), (1, .int (Int32.ofInt 0)), (0, .ref a0)]) 4 rfl rfl rfl ?_
  refine x_lv (lv := [(0, .ref a0), (1, .int (Int32.ofInt 0)), (2, .int (Int32.ofInt 1))]) (x_lp 33 (fun s1 => [(0, .ref a0), (1, .int s1.1), (2, .int s1.2)]) (fun s1 => th) (fun x4 => [(1, .int x4)]) (fun x4 => th) (fun s1 nx2 hnx2 ex3 hex3 => ?_) (fun x4 => ?_) 4096 ((Int32.ofInt 0), (Int32.ofInt 1))) ⟨rfl, rfl, rfl, trivial⟩
  · refine x_P 5 rfl rfl rfl ?_
    refine x_P 6 rfl rfl rfl ?_
    refine x_callV rfl rfl rfl rfl rfl ⟨rfl, rfl⟩ (fun x h => c_70 h) (S_70 (d + 2) a0 th) (fun x5 hx5 => ?_)
    refine x_ic_ge rfl rfl (fun h11 => ?_) (fun h11 => ?_)
    · exact x_lv (hex3 s1.1) ⟨rfl, trivial⟩
    · refine x_P 13 rfl rfl rfl ?_
      refine x_P 14 rfl rfl rfl ?_
      refine x_callS rfl rfl rfl rfl rfl rfl ⟨rfl, rfl⟩ (S_131 d a0 s1.2 th) (fun x6 hx6 => ?_)
      refine x_P 18 rfl rfl rfl ?_
      refine x_P 19 rfl rfl rfl ?_
      refine x_callS rfl rfl rfl rfl rfl rfl ⟨rfl, rfl⟩ (S_131 d a0 s1.1 th) (fun x7 hx7 => ?_)
      refine x_jn 27 (fun v8 => [(0, .ref a0), (1, .int v8), (2, .int s1.2)]) (fun v8 => []) (fun v8 => th) (fun v8 => ?_) (fun j9 hj9 => ?_)
      · refine x_P (lv' := [(2, .int (s1.2 + Int32.ofInt 1)), (0, .ref a0), (1, .int v8)]) 30 rfl rfl rfl ?_
        refine x_P 4 rfl rfl rfl ?_
        exact x_lv (hnx2 (v8, (s1.2 + Int32.ofInt 1))) ⟨rfl, rfl, rfl, trivial⟩
      · refine x_ic_ge rfl rfl (fun h10 => ?_) (fun h10 => ?_)
        · exact x_lv (hj9 s1.1) ⟨rfl, rfl, rfl, trivial⟩
        · refine x_P 26 rfl rfl rfl ?_
          refine x_P (lv' := [(1, .int s1.2), (0, .ref a0), (2, .int s1.2)]) 27 rfl rfl rfl ?_
          exact x_lv (hj9 s1.2) ⟨rfl, rfl, rfl, trivial⟩
  · refine x_P 34 rfl rfl rfl ?_
    exact x_retI (x := x4) rfl
-- 45 NineTrees.middle()I
noncomputable def m_45 (a0 : Nat) (th : tH) : Option (Int32 × tH) :=
  (gC th 7 a0).bind fun _ =>
  (gN th 7 a0 0).bind fun o1 =>
  (gI th 2 o1 5).bind fun x2 =>
  jn (fun (v3 : Int32 × tH) =>
      some (v3.1, v3.2)
    ) (fun j4 =>
      if x2 = 0 then
        (m_59 a0 (Int8.ofInt (-5)).toInt32 th).bind fun q7 =>
        j4 (q7.1, q7.2)
      else
        (gN th 7 a0 0).bind fun o5 =>
        (m_130 o5 th).bind fun x6 =>
        j4 (x6, th)
    )
theorem c_45 {a0 : Nat} {th : tH} {x : (Int32 × tH)} (h : m_45 a0 th = some x) : ∃ fs, th[a0]? = some (.inr (7, fs)) := gC_of h
theorem S_45 {L : Nat} (d : Nat) (a0 : Nat) (th : tH) : Wx L (fun x => (some (.int x.1), x.2)) (d + 4) 45 1 0 [(0, .ref a0)] [] th (m_45 a0 th) := by
  unfold m_45
  refine x_gC ?_
  refine x_P 1 rfl rfl rfl ?_
  refine x_gN rfl (fun o1 ho1 => ?_)
  refine x_gI rfl (fun x2 hx2 => ?_)
  refine x_jn 26 (fun v3 => []) (fun v3 => [.int v3.1]) (fun v3 => v3.2) (fun v3 => ?_) (fun j4 hj4 => ?_)
  · exact x_retI (x := (v3.1, v3.2)) rfl
  · refine x_if_ne rfl rfl (fun h8 => ?_) (fun h8 => ?_)
    · refine x_P 11 rfl rfl rfl ?_
      refine x_P 13 rfl rfl rfl ?_
      refine x_callV rfl rfl rfl rfl rfl ⟨rfl, rfl⟩ (fun x h => c_59 h) (S_59 (d + 2) a0 (Int8.ofInt (-5)).toInt32 th) (fun q7 hq7 => ?_)
      refine x_P 26 rfl rfl rfl ?_
      exact x_lv (hj4 (q7.1, q7.2)) trivial
    · refine x_P 20 rfl rfl rfl ?_
      refine x_gN rfl (fun o5 ho5 => ?_)
      refine x_callS rfl rfl rfl rfl rfl rfl ⟨rfl, rfl⟩ (S_130 d o5 th) (fun x6 hx6 => ?_)
      exact x_lv (hj4 (x6, th)) trivial
-- 129 NineTrees$Shapes.nearestPair(LNineTrees$Garden;)I
noncomputable def m_129 (a0 : Nat) (th : tH) : Option (Int32) :=
  lp (fun (s1 : Int32 × Int32 × Int32) nx2 ex3 =>
      (gI th 2 a0 5).bind fun x5 =>
      if x5 ≤ s1.2.2 then
        ex3 s1.2.1
      else
        lp (fun (s6 : Int32 × Int32 × Int32) nx7 ex8 =>
            (gI th 2 a0 5).bind fun x10 =>
            if x10 ≤ s6.2.2 then
              ex8 (s6.1, s6.2.1)
            else
              (gN th 2 a0 1).bind fun o11 =>
              (aI th o11 s1.2.2).bind fun x12 =>
              (gN th 2 a0 1).bind fun o13 =>
              (aI th o13 s6.2.2).bind fun x14 =>
              (m_77 a0 x12 x14 th).bind fun x15 =>
              jn (fun (v16 : Int32 × Int32) =>
                  nx7 (v16.1, v16.2, (s6.2.2 + Int32.ofInt 1))
                ) (fun j17 =>
                  jn (fun (v18 : Unit) =>
                      j17 (x15, (((Int8.ofInt 100).toInt32 * s1.2.2) + s6.2.2))
                    ) (fun j19 =>
                      if s6.1 = (Int32.ofInt (-1)) then
                        j19 ()
                      else
                        if s6.1 ≤ x15 then
                          j17 (s6.1, s6.2.1)
                        else
                          j19 ()
                    )
                )
          ) 4096 (s1.1, s1.2.1, (s1.2.2 + (Int32.ofInt 1))) (fun (x9 : Int32 × Int32) =>
            nx2 (x9.1, x9.2, (s1.2.2 + Int32.ofInt 1))
          )
    ) 4096 ((Int32.ofInt (-1)), (Int32.ofInt (-1)), (Int32.ofInt 0)) (fun (x4 : Int32) =>
      some x4
    )
theorem S_129 {L : Nat} (d : Nat) (a0 : Nat) (th : tH) : Wx L (fun x => (some (.int x), th)) (d + 2) 129 6 0 [(0, .ref a0)] [] th (m_129 a0 th) := by
  unfold m_129
  refine x_P 1 rfl rfl rfl ?_
  refine x_P (lv' := [(1, .int (Int32.ofInt (-1))), (0, .ref a0)]) 2 rfl rfl rfl ?_
  refine x_P 3 rfl rfl rfl ?_
  refine x_P (lv' := [(2, .int (Int32.ofInt (-1))), (1, .int (Int32.ofInt (-1))), (0, .ref a0)]) 4 rfl rfl rfl ?_
  refine x_P 5 rfl rfl rfl ?_
  refine x_P (lv' := [(3, .int (Int32.ofInt 0)), (2, .int (Int32.ofInt (-1))), (1, .int (Int32.ofInt (-1))), (0, .ref a0)]) 6 rfl rfl rfl ?_
  refine x_lv (lv := [(0, .ref a0), (1, .int (Int32.ofInt (-1))), (2, .int (Int32.ofInt (-1))), (3, .int (Int32.ofInt 0))]) (x_lp 81 (fun s1 => [(0, .ref a0), (1, .int s1.1), (2, .int s1.2.1), (3, .int s1.2.2)]) (fun s1 => th) (fun x4 => [(2, .int x4)]) (fun x4 => th) (fun s1 nx2 hnx2 ex3 hex3 => ?_) (fun x4 => ?_) 4096 ((Int32.ofInt (-1)), (Int32.ofInt (-1)), (Int32.ofInt 0))) ⟨rfl, rfl, rfl, rfl, trivial⟩
  · refine x_P 7 rfl rfl rfl ?_
    refine x_P 8 rfl rfl rfl ?_
    refine x_gI rfl (fun x5 hx5 => ?_)
    refine x_ic_ge rfl rfl (fun h23 => ?_) (fun h23 => ?_)
    · exact x_lv (hex3 s1.2.1) ⟨rfl, trivial⟩
    · refine x_P 15 rfl rfl rfl ?_
      refine x_P 16 rfl rfl rfl ?_
      refine x_P 17 rfl rfl rfl ?_
      refine x_P (lv' := [(4, .int (s1.2.2 + (Int32.ofInt 1))), (0, .ref a0), (1, .int s1.1), (2, .int s1.2.1), (3, .int s1.2.2)]) 19 rfl rfl rfl ?_
      refine x_lv (lv := [(0, .ref a0), (1, .int s1.1), (2, .int s1.2.1), (3, .int s1.2.2), (4, .int (s1.2.2 + (Int32.ofInt 1)))]) (x_lp 75 (fun s6 => [(0, .ref a0), (1, .int s6.1), (2, .int s6.2.1), (3, .int s1.2.2), (4, .int s6.2.2)]) (fun s6 => th) (fun x9 => [(0, .ref a0), (1, .int x9.1), (2, .int x9.2), (3, .int s1.2.2)]) (fun x9 => th) (fun s6 nx7 hnx7 ex8 hex8 => ?_) (fun x9 => ?_) 4096 (s1.1, s1.2.1, (s1.2.2 + (Int32.ofInt 1)))) ⟨rfl, rfl, rfl, rfl, rfl, trivial⟩
      · refine x_P 21 rfl rfl rfl ?_
        refine x_P 22 rfl rfl rfl ?_
        refine x_gI rfl (fun x10 hx10 => ?_)
        refine x_ic_ge rfl rfl (fun h22 => ?_) (fun h22 => ?_)
        · exact x_lv (hex8 (s6.1, s6.2.1)) ⟨rfl, rfl, rfl, rfl, trivial⟩
        · refine x_P 29 rfl rfl rfl ?_
          refine x_P 30 rfl rfl rfl ?_
          refine x_gN rfl (fun o11 ho11 => ?_)
          refine x_P 34 rfl rfl rfl ?_
          refine x_aI rfl ⟨rfl, rfl⟩ (fun x12 hx12 => ?_)
          refine x_P 36 rfl rfl rfl ?_
          refine x_gN rfl (fun o13 ho13 => ?_)
          refine x_P 41 rfl rfl rfl ?_
          refine x_aI rfl ⟨rfl, rfl⟩ (fun x14 hx14 => ?_)
          refine x_callV rfl rfl rfl rfl rfl ⟨rfl, rfl⟩ (fun x h => c_77 h) (S_77 d a0 x12 x14 th) (fun x15 hx15 => ?_)
          refine x_P (lv' := [(5, .int x15), (0, .ref a0), (1, .int s6.1), (2, .int s6.2.1), (3, .int s1.2.2), (4, .int s6.2.2)]) 47 rfl rfl rfl ?_
          refine x_P 48 rfl rfl rfl ?_
          refine x_P 49 rfl rfl rfl ?_
          refine x_jn 69 (fun v16 => [(0, .ref a0), (1, .int v16.1), (2, .int v16.2), (3, .int s1.2.2), (4, .int s6.2.2)]) (fun v16 => []) (fun v16 => th) (fun v16 => ?_) (fun j17 hj17 => ?_)
          · refine x_P (lv' := [(4, .int (s6.2.2 + Int32.ofInt 1)), (0, .ref a0), (1, .int v16.1), (2, .int v16.2), (3, .int s1.2.2)]) 72 rfl rfl rfl ?_
            refine x_P 19 rfl rfl rfl ?_
            exact x_lv (hnx7 (v16.1, v16.2, (s6.2.2 + Int32.ofInt 1))) ⟨rfl, rfl, rfl, rfl, rfl, trivial⟩
          · refine x_jn 58 (fun v18 => [(0, .ref a0), (3, .int s1.2.2), (4, .int s6.2.2), (5, .int x15)]) (fun v18 => []) (fun v18 => th) (fun v18 => ?_) (fun j19 hj19 => ?_)
            · refine x_P 60 rfl rfl rfl ?_
              refine x_P (lv' := [(1, .int x15), (0, .ref a0), (3, .int s1.2.2), (4, .int s6.2.2), (5, .int x15)]) 61 rfl rfl rfl ?_
              refine x_P 63 rfl rfl rfl ?_
              refine x_P 64 rfl rfl rfl ?_
              refine x_P 65 rfl rfl rfl ?_
              refine x_P 67 rfl rfl rfl ?_
              refine x_P 68 rfl rfl rfl ?_
              refine x_P (lv' := [(2, .int (((Int8.ofInt 100).toInt32 * s1.2.2) + s6.2.2)), (1, .int x15), (0, .ref a0), (3, .int s1.2.2), (4, .int s6.2.2), (5, .int x15)]) 69 rfl rfl rfl ?_
              exact x_lv (hj17 (x15, (((Int8.ofInt 100).toInt32 * s1.2.2) + s6.2.2))) ⟨rfl, rfl, rfl, rfl, rfl, trivial⟩
            · refine x_ic_eq rfl rfl (fun h21 => ?_) (fun h21 => ?_)
              · exact x_lv (hj19 ()) ⟨rfl, rfl, rfl, rfl, trivial⟩
              · refine x_P 54 rfl rfl rfl ?_
                refine x_P 55 rfl rfl rfl ?_
                refine x_ic_ge rfl rfl (fun h20 => ?_) (fun h20 => ?_)
                · exact x_lv (hj17 (s6.1, s6.2.1)) ⟨rfl, rfl, rfl, rfl, rfl, trivial⟩
                · exact x_lv (hj19 ()) ⟨rfl, rfl, rfl, rfl, trivial⟩
      · refine x_P (lv' := [(3, .int (s1.2.2 + Int32.ofInt 1)), (0, .ref a0), (1, .int x9.1), (2, .int x9.2)]) 78 rfl rfl rfl ?_
        refine x_P 6 rfl rfl rfl ?_
        exact x_lv (hnx2 (x9.1, x9.2, (s1.2.2 + Int32.ofInt 1))) ⟨rfl, rfl, rfl, rfl, trivial⟩
  · refine x_P 82 rfl rfl rfl ?_
    exact x_retI (x := x4) rfl
-- 46 NineTrees.nearest()I
noncomputable def m_46 (a0 : Nat) (th : tH) : Option (Int32 × tH) :=
  (gC th 7 a0).bind fun _ =>
  (gN th 7 a0 0).bind fun o1 =>
  (gI th 2 o1 5).bind fun x2 =>
  jn (fun (v3 : Int32 × tH) =>
      some (v3.1, v3.2)
    ) (fun j4 =>
      if (Int32.ofInt 2) ≤ x2 then
        (gN th 7 a0 0).bind fun o5 =>
        (m_129 o5 th).bind fun x6 =>
        j4 (x6, th)
      else
        (m_59 a0 (Int8.ofInt (-5)).toInt32 th).bind fun q7 =>
        j4 (q7.1, q7.2)
    )
theorem c_46 {a0 : Nat} {th : tH} {x : (Int32 × tH)} (h : m_46 a0 th = some x) : ∃ fs, th[a0]? = some (.inr (7, fs)) := gC_of h
theorem S_46 {L : Nat} (d : Nat) (a0 : Nat) (th : tH) : Wx L (fun x => (some (.int x.1), x.2)) (d + 3) 46 1 0 [(0, .ref a0)] [] th (m_46 a0 th) := by
  unfold m_46
  refine x_gC ?_
  refine x_P 1 rfl rfl rfl ?_
  refine x_gN rfl (fun o1 ho1 => ?_)
  refine x_gI rfl (fun x2 hx2 => ?_)
  refine x_P 8 rfl rfl rfl ?_
  refine x_jn 27 (fun v3 => []) (fun v3 => [.int v3.1]) (fun v3 => v3.2) (fun v3 => ?_) (fun j4 hj4 => ?_)
  · exact x_retI (x := (v3.1, v3.2)) rfl
  · refine x_ic_ge rfl rfl (fun h8 => ?_) (fun h8 => ?_)
    · refine x_P 21 rfl rfl rfl ?_
      refine x_gN rfl (fun o5 ho5 => ?_)
      refine x_callS rfl rfl rfl rfl rfl rfl ⟨rfl, rfl⟩ (S_129 d o5 th) (fun x6 hx6 => ?_)
      exact x_lv (hj4 (x6, th)) trivial
    · refine x_P 12 rfl rfl rfl ?_
      refine x_P 14 rfl rfl rfl ?_
      refine x_callV rfl rfl rfl rfl rfl ⟨rfl, rfl⟩ (fun x h => c_59 h) (S_59 (d + 1) a0 (Int8.ofInt (-5)).toInt32 th) (fun q7 hq7 => ?_)
      refine x_P 27 rfl rfl rfl ?_
      exact x_lv (hj4 (q7.1, q7.2)) trivial
-- 136 NineTrees$Shapes.greatestArea(LNineTrees$Garden;)I
noncomputable def m_136 (a0 : Nat) (th : tH) : Option (Int32) :=
  (gN th 2 a0 1).bind fun o1 =>
  lp (fun (s2 : Int32 × Int32) nx3 ex4 =>
      (gI th 2 a0 5).bind fun x6 =>
      if x6 ≤ s2.2 then
        ex4 s2.1
      else
        lp (fun (s7 : Int32 × Int32) nx8 ex9 =>
            (gI th 2 a0 5).bind fun x11 =>
            if x11 ≤ s7.2 then
              ex9 s7.1
            else
              lp (fun (s12 : Int32 × Int32) nx13 ex14 =>
                  (gI th 2 a0 5).bind fun x16 =>
                  if x16 ≤ s12.2 then
                    ex14 s12.1
                  else
                    (aI th o1 s2.2).bind fun x17 =>
                    (aI th o1 s7.2).bind fun x18 =>
                    (aI th o1 s12.2).bind fun x19 =>
                    (m_79 a0 x17 x18 x19 th).bind fun x20 =>
                    nx13 ((mxI s12.1 (abI x20)), (s12.2 + Int32.ofInt 1))
                ) 4096 (s7.1, (s7.2 + (Int32.ofInt 1))) (fun (x15 : Int32) =>
                  nx8 (x15, (s7.2 + Int32.ofInt 1))
                )
          ) 4096 (s2.1, (s2.2 + (Int32.ofInt 1))) (fun (x10 : Int32) =>
            nx3 (x10, (s2.2 + Int32.ofInt 1))
          )
    ) 4096 ((Int32.ofInt 0), (Int32.ofInt 0)) (fun (x5 : Int32) =>
      some x5
    )
theorem S_136 {L : Nat} (d : Nat) (a0 : Nat) (th : tH) : Wx L (fun x => (some (.int x), th)) (d + 2) 136 6 0 [(0, .ref a0)] [] th (m_136 a0 th) := by
  unfold m_136
  refine x_P 1 rfl rfl rfl ?_
  refine x_gN rfl (fun o1 ho1 => ?_)
  refine x_P (lv' := [(1, .ref o1), (0, .ref a0)]) 5 rfl rfl rfl ?_
  refine x_P 6 rfl rfl rfl ?_
  refine x_P (lv' := [(2, .int (Int32.ofInt 0)), (1, .ref o1), (0, .ref a0)]) 7 rfl rfl rfl ?_
  refine x_P 8 rfl rfl rfl ?_
  refine x_P (lv' := [(3, .int (Int32.ofInt 0)), (2, .int (Int32.ofInt 0)), (1, .ref o1), (0, .ref a0)]) 9 rfl rfl rfl ?_
  refine x_lv (lv := [(0, .ref a0), (1, .ref o1), (2, .int (Int32.ofInt 0)), (3, .int (Int32.ofInt 0))]) (x_lp 87 (fun s2 => [(0, .ref a0), (1, .ref o1), (2, .int s2.1), (3, .int s2.2)]) (fun s2 => th) (fun x5 => [(2, .int x5)]) (fun x5 => th) (fun s2 nx3 hnx3 ex4 hex4 => ?_) (fun x5 => ?_) 4096 ((Int32.ofInt 0), (Int32.ofInt 0))) ⟨rfl, rfl, rfl, rfl, trivial⟩
  · refine x_P 10 rfl rfl rfl ?_
    refine x_P 11 rfl rfl rfl ?_
    refine x_gI rfl (fun x6 hx6 => ?_)
    refine x_ic_ge rfl rfl (fun h23 => ?_) (fun h23 => ?_)
    · exact x_lv (hex4 s2.1) ⟨rfl, trivial⟩
    · refine x_P 18 rfl rfl rfl ?_
      refine x_P 19 rfl rfl rfl ?_
      refine x_P 20 rfl rfl rfl ?_
      refine x_P (lv' := [(4, .int (s2.2 + (Int32.ofInt 1))), (0, .ref a0), (1, .ref o1), (2, .int s2.1), (3, .int s2.2)]) 22 rfl rfl rfl ?_
      refine x_lv (lv := [(0, .ref a0), (1, .ref o1), (2, .int s2.1), (3, .int s2.2), (4, .int (s2.2 + (Int32.ofInt 1)))]) (x_lp 81 (fun s7 => [(0, .ref a0), (1, .ref o1), (2, .int s7.1), (3, .int s2.2), (4, .int s7.2)]) (fun s7 => th) (fun x10 => [(0, .ref a0), (1, .ref o1), (2, .int x10), (3, .int s2.2)]) (fun x10 => th) (fun s7 nx8 hnx8 ex9 hex9 => ?_) (fun x10 => ?_) 4096 (s2.1, (s2.2 + (Int32.ofInt 1)))) ⟨rfl, rfl, rfl, rfl, rfl, trivial⟩
      · refine x_P 24 rfl rfl rfl ?_
        refine x_P 25 rfl rfl rfl ?_
        refine x_gI rfl (fun x11 hx11 => ?_)
        refine x_ic_ge rfl rfl (fun h22 => ?_) (fun h22 => ?_)
        · exact x_lv (hex9 s7.1) ⟨rfl, rfl, rfl, rfl, trivial⟩
        · refine x_P 33 rfl rfl rfl ?_
          refine x_P 34 rfl rfl rfl ?_
          refine x_P 35 rfl rfl rfl ?_
          refine x_P (lv' := [(5, .int (s7.2 + (Int32.ofInt 1))), (0, .ref a0), (1, .ref o1), (2, .int s7.1), (3, .int s2.2), (4, .int s7.2)]) 37 rfl rfl rfl ?_
          refine x_lv (lv := [(0, .ref a0), (1, .ref o1), (2, .int s7.1), (3, .int s2.2), (4, .int s7.2), (5, .int (s7.2 + (Int32.ofInt 1)))]) (x_lp 75 (fun s12 => [(0, .ref a0), (1, .ref o1), (2, .int s12.1), (3, .int s2.2), (4, .int s7.2), (5, .int s12.2)]) (fun s12 => th) (fun x15 => [(0, .ref a0), (1, .ref o1), (2, .int x15), (3, .int s2.2), (4, .int s7.2)]) (fun x15 => th) (fun s12 nx13 hnx13 ex14 hex14 => ?_) (fun x15 => ?_) 4096 (s7.1, (s7.2 + (Int32.ofInt 1)))) ⟨rfl, rfl, rfl, rfl, rfl, rfl, trivial⟩
          · refine x_P 39 rfl rfl rfl ?_
            refine x_P 40 rfl rfl rfl ?_
            refine x_gI rfl (fun x16 hx16 => ?_)
            refine x_ic_ge rfl rfl (fun h21 => ?_) (fun h21 => ?_)
            · exact x_lv (hex14 s12.1) ⟨rfl, rfl, rfl, rfl, rfl, trivial⟩
            · refine x_P 47 rfl rfl rfl ?_
              refine x_P 48 rfl rfl rfl ?_
              refine x_P 49 rfl rfl rfl ?_
              refine x_P 50 rfl rfl rfl ?_
              refine x_aI rfl ⟨rfl, rfl⟩ (fun x17 hx17 => ?_)
              refine x_P 52 rfl rfl rfl ?_
              refine x_P 54 rfl rfl rfl ?_
              refine x_aI rfl ⟨rfl, rfl⟩ (fun x18 hx18 => ?_)
              refine x_P 56 rfl rfl rfl ?_
              refine x_P 58 rfl rfl rfl ?_
              refine x_aI rfl ⟨rfl, rfl⟩ (fun x19 hx19 => ?_)
              refine x_callV rfl rfl rfl rfl rfl ⟨rfl, rfl⟩ (fun x h => c_79 h) (S_79 d a0 x17 x18 x19 th) (fun x20 hx20 => ?_)
              refine x_Mabs rfl rfl ?_
              refine x_Mmax rfl rfl ?_
              refine x_P (lv' := [(2, .int (mxI s12.1 (abI x20))), (0, .ref a0), (1, .ref o1), (3, .int s2.2), (4, .int s7.2), (5, .int s12.2)]) 69 rfl rfl rfl ?_
              refine x_P (lv' := [(5, .int (s12.2 + Int32.ofInt 1)), (2, .int (mxI s12.1 (abI x20))), (0, .ref a0), (1, .ref o1), (3, .int s2.2), (4, .int s7.2)]) 72 rfl rfl rfl ?_
              refine x_P 37 rfl rfl rfl ?_
              exact x_lv (hnx13 ((mxI s12.1 (abI x20)), (s12.2 + Int32.ofInt 1))) ⟨rfl, rfl, rfl, rfl, rfl, rfl, trivial⟩
          · refine x_P (lv' := [(4, .int (s7.2 + Int32.ofInt 1)), (0, .ref a0), (1, .ref o1), (2, .int x15), (3, .int s2.2)]) 78 rfl rfl rfl ?_
            refine x_P 22 rfl rfl rfl ?_
            exact x_lv (hnx8 (x15, (s7.2 + Int32.ofInt 1))) ⟨rfl, rfl, rfl, rfl, rfl, trivial⟩
      · refine x_P (lv' := [(3, .int (s2.2 + Int32.ofInt 1)), (0, .ref a0), (1, .ref o1), (2, .int x10)]) 84 rfl rfl rfl ?_
        refine x_P 9 rfl rfl rfl ?_
        exact x_lv (hnx3 (x10, (s2.2 + Int32.ofInt 1))) ⟨rfl, rfl, rfl, rfl, trivial⟩
  · refine x_P 88 rfl rfl rfl ?_
    exact x_retI (x := x5) rfl
-- 47 NineTrees.largest()I
noncomputable def m_47 (a0 : Nat) (th : tH) : Option (Int32) :=
  (gC th 7 a0).bind fun _ =>
  (gN th 7 a0 0).bind fun o1 =>
  (m_136 o1 th).bind fun x2 =>
  some x2
theorem c_47 {a0 : Nat} {th : tH} {x : (Int32)} (h : m_47 a0 th = some x) : ∃ fs, th[a0]? = some (.inr (7, fs)) := gC_of h
theorem S_47 {L : Nat} (d : Nat) (a0 : Nat) (th : tH) : Wx L (fun x => (some (.int x), th)) (d + 3) 47 1 0 [(0, .ref a0)] [] th (m_47 a0 th) := by
  unfold m_47
  refine x_gC ?_
  refine x_P 1 rfl rfl rfl ?_
  refine x_gN rfl (fun o1 ho1 => ?_)
  refine x_callS rfl rfl rfl rfl rfl rfl ⟨rfl, rfl⟩ (S_136 d o1 th) (fun x2 hx2 => ?_)
  exact x_retI (x := x2) rfl
-- 139 NineTrees$Shapes.isTaken(LNineTrees$Garden;II)Z
noncomputable def m_139 (a0 : Nat) (a1 : Int32) (a2 : Int32) (th : tH) : Option (Int32) :=
  (m_74 a0 a1 a2 th).bind fun x1 =>
  jn (fun (v2 : Int32) =>
      rB v2
    ) (fun j3 =>
      jn (fun (v4 : Unit) =>
          j3 (Int32.ofInt 0)
        ) (fun j5 =>
          if x1 = (Int32.ofInt (-1)) then
            j5 ()
          else
            (m_84 a0 x1 th).bind fun x6 =>
            if x6 = 0 then
              j3 (Int32.ofInt 1)
            else
              j5 ()
        )
    )
theorem S_139 {L : Nat} (d : Nat) (a0 : Nat) (a1 : Int32) (a2 : Int32) (th : tH) : Wx L (fun x => (some (.int x), th)) (d + 2) 139 4 0 [(0, .ref a0), (1, .int a1), (2, .int a2)] [] th (m_139 a0 a1 a2 th) := by
  unfold m_139
  refine x_P 1 rfl rfl rfl ?_
  refine x_P 2 rfl rfl rfl ?_
  refine x_P 3 rfl rfl rfl ?_
  refine x_callV rfl rfl rfl rfl rfl ⟨rfl, rfl⟩ (fun x h => c_74 h) (S_74 (d + 1) a0 a1 a2 th) (fun x1 hx1 => ?_)
  refine x_P (lv' := [(3, .int x1), (0, .ref a0), (1, .int a1), (2, .int a2)]) 7 rfl rfl rfl ?_
  refine x_P 8 rfl rfl rfl ?_
  refine x_P 9 rfl rfl rfl ?_
  refine x_jn 25 (fun v2 => []) (fun v2 => [.int v2]) (fun v2 => th) (fun v2 => ?_) (fun j3 hj3 => ?_)
  · exact x_rB rfl
  · refine x_jn 24 (fun v4 => []) (fun v4 => []) (fun v4 => th) (fun v4 => ?_) (fun j5 hj5 => ?_)
    · refine x_P 25 rfl rfl rfl ?_
      exact x_lv (hj3 (Int32.ofInt 0)) trivial
    · refine x_ic_eq rfl rfl (fun h8 => ?_) (fun h8 => ?_)
      · exact x_lv (hj5 ()) trivial
      · refine x_P 13 rfl rfl rfl ?_
        refine x_P 14 rfl rfl rfl ?_
        refine x_callV rfl rfl rfl rfl rfl ⟨rfl, rfl⟩ (fun x h => c_84 h) (S_84 d a0 x1 th) (fun x6 hx6 => ?_)
        refine x_if_ne rfl rfl (fun h7 => ?_) (fun h7 => ?_)
        · refine x_P 21 rfl rfl rfl ?_
          refine x_P 25 rfl rfl rfl ?_
          exact x_lv (hj3 (Int32.ofInt 1)) trivial
        · exact x_lv (hj5 ()) trivial
-- 138 NineTrees$Shapes.isEdgeOfSquare(LNineTrees$Garden;II)Z
noncomputable def m_138 (a0 : Nat) (a1 : Int32) (a2 : Int32) (th : tH) : Option (Int32) :=
  (m_72 a0 a2 th).bind fun x1 =>
  (m_72 a0 a1 th).bind fun x2 =>
  (m_73 a0 a2 th).bind fun x3 =>
  (m_73 a0 a1 th).bind fun x4 =>
  (m_72 a0 a1 th).bind fun x5 =>
  (m_73 a0 a1 th).bind fun x6 =>
  (m_139 a0 (x5 - (x3 - x4)) (x6 + (x1 - x2)) th).bind fun x7 =>
  jn (fun (v8 : Int32) =>
      rB v8
    ) (fun j9 =>
      jn (fun (v10 : Unit) =>
          j9 (Int32.ofInt 0)
        ) (fun j11 =>
          if x7 = 0 then
            j11 ()
          else
            (m_72 a0 a2 th).bind fun x12 =>
            (m_73 a0 a2 th).bind fun x13 =>
            (m_139 a0 (x12 - (x3 - x4)) (x13 + (x1 - x2)) th).bind fun x14 =>
            if x14 = 0 then
              j11 ()
            else
              j9 (Int32.ofInt 1)
        )
    )
theorem S_138 {L : Nat} (d : Nat) (a0 : Nat) (a1 : Int32) (a2 : Int32) (th : tH) : Wx L (fun x => (some (.int x), th)) (d + 3) 138 5 0 [(0, .ref a0), (1, .int a1), (2, .int a2)] [] th (m_138 a0 a1 a2 th) := by
  unfold m_138
  refine x_P 1 rfl rfl rfl ?_
  refine x_P 2 rfl rfl rfl ?_
  refine x_callV rfl rfl rfl rfl rfl ⟨rfl, rfl⟩ (fun x h => c_72 h) (S_72 (d + 2) a0 a2 th) (fun x1 hx1 => ?_)
  refine x_P 6 rfl rfl rfl ?_
  refine x_P 7 rfl rfl rfl ?_
  refine x_callV rfl rfl rfl rfl rfl ⟨rfl, rfl⟩ (fun x h => c_72 h) (S_72 (d + 2) a0 a1 th) (fun x2 hx2 => ?_)
  refine x_P 11 rfl rfl rfl ?_
  refine x_P (lv' := [(3, .int (x1 - x2)), (0, .ref a0), (1, .int a1), (2, .int a2)]) 12 rfl rfl rfl ?_
  refine x_P 13 rfl rfl rfl ?_
  refine x_P 14 rfl rfl rfl ?_
  refine x_callV rfl rfl rfl rfl rfl ⟨rfl, rfl⟩ (fun x h => c_73 h) (S_73 (d + 2) a0 a2 th) (fun x3 hx3 => ?_)
  refine x_P 18 rfl rfl rfl ?_
  refine x_P 19 rfl rfl rfl ?_
  refine x_callV rfl rfl rfl rfl rfl ⟨rfl, rfl⟩ (fun x h => c_73 h) (S_73 (d + 2) a0 a1 th) (fun x4 hx4 => ?_)
  refine x_P 23 rfl rfl rfl ?_
  refine x_P (lv' := [(4, .int (x3 - x4)), (3, .int (x1 - x2)), (0, .ref a0), (1, .int a1), (2, .int a2)]) 25 rfl rfl rfl ?_
  refine x_P 26 rfl rfl rfl ?_
  refine x_P 27 rfl rfl rfl ?_
  refine x_P 28 rfl rfl rfl ?_
  refine x_callV rfl rfl rfl rfl rfl ⟨rfl, rfl⟩ (fun x h => c_72 h) (S_72 (d + 2) a0 a1 th) (fun x5 hx5 => ?_)
  refine x_P 33 rfl rfl rfl ?_
  refine x_P 34 rfl rfl rfl ?_
  refine x_P 35 rfl rfl rfl ?_
  refine x_P 36 rfl rfl rfl ?_
  refine x_callV rfl rfl rfl rfl rfl ⟨rfl, rfl⟩ (fun x h => c_73 h) (S_73 (d + 2) a0 a1 th) (fun x6 hx6 => ?_)
  refine x_P 40 rfl rfl rfl ?_
  refine x_P 41 rfl rfl rfl ?_
  refine x_callS rfl rfl rfl rfl rfl rfl ⟨rfl, rfl⟩ (S_139 d a0 (x5 - (x3 - x4)) (x6 + (x1 - x2)) th) (fun x7 hx7 => ?_)
  refine x_jn 74 (fun v8 => []) (fun v8 => [.int v8]) (fun v8 => th) (fun v8 => ?_) (fun j9 hj9 => ?_)
  · exact x_rB rfl
  · refine x_jn 73 (fun v10 => []) (fun v10 => []) (fun v10 => th) (fun v10 => ?_) (fun j11 hj11 => ?_)
    · refine x_P 74 rfl rfl rfl ?_
      exact x_lv (hj9 (Int32.ofInt 0)) trivial
    · refine x_if_eq rfl rfl (fun h16 => ?_) (fun h16 => ?_)
      · exact x_lv (hj11 ()) trivial
      · refine x_P 48 rfl rfl rfl ?_
        refine x_P 49 rfl rfl rfl ?_
        refine x_P 50 rfl rfl rfl ?_
        refine x_callV rfl rfl rfl rfl rfl ⟨rfl, rfl⟩ (fun x h => c_72 h) (S_72 (d + 2) a0 a2 th) (fun x12 hx12 => ?_)
        refine x_P 55 rfl rfl rfl ?_
        refine x_P 56 rfl rfl rfl ?_
        refine x_P 57 rfl rfl rfl ?_
        refine x_P 58 rfl rfl rfl ?_
        refine x_callV rfl rfl rfl rfl rfl ⟨rfl, rfl⟩ (fun x h => c_73 h) (S_73 (d + 2) a0 a2 th) (fun x13 hx13 => ?_)
        refine x_P 62 rfl rfl rfl ?_
        refine x_P 63 rfl rfl rfl ?_
        refine x_callS rfl rfl rfl rfl rfl rfl ⟨rfl, rfl⟩ (S_139 d a0 (x12 - (x3 - x4)) (x13 + (x1 - x2)) th) (fun x14 hx14 => ?_)
        refine x_if_eq rfl rfl (fun h15 => ?_) (fun h15 => ?_)
        · exact x_lv (hj11 ()) trivial
        · refine x_P 70 rfl rfl rfl ?_
          refine x_P 74 rfl rfl rfl ?_
          exact x_lv (hj9 (Int32.ofInt 1)) trivial
-- 137 NineTrees$Shapes.countSquares(LNineTrees$Garden;)I
noncomputable def m_137 (a0 : Nat) (th : tH) : Option (Int32) :=
  lp (fun (s1 : Int32 × Int32) nx2 ex3 =>
      (gI th 2 a0 5).bind fun x6 =>
      if x6 ≤ s1.2 then
        ex3 s1.1
      else
        lp (fun (s7 : Int32 × Int32) nx8 ex9 =>
            (gI th 2 a0 5).bind fun x11 =>
            if x11 ≤ s7.2 then
              ex9 s7.1
            else
              jn (fun (v12 : Int32) =>
                  nx8 (v12, (s7.2 + Int32.ofInt 1))
                ) (fun j13 =>
                  if s1.2 = s7.2 then
                    j13 s7.1
                  else
                    (gN th 2 a0 1).bind fun o14 =>
                    (aI th o14 s1.2).bind fun x15 =>
                    (gN th 2 a0 1).bind fun o16 =>
                    (aI th o16 s7.2).bind fun x17 =>
                    (m_138 a0 x15 x17 th).bind fun x18 =>
                    if x18 = 0 then
                      j13 s7.1
                    else
                      j13 (s7.1 + Int32.ofInt 1)
                )
          ) 4096 (s1.1, (Int32.ofInt 0)) (fun (x10 : Int32) =>
            nx2 (x10, (s1.2 + Int32.ofInt 1))
          )
    ) 4096 ((Int32.ofInt 0), (Int32.ofInt 0)) (fun (x4 : Int32) =>
      (dvI x4 (Int32.ofInt 4)).bind fun x5 =>
      some x5
    )
theorem S_137 {L : Nat} (d : Nat) (a0 : Nat) (th : tH) : Wx L (fun x => (some (.int x), th)) (d + 4) 137 4 0 [(0, .ref a0)] [] th (m_137 a0 th) := by
  unfold m_137
  refine x_P 1 rfl rfl rfl ?_
  refine x_P (lv' := [(1, .int (Int32.ofInt 0)), (0, .ref a0)]) 2 rfl rfl rfl ?_
  refine x_P 3 rfl rfl rfl ?_
  refine x_P (lv' := [(2, .int (Int32.ofInt 0)), (1, .int (Int32.ofInt 0)), (0, .ref a0)]) 4 rfl rfl rfl ?_
  refine x_lv (lv := [(0, .ref a0), (1, .int (Int32.ofInt 0)), (2, .int (Int32.ofInt 0))]) (x_lp 61 (fun s1 => [(0, .ref a0), (1, .int s1.1), (2, .int s1.2)]) (fun s1 => th) (fun x4 => [(1, .int x4)]) (fun x4 => th) (fun s1 nx2 hnx2 ex3 hex3 => ?_) (fun x4 => ?_) 4096 ((Int32.ofInt 0), (Int32.ofInt 0))) ⟨rfl, rfl, rfl, trivial⟩
  · refine x_P 5 rfl rfl rfl ?_
    refine x_P 6 rfl rfl rfl ?_
    refine x_gI rfl (fun x6 hx6 => ?_)
    refine x_ic_ge rfl rfl (fun h22 => ?_) (fun h22 => ?_)
    · exact x_lv (hex3 s1.1) ⟨rfl, trivial⟩
    · refine x_P 13 rfl rfl rfl ?_
      refine x_P (lv' := [(3, .int (Int32.ofInt 0)), (0, .ref a0), (1, .int s1.1), (2, .int s1.2)]) 14 rfl rfl rfl ?_
      refine x_lv (lv := [(0, .ref a0), (1, .int s1.1), (2, .int s1.2), (3, .int (Int32.ofInt 0))]) (x_lp 55 (fun s7 => [(0, .ref a0), (1, .int s7.1), (2, .int s1.2), (3, .int s7.2)]) (fun s7 => th) (fun x10 => [(0, .ref a0), (1, .int x10), (2, .int s1.2)]) (fun x10 => th) (fun s7 nx8 hnx8 ex9 hex9 => ?_) (fun x10 => ?_) 4096 (s1.1, (Int32.ofInt 0))) ⟨rfl, rfl, rfl, rfl, trivial⟩
      · refine x_P 15 rfl rfl rfl ?_
        refine x_P 16 rfl rfl rfl ?_
        refine x_gI rfl (fun x11 hx11 => ?_)
        refine x_ic_ge rfl rfl (fun h21 => ?_) (fun h21 => ?_)
        · exact x_lv (hex9 s7.1) ⟨rfl, rfl, rfl, trivial⟩
        · refine x_P 23 rfl rfl rfl ?_
          refine x_P 24 rfl rfl rfl ?_
          refine x_jn 49 (fun v12 => [(0, .ref a0), (1, .int v12), (2, .int s1.2), (3, .int s7.2)]) (fun v12 => []) (fun v12 => th) (fun v12 => ?_) (fun j13 hj13 => ?_)
          · refine x_P (lv' := [(3, .int (s7.2 + Int32.ofInt 1)), (0, .ref a0), (1, .int v12), (2, .int s1.2)]) 52 rfl rfl rfl ?_
            refine x_P 14 rfl rfl rfl ?_
            exact x_lv (hnx8 (v12, (s7.2 + Int32.ofInt 1))) ⟨rfl, rfl, rfl, rfl, trivial⟩
          · refine x_ic_eq rfl rfl (fun h20 => ?_) (fun h20 => ?_)
            · exact x_lv (hj13 s7.1) ⟨rfl, rfl, rfl, rfl, trivial⟩
            · refine x_P 28 rfl rfl rfl ?_
              refine x_P 29 rfl rfl rfl ?_
              refine x_gN rfl (fun o14 ho14 => ?_)
              refine x_P 33 rfl rfl rfl ?_
              refine x_aI rfl ⟨rfl, rfl⟩ (fun x15 hx15 => ?_)
              refine x_P 35 rfl rfl rfl ?_
              refine x_gN rfl (fun o16 ho16 => ?_)
              refine x_P 39 rfl rfl rfl ?_
              refine x_aI rfl ⟨rfl, rfl⟩ (fun x17 hx17 => ?_)
              refine x_callS rfl rfl rfl rfl rfl rfl ⟨rfl, rfl⟩ (S_138 d a0 x15 x17 th) (fun x18 hx18 => ?_)
              refine x_if_eq rfl rfl (fun h19 => ?_) (fun h19 => ?_)
              · exact x_lv (hj13 s7.1) ⟨rfl, rfl, rfl, rfl, trivial⟩
              · refine x_P (lv' := [(1, .int (s7.1 + Int32.ofInt 1)), (0, .ref a0), (2, .int s1.2), (3, .int s7.2)]) 49 rfl rfl rfl ?_
                exact x_lv (hj13 (s7.1 + Int32.ofInt 1)) ⟨rfl, rfl, rfl, rfl, trivial⟩
      · refine x_P (lv' := [(2, .int (s1.2 + Int32.ofInt 1)), (0, .ref a0), (1, .int x10)]) 58 rfl rfl rfl ?_
        refine x_P 4 rfl rfl rfl ?_
        exact x_lv (hnx2 (x10, (s1.2 + Int32.ofInt 1))) ⟨rfl, rfl, rfl, trivial⟩
  · refine x_P 62 rfl rfl rfl ?_
    refine x_P 63 rfl rfl rfl ?_
    refine x_dv rfl rfl (fun x5 hx5 => ?_)
    exact x_retI (x := x5) rfl
-- 48 NineTrees.squares()I
noncomputable def m_48 (a0 : Nat) (th : tH) : Option (Int32) :=
  (gC th 7 a0).bind fun _ =>
  (gN th 7 a0 0).bind fun o1 =>
  (m_137 o1 th).bind fun x2 =>
  some x2
theorem c_48 {a0 : Nat} {th : tH} {x : (Int32)} (h : m_48 a0 th = some x) : ∃ fs, th[a0]? = some (.inr (7, fs)) := gC_of h
theorem S_48 {L : Nat} (d : Nat) (a0 : Nat) (th : tH) : Wx L (fun x => (some (.int x), th)) (d + 5) 48 1 0 [(0, .ref a0)] [] th (m_48 a0 th) := by
  unfold m_48
  refine x_gC ?_
  refine x_P 1 rfl rfl rfl ?_
  refine x_gN rfl (fun o1 ho1 => ?_)
  refine x_callS rfl rfl rfl rfl rfl rfl ⟨rfl, rfl⟩ (S_137 d o1 th) (fun x2 hx2 => ?_)
  exact x_retI (x := x2) rfl
-- 142 NineTrees$Shapes.isOnOneHand(LNineTrees$Garden;IIII)Z
noncomputable def m_142 (a0 : Nat) (a1 : Int32) (a2 : Int32) (a3 : Int32) (a4 : Int32) (th : tH) : Option (Int32) :=
  (m_79 a0 a2 a3 a1 th).bind fun x1 =>
  (m_79 a0 a3 a4 a1 th).bind fun x2 =>
  (m_79 a0 a4 a2 a1 th).bind fun x3 =>
  jn (fun (v4 : Int32) =>
      jn (fun (v6 : Int32) =>
          jn (fun (v8 : Int32) =>
              rB v8
            ) (fun j9 =>
              jn (fun (v10 : Unit) =>
                  j9 (Int32.ofInt 1)
                ) (fun j11 =>
                  if v4 = 0 then
                    if v6 = 0 then
                      j9 (Int32.ofInt 0)
                    else
                      j11 ()
                  else
                    j11 ()
                )
            )
        ) (fun j7 =>
          jn (fun (v14 : Unit) =>
              j7 (Int32.ofInt 0)
            ) (fun j15 =>
              if 0 < x1 then
                j15 ()
              else
                if 0 < x2 then
                  j15 ()
                else
                  if 0 < x3 then
                    j15 ()
                  else
                    j7 (Int32.ofInt 1)
            )
        )
    ) (fun j5 =>
      jn (fun (v19 : Unit) =>
          j5 (Int32.ofInt 0)
        ) (fun j20 =>
          if x1 < 0 then
            j20 ()
          else
            if x2 < 0 then
              j20 ()
            else
              if x3 < 0 then
                j20 ()
              else
                j5 (Int32.ofInt 1)
        )
    )
theorem S_142 {L : Nat} (d : Nat) (a0 : Nat) (a1 : Int32) (a2 : Int32) (a3 : Int32) (a4 : Int32) (th : tH) : Wx L (fun x => (some (.int x), th)) (d + 2) 142 10 0 [(0, .ref a0), (1, .int a1), (2, .int a2), (3, .int a3), (4, .int a4)] [] th (m_142 a0 a1 a2 a3 a4 th) := by
  unfold m_142
  refine x_P 1 rfl rfl rfl ?_
  refine x_P 2 rfl rfl rfl ?_
  refine x_P 3 rfl rfl rfl ?_
  refine x_P 4 rfl rfl rfl ?_
  refine x_callV rfl rfl rfl rfl rfl ⟨rfl, rfl⟩ (fun x h => c_79 h) (S_79 d a0 a2 a3 a1 th) (fun x1 hx1 => ?_)
  refine x_P (lv' := [(5, .int x1), (0, .ref a0), (1, .int a1), (2, .int a2), (3, .int a3), (4, .int a4)]) 9 rfl rfl rfl ?_
  refine x_P 10 rfl rfl rfl ?_
  refine x_P 11 rfl rfl rfl ?_
  refine x_P 13 rfl rfl rfl ?_
  refine x_P 14 rfl rfl rfl ?_
  refine x_callV rfl rfl rfl rfl rfl ⟨rfl, rfl⟩ (fun x h => c_79 h) (S_79 d a0 a3 a4 a1 th) (fun x2 hx2 => ?_)
  refine x_P (lv' := [(6, .int x2), (5, .int x1), (0, .ref a0), (1, .int a1), (2, .int a2), (3, .int a3), (4, .int a4)]) 19 rfl rfl rfl ?_
  refine x_P 20 rfl rfl rfl ?_
  refine x_P 22 rfl rfl rfl ?_
  refine x_P 23 rfl rfl rfl ?_
  refine x_P 24 rfl rfl rfl ?_
  refine x_callV rfl rfl rfl rfl rfl ⟨rfl, rfl⟩ (fun x h => c_79 h) (S_79 d a0 a4 a2 a1 th) (fun x3 hx3 => ?_)
  refine x_P (lv' := [(7, .int x3), (6, .int x2), (5, .int x1), (0, .ref a0), (1, .int a1), (2, .int a2), (3, .int a3), (4, .int a4)]) 29 rfl rfl rfl ?_
  refine x_P 31 rfl rfl rfl ?_
  refine x_jn 49 (fun v4 => [(5, .int x1), (6, .int x2), (7, .int x3)]) (fun v4 => [.int v4]) (fun v4 => th) (fun v4 => ?_) (fun j5 hj5 => ?_)
  · refine x_P (lv' := [(8, .int v4), (5, .int x1), (6, .int x2), (7, .int x3)]) 51 rfl rfl rfl ?_
    refine x_P 53 rfl rfl rfl ?_
    refine x_jn 71 (fun v6 => [(8, .int v4)]) (fun v6 => [.int v6]) (fun v6 => th) (fun v6 => ?_) (fun j7 hj7 => ?_)
    · refine x_P (lv' := [(9, .int v6), (8, .int v4)]) 73 rfl rfl rfl ?_
      refine x_P 75 rfl rfl rfl ?_
      refine x_jn 88 (fun v8 => []) (fun v8 => [.int v8]) (fun v8 => th) (fun v8 => ?_) (fun j9 hj9 => ?_)
      · exact x_rB rfl
      · refine x_jn 83 (fun v10 => []) (fun v10 => []) (fun v10 => th) (fun v10 => ?_) (fun j11 hj11 => ?_)
        · refine x_P 84 rfl rfl rfl ?_
          refine x_P 88 rfl rfl rfl ?_
          exact x_lv (hj9 (Int32.ofInt 1)) trivial
        · refine x_if_ne rfl rfl (fun h13 => ?_) (fun h13 => ?_)
          · refine x_P 80 rfl rfl rfl ?_
            refine x_if_eq rfl rfl (fun h12 => ?_) (fun h12 => ?_)
            · refine x_P 88 rfl rfl rfl ?_
              exact x_lv (hj9 (Int32.ofInt 0)) trivial
            · exact x_lv (hj11 ()) trivial
          · exact x_lv (hj11 ()) trivial
    · refine x_jn 70 (fun v14 => [(8, .int v4)]) (fun v14 => []) (fun v14 => th) (fun v14 => ?_) (fun j15 hj15 => ?_)
      · refine x_P 71 rfl rfl rfl ?_
        exact x_lv (hj7 (Int32.ofInt 0)) ⟨rfl, trivial⟩
      · refine x_if_gt rfl rfl (fun h18 => ?_) (fun h18 => ?_)
        · exact x_lv (hj15 ()) ⟨rfl, trivial⟩
        · refine x_P 58 rfl rfl rfl ?_
          refine x_if_gt rfl rfl (fun h17 => ?_) (fun h17 => ?_)
          · exact x_lv (hj15 ()) ⟨rfl, trivial⟩
          · refine x_P 63 rfl rfl rfl ?_
            refine x_if_gt rfl rfl (fun h16 => ?_) (fun h16 => ?_)
            · exact x_lv (hj15 ()) ⟨rfl, trivial⟩
            · refine x_P 67 rfl rfl rfl ?_
              refine x_P 71 rfl rfl rfl ?_
              exact x_lv (hj7 (Int32.ofInt 1)) ⟨rfl, trivial⟩
  · refine x_jn 48 (fun v19 => [(5, .int x1), (6, .int x2), (7, .int x3)]) (fun v19 => []) (fun v19 => th) (fun v19 => ?_) (fun j20 hj20 => ?_)
    · refine x_P 49 rfl rfl rfl ?_
      exact x_lv (hj5 (Int32.ofInt 0)) ⟨rfl, rfl, rfl, trivial⟩
    · refine x_if_lt rfl rfl (fun h23 => ?_) (fun h23 => ?_)
      · exact x_lv (hj20 ()) ⟨rfl, rfl, rfl, trivial⟩
      · refine x_P 36 rfl rfl rfl ?_
        refine x_if_lt rfl rfl (fun h22 => ?_) (fun h22 => ?_)
        · exact x_lv (hj20 ()) ⟨rfl, rfl, rfl, trivial⟩
        · refine x_P 41 rfl rfl rfl ?_
          refine x_if_lt rfl rfl (fun h21 => ?_) (fun h21 => ?_)
          · exact x_lv (hj20 ()) ⟨rfl, rfl, rfl, trivial⟩
          · refine x_P 45 rfl rfl rfl ?_
            refine x_P 49 rfl rfl rfl ?_
            exact x_lv (hj5 (Int32.ofInt 1)) ⟨rfl, rfl, rfl, trivial⟩
-- 141 NineTrees$Shapes.isInTriangleOnto(LNineTrees$Garden;III)Z
noncomputable def m_141 (a0 : Nat) (a1 : Int32) (a2 : Int32) (a3 : Int32) (th : tH) : Option (Int32) :=
  jn (fun (v1 : Unit) =>
      rB (Int32.ofInt 0)
    ) (fun j2 =>
      if a1 = a2 then
        j2 ()
      else
        if a1 = a3 then
          j2 ()
        else
          (gN th 2 a0 1).bind fun o3 =>
          lp (fun (s4 : Int32) nx5 ex6 =>
              (gI th 2 a0 5).bind fun x8 =>
              if x8 ≤ s4 then
                ex6 ()
              else
                jn (fun (v9 : Unit) =>
                    nx5 (s4 + Int32.ofInt 1)
                  ) (fun j10 =>
                    if s4 = a1 then
                      j10 ()
                    else
                      (aI th o3 a2).bind fun x11 =>
                      (aI th o3 a3).bind fun x12 =>
                      (aI th o3 s4).bind fun x13 =>
                      (m_79 a0 x11 x12 x13 th).bind fun x14 =>
                      if x14 = 0 then
                        j10 ()
                      else
                        (aI th o3 a1).bind fun x15 =>
                        (aI th o3 a2).bind fun x16 =>
                        (aI th o3 a3).bind fun x17 =>
                        (aI th o3 s4).bind fun x18 =>
                        (m_142 a0 x15 x16 x17 x18 th).bind fun x19 =>
                        if x19 = 0 then
                          j10 ()
                        else
                          rB (Int32.ofInt 1)
                  )
            ) 4096 (a3 + (Int32.ofInt 1)) (fun (x7 : Unit) =>
              rB (Int32.ofInt 0)
            )
    )
theorem S_141 {L : Nat} (d : Nat) (a0 : Nat) (a1 : Int32) (a2 : Int32) (a3 : Int32) (th : tH) : Wx L (fun x => (some (.int x), th)) (d + 3) 141 6 0 [(0, .ref a0), (1, .int a1), (2, .int a2), (3, .int a3)] [] th (m_141 a0 a1 a2 a3 th) := by
  unfold m_141
  refine x_P 1 rfl rfl rfl ?_
  refine x_P 2 rfl rfl rfl ?_
  refine x_jn 10 (fun v1 => []) (fun v1 => []) (fun v1 => th) (fun v1 => ?_) (fun j2 hj2 => ?_)
  · refine x_P 11 rfl rfl rfl ?_
    exact x_rB rfl
  · refine x_ic_eq rfl rfl (fun h25 => ?_) (fun h25 => ?_)
    · exact x_lv (hj2 ()) trivial
    · refine x_P 6 rfl rfl rfl ?_
      refine x_P 7 rfl rfl rfl ?_
      refine x_ic_ne rfl rfl (fun h24 => ?_) (fun h24 => ?_)
      · exact x_lv (hj2 ()) trivial
      · refine x_P 13 rfl rfl rfl ?_
        refine x_gN rfl (fun o3 ho3 => ?_)
        refine x_P (lv' := [(4, .ref o3), (0, .ref a0), (1, .int a1), (2, .int a2), (3, .int a3)]) 18 rfl rfl rfl ?_
        refine x_P 19 rfl rfl rfl ?_
        refine x_P 20 rfl rfl rfl ?_
        refine x_P 21 rfl rfl rfl ?_
        refine x_P (lv' := [(5, .int (a3 + (Int32.ofInt 1))), (4, .ref o3), (0, .ref a0), (1, .int a1), (2, .int a2), (3, .int a3)]) 23 rfl rfl rfl ?_
        refine x_lv (lv := [(0, .ref a0), (1, .int a1), (2, .int a2), (3, .int a3), (4, .ref o3), (5, .int (a3 + (Int32.ofInt 1)))]) (x_lp 90 (fun s4 => [(0, .ref a0), (1, .int a1), (2, .int a2), (3, .int a3), (4, .ref o3), (5, .int s4)]) (fun s4 => th) (fun x7 => []) (fun x7 => th) (fun s4 nx5 hnx5 ex6 hex6 => ?_) (fun x7 => ?_) 4096 (a3 + (Int32.ofInt 1))) ⟨rfl, rfl, rfl, rfl, rfl, rfl, trivial⟩
        · refine x_P 25 rfl rfl rfl ?_
          refine x_P 26 rfl rfl rfl ?_
          refine x_gI rfl (fun x8 hx8 => ?_)
          refine x_ic_ge rfl rfl (fun h23 => ?_) (fun h23 => ?_)
          · exact x_lv (hex6 ()) trivial
          · refine x_P 34 rfl rfl rfl ?_
            refine x_P 35 rfl rfl rfl ?_
            refine x_jn 84 (fun v9 => [(0, .ref a0), (1, .int a1), (2, .int a2), (3, .int a3), (4, .ref o3), (5, .int s4)]) (fun v9 => []) (fun v9 => th) (fun v9 => ?_) (fun j10 hj10 => ?_)
            · refine x_P (lv' := [(5, .int (s4 + Int32.ofInt 1)), (0, .ref a0), (1, .int a1), (2, .int a2), (3, .int a3), (4, .ref o3)]) 87 rfl rfl rfl ?_
              refine x_P 23 rfl rfl rfl ?_
              exact x_lv (hnx5 (s4 + Int32.ofInt 1)) ⟨rfl, rfl, rfl, rfl, rfl, rfl, trivial⟩
            · refine x_ic_eq rfl rfl (fun h22 => ?_) (fun h22 => ?_)
              · exact x_lv (hj10 ()) ⟨rfl, rfl, rfl, rfl, rfl, rfl, trivial⟩
              · refine x_P 39 rfl rfl rfl ?_
                refine x_P 41 rfl rfl rfl ?_
                refine x_P 42 rfl rfl rfl ?_
                refine x_aI rfl ⟨rfl, rfl⟩ (fun x11 hx11 => ?_)
                refine x_P 45 rfl rfl rfl ?_
                refine x_P 46 rfl rfl rfl ?_
                refine x_aI rfl ⟨rfl, rfl⟩ (fun x12 hx12 => ?_)
                refine x_P 49 rfl rfl rfl ?_
                refine x_P 51 rfl rfl rfl ?_
                refine x_aI rfl ⟨rfl, rfl⟩ (fun x13 hx13 => ?_)
                refine x_callV rfl rfl rfl rfl rfl ⟨rfl, rfl⟩ (fun x h => c_79 h) (S_79 (d + 1) a0 x11 x12 x13 th) (fun x14 hx14 => ?_)
                refine x_if_eq rfl rfl (fun h21 => ?_) (fun h21 => ?_)
                · exact x_lv (hj10 ()) ⟨rfl, rfl, rfl, rfl, rfl, rfl, trivial⟩
                · refine x_P 59 rfl rfl rfl ?_
                  refine x_P 61 rfl rfl rfl ?_
                  refine x_P 62 rfl rfl rfl ?_
                  refine x_aI rfl ⟨rfl, rfl⟩ (fun x15 hx15 => ?_)
                  refine x_P 65 rfl rfl rfl ?_
                  refine x_P 66 rfl rfl rfl ?_
                  refine x_aI rfl ⟨rfl, rfl⟩ (fun x16 hx16 => ?_)
                  refine x_P 69 rfl rfl rfl ?_
                  refine x_P 70 rfl rfl rfl ?_
                  refine x_aI rfl ⟨rfl, rfl⟩ (fun x17 hx17 => ?_)
                  refine x_P 73 rfl rfl rfl ?_
                  refine x_P 75 rfl rfl rfl ?_
                  refine x_aI rfl ⟨rfl, rfl⟩ (fun x18 hx18 => ?_)
                  refine x_callS rfl rfl rfl rfl rfl rfl ⟨rfl, rfl⟩ (S_142 d a0 x15 x16 x17 x18 th) (fun x19 hx19 => ?_)
                  refine x_if_eq rfl rfl (fun h20 => ?_) (fun h20 => ?_)
                  · exact x_lv (hj10 ()) ⟨rfl, rfl, rfl, rfl, rfl, rfl, trivial⟩
                  · refine x_P 83 rfl rfl rfl ?_
                    exact x_rB rfl
        · refine x_P 91 rfl rfl rfl ?_
          exact x_rB rfl
-- 140 NineTrees$Shapes.isCorner(LNineTrees$Garden;I)Z
noncomputable def m_140 (a0 : Nat) (a1 : Int32) (th : tH) : Option (Int32) :=
  (gN th 2 a0 1).bind fun o1 =>
  (aI th o1 a1).bind fun x2 =>
  lp (fun (s3 : Int32) nx4 ex5 =>
      (gI th 2 a0 5).bind fun x7 =>
      if x7 ≤ s3 then
        ex5 ()
      else
        lp (fun (s8 : Int32) nx9 ex10 =>
            (gI th 2 a0 5).bind fun x12 =>
            if x12 ≤ s8 then
              ex10 ()
            else
              (gN th 2 a0 1).bind fun o13 =>
              (aI th o13 s3).bind fun x14 =>
              (gN th 2 a0 1).bind fun o15 =>
              (aI th o15 s8).bind fun x16 =>
              (m_80 a0 x2 x14 x16 th).bind fun x17 =>
              jn (fun (v18 : Unit) =>
                  rB (Int32.ofInt 0)
                ) (fun j19 =>
                  if x17 = 0 then
                    (m_141 a0 a1 s3 s8 th).bind fun x20 =>
                    if x20 = 0 then
                      nx9 (s8 + Int32.ofInt 1)
                    else
                      j19 ()
                  else
                    j19 ()
                )
          ) 4096 (s3 + (Int32.ofInt 1)) (fun (x11 : Unit) =>
            nx4 (s3 + Int32.ofInt 1)
          )
    ) 4096 (Int32.ofInt 0) (fun (x6 : Unit) =>
      rB (Int32.ofInt 1)
    )
theorem S_140 {L : Nat} (d : Nat) (a0 : Nat) (a1 : Int32) (th : tH) : Wx L (fun x => (some (.int x), th)) (d + 4) 140 5 0 [(0, .ref a0), (1, .int a1)] [] th (m_140 a0 a1 th) := by
  unfold m_140
  refine x_P 1 rfl rfl rfl ?_
  refine x_gN rfl (fun o1 ho1 => ?_)
  refine x_P 5 rfl rfl rfl ?_
  refine x_aI rfl ⟨rfl, rfl⟩ (fun x2 hx2 => ?_)
  refine x_P (lv' := [(2, .int x2), (0, .ref a0), (1, .int a1)]) 7 rfl rfl rfl ?_
  refine x_P 8 rfl rfl rfl ?_
  refine x_P (lv' := [(3, .int (Int32.ofInt 0)), (2, .int x2), (0, .ref a0), (1, .int a1)]) 9 rfl rfl rfl ?_
  refine x_lv (lv := [(0, .ref a0), (1, .int a1), (2, .int x2), (3, .int (Int32.ofInt 0))]) (x_lp 77 (fun s3 => [(0, .ref a0), (1, .int a1), (2, .int x2), (3, .int s3)]) (fun s3 => th) (fun x6 => []) (fun x6 => th) (fun s3 nx4 hnx4 ex5 hex5 => ?_) (fun x6 => ?_) 4096 (Int32.ofInt 0)) ⟨rfl, rfl, rfl, rfl, trivial⟩
  · refine x_P 10 rfl rfl rfl ?_
    refine x_P 11 rfl rfl rfl ?_
    refine x_gI rfl (fun x7 hx7 => ?_)
    refine x_ic_ge rfl rfl (fun h24 => ?_) (fun h24 => ?_)
    · exact x_lv (hex5 ()) trivial
    · refine x_P 18 rfl rfl rfl ?_
      refine x_P 19 rfl rfl rfl ?_
      refine x_P 20 rfl rfl rfl ?_
      refine x_P (lv' := [(4, .int (s3 + (Int32.ofInt 1))), (0, .ref a0), (1, .int a1), (2, .int x2), (3, .int s3)]) 22 rfl rfl rfl ?_
      refine x_lv (lv := [(0, .ref a0), (1, .int a1), (2, .int x2), (3, .int s3), (4, .int (s3 + (Int32.ofInt 1)))]) (x_lp 71 (fun s8 => [(0, .ref a0), (1, .int a1), (2, .int x2), (3, .int s3), (4, .int s8)]) (fun s8 => th) (fun x11 => [(0, .ref a0), (1, .int a1), (2, .int x2), (3, .int s3)]) (fun x11 => th) (fun s8 nx9 hnx9 ex10 hex10 => ?_) (fun x11 => ?_) 4096 (s3 + (Int32.ofInt 1))) ⟨rfl, rfl, rfl, rfl, rfl, trivial⟩
      · refine x_P 24 rfl rfl rfl ?_
        refine x_P 25 rfl rfl rfl ?_
        refine x_gI rfl (fun x12 hx12 => ?_)
        refine x_ic_ge rfl rfl (fun h23 => ?_) (fun h23 => ?_)
        · exact x_lv (hex10 ()) ⟨rfl, rfl, rfl, rfl, trivial⟩
        · refine x_P 32 rfl rfl rfl ?_
          refine x_P 33 rfl rfl rfl ?_
          refine x_P 34 rfl rfl rfl ?_
          refine x_gN rfl (fun o13 ho13 => ?_)
          refine x_P 38 rfl rfl rfl ?_
          refine x_aI rfl ⟨rfl, rfl⟩ (fun x14 hx14 => ?_)
          refine x_P 40 rfl rfl rfl ?_
          refine x_gN rfl (fun o15 ho15 => ?_)
          refine x_P 45 rfl rfl rfl ?_
          refine x_aI rfl ⟨rfl, rfl⟩ (fun x16 hx16 => ?_)
          refine x_callV rfl rfl rfl rfl rfl ⟨rfl, rfl⟩ (fun x h => c_80 h) (S_80 (d + 1) a0 x2 x14 x16 th) (fun x17 hx17 => ?_)
          refine x_jn 63 (fun v18 => []) (fun v18 => []) (fun v18 => th) (fun v18 => ?_) (fun j19 hj19 => ?_)
          · refine x_P 64 rfl rfl rfl ?_
            exact x_rB rfl
          · refine x_if_ne rfl rfl (fun h22 => ?_) (fun h22 => ?_)
            · refine x_P 53 rfl rfl rfl ?_
              refine x_P 54 rfl rfl rfl ?_
              refine x_P 55 rfl rfl rfl ?_
              refine x_P 57 rfl rfl rfl ?_
              refine x_callS rfl rfl rfl rfl rfl rfl ⟨rfl, rfl⟩ (S_141 d a0 a1 s3 s8 th) (fun x20 hx20 => ?_)
              refine x_if_eq rfl rfl (fun h21 => ?_) (fun h21 => ?_)
              · refine x_P (lv' := [(4, .int (s8 + Int32.ofInt 1)), (0, .ref a0), (1, .int a1), (2, .int x2), (3, .int s3)]) 68 rfl rfl rfl ?_
                refine x_P 22 rfl rfl rfl ?_
                exact x_lv (hnx9 (s8 + Int32.ofInt 1)) ⟨rfl, rfl, rfl, rfl, rfl, trivial⟩
              · exact x_lv (hj19 ()) trivial
            · exact x_lv (hj19 ()) trivial
      · refine x_P (lv' := [(3, .int (s3 + Int32.ofInt 1)), (0, .ref a0), (1, .int a1), (2, .int x2)]) 74 rfl rfl rfl ?_
        refine x_P 9 rfl rfl rfl ?_
        exact x_lv (hnx4 (s3 + Int32.ofInt 1)) ⟨rfl, rfl, rfl, rfl, trivial⟩
  · refine x_P 78 rfl rfl rfl ?_
    exact x_rB rfl
-- 49 NineTrees.corners()I
noncomputable def m_49 (a0 : Nat) (th : tH) : Option (Int32) :=
  (gC th 7 a0).bind fun _ =>
  lp (fun (s1 : Int32 × Int32) nx2 ex3 =>
      (gN th 7 a0 0).bind fun o5 =>
      (gI th 2 o5 5).bind fun x6 =>
      if x6 ≤ s1.2 then
        ex3 s1.1
      else
        (gN th 7 a0 0).bind fun o7 =>
        (m_140 o7 s1.2 th).bind fun x8 =>
        jn (fun (v9 : Int32) =>
            nx2 (v9, (s1.2 + Int32.ofInt 1))
          ) (fun j10 =>
            if x8 = 0 then
              j10 s1.1
            else
              j10 (s1.1 ||| ((Int32.ofInt 1) <<< (s1.2 &&& 31)))
          )
    ) 4096 ((Int32.ofInt 0), (Int32.ofInt 0)) (fun (x4 : Int32) =>
      some x4
    )
theorem c_49 {a0 : Nat} {th : tH} {x : (Int32)} (h : m_49 a0 th = some x) : ∃ fs, th[a0]? = some (.inr (7, fs)) := gC_of h
theorem S_49 {L : Nat} (d : Nat) (a0 : Nat) (th : tH) : Wx L (fun x => (some (.int x), th)) (d + 5) 49 3 0 [(0, .ref a0)] [] th (m_49 a0 th) := by
  unfold m_49
  refine x_gC ?_
  refine x_P 1 rfl rfl rfl ?_
  refine x_P (lv' := [(1, .int (Int32.ofInt 0)), (0, .ref a0)]) 2 rfl rfl rfl ?_
  refine x_P 3 rfl rfl rfl ?_
  refine x_P (lv' := [(2, .int (Int32.ofInt 0)), (1, .int (Int32.ofInt 0)), (0, .ref a0)]) 4 rfl rfl rfl ?_
  refine x_lv (lv := [(0, .ref a0), (1, .int (Int32.ofInt 0)), (2, .int (Int32.ofInt 0))]) (x_lp 38 (fun s1 => [(0, .ref a0), (1, .int s1.1), (2, .int s1.2)]) (fun s1 => th) (fun x4 => [(1, .int x4)]) (fun x4 => th) (fun s1 nx2 hnx2 ex3 hex3 => ?_) (fun x4 => ?_) 4096 ((Int32.ofInt 0), (Int32.ofInt 0))) ⟨rfl, rfl, rfl, trivial⟩
  · refine x_P 5 rfl rfl rfl ?_
    refine x_P 6 rfl rfl rfl ?_
    refine x_gN rfl (fun o5 ho5 => ?_)
    refine x_gI rfl (fun x6 hx6 => ?_)
    refine x_ic_ge rfl rfl (fun h12 => ?_) (fun h12 => ?_)
    · exact x_lv (hex3 s1.1) ⟨rfl, trivial⟩
    · refine x_P 16 rfl rfl rfl ?_
      refine x_gN rfl (fun o7 ho7 => ?_)
      refine x_P 20 rfl rfl rfl ?_
      refine x_callS rfl rfl rfl rfl rfl rfl ⟨rfl, rfl⟩ (S_140 d o7 s1.2 th) (fun x8 hx8 => ?_)
      refine x_jn 32 (fun v9 => [(0, .ref a0), (1, .int v9), (2, .int s1.2)]) (fun v9 => []) (fun v9 => th) (fun v9 => ?_) (fun j10 hj10 => ?_)
      · refine x_P (lv' := [(2, .int (s1.2 + Int32.ofInt 1)), (0, .ref a0), (1, .int v9)]) 35 rfl rfl rfl ?_
        refine x_P 4 rfl rfl rfl ?_
        exact x_lv (hnx2 (v9, (s1.2 + Int32.ofInt 1))) ⟨rfl, rfl, rfl, trivial⟩
      · refine x_if_eq rfl rfl (fun h11 => ?_) (fun h11 => ?_)
        · exact x_lv (hj10 s1.1) ⟨rfl, rfl, rfl, trivial⟩
        · refine x_P 27 rfl rfl rfl ?_
          refine x_P 28 rfl rfl rfl ?_
          refine x_P 29 rfl rfl rfl ?_
          refine x_P 30 rfl rfl rfl ?_
          refine x_P 31 rfl rfl rfl ?_
          refine x_P (lv' := [(1, .int (s1.1 ||| ((Int32.ofInt 1) <<< (s1.2 &&& 31)))), (0, .ref a0), (2, .int s1.2)]) 32 rfl rfl rfl ?_
          exact x_lv (hj10 (s1.1 ||| ((Int32.ofInt 1) <<< (s1.2 &&& 31)))) ⟨rfl, rfl, rfl, trivial⟩
  · refine x_P 39 rfl rfl rfl ?_
    exact x_retI (x := x4) rfl
-- 50 NineTrees.pointed(I)I
noncomputable def m_50 (a0 : Nat) (a1 : Int32) (th : tH) : Option (Int32 × tH) :=
  (gC th 7 a0).bind fun _ =>
  (gN th 7 a0 0).bind fun o1 =>
  (m_71 o1 a1 th).bind fun x2 =>
  if x2 = 0 then
    (m_59 a0 (Int8.ofInt (-2)).toInt32 th).bind fun q10 =>
    some (q10.1, q10.2)
  else
    (gN th 7 a0 4).bind fun o3 =>
    (gN th 7 a0 0).bind fun o4 =>
    (m_63 a0 th).bind fun q5 =>
    (m_114 o3 o4 q5.1 (Int32.ofInt 3) q5.2).bind fun th6 =>
    (gN th6 7 a0 4).bind fun o7 =>
    (gN th6 0 o7 0).bind fun o8 =>
    (aI th6 o8 a1).bind fun x9 =>
    some (x9, th6)
theorem c_50 {a0 : Nat} {a1 : Int32} {th : tH} {x : (Int32 × tH)} (h : m_50 a0 a1 th = some x) : ∃ fs, th[a0]? = some (.inr (7, fs)) := gC_of h
theorem S_50 {L : Nat} (d : Nat) (a0 : Nat) (a1 : Int32) (th : tH) : Wx L (fun x => (some (.int x.1), x.2)) (d + 5) 50 2 0 [(0, .ref a0), (1, .int a1)] [] th (m_50 a0 a1 th) := by
  unfold m_50
  refine x_gC ?_
  refine x_P 1 rfl rfl rfl ?_
  refine x_gN rfl (fun o1 ho1 => ?_)
  refine x_P 5 rfl rfl rfl ?_
  refine x_callV rfl rfl rfl rfl rfl ⟨rfl, rfl⟩ (fun x h => c_71 h) (S_71 (d + 3) o1 a1 th) (fun x2 hx2 => ?_)
  refine x_if_ne rfl rfl (fun h11 => ?_) (fun h11 => ?_)
  · refine x_P 12 rfl rfl rfl ?_
    refine x_P 14 rfl rfl rfl ?_
    refine x_callV rfl rfl rfl rfl rfl ⟨rfl, rfl⟩ (fun x h => c_59 h) (S_59 (d + 3) a0 (Int8.ofInt (-2)).toInt32 th) (fun q10 hq10 => ?_)
    exact x_retI (x := (q10.1, q10.2)) rfl
  · refine x_P 19 rfl rfl rfl ?_
    refine x_gN rfl (fun o3 ho3 => ?_)
    refine x_P 23 rfl rfl rfl ?_
    refine x_gN rfl (fun o4 ho4 => ?_)
    refine x_P 27 rfl rfl rfl ?_
    refine x_callV rfl rfl rfl rfl rfl ⟨rfl, rfl⟩ (fun x h => c_63 h) (S_63 d a0 th) (fun q5 hq5 => ?_)
    refine x_P 31 rfl rfl rfl ?_
    refine x_callW rfl rfl rfl rfl rfl ⟨rfl, rfl⟩ (fun x h => c_114 h) (S_114 (d + 1) o3 o4 q5.1 (Int32.ofInt 3) q5.2) (fun th6 hth6 => ?_)
    refine x_P 35 rfl rfl rfl ?_
    refine x_gN rfl (fun o7 ho7 => ?_)
    refine x_gN rfl (fun o8 ho8 => ?_)
    refine x_P 42 rfl rfl rfl ?_
    refine x_aI rfl ⟨rfl, rfl⟩ (fun x9 hx9 => ?_)
    exact x_retI (x := (x9, th6)) rfl
-- 86 NineTrees$Garden.countOf(I)I
noncomputable def m_86 (a0 : Nat) (a1 : Int32) (th : tH) : Option (Int32) :=
  (gC th 2 a0).bind fun _ =>
  lp (fun (s1 : Int32 × Int32) nx2 ex3 =>
      (gI th 2 a0 5).bind fun x5 =>
      if x5 ≤ s1.2 then
        ex3 s1.1
      else
        (m_85 a0 s1.2 a1 th).bind fun x6 =>
        jn (fun (v7 : Int32) =>
            nx2 (v7, (s1.2 + Int32.ofInt 1))
          ) (fun j8 =>
            if x6 = 0 then
              j8 s1.1
            else
              j8 (s1.1 + Int32.ofInt 1)
          )
    ) 4096 ((Int32.ofInt 0), (Int32.ofInt 0)) (fun (x4 : Int32) =>
      some x4
    )
theorem c_86 {a0 : Nat} {a1 : Int32} {th : tH} {x : (Int32)} (h : m_86 a0 a1 th = some x) : ∃ fs, th[a0]? = some (.inr (2, fs)) := gC_of h
theorem S_86 {L : Nat} (d : Nat) (a0 : Nat) (a1 : Int32) (th : tH) : Wx L (fun x => (some (.int x), th)) (d + 1) 86 4 0 [(0, .ref a0), (1, .int a1)] [] th (m_86 a0 a1 th) := by
  unfold m_86
  refine x_gC ?_
  refine x_P 1 rfl rfl rfl ?_
  refine x_P (lv' := [(2, .int (Int32.ofInt 0)), (0, .ref a0), (1, .int a1)]) 2 rfl rfl rfl ?_
  refine x_P 3 rfl rfl rfl ?_
  refine x_P (lv' := [(3, .int (Int32.ofInt 0)), (2, .int (Int32.ofInt 0)), (0, .ref a0), (1, .int a1)]) 4 rfl rfl rfl ?_
  refine x_lv (lv := [(0, .ref a0), (1, .int a1), (2, .int (Int32.ofInt 0)), (3, .int (Int32.ofInt 0))]) (x_lp 30 (fun s1 => [(0, .ref a0), (1, .int a1), (2, .int s1.1), (3, .int s1.2)]) (fun s1 => th) (fun x4 => [(2, .int x4)]) (fun x4 => th) (fun s1 nx2 hnx2 ex3 hex3 => ?_) (fun x4 => ?_) 4096 ((Int32.ofInt 0), (Int32.ofInt 0))) ⟨rfl, rfl, rfl, rfl, trivial⟩
  · refine x_P 5 rfl rfl rfl ?_
    refine x_P 6 rfl rfl rfl ?_
    refine x_gI rfl (fun x5 hx5 => ?_)
    refine x_ic_ge rfl rfl (fun h10 => ?_) (fun h10 => ?_)
    · exact x_lv (hex3 s1.1) ⟨rfl, trivial⟩
    · refine x_P 13 rfl rfl rfl ?_
      refine x_P 14 rfl rfl rfl ?_
      refine x_P 15 rfl rfl rfl ?_
      refine x_callV rfl rfl rfl rfl rfl ⟨rfl, rfl⟩ (fun x h => c_85 h) (S_85 d a0 s1.2 a1 th) (fun x6 hx6 => ?_)
      refine x_jn 24 (fun v7 => [(0, .ref a0), (1, .int a1), (2, .int v7), (3, .int s1.2)]) (fun v7 => []) (fun v7 => th) (fun v7 => ?_) (fun j8 hj8 => ?_)
      · refine x_P (lv' := [(3, .int (s1.2 + Int32.ofInt 1)), (0, .ref a0), (1, .int a1), (2, .int v7)]) 27 rfl rfl rfl ?_
        refine x_P 4 rfl rfl rfl ?_
        exact x_lv (hnx2 (v7, (s1.2 + Int32.ofInt 1))) ⟨rfl, rfl, rfl, rfl, trivial⟩
      · refine x_if_eq rfl rfl (fun h9 => ?_) (fun h9 => ?_)
        · exact x_lv (hj8 s1.1) ⟨rfl, rfl, rfl, rfl, trivial⟩
        · refine x_P (lv' := [(2, .int (s1.1 + Int32.ofInt 1)), (0, .ref a0), (1, .int a1), (3, .int s1.2)]) 24 rfl rfl rfl ?_
          exact x_lv (hj8 (s1.1 + Int32.ofInt 1)) ⟨rfl, rfl, rfl, rfl, trivial⟩
  · refine x_P 31 rfl rfl rfl ?_
    exact x_retI (x := x4) rfl
-- 51 NineTrees.turn()I
noncomputable def m_51 (a0 : Nat) (th : tH) : Option (Int32 × tH) :=
  (gC th 7 a0).bind fun _ =>
  lp (fun (s1 : Int32 × tH) nx2 ex3 =>
      (gN s1.2 7 a0 0).bind fun o7 =>
      (gI s1.2 2 o7 5).bind fun x8 =>
      if x8 ≤ s1.1 then
        ex3 s1.2
      else
        (gN s1.2 7 a0 0).bind fun o9 =>
        (gN s1.2 2 o9 1).bind fun o10 =>
        (gN s1.2 7 a0 0).bind fun o11 =>
        (gN s1.2 7 a0 0).bind fun o12 =>
        (gN s1.2 2 o12 1).bind fun o13 =>
        (aI s1.2 o13 s1.1).bind fun x14 =>
        (m_75 o11 x14 s1.2).bind fun x15 =>
        (sI s1.2 o10 s1.1 x15).bind fun th16 =>
        nx2 ((s1.1 + Int32.ofInt 1), th16)
    ) 4096 ((Int32.ofInt 0), th) (fun (x4 : tH) =>
      (gN x4 7 a0 0).bind fun o5 =>
      (m_86 o5 (Int32.ofInt 1) x4).bind fun x6 =>
      some (x6, x4)
    )
theorem c_51 {a0 : Nat} {th : tH} {x : (Int32 × tH)} (h : m_51 a0 th = some x) : ∃ fs, th[a0]? = some (.inr (7, fs)) := gC_of h
theorem S_51 {L : Nat} (d : Nat) (a0 : Nat) (th : tH) : Wx L (fun x => (some (.int x.1), x.2)) (d + 2) 51 2 0 [(0, .ref a0)] [] th (m_51 a0 th) := by
  unfold m_51
  refine x_gC ?_
  refine x_P 1 rfl rfl rfl ?_
  refine x_P (lv' := [(1, .int (Int32.ofInt 0)), (0, .ref a0)]) 2 rfl rfl rfl ?_
  refine x_lv (lv := [(0, .ref a0), (1, .int (Int32.ofInt 0))]) (x_lp 44 (fun s1 => [(0, .ref a0), (1, .int s1.1)]) (fun s1 => s1.2) (fun x4 => [(0, .ref a0)]) (fun x4 => x4) (fun s1 nx2 hnx2 ex3 hex3 => ?_) (fun x4 => ?_) 4096 ((Int32.ofInt 0), th)) ⟨rfl, rfl, trivial⟩
  · refine x_P 3 rfl rfl rfl ?_
    refine x_P 4 rfl rfl rfl ?_
    refine x_gN rfl (fun o7 ho7 => ?_)
    refine x_gI rfl (fun x8 hx8 => ?_)
    refine x_ic_ge rfl rfl (fun h17 => ?_) (fun h17 => ?_)
    · exact x_lv (hex3 s1.2) ⟨rfl, trivial⟩
    · refine x_P 14 rfl rfl rfl ?_
      refine x_gN rfl (fun o9 ho9 => ?_)
      refine x_gN rfl (fun o10 ho10 => ?_)
      refine x_P 21 rfl rfl rfl ?_
      refine x_P 22 rfl rfl rfl ?_
      refine x_gN rfl (fun o11 ho11 => ?_)
      refine x_P 26 rfl rfl rfl ?_
      refine x_gN rfl (fun o12 ho12 => ?_)
      refine x_gN rfl (fun o13 ho13 => ?_)
      refine x_P 33 rfl rfl rfl ?_
      refine x_aI rfl ⟨rfl, rfl⟩ (fun x14 hx14 => ?_)
      refine x_callV rfl rfl rfl rfl rfl ⟨rfl, rfl⟩ (fun x h => c_75 h) (S_75 d o11 x14 s1.2) (fun x15 hx15 => ?_)
      refine x_sI rfl ⟨rfl, rfl⟩ (fun th16 hth16 => ?_)
      refine x_P (lv' := [(1, .int (s1.1 + Int32.ofInt 1)), (0, .ref a0)]) 41 rfl rfl rfl ?_
      refine x_P 2 rfl rfl rfl ?_
      exact x_lv (hnx2 ((s1.1 + Int32.ofInt 1), th16)) ⟨rfl, rfl, trivial⟩
  · refine x_P 45 rfl rfl rfl ?_
    refine x_gN rfl (fun o5 ho5 => ?_)
    refine x_P 49 rfl rfl rfl ?_
    refine x_callV rfl rfl rfl rfl rfl ⟨rfl, rfl⟩ (fun x h => c_86 h) (S_86 d o5 (Int32.ofInt 1) x4) (fun x6 hx6 => ?_)
    exact x_retI (x := (x6, x4)) rfl
-- 52 NineTrees.mirror()I
noncomputable def m_52 (a0 : Nat) (th : tH) : Option (Int32 × tH) :=
  (gC th 7 a0).bind fun _ =>
  lp (fun (s1 : Int32 × tH) nx2 ex3 =>
      (gN s1.2 7 a0 0).bind fun o7 =>
      (gI s1.2 2 o7 5).bind fun x8 =>
      if x8 ≤ s1.1 then
        ex3 s1.2
      else
        (gN s1.2 7 a0 0).bind fun o9 =>
        (gN s1.2 2 o9 1).bind fun o10 =>
        (gN s1.2 7 a0 0).bind fun o11 =>
        (gN s1.2 7 a0 0).bind fun o12 =>
        (gN s1.2 2 o12 1).bind fun o13 =>
        (aI s1.2 o13 s1.1).bind fun x14 =>
        (m_76 o11 x14 s1.2).bind fun x15 =>
        (sI s1.2 o10 s1.1 x15).bind fun th16 =>
        nx2 ((s1.1 + Int32.ofInt 1), th16)
    ) 4096 ((Int32.ofInt 0), th) (fun (x4 : tH) =>
      (gN x4 7 a0 0).bind fun o5 =>
      (m_86 o5 (Int32.ofInt 1) x4).bind fun x6 =>
      some (x6, x4)
    )
theorem c_52 {a0 : Nat} {th : tH} {x : (Int32 × tH)} (h : m_52 a0 th = some x) : ∃ fs, th[a0]? = some (.inr (7, fs)) := gC_of h
theorem S_52 {L : Nat} (d : Nat) (a0 : Nat) (th : tH) : Wx L (fun x => (some (.int x.1), x.2)) (d + 2) 52 2 0 [(0, .ref a0)] [] th (m_52 a0 th) := by
  unfold m_52
  refine x_gC ?_
  refine x_P 1 rfl rfl rfl ?_
  refine x_P (lv' := [(1, .int (Int32.ofInt 0)), (0, .ref a0)]) 2 rfl rfl rfl ?_
  refine x_lv (lv := [(0, .ref a0), (1, .int (Int32.ofInt 0))]) (x_lp 44 (fun s1 => [(0, .ref a0), (1, .int s1.1)]) (fun s1 => s1.2) (fun x4 => [(0, .ref a0)]) (fun x4 => x4) (fun s1 nx2 hnx2 ex3 hex3 => ?_) (fun x4 => ?_) 4096 ((Int32.ofInt 0), th)) ⟨rfl, rfl, trivial⟩
  · refine x_P 3 rfl rfl rfl ?_
    refine x_P 4 rfl rfl rfl ?_
    refine x_gN rfl (fun o7 ho7 => ?_)
    refine x_gI rfl (fun x8 hx8 => ?_)
    refine x_ic_ge rfl rfl (fun h17 => ?_) (fun h17 => ?_)
    · exact x_lv (hex3 s1.2) ⟨rfl, trivial⟩
    · refine x_P 14 rfl rfl rfl ?_
      refine x_gN rfl (fun o9 ho9 => ?_)
      refine x_gN rfl (fun o10 ho10 => ?_)
      refine x_P 21 rfl rfl rfl ?_
      refine x_P 22 rfl rfl rfl ?_
      refine x_gN rfl (fun o11 ho11 => ?_)
      refine x_P 26 rfl rfl rfl ?_
      refine x_gN rfl (fun o12 ho12 => ?_)
      refine x_gN rfl (fun o13 ho13 => ?_)
      refine x_P 33 rfl rfl rfl ?_
      refine x_aI rfl ⟨rfl, rfl⟩ (fun x14 hx14 => ?_)
      refine x_callV rfl rfl rfl rfl rfl ⟨rfl, rfl⟩ (fun x h => c_76 h) (S_76 d o11 x14 s1.2) (fun x15 hx15 => ?_)
      refine x_sI rfl ⟨rfl, rfl⟩ (fun th16 hth16 => ?_)
      refine x_P (lv' := [(1, .int (s1.1 + Int32.ofInt 1)), (0, .ref a0)]) 41 rfl rfl rfl ?_
      refine x_P 2 rfl rfl rfl ?_
      exact x_lv (hnx2 ((s1.1 + Int32.ofInt 1), th16)) ⟨rfl, rfl, trivial⟩
  · refine x_P 45 rfl rfl rfl ?_
    refine x_gN rfl (fun o5 ho5 => ?_)
    refine x_P 49 rfl rfl rfl ?_
    refine x_callV rfl rfl rfl rfl rfl ⟨rfl, rfl⟩ (fun x h => c_86 h) (S_86 d o5 (Int32.ofInt 1) x4) (fun x6 hx6 => ?_)
    exact x_retI (x := (x6, x4)) rfl
-- 53 NineTrees.improve()I
noncomputable def m_53 (a0 : Nat) (th : tH) : Option (Int32 × tH) :=
  (gC th 7 a0).bind fun _ =>
  (m_63 a0 th).bind fun q1 =>
  (m_106 q1.1 q1.2).bind fun x2 =>
  (gN q1.2 7 a0 5).bind fun o3 =>
  (gN q1.2 7 a0 0).bind fun o4 =>
  (gN q1.2 7 a0 3).bind fun o5 =>
  (m_117 o3 o4 o5 q1.2).bind fun th6 =>
  (gN th6 7 a0 5).bind fun o7 =>
  (gI th6 3 o7 2).bind fun x8 =>
  jn (fun (v9 : Unit) =>
      some (x2, th6)
    ) (fun j10 =>
      if x8 = (Int32.ofInt (-1)) then
        j10 ()
      else
        (gN th6 7 a0 5).bind fun o11 =>
        (gI th6 3 o11 4).bind fun x12 =>
        if x2 < x12 then
          (gN th6 7 a0 0).bind fun o13 =>
          (gN th6 2 o13 1).bind fun o14 =>
          (gN th6 7 a0 5).bind fun o15 =>
          (gI th6 3 o15 2).bind fun x16 =>
          (gN th6 7 a0 5).bind fun o17 =>
          (gI th6 3 o17 3).bind fun x18 =>
          (sI th6 o14 x16 x18).bind fun th19 =>
          (gN th19 7 a0 5).bind fun o20 =>
          (gI th19 3 o20 4).bind fun x21 =>
          some (x21, th19)
        else
          j10 ()
    )
theorem c_53 {a0 : Nat} {th : tH} {x : (Int32 × tH)} (h : m_53 a0 th = some x) : ∃ fs, th[a0]? = some (.inr (7, fs)) := gC_of h
theorem S_53 {L : Nat} (d : Nat) (a0 : Nat) (th : tH) : Wx L (fun x => (some (.int x.1), x.2)) (d + 5) 53 2 0 [(0, .ref a0)] [] th (m_53 a0 th) := by
  unfold m_53
  refine x_gC ?_
  refine x_P 1 rfl rfl rfl ?_
  refine x_callV rfl rfl rfl rfl rfl ⟨rfl, rfl⟩ (fun x h => c_63 h) (S_63 d a0 th) (fun q1 hq1 => ?_)
  refine x_callV rfl rfl rfl rfl rfl ⟨rfl, rfl⟩ (fun x h => c_106 h) (S_106 (d + 2) q1.1 q1.2) (fun x2 hx2 => ?_)
  refine x_P (lv' := [(1, .int x2), (0, .ref a0)]) 8 rfl rfl rfl ?_
  refine x_P 9 rfl rfl rfl ?_
  refine x_gN rfl (fun o3 ho3 => ?_)
  refine x_P 13 rfl rfl rfl ?_
  refine x_gN rfl (fun o4 ho4 => ?_)
  refine x_P 17 rfl rfl rfl ?_
  refine x_gN rfl (fun o5 ho5 => ?_)
  refine x_callW rfl rfl rfl rfl rfl ⟨rfl, rfl⟩ (fun x h => c_117 h) (S_117 d o3 o4 o5 q1.2) (fun th6 hth6 => ?_)
  refine x_P 24 rfl rfl rfl ?_
  refine x_gN rfl (fun o7 ho7 => ?_)
  refine x_gI rfl (fun x8 hx8 => ?_)
  refine x_P 31 rfl rfl rfl ?_
  refine x_jn 45 (fun v9 => [(1, .int x2)]) (fun v9 => []) (fun v9 => th6) (fun v9 => ?_) (fun j10 hj10 => ?_)
  · refine x_P 46 rfl rfl rfl ?_
    exact x_retI (x := (x2, th6)) rfl
  · refine x_ic_eq rfl rfl (fun h23 => ?_) (fun h23 => ?_)
    · exact x_lv (hj10 ()) ⟨rfl, trivial⟩
    · refine x_P 35 rfl rfl rfl ?_
      refine x_gN rfl (fun o11 ho11 => ?_)
      refine x_gI rfl (fun x12 hx12 => ?_)
      refine x_P 42 rfl rfl rfl ?_
      refine x_ic_gt rfl rfl (fun h22 => ?_) (fun h22 => ?_)
      · refine x_P 48 rfl rfl rfl ?_
        refine x_gN rfl (fun o13 ho13 => ?_)
        refine x_gN rfl (fun o14 ho14 => ?_)
        refine x_P 55 rfl rfl rfl ?_
        refine x_gN rfl (fun o15 ho15 => ?_)
        refine x_gI rfl (fun x16 hx16 => ?_)
        refine x_P 62 rfl rfl rfl ?_
        refine x_gN rfl (fun o17 ho17 => ?_)
        refine x_gI rfl (fun x18 hx18 => ?_)
        refine x_sI rfl ⟨rfl, rfl⟩ (fun th19 hth19 => ?_)
        refine x_P 70 rfl rfl rfl ?_
        refine x_gN rfl (fun o20 ho20 => ?_)
        refine x_gI rfl (fun x21 hx21 => ?_)
        exact x_retI (x := (x21, th19)) rfl
      · exact x_lv (hj10 ()) ⟨rfl, trivial⟩
-- 88 NineTrees$Garden.hasRoom()Z
noncomputable def m_88 (a0 : Nat) (th : tH) : Option (Int32) :=
  (gC th 2 a0).bind fun _ =>
  (gI th 2 a0 5).bind fun x1 =>
  jn (fun (v2 : Int32) =>
      rB v2
    ) (fun j3 =>
      jn (fun (v4 : Unit) =>
          j3 (Int32.ofInt 0)
        ) (fun j5 =>
          if (Int8.ofInt 12).toInt32 ≤ x1 then
            j5 ()
          else
            (gI th 2 a0 5).bind fun x6 =>
            (m_70 a0 th).bind fun x7 =>
            if x7 ≤ x6 then
              j5 ()
            else
              j3 (Int32.ofInt 1)
        )
    )
theorem c_88 {a0 : Nat} {th : tH} {x : (Int32)} (h : m_88 a0 th = some x) : ∃ fs, th[a0]? = some (.inr (2, fs)) := gC_of h
theorem S_88 {L : Nat} (d : Nat) (a0 : Nat) (th : tH) : Wx L (fun x => (some (.int x), th)) (d + 1) 88 1 0 [(0, .ref a0)] [] th (m_88 a0 th) := by
  unfold m_88
  refine x_gC ?_
  refine x_P 1 rfl rfl rfl ?_
  refine x_gI rfl (fun x1 hx1 => ?_)
  refine x_P 6 rfl rfl rfl ?_
  refine x_jn 25 (fun v2 => []) (fun v2 => [.int v2]) (fun v2 => th) (fun v2 => ?_) (fun j3 hj3 => ?_)
  · exact x_rB rfl
  · refine x_jn 24 (fun v4 => []) (fun v4 => []) (fun v4 => th) (fun v4 => ?_) (fun j5 hj5 => ?_)
    · refine x_P 25 rfl rfl rfl ?_
      exact x_lv (hj3 (Int32.ofInt 0)) trivial
    · refine x_ic_ge rfl rfl (fun h9 => ?_) (fun h9 => ?_)
      · exact x_lv (hj5 ()) trivial
      · refine x_P 10 rfl rfl rfl ?_
        refine x_gI rfl (fun x6 hx6 => ?_)
        refine x_P 14 rfl rfl rfl ?_
        refine x_callV rfl rfl rfl rfl rfl ⟨rfl, rfl⟩ (fun x h => c_70 h) (S_70 d a0 th) (fun x7 hx7 => ?_)
        refine x_ic_ge rfl rfl (fun h8 => ?_) (fun h8 => ?_)
        · exact x_lv (hj5 ()) trivial
        · refine x_P 21 rfl rfl rfl ?_
          refine x_P 25 rfl rfl rfl ?_
          exact x_lv (hj3 (Int32.ofInt 1)) trivial
-- 99 NineTrees$Garden.drawBelow(I)I
noncomputable def m_99 (a0 : Nat) (a1 : Int32) (th : tH) : Option (Int32 × tH) :=
  (gC th 2 a0).bind fun _ =>
  (gI th 2 a0 7).bind fun x1 =>
  (pI th 2 a0 7 ((x1 * (Int32.ofNat 1103515245)) + (Int16.ofInt 12345).toInt32)).bind fun th2 =>
  jn (fun (v3 : Int32) =>
      some (v3, th2)
    ) (fun j4 =>
      if (Int32.ofInt 1) ≤ a1 then
        (gI th2 2 a0 7).bind fun x5 =>
        (rmI (Int32.toUInt32 x5 >>> (Int32.toUInt32 (Int8.ofInt 16).toInt32 &&& Int32.toUInt32 31)).toInt32 a1).bind fun x6 =>
        j4 x6
      else
        j4 (Int32.ofInt 0)
    )
theorem c_99 {a0 : Nat} {a1 : Int32} {th : tH} {x : (Int32 × tH)} (h : m_99 a0 a1 th = some x) : ∃ fs, th[a0]? = some (.inr (2, fs)) := gC_of h
theorem S_99 {L : Nat} (d : Nat) (a0 : Nat) (a1 : Int32) (th : tH) : Wx L (fun x => (some (.int x.1), x.2)) (d + 1) 99 2 0 [(0, .ref a0), (1, .int a1)] [] th (m_99 a0 a1 th) := by
  unfold m_99
  refine x_gC ?_
  refine x_P 1 rfl rfl rfl ?_
  refine x_P 2 rfl rfl rfl ?_
  refine x_gI rfl (fun x1 hx1 => ?_)
  refine x_P 7 rfl rfl rfl ?_
  refine x_P 8 rfl rfl rfl ?_
  refine x_P 11 rfl rfl rfl ?_
  refine x_P 12 rfl rfl rfl ?_
  refine x_pI rfl (fun th2 hth2 => ?_)
  refine x_P 16 rfl rfl rfl ?_
  refine x_P 17 rfl rfl rfl ?_
  refine x_jn 33 (fun v3 => []) (fun v3 => [.int v3]) (fun v3 => th2) (fun v3 => ?_) (fun j4 hj4 => ?_)
  · exact x_retI (x := (v3, th2)) rfl
  · refine x_ic_ge rfl rfl (fun h7 => ?_) (fun h7 => ?_)
    · refine x_P 25 rfl rfl rfl ?_
      refine x_gI rfl (fun x5 hx5 => ?_)
      refine x_P 30 rfl rfl rfl ?_
      refine x_P 31 rfl rfl rfl ?_
      refine x_P 32 rfl rfl rfl ?_
      refine x_rm rfl rfl (fun x6 hx6 => ?_)
      exact x_lv (hj4 x6) trivial
    · refine x_P 21 rfl rfl rfl ?_
      refine x_P 33 rfl rfl rfl ?_
      exact x_lv (hj4 (Int32.ofInt 0)) trivial
-- 100 NineTrees$Garden.nextFree(I)I
noncomputable def m_100 (a0 : Nat) (a1 : Int32) (th : tH) : Option (Int32) :=
  (gC th 2 a0).bind fun _ =>
  lp (fun (s1 : Int32 × Int32) nx2 ex3 =>
      (m_70 a0 th).bind fun x5 =>
      if x5 ≤ s1.2 then
        ex3 s1.1
      else
        (m_84 a0 s1.1 th).bind fun x6 =>
        if x6 = 0 then
          (m_70 a0 th).bind fun x7 =>
          jn (fun (v8 : Int32) =>
              nx2 (v8, (s1.2 + Int32.ofInt 1))
            ) (fun j9 =>
              if x7 ≤ (s1.1 + (Int32.ofInt 1)) then
                j9 (Int32.ofInt 0)
              else
                j9 (s1.1 + (Int32.ofInt 1))
            )
        else
          ex3 s1.1
    ) 4096 (a1, (Int32.ofInt 0)) (fun (x4 : Int32) =>
      some x4
    )
theorem c_100 {a0 : Nat} {a1 : Int32} {th : tH} {x : (Int32)} (h : m_100 a0 a1 th = some x) : ∃ fs, th[a0]? = some (.inr (2, fs)) := gC_of h
theorem S_100 {L : Nat} (d : Nat) (a0 : Nat) (a1 : Int32) (th : tH) : Wx L (fun x => (some (.int x), th)) (d + 2) 100 4 0 [(0, .ref a0), (1, .int a1)] [] th (m_100 a0 a1 th) := by
  unfold m_100
  refine x_gC ?_
  refine x_P 1 rfl rfl rfl ?_
  refine x_P (lv' := [(2, .int a1), (0, .ref a0), (1, .int a1)]) 2 rfl rfl rfl ?_
  refine x_P 3 rfl rfl rfl ?_
  refine x_P (lv' := [(3, .int (Int32.ofInt 0)), (2, .int a1), (0, .ref a0), (1, .int a1)]) 4 rfl rfl rfl ?_
  refine x_lv (lv := [(0, .ref a0), (2, .int a1), (3, .int (Int32.ofInt 0))]) (x_lp 44 (fun s1 => [(0, .ref a0), (2, .int s1.1), (3, .int s1.2)]) (fun s1 => th) (fun x4 => [(2, .int x4)]) (fun x4 => th) (fun s1 nx2 hnx2 ex3 hex3 => ?_) (fun x4 => ?_) 4096 (a1, (Int32.ofInt 0))) ⟨rfl, rfl, rfl, trivial⟩
  · refine x_P 5 rfl rfl rfl ?_
    refine x_P 6 rfl rfl rfl ?_
    refine x_callV rfl rfl rfl rfl rfl ⟨rfl, rfl⟩ (fun x h => c_70 h) (S_70 (d + 1) a0 th) (fun x5 hx5 => ?_)
    refine x_ic_ge rfl rfl (fun h12 => ?_) (fun h12 => ?_)
    · exact x_lv (hex3 s1.1) ⟨rfl, trivial⟩
    · refine x_P 13 rfl rfl rfl ?_
      refine x_P 14 rfl rfl rfl ?_
      refine x_callV rfl rfl rfl rfl rfl ⟨rfl, rfl⟩ (fun x h => c_84 h) (S_84 d a0 s1.1 th) (fun x6 hx6 => ?_)
      refine x_if_ne rfl rfl (fun h11 => ?_) (fun h11 => ?_)
      · refine x_P 21 rfl rfl rfl ?_
        refine x_P 22 rfl rfl rfl ?_
        refine x_P 23 rfl rfl rfl ?_
        refine x_P 24 rfl rfl rfl ?_
        refine x_callV rfl rfl rfl rfl rfl ⟨rfl, rfl⟩ (fun x h => c_70 h) (S_70 (d + 1) a0 th) (fun x7 hx7 => ?_)
        refine x_jn 37 (fun v8 => [(0, .ref a0), (3, .int s1.2)]) (fun v8 => [.int v8]) (fun v8 => th) (fun v8 => ?_) (fun j9 hj9 => ?_)
        · refine x_P (lv' := [(2, .int v8), (0, .ref a0), (3, .int s1.2)]) 38 rfl rfl rfl ?_
          refine x_P (lv' := [(3, .int (s1.2 + Int32.ofInt 1)), (2, .int v8), (0, .ref a0)]) 41 rfl rfl rfl ?_
          refine x_P 4 rfl rfl rfl ?_
          exact x_lv (hnx2 (v8, (s1.2 + Int32.ofInt 1))) ⟨rfl, rfl, rfl, trivial⟩
        · refine x_ic_ge rfl rfl (fun h10 => ?_) (fun h10 => ?_)
          · refine x_P 37 rfl rfl rfl ?_
            exact x_lv (hj9 (Int32.ofInt 0)) ⟨rfl, rfl, trivial⟩
          · refine x_P 31 rfl rfl rfl ?_
            refine x_P 32 rfl rfl rfl ?_
            refine x_P 33 rfl rfl rfl ?_
            refine x_P 37 rfl rfl rfl ?_
            exact x_lv (hj9 (s1.1 + (Int32.ofInt 1))) ⟨rfl, rfl, trivial⟩
      · exact x_lv (hex3 s1.1) ⟨rfl, trivial⟩
  · refine x_P 45 rfl rfl rfl ?_
    exact x_retI (x := x4) rfl
-- 101 NineTrees$Garden.addByDraws()V
noncomputable def m_101 (a0 : Nat) (th : tH) : Option tH :=
  (gC th 2 a0).bind fun _ =>
  (m_99 a0 (Int8.ofInt 6).toInt32 th).bind fun q1 =>
  (m_70 a0 q1.2).bind fun x2 =>
  (m_99 a0 x2 q1.2).bind fun q3 =>
  (m_100 a0 q3.1 q3.2).bind fun x4 =>
  (m_99 a0 (Int8.ofInt 10).toInt32 q3.2).bind fun q5 =>
  (m_89 a0 q1.1 x4 q5.1 q5.2).bind fun th6 =>
  some th6
theorem c_101 {a0 : Nat} {th : tH} {x : tH} (h : m_101 a0 th = some x) : ∃ fs, th[a0]? = some (.inr (2, fs)) := gC_of h
theorem S_101 {L : Nat} (d : Nat) (a0 : Nat) (th : tH) : Wx L (fun x => (none, x)) (d + 3) 101 3 0 [(0, .ref a0)] [] th (m_101 a0 th) := by
  unfold m_101
  refine x_gC ?_
  refine x_P 1 rfl rfl rfl ?_
  refine x_P 3 rfl rfl rfl ?_
  refine x_callV rfl rfl rfl rfl rfl ⟨rfl, rfl⟩ (fun x h => c_99 h) (S_99 (d + 1) a0 (Int8.ofInt 6).toInt32 th) (fun q1 hq1 => ?_)
  refine x_P (lv' := [(1, .int q1.1), (0, .ref a0)]) 7 rfl rfl rfl ?_
  refine x_P 8 rfl rfl rfl ?_
  refine x_P 9 rfl rfl rfl ?_
  refine x_P 10 rfl rfl rfl ?_
  refine x_callV rfl rfl rfl rfl rfl ⟨rfl, rfl⟩ (fun x h => c_70 h) (S_70 (d + 2) a0 q1.2) (fun x2 hx2 => ?_)
  refine x_callV rfl rfl rfl rfl rfl ⟨rfl, rfl⟩ (fun x h => c_99 h) (S_99 (d + 1) a0 x2 q1.2) (fun q3 hq3 => ?_)
  refine x_callV rfl rfl rfl rfl rfl ⟨rfl, rfl⟩ (fun x h => c_100 h) (S_100 d a0 q3.1 q3.2) (fun x4 hx4 => ?_)
  refine x_P (lv' := [(2, .int x4), (1, .int q1.1), (0, .ref a0)]) 20 rfl rfl rfl ?_
  refine x_P 21 rfl rfl rfl ?_
  refine x_P 22 rfl rfl rfl ?_
  refine x_P 23 rfl rfl rfl ?_
  refine x_P 24 rfl rfl rfl ?_
  refine x_P 26 rfl rfl rfl ?_
  refine x_callV rfl rfl rfl rfl rfl ⟨rfl, rfl⟩ (fun x h => c_99 h) (S_99 (d + 1) a0 (Int8.ofInt 10).toInt32 q3.2) (fun q5 hq5 => ?_)
  refine x_callW rfl rfl rfl rfl rfl ⟨rfl, rfl⟩ (fun x h => c_89 h) (S_89 (d + 1) a0 q1.1 x4 q5.1 q5.2) (fun th6 hth6 => ?_)
  exact x_retV (x := th6) rfl
-- 54 NineTrees.plant(I)I
noncomputable def m_54 (a0 : Nat) (a1 : Int32) (th : tH) : Option (Int32 × tH) :=
  (gC th 7 a0).bind fun _ =>
  jn (fun (v1 : Unit) =>
      (m_59 a0 (Int8.ofInt (-2)).toInt32 th).bind fun q3 =>
      some (q3.1, q3.2)
    ) (fun j2 =>
      if a1 < (Int32.ofInt 1) then
        j2 ()
      else
        if a1 ≤ (Int8.ofInt 12).toInt32 then
          lp (fun (s4 : Int32 × tH) nx5 ex6 =>
              if a1 ≤ s4.1 then
                ex6 (s4.1, s4.2)
              else
                (gN s4.2 7 a0 0).bind fun o8 =>
                (m_88 o8 s4.2).bind fun x9 =>
                if x9 = 0 then
                  ex6 (s4.1, s4.2)
                else
                  (gN s4.2 7 a0 0).bind fun o10 =>
                  (m_101 o10 s4.2).bind fun th11 =>
                  nx5 ((s4.1 + Int32.ofInt 1), th11)
            ) 4096 ((Int32.ofInt 0), th) (fun (x7 : Int32 × tH) =>
              some (x7.1, x7.2)
            )
        else
          j2 ()
    )
theorem c_54 {a0 : Nat} {a1 : Int32} {th : tH} {x : (Int32 × tH)} (h : m_54 a0 a1 th = some x) : ∃ fs, th[a0]? = some (.inr (7, fs)) := gC_of h
theorem S_54 {L : Nat} (d : Nat) (a0 : Nat) (a1 : Int32) (th : tH) : Wx L (fun x => (some (.int x.1), x.2)) (d + 4) 54 3 0 [(0, .ref a0), (1, .int a1)] [] th (m_54 a0 a1 th) := by
  unfold m_54
  refine x_gC ?_
  refine x_P 1 rfl rfl rfl ?_
  refine x_P 2 rfl rfl rfl ?_
  refine x_jn 11 (fun v1 => [(0, .ref a0)]) (fun v1 => []) (fun v1 => th) (fun v1 => ?_) (fun j2 hj2 => ?_)
  · refine x_P 12 rfl rfl rfl ?_
    refine x_P 14 rfl rfl rfl ?_
    refine x_callV rfl rfl rfl rfl rfl ⟨rfl, rfl⟩ (fun x h => c_59 h) (S_59 (d + 2) a0 (Int8.ofInt (-2)).toInt32 th) (fun q3 hq3 => ?_)
    exact x_retI (x := (q3.1, q3.2)) rfl
  · refine x_ic_lt rfl rfl (fun h15 => ?_) (fun h15 => ?_)
    · exact x_lv (hj2 ()) ⟨rfl, trivial⟩
    · refine x_P 6 rfl rfl rfl ?_
      refine x_P 8 rfl rfl rfl ?_
      refine x_ic_le rfl rfl (fun h14 => ?_) (fun h14 => ?_)
      · refine x_P 19 rfl rfl rfl ?_
        refine x_P (lv' := [(2, .int (Int32.ofInt 0)), (0, .ref a0), (1, .int a1)]) 20 rfl rfl rfl ?_
        refine x_lv (lv := [(0, .ref a0), (1, .int a1), (2, .int (Int32.ofInt 0))]) (x_lp 48 (fun s4 => [(0, .ref a0), (1, .int a1), (2, .int s4.1)]) (fun s4 => s4.2) (fun x7 => [(2, .int x7.1)]) (fun x7 => x7.2) (fun s4 nx5 hnx5 ex6 hex6 => ?_) (fun x7 => ?_) 4096 ((Int32.ofInt 0), th)) ⟨rfl, rfl, rfl, trivial⟩
        · refine x_P 21 rfl rfl rfl ?_
          refine x_P 22 rfl rfl rfl ?_
          refine x_ic_ge rfl rfl (fun h13 => ?_) (fun h13 => ?_)
          · exact x_lv (hex6 (s4.1, s4.2)) ⟨rfl, trivial⟩
          · refine x_P 26 rfl rfl rfl ?_
            refine x_gN rfl (fun o8 ho8 => ?_)
            refine x_callV rfl rfl rfl rfl rfl ⟨rfl, rfl⟩ (fun x h => c_88 h) (S_88 (d + 2) o8 s4.2) (fun x9 hx9 => ?_)
            refine x_if_eq rfl rfl (fun h12 => ?_) (fun h12 => ?_)
            · exact x_lv (hex6 (s4.1, s4.2)) ⟨rfl, trivial⟩
            · refine x_P 36 rfl rfl rfl ?_
              refine x_gN rfl (fun o10 ho10 => ?_)
              refine x_callW rfl rfl rfl rfl rfl ⟨rfl, rfl⟩ (fun x h => c_101 h) (S_101 d o10 s4.2) (fun th11 hth11 => ?_)
              refine x_P (lv' := [(2, .int (s4.1 + Int32.ofInt 1)), (0, .ref a0), (1, .int a1)]) 45 rfl rfl rfl ?_
              refine x_P 20 rfl rfl rfl ?_
              exact x_lv (hnx5 ((s4.1 + Int32.ofInt 1), th11)) ⟨rfl, rfl, rfl, trivial⟩
        · refine x_P 49 rfl rfl rfl ?_
          exact x_retI (x := (x7.1, x7.2)) rfl
      · exact x_lv (hj2 ()) ⟨rfl, trivial⟩
-- 55 NineTrees.seed(I)I
noncomputable def m_55 (a0 : Nat) (a1 : Int32) (th : tH) : Option (Int32 × tH) :=
  (gC th 7 a0).bind fun _ =>
  (gN th 7 a0 0).bind fun o1 =>
  (gI th 2 o1 7).bind fun x2 =>
  (gN th 7 a0 0).bind fun o3 =>
  (pI th 2 o3 7 a1).bind fun th4 =>
  some (x2, th4)
theorem c_55 {a0 : Nat} {a1 : Int32} {th : tH} {x : (Int32 × tH)} (h : m_55 a0 a1 th = some x) : ∃ fs, th[a0]? = some (.inr (7, fs)) := gC_of h
theorem S_55 {L : Nat} (d : Nat) (a0 : Nat) (a1 : Int32) (th : tH) : Wx L (fun x => (some (.int x.1), x.2)) (d + 1) 55 3 0 [(0, .ref a0), (1, .int a1)] [] th (m_55 a0 a1 th) := by
  unfold m_55
  refine x_gC ?_
  refine x_P 1 rfl rfl rfl ?_
  refine x_gN rfl (fun o1 ho1 => ?_)
  refine x_gI rfl (fun x2 hx2 => ?_)
  refine x_P (lv' := [(2, .int x2), (0, .ref a0), (1, .int a1)]) 8 rfl rfl rfl ?_
  refine x_P 9 rfl rfl rfl ?_
  refine x_gN rfl (fun o3 ho3 => ?_)
  refine x_P 13 rfl rfl rfl ?_
  refine x_pI rfl (fun th4 hth4 => ?_)
  refine x_P 17 rfl rfl rfl ?_
  exact x_retI (x := (x2, th4)) rfl
-- 56 NineTrees.image()I
noncomputable def m_56 (a0 : Nat) (th : tH) : Option (Int32 × tH) :=
  (gC th 7 a0).bind fun _ =>
  (gN th 7 a0 2).bind fun o1 =>
  (gN th 7 a0 0).bind fun o2 =>
  (m_69 o1 o2 th).bind fun th3 =>
  (pB th3 7 a0 10 (Int32.ofInt 1)).bind fun th4 =>
  some ((Int32.ofInt 1), th4)
theorem c_56 {a0 : Nat} {th : tH} {x : (Int32 × tH)} (h : m_56 a0 th = some x) : ∃ fs, th[a0]? = some (.inr (7, fs)) := gC_of h
theorem S_56 {L : Nat} (d : Nat) (a0 : Nat) (th : tH) : Wx L (fun x => (some (.int x.1), x.2)) (d + 2) 56 1 0 [(0, .ref a0)] [] th (m_56 a0 th) := by
  unfold m_56
  refine x_gC ?_
  refine x_P 1 rfl rfl rfl ?_
  refine x_gN rfl (fun o1 ho1 => ?_)
  refine x_P 5 rfl rfl rfl ?_
  refine x_gN rfl (fun o2 ho2 => ?_)
  refine x_callW rfl rfl rfl rfl rfl ⟨rfl, rfl⟩ (fun x h => c_69 h) (S_69 d o1 o2 th) (fun th3 hth3 => ?_)
  refine x_P 12 rfl rfl rfl ?_
  refine x_P 13 rfl rfl rfl ?_
  refine x_pB rfl (fun th4 hth4 => ?_)
  refine x_P 17 rfl rfl rfl ?_
  exact x_retI (x := ((Int32.ofInt 1), th4)) rfl
-- 57 NineTrees.back()I
noncomputable def m_57 (a0 : Nat) (th : tH) : Option (Int32 × tH) :=
  (gC th 7 a0).bind fun _ =>
  (gI th 7 a0 10).bind fun x1 =>
  if x1 = 0 then
    (m_59 a0 (Int8.ofInt (-5)).toInt32 th).bind fun q8 =>
    some (q8.1, q8.2)
  else
    (gN th 7 a0 0).bind fun o2 =>
    (gN th 7 a0 2).bind fun o3 =>
    (m_69 o2 o3 th).bind fun th4 =>
    (gN th4 7 a0 0).bind fun o5 =>
    (gI th4 2 o5 5).bind fun x6 =>
    (m_62 a0 x6 th4).bind fun th7 =>
    some ((Int32.ofInt 1), th7)
theorem c_57 {a0 : Nat} {th : tH} {x : (Int32 × tH)} (h : m_57 a0 th = some x) : ∃ fs, th[a0]? = some (.inr (7, fs)) := gC_of h
theorem S_57 {L : Nat} (d : Nat) (a0 : Nat) (th : tH) : Wx L (fun x => (some (.int x.1), x.2)) (d + 3) 57 1 0 [(0, .ref a0)] [] th (m_57 a0 th) := by
  unfold m_57
  refine x_gC ?_
  refine x_P 1 rfl rfl rfl ?_
  refine x_gI rfl (fun x1 hx1 => ?_)
  refine x_if_ne rfl rfl (fun h9 => ?_) (fun h9 => ?_)
  · refine x_P 8 rfl rfl rfl ?_
    refine x_P 10 rfl rfl rfl ?_
    refine x_callV rfl rfl rfl rfl rfl ⟨rfl, rfl⟩ (fun x h => c_59 h) (S_59 (d + 1) a0 (Int8.ofInt (-5)).toInt32 th) (fun q8 hq8 => ?_)
    exact x_retI (x := (q8.1, q8.2)) rfl
  · refine x_P 15 rfl rfl rfl ?_
    refine x_gN rfl (fun o2 ho2 => ?_)
    refine x_P 19 rfl rfl rfl ?_
    refine x_gN rfl (fun o3 ho3 => ?_)
    refine x_callW rfl rfl rfl rfl rfl ⟨rfl, rfl⟩ (fun x h => c_69 h) (S_69 (d + 1) o2 o3 th) (fun th4 hth4 => ?_)
    refine x_P 26 rfl rfl rfl ?_
    refine x_P 27 rfl rfl rfl ?_
    refine x_gN rfl (fun o5 ho5 => ?_)
    refine x_gI rfl (fun x6 hx6 => ?_)
    refine x_callW rfl rfl rfl rfl rfl ⟨rfl, rfl⟩ (fun x h => c_62 h) (S_62 d a0 x6 th4) (fun th7 hth7 => ?_)
    refine x_P 37 rfl rfl rfl ?_
    exact x_retI (x := ((Int32.ofInt 1), th7)) rfl
-- 61 NineTrees.fullShelves()I
noncomputable def m_61 (a0 : Nat) (th : tH) : Option (Int32) :=
  (gC th 7 a0).bind fun _ =>
  lp (fun (s1 : Int32 × Int32) nx2 ex3 =>
      (gN th 7 a0 8).bind fun o5 =>
      (aL th o5).bind fun x6 =>
      if x6 ≤ s1.2 then
        ex3 s1.1
      else
        (m_60 a0 s1.2 th).bind fun r7 =>
        jn (fun (v8 : Int32) =>
            nx2 (v8, (s1.2 + Int32.ofInt 1))
          ) (fun j9 =>
            match r7 with
            | none =>
              j9 s1.1
            | some o10 =>
              (m_150 o10 th).bind fun x11 =>
              jn (fun (v12 : Unit) =>
                  j9 (s1.1 + Int32.ofInt 1)
                ) (fun j13 =>
                  if x11 = 0 then
                    (m_151 o10 th).bind fun x14 =>
                    if x14 = 0 then
                      j9 s1.1
                    else
                      j13 ()
                  else
                    j13 ()
                )
          )
    ) 4096 ((Int32.ofInt 0), (Int32.ofInt 0)) (fun (x4 : Int32) =>
      some x4
    )
theorem c_61 {a0 : Nat} {th : tH} {x : (Int32)} (h : m_61 a0 th = some x) : ∃ fs, th[a0]? = some (.inr (7, fs)) := gC_of h
theorem S_61 {L : Nat} (d : Nat) (a0 : Nat) (th : tH) : Wx L (fun x => (some (.int x), th)) (d + 1) 61 4 0 [(0, .ref a0)] [] th (m_61 a0 th) := by
  unfold m_61
  refine x_gC ?_
  refine x_P 1 rfl rfl rfl ?_
  refine x_P (lv' := [(1, .int (Int32.ofInt 0)), (0, .ref a0)]) 2 rfl rfl rfl ?_
  refine x_P 3 rfl rfl rfl ?_
  refine x_P (lv' := [(2, .int (Int32.ofInt 0)), (1, .int (Int32.ofInt 0)), (0, .ref a0)]) 4 rfl rfl rfl ?_
  refine x_lv (lv := [(0, .ref a0), (1, .int (Int32.ofInt 0)), (2, .int (Int32.ofInt 0))]) (x_lp 46 (fun s1 => [(0, .ref a0), (1, .int s1.1), (2, .int s1.2)]) (fun s1 => th) (fun x4 => [(1, .int x4)]) (fun x4 => th) (fun s1 nx2 hnx2 ex3 hex3 => ?_) (fun x4 => ?_) 4096 ((Int32.ofInt 0), (Int32.ofInt 0))) ⟨rfl, rfl, rfl, trivial⟩
  · refine x_P 5 rfl rfl rfl ?_
    refine x_P 6 rfl rfl rfl ?_
    refine x_gN rfl (fun o5 ho5 => ?_)
    refine x_aL rfl ⟨rfl, rfl⟩ (fun x6 hx6 => ?_)
    refine x_ic_ge rfl rfl (fun h17 => ?_) (fun h17 => ?_)
    · exact x_lv (hex3 s1.1) ⟨rfl, trivial⟩
    · refine x_P 14 rfl rfl rfl ?_
      refine x_P 15 rfl rfl rfl ?_
      refine x_callV rfl rfl rfl rfl rfl ⟨rfl, rfl⟩ (fun x h => c_60 h) (S_60 d a0 s1.2 th) (fun r7 hr7 => ?_)
      refine x_P (lv' := [(3, va_rf r7), (0, .ref a0), (1, .int s1.1), (2, .int s1.2)]) (st' := []) 19 rfl rfl (by rcases r7 with _ | _ <;> rfl) ?_
      refine x_P 20 rfl rfl (t_P_ald_n rfl) ?_
      refine x_jn 40 (fun v8 => [(0, .ref a0), (1, .int v8), (2, .int s1.2)]) (fun v8 => []) (fun v8 => th) (fun v8 => ?_) (fun j9 hj9 => ?_)
      · refine x_P (lv' := [(2, .int (s1.2 + Int32.ofInt 1)), (0, .ref a0), (1, .int v8)]) 43 rfl rfl rfl ?_
        refine x_P 4 rfl rfl rfl ?_
        exact x_lv (hnx2 (v8, (s1.2 + Int32.ofInt 1))) ⟨rfl, rfl, rfl, trivial⟩
      · rcases r7 with _ | o10
        · refine x_P 40 rfl rfl rfl ?_
          exact x_lv (hj9 s1.1) ⟨rfl, rfl, rfl, trivial⟩
        · refine x_P 23 rfl rfl rfl ?_
          refine x_P 24 rfl rfl rfl ?_
          refine x_callV rfl rfl rfl rfl rfl ⟨rfl, rfl⟩ (fun x h => c_150 h) (S_150 d o10 th) (fun x11 hx11 => ?_)
          refine x_jn 37 (fun v12 => [(0, .ref a0), (1, .int s1.1), (2, .int s1.2)]) (fun v12 => []) (fun v12 => th) (fun v12 => ?_) (fun j13 hj13 => ?_)
          · refine x_P (lv' := [(1, .int (s1.1 + Int32.ofInt 1)), (0, .ref a0), (2, .int s1.2)]) 40 rfl rfl rfl ?_
            exact x_lv (hj9 (s1.1 + Int32.ofInt 1)) ⟨rfl, rfl, rfl, trivial⟩
          · refine x_if_ne rfl rfl (fun h16 => ?_) (fun h16 => ?_)
            · refine x_P 31 rfl rfl rfl ?_
              refine x_callV rfl rfl rfl rfl rfl ⟨rfl, rfl⟩ (fun x h => c_151 h) (S_151 d o10 th) (fun x14 hx14 => ?_)
              refine x_if_eq rfl rfl (fun h15 => ?_) (fun h15 => ?_)
              · exact x_lv (hj9 s1.1) ⟨rfl, rfl, rfl, trivial⟩
              · exact x_lv (hj13 ()) ⟨rfl, rfl, rfl, trivial⟩
            · exact x_lv (hj13 ()) ⟨rfl, rfl, rfl, trivial⟩
  · refine x_P 47 rfl rfl rfl ?_
    exact x_retI (x := x4) rfl
end
section
/-! ===== programs ===== -/
-- 58 NineTrees.status(I)I
noncomputable def m_58 (a0 : Nat) (a1 : Int32) (th : tH) : Option (Int32 × tH) :=
  (gC th 7 a0).bind fun _ =>
  if a1 < 0 ∨ 9 < a1 then
    jn (fun (v2 : Int32) =>
        some (v2, th)
      ) (fun j3 =>
        jn (fun (v4 : Unit) =>
            j3 (Int32.ofInt (-1))
          ) (fun j5 =>
            if a1 < (Int8.ofInt 12).toInt32 then
              j5 ()
            else
              if (Int8.ofInt 16).toInt32 < a1 then
                j5 ()
              else
                (gN th 7 a0 9).bind fun o6 =>
                (aI th o6 (a1 - (Int8.ofInt 12).toInt32)).bind fun x7 =>
                j3 x7
          )
      )
  else if a1 = 0 then
    (gN th 7 a0 0).bind fun o11 =>
    (gI th 2 o11 4).bind fun x12 =>
    some (x12, th)
  else if a1 = 1 then
    (gN th 7 a0 0).bind fun o14 =>
    (gI th 2 o14 5).bind fun x15 =>
    some (x15, th)
  else if a1 = 2 then
    (m_63 a0 th).bind fun q17 =>
    (gI q17.2 4 q17.1 1).bind fun x18 =>
    some (x18, q17.2)
  else if a1 = 3 then
    (gN th 7 a0 0).bind fun o20 =>
    (m_86 o20 (Int32.ofInt 4) th).bind fun x21 =>
    some (x21, th)
  else if a1 = 4 then
    (gN th 7 a0 0).bind fun o23 =>
    (m_86 o23 (Int32.ofInt 1) th).bind fun x24 =>
    some (x24, th)
  else if a1 = 5 then
    (gN th 7 a0 0).bind fun o26 =>
    (gI th 2 o26 6).bind fun x27 =>
    some (x27, th)
  else if a1 = 6 then
    (gN th 7 a0 7).bind fun o29 =>
    (gI th 6 o29 1).bind fun x30 =>
    some (x30, th)
  else if a1 = 7 then
    (gN th 7 a0 0).bind fun o32 =>
    (gI th 2 o32 7).bind fun x33 =>
    some (x33, th)
  else if a1 = 8 then
    (m_61 a0 th).bind fun x35 =>
    some (x35, th)
  else if a1 = 9 then
    (m_63 a0 th).bind fun q37 =>
    (m_106 q37.1 q37.2).bind fun x38 =>
    some (x38, q37.2)
  else
    none
theorem c_58 {a0 : Nat} {a1 : Int32} {th : tH} {x : (Int32 × tH)} (h : m_58 a0 a1 th = some x) : ∃ fs, th[a0]? = some (.inr (7, fs)) := gC_of h
theorem S_58 {L : Nat} (d : Nat) (a0 : Nat) (a1 : Int32) (th : tH) : Wx L (fun x => (some (.int x.1), x.2)) (d + 5) 58 2 0 [(0, .ref a0), (1, .int a1)] [] th (m_58 a0 a1 th) := by
  unfold m_58
  refine x_gC ?_
  refine x_P 1 rfl rfl rfl ?_
  refine x_ite (fun h1 => ?_) (fun h1 => ?_)
  · refine x_P 135 rfl rfl (x_td h1 (by decide +kernel)) ?_
    refine x_P 136 rfl rfl rfl ?_
    refine x_P 138 rfl rfl rfl ?_
    refine x_jn 160 (fun v2 => []) (fun v2 => [.int v2]) (fun v2 => th) (fun v2 => ?_) (fun j3 hj3 => ?_)
    · exact x_retI (x := (v2, th)) rfl
    · refine x_jn 159 (fun v4 => []) (fun v4 => []) (fun v4 => th) (fun v4 => ?_) (fun j5 hj5 => ?_)
      · refine x_P 160 rfl rfl rfl ?_
        exact x_lv (hj3 (Int32.ofInt (-1))) trivial
      · refine x_ic_lt rfl rfl (fun h9 => ?_) (fun h9 => ?_)
        · exact x_lv (hj5 ()) trivial
        · refine x_P 142 rfl rfl rfl ?_
          refine x_P 144 rfl rfl rfl ?_
          refine x_ic_gt rfl rfl (fun h8 => ?_) (fun h8 => ?_)
          · exact x_lv (hj5 ()) trivial
          · refine x_P 148 rfl rfl rfl ?_
            refine x_gN rfl (fun o6 ho6 => ?_)
            refine x_P 152 rfl rfl rfl ?_
            refine x_P 154 rfl rfl rfl ?_
            refine x_P 155 rfl rfl rfl ?_
            refine x_aI rfl ⟨rfl, rfl⟩ (fun x7 hx7 => ?_)
            refine x_P 160 rfl rfl rfl ?_
            exact x_lv (hj3 x7) trivial
  · skip
    refine x_ite (fun h10 => ?_) (fun h10 => ?_)
    · refine x_P 56 rfl rfl (x_ts h10 (by decide +kernel)) ?_
      refine x_P 57 rfl rfl rfl ?_
      refine x_gN rfl (fun o11 ho11 => ?_)
      refine x_gI rfl (fun x12 hx12 => ?_)
      exact x_retI (x := (x12, th)) rfl
    · skip
      refine x_ite (fun h13 => ?_) (fun h13 => ?_)
      · refine x_P 64 rfl rfl (x_ts h13 (by decide +kernel)) ?_
        refine x_P 65 rfl rfl rfl ?_
        refine x_gN rfl (fun o14 ho14 => ?_)
        refine x_gI rfl (fun x15 hx15 => ?_)
        exact x_retI (x := (x15, th)) rfl
      · skip
        refine x_ite (fun h16 => ?_) (fun h16 => ?_)
        · refine x_P 72 rfl rfl (x_ts h16 (by decide +kernel)) ?_
          refine x_P 73 rfl rfl rfl ?_
          refine x_callV rfl rfl rfl rfl rfl ⟨rfl, rfl⟩ (fun x h => c_63 h) (S_63 d a0 th) (fun q17 hq17 => ?_)
          refine x_gI rfl (fun x18 hx18 => ?_)
          exact x_retI (x := (x18, q17.2)) rfl
        · skip
          refine x_ite (fun h19 => ?_) (fun h19 => ?_)
          · refine x_P 80 rfl rfl (x_ts h19 (by decide +kernel)) ?_
            refine x_P 81 rfl rfl rfl ?_
            refine x_gN rfl (fun o20 ho20 => ?_)
            refine x_P 85 rfl rfl rfl ?_
            refine x_callV rfl rfl rfl rfl rfl ⟨rfl, rfl⟩ (fun x h => c_86 h) (S_86 (d + 3) o20 (Int32.ofInt 4) th) (fun x21 hx21 => ?_)
            exact x_retI (x := (x21, th)) rfl
          · skip
            refine x_ite (fun h22 => ?_) (fun h22 => ?_)
            · refine x_P 89 rfl rfl (x_ts h22 (by decide +kernel)) ?_
              refine x_P 90 rfl rfl rfl ?_
              refine x_gN rfl (fun o23 ho23 => ?_)
              refine x_P 94 rfl rfl rfl ?_
              refine x_callV rfl rfl rfl rfl rfl ⟨rfl, rfl⟩ (fun x h => c_86 h) (S_86 (d + 3) o23 (Int32.ofInt 1) th) (fun x24 hx24 => ?_)
              exact x_retI (x := (x24, th)) rfl
            · skip
              refine x_ite (fun h25 => ?_) (fun h25 => ?_)
              · refine x_P 98 rfl rfl (x_ts h25 (by decide +kernel)) ?_
                refine x_P 99 rfl rfl rfl ?_
                refine x_gN rfl (fun o26 ho26 => ?_)
                refine x_gI rfl (fun x27 hx27 => ?_)
                exact x_retI (x := (x27, th)) rfl
              · skip
                refine x_ite (fun h28 => ?_) (fun h28 => ?_)
                · refine x_P 106 rfl rfl (x_ts h28 (by decide +kernel)) ?_
                  refine x_P 107 rfl rfl rfl ?_
                  refine x_gN rfl (fun o29 ho29 => ?_)
                  refine x_gI rfl (fun x30 hx30 => ?_)
                  exact x_retI (x := (x30, th)) rfl
                · skip
                  refine x_ite (fun h31 => ?_) (fun h31 => ?_)
                  · refine x_P 114 rfl rfl (x_ts h31 (by decide +kernel)) ?_
                    refine x_P 115 rfl rfl rfl ?_
                    refine x_gN rfl (fun o32 ho32 => ?_)
                    refine x_gI rfl (fun x33 hx33 => ?_)
                    exact x_retI (x := (x33, th)) rfl
                  · skip
                    refine x_ite (fun h34 => ?_) (fun h34 => ?_)
                    · refine x_P 122 rfl rfl (x_ts h34 (by decide +kernel)) ?_
                      refine x_P 123 rfl rfl rfl ?_
                      refine x_callV rfl rfl rfl rfl rfl ⟨rfl, rfl⟩ (fun x h => c_61 h) (S_61 (d + 3) a0 th) (fun x35 hx35 => ?_)
                      exact x_retI (x := (x35, th)) rfl
                    · skip
                      refine x_ite (fun h36 => ?_) (fun h36 => ?_)
                      · refine x_P 127 rfl rfl (x_ts h36 (by decide +kernel)) ?_
                        refine x_P 128 rfl rfl rfl ?_
                        refine x_callV rfl rfl rfl rfl rfl ⟨rfl, rfl⟩ (fun x h => c_63 h) (S_63 d a0 th) (fun q37 hq37 => ?_)
                        refine x_callV rfl rfl rfl rfl rfl ⟨rfl, rfl⟩ (fun x h => c_106 h) (S_106 (d + 2) q37.1 q37.2) (fun x38 hx38 => ?_)
                        exact x_retI (x := (x38, q37.2)) rfl
                      · skip
                        exact x_none
-- 184 java/lang/StringUTF16.getChar([BI)C
noncomputable def m_184 (a0 : Nat) (a1 : Int32) (th : tH) : Option (Int32) :=
  none
theorem S_184 {L : Nat} (d : Nat) (a0 : Nat) (a1 : Int32) (th : tH) : Wx L (fun x => (some (.int x), th)) d 184 2 0 [(0, .ref a0), (1, .int a1)] [] th (m_184 a0 a1 th) := by
  unfold m_184
  exact x_none
-- 185 java/lang/StringUTF16.length([B)I
noncomputable def m_185 (a0 : Nat) (th : tH) : Option (Int32) :=
  (aL th a0).bind fun x1 =>
  some (x1 >>> ((Int32.ofInt 1) &&& 31))
theorem S_185 {L : Nat} (d : Nat) (a0 : Nat) (th : tH) : Wx L (fun x => (some (.int x), th)) d 185 1 0 [(0, .ref a0)] [] th (m_185 a0 th) := by
  unfold m_185
  refine x_P 1 rfl rfl rfl ?_
  refine x_aL rfl ⟨rfl, rfl⟩ (fun x1 hx1 => ?_)
  refine x_P 3 rfl rfl rfl ?_
  refine x_P 4 rfl rfl rfl ?_
  exact x_retI (x := (x1 >>> ((Int32.ofInt 1) &&& 31))) rfl
-- 186 java/lang/StringUTF16.charAt([BI)C
noncomputable def m_186 (a0 : Nat) (a1 : Int32) (th : tH) : Option (Int32) :=
  none
theorem S_186 {L : Nat} (d : Nat) (a0 : Nat) (a1 : Int32) (th : tH) : Wx L (fun x => (some (.int x), th)) d 186 2 0 [(0, .ref a0), (1, .int a1)] [] th (m_186 a0 a1 th) := by
  unfold m_186
  refine x_P 1 rfl rfl rfl ?_
  refine x_P 2 rfl rfl rfl ?_
  exact x_none
-- 187 java/lang/StringUTF16.checkIndex(I[B)V
noncomputable def m_187 (a0 : Int32) (a1 : Nat) (th : tH) : Option Unit :=
  none
theorem S_187 {L : Nat} (d : Nat) (a0 : Int32) (a1 : Nat) (th : tH) : Wx L (fun _ => (none, th)) (d + 2) 187 2 0 [(0, .int a0), (1, .ref a1)] [] th (m_187 a0 a1 th) := by
  unfold m_187
  refine x_P 1 rfl rfl rfl ?_
  refine x_P 2 rfl rfl rfl ?_
  exact x_none
-- 189 NineTreesModel.refuse(I)I
noncomputable def m_189 (a0 : Nat) (a1 : Int32) (th : tH) : Option (Int32 × tH) :=
  (gC th 8 a0).bind fun _ =>
  (gN th 8 a0 8).bind fun o1 =>
  (aI th o1 (-a1)).bind fun x2 =>
  (sI th o1 (-a1) (x2 + (Int32.ofInt 1))).bind fun th3 =>
  some (a1, th3)
theorem c_189 {a0 : Nat} {a1 : Int32} {th : tH} {x : (Int32 × tH)} (h : m_189 a0 a1 th = some x) : ∃ fs, th[a0]? = some (.inr (8, fs)) := gC_of h
theorem S_189 {L : Nat} (d : Nat) (a0 : Nat) (a1 : Int32) (th : tH) : Wx L (fun x => (some (.int x.1), x.2)) (d + 1) 189 2 0 [(0, .ref a0), (1, .int a1)] [] th (m_189 a0 a1 th) := by
  unfold m_189
  refine x_gC ?_
  refine x_P 1 rfl rfl rfl ?_
  refine x_gN rfl (fun o1 ho1 => ?_)
  refine x_P 5 rfl rfl rfl ?_
  refine x_P 6 rfl rfl rfl ?_
  refine x_P 7 rfl rfl rfl ?_
  refine x_aI rfl ⟨rfl, rfl⟩ (fun x2 hx2 => ?_)
  refine x_P 9 rfl rfl rfl ?_
  refine x_P 10 rfl rfl rfl ?_
  refine x_sI rfl ⟨rfl, rfl⟩ (fun th3 hth3 => ?_)
  refine x_P 12 rfl rfl rfl ?_
  exact x_retI (x := (a1, th3)) rfl
-- 190 NineTreesModel.in(JJJ)Z
noncomputable def m_190 (a0 : Int64) (a1 : Int64) (a2 : Int64) (th : tH) : Option (Int32) :=
  jn (fun (v1 : Int32) =>
      rB v1
    ) (fun j2 =>
      jn (fun (v3 : Unit) =>
          j2 (Int32.ofInt 0)
        ) (fun j4 =>
          if (lg_cmp a0 a1) < 0 then
            j4 ()
          else
            if 0 < (lg_cmp a0 a2) then
              j4 ()
            else
              j2 (Int32.ofInt 1)
        )
    )
theorem S_190 {L : Nat} (d : Nat) (a0 : Int64) (a1 : Int64) (a2 : Int64) (th : tH) : Wx L (fun x => (some (.int x), th)) d 190 6 0 [(0, .long a0), (2, .long a1), (4, .long a2)] [] th (m_190 a0 a1 a2 th) := by
  unfold m_190
  refine x_P 1 rfl rfl rfl ?_
  refine x_P 2 rfl rfl rfl ?_
  refine x_P 3 rfl rfl rfl ?_
  refine x_jn 18 (fun v1 => []) (fun v1 => [.int v1]) (fun v1 => th) (fun v1 => ?_) (fun j2 hj2 => ?_)
  · exact x_rB rfl
  · refine x_jn 17 (fun v3 => []) (fun v3 => []) (fun v3 => th) (fun v3 => ?_) (fun j4 hj4 => ?_)
    · refine x_P 18 rfl rfl rfl ?_
      exact x_lv (hj2 (Int32.ofInt 0)) trivial
    · refine x_if_lt rfl rfl (fun h6 => ?_) (fun h6 => ?_)
      · exact x_lv (hj4 ()) trivial
      · refine x_P 7 rfl rfl rfl ?_
        refine x_P 9 rfl rfl rfl ?_
        refine x_P 10 rfl rfl rfl ?_
        refine x_if_gt rfl rfl (fun h5 => ?_) (fun h5 => ?_)
        · exact x_lv (hj4 ()) trivial
        · refine x_P 14 rfl rfl rfl ?_
          refine x_P 18 rfl rfl rfl ?_
          exact x_lv (hj2 (Int32.ofInt 1)) trivial
-- 191 NineTreesModel.isTree(I)Z
noncomputable def m_191 (a0 : Nat) (a1 : Int32) (th : tH) : Option (Int32) :=
  (gC th 8 a0).bind fun _ =>
  (gI th 8 a0 10).bind fun x1 =>
  (m_190 (Int32.toInt64 a1) (Int64.ofNat 0) (Int32.toInt64 (x1 - (Int32.ofInt 1))) th).bind fun x2 =>
  rB x2
theorem c_191 {a0 : Nat} {a1 : Int32} {th : tH} {x : (Int32)} (h : m_191 a0 a1 th = some x) : ∃ fs, th[a0]? = some (.inr (8, fs)) := gC_of h
theorem S_191 {L : Nat} (d : Nat) (a0 : Nat) (a1 : Int32) (th : tH) : Wx L (fun x => (some (.int x), th)) (d + 1) 191 2 0 [(0, .ref a0), (1, .int a1)] [] th (m_191 a0 a1 th) := by
  unfold m_191
  refine x_gC ?_
  refine x_P 1 rfl rfl rfl ?_
  refine x_P 2 rfl rfl rfl ?_
  refine x_P 3 rfl rfl rfl ?_
  refine x_P 4 rfl rfl rfl ?_
  refine x_gI rfl (fun x1 hx1 => ?_)
  refine x_P 8 rfl rfl rfl ?_
  refine x_P 9 rfl rfl rfl ?_
  refine x_P 10 rfl rfl rfl ?_
  refine x_callS rfl rfl rfl rfl rfl rfl ⟨rfl, rfl⟩ (S_190 d (Int32.toInt64 a1) (Int64.ofNat 0) (Int32.toInt64 (x1 - (Int32.ofInt 1))) th) (fun x2 hx2 => ?_)
  exact x_rB rfl
-- 192 NineTreesModel.cells()I
noncomputable def m_192 (a0 : Nat) (th : tH) : Option (Int32) :=
  (gC th 8 a0).bind fun _ =>
  (gI th 8 a0 9).bind fun x1 =>
  (gI th 8 a0 9).bind fun x2 =>
  some (x1 * x2)
theorem c_192 {a0 : Nat} {th : tH} {x : (Int32)} (h : m_192 a0 th = some x) : ∃ fs, th[a0]? = some (.inr (8, fs)) := gC_of h
theorem S_192 {L : Nat} (d : Nat) (a0 : Nat) (th : tH) : Wx L (fun x => (some (.int x), th)) d 192 1 0 [(0, .ref a0)] [] th (m_192 a0 th) := by
  unfold m_192
  refine x_gC ?_
  refine x_P 1 rfl rfl rfl ?_
  refine x_gI rfl (fun x1 hx1 => ?_)
  refine x_P 5 rfl rfl rfl ?_
  refine x_gI rfl (fun x2 hx2 => ?_)
  refine x_P 9 rfl rfl rfl ?_
  exact x_retI (x := (x1 * x2)) rfl
-- 193 NineTreesModel.isCell(I)Z
noncomputable def m_193 (a0 : Nat) (a1 : Int32) (th : tH) : Option (Int32) :=
  (gC th 8 a0).bind fun _ =>
  (m_192 a0 th).bind fun x1 =>
  (m_190 (Int32.toInt64 a1) (Int64.ofNat 0) (Int32.toInt64 (x1 - (Int32.ofInt 1))) th).bind fun x2 =>
  rB x2
theorem c_193 {a0 : Nat} {a1 : Int32} {th : tH} {x : (Int32)} (h : m_193 a0 a1 th = some x) : ∃ fs, th[a0]? = some (.inr (8, fs)) := gC_of h
theorem S_193 {L : Nat} (d : Nat) (a0 : Nat) (a1 : Int32) (th : tH) : Wx L (fun x => (some (.int x), th)) (d + 1) 193 2 0 [(0, .ref a0), (1, .int a1)] [] th (m_193 a0 a1 th) := by
  unfold m_193
  refine x_gC ?_
  refine x_P 1 rfl rfl rfl ?_
  refine x_P 2 rfl rfl rfl ?_
  refine x_P 3 rfl rfl rfl ?_
  refine x_P 4 rfl rfl rfl ?_
  refine x_callV rfl rfl rfl rfl rfl ⟨rfl, rfl⟩ (fun x h => c_192 h) (S_192 d a0 th) (fun x1 hx1 => ?_)
  refine x_P 8 rfl rfl rfl ?_
  refine x_P 9 rfl rfl rfl ?_
  refine x_P 10 rfl rfl rfl ?_
  refine x_callS rfl rfl rfl rfl rfl rfl ⟨rfl, rfl⟩ (S_190 d (Int32.toInt64 a1) (Int64.ofNat 0) (Int32.toInt64 (x1 - (Int32.ofInt 1))) th) (fun x2 hx2 => ?_)
  exact x_rB rfl
-- 194 NineTreesModel.inCell(I)I
noncomputable def m_194 (a0 : Nat) (a1 : Int32) (th : tH) : Option (Int32) :=
  (gC th 8 a0).bind fun _ =>
  lp (fun (s1 : Int32) nx2 ex3 =>
      (gI th 8 a0 10).bind fun x5 =>
      if x5 ≤ s1 then
        ex3 ()
      else
        (gN th 8 a0 12).bind fun o6 =>
        (aI th o6 s1).bind fun x7 =>
        if x7 = a1 then
          some s1
        else
          nx2 (s1 + Int32.ofInt 1)
    ) 4096 (Int32.ofInt 0) (fun (x4 : Unit) =>
      some (Int32.ofInt (-1))
    )
theorem c_194 {a0 : Nat} {a1 : Int32} {th : tH} {x : (Int32)} (h : m_194 a0 a1 th = some x) : ∃ fs, th[a0]? = some (.inr (8, fs)) := gC_of h
theorem S_194 {L : Nat} (d : Nat) (a0 : Nat) (a1 : Int32) (th : tH) : Wx L (fun x => (some (.int x), th)) d 194 3 0 [(0, .ref a0), (1, .int a1)] [] th (m_194 a0 a1 th) := by
  unfold m_194
  refine x_gC ?_
  refine x_P 1 rfl rfl rfl ?_
  refine x_P (lv' := [(2, .int (Int32.ofInt 0)), (0, .ref a0), (1, .int a1)]) 2 rfl rfl rfl ?_
  refine x_lv (lv := [(0, .ref a0), (1, .int a1), (2, .int (Int32.ofInt 0))]) (x_lp 28 (fun s1 => [(0, .ref a0), (1, .int a1), (2, .int s1)]) (fun s1 => th) (fun x4 => []) (fun x4 => th) (fun s1 nx2 hnx2 ex3 hex3 => ?_) (fun x4 => ?_) 4096 (Int32.ofInt 0)) ⟨rfl, rfl, rfl, trivial⟩
  · refine x_P 3 rfl rfl rfl ?_
    refine x_P 4 rfl rfl rfl ?_
    refine x_gI rfl (fun x5 hx5 => ?_)
    refine x_ic_ge rfl rfl (fun h9 => ?_) (fun h9 => ?_)
    · exact x_lv (hex3 ()) trivial
    · refine x_P 11 rfl rfl rfl ?_
      refine x_gN rfl (fun o6 ho6 => ?_)
      refine x_P 15 rfl rfl rfl ?_
      refine x_aI rfl ⟨rfl, rfl⟩ (fun x7 hx7 => ?_)
      refine x_P 17 rfl rfl rfl ?_
      refine x_ic_ne rfl rfl (fun h8 => ?_) (fun h8 => ?_)
      · refine x_P 21 rfl rfl rfl ?_
        exact x_retI (x := s1) rfl
      · refine x_P (lv' := [(2, .int (s1 + Int32.ofInt 1)), (0, .ref a0), (1, .int a1)]) 25 rfl rfl rfl ?_
        refine x_P 2 rfl rfl rfl ?_
        exact x_lv (hnx2 (s1 + Int32.ofInt 1)) ⟨rfl, rfl, rfl, trivial⟩
  · refine x_P 29 rfl rfl rfl ?_
    exact x_retI (x := (Int32.ofInt (-1))) rfl
-- 195 NineTreesModel.has(II)Z
noncomputable def m_195 (a0 : Int32) (a1 : Int32) (th : tH) : Option (Int32) :=
  jn (fun (v1 : Int32) =>
      rB v1
    ) (fun j2 =>
      if ((a0 >>> (a1 &&& 31)) &&& (Int32.ofInt 1)) = 0 then
        j2 (Int32.ofInt 0)
      else
        j2 (Int32.ofInt 1)
    )
theorem S_195 {L : Nat} (d : Nat) (a0 : Int32) (a1 : Int32) (th : tH) : Wx L (fun x => (some (.int x), th)) d 195 2 0 [(0, .int a0), (1, .int a1)] [] th (m_195 a0 a1 th) := by
  unfold m_195
  refine x_P 1 rfl rfl rfl ?_
  refine x_P 2 rfl rfl rfl ?_
  refine x_P 3 rfl rfl rfl ?_
  refine x_P 4 rfl rfl rfl ?_
  refine x_P 5 rfl rfl rfl ?_
  refine x_jn 13 (fun v1 => []) (fun v1 => [.int v1]) (fun v1 => th) (fun v1 => ?_) (fun j2 hj2 => ?_)
  · exact x_rB rfl
  · refine x_if_eq rfl rfl (fun h3 => ?_) (fun h3 => ?_)
    · refine x_P 13 rfl rfl rfl ?_
      exact x_lv (hj2 (Int32.ofInt 0)) trivial
    · refine x_P 9 rfl rfl rfl ?_
      refine x_P 13 rfl rfl rfl ?_
      exact x_lv (hj2 (Int32.ofInt 1)) trivial
-- 196 NineTreesModel.bits(I)I
noncomputable def m_196 (a0 : Int32) (th : tH) : Option (Int32) :=
  lp (fun (s1 : Int32 × Int32) nx2 ex3 =>
      if (Int8.ofInt 12).toInt32 ≤ s1.2 then
        ex3 s1.1
      else
        nx2 ((s1.1 + ((a0 >>> (s1.2 &&& 31)) &&& (Int32.ofInt 1))), (s1.2 + Int32.ofInt 1))
    ) 4096 ((Int32.ofInt 0), (Int32.ofInt 0)) (fun (x4 : Int32) =>
      some x4
    )
theorem S_196 {L : Nat} (d : Nat) (a0 : Int32) (th : tH) : Wx L (fun x => (some (.int x), th)) d 196 3 0 [(0, .int a0)] [] th (m_196 a0 th) := by
  unfold m_196
  refine x_P 1 rfl rfl rfl ?_
  refine x_P (lv' := [(1, .int (Int32.ofInt 0)), (0, .int a0)]) 2 rfl rfl rfl ?_
  refine x_P 3 rfl rfl rfl ?_
  refine x_P (lv' := [(2, .int (Int32.ofInt 0)), (1, .int (Int32.ofInt 0)), (0, .int a0)]) 4 rfl rfl rfl ?_
  refine x_lv (lv := [(0, .int a0), (1, .int (Int32.ofInt 0)), (2, .int (Int32.ofInt 0))]) (x_lp 24 (fun s1 => [(0, .int a0), (1, .int s1.1), (2, .int s1.2)]) (fun s1 => th) (fun x4 => [(1, .int x4)]) (fun x4 => th) (fun s1 nx2 hnx2 ex3 hex3 => ?_) (fun x4 => ?_) 4096 ((Int32.ofInt 0), (Int32.ofInt 0))) ⟨rfl, rfl, rfl, trivial⟩
  · refine x_P 5 rfl rfl rfl ?_
    refine x_P 7 rfl rfl rfl ?_
    refine x_ic_ge rfl rfl (fun h5 => ?_) (fun h5 => ?_)
    · exact x_lv (hex3 s1.1) ⟨rfl, trivial⟩
    · refine x_P 11 rfl rfl rfl ?_
      refine x_P 12 rfl rfl rfl ?_
      refine x_P 13 rfl rfl rfl ?_
      refine x_P 14 rfl rfl rfl ?_
      refine x_P 15 rfl rfl rfl ?_
      refine x_P 16 rfl rfl rfl ?_
      refine x_P 17 rfl rfl rfl ?_
      refine x_P (lv' := [(1, .int (s1.1 + ((a0 >>> (s1.2 &&& 31)) &&& (Int32.ofInt 1)))), (0, .int a0), (2, .int s1.2)]) 18 rfl rfl rfl ?_
      refine x_P (lv' := [(2, .int (s1.2 + Int32.ofInt 1)), (1, .int (s1.1 + ((a0 >>> (s1.2 &&& 31)) &&& (Int32.ofInt 1)))), (0, .int a0)]) 21 rfl rfl rfl ?_
      refine x_P 4 rfl rfl rfl ?_
      exact x_lv (hnx2 ((s1.1 + ((a0 >>> (s1.2 &&& 31)) &&& (Int32.ofInt 1))), (s1.2 + Int32.ofInt 1))) ⟨rfl, rfl, rfl, trivial⟩
  · refine x_P 25 rfl rfl rfl ?_
    exact x_retI (x := x4) rfl
-- 197 NineTreesModel.isFirm(I)Z
noncomputable def m_197 (a0 : Nat) (a1 : Int32) (th : tH) : Option (Int32) :=
  (gC th 8 a0).bind fun _ =>
  (gN th 8 a0 11).bind fun o1 =>
  (aI th o1 a1).bind fun x2 =>
  jn (fun (v3 : Int32) =>
      rB v3
    ) (fun j4 =>
      jn (fun (v5 : Unit) =>
          j4 (Int32.ofInt 1)
        ) (fun j6 =>
          if x2 = (Int32.ofInt 1) then
            j6 ()
          else
            (gN th 8 a0 11).bind fun o7 =>
            (aI th o7 a1).bind fun x8 =>
            if x8 = (Int32.ofInt 3) then
              j6 ()
            else
              j4 (Int32.ofInt 0)
        )
    )
theorem c_197 {a0 : Nat} {a1 : Int32} {th : tH} {x : (Int32)} (h : m_197 a0 a1 th = some x) : ∃ fs, th[a0]? = some (.inr (8, fs)) := gC_of h
theorem S_197 {L : Nat} (d : Nat) (a0 : Nat) (a1 : Int32) (th : tH) : Wx L (fun x => (some (.int x), th)) d 197 2 0 [(0, .ref a0), (1, .int a1)] [] th (m_197 a0 a1 th) := by
  unfold m_197
  refine x_gC ?_
  refine x_P 1 rfl rfl rfl ?_
  refine x_gN rfl (fun o1 ho1 => ?_)
  refine x_P 5 rfl rfl rfl ?_
  refine x_aI rfl ⟨rfl, rfl⟩ (fun x2 hx2 => ?_)
  refine x_P 7 rfl rfl rfl ?_
  refine x_jn 25 (fun v3 => []) (fun v3 => [.int v3]) (fun v3 => th) (fun v3 => ?_) (fun j4 hj4 => ?_)
  · exact x_rB rfl
  · refine x_jn 20 (fun v5 => []) (fun v5 => []) (fun v5 => th) (fun v5 => ?_) (fun j6 hj6 => ?_)
    · refine x_P 21 rfl rfl rfl ?_
      refine x_P 25 rfl rfl rfl ?_
      exact x_lv (hj4 (Int32.ofInt 1)) trivial
    · refine x_ic_eq rfl rfl (fun h10 => ?_) (fun h10 => ?_)
      · exact x_lv (hj6 ()) trivial
      · refine x_P 11 rfl rfl rfl ?_
        refine x_gN rfl (fun o7 ho7 => ?_)
        refine x_P 15 rfl rfl rfl ?_
        refine x_aI rfl ⟨rfl, rfl⟩ (fun x8 hx8 => ?_)
        refine x_P 17 rfl rfl rfl ?_
        refine x_ic_ne rfl rfl (fun h9 => ?_) (fun h9 => ?_)
        · exact x_lv (hj6 ()) trivial
        · refine x_P 25 rfl rfl rfl ?_
          exact x_lv (hj4 (Int32.ofInt 0)) trivial
-- 198 NineTreesModel.isLow(I)Z
noncomputable def m_198 (a0 : Nat) (a1 : Int32) (th : tH) : Option (Int32) :=
  (gC th 8 a0).bind fun _ =>
  (gN th 8 a0 11).bind fun o1 =>
  (aI th o1 a1).bind fun x2 =>
  jn (fun (v3 : Int32) =>
      rB v3
    ) (fun j4 =>
      jn (fun (v5 : Unit) =>
          j4 (Int32.ofInt 1)
        ) (fun j6 =>
          if x2 = (Int32.ofInt 2) then
            j6 ()
          else
            (gN th 8 a0 11).bind fun o7 =>
            (aI th o7 a1).bind fun x8 =>
            if x8 = (Int32.ofInt 5) then
              j6 ()
            else
              j4 (Int32.ofInt 0)
        )
    )
theorem c_198 {a0 : Nat} {a1 : Int32} {th : tH} {x : (Int32)} (h : m_198 a0 a1 th = some x) : ∃ fs, th[a0]? = some (.inr (8, fs)) := gC_of h
theorem S_198 {L : Nat} (d : Nat) (a0 : Nat) (a1 : Int32) (th : tH) : Wx L (fun x => (some (.int x), th)) d 198 2 0 [(0, .ref a0), (1, .int a1)] [] th (m_198 a0 a1 th) := by
  unfold m_198
  refine x_gC ?_
  refine x_P 1 rfl rfl rfl ?_
  refine x_gN rfl (fun o1 ho1 => ?_)
  refine x_P 5 rfl rfl rfl ?_
  refine x_aI rfl ⟨rfl, rfl⟩ (fun x2 hx2 => ?_)
  refine x_P 7 rfl rfl rfl ?_
  refine x_jn 25 (fun v3 => []) (fun v3 => [.int v3]) (fun v3 => th) (fun v3 => ?_) (fun j4 hj4 => ?_)
  · exact x_rB rfl
  · refine x_jn 20 (fun v5 => []) (fun v5 => []) (fun v5 => th) (fun v5 => ?_) (fun j6 hj6 => ?_)
    · refine x_P 21 rfl rfl rfl ?_
      refine x_P 25 rfl rfl rfl ?_
      exact x_lv (hj4 (Int32.ofInt 1)) trivial
    · refine x_ic_eq rfl rfl (fun h10 => ?_) (fun h10 => ?_)
      · exact x_lv (hj6 ()) trivial
      · refine x_P 11 rfl rfl rfl ?_
        refine x_gN rfl (fun o7 ho7 => ?_)
        refine x_P 15 rfl rfl rfl ?_
        refine x_aI rfl ⟨rfl, rfl⟩ (fun x8 hx8 => ?_)
        refine x_P 17 rfl rfl rfl ?_
        refine x_ic_ne rfl rfl (fun h9 => ?_) (fun h9 => ?_)
        · exact x_lv (hj6 ()) trivial
        · refine x_P 25 rfl rfl rfl ?_
          exact x_lv (hj4 (Int32.ofInt 0)) trivial
-- 199 NineTreesModel.row(III)I
noncomputable def m_199 (a0 : Nat) (a1 : Int32) (a2 : Int32) (a3 : Int32) (th : tH) : Option (Int32 × tH) :=
  (gC th 8 a0).bind fun _ =>
  (m_190 (Int32.toInt64 a1) (Int64.ofNat 0) (Int64.ofNat 7) th).bind fun x1 =>
  jn (fun (v2 : Unit) =>
      (m_189 a0 (Int8.ofInt (-2)).toInt32 th).bind fun q4 =>
      some (q4.1, q4.2)
    ) (fun j3 =>
      if x1 = 0 then
        j3 ()
      else
        (m_190 (Int32.toInt64 a2) (Int64.ofNat 0) (Int64.ofNat 4) th).bind fun x5 =>
        if x5 = 0 then
          j3 ()
        else
          (m_190 (Int32.toInt64 a3) (Int64.ofNat 0) (Int64.ofNat 40) th).bind fun x6 =>
          if x6 = 0 then
            j3 ()
          else
            (gN th 8 a0 0).bind fun o7 =>
            (sI th o7 a1 (Int32.ofInt 1)).bind fun th8 =>
            (gN th8 8 a0 1).bind fun o9 =>
            (sI th8 o9 a1 a2).bind fun th10 =>
            (gN th10 8 a0 2).bind fun o11 =>
            (sI th10 o11 a1 a3).bind fun th12 =>
            lp (fun (s13 : Int32 × tH) nx14 ex15 =>
                if (Int8.ofInt 40).toInt32 ≤ s13.1 then
                  ex15 s13.2
                else
                  (gN s13.2 8 a0 3).bind fun o17 =>
                  (aN s13.2 o17 a1).bind fun o18 =>
                  (sJ s13.2 o18 s13.1 (Int64.ofNat 0)).bind fun th19 =>
                  nx14 ((s13.1 + Int32.ofInt 1), th19)
              ) 4096 ((Int32.ofInt 0), th12) (fun (x16 : tH) =>
                some ((Int32.ofInt 1), x16)
              )
    )
theorem c_199 {a0 : Nat} {a1 : Int32} {a2 : Int32} {a3 : Int32} {th : tH} {x : (Int32 × tH)} (h : m_199 a0 a1 a2 a3 th = some x) : ∃ fs, th[a0]? = some (.inr (8, fs)) := gC_of h
theorem S_199 {L : Nat} (d : Nat) (a0 : Nat) (a1 : Int32) (a2 : Int32) (a3 : Int32) (th : tH) : Wx L (fun x => (some (.int x.1), x.2)) (d + 2) 199 5 0 [(0, .ref a0), (1, .int a1), (2, .int a2), (3, .int a3)] [] th (m_199 a0 a1 a2 a3 th) := by
  unfold m_199
  refine x_gC ?_
  refine x_P 1 rfl rfl rfl ?_
  refine x_P 2 rfl rfl rfl ?_
  refine x_P 3 rfl rfl rfl ?_
  refine x_P 6 rfl rfl rfl ?_
  refine x_callS rfl rfl rfl rfl rfl rfl ⟨rfl, rfl⟩ (S_190 (d + 1) (Int32.toInt64 a1) (Int64.ofNat 0) (Int64.ofNat 7) th) (fun x1 hx1 => ?_)
  refine x_jn 36 (fun v2 => [(0, .ref a0)]) (fun v2 => []) (fun v2 => th) (fun v2 => ?_) (fun j3 hj3 => ?_)
  · refine x_P 37 rfl rfl rfl ?_
    refine x_P 39 rfl rfl rfl ?_
    refine x_callV rfl rfl rfl rfl rfl ⟨rfl, rfl⟩ (fun x h => c_189 h) (S_189 d a0 (Int8.ofInt (-2)).toInt32 th) (fun q4 hq4 => ?_)
    exact x_retI (x := (q4.1, q4.2)) rfl
  · refine x_if_eq rfl rfl (fun h23 => ?_) (fun h23 => ?_)
    · exact x_lv (hj3 ()) ⟨rfl, trivial⟩
    · refine x_P 13 rfl rfl rfl ?_
      refine x_P 14 rfl rfl rfl ?_
      refine x_P 15 rfl rfl rfl ?_
      refine x_P 18 rfl rfl rfl ?_
      refine x_callS rfl rfl rfl rfl rfl rfl ⟨rfl, rfl⟩ (S_190 (d + 1) (Int32.toInt64 a2) (Int64.ofNat 0) (Int64.ofNat 4) th) (fun x5 hx5 => ?_)
      refine x_if_eq rfl rfl (fun h22 => ?_) (fun h22 => ?_)
      · exact x_lv (hj3 ()) ⟨rfl, trivial⟩
      · refine x_P 25 rfl rfl rfl ?_
        refine x_P 26 rfl rfl rfl ?_
        refine x_P 27 rfl rfl rfl ?_
        refine x_P 30 rfl rfl rfl ?_
        refine x_callS rfl rfl rfl rfl rfl rfl ⟨rfl, rfl⟩ (S_190 (d + 1) (Int32.toInt64 a3) (Int64.ofNat 0) (Int64.ofNat 40) th) (fun x6 hx6 => ?_)
        refine x_if_ne rfl rfl (fun h21 => ?_) (fun h21 => ?_)
        · exact x_lv (hj3 ()) ⟨rfl, trivial⟩
        · refine x_P 44 rfl rfl rfl ?_
          refine x_gN rfl (fun o7 ho7 => ?_)
          refine x_P 48 rfl rfl rfl ?_
          refine x_P 49 rfl rfl rfl ?_
          refine x_sI rfl ⟨rfl, rfl⟩ (fun th8 hth8 => ?_)
          refine x_P 51 rfl rfl rfl ?_
          refine x_gN rfl (fun o9 ho9 => ?_)
          refine x_P 55 rfl rfl rfl ?_
          refine x_P 56 rfl rfl rfl ?_
          refine x_sI rfl ⟨rfl, rfl⟩ (fun th10 hth10 => ?_)
          refine x_P 58 rfl rfl rfl ?_
          refine x_gN rfl (fun o11 ho11 => ?_)
          refine x_P 62 rfl rfl rfl ?_
          refine x_P 63 rfl rfl rfl ?_
          refine x_sI rfl ⟨rfl, rfl⟩ (fun th12 hth12 => ?_)
          refine x_P 65 rfl rfl rfl ?_
          refine x_P (lv' := [(4, .int (Int32.ofInt 0)), (0, .ref a0), (1, .int a1), (2, .int a2), (3, .int a3)]) 67 rfl rfl rfl ?_
          refine x_lv (lv := [(0, .ref a0), (1, .int a1), (4, .int (Int32.ofInt 0))]) (x_lp 90 (fun s13 => [(0, .ref a0), (1, .int a1), (4, .int s13.1)]) (fun s13 => s13.2) (fun x16 => []) (fun x16 => x16) (fun s13 nx14 hnx14 ex15 hex15 => ?_) (fun x16 => ?_) 4096 ((Int32.ofInt 0), th12)) ⟨rfl, rfl, rfl, trivial⟩
          · refine x_P 69 rfl rfl rfl ?_
            refine x_P 71 rfl rfl rfl ?_
            refine x_ic_ge rfl rfl (fun h20 => ?_) (fun h20 => ?_)
            · exact x_lv (hex15 s13.2) trivial
            · refine x_P 75 rfl rfl rfl ?_
              refine x_gN rfl (fun o17 ho17 => ?_)
              refine x_P 79 rfl rfl rfl ?_
              refine x_aN rfl ⟨rfl, rfl⟩ (fun o18 ho18 => ?_)
              refine x_P 82 rfl rfl rfl ?_
              refine x_P 83 rfl rfl rfl ?_
              refine x_sJ rfl ⟨rfl, rfl⟩ (fun th19 hth19 => ?_)
              refine x_P (lv' := [(4, .int (s13.1 + Int32.ofInt 1)), (0, .ref a0), (1, .int a1)]) 87 rfl rfl rfl ?_
              refine x_P 67 rfl rfl rfl ?_
              exact x_lv (hnx14 ((s13.1 + Int32.ofInt 1), th19)) ⟨rfl, rfl, rfl, trivial⟩
          · refine x_P 91 rfl rfl rfl ?_
            exact x_retI (x := ((Int32.ofInt 1), x16)) rfl
-- 200 NineTreesModel.fit(IJ)J
noncomputable def m_200 (a0 : Int32) (a1 : Int64) (th : tH) : Option (Int64) :=
  if a0 < 0 ∨ 3 < a0 then
    jn (fun (v2 : Int64) =>
        some v2
      ) (fun j3 =>
        if (lg_cmp a1 (Int64.ofNat 0)) = 0 then
          j3 (Int64.ofNat 0)
        else
          j3 (Int64.ofNat 1)
      )
  else if a0 = 0 then
    some (Int32.toInt64 (Int32.toInt8 (Int64.toInt32 a1)).toInt32)
  else if a0 = 1 then
    some (Int32.toInt64 (Int32.toInt16 (Int64.toInt32 a1)).toInt32)
  else if a0 = 2 then
    some (Int32.toInt64 (Int64.toInt32 a1))
  else if a0 = 3 then
    some a1
  else
    none
theorem S_200 {L : Nat} (d : Nat) (a0 : Int32) (a1 : Int64) (th : tH) : Wx L (fun x => (some (.long x), th)) d 200 3 0 [(0, .int a0), (1, .long a1)] [] th (m_200 a0 a1 th) := by
  unfold m_200
  refine x_P 1 rfl rfl rfl ?_
  refine x_ite (fun h1 => ?_) (fun h1 => ?_)
  · refine x_P 48 rfl rfl (x_td h1 (by decide +kernel)) ?_
    refine x_P 49 rfl rfl rfl ?_
    refine x_P 50 rfl rfl rfl ?_
    refine x_P 51 rfl rfl rfl ?_
    refine x_jn 59 (fun v2 => []) (fun v2 => [.long v2]) (fun v2 => th) (fun v2 => ?_) (fun j3 hj3 => ?_)
    · exact x_retJ (x := v2) rfl
    · refine x_if_eq rfl rfl (fun h4 => ?_) (fun h4 => ?_)
      · refine x_P 59 rfl rfl rfl ?_
        exact x_lv (hj3 (Int64.ofNat 0)) trivial
      · refine x_P 55 rfl rfl rfl ?_
        refine x_P 59 rfl rfl rfl ?_
        exact x_lv (hj3 (Int64.ofNat 1)) trivial
  · skip
    refine x_ite (fun h5 => ?_) (fun h5 => ?_)
    · refine x_P 32 rfl rfl (x_ts h5 (by decide +kernel)) ?_
      refine x_P 33 rfl rfl rfl ?_
      refine x_P 34 rfl rfl rfl ?_
      refine x_P 35 rfl rfl rfl ?_
      refine x_P 36 rfl rfl rfl ?_
      exact x_retJ (x := (Int32.toInt64 (Int32.toInt8 (Int64.toInt32 a1)).toInt32)) rfl
    · skip
      refine x_ite (fun h6 => ?_) (fun h6 => ?_)
      · refine x_P 37 rfl rfl (x_ts h6 (by decide +kernel)) ?_
        refine x_P 38 rfl rfl rfl ?_
        refine x_P 39 rfl rfl rfl ?_
        refine x_P 40 rfl rfl rfl ?_
        refine x_P 41 rfl rfl rfl ?_
        exact x_retJ (x := (Int32.toInt64 (Int32.toInt16 (Int64.toInt32 a1)).toInt32)) rfl
      · skip
        refine x_ite (fun h7 => ?_) (fun h7 => ?_)
        · refine x_P 42 rfl rfl (x_ts h7 (by decide +kernel)) ?_
          refine x_P 43 rfl rfl rfl ?_
          refine x_P 44 rfl rfl rfl ?_
          refine x_P 45 rfl rfl rfl ?_
          exact x_retJ (x := (Int32.toInt64 (Int64.toInt32 a1))) rfl
        · skip
          refine x_ite (fun h8 => ?_) (fun h8 => ?_)
          · refine x_P 46 rfl rfl (x_ts h8 (by decide +kernel)) ?_
            refine x_P 47 rfl rfl rfl ?_
            exact x_retJ (x := a1) rfl
          · skip
            exact x_none
-- 201 NineTreesModel.noRow(I)I
noncomputable def m_201 (a0 : Nat) (a1 : Int32) (th : tH) : Option (Int32 × tH) :=
  (gC th 8 a0).bind fun _ =>
  (m_190 (Int32.toInt64 a1) (Int64.ofNat 0) (Int64.ofNat 7) th).bind fun x1 =>
  if x1 = 0 then
    (m_189 a0 (Int8.ofInt (-2)).toInt32 th).bind fun q12 =>
    some (q12.1, q12.2)
  else
    (gN th 8 a0 0).bind fun o2 =>
    (aI th o2 a1).bind fun x3 =>
    if x3 = (Int32.ofInt 2) then
      (m_189 a0 (Int8.ofInt (-3)).toInt32 th).bind fun q10 =>
      some (q10.1, q10.2)
    else
      (gN th 8 a0 0).bind fun o4 =>
      (aI th o4 a1).bind fun x5 =>
      jn (fun (v6 : Int32 × tH) =>
          some (v6.1, v6.2)
        ) (fun j7 =>
          if x5 = 0 then
            (m_189 a0 (Int8.ofInt (-4)).toInt32 th).bind fun q8 =>
            j7 (q8.1, q8.2)
          else
            j7 ((Int32.ofInt 0), th)
        )
theorem c_201 {a0 : Nat} {a1 : Int32} {th : tH} {x : (Int32 × tH)} (h : m_201 a0 a1 th = some x) : ∃ fs, th[a0]? = some (.inr (8, fs)) := gC_of h
theorem S_201 {L : Nat} (d : Nat) (a0 : Nat) (a1 : Int32) (th : tH) : Wx L (fun x => (some (.int x.1), x.2)) (d + 2) 201 2 0 [(0, .ref a0), (1, .int a1)] [] th (m_201 a0 a1 th) := by
  unfold m_201
  refine x_gC ?_
  refine x_P 1 rfl rfl rfl ?_
  refine x_P 2 rfl rfl rfl ?_
  refine x_P 3 rfl rfl rfl ?_
  refine x_P 6 rfl rfl rfl ?_
  refine x_callS rfl rfl rfl rfl rfl rfl ⟨rfl, rfl⟩ (S_190 (d + 1) (Int32.toInt64 a1) (Int64.ofNat 0) (Int64.ofNat 7) th) (fun x1 hx1 => ?_)
  refine x_if_ne rfl rfl (fun h13 => ?_) (fun h13 => ?_)
  · refine x_P 13 rfl rfl rfl ?_
    refine x_P 15 rfl rfl rfl ?_
    refine x_callV rfl rfl rfl rfl rfl ⟨rfl, rfl⟩ (fun x h => c_189 h) (S_189 d a0 (Int8.ofInt (-2)).toInt32 th) (fun q12 hq12 => ?_)
    exact x_retI (x := (q12.1, q12.2)) rfl
  · refine x_P 20 rfl rfl rfl ?_
    refine x_gN rfl (fun o2 ho2 => ?_)
    refine x_P 24 rfl rfl rfl ?_
    refine x_aI rfl ⟨rfl, rfl⟩ (fun x3 hx3 => ?_)
    refine x_P 26 rfl rfl rfl ?_
    refine x_ic_ne rfl rfl (fun h11 => ?_) (fun h11 => ?_)
    · refine x_P 30 rfl rfl rfl ?_
      refine x_P 32 rfl rfl rfl ?_
      refine x_callV rfl rfl rfl rfl rfl ⟨rfl, rfl⟩ (fun x h => c_189 h) (S_189 d a0 (Int8.ofInt (-3)).toInt32 th) (fun q10 hq10 => ?_)
      exact x_retI (x := (q10.1, q10.2)) rfl
    · refine x_P 37 rfl rfl rfl ?_
      refine x_gN rfl (fun o4 ho4 => ?_)
      refine x_P 41 rfl rfl rfl ?_
      refine x_aI rfl ⟨rfl, rfl⟩ (fun x5 hx5 => ?_)
      refine x_jn 55 (fun v6 => []) (fun v6 => [.int v6.1]) (fun v6 => v6.2) (fun v6 => ?_) (fun j7 hj7 => ?_)
      · exact x_retI (x := (v6.1, v6.2)) rfl
      · refine x_if_ne rfl rfl (fun h9 => ?_) (fun h9 => ?_)
        · refine x_P 46 rfl rfl rfl ?_
          refine x_P 48 rfl rfl rfl ?_
          refine x_callV rfl rfl rfl rfl rfl ⟨rfl, rfl⟩ (fun x h => c_189 h) (S_189 d a0 (Int8.ofInt (-4)).toInt32 th) (fun q8 hq8 => ?_)
          refine x_P 55 rfl rfl rfl ?_
          exact x_lv (hj7 (q8.1, q8.2)) trivial
        · refine x_P 55 rfl rfl rfl ?_
          exact x_lv (hj7 ((Int32.ofInt 0), th)) trivial
-- 202 NineTreesModel.set(IIJ)I
noncomputable def m_202 (a0 : Nat) (a1 : Int32) (a2 : Int32) (a3 : Int64) (th : tH) : Option (Int32 × tH) :=
  (gC th 8 a0).bind fun _ =>
  (m_201 a0 a1 th).bind fun q1 =>
  if q1.1 = 0 then
    (gN q1.2 8 a0 2).bind fun o2 =>
    (aI q1.2 o2 a1).bind fun x3 =>
    (m_190 (Int32.toInt64 a2) (Int64.ofNat 0) (Int32.toInt64 (x3 - (Int32.ofInt 1))) q1.2).bind fun x4 =>
    if x4 = 0 then
      (m_189 a0 (Int8.ofInt (-2)).toInt32 q1.2).bind fun q11 =>
      some (q11.1, q11.2)
    else
      (gN q1.2 8 a0 3).bind fun o5 =>
      (aN q1.2 o5 a1).bind fun o6 =>
      (gN q1.2 8 a0 1).bind fun o7 =>
      (aI q1.2 o7 a1).bind fun x8 =>
      (m_200 x8 a3 q1.2).bind fun x9 =>
      (sJ q1.2 o6 a2 x9).bind fun th10 =>
      some ((Int32.ofInt 1), th10)
  else
    some (q1.1, q1.2)
theorem c_202 {a0 : Nat} {a1 : Int32} {a2 : Int32} {a3 : Int64} {th : tH} {x : (Int32 × tH)} (h : m_202 a0 a1 a2 a3 th = some x) : ∃ fs, th[a0]? = some (.inr (8, fs)) := gC_of h
theorem S_202 {L : Nat} (d : Nat) (a0 : Nat) (a1 : Int32) (a2 : Int32) (a3 : Int64) (th : tH) : Wx L (fun x => (some (.int x.1), x.2)) (d + 3) 202 6 0 [(0, .ref a0), (1, .int a1), (2, .int a2), (3, .long a3)] [] th (m_202 a0 a1 a2 a3 th) := by
  unfold m_202
  refine x_gC ?_
  refine x_P 1 rfl rfl rfl ?_
  refine x_P 2 rfl rfl rfl ?_
  refine x_callV rfl rfl rfl rfl rfl ⟨rfl, rfl⟩ (fun x h => c_201 h) (S_201 d a0 a1 th) (fun q1 hq1 => ?_)
  refine x_P (lv' := [(5, .int q1.1), (0, .ref a0), (1, .int a1), (2, .int a2), (3, .long a3)]) 7 rfl rfl rfl ?_
  refine x_P 9 rfl rfl rfl ?_
  refine x_if_eq rfl rfl (fun h13 => ?_) (fun h13 => ?_)
  · refine x_P 16 rfl rfl rfl ?_
    refine x_P 17 rfl rfl rfl ?_
    refine x_P 18 rfl rfl rfl ?_
    refine x_P 19 rfl rfl rfl ?_
    refine x_gN rfl (fun o2 ho2 => ?_)
    refine x_P 23 rfl rfl rfl ?_
    refine x_aI rfl ⟨rfl, rfl⟩ (fun x3 hx3 => ?_)
    refine x_P 25 rfl rfl rfl ?_
    refine x_P 26 rfl rfl rfl ?_
    refine x_P 27 rfl rfl rfl ?_
    refine x_callS rfl rfl rfl rfl rfl rfl ⟨rfl, rfl⟩ (S_190 (d + 2) (Int32.toInt64 a2) (Int64.ofNat 0) (Int32.toInt64 (x3 - (Int32.ofInt 1))) q1.2) (fun x4 hx4 => ?_)
    refine x_if_ne rfl rfl (fun h12 => ?_) (fun h12 => ?_)
    · refine x_P 34 rfl rfl rfl ?_
      refine x_P 36 rfl rfl rfl ?_
      refine x_callV rfl rfl rfl rfl rfl ⟨rfl, rfl⟩ (fun x h => c_189 h) (S_189 (d + 1) a0 (Int8.ofInt (-2)).toInt32 q1.2) (fun q11 hq11 => ?_)
      exact x_retI (x := (q11.1, q11.2)) rfl
    · refine x_P 41 rfl rfl rfl ?_
      refine x_gN rfl (fun o5 ho5 => ?_)
      refine x_P 45 rfl rfl rfl ?_
      refine x_aN rfl ⟨rfl, rfl⟩ (fun o6 ho6 => ?_)
      refine x_P 47 rfl rfl rfl ?_
      refine x_P 48 rfl rfl rfl ?_
      refine x_gN rfl (fun o7 ho7 => ?_)
      refine x_P 52 rfl rfl rfl ?_
      refine x_aI rfl ⟨rfl, rfl⟩ (fun x8 hx8 => ?_)
      refine x_P 54 rfl rfl rfl ?_
      refine x_callS rfl rfl rfl rfl rfl rfl ⟨rfl, rfl⟩ (S_200 (d + 2) x8 a3 q1.2) (fun x9 hx9 => ?_)
      refine x_sJ rfl ⟨rfl, rfl⟩ (fun th10 hth10 => ?_)
      refine x_P 59 rfl rfl rfl ?_
      exact x_retI (x := ((Int32.ofInt 1), th10)) rfl
  · refine x_P 14 rfl rfl rfl ?_
    exact x_retI (x := (q1.1, q1.2)) rfl
-- 203 NineTreesModel.copy(IIIII)I
noncomputable def m_203 (a0 : Nat) (a1 : Int32) (a2 : Int32) (a3 : Int32) (a4 : Int32) (a5 : Int32) (th : tH) : Option (Int32 × tH) :=
  (gC th 8 a0).bind fun _ =>
  (m_190 (Int32.toInt64 a1) (Int64.ofNat 0) (Int64.ofNat 7) th).bind fun x1 =>
  jn (fun (v2 : Unit) =>
      (m_189 a0 (Int8.ofInt (-2)).toInt32 th).bind fun q4 =>
      some (q4.1, q4.2)
    ) (fun j3 =>
      if x1 = 0 then
        j3 ()
      else
        (m_190 (Int32.toInt64 a2) (Int64.ofNat 0) (Int64.ofNat 7) th).bind fun x5 =>
        if x5 = 0 then
          j3 ()
        else
          (gN th 8 a0 0).bind fun o6 =>
          (aI th o6 a1).bind fun x7 =>
          jn (fun (v8 : Unit) =>
              (m_189 a0 (Int8.ofInt (-3)).toInt32 th).bind fun q10 =>
              some (q10.1, q10.2)
            ) (fun j9 =>
              if x7 = (Int32.ofInt 2) then
                j9 ()
              else
                (gN th 8 a0 0).bind fun o11 =>
                (aI th o11 a2).bind fun x12 =>
                if x12 = (Int32.ofInt 2) then
                  j9 ()
                else
                  (gN th 8 a0 0).bind fun o13 =>
                  (aI th o13 a1).bind fun x14 =>
                  jn (fun (v15 : Unit) =>
                      (gN th 8 a0 0).bind fun o17 =>
                      (aI th o17 a1).bind fun x18 =>
                      jn (fun (v19 : Unit) =>
                          (m_189 a0 (Int8.ofInt (-4)).toInt32 th).bind fun q21 =>
                          some (q21.1, q21.2)
                        ) (fun j20 =>
                          if x18 = 0 then
                            j20 ()
                          else
                            (gN th 8 a0 0).bind fun o22 =>
                            (aI th o22 a2).bind fun x23 =>
                            if x23 = 0 then
                              j20 ()
                            else
                              jn (fun (v24 : Unit) =>
                                  (m_189 a0 (Int8.ofInt (-2)).toInt32 th).bind fun q26 =>
                                  some (q26.1, q26.2)
                                ) (fun j25 =>
                                  if a5 < 0 then
                                    j25 ()
                                  else
                                    if a3 < 0 then
                                      j25 ()
                                    else
                                      if a4 < 0 then
                                        j25 ()
                                      else
                                        (gN th 8 a0 2).bind fun o27 =>
                                        (aI th o27 a1).bind fun x28 =>
                                        if x28 < a5 then
                                          j25 ()
                                        else
                                          (gN th 8 a0 2).bind fun o29 =>
                                          (aI th o29 a2).bind fun x30 =>
                                          if x30 < a5 then
                                            j25 ()
                                          else
                                            (gN th 8 a0 2).bind fun o31 =>
                                            (aI th o31 a1).bind fun x32 =>
                                            if (x32 - a5) < a3 then
                                              j25 ()
                                            else
                                              (gN th 8 a0 2).bind fun o33 =>
                                              (aI th o33 a2).bind fun x34 =>
                                              if a4 ≤ (x34 - a5) then
                                                lp (fun (s35 : Int32 × tH) nx36 ex37 =>
                                                    if a5 ≤ s35.1 then
                                                      ex37 s35.2
                                                    else
                                                      (gN s35.2 8 a0 4).bind fun o49 =>
                                                      (gN s35.2 8 a0 3).bind fun o50 =>
                                                      (aN s35.2 o50 a1).bind fun o51 =>
                                                      (aJ s35.2 o51 (a3 + s35.1)).bind fun x52 =>
                                                      (sJ s35.2 o49 s35.1 x52).bind fun th53 =>
                                                      nx36 ((s35.1 + Int32.ofInt 1), th53)
                                                  ) 4096 ((Int32.ofInt 0), th) (fun (x38 : tH) =>
                                                    lp (fun (s39 : Int32 × tH) nx40 ex41 =>
                                                        if a5 ≤ s39.1 then
                                                          ex41 s39.2
                                                        else
                                                          (gN s39.2 8 a0 3).bind fun o43 =>
                                                          (aN s39.2 o43 a2).bind fun o44 =>
                                                          (gN s39.2 8 a0 4).bind fun o45 =>
                                                          (aJ s39.2 o45 s39.1).bind fun x46 =>
                                                          (sJ s39.2 o44 (a4 + s39.1) x46).bind fun th47 =>
                                                          nx40 ((s39.1 + Int32.ofInt 1), th47)
                                                      ) 4096 ((Int32.ofInt 0), x38) (fun (x42 : tH) =>
                                                        some (a5, x42)
                                                      )
                                                  )
                                              else
                                                j25 ()
                                )
                        )
                    ) (fun j16 =>
                      if x14 = (Int32.ofInt 1) then
                        (gN th 8 a0 0).bind fun o64 =>
                        (aI th o64 a2).bind fun x65 =>
                        if x65 = (Int32.ofInt 1) then
                          (gN th 8 a0 1).bind fun o66 =>
                          (aI th o66 a1).bind fun x67 =>
                          (gN th 8 a0 1).bind fun o68 =>
                          (aI th o68 a2).bind fun x69 =>
                          if x67 = x69 then
                            j16 ()
                          else
                            j9 ()
                        else
                          j16 ()
                      else
                        j16 ()
                    )
            )
    )
theorem c_203 {a0 : Nat} {a1 : Int32} {a2 : Int32} {a3 : Int32} {a4 : Int32} {a5 : Int32} {th : tH} {x : (Int32 × tH)} (h : m_203 a0 a1 a2 a3 a4 a5 th = some x) : ∃ fs, th[a0]? = some (.inr (8, fs)) := gC_of h
theorem S_203 {L : Nat} (d : Nat) (a0 : Nat) (a1 : Int32) (a2 : Int32) (a3 : Int32) (a4 : Int32) (a5 : Int32) (th : tH) : Wx L (fun x => (some (.int x.1), x.2)) (d + 2) 203 7 0 [(0, .ref a0), (1, .int a1), (2, .int a2), (3, .int a3), (4, .int a4), (5, .int a5)] [] th (m_203 a0 a1 a2 a3 a4 a5 th) := by
  unfold m_203
  refine x_gC ?_
  refine x_P 1 rfl rfl rfl ?_
  refine x_P 2 rfl rfl rfl ?_
  refine x_P 3 rfl rfl rfl ?_
  refine x_P 6 rfl rfl rfl ?_
  refine x_callS rfl rfl rfl rfl rfl rfl ⟨rfl, rfl⟩ (S_190 (d + 1) (Int32.toInt64 a1) (Int64.ofNat 0) (Int64.ofNat 7) th) (fun x1 hx1 => ?_)
  refine x_jn 24 (fun v2 => [(0, .ref a0)]) (fun v2 => []) (fun v2 => th) (fun v2 => ?_) (fun j3 hj3 => ?_)
  · refine x_P 25 rfl rfl rfl ?_
    refine x_P 27 rfl rfl rfl ?_
    refine x_callV rfl rfl rfl rfl rfl ⟨rfl, rfl⟩ (fun x h => c_189 h) (S_189 d a0 (Int8.ofInt (-2)).toInt32 th) (fun q4 hq4 => ?_)
    exact x_retI (x := (q4.1, q4.2)) rfl
  · refine x_if_eq rfl rfl (fun h76 => ?_) (fun h76 => ?_)
    · exact x_lv (hj3 ()) ⟨rfl, trivial⟩
    · refine x_P 13 rfl rfl rfl ?_
      refine x_P 14 rfl rfl rfl ?_
      refine x_P 15 rfl rfl rfl ?_
      refine x_P 18 rfl rfl rfl ?_
      refine x_callS rfl rfl rfl rfl rfl rfl ⟨rfl, rfl⟩ (S_190 (d + 1) (Int32.toInt64 a2) (Int64.ofNat 0) (Int64.ofNat 7) th) (fun x5 hx5 => ?_)
      refine x_if_ne rfl rfl (fun h75 => ?_) (fun h75 => ?_)
      · exact x_lv (hj3 ()) ⟨rfl, trivial⟩
      · refine x_P 32 rfl rfl rfl ?_
        refine x_gN rfl (fun o6 ho6 => ?_)
        refine x_P 36 rfl rfl rfl ?_
        refine x_aI rfl ⟨rfl, rfl⟩ (fun x7 hx7 => ?_)
        refine x_P 38 rfl rfl rfl ?_
        refine x_jn 86 (fun v8 => [(0, .ref a0)]) (fun v8 => []) (fun v8 => th) (fun v8 => ?_) (fun j9 hj9 => ?_)
        · refine x_P 87 rfl rfl rfl ?_
          refine x_P 89 rfl rfl rfl ?_
          refine x_callV rfl rfl rfl rfl rfl ⟨rfl, rfl⟩ (fun x h => c_189 h) (S_189 d a0 (Int8.ofInt (-3)).toInt32 th) (fun q10 hq10 => ?_)
          exact x_retI (x := (q10.1, q10.2)) rfl
        · refine x_ic_eq rfl rfl (fun h74 => ?_) (fun h74 => ?_)
          · exact x_lv (hj9 ()) ⟨rfl, trivial⟩
          · refine x_P 42 rfl rfl rfl ?_
            refine x_gN rfl (fun o11 ho11 => ?_)
            refine x_P 46 rfl rfl rfl ?_
            refine x_aI rfl ⟨rfl, rfl⟩ (fun x12 hx12 => ?_)
            refine x_P 48 rfl rfl rfl ?_
            refine x_ic_eq rfl rfl (fun h73 => ?_) (fun h73 => ?_)
            · exact x_lv (hj9 ()) ⟨rfl, trivial⟩
            · refine x_P 52 rfl rfl rfl ?_
              refine x_gN rfl (fun o13 ho13 => ?_)
              refine x_P 56 rfl rfl rfl ?_
              refine x_aI rfl ⟨rfl, rfl⟩ (fun x14 hx14 => ?_)
              refine x_P 58 rfl rfl rfl ?_
              refine x_jn 93 (fun v15 => [(0, .ref a0), (1, .int a1), (2, .int a2), (3, .int a3), (4, .int a4), (5, .int a5)]) (fun v15 => []) (fun v15 => th) (fun v15 => ?_) (fun j16 hj16 => ?_)
              · refine x_P 94 rfl rfl rfl ?_
                refine x_gN rfl (fun o17 ho17 => ?_)
                refine x_P 98 rfl rfl rfl ?_
                refine x_aI rfl ⟨rfl, rfl⟩ (fun x18 hx18 => ?_)
                refine x_jn 111 (fun v19 => [(0, .ref a0)]) (fun v19 => []) (fun v19 => th) (fun v19 => ?_) (fun j20 hj20 => ?_)
                · refine x_P 112 rfl rfl rfl ?_
                  refine x_P 114 rfl rfl rfl ?_
                  refine x_callV rfl rfl rfl rfl rfl ⟨rfl, rfl⟩ (fun x h => c_189 h) (S_189 d a0 (Int8.ofInt (-4)).toInt32 th) (fun q21 hq21 => ?_)
                  exact x_retI (x := (q21.1, q21.2)) rfl
                · refine x_if_eq rfl rfl (fun h63 => ?_) (fun h63 => ?_)
                  · exact x_lv (hj20 ()) ⟨rfl, trivial⟩
                  · refine x_P 103 rfl rfl rfl ?_
                    refine x_gN rfl (fun o22 ho22 => ?_)
                    refine x_P 107 rfl rfl rfl ?_
                    refine x_aI rfl ⟨rfl, rfl⟩ (fun x23 hx23 => ?_)
                    refine x_if_ne rfl rfl (fun h62 => ?_) (fun h62 => ?_)
                    · exact x_lv (hj20 ()) ⟨rfl, trivial⟩
                    · refine x_P 120 rfl rfl rfl ?_
                      refine x_jn 181 (fun v24 => [(0, .ref a0)]) (fun v24 => []) (fun v24 => th) (fun v24 => ?_) (fun j25 hj25 => ?_)
                      · refine x_P 182 rfl rfl rfl ?_
                        refine x_P 184 rfl rfl rfl ?_
                        refine x_callV rfl rfl rfl rfl rfl ⟨rfl, rfl⟩ (fun x h => c_189 h) (S_189 d a0 (Int8.ofInt (-2)).toInt32 th) (fun q26 hq26 => ?_)
                        exact x_retI (x := (q26.1, q26.2)) rfl
                      · refine x_if_lt rfl rfl (fun h61 => ?_) (fun h61 => ?_)
                        · exact x_lv (hj25 ()) ⟨rfl, trivial⟩
                        · refine x_P 124 rfl rfl rfl ?_
                          refine x_if_lt rfl rfl (fun h60 => ?_) (fun h60 => ?_)
                          · exact x_lv (hj25 ()) ⟨rfl, trivial⟩
                          · refine x_P 129 rfl rfl rfl ?_
                            refine x_if_lt rfl rfl (fun h59 => ?_) (fun h59 => ?_)
                            · exact x_lv (hj25 ()) ⟨rfl, trivial⟩
                            · refine x_P 134 rfl rfl rfl ?_
                              refine x_P 135 rfl rfl rfl ?_
                              refine x_gN rfl (fun o27 ho27 => ?_)
                              refine x_P 139 rfl rfl rfl ?_
                              refine x_aI rfl ⟨rfl, rfl⟩ (fun x28 hx28 => ?_)
                              refine x_ic_gt rfl rfl (fun h58 => ?_) (fun h58 => ?_)
                              · exact x_lv (hj25 ()) ⟨rfl, trivial⟩
                              · refine x_P 145 rfl rfl rfl ?_
                                refine x_P 146 rfl rfl rfl ?_
                                refine x_gN rfl (fun o29 ho29 => ?_)
                                refine x_P 150 rfl rfl rfl ?_
                                refine x_aI rfl ⟨rfl, rfl⟩ (fun x30 hx30 => ?_)
                                refine x_ic_gt rfl rfl (fun h57 => ?_) (fun h57 => ?_)
                                · exact x_lv (hj25 ()) ⟨rfl, trivial⟩
                                · refine x_P 155 rfl rfl rfl ?_
                                  refine x_P 156 rfl rfl rfl ?_
                                  refine x_gN rfl (fun o31 ho31 => ?_)
                                  refine x_P 160 rfl rfl rfl ?_
                                  refine x_aI rfl ⟨rfl, rfl⟩ (fun x32 hx32 => ?_)
                                  refine x_P 163 rfl rfl rfl ?_
                                  refine x_P 164 rfl rfl rfl ?_
                                  refine x_ic_gt rfl rfl (fun h56 => ?_) (fun h56 => ?_)
                                  · exact x_lv (hj25 ()) ⟨rfl, trivial⟩
                                  · refine x_P 169 rfl rfl rfl ?_
                                    refine x_P 170 rfl rfl rfl ?_
                                    refine x_gN rfl (fun o33 ho33 => ?_)
                                    refine x_P 174 rfl rfl rfl ?_
                                    refine x_aI rfl ⟨rfl, rfl⟩ (fun x34 hx34 => ?_)
                                    refine x_P 177 rfl rfl rfl ?_
                                    refine x_P 178 rfl rfl rfl ?_
                                    refine x_ic_le rfl rfl (fun h55 => ?_) (fun h55 => ?_)
                                    · refine x_P 189 rfl rfl rfl ?_
                                      refine x_P (lv' := [(6, .int (Int32.ofInt 0)), (0, .ref a0), (1, .int a1), (2, .int a2), (3, .int a3), (4, .int a4), (5, .int a5)]) 191 rfl rfl rfl ?_
                                      refine x_lv (lv := [(0, .ref a0), (1, .int a1), (2, .int a2), (3, .int a3), (4, .int a4), (5, .int a5), (6, .int (Int32.ofInt 0))]) (x_lp 222 (fun s35 => [(0, .ref a0), (1, .int a1), (2, .int a2), (3, .int a3), (4, .int a4), (5, .int a5), (6, .int s35.1)]) (fun s35 => s35.2) (fun x38 => [(0, .ref a0), (2, .int a2), (4, .int a4), (5, .int a5)]) (fun x38 => x38) (fun s35 nx36 hnx36 ex37 hex37 => ?_) (fun x38 => ?_) 4096 ((Int32.ofInt 0), th)) ⟨rfl, rfl, rfl, rfl, rfl, rfl, rfl, trivial⟩
                                      · refine x_P 193 rfl rfl rfl ?_
                                        refine x_P 195 rfl rfl rfl ?_
                                        refine x_ic_ge rfl rfl (fun h54 => ?_) (fun h54 => ?_)
                                        · exact x_lv (hex37 s35.2) ⟨rfl, rfl, rfl, rfl, trivial⟩
                                        · refine x_P 199 rfl rfl rfl ?_
                                          refine x_gN rfl (fun o49 ho49 => ?_)
                                          refine x_P 204 rfl rfl rfl ?_
                                          refine x_P 205 rfl rfl rfl ?_
                                          refine x_gN rfl (fun o50 ho50 => ?_)
                                          refine x_P 209 rfl rfl rfl ?_
                                          refine x_aN rfl ⟨rfl, rfl⟩ (fun o51 ho51 => ?_)
                                          refine x_P 211 rfl rfl rfl ?_
                                          refine x_P 213 rfl rfl rfl ?_
                                          refine x_P 214 rfl rfl rfl ?_
                                          refine x_aJ rfl ⟨rfl, rfl⟩ (fun x52 hx52 => ?_)
                                          refine x_sJ rfl ⟨rfl, rfl⟩ (fun th53 hth53 => ?_)
                                          refine x_P (lv' := [(6, .int (s35.1 + Int32.ofInt 1)), (0, .ref a0), (1, .int a1), (2, .int a2), (3, .int a3), (4, .int a4), (5, .int a5)]) 219 rfl rfl rfl ?_
                                          refine x_P 191 rfl rfl rfl ?_
                                          exact x_lv (hnx36 ((s35.1 + Int32.ofInt 1), th53)) ⟨rfl, rfl, rfl, rfl, rfl, rfl, rfl, trivial⟩
                                      · refine x_P 223 rfl rfl rfl ?_
                                        refine x_P (lv' := [(6, .int (Int32.ofInt 0)), (0, .ref a0), (2, .int a2), (4, .int a4), (5, .int a5)]) 225 rfl rfl rfl ?_
                                        refine x_lv (lv := [(0, .ref a0), (2, .int a2), (4, .int a4), (5, .int a5), (6, .int (Int32.ofInt 0))]) (x_lp 257 (fun s39 => [(0, .ref a0), (2, .int a2), (4, .int a4), (5, .int a5), (6, .int s39.1)]) (fun s39 => s39.2) (fun x42 => [(5, .int a5)]) (fun x42 => x42) (fun s39 nx40 hnx40 ex41 hex41 => ?_) (fun x42 => ?_) 4096 ((Int32.ofInt 0), x38)) ⟨rfl, rfl, rfl, rfl, rfl, trivial⟩
                                        · refine x_P 227 rfl rfl rfl ?_
                                          refine x_P 229 rfl rfl rfl ?_
                                          refine x_ic_ge rfl rfl (fun h48 => ?_) (fun h48 => ?_)
                                          · exact x_lv (hex41 s39.2) ⟨rfl, trivial⟩
                                          · refine x_P 233 rfl rfl rfl ?_
                                            refine x_gN rfl (fun o43 ho43 => ?_)
                                            refine x_P 237 rfl rfl rfl ?_
                                            refine x_aN rfl ⟨rfl, rfl⟩ (fun o44 ho44 => ?_)
                                            refine x_P 240 rfl rfl rfl ?_
                                            refine x_P 242 rfl rfl rfl ?_
                                            refine x_P 243 rfl rfl rfl ?_
                                            refine x_P 244 rfl rfl rfl ?_
                                            refine x_gN rfl (fun o45 ho45 => ?_)
                                            refine x_P 249 rfl rfl rfl ?_
                                            refine x_aJ rfl ⟨rfl, rfl⟩ (fun x46 hx46 => ?_)
                                            refine x_sJ rfl ⟨rfl, rfl⟩ (fun th47 hth47 => ?_)
                                            refine x_P (lv' := [(6, .int (s39.1 + Int32.ofInt 1)), (0, .ref a0), (2, .int a2), (4, .int a4), (5, .int a5)]) 254 rfl rfl rfl ?_
                                            refine x_P 225 rfl rfl rfl ?_
                                            exact x_lv (hnx40 ((s39.1 + Int32.ofInt 1), th47)) ⟨rfl, rfl, rfl, rfl, rfl, trivial⟩
                                        · refine x_P 259 rfl rfl rfl ?_
                                          exact x_retI (x := (a5, x42)) rfl
                                    · exact x_lv (hj25 ()) ⟨rfl, trivial⟩
              · refine x_ic_ne rfl rfl (fun h72 => ?_) (fun h72 => ?_)
                · refine x_P 62 rfl rfl rfl ?_
                  refine x_gN rfl (fun o64 ho64 => ?_)
                  refine x_P 66 rfl rfl rfl ?_
                  refine x_aI rfl ⟨rfl, rfl⟩ (fun x65 hx65 => ?_)
                  refine x_P 68 rfl rfl rfl ?_
                  refine x_ic_ne rfl rfl (fun h71 => ?_) (fun h71 => ?_)
                  · refine x_P 72 rfl rfl rfl ?_
                    refine x_gN rfl (fun o66 ho66 => ?_)
                    refine x_P 76 rfl rfl rfl ?_
                    refine x_aI rfl ⟨rfl, rfl⟩ (fun x67 hx67 => ?_)
                    refine x_P 78 rfl rfl rfl ?_
                    refine x_gN rfl (fun o68 ho68 => ?_)
                    refine x_P 82 rfl rfl rfl ?_
                    refine x_aI rfl ⟨rfl, rfl⟩ (fun x69 hx69 => ?_)
                    refine x_ic_eq rfl rfl (fun h70 => ?_) (fun h70 => ?_)
                    · exact x_lv (hj16 ()) ⟨rfl, rfl, rfl, rfl, rfl, rfl, trivial⟩
                    · exact x_lv (hj9 ()) ⟨rfl, trivial⟩
                  · exact x_lv (hj16 ()) ⟨rfl, rfl, rfl, rfl, rfl, rfl, trivial⟩
                · exact x_lv (hj16 ()) ⟨rfl, rfl, rfl, rfl, rfl, rfl, trivial⟩
-- 204 NineTreesModel.element(II)J
noncomputable def m_204 (a0 : Nat) (a1 : Int32) (a2 : Int32) (th : tH) : Option (Int64) :=
  (gC th 8 a0).bind fun _ =>
  (m_190 (Int32.toInt64 a1) (Int64.ofNat 0) (Int64.ofNat 7) th).bind fun x1 =>
  jn (fun (v2 : Int64) =>
      some v2
    ) (fun j3 =>
      jn (fun (v4 : Unit) =>
          j3 (Int64.ofNat 0)
        ) (fun j5 =>
          if x1 = 0 then
            j5 ()
          else
            (gN th 8 a0 0).bind fun o6 =>
            (aI th o6 a1).bind fun x7 =>
            if x7 = (Int32.ofInt 1) then
              (gN th 8 a0 2).bind fun o8 =>
              (aI th o8 a1).bind fun x9 =>
              (m_190 (Int32.toInt64 a2) (Int64.ofNat 0) (Int32.toInt64 (x9 - (Int32.ofInt 1))) th).bind fun x10 =>
              if x10 = 0 then
                j5 ()
              else
                (gN th 8 a0 3).bind fun o11 =>
                (aN th o11 a1).bind fun o12 =>
                (aJ th o12 a2).bind fun x13 =>
                j3 x13
            else
              j5 ()
        )
    )
theorem c_204 {a0 : Nat} {a1 : Int32} {a2 : Int32} {th : tH} {x : (Int64)} (h : m_204 a0 a1 a2 th = some x) : ∃ fs, th[a0]? = some (.inr (8, fs)) := gC_of h
theorem S_204 {L : Nat} (d : Nat) (a0 : Nat) (a1 : Int32) (a2 : Int32) (th : tH) : Wx L (fun x => (some (.long x), th)) (d + 1) 204 3 0 [(0, .ref a0), (1, .int a1), (2, .int a2)] [] th (m_204 a0 a1 a2 th) := by
  unfold m_204
  refine x_gC ?_
  refine x_P 1 rfl rfl rfl ?_
  refine x_P 2 rfl rfl rfl ?_
  refine x_P 3 rfl rfl rfl ?_
  refine x_P 6 rfl rfl rfl ?_
  refine x_callS rfl rfl rfl rfl rfl rfl ⟨rfl, rfl⟩ (S_190 d (Int32.toInt64 a1) (Int64.ofNat 0) (Int64.ofNat 7) th) (fun x1 hx1 => ?_)
  refine x_jn 52 (fun v2 => []) (fun v2 => [.long v2]) (fun v2 => th) (fun v2 => ?_) (fun j3 hj3 => ?_)
  · exact x_retJ (x := v2) rfl
  · refine x_jn 51 (fun v4 => []) (fun v4 => []) (fun v4 => th) (fun v4 => ?_) (fun j5 hj5 => ?_)
    · refine x_P 52 rfl rfl rfl ?_
      exact x_lv (hj3 (Int64.ofNat 0)) trivial
    · refine x_if_eq rfl rfl (fun h16 => ?_) (fun h16 => ?_)
      · exact x_lv (hj5 ()) trivial
      · refine x_P 13 rfl rfl rfl ?_
        refine x_gN rfl (fun o6 ho6 => ?_)
        refine x_P 17 rfl rfl rfl ?_
        refine x_aI rfl ⟨rfl, rfl⟩ (fun x7 hx7 => ?_)
        refine x_P 19 rfl rfl rfl ?_
        refine x_ic_ne rfl rfl (fun h15 => ?_) (fun h15 => ?_)
        · refine x_P 23 rfl rfl rfl ?_
          refine x_P 24 rfl rfl rfl ?_
          refine x_P 25 rfl rfl rfl ?_
          refine x_P 26 rfl rfl rfl ?_
          refine x_gN rfl (fun o8 ho8 => ?_)
          refine x_P 30 rfl rfl rfl ?_
          refine x_aI rfl ⟨rfl, rfl⟩ (fun x9 hx9 => ?_)
          refine x_P 32 rfl rfl rfl ?_
          refine x_P 33 rfl rfl rfl ?_
          refine x_P 34 rfl rfl rfl ?_
          refine x_callS rfl rfl rfl rfl rfl rfl ⟨rfl, rfl⟩ (S_190 d (Int32.toInt64 a2) (Int64.ofNat 0) (Int32.toInt64 (x9 - (Int32.ofInt 1))) th) (fun x10 hx10 => ?_)
          refine x_if_eq rfl rfl (fun h14 => ?_) (fun h14 => ?_)
          · exact x_lv (hj5 ()) trivial
          · refine x_P 41 rfl rfl rfl ?_
            refine x_gN rfl (fun o11 ho11 => ?_)
            refine x_P 45 rfl rfl rfl ?_
            refine x_aN rfl ⟨rfl, rfl⟩ (fun o12 ho12 => ?_)
            refine x_P 47 rfl rfl rfl ?_
            refine x_aJ rfl ⟨rfl, rfl⟩ (fun x13 hx13 => ?_)
            refine x_P 52 rfl rfl rfl ?_
            exact x_lv (hj3 x13) trivial
        · exact x_lv (hj5 ()) trivial
-- 205 NineTreesModel.holds(I)I
noncomputable def m_205 (a0 : Nat) (a1 : Int32) (th : tH) : Option (Int32) :=
  (gC th 8 a0).bind fun _ =>
  (m_190 (Int32.toInt64 a1) (Int64.ofNat 0) (Int64.ofNat 7) th).bind fun x1 =>
  jn (fun (v2 : Unit) =>
      some (Int32.ofInt (-1))
    ) (fun j3 =>
      if x1 = 0 then
        j3 ()
      else
        (gN th 8 a0 0).bind fun o4 =>
        (aI th o4 a1).bind fun x5 =>
        if x5 = 0 then
          j3 ()
        else
          (gN th 8 a0 0).bind fun o6 =>
          (aI th o6 a1).bind fun x7 =>
          jn (fun (v8 : Int32) =>
              some v8
            ) (fun j9 =>
              if x7 = (Int32.ofInt 1) then
                (gN th 8 a0 1).bind fun o12 =>
                (aI th o12 a1).bind fun x13 =>
                j9 x13
              else
                (gN th 8 a0 5).bind fun o10 =>
                (aI th o10 a1).bind fun x11 =>
                j9 ((Int8.ofInt 10).toInt32 + x11)
            )
    )
theorem c_205 {a0 : Nat} {a1 : Int32} {th : tH} {x : (Int32)} (h : m_205 a0 a1 th = some x) : ∃ fs, th[a0]? = some (.inr (8, fs)) := gC_of h
theorem S_205 {L : Nat} (d : Nat) (a0 : Nat) (a1 : Int32) (th : tH) : Wx L (fun x => (some (.int x), th)) (d + 1) 205 2 0 [(0, .ref a0), (1, .int a1)] [] th (m_205 a0 a1 th) := by
  unfold m_205
  refine x_gC ?_
  refine x_P 1 rfl rfl rfl ?_
  refine x_P 2 rfl rfl rfl ?_
  refine x_P 3 rfl rfl rfl ?_
  refine x_P 6 rfl rfl rfl ?_
  refine x_callS rfl rfl rfl rfl rfl rfl ⟨rfl, rfl⟩ (S_190 d (Int32.toInt64 a1) (Int64.ofNat 0) (Int64.ofNat 7) th) (fun x1 hx1 => ?_)
  refine x_jn 21 (fun v2 => []) (fun v2 => []) (fun v2 => th) (fun v2 => ?_) (fun j3 hj3 => ?_)
  · refine x_P 22 rfl rfl rfl ?_
    exact x_retI (x := (Int32.ofInt (-1))) rfl
  · refine x_if_eq rfl rfl (fun h16 => ?_) (fun h16 => ?_)
    · exact x_lv (hj3 ()) trivial
    · refine x_P 13 rfl rfl rfl ?_
      refine x_gN rfl (fun o4 ho4 => ?_)
      refine x_P 17 rfl rfl rfl ?_
      refine x_aI rfl ⟨rfl, rfl⟩ (fun x5 hx5 => ?_)
      refine x_if_ne rfl rfl (fun h15 => ?_) (fun h15 => ?_)
      · exact x_lv (hj3 ()) trivial
      · refine x_P 24 rfl rfl rfl ?_
        refine x_gN rfl (fun o6 ho6 => ?_)
        refine x_P 28 rfl rfl rfl ?_
        refine x_aI rfl ⟨rfl, rfl⟩ (fun x7 hx7 => ?_)
        refine x_P 30 rfl rfl rfl ?_
        refine x_jn 51 (fun v8 => []) (fun v8 => [.int v8]) (fun v8 => th) (fun v8 => ?_) (fun j9 hj9 => ?_)
        · exact x_retI (x := v8) rfl
        · refine x_ic_ne rfl rfl (fun h14 => ?_) (fun h14 => ?_)
          · refine x_P 34 rfl rfl rfl ?_
            refine x_gN rfl (fun o12 ho12 => ?_)
            refine x_P 38 rfl rfl rfl ?_
            refine x_aI rfl ⟨rfl, rfl⟩ (fun x13 hx13 => ?_)
            refine x_P 51 rfl rfl rfl ?_
            exact x_lv (hj9 x13) trivial
          · refine x_P 44 rfl rfl rfl ?_
            refine x_P 45 rfl rfl rfl ?_
            refine x_gN rfl (fun o10 ho10 => ?_)
            refine x_P 49 rfl rfl rfl ?_
            refine x_aI rfl ⟨rfl, rfl⟩ (fun x11 hx11 => ?_)
            refine x_P 51 rfl rfl rfl ?_
            exact x_lv (hj9 ((Int8.ofInt 10).toInt32 + x11)) trivial
-- 206 NineTreesModel.show(II)I
noncomputable def m_206 (a0 : Nat) (a1 : Int32) (a2 : Int32) (th : tH) : Option (Int32 × tH) :=
  (gC th 8 a0).bind fun _ =>
  (m_190 (Int32.toInt64 a1) (Int64.ofNat 0) (Int64.ofNat 7) th).bind fun x1 =>
  jn (fun (v2 : Unit) =>
      (m_189 a0 (Int8.ofInt (-2)).toInt32 th).bind fun q4 =>
      some (q4.1, q4.2)
    ) (fun j3 =>
      if x1 = 0 then
        j3 ()
      else
        jn (fun (v5 : Unit) =>
            (gN th 8 a0 0).bind fun o7 =>
            jn (fun (v8 : Int32 × Int32 × Nat) =>
                (sI th v8.2.2 v8.2.1 v8.1).bind fun th10 =>
                (gN th10 8 a0 5).bind fun o11 =>
                (sI th10 o11 a1 a2).bind fun th12 =>
                some ((Int32.ofInt 1), th12)
              ) (fun j9 =>
                if a2 = (Int32.ofInt (-1)) then
                  j9 ((Int32.ofInt 0), a1, o7)
                else
                  j9 ((Int32.ofInt 2), a1, o7)
              )
          ) (fun j6 =>
            if a2 = (Int32.ofInt (-1)) then
              j6 ()
            else
              (m_191 a0 a2 th).bind fun x14 =>
              if x14 = 0 then
                j3 ()
              else
                j6 ()
          )
    )
theorem c_206 {a0 : Nat} {a1 : Int32} {a2 : Int32} {th : tH} {x : (Int32 × tH)} (h : m_206 a0 a1 a2 th = some x) : ∃ fs, th[a0]? = some (.inr (8, fs)) := gC_of h
theorem S_206 {L : Nat} (d : Nat) (a0 : Nat) (a1 : Int32) (a2 : Int32) (th : tH) : Wx L (fun x => (some (.int x.1), x.2)) (d + 2) 206 3 0 [(0, .ref a0), (1, .int a1), (2, .int a2)] [] th (m_206 a0 a1 a2 th) := by
  unfold m_206
  refine x_gC ?_
  refine x_P 1 rfl rfl rfl ?_
  refine x_P 2 rfl rfl rfl ?_
  refine x_P 3 rfl rfl rfl ?_
  refine x_P 6 rfl rfl rfl ?_
  refine x_callS rfl rfl rfl rfl rfl rfl ⟨rfl, rfl⟩ (S_190 (d + 1) (Int32.toInt64 a1) (Int64.ofNat 0) (Int64.ofNat 7) th) (fun x1 hx1 => ?_)
  refine x_jn 25 (fun v2 => [(0, .ref a0)]) (fun v2 => []) (fun v2 => th) (fun v2 => ?_) (fun j3 hj3 => ?_)
  · refine x_P 26 rfl rfl rfl ?_
    refine x_P 28 rfl rfl rfl ?_
    refine x_callV rfl rfl rfl rfl rfl ⟨rfl, rfl⟩ (fun x h => c_189 h) (S_189 d a0 (Int8.ofInt (-2)).toInt32 th) (fun q4 hq4 => ?_)
    exact x_retI (x := (q4.1, q4.2)) rfl
  · refine x_if_eq rfl rfl (fun h17 => ?_) (fun h17 => ?_)
    · exact x_lv (hj3 ()) ⟨rfl, trivial⟩
    · refine x_P 13 rfl rfl rfl ?_
      refine x_P 14 rfl rfl rfl ?_
      refine x_jn 32 (fun v5 => [(0, .ref a0), (1, .int a1), (2, .int a2)]) (fun v5 => []) (fun v5 => th) (fun v5 => ?_) (fun j6 hj6 => ?_)
      · refine x_P 33 rfl rfl rfl ?_
        refine x_gN rfl (fun o7 ho7 => ?_)
        refine x_P 37 rfl rfl rfl ?_
        refine x_P 38 rfl rfl rfl ?_
        refine x_P 39 rfl rfl rfl ?_
        refine x_jn 47 (fun v8 => [(0, .ref a0), (1, .int a1), (2, .int a2)]) (fun v8 => [.int v8.1, .int v8.2.1, .ref v8.2.2]) (fun v8 => th) (fun v8 => ?_) (fun j9 hj9 => ?_)
        · refine x_sI rfl ⟨rfl, rfl⟩ (fun th10 hth10 => ?_)
          refine x_P 49 rfl rfl rfl ?_
          refine x_gN rfl (fun o11 ho11 => ?_)
          refine x_P 53 rfl rfl rfl ?_
          refine x_P 54 rfl rfl rfl ?_
          refine x_sI rfl ⟨rfl, rfl⟩ (fun th12 hth12 => ?_)
          refine x_P 56 rfl rfl rfl ?_
          exact x_retI (x := ((Int32.ofInt 1), th12)) rfl
        · refine x_ic_ne rfl rfl (fun h13 => ?_) (fun h13 => ?_)
          · refine x_P 43 rfl rfl rfl ?_
            refine x_P 47 rfl rfl rfl ?_
            exact x_lv (hj9 ((Int32.ofInt 0), a1, o7)) ⟨rfl, rfl, rfl, trivial⟩
          · refine x_P 47 rfl rfl rfl ?_
            exact x_lv (hj9 ((Int32.ofInt 2), a1, o7)) ⟨rfl, rfl, rfl, trivial⟩
      · refine x_ic_eq rfl rfl (fun h16 => ?_) (fun h16 => ?_)
        · exact x_lv (hj6 ()) ⟨rfl, rfl, rfl, trivial⟩
        · refine x_P 18 rfl rfl rfl ?_
          refine x_P 19 rfl rfl rfl ?_
          refine x_callV rfl rfl rfl rfl rfl ⟨rfl, rfl⟩ (fun x h => c_191 h) (S_191 d a0 a2 th) (fun x14 hx14 => ?_)
          refine x_if_ne rfl rfl (fun h15 => ?_) (fun h15 => ?_)
          · exact x_lv (hj3 ()) ⟨rfl, trivial⟩
          · exact x_lv (hj6 ()) ⟨rfl, rfl, rfl, trivial⟩
-- 207 NineTreesModel.shelvesFollow()V
noncomputable def m_207 (a0 : Nat) (th : tH) : Option tH :=
  (gC th 8 a0).bind fun _ =>
  lp (fun (s1 : Int32 × tH) nx2 ex3 =>
      if (Int8.ofInt 8).toInt32 ≤ s1.1 then
        ex3 s1.2
      else
        (gN s1.2 8 a0 0).bind fun o5 =>
        (aI s1.2 o5 s1.1).bind fun x6 =>
        jn (fun (v7 : tH) =>
            nx2 ((s1.1 + Int32.ofInt 1), v7)
          ) (fun j8 =>
            if x6 = (Int32.ofInt 2) then
              (gN s1.2 8 a0 5).bind fun o9 =>
              (aI s1.2 o9 s1.1).bind fun x10 =>
              (gI s1.2 8 a0 10).bind fun x11 =>
              if x10 < x11 then
                j8 s1.2
              else
                (gN s1.2 8 a0 0).bind fun o12 =>
                (sI s1.2 o12 s1.1 (Int32.ofInt 0)).bind fun th13 =>
                j8 th13
            else
              j8 s1.2
          )
    ) 4096 ((Int32.ofInt 0), th) (fun (x4 : tH) =>
      some x4
    )
theorem c_207 {a0 : Nat} {th : tH} {x : tH} (h : m_207 a0 th = some x) : ∃ fs, th[a0]? = some (.inr (8, fs)) := gC_of h
theorem S_207 {L : Nat} (d : Nat) (a0 : Nat) (th : tH) : Wx L (fun x => (none, x)) (d + 1) 207 2 0 [(0, .ref a0)] [] th (m_207 a0 th) := by
  unfold m_207
  refine x_gC ?_
  refine x_P 1 rfl rfl rfl ?_
  refine x_P (lv' := [(1, .int (Int32.ofInt 0)), (0, .ref a0)]) 2 rfl rfl rfl ?_
  refine x_lv (lv := [(0, .ref a0), (1, .int (Int32.ofInt 0))]) (x_lp 44 (fun s1 => [(0, .ref a0), (1, .int s1.1)]) (fun s1 => s1.2) (fun x4 => []) (fun x4 => x4) (fun s1 nx2 hnx2 ex3 hex3 => ?_) (fun x4 => ?_) 4096 ((Int32.ofInt 0), th)) ⟨rfl, rfl, trivial⟩
  · refine x_P 3 rfl rfl rfl ?_
    refine x_P 5 rfl rfl rfl ?_
    refine x_ic_ge rfl rfl (fun h16 => ?_) (fun h16 => ?_)
    · exact x_lv (hex3 s1.2) trivial
    · refine x_P 9 rfl rfl rfl ?_
      refine x_gN rfl (fun o5 ho5 => ?_)
      refine x_P 13 rfl rfl rfl ?_
      refine x_aI rfl ⟨rfl, rfl⟩ (fun x6 hx6 => ?_)
      refine x_P 15 rfl rfl rfl ?_
      refine x_jn 38 (fun v7 => [(0, .ref a0), (1, .int s1.1)]) (fun v7 => []) (fun v7 => v7) (fun v7 => ?_) (fun j8 hj8 => ?_)
      · refine x_P (lv' := [(1, .int (s1.1 + Int32.ofInt 1)), (0, .ref a0)]) 41 rfl rfl rfl ?_
        refine x_P 2 rfl rfl rfl ?_
        exact x_lv (hnx2 ((s1.1 + Int32.ofInt 1), v7)) ⟨rfl, rfl, trivial⟩
      · refine x_ic_ne rfl rfl (fun h15 => ?_) (fun h15 => ?_)
        · refine x_P 19 rfl rfl rfl ?_
          refine x_gN rfl (fun o9 ho9 => ?_)
          refine x_P 23 rfl rfl rfl ?_
          refine x_aI rfl ⟨rfl, rfl⟩ (fun x10 hx10 => ?_)
          refine x_P 25 rfl rfl rfl ?_
          refine x_gI rfl (fun x11 hx11 => ?_)
          refine x_ic_lt rfl rfl (fun h14 => ?_) (fun h14 => ?_)
          · exact x_lv (hj8 s1.2) ⟨rfl, rfl, trivial⟩
          · refine x_P 32 rfl rfl rfl ?_
            refine x_gN rfl (fun o12 ho12 => ?_)
            refine x_P 36 rfl rfl rfl ?_
            refine x_P 37 rfl rfl rfl ?_
            refine x_sI rfl ⟨rfl, rfl⟩ (fun th13 hth13 => ?_)
            exact x_lv (hj8 th13) ⟨rfl, rfl, trivial⟩
        · exact x_lv (hj8 s1.2) ⟨rfl, rfl, trivial⟩
  · exact x_retV (x := x4) rfl
-- 208 NineTreesModel.isUnder(II)Z
noncomputable def m_208 (a0 : Int32) (a1 : Int32) (th : tH) : Option (Int32) :=
  jn (fun (v1 : Int32) =>
      rB v1
    ) (fun j2 =>
      jn (fun (v3 : Unit) =>
          j2 (Int32.ofInt 1)
        ) (fun j4 =>
          if a1 = 0 then
            j4 ()
          else
            if a0 = a1 then
              j4 ()
            else
              jn (fun (v5 : Unit) =>
                  jn (fun (v7 : Unit) =>
                      j2 (Int32.ofInt 0)
                    ) (fun j8 =>
                      if a1 = (Int32.ofInt 2) then
                        if a0 = (Int32.ofInt 5) then
                          j4 ()
                        else
                          j8 ()
                      else
                        j8 ()
                    )
                ) (fun j6 =>
                  if a1 = (Int32.ofInt 1) then
                    if a0 = (Int32.ofInt 3) then
                      j4 ()
                    else
                      j6 ()
                  else
                    j6 ()
                )
        )
    )
theorem S_208 {L : Nat} (d : Nat) (a0 : Int32) (a1 : Int32) (th : tH) : Wx L (fun x => (some (.int x), th)) d 208 2 0 [(0, .int a0), (1, .int a1)] [] th (m_208 a0 a1 th) := by
  unfold m_208
  refine x_P 1 rfl rfl rfl ?_
  refine x_jn 34 (fun v1 => []) (fun v1 => [.int v1]) (fun v1 => th) (fun v1 => ?_) (fun j2 hj2 => ?_)
  · exact x_rB rfl
  · refine x_jn 29 (fun v3 => []) (fun v3 => []) (fun v3 => th) (fun v3 => ?_) (fun j4 hj4 => ?_)
    · refine x_P 30 rfl rfl rfl ?_
      refine x_P 34 rfl rfl rfl ?_
      exact x_lv (hj2 (Int32.ofInt 1)) trivial
    · refine x_if_eq rfl rfl (fun h14 => ?_) (fun h14 => ?_)
      · exact x_lv (hj4 ()) trivial
      · refine x_P 5 rfl rfl rfl ?_
        refine x_P 6 rfl rfl rfl ?_
        refine x_ic_eq rfl rfl (fun h13 => ?_) (fun h13 => ?_)
        · exact x_lv (hj4 ()) trivial
        · refine x_P 10 rfl rfl rfl ?_
          refine x_P 11 rfl rfl rfl ?_
          refine x_jn 19 (fun v5 => [(0, .int a0), (1, .int a1)]) (fun v5 => []) (fun v5 => th) (fun v5 => ?_) (fun j6 hj6 => ?_)
          · refine x_P 20 rfl rfl rfl ?_
            refine x_P 21 rfl rfl rfl ?_
            refine x_jn 33 (fun v7 => []) (fun v7 => []) (fun v7 => th) (fun v7 => ?_) (fun j8 hj8 => ?_)
            · refine x_P 34 rfl rfl rfl ?_
              exact x_lv (hj2 (Int32.ofInt 0)) trivial
            · refine x_ic_ne rfl rfl (fun h10 => ?_) (fun h10 => ?_)
              · refine x_P 25 rfl rfl rfl ?_
                refine x_P 26 rfl rfl rfl ?_
                refine x_ic_ne rfl rfl (fun h9 => ?_) (fun h9 => ?_)
                · exact x_lv (hj4 ()) trivial
                · exact x_lv (hj8 ()) trivial
              · exact x_lv (hj8 ()) trivial
          · refine x_ic_ne rfl rfl (fun h12 => ?_) (fun h12 => ?_)
            · refine x_P 15 rfl rfl rfl ?_
              refine x_P 16 rfl rfl rfl ?_
              refine x_ic_eq rfl rfl (fun h11 => ?_) (fun h11 => ?_)
              · exact x_lv (hj4 ()) trivial
              · exact x_lv (hj6 ()) ⟨rfl, rfl, trivial⟩
            · exact x_lv (hj6 ()) ⟨rfl, rfl, trivial⟩
-- 235 NineTreesModel.area(III)I
noncomputable def m_235 (a0 : Nat) (a1 : Int32) (a2 : Int32) (a3 : Int32) (th : tH) : Option (Int32) :=
  (gC th 8 a0).bind fun _ =>
  (gI th 8 a0 9).bind fun x1 =>
  (dvI a2 x1).bind fun x2 =>
  (gI th 8 a0 9).bind fun x3 =>
  (dvI a1 x3).bind fun x4 =>
  (gI th 8 a0 9).bind fun x5 =>
  (rmI a2 x5).bind fun x6 =>
  (gI th 8 a0 9).bind fun x7 =>
  (rmI a1 x7).bind fun x8 =>
  (gI th 8 a0 9).bind fun x9 =>
  (rmI a3 x9).bind fun x10 =>
  (gI th 8 a0 9).bind fun x11 =>
  (rmI a1 x11).bind fun x12 =>
  (gI th 8 a0 9).bind fun x13 =>
  (dvI a3 x13).bind fun x14 =>
  (gI th 8 a0 9).bind fun x15 =>
  (dvI a1 x15).bind fun x16 =>
  some (((x2 - x4) * (x10 - x12)) - ((x6 - x8) * (x14 - x16)))
theorem c_235 {a0 : Nat} {a1 : Int32} {a2 : Int32} {a3 : Int32} {th : tH} {x : (Int32)} (h : m_235 a0 a1 a2 a3 th = some x) : ∃ fs, th[a0]? = some (.inr (8, fs)) := gC_of h
theorem S_235 {L : Nat} (d : Nat) (a0 : Nat) (a1 : Int32) (a2 : Int32) (a3 : Int32) (th : tH) : Wx L (fun x => (some (.int x), th)) d 235 6 0 [(0, .ref a0), (1, .int a1), (2, .int a2), (3, .int a3)] [] th (m_235 a0 a1 a2 a3 th) := by
  unfold m_235
  refine x_gC ?_
  refine x_P 1 rfl rfl rfl ?_
  refine x_P 2 rfl rfl rfl ?_
  refine x_gI rfl (fun x1 hx1 => ?_)
  refine x_dv rfl rfl (fun x2 hx2 => ?_)
  refine x_P 7 rfl rfl rfl ?_
  refine x_P 8 rfl rfl rfl ?_
  refine x_gI rfl (fun x3 hx3 => ?_)
  refine x_dv rfl rfl (fun x4 hx4 => ?_)
  refine x_P 13 rfl rfl rfl ?_
  refine x_P (lv' := [(4, .int (x2 - x4)), (0, .ref a0), (1, .int a1), (2, .int a2), (3, .int a3)]) 15 rfl rfl rfl ?_
  refine x_P 16 rfl rfl rfl ?_
  refine x_P 17 rfl rfl rfl ?_
  refine x_gI rfl (fun x5 hx5 => ?_)
  refine x_rm rfl rfl (fun x6 hx6 => ?_)
  refine x_P 22 rfl rfl rfl ?_
  refine x_P 23 rfl rfl rfl ?_
  refine x_gI rfl (fun x7 hx7 => ?_)
  refine x_rm rfl rfl (fun x8 hx8 => ?_)
  refine x_P 28 rfl rfl rfl ?_
  refine x_P (lv' := [(5, .int (x6 - x8)), (4, .int (x2 - x4)), (0, .ref a0), (1, .int a1), (2, .int a2), (3, .int a3)]) 30 rfl rfl rfl ?_
  refine x_P 32 rfl rfl rfl ?_
  refine x_P 33 rfl rfl rfl ?_
  refine x_P 34 rfl rfl rfl ?_
  refine x_gI rfl (fun x9 hx9 => ?_)
  refine x_rm rfl rfl (fun x10 hx10 => ?_)
  refine x_P 39 rfl rfl rfl ?_
  refine x_P 40 rfl rfl rfl ?_
  refine x_gI rfl (fun x11 hx11 => ?_)
  refine x_rm rfl rfl (fun x12 hx12 => ?_)
  refine x_P 45 rfl rfl rfl ?_
  refine x_P 46 rfl rfl rfl ?_
  refine x_P 48 rfl rfl rfl ?_
  refine x_P 49 rfl rfl rfl ?_
  refine x_P 50 rfl rfl rfl ?_
  refine x_gI rfl (fun x13 hx13 => ?_)
  refine x_dv rfl rfl (fun x14 hx14 => ?_)
  refine x_P 55 rfl rfl rfl ?_
  refine x_P 56 rfl rfl rfl ?_
  refine x_gI rfl (fun x15 hx15 => ?_)
  refine x_dv rfl rfl (fun x16 hx16 => ?_)
  refine x_P 61 rfl rfl rfl ?_
  refine x_P 62 rfl rfl rfl ?_
  refine x_P 63 rfl rfl rfl ?_
  exact x_retI (x := (((x2 - x4) * (x10 - x12)) - ((x6 - x8) * (x14 - x16)))) rfl
-- 236 NineTreesModel.areInLine(III)Z
noncomputable def m_236 (a0 : Nat) (a1 : Int32) (a2 : Int32) (a3 : Int32) (th : tH) : Option (Int32) :=
  (gC th 8 a0).bind fun _ =>
  (m_235 a0 a1 a2 a3 th).bind fun x1 =>
  jn (fun (v2 : Int32) =>
      rB v2
    ) (fun j3 =>
      if x1 = 0 then
        j3 (Int32.ofInt 1)
      else
        j3 (Int32.ofInt 0)
    )
theorem c_236 {a0 : Nat} {a1 : Int32} {a2 : Int32} {a3 : Int32} {th : tH} {x : (Int32)} (h : m_236 a0 a1 a2 a3 th = some x) : ∃ fs, th[a0]? = some (.inr (8, fs)) := gC_of h
theorem S_236 {L : Nat} (d : Nat) (a0 : Nat) (a1 : Int32) (a2 : Int32) (a3 : Int32) (th : tH) : Wx L (fun x => (some (.int x), th)) (d + 1) 236 4 0 [(0, .ref a0), (1, .int a1), (2, .int a2), (3, .int a3)] [] th (m_236 a0 a1 a2 a3 th) := by
  unfold m_236
  refine x_gC ?_
  refine x_P 1 rfl rfl rfl ?_
  refine x_P 2 rfl rfl rfl ?_
  refine x_P 3 rfl rfl rfl ?_
  refine x_P 4 rfl rfl rfl ?_
  refine x_callV rfl rfl rfl rfl rfl ⟨rfl, rfl⟩ (fun x h => c_235 h) (S_235 d a0 a1 a2 a3 th) (fun x1 hx1 => ?_)
  refine x_jn 15 (fun v2 => []) (fun v2 => [.int v2]) (fun v2 => th) (fun v2 => ?_) (fun j3 hj3 => ?_)
  · exact x_rB rfl
  · refine x_if_ne rfl rfl (fun h4 => ?_) (fun h4 => ?_)
    · refine x_P 11 rfl rfl rfl ?_
      refine x_P 15 rfl rfl rfl ?_
      exact x_lv (hj3 (Int32.ofInt 1)) trivial
    · refine x_P 15 rfl rfl rfl ?_
      exact x_lv (hj3 (Int32.ofInt 0)) trivial
-- 239 NineTreesModel.rowThrough(II)I
noncomputable def m_239 (a0 : Nat) (a1 : Int32) (a2 : Int32) (th : tH) : Option (Int32) :=
  (gC th 8 a0).bind fun _ =>
  lp (fun (s1 : Int32 × Int32) nx2 ex3 =>
      (gI th 8 a0 10).bind fun x5 =>
      if x5 ≤ s1.2 then
        ex3 s1.1
      else
        jn (fun (v6 : Int32) =>
            jn (fun (v8 : Int32 × Int32) =>
                nx2 ((v8.2 ||| v8.1), (s1.2 + Int32.ofInt 1))
              ) (fun j9 =>
                jn (fun (v10 : Int32) =>
                    j9 ((Int32.ofInt 0), v10)
                  ) (fun j11 =>
                    if v6 = 0 then
                      j11 s1.1
                    else
                      (gN th 8 a0 11).bind fun o12 =>
                      (aI th o12 s1.2).bind fun x13 =>
                      if x13 = (Int32.ofInt 4) then
                        j11 s1.1
                      else
                        j9 (((Int32.ofInt 1) <<< (s1.2 &&& 31)), s1.1)
                  )
              )
          ) (fun j7 =>
            jn (fun (v16 : Unit) =>
                j7 (Int32.ofInt 1)
              ) (fun j17 =>
                if s1.2 = a1 then
                  j17 ()
                else
                  if s1.2 = a2 then
                    j17 ()
                  else
                    (gN th 8 a0 12).bind fun o18 =>
                    (aI th o18 a1).bind fun x19 =>
                    (gN th 8 a0 12).bind fun o20 =>
                    (aI th o20 a2).bind fun x21 =>
                    (gN th 8 a0 12).bind fun o22 =>
                    (aI th o22 s1.2).bind fun x23 =>
                    (m_236 a0 x19 x21 x23 th).bind fun x24 =>
                    if x24 = 0 then
                      j7 (Int32.ofInt 0)
                    else
                      j17 ()
              )
          )
    ) 4096 ((Int32.ofInt 0), (Int32.ofInt 0)) (fun (x4 : Int32) =>
      some x4
    )
theorem c_239 {a0 : Nat} {a1 : Int32} {a2 : Int32} {th : tH} {x : (Int32)} (h : m_239 a0 a1 a2 th = some x) : ∃ fs, th[a0]? = some (.inr (8, fs)) := gC_of h
theorem S_239 {L : Nat} (d : Nat) (a0 : Nat) (a1 : Int32) (a2 : Int32) (th : tH) : Wx L (fun x => (some (.int x), th)) (d + 2) 239 6 0 [(0, .ref a0), (1, .int a1), (2, .int a2)] [] th (m_239 a0 a1 a2 th) := by
  unfold m_239
  refine x_gC ?_
  refine x_P 1 rfl rfl rfl ?_
  refine x_P (lv' := [(3, .int (Int32.ofInt 0)), (0, .ref a0), (1, .int a1), (2, .int a2)]) 2 rfl rfl rfl ?_
  refine x_P 3 rfl rfl rfl ?_
  refine x_P (lv' := [(4, .int (Int32.ofInt 0)), (3, .int (Int32.ofInt 0)), (0, .ref a0), (1, .int a1), (2, .int a2)]) 5 rfl rfl rfl ?_
  refine x_lv (lv := [(0, .ref a0), (1, .int a1), (2, .int a2), (3, .int (Int32.ofInt 0)), (4, .int (Int32.ofInt 0))]) (x_lp 92 (fun s1 => [(0, .ref a0), (1, .int a1), (2, .int a2), (3, .int s1.1), (4, .int s1.2)]) (fun s1 => th) (fun x4 => [(3, .int x4)]) (fun x4 => th) (fun s1 nx2 hnx2 ex3 hex3 => ?_) (fun x4 => ?_) 4096 ((Int32.ofInt 0), (Int32.ofInt 0))) ⟨rfl, rfl, rfl, rfl, rfl, trivial⟩
  · refine x_P 7 rfl rfl rfl ?_
    refine x_P 8 rfl rfl rfl ?_
    refine x_gI rfl (fun x5 hx5 => ?_)
    refine x_ic_ge rfl rfl (fun h28 => ?_) (fun h28 => ?_)
    · exact x_lv (hex3 s1.1) ⟨rfl, trivial⟩
    · refine x_P 16 rfl rfl rfl ?_
      refine x_P 17 rfl rfl rfl ?_
      refine x_jn 57 (fun v6 => [(0, .ref a0), (1, .int a1), (2, .int a2), (3, .int s1.1), (4, .int s1.2)]) (fun v6 => [.int v6]) (fun v6 => th) (fun v6 => ?_) (fun j7 hj7 => ?_)
      · refine x_P (lv' := [(5, .int v6), (0, .ref a0), (1, .int a1), (2, .int a2), (3, .int s1.1), (4, .int s1.2)]) 59 rfl rfl rfl ?_
        refine x_P 60 rfl rfl rfl ?_
        refine x_P 62 rfl rfl rfl ?_
        refine x_jn 84 (fun v8 => [(0, .ref a0), (1, .int a1), (2, .int a2), (4, .int s1.2)]) (fun v8 => [.int v8.1, .int v8.2]) (fun v8 => th) (fun v8 => ?_) (fun j9 hj9 => ?_)
        · refine x_P 85 rfl rfl rfl ?_
          refine x_P (lv' := [(3, .int (v8.2 ||| v8.1)), (0, .ref a0), (1, .int a1), (2, .int a2), (4, .int s1.2)]) 86 rfl rfl rfl ?_
          refine x_P (lv' := [(4, .int (s1.2 + Int32.ofInt 1)), (3, .int (v8.2 ||| v8.1)), (0, .ref a0), (1, .int a1), (2, .int a2)]) 89 rfl rfl rfl ?_
          refine x_P 5 rfl rfl rfl ?_
          exact x_lv (hnx2 ((v8.2 ||| v8.1), (s1.2 + Int32.ofInt 1))) ⟨rfl, rfl, rfl, rfl, rfl, trivial⟩
        · refine x_jn 83 (fun v10 => [(0, .ref a0), (1, .int a1), (2, .int a2), (4, .int s1.2)]) (fun v10 => [.int v10]) (fun v10 => th) (fun v10 => ?_) (fun j11 hj11 => ?_)
          · refine x_P 84 rfl rfl rfl ?_
            exact x_lv (hj9 ((Int32.ofInt 0), v10)) ⟨rfl, rfl, rfl, rfl, trivial⟩
          · refine x_if_eq rfl rfl (fun h15 => ?_) (fun h15 => ?_)
            · exact x_lv (hj11 s1.1) ⟨rfl, rfl, rfl, rfl, trivial⟩
            · refine x_P 66 rfl rfl rfl ?_
              refine x_gN rfl (fun o12 ho12 => ?_)
              refine x_P 71 rfl rfl rfl ?_
              refine x_aI rfl ⟨rfl, rfl⟩ (fun x13 hx13 => ?_)
              refine x_P 73 rfl rfl rfl ?_
              refine x_ic_eq rfl rfl (fun h14 => ?_) (fun h14 => ?_)
              · exact x_lv (hj11 s1.1) ⟨rfl, rfl, rfl, rfl, trivial⟩
              · refine x_P 77 rfl rfl rfl ?_
                refine x_P 79 rfl rfl rfl ?_
                refine x_P 80 rfl rfl rfl ?_
                refine x_P 84 rfl rfl rfl ?_
                exact x_lv (hj9 (((Int32.ofInt 1) <<< (s1.2 &&& 31)), s1.1)) ⟨rfl, rfl, rfl, rfl, trivial⟩
      · refine x_jn 52 (fun v16 => [(0, .ref a0), (1, .int a1), (2, .int a2), (3, .int s1.1), (4, .int s1.2)]) (fun v16 => []) (fun v16 => th) (fun v16 => ?_) (fun j17 hj17 => ?_)
        · refine x_P 53 rfl rfl rfl ?_
          refine x_P 57 rfl rfl rfl ?_
          exact x_lv (hj7 (Int32.ofInt 1)) ⟨rfl, rfl, rfl, rfl, rfl, trivial⟩
        · refine x_ic_eq rfl rfl (fun h27 => ?_) (fun h27 => ?_)
          · exact x_lv (hj17 ()) ⟨rfl, rfl, rfl, rfl, rfl, trivial⟩
          · refine x_P 22 rfl rfl rfl ?_
            refine x_P 23 rfl rfl rfl ?_
            refine x_ic_eq rfl rfl (fun h26 => ?_) (fun h26 => ?_)
            · exact x_lv (hj17 ()) ⟨rfl, rfl, rfl, rfl, rfl, trivial⟩
            · refine x_P 27 rfl rfl rfl ?_
              refine x_P 28 rfl rfl rfl ?_
              refine x_gN rfl (fun o18 ho18 => ?_)
              refine x_P 32 rfl rfl rfl ?_
              refine x_aI rfl ⟨rfl, rfl⟩ (fun x19 hx19 => ?_)
              refine x_P 34 rfl rfl rfl ?_
              refine x_gN rfl (fun o20 ho20 => ?_)
              refine x_P 38 rfl rfl rfl ?_
              refine x_aI rfl ⟨rfl, rfl⟩ (fun x21 hx21 => ?_)
              refine x_P 40 rfl rfl rfl ?_
              refine x_gN rfl (fun o22 ho22 => ?_)
              refine x_P 45 rfl rfl rfl ?_
              refine x_aI rfl ⟨rfl, rfl⟩ (fun x23 hx23 => ?_)
              refine x_callV rfl rfl rfl rfl rfl ⟨rfl, rfl⟩ (fun x h => c_236 h) (S_236 d a0 x19 x21 x23 th) (fun x24 hx24 => ?_)
              refine x_if_eq rfl rfl (fun h25 => ?_) (fun h25 => ?_)
              · refine x_P 57 rfl rfl rfl ?_
                exact x_lv (hj7 (Int32.ofInt 0)) ⟨rfl, rfl, rfl, rfl, rfl, trivial⟩
              · exact x_lv (hj17 ()) ⟨rfl, rfl, rfl, rfl, rfl, trivial⟩
  · refine x_P 93 rfl rfl rfl ?_
    exact x_retI (x := x4) rfl
end
section
/-! ===== programs ===== -/
-- 241 NineTreesModel.putRow(I)V
noncomputable def m_241 (a0 : Nat) (a1 : Int32) (th : tH) : Option tH :=
  (gC th 8 a0).bind fun _ =>
  (gI th 8 a0 27).bind fun x1 =>
  (pI th 8 a0 27 (x1 + (Int32.ofInt 1))).bind fun th2 =>
  lp (fun (s3 : Int32 × tH) nx4 ex5 =>
      if s3.1 ≤ 0 then
        ex5 (s3.1, s3.2)
      else
        (gN s3.2 8 a0 26).bind fun o9 =>
        (aI s3.2 o9 (s3.1 - (Int32.ofInt 1))).bind fun x10 =>
        if x10 ≤ a1 then
          ex5 (s3.1, s3.2)
        else
          (gN s3.2 8 a0 26).bind fun o11 =>
          (gN s3.2 8 a0 26).bind fun o12 =>
          (aI s3.2 o12 (s3.1 - (Int32.ofInt 1))).bind fun x13 =>
          (sI s3.2 o11 s3.1 x13).bind fun th14 =>
          nx4 ((s3.1 + Int32.ofInt (-1)), th14)
    ) 4096 (x1, th2) (fun (x6 : Int32 × tH) =>
      (gN x6.2 8 a0 26).bind fun o7 =>
      (sI x6.2 o7 x6.1 a1).bind fun th8 =>
      some th8
    )
theorem c_241 {a0 : Nat} {a1 : Int32} {th : tH} {x : tH} (h : m_241 a0 a1 th = some x) : ∃ fs, th[a0]? = some (.inr (8, fs)) := gC_of h
theorem S_241 {L : Nat} (d : Nat) (a0 : Nat) (a1 : Int32) (th : tH) : Wx L (fun x => (none, x)) (d + 1) 241 3 0 [(0, .ref a0), (1, .int a1)] [] th (m_241 a0 a1 th) := by
  unfold m_241
  refine x_gC ?_
  refine x_P 1 rfl rfl rfl ?_
  refine x_P 2 rfl rfl rfl ?_
  refine x_gI rfl (fun x1 hx1 => ?_)
  refine x_P 6 rfl rfl rfl ?_
  refine x_P 7 rfl rfl rfl ?_
  refine x_P 8 rfl rfl rfl ?_
  refine x_pI rfl (fun th2 hth2 => ?_)
  refine x_P (lv' := [(2, .int x1), (0, .ref a0), (1, .int a1)]) 12 rfl rfl rfl ?_
  refine x_lv (lv := [(0, .ref a0), (1, .int a1), (2, .int x1)]) (x_lp 48 (fun s3 => [(0, .ref a0), (1, .int a1), (2, .int s3.1)]) (fun s3 => s3.2) (fun x6 => [(0, .ref a0), (1, .int a1), (2, .int x6.1)]) (fun x6 => x6.2) (fun s3 nx4 hnx4 ex5 hex5 => ?_) (fun x6 => ?_) 4096 (x1, th2)) ⟨rfl, rfl, rfl, trivial⟩
  · refine x_P 13 rfl rfl rfl ?_
    refine x_if_le rfl rfl (fun h16 => ?_) (fun h16 => ?_)
    · exact x_lv (hex5 (s3.1, s3.2)) ⟨rfl, rfl, rfl, trivial⟩
    · refine x_P 17 rfl rfl rfl ?_
      refine x_gN rfl (fun o9 ho9 => ?_)
      refine x_P 21 rfl rfl rfl ?_
      refine x_P 22 rfl rfl rfl ?_
      refine x_P 23 rfl rfl rfl ?_
      refine x_aI rfl ⟨rfl, rfl⟩ (fun x10 hx10 => ?_)
      refine x_P 25 rfl rfl rfl ?_
      refine x_ic_le rfl rfl (fun h15 => ?_) (fun h15 => ?_)
      · exact x_lv (hex5 (s3.1, s3.2)) ⟨rfl, rfl, rfl, trivial⟩
      · refine x_P 29 rfl rfl rfl ?_
        refine x_gN rfl (fun o11 ho11 => ?_)
        refine x_P 33 rfl rfl rfl ?_
        refine x_P 34 rfl rfl rfl ?_
        refine x_gN rfl (fun o12 ho12 => ?_)
        refine x_P 38 rfl rfl rfl ?_
        refine x_P 39 rfl rfl rfl ?_
        refine x_P 40 rfl rfl rfl ?_
        refine x_aI rfl ⟨rfl, rfl⟩ (fun x13 hx13 => ?_)
        refine x_sI rfl ⟨rfl, rfl⟩ (fun th14 hth14 => ?_)
        refine x_P (lv' := [(2, .int (s3.1 + Int32.ofInt (-1))), (0, .ref a0), (1, .int a1)]) 45 rfl rfl rfl ?_
        refine x_P 12 rfl rfl rfl ?_
        exact x_lv (hnx4 ((s3.1 + Int32.ofInt (-1)), th14)) ⟨rfl, rfl, rfl, trivial⟩
  · refine x_P 49 rfl rfl rfl ?_
    refine x_gN rfl (fun o7 ho7 => ?_)
    refine x_P 53 rfl rfl rfl ?_
    refine x_P 54 rfl rfl rfl ?_
    refine x_sI rfl ⟨rfl, rfl⟩ (fun th8 hth8 => ?_)
    exact x_retV (x := th8) rfl
-- 240 NineTreesModel.findRows()V
noncomputable def m_240 (a0 : Nat) (th : tH) : Option tH :=
  (gC th 8 a0).bind fun _ =>
  (pI th 8 a0 27 (Int32.ofInt 0)).bind fun th1 =>
  lp (fun (s2 : Int32 × tH) nx3 ex4 =>
      (gI s2.2 8 a0 10).bind fun x6 =>
      if x6 ≤ s2.1 then
        ex4 s2.2
      else
        lp (fun (s7 : Int32 × tH) nx8 ex9 =>
            (gI s7.2 8 a0 10).bind fun x11 =>
            if x11 ≤ s7.1 then
              ex9 s7.2
            else
              (gN s7.2 8 a0 11).bind fun o12 =>
              (aI s7.2 o12 s2.1).bind fun x13 =>
              jn (fun (v14 : tH) =>
                  nx8 ((s7.1 + Int32.ofInt 1), v14)
                ) (fun j15 =>
                  if x13 = (Int32.ofInt 4) then
                    j15 s7.2
                  else
                    (gN s7.2 8 a0 11).bind fun o16 =>
                    (aI s7.2 o16 s7.1).bind fun x17 =>
                    if x17 = (Int32.ofInt 4) then
                      j15 s7.2
                    else
                      (m_239 a0 s2.1 s7.1 s7.2).bind fun x18 =>
                      if (x18 &&& (((Int32.ofInt 1) <<< (s7.1 &&& 31)) - (Int32.ofInt 1))) = ((Int32.ofInt 1) <<< (s2.1 &&& 31)) then
                        (m_241 a0 x18 s7.2).bind fun th19 =>
                        j15 th19
                      else
                        j15 s7.2
                )
          ) 4096 ((s2.1 + (Int32.ofInt 1)), s2.2) (fun (x10 : tH) =>
            nx3 ((s2.1 + Int32.ofInt 1), x10)
          )
    ) 4096 ((Int32.ofInt 0), th1) (fun (x5 : tH) =>
      some x5
    )
theorem c_240 {a0 : Nat} {th : tH} {x : tH} (h : m_240 a0 th = some x) : ∃ fs, th[a0]? = some (.inr (8, fs)) := gC_of h
theorem S_240 {L : Nat} (d : Nat) (a0 : Nat) (th : tH) : Wx L (fun x => (none, x)) (d + 3) 240 4 0 [(0, .ref a0)] [] th (m_240 a0 th) := by
  unfold m_240
  refine x_gC ?_
  refine x_P 1 rfl rfl rfl ?_
  refine x_P 2 rfl rfl rfl ?_
  refine x_pI rfl (fun th1 hth1 => ?_)
  refine x_P 6 rfl rfl rfl ?_
  refine x_P (lv' := [(1, .int (Int32.ofInt 0)), (0, .ref a0)]) 7 rfl rfl rfl ?_
  refine x_lv (lv := [(0, .ref a0), (1, .int (Int32.ofInt 0))]) (x_lp 84 (fun s2 => [(0, .ref a0), (1, .int s2.1)]) (fun s2 => s2.2) (fun x5 => []) (fun x5 => x5) (fun s2 nx3 hnx3 ex4 hex4 => ?_) (fun x5 => ?_) 4096 ((Int32.ofInt 0), th1)) ⟨rfl, rfl, trivial⟩
  · refine x_P 8 rfl rfl rfl ?_
    refine x_P 9 rfl rfl rfl ?_
    refine x_gI rfl (fun x6 hx6 => ?_)
    refine x_ic_ge rfl rfl (fun h24 => ?_) (fun h24 => ?_)
    · exact x_lv (hex4 s2.2) trivial
    · refine x_P 16 rfl rfl rfl ?_
      refine x_P 17 rfl rfl rfl ?_
      refine x_P 18 rfl rfl rfl ?_
      refine x_P (lv' := [(2, .int (s2.1 + (Int32.ofInt 1))), (0, .ref a0), (1, .int s2.1)]) 19 rfl rfl rfl ?_
      refine x_lv (lv := [(0, .ref a0), (1, .int s2.1), (2, .int (s2.1 + (Int32.ofInt 1)))]) (x_lp 78 (fun s7 => [(0, .ref a0), (1, .int s2.1), (2, .int s7.1)]) (fun s7 => s7.2) (fun x10 => [(0, .ref a0), (1, .int s2.1)]) (fun x10 => x10) (fun s7 nx8 hnx8 ex9 hex9 => ?_) (fun x10 => ?_) 4096 ((s2.1 + (Int32.ofInt 1)), s2.2)) ⟨rfl, rfl, rfl, trivial⟩
      · refine x_P 20 rfl rfl rfl ?_
        refine x_P 21 rfl rfl rfl ?_
        refine x_gI rfl (fun x11 hx11 => ?_)
        refine x_ic_ge rfl rfl (fun h23 => ?_) (fun h23 => ?_)
        · exact x_lv (hex9 s7.2) ⟨rfl, rfl, trivial⟩
        · refine x_P 28 rfl rfl rfl ?_
          refine x_gN rfl (fun o12 ho12 => ?_)
          refine x_P 32 rfl rfl rfl ?_
          refine x_aI rfl ⟨rfl, rfl⟩ (fun x13 hx13 => ?_)
          refine x_P 34 rfl rfl rfl ?_
          refine x_jn 72 (fun v14 => [(0, .ref a0), (1, .int s2.1), (2, .int s7.1)]) (fun v14 => []) (fun v14 => v14) (fun v14 => ?_) (fun j15 hj15 => ?_)
          · refine x_P (lv' := [(2, .int (s7.1 + Int32.ofInt 1)), (0, .ref a0), (1, .int s2.1)]) 75 rfl rfl rfl ?_
            refine x_P 19 rfl rfl rfl ?_
            exact x_lv (hnx8 ((s7.1 + Int32.ofInt 1), v14)) ⟨rfl, rfl, rfl, trivial⟩
          · refine x_ic_eq rfl rfl (fun h22 => ?_) (fun h22 => ?_)
            · exact x_lv (hj15 s7.2) ⟨rfl, rfl, rfl, trivial⟩
            · refine x_P 38 rfl rfl rfl ?_
              refine x_gN rfl (fun o16 ho16 => ?_)
              refine x_P 42 rfl rfl rfl ?_
              refine x_aI rfl ⟨rfl, rfl⟩ (fun x17 hx17 => ?_)
              refine x_P 44 rfl rfl rfl ?_
              refine x_ic_eq rfl rfl (fun h21 => ?_) (fun h21 => ?_)
              · exact x_lv (hj15 s7.2) ⟨rfl, rfl, rfl, trivial⟩
              · refine x_P 48 rfl rfl rfl ?_
                refine x_P 49 rfl rfl rfl ?_
                refine x_P 50 rfl rfl rfl ?_
                refine x_callV rfl rfl rfl rfl rfl ⟨rfl, rfl⟩ (fun x h => c_239 h) (S_239 d a0 s2.1 s7.1 s7.2) (fun x18 hx18 => ?_)
                refine x_P (lv' := [(3, .int x18), (0, .ref a0), (1, .int s2.1), (2, .int s7.1)]) 54 rfl rfl rfl ?_
                refine x_P 55 rfl rfl rfl ?_
                refine x_P 56 rfl rfl rfl ?_
                refine x_P 57 rfl rfl rfl ?_
                refine x_P 58 rfl rfl rfl ?_
                refine x_P 59 rfl rfl rfl ?_
                refine x_P 60 rfl rfl rfl ?_
                refine x_P 61 rfl rfl rfl ?_
                refine x_P 62 rfl rfl rfl ?_
                refine x_P 63 rfl rfl rfl ?_
                refine x_P 64 rfl rfl rfl ?_
                refine x_ic_ne rfl rfl (fun h20 => ?_) (fun h20 => ?_)
                · refine x_P 68 rfl rfl rfl ?_
                  refine x_P 69 rfl rfl rfl ?_
                  refine x_callW rfl rfl rfl rfl rfl ⟨rfl, rfl⟩ (fun x h => c_241 h) (S_241 (d + 1) a0 x18 s7.2) (fun th19 hth19 => ?_)
                  exact x_lv (hj15 th19) ⟨rfl, rfl, rfl, trivial⟩
                · exact x_lv (hj15 s7.2) ⟨rfl, rfl, rfl, trivial⟩
      · refine x_P (lv' := [(1, .int (s2.1 + Int32.ofInt 1)), (0, .ref a0)]) 81 rfl rfl rfl ?_
        refine x_P 7 rfl rfl rfl ?_
        exact x_lv (hnx3 ((s2.1 + Int32.ofInt 1), x10)) ⟨rfl, rfl, trivial⟩
  · exact x_retV (x := x5) rfl
-- 242 NineTreesModel.rowsWith(II)I
noncomputable def m_242 (a0 : Nat) (a1 : Int32) (a2 : Int32) (th : tH) : Option (Int32 × tH) :=
  (gC th 8 a0).bind fun _ =>
  (m_240 a0 th).bind fun th1 =>
  lp (fun (s2 : Int32 × Int32) nx3 ex4 =>
      (gI th1 8 a0 27).bind fun x6 =>
      if x6 ≤ s2.2 then
        ex4 s2.1
      else
        (gN th1 8 a0 26).bind fun o7 =>
        (aI th1 o7 s2.2).bind fun x8 =>
        (m_195 x8 a1 th1).bind fun x9 =>
        jn (fun (v10 : Int32 × Int32) =>
            nx3 ((v10.2 + v10.1), (s2.2 + Int32.ofInt 1))
          ) (fun j11 =>
            jn (fun (v12 : Int32) =>
                j11 ((Int32.ofInt 0), v12)
              ) (fun j13 =>
                if x9 = 0 then
                  j13 s2.1
                else
                  (gN th1 8 a0 26).bind fun o14 =>
                  (aI th1 o14 s2.2).bind fun x15 =>
                  (m_196 x15 th1).bind fun x16 =>
                  if x16 < a2 then
                    j13 s2.1
                  else
                    j11 ((Int32.ofInt 1), s2.1)
              )
          )
    ) 4096 ((Int32.ofInt 0), (Int32.ofInt 0)) (fun (x5 : Int32) =>
      some (x5, th1)
    )
theorem c_242 {a0 : Nat} {a1 : Int32} {a2 : Int32} {th : tH} {x : (Int32 × tH)} (h : m_242 a0 a1 a2 th = some x) : ∃ fs, th[a0]? = some (.inr (8, fs)) := gC_of h
theorem S_242 {L : Nat} (d : Nat) (a0 : Nat) (a1 : Int32) (a2 : Int32) (th : tH) : Wx L (fun x => (some (.int x.1), x.2)) (d + 4) 242 5 0 [(0, .ref a0), (1, .int a1), (2, .int a2)] [] th (m_242 a0 a1 a2 th) := by
  unfold m_242
  refine x_gC ?_
  refine x_P 1 rfl rfl rfl ?_
  refine x_callW rfl rfl rfl rfl rfl ⟨rfl, rfl⟩ (fun x h => c_240 h) (S_240 d a0 th) (fun th1 hth1 => ?_)
  refine x_P 5 rfl rfl rfl ?_
  refine x_P (lv' := [(3, .int (Int32.ofInt 0)), (0, .ref a0), (1, .int a1), (2, .int a2)]) 6 rfl rfl rfl ?_
  refine x_P 7 rfl rfl rfl ?_
  refine x_P (lv' := [(4, .int (Int32.ofInt 0)), (3, .int (Int32.ofInt 0)), (0, .ref a0), (1, .int a1), (2, .int a2)]) 9 rfl rfl rfl ?_
  refine x_lv (lv := [(0, .ref a0), (1, .int a1), (2, .int a2), (3, .int (Int32.ofInt 0)), (4, .int (Int32.ofInt 0))]) (x_lp 60 (fun s2 => [(0, .ref a0), (1, .int a1), (2, .int a2), (3, .int s2.1), (4, .int s2.2)]) (fun s2 => th1) (fun x5 => [(3, .int x5)]) (fun x5 => th1) (fun s2 nx3 hnx3 ex4 hex4 => ?_) (fun x5 => ?_) 4096 ((Int32.ofInt 0), (Int32.ofInt 0))) ⟨rfl, rfl, rfl, rfl, rfl, trivial⟩
  · refine x_P 11 rfl rfl rfl ?_
    refine x_P 12 rfl rfl rfl ?_
    refine x_gI rfl (fun x6 hx6 => ?_)
    refine x_ic_ge rfl rfl (fun h19 => ?_) (fun h19 => ?_)
    · exact x_lv (hex4 s2.1) ⟨rfl, trivial⟩
    · refine x_P 19 rfl rfl rfl ?_
      refine x_P 20 rfl rfl rfl ?_
      refine x_gN rfl (fun o7 ho7 => ?_)
      refine x_P 25 rfl rfl rfl ?_
      refine x_aI rfl ⟨rfl, rfl⟩ (fun x8 hx8 => ?_)
      refine x_P 27 rfl rfl rfl ?_
      refine x_callS rfl rfl rfl rfl rfl rfl ⟨rfl, rfl⟩ (S_195 (d + 3) x8 a1 th1) (fun x9 hx9 => ?_)
      refine x_jn 52 (fun v10 => [(0, .ref a0), (1, .int a1), (2, .int a2), (4, .int s2.2)]) (fun v10 => [.int v10.1, .int v10.2]) (fun v10 => th1) (fun v10 => ?_) (fun j11 hj11 => ?_)
      · refine x_P 53 rfl rfl rfl ?_
        refine x_P (lv' := [(3, .int (v10.2 + v10.1)), (0, .ref a0), (1, .int a1), (2, .int a2), (4, .int s2.2)]) 54 rfl rfl rfl ?_
        refine x_P (lv' := [(4, .int (s2.2 + Int32.ofInt 1)), (3, .int (v10.2 + v10.1)), (0, .ref a0), (1, .int a1), (2, .int a2)]) 57 rfl rfl rfl ?_
        refine x_P 9 rfl rfl rfl ?_
        exact x_lv (hnx3 ((v10.2 + v10.1), (s2.2 + Int32.ofInt 1))) ⟨rfl, rfl, rfl, rfl, rfl, trivial⟩
      · refine x_jn 51 (fun v12 => [(0, .ref a0), (1, .int a1), (2, .int a2), (4, .int s2.2)]) (fun v12 => [.int v12]) (fun v12 => th1) (fun v12 => ?_) (fun j13 hj13 => ?_)
        · refine x_P 52 rfl rfl rfl ?_
          exact x_lv (hj11 ((Int32.ofInt 0), v12)) ⟨rfl, rfl, rfl, rfl, trivial⟩
        · refine x_if_eq rfl rfl (fun h18 => ?_) (fun h18 => ?_)
          · exact x_lv (hj13 s2.1) ⟨rfl, rfl, rfl, rfl, trivial⟩
          · refine x_P 34 rfl rfl rfl ?_
            refine x_gN rfl (fun o14 ho14 => ?_)
            refine x_P 39 rfl rfl rfl ?_
            refine x_aI rfl ⟨rfl, rfl⟩ (fun x15 hx15 => ?_)
            refine x_callS rfl rfl rfl rfl rfl rfl ⟨rfl, rfl⟩ (S_196 (d + 3) x15 th1) (fun x16 hx16 => ?_)
            refine x_P 44 rfl rfl rfl ?_
            refine x_ic_lt rfl rfl (fun h17 => ?_) (fun h17 => ?_)
            · exact x_lv (hj13 s2.1) ⟨rfl, rfl, rfl, rfl, trivial⟩
            · refine x_P 48 rfl rfl rfl ?_
              refine x_P 52 rfl rfl rfl ?_
              exact x_lv (hj11 ((Int32.ofInt 1), s2.1)) ⟨rfl, rfl, rfl, rfl, trivial⟩
  · refine x_P 61 rfl rfl rfl ?_
    exact x_retI (x := (x5, th1)) rfl
-- 210 NineTreesModel.wishesWith(I)I
noncomputable def m_210 (a0 : Nat) (a1 : Int32) (th : tH) : Option (Int32) :=
  (gC th 8 a0).bind fun _ =>
  lp (fun (s1 : Int32 × Int32) nx2 ex3 =>
      (gI th 8 a0 14).bind fun x5 =>
      if x5 ≤ s1.2 then
        ex3 s1.1
      else
        (gN th 8 a0 15).bind fun o6 =>
        (aI th o6 s1.2).bind fun x7 =>
        (m_195 x7 a1 th).bind fun x8 =>
        jn (fun (v9 : Int32 × Int32) =>
            nx2 ((v9.2 + v9.1), (s1.2 + Int32.ofInt 1))
          ) (fun j10 =>
            if x8 = 0 then
              j10 ((Int32.ofInt 0), s1.1)
            else
              j10 ((Int32.ofInt 1), s1.1)
          )
    ) 4096 ((Int32.ofInt 0), (Int32.ofInt 0)) (fun (x4 : Int32) =>
      some x4
    )
theorem c_210 {a0 : Nat} {a1 : Int32} {th : tH} {x : (Int32)} (h : m_210 a0 a1 th = some x) : ∃ fs, th[a0]? = some (.inr (8, fs)) := gC_of h
theorem S_210 {L : Nat} (d : Nat) (a0 : Nat) (a1 : Int32) (th : tH) : Wx L (fun x => (some (.int x), th)) (d + 1) 210 4 0 [(0, .ref a0), (1, .int a1)] [] th (m_210 a0 a1 th) := by
  unfold m_210
  refine x_gC ?_
  refine x_P 1 rfl rfl rfl ?_
  refine x_P (lv' := [(2, .int (Int32.ofInt 0)), (0, .ref a0), (1, .int a1)]) 2 rfl rfl rfl ?_
  refine x_P 3 rfl rfl rfl ?_
  refine x_P (lv' := [(3, .int (Int32.ofInt 0)), (2, .int (Int32.ofInt 0)), (0, .ref a0), (1, .int a1)]) 4 rfl rfl rfl ?_
  refine x_lv (lv := [(0, .ref a0), (1, .int a1), (2, .int (Int32.ofInt 0)), (3, .int (Int32.ofInt 0))]) (x_lp 39 (fun s1 => [(0, .ref a0), (1, .int a1), (2, .int s1.1), (3, .int s1.2)]) (fun s1 => th) (fun x4 => [(2, .int x4)]) (fun x4 => th) (fun s1 nx2 hnx2 ex3 hex3 => ?_) (fun x4 => ?_) 4096 ((Int32.ofInt 0), (Int32.ofInt 0))) ⟨rfl, rfl, rfl, rfl, trivial⟩
  · refine x_P 5 rfl rfl rfl ?_
    refine x_P 6 rfl rfl rfl ?_
    refine x_gI rfl (fun x5 hx5 => ?_)
    refine x_ic_ge rfl rfl (fun h12 => ?_) (fun h12 => ?_)
    · exact x_lv (hex3 s1.1) ⟨rfl, trivial⟩
    · refine x_P 13 rfl rfl rfl ?_
      refine x_P 14 rfl rfl rfl ?_
      refine x_gN rfl (fun o6 ho6 => ?_)
      refine x_P 18 rfl rfl rfl ?_
      refine x_aI rfl ⟨rfl, rfl⟩ (fun x7 hx7 => ?_)
      refine x_P 20 rfl rfl rfl ?_
      refine x_callS rfl rfl rfl rfl rfl rfl ⟨rfl, rfl⟩ (S_195 d x7 a1 th) (fun x8 hx8 => ?_)
      refine x_jn 31 (fun v9 => [(0, .ref a0), (1, .int a1), (3, .int s1.2)]) (fun v9 => [.int v9.1, .int v9.2]) (fun v9 => th) (fun v9 => ?_) (fun j10 hj10 => ?_)
      · refine x_P 32 rfl rfl rfl ?_
        refine x_P (lv' := [(2, .int (v9.2 + v9.1)), (0, .ref a0), (1, .int a1), (3, .int s1.2)]) 33 rfl rfl rfl ?_
        refine x_P (lv' := [(3, .int (s1.2 + Int32.ofInt 1)), (2, .int (v9.2 + v9.1)), (0, .ref a0), (1, .int a1)]) 36 rfl rfl rfl ?_
        refine x_P 4 rfl rfl rfl ?_
        exact x_lv (hnx2 ((v9.2 + v9.1), (s1.2 + Int32.ofInt 1))) ⟨rfl, rfl, rfl, rfl, trivial⟩
      · refine x_if_eq rfl rfl (fun h11 => ?_) (fun h11 => ?_)
        · refine x_P 31 rfl rfl rfl ?_
          exact x_lv (hj10 ((Int32.ofInt 0), s1.1)) ⟨rfl, rfl, rfl, trivial⟩
        · refine x_P 27 rfl rfl rfl ?_
          refine x_P 31 rfl rfl rfl ?_
          exact x_lv (hj10 ((Int32.ofInt 1), s1.1)) ⟨rfl, rfl, rfl, trivial⟩
  · refine x_P 40 rfl rfl rfl ?_
    exact x_retI (x := x4) rfl
-- 238 NineTreesModel.square(II)I
noncomputable def m_238 (a0 : Nat) (a1 : Int32) (a2 : Int32) (th : tH) : Option (Int32) :=
  (gC th 8 a0).bind fun _ =>
  (gI th 8 a0 9).bind fun x1 =>
  (dvI a1 x1).bind fun x2 =>
  (gI th 8 a0 9).bind fun x3 =>
  (dvI a2 x3).bind fun x4 =>
  (gI th 8 a0 9).bind fun x5 =>
  (rmI a1 x5).bind fun x6 =>
  (gI th 8 a0 9).bind fun x7 =>
  (rmI a2 x7).bind fun x8 =>
  some (((x2 - x4) * (x2 - x4)) + ((x6 - x8) * (x6 - x8)))
theorem c_238 {a0 : Nat} {a1 : Int32} {a2 : Int32} {th : tH} {x : (Int32)} (h : m_238 a0 a1 a2 th = some x) : ∃ fs, th[a0]? = some (.inr (8, fs)) := gC_of h
theorem S_238 {L : Nat} (d : Nat) (a0 : Nat) (a1 : Int32) (a2 : Int32) (th : tH) : Wx L (fun x => (some (.int x), th)) d 238 5 0 [(0, .ref a0), (1, .int a1), (2, .int a2)] [] th (m_238 a0 a1 a2 th) := by
  unfold m_238
  refine x_gC ?_
  refine x_P 1 rfl rfl rfl ?_
  refine x_P 2 rfl rfl rfl ?_
  refine x_gI rfl (fun x1 hx1 => ?_)
  refine x_dv rfl rfl (fun x2 hx2 => ?_)
  refine x_P 7 rfl rfl rfl ?_
  refine x_P 8 rfl rfl rfl ?_
  refine x_gI rfl (fun x3 hx3 => ?_)
  refine x_dv rfl rfl (fun x4 hx4 => ?_)
  refine x_P 13 rfl rfl rfl ?_
  refine x_P (lv' := [(3, .int (x2 - x4)), (0, .ref a0), (1, .int a1), (2, .int a2)]) 14 rfl rfl rfl ?_
  refine x_P 15 rfl rfl rfl ?_
  refine x_P 16 rfl rfl rfl ?_
  refine x_gI rfl (fun x5 hx5 => ?_)
  refine x_rm rfl rfl (fun x6 hx6 => ?_)
  refine x_P 21 rfl rfl rfl ?_
  refine x_P 22 rfl rfl rfl ?_
  refine x_gI rfl (fun x7 hx7 => ?_)
  refine x_rm rfl rfl (fun x8 hx8 => ?_)
  refine x_P 27 rfl rfl rfl ?_
  refine x_P (lv' := [(4, .int (x6 - x8)), (3, .int (x2 - x4)), (0, .ref a0), (1, .int a1), (2, .int a2)]) 29 rfl rfl rfl ?_
  refine x_P 30 rfl rfl rfl ?_
  refine x_P 31 rfl rfl rfl ?_
  refine x_P 32 rfl rfl rfl ?_
  refine x_P 34 rfl rfl rfl ?_
  refine x_P 36 rfl rfl rfl ?_
  refine x_P 37 rfl rfl rfl ?_
  refine x_P 38 rfl rfl rfl ?_
  exact x_retI (x := (((x2 - x4) * (x2 - x4)) + ((x6 - x8) * (x6 - x8)))) rfl
-- 272 NineTreesModel.between(II)I
noncomputable def m_272 (a0 : Nat) (a1 : Int32) (a2 : Int32) (th : tH) : Option (Int32) :=
  (gC th 8 a0).bind fun _ =>
  lp (fun (s1 : Int32 × Int32) nx2 ex3 =>
      (gI th 8 a0 10).bind fun x5 =>
      if x5 ≤ s1.2 then
        ex3 s1.1
      else
        jn (fun (v6 : Int32) =>
            (gN th 8 a0 12).bind fun o8 =>
            (aI th o8 a1).bind fun x9 =>
            (gN th 8 a0 12).bind fun o10 =>
            (aI th o10 s1.2).bind fun x11 =>
            (m_238 a0 x9 x11 th).bind fun x12 =>
            (gN th 8 a0 12).bind fun o13 =>
            (aI th o13 a1).bind fun x14 =>
            (m_238 a0 x14 a2 th).bind fun x15 =>
            jn (fun (v16 : Int32 × Int32) =>
                jn (fun (v18 : Int32) =>
                    nx2 (v18, (s1.2 + Int32.ofInt 1))
                  ) (fun j19 =>
                    jn (fun (v20 : Unit) =>
                        j19 s1.1
                      ) (fun j21 =>
                        if (v16.2 &&& v16.1) = 0 then
                          j21 ()
                        else
                          jn (fun (v22 : Unit) =>
                              j19 s1.2
                            ) (fun j23 =>
                              if s1.1 = (Int32.ofInt (-1)) then
                                j23 ()
                              else
                                (gN th 8 a0 12).bind fun o24 =>
                                (aI th o24 s1.2).bind fun x25 =>
                                (m_238 a0 a2 x25 th).bind fun x26 =>
                                (gN th 8 a0 12).bind fun o27 =>
                                (aI th o27 s1.1).bind fun x28 =>
                                (m_238 a0 a2 x28 th).bind fun x29 =>
                                if x29 ≤ x26 then
                                  j21 ()
                                else
                                  j23 ()
                            )
                      )
                  )
              ) (fun j17 =>
                jn (fun (v33 : Int32) =>
                    j17 ((Int32.ofInt 0), v33)
                  ) (fun j34 =>
                    if x15 ≤ x12 then
                      j34 v6
                    else
                      (gN th 8 a0 12).bind fun o35 =>
                      (aI th o35 s1.2).bind fun x36 =>
                      (m_238 a0 a2 x36 th).bind fun x37 =>
                      (gN th 8 a0 12).bind fun o38 =>
                      (aI th o38 a1).bind fun x39 =>
                      (m_238 a0 x39 a2 th).bind fun x40 =>
                      if x40 ≤ x37 then
                        j34 v6
                      else
                        j17 ((Int32.ofInt 1), v6)
                  )
              )
          ) (fun j7 =>
            jn (fun (v43 : Unit) =>
                j7 (Int32.ofInt 0)
              ) (fun j44 =>
                if s1.2 = a1 then
                  j44 ()
                else
                  (gN th 8 a0 12).bind fun o45 =>
                  (aI th o45 s1.2).bind fun x46 =>
                  if x46 = a2 then
                    j44 ()
                  else
                    (m_198 a0 s1.2 th).bind fun x47 =>
                    if x47 = 0 then
                      (gN th 8 a0 12).bind fun o48 =>
                      (aI th o48 a1).bind fun x49 =>
                      (gN th 8 a0 12).bind fun o50 =>
                      (aI th o50 s1.2).bind fun x51 =>
                      (m_236 a0 x49 a2 x51 th).bind fun x52 =>
                      if x52 = 0 then
                        j44 ()
                      else
                        j7 (Int32.ofInt 1)
                    else
                      j44 ()
              )
          )
    ) 4096 ((Int32.ofInt (-1)), (Int32.ofInt 0)) (fun (x4 : Int32) =>
      some x4
    )
theorem c_272 {a0 : Nat} {a1 : Int32} {a2 : Int32} {th : tH} {x : (Int32)} (h : m_272 a0 a1 a2 th = some x) : ∃ fs, th[a0]? = some (.inr (8, fs)) := gC_of h
theorem S_272 {L : Nat} (d : Nat) (a0 : Nat) (a1 : Int32) (a2 : Int32) (th : tH) : Wx L (fun x => (some (.int x), th)) (d + 2) 272 6 0 [(0, .ref a0), (1, .int a1), (2, .int a2)] [] th (m_272 a0 a1 a2 th) := by
  unfold m_272
  refine x_gC ?_
  refine x_P 1 rfl rfl rfl ?_
  refine x_P (lv' := [(3, .int (Int32.ofInt (-1))), (0, .ref a0), (1, .int a1), (2, .int a2)]) 2 rfl rfl rfl ?_
  refine x_P 3 rfl rfl rfl ?_
  refine x_P (lv' := [(4, .int (Int32.ofInt 0)), (3, .int (Int32.ofInt (-1))), (0, .ref a0), (1, .int a1), (2, .int a2)]) 5 rfl rfl rfl ?_
  refine x_lv (lv := [(0, .ref a0), (1, .int a1), (2, .int a2), (3, .int (Int32.ofInt (-1))), (4, .int (Int32.ofInt 0))]) (x_lp 184 (fun s1 => [(0, .ref a0), (1, .int a1), (2, .int a2), (3, .int s1.1), (4, .int s1.2)]) (fun s1 => th) (fun x4 => [(3, .int x4)]) (fun x4 => th) (fun s1 nx2 hnx2 ex3 hex3 => ?_) (fun x4 => ?_) 4096 ((Int32.ofInt (-1)), (Int32.ofInt 0))) ⟨rfl, rfl, rfl, rfl, rfl, trivial⟩
  · refine x_P 7 rfl rfl rfl ?_
    refine x_P 8 rfl rfl rfl ?_
    refine x_gI rfl (fun x5 hx5 => ?_)
    refine x_ic_ge rfl rfl (fun h57 => ?_) (fun h57 => ?_)
    · exact x_lv (hex3 s1.1) ⟨rfl, trivial⟩
    · refine x_P 16 rfl rfl rfl ?_
      refine x_P 17 rfl rfl rfl ?_
      refine x_jn 66 (fun v6 => [(0, .ref a0), (1, .int a1), (2, .int a2), (3, .int s1.1), (4, .int s1.2)]) (fun v6 => [.int v6]) (fun v6 => th) (fun v6 => ?_) (fun j7 hj7 => ?_)
      · refine x_P (lv' := [(5, .int v6), (0, .ref a0), (1, .int a1), (2, .int a2), (3, .int s1.1), (4, .int s1.2)]) 68 rfl rfl rfl ?_
        refine x_P 70 rfl rfl rfl ?_
        refine x_P 71 rfl rfl rfl ?_
        refine x_P 72 rfl rfl rfl ?_
        refine x_gN rfl (fun o8 ho8 => ?_)
        refine x_P 76 rfl rfl rfl ?_
        refine x_aI rfl ⟨rfl, rfl⟩ (fun x9 hx9 => ?_)
        refine x_P 78 rfl rfl rfl ?_
        refine x_gN rfl (fun o10 ho10 => ?_)
        refine x_P 83 rfl rfl rfl ?_
        refine x_aI rfl ⟨rfl, rfl⟩ (fun x11 hx11 => ?_)
        refine x_callV rfl rfl rfl rfl rfl ⟨rfl, rfl⟩ (fun x h => c_238 h) (S_238 (d + 1) a0 x9 x11 th) (fun x12 hx12 => ?_)
        refine x_P 88 rfl rfl rfl ?_
        refine x_P 89 rfl rfl rfl ?_
        refine x_gN rfl (fun o13 ho13 => ?_)
        refine x_P 93 rfl rfl rfl ?_
        refine x_aI rfl ⟨rfl, rfl⟩ (fun x14 hx14 => ?_)
        refine x_P 95 rfl rfl rfl ?_
        refine x_callV rfl rfl rfl rfl rfl ⟨rfl, rfl⟩ (fun x h => c_238 h) (S_238 (d + 1) a0 x14 a2 th) (fun x15 hx15 => ?_)
        refine x_jn 132 (fun v16 => [(0, .ref a0), (1, .int a1), (2, .int a2), (3, .int s1.1), (4, .int s1.2)]) (fun v16 => [.int v16.1, .int v16.2]) (fun v16 => th) (fun v16 => ?_) (fun j17 hj17 => ?_)
        · refine x_P 133 rfl rfl rfl ?_
          refine x_P (lv' := [(5, .int (v16.2 &&& v16.1)), (0, .ref a0), (1, .int a1), (2, .int a2), (3, .int s1.1), (4, .int s1.2)]) 135 rfl rfl rfl ?_
          refine x_P 137 rfl rfl rfl ?_
          refine x_jn 177 (fun v18 => [(0, .ref a0), (1, .int a1), (2, .int a2), (4, .int s1.2)]) (fun v18 => [.int v18]) (fun v18 => th) (fun v18 => ?_) (fun j19 hj19 => ?_)
          · refine x_P (lv' := [(3, .int v18), (0, .ref a0), (1, .int a1), (2, .int a2), (4, .int s1.2)]) 178 rfl rfl rfl ?_
            refine x_P (lv' := [(4, .int (s1.2 + Int32.ofInt 1)), (3, .int v18), (0, .ref a0), (1, .int a1), (2, .int a2)]) 181 rfl rfl rfl ?_
            refine x_P 5 rfl rfl rfl ?_
            exact x_lv (hnx2 (v18, (s1.2 + Int32.ofInt 1))) ⟨rfl, rfl, rfl, rfl, rfl, trivial⟩
          · refine x_jn 176 (fun v20 => [(0, .ref a0), (1, .int a1), (2, .int a2), (3, .int s1.1), (4, .int s1.2)]) (fun v20 => []) (fun v20 => th) (fun v20 => ?_) (fun j21 hj21 => ?_)
            · refine x_P 177 rfl rfl rfl ?_
              exact x_lv (hj19 s1.1) ⟨rfl, rfl, rfl, rfl, trivial⟩
            · refine x_if_eq rfl rfl (fun h32 => ?_) (fun h32 => ?_)
              · exact x_lv (hj21 ()) ⟨rfl, rfl, rfl, rfl, rfl, trivial⟩
              · refine x_P 141 rfl rfl rfl ?_
                refine x_P 142 rfl rfl rfl ?_
                refine x_jn 171 (fun v22 => [(0, .ref a0), (1, .int a1), (2, .int a2), (4, .int s1.2)]) (fun v22 => []) (fun v22 => th) (fun v22 => ?_) (fun j23 hj23 => ?_)
                · refine x_P 173 rfl rfl rfl ?_
                  refine x_P 177 rfl rfl rfl ?_
                  exact x_lv (hj19 s1.2) ⟨rfl, rfl, rfl, rfl, trivial⟩
                · refine x_ic_eq rfl rfl (fun h31 => ?_) (fun h31 => ?_)
                  · exact x_lv (hj23 ()) ⟨rfl, rfl, rfl, rfl, trivial⟩
                  · refine x_P 146 rfl rfl rfl ?_
                    refine x_P 147 rfl rfl rfl ?_
                    refine x_P 148 rfl rfl rfl ?_
                    refine x_gN rfl (fun o24 ho24 => ?_)
                    refine x_P 153 rfl rfl rfl ?_
                    refine x_aI rfl ⟨rfl, rfl⟩ (fun x25 hx25 => ?_)
                    refine x_callV rfl rfl rfl rfl rfl ⟨rfl, rfl⟩ (fun x h => c_238 h) (S_238 (d + 1) a0 a2 x25 th) (fun x26 hx26 => ?_)
                    refine x_P 158 rfl rfl rfl ?_
                    refine x_P 159 rfl rfl rfl ?_
                    refine x_P 160 rfl rfl rfl ?_
                    refine x_gN rfl (fun o27 ho27 => ?_)
                    refine x_P 164 rfl rfl rfl ?_
                    refine x_aI rfl ⟨rfl, rfl⟩ (fun x28 hx28 => ?_)
                    refine x_callV rfl rfl rfl rfl rfl ⟨rfl, rfl⟩ (fun x h => c_238 h) (S_238 (d + 1) a0 a2 x28 th) (fun x29 hx29 => ?_)
                    refine x_ic_ge rfl rfl (fun h30 => ?_) (fun h30 => ?_)
                    · exact x_lv (hj21 ()) ⟨rfl, rfl, rfl, rfl, rfl, trivial⟩
                    · exact x_lv (hj23 ()) ⟨rfl, rfl, rfl, rfl, trivial⟩
        · refine x_jn 131 (fun v33 => [(0, .ref a0), (1, .int a1), (2, .int a2), (3, .int s1.1), (4, .int s1.2)]) (fun v33 => [.int v33]) (fun v33 => th) (fun v33 => ?_) (fun j34 hj34 => ?_)
          · refine x_P 132 rfl rfl rfl ?_
            exact x_lv (hj17 ((Int32.ofInt 0), v33)) ⟨rfl, rfl, rfl, rfl, rfl, trivial⟩
          · refine x_ic_ge rfl rfl (fun h42 => ?_) (fun h42 => ?_)
            · exact x_lv (hj34 v6) ⟨rfl, rfl, rfl, rfl, rfl, trivial⟩
            · refine x_P 102 rfl rfl rfl ?_
              refine x_P 103 rfl rfl rfl ?_
              refine x_P 104 rfl rfl rfl ?_
              refine x_gN rfl (fun o35 ho35 => ?_)
              refine x_P 109 rfl rfl rfl ?_
              refine x_aI rfl ⟨rfl, rfl⟩ (fun x36 hx36 => ?_)
              refine x_callV rfl rfl rfl rfl rfl ⟨rfl, rfl⟩ (fun x h => c_238 h) (S_238 (d + 1) a0 a2 x36 th) (fun x37 hx37 => ?_)
              refine x_P 114 rfl rfl rfl ?_
              refine x_P 115 rfl rfl rfl ?_
              refine x_gN rfl (fun o38 ho38 => ?_)
              refine x_P 119 rfl rfl rfl ?_
              refine x_aI rfl ⟨rfl, rfl⟩ (fun x39 hx39 => ?_)
              refine x_P 121 rfl rfl rfl ?_
              refine x_callV rfl rfl rfl rfl rfl ⟨rfl, rfl⟩ (fun x h => c_238 h) (S_238 (d + 1) a0 x39 a2 th) (fun x40 hx40 => ?_)
              refine x_ic_ge rfl rfl (fun h41 => ?_) (fun h41 => ?_)
              · exact x_lv (hj34 v6) ⟨rfl, rfl, rfl, rfl, rfl, trivial⟩
              · refine x_P 128 rfl rfl rfl ?_
                refine x_P 132 rfl rfl rfl ?_
                exact x_lv (hj17 ((Int32.ofInt 1), v6)) ⟨rfl, rfl, rfl, rfl, rfl, trivial⟩
      · refine x_jn 65 (fun v43 => [(0, .ref a0), (1, .int a1), (2, .int a2), (3, .int s1.1), (4, .int s1.2)]) (fun v43 => []) (fun v43 => th) (fun v43 => ?_) (fun j44 hj44 => ?_)
        · refine x_P 66 rfl rfl rfl ?_
          exact x_lv (hj7 (Int32.ofInt 0)) ⟨rfl, rfl, rfl, rfl, rfl, trivial⟩
        · refine x_ic_eq rfl rfl (fun h56 => ?_) (fun h56 => ?_)
          · exact x_lv (hj44 ()) ⟨rfl, rfl, rfl, rfl, rfl, trivial⟩
          · refine x_P 21 rfl rfl rfl ?_
            refine x_gN rfl (fun o45 ho45 => ?_)
            refine x_P 26 rfl rfl rfl ?_
            refine x_aI rfl ⟨rfl, rfl⟩ (fun x46 hx46 => ?_)
            refine x_P 28 rfl rfl rfl ?_
            refine x_ic_eq rfl rfl (fun h55 => ?_) (fun h55 => ?_)
            · exact x_lv (hj44 ()) ⟨rfl, rfl, rfl, rfl, rfl, trivial⟩
            · refine x_P 32 rfl rfl rfl ?_
              refine x_P 34 rfl rfl rfl ?_
              refine x_callV rfl rfl rfl rfl rfl ⟨rfl, rfl⟩ (fun x h => c_198 h) (S_198 (d + 1) a0 s1.2 th) (fun x47 hx47 => ?_)
              refine x_if_ne rfl rfl (fun h54 => ?_) (fun h54 => ?_)
              · refine x_P 41 rfl rfl rfl ?_
                refine x_P 42 rfl rfl rfl ?_
                refine x_gN rfl (fun o48 ho48 => ?_)
                refine x_P 46 rfl rfl rfl ?_
                refine x_aI rfl ⟨rfl, rfl⟩ (fun x49 hx49 => ?_)
                refine x_P 48 rfl rfl rfl ?_
                refine x_P 49 rfl rfl rfl ?_
                refine x_gN rfl (fun o50 ho50 => ?_)
                refine x_P 54 rfl rfl rfl ?_
                refine x_aI rfl ⟨rfl, rfl⟩ (fun x51 hx51 => ?_)
                refine x_callV rfl rfl rfl rfl rfl ⟨rfl, rfl⟩ (fun x h => c_236 h) (S_236 d a0 x49 a2 x51 th) (fun x52 hx52 => ?_)
                refine x_if_eq rfl rfl (fun h53 => ?_) (fun h53 => ?_)
                · exact x_lv (hj44 ()) ⟨rfl, rfl, rfl, rfl, rfl, trivial⟩
                · refine x_P 62 rfl rfl rfl ?_
                  refine x_P 66 rfl rfl rfl ?_
                  exact x_lv (hj7 (Int32.ofInt 1)) ⟨rfl, rfl, rfl, rfl, rfl, trivial⟩
              · exact x_lv (hj44 ()) ⟨rfl, rfl, rfl, rfl, rfl, trivial⟩
  · refine x_P 185 rfl rfl rfl ?_
    exact x_retI (x := x4) rfl
-- 237 NineTreesModel.apart(II)I
noncomputable def m_237 (a0 : Nat) (a1 : Int32) (a2 : Int32) (th : tH) : Option (Int32) :=
  (gC th 8 a0).bind fun _ =>
  (gI th 8 a0 9).bind fun x1 =>
  (dvI a1 x1).bind fun x2 =>
  (gI th 8 a0 9).bind fun x3 =>
  (dvI a2 x3).bind fun x4 =>
  (gI th 8 a0 9).bind fun x5 =>
  (rmI a1 x5).bind fun x6 =>
  (gI th 8 a0 9).bind fun x7 =>
  (rmI a2 x7).bind fun x8 =>
  jn (fun (v9 : Int32) =>
      jn (fun (v11 : Int32 × Int32) =>
          some (v11.2 + v11.1)
        ) (fun j12 =>
          if 0 ≤ (x6 - x8) then
            j12 ((x6 - x8), v9)
          else
            j12 ((-(x6 - x8)), v9)
        )
    ) (fun j10 =>
      if 0 ≤ (x2 - x4) then
        j10 (x2 - x4)
      else
        j10 (-(x2 - x4))
    )
theorem c_237 {a0 : Nat} {a1 : Int32} {a2 : Int32} {th : tH} {x : (Int32)} (h : m_237 a0 a1 a2 th = some x) : ∃ fs, th[a0]? = some (.inr (8, fs)) := gC_of h
theorem S_237 {L : Nat} (d : Nat) (a0 : Nat) (a1 : Int32) (a2 : Int32) (th : tH) : Wx L (fun x => (some (.int x), th)) d 237 5 0 [(0, .ref a0), (1, .int a1), (2, .int a2)] [] th (m_237 a0 a1 a2 th) := by
  unfold m_237
  refine x_gC ?_
  refine x_P 1 rfl rfl rfl ?_
  refine x_P 2 rfl rfl rfl ?_
  refine x_gI rfl (fun x1 hx1 => ?_)
  refine x_dv rfl rfl (fun x2 hx2 => ?_)
  refine x_P 7 rfl rfl rfl ?_
  refine x_P 8 rfl rfl rfl ?_
  refine x_gI rfl (fun x3 hx3 => ?_)
  refine x_dv rfl rfl (fun x4 hx4 => ?_)
  refine x_P 13 rfl rfl rfl ?_
  refine x_P (lv' := [(3, .int (x2 - x4)), (0, .ref a0), (1, .int a1), (2, .int a2)]) 14 rfl rfl rfl ?_
  refine x_P 15 rfl rfl rfl ?_
  refine x_P 16 rfl rfl rfl ?_
  refine x_gI rfl (fun x5 hx5 => ?_)
  refine x_rm rfl rfl (fun x6 hx6 => ?_)
  refine x_P 21 rfl rfl rfl ?_
  refine x_P 22 rfl rfl rfl ?_
  refine x_gI rfl (fun x7 hx7 => ?_)
  refine x_rm rfl rfl (fun x8 hx8 => ?_)
  refine x_P 27 rfl rfl rfl ?_
  refine x_P (lv' := [(4, .int (x6 - x8)), (3, .int (x2 - x4)), (0, .ref a0), (1, .int a1), (2, .int a2)]) 29 rfl rfl rfl ?_
  refine x_P 30 rfl rfl rfl ?_
  refine x_jn 39 (fun v9 => [(4, .int (x6 - x8))]) (fun v9 => [.int v9]) (fun v9 => th) (fun v9 => ?_) (fun j10 hj10 => ?_)
  · refine x_P 41 rfl rfl rfl ?_
    refine x_jn 52 (fun v11 => []) (fun v11 => [.int v11.1, .int v11.2]) (fun v11 => th) (fun v11 => ?_) (fun j12 hj12 => ?_)
    · refine x_P 53 rfl rfl rfl ?_
      exact x_retI (x := (v11.2 + v11.1)) rfl
    · refine x_if_ge rfl rfl (fun h13 => ?_) (fun h13 => ?_)
      · refine x_P 52 rfl rfl rfl ?_
        exact x_lv (hj12 ((x6 - x8), v9)) trivial
      · refine x_P 46 rfl rfl rfl ?_
        refine x_P 47 rfl rfl rfl ?_
        refine x_P 52 rfl rfl rfl ?_
        exact x_lv (hj12 ((-(x6 - x8)), v9)) trivial
  · refine x_if_ge rfl rfl (fun h14 => ?_) (fun h14 => ?_)
    · refine x_P 39 rfl rfl rfl ?_
      exact x_lv (hj10 (x2 - x4)) ⟨rfl, trivial⟩
    · refine x_P 34 rfl rfl rfl ?_
      refine x_P 35 rfl rfl rfl ?_
      refine x_P 39 rfl rfl rfl ?_
      exact x_lv (hj10 (-(x2 - x4))) ⟨rfl, trivial⟩
-- 209 NineTreesModel.says(II)I
noncomputable def m_209 (a0 : Nat) (a1 : Int32) (a2 : Int32) (th : tH) : Option (Int32 × tH) :=
  (gC th 8 a0).bind fun _ =>
  (m_190 (Int32.toInt64 a1) (Int64.ofNat 0) (Int64.ofNat 7) th).bind fun x1 =>
  jn (fun (v2 : Unit) =>
      (m_189 a0 (Int8.ofInt (-2)).toInt32 th).bind fun q4 =>
      some (q4.1, q4.2)
    ) (fun j3 =>
      if x1 = 0 then
        j3 ()
      else
        (m_190 (Int32.toInt64 a2) (Int64.ofNat 0) (Int64.ofNat 5) th).bind fun x5 =>
        if x5 = 0 then
          j3 ()
        else
          (gN th 8 a0 0).bind fun o6 =>
          (aI th o6 a1).bind fun x7 =>
          jn (fun (v8 : Unit) =>
              (m_189 a0 (Int8.ofInt (-3)).toInt32 th).bind fun q10 =>
              some (q10.1, q10.2)
            ) (fun j9 =>
              if x7 = (Int32.ofInt 1) then
                j9 ()
              else
                (gN th 8 a0 0).bind fun o11 =>
                (aI th o11 a1).bind fun x12 =>
                jn (fun (v13 : Unit) =>
                    (gN th 8 a0 0).bind fun o15 =>
                    (aI th o15 a1).bind fun x16 =>
                    if x16 = 0 then
                      (m_189 a0 (Int8.ofInt (-4)).toInt32 th).bind fun q69 =>
                      some (q69.1, q69.2)
                    else
                      (gN th 8 a0 5).bind fun o17 =>
                      (aI th o17 a1).bind fun x18 =>
                      if a2 < 0 ∨ 4 < a2 then
                        (gN th 8 a0 13).bind fun o20 =>
                        (aI th o20 x18).bind fun x21 =>
                        some (x21, th)
                      else if a2 = 0 then
                        (m_242 a0 x18 (Int32.ofInt 3) th).bind fun q23 =>
                        some (q23.1, q23.2)
                      else if a2 = 1 then
                        (m_210 a0 x18 th).bind fun x25 =>
                        some (x25, th)
                      else if a2 = 2 then
                        lp (fun (s27 : Int32 × Int32) nx28 ex29 =>
                            (gI th 8 a0 10).bind fun x31 =>
                            if x31 ≤ s27.2 then
                              ex29 s27.1
                            else
                              jn (fun (v32 : Int32 × Int32) =>
                                  nx28 ((v32.2 + v32.1), (s27.2 + Int32.ofInt 1))
                                ) (fun j33 =>
                                  jn (fun (v34 : Int32) =>
                                      j33 ((Int32.ofInt 0), v34)
                                    ) (fun j35 =>
                                      if s27.2 = x18 then
                                        j35 s27.1
                                      else
                                        (gN th 8 a0 12).bind fun o36 =>
                                        (aI th o36 s27.2).bind fun x37 =>
                                        (m_272 a0 x18 x37 th).bind fun x38 =>
                                        if x38 = (Int32.ofInt (-1)) then
                                          j33 ((Int32.ofInt 1), s27.1)
                                        else
                                          j35 s27.1
                                    )
                                )
                          ) 4096 ((Int32.ofInt 0), (Int32.ofInt 0)) (fun (x30 : Int32) =>
                            some (x30, th)
                          )
                      else if a2 = 3 then
                        (gN th 8 a0 13).bind fun o43 =>
                        (aI th o43 x18).bind fun x44 =>
                        some (x44, th)
                      else if a2 = 4 then
                        lp (fun (s46 : Int32 × Int32) nx47 ex48 =>
                            (gI th 8 a0 10).bind fun x50 =>
                            if x50 ≤ s46.2 then
                              ex48 s46.1
                            else
                              jn (fun (v51 : Int32) =>
                                  jn (fun (v53 : Int32) =>
                                      nx47 (v53, (s46.2 + Int32.ofInt 1))
                                    ) (fun j54 =>
                                      jn (fun (v55 : Unit) =>
                                          j54 s46.1
                                        ) (fun j56 =>
                                          if s46.2 = x18 then
                                            j56 ()
                                          else
                                            jn (fun (v57 : Unit) =>
                                                j54 v51
                                              ) (fun j58 =>
                                                if s46.1 = 0 then
                                                  j58 ()
                                                else
                                                  if s46.1 ≤ v51 then
                                                    j56 ()
                                                  else
                                                    j58 ()
                                              )
                                        )
                                    )
                                ) (fun j52 =>
                                  if s46.2 = x18 then
                                    j52 (Int32.ofInt 0)
                                  else
                                    (gN th 8 a0 12).bind fun o62 =>
                                    (aI th o62 x18).bind fun x63 =>
                                    (gN th 8 a0 12).bind fun o64 =>
                                    (aI th o64 s46.2).bind fun x65 =>
                                    (m_237 a0 x63 x65 th).bind fun x66 =>
                                    j52 x66
                                )
                          ) 4096 ((Int32.ofInt 0), (Int32.ofInt 0)) (fun (x49 : Int32) =>
                            some (x49, th)
                          )
                      else
                        none
                  ) (fun j14 =>
                    if x12 = (Int32.ofInt 2) then
                      (gN th 8 a0 11).bind fun o71 =>
                      (gN th 8 a0 5).bind fun o72 =>
                      (aI th o72 a1).bind fun x73 =>
                      (aI th o71 x73).bind fun x74 =>
                      (m_208 x74 a2 th).bind fun x75 =>
                      if x75 = 0 then
                        j9 ()
                      else
                        j14 ()
                    else
                      j14 ()
                  )
            )
    )
theorem c_209 {a0 : Nat} {a1 : Int32} {a2 : Int32} {th : tH} {x : (Int32 × tH)} (h : m_209 a0 a1 a2 th = some x) : ∃ fs, th[a0]? = some (.inr (8, fs)) := gC_of h
theorem S_209 {L : Nat} (d : Nat) (a0 : Nat) (a1 : Int32) (a2 : Int32) (th : tH) : Wx L (fun x => (some (.int x.1), x.2)) (d + 5) 209 7 0 [(0, .ref a0), (1, .int a1), (2, .int a2)] [] th (m_209 a0 a1 a2 th) := by
  unfold m_209
  refine x_gC ?_
  refine x_P 1 rfl rfl rfl ?_
  refine x_P 2 rfl rfl rfl ?_
  refine x_P 3 rfl rfl rfl ?_
  refine x_P 6 rfl rfl rfl ?_
  refine x_callS rfl rfl rfl rfl rfl rfl ⟨rfl, rfl⟩ (S_190 (d + 4) (Int32.toInt64 a1) (Int64.ofNat 0) (Int64.ofNat 7) th) (fun x1 hx1 => ?_)
  refine x_jn 24 (fun v2 => [(0, .ref a0)]) (fun v2 => []) (fun v2 => th) (fun v2 => ?_) (fun j3 hj3 => ?_)
  · refine x_P 25 rfl rfl rfl ?_
    refine x_P 27 rfl rfl rfl ?_
    refine x_callV rfl rfl rfl rfl rfl ⟨rfl, rfl⟩ (fun x h => c_189 h) (S_189 (d + 3) a0 (Int8.ofInt (-2)).toInt32 th) (fun q4 hq4 => ?_)
    exact x_retI (x := (q4.1, q4.2)) rfl
  · refine x_if_eq rfl rfl (fun h80 => ?_) (fun h80 => ?_)
    · exact x_lv (hj3 ()) ⟨rfl, trivial⟩
    · refine x_P 13 rfl rfl rfl ?_
      refine x_P 14 rfl rfl rfl ?_
      refine x_P 15 rfl rfl rfl ?_
      refine x_P 18 rfl rfl rfl ?_
      refine x_callS rfl rfl rfl rfl rfl rfl ⟨rfl, rfl⟩ (S_190 (d + 4) (Int32.toInt64 a2) (Int64.ofNat 0) (Int64.ofNat 5) th) (fun x5 hx5 => ?_)
      refine x_if_ne rfl rfl (fun h79 => ?_) (fun h79 => ?_)
      · exact x_lv (hj3 ()) ⟨rfl, trivial⟩
      · refine x_P 32 rfl rfl rfl ?_
        refine x_gN rfl (fun o6 ho6 => ?_)
        refine x_P 36 rfl rfl rfl ?_
        refine x_aI rfl ⟨rfl, rfl⟩ (fun x7 hx7 => ?_)
        refine x_P 38 rfl rfl rfl ?_
        refine x_jn 69 (fun v8 => [(0, .ref a0)]) (fun v8 => []) (fun v8 => th) (fun v8 => ?_) (fun j9 hj9 => ?_)
        · refine x_P 70 rfl rfl rfl ?_
          refine x_P 72 rfl rfl rfl ?_
          refine x_callV rfl rfl rfl rfl rfl ⟨rfl, rfl⟩ (fun x h => c_189 h) (S_189 (d + 3) a0 (Int8.ofInt (-3)).toInt32 th) (fun q10 hq10 => ?_)
          exact x_retI (x := (q10.1, q10.2)) rfl
        · refine x_ic_eq rfl rfl (fun h78 => ?_) (fun h78 => ?_)
          · exact x_lv (hj9 ()) ⟨rfl, trivial⟩
          · refine x_P 42 rfl rfl rfl ?_
            refine x_gN rfl (fun o11 ho11 => ?_)
            refine x_P 46 rfl rfl rfl ?_
            refine x_aI rfl ⟨rfl, rfl⟩ (fun x12 hx12 => ?_)
            refine x_P 48 rfl rfl rfl ?_
            refine x_jn 76 (fun v13 => [(0, .ref a0), (1, .int a1), (2, .int a2)]) (fun v13 => []) (fun v13 => th) (fun v13 => ?_) (fun j14 hj14 => ?_)
            · refine x_P 77 rfl rfl rfl ?_
              refine x_gN rfl (fun o15 ho15 => ?_)
              refine x_P 81 rfl rfl rfl ?_
              refine x_aI rfl ⟨rfl, rfl⟩ (fun x16 hx16 => ?_)
              refine x_if_ne rfl rfl (fun h70 => ?_) (fun h70 => ?_)
              · refine x_P 86 rfl rfl rfl ?_
                refine x_P 88 rfl rfl rfl ?_
                refine x_callV rfl rfl rfl rfl rfl ⟨rfl, rfl⟩ (fun x h => c_189 h) (S_189 (d + 3) a0 (Int8.ofInt (-4)).toInt32 th) (fun q69 hq69 => ?_)
                exact x_retI (x := (q69.1, q69.2)) rfl
              · refine x_P 93 rfl rfl rfl ?_
                refine x_gN rfl (fun o17 ho17 => ?_)
                refine x_P 97 rfl rfl rfl ?_
                refine x_aI rfl ⟨rfl, rfl⟩ (fun x18 hx18 => ?_)
                refine x_P (lv' := [(3, .int x18), (0, .ref a0), (1, .int a1), (2, .int a2)]) 99 rfl rfl rfl ?_
                refine x_P 100 rfl rfl rfl ?_
                refine x_P (lv' := [(4, .int (Int32.ofInt 0)), (3, .int x18), (0, .ref a0), (1, .int a1), (2, .int a2)]) 102 rfl rfl rfl ?_
                refine x_P 103 rfl rfl rfl ?_
                refine x_ite (fun h19 => ?_) (fun h19 => ?_)
                · refine x_P 279 rfl rfl (x_td h19 (by decide +kernel)) ?_
                  refine x_P 280 rfl rfl rfl ?_
                  refine x_gN rfl (fun o20 ho20 => ?_)
                  refine x_P 284 rfl rfl rfl ?_
                  refine x_aI rfl ⟨rfl, rfl⟩ (fun x21 hx21 => ?_)
                  exact x_retI (x := (x21, th)) rfl
                · skip
                  refine x_ite (fun h22 => ?_) (fun h22 => ?_)
                  · refine x_P 136 rfl rfl (x_ts h22 (by decide +kernel)) ?_
                    refine x_P 137 rfl rfl rfl ?_
                    refine x_P 138 rfl rfl rfl ?_
                    refine x_P 139 rfl rfl rfl ?_
                    refine x_callV rfl rfl rfl rfl rfl ⟨rfl, rfl⟩ (fun x h => c_242 h) (S_242 d a0 x18 (Int32.ofInt 3) th) (fun q23 hq23 => ?_)
                    exact x_retI (x := (q23.1, q23.2)) rfl
                  · skip
                    refine x_ite (fun h24 => ?_) (fun h24 => ?_)
                    · refine x_P 143 rfl rfl (x_ts h24 (by decide +kernel)) ?_
                      refine x_P 144 rfl rfl rfl ?_
                      refine x_P 145 rfl rfl rfl ?_
                      refine x_callV rfl rfl rfl rfl rfl ⟨rfl, rfl⟩ (fun x h => c_210 h) (S_210 (d + 3) a0 x18 th) (fun x25 hx25 => ?_)
                      exact x_retI (x := (x25, th)) rfl
                    · skip
                      refine x_ite (fun h26 => ?_) (fun h26 => ?_)
                      · refine x_P 149 rfl rfl (x_ts h26 (by decide +kernel)) ?_
                        refine x_P 150 rfl rfl rfl ?_
                        refine x_P (lv' := [(5, .int (Int32.ofInt 0)), (4, .int (Int32.ofInt 0)), (3, .int x18), (0, .ref a0), (1, .int a1), (2, .int a2)]) 152 rfl rfl rfl ?_
                        refine x_lv (lv := [(0, .ref a0), (3, .int x18), (4, .int (Int32.ofInt 0)), (5, .int (Int32.ofInt 0))]) (x_lp 199 (fun s27 => [(0, .ref a0), (3, .int x18), (4, .int s27.1), (5, .int s27.2)]) (fun s27 => th) (fun x30 => [(4, .int x30)]) (fun x30 => th) (fun s27 nx28 hnx28 ex29 hex29 => ?_) (fun x30 => ?_) 4096 ((Int32.ofInt 0), (Int32.ofInt 0))) ⟨rfl, rfl, rfl, rfl, trivial⟩
                        · refine x_P 154 rfl rfl rfl ?_
                          refine x_P 155 rfl rfl rfl ?_
                          refine x_gI rfl (fun x31 hx31 => ?_)
                          refine x_ic_ge rfl rfl (fun h41 => ?_) (fun h41 => ?_)
                          · exact x_lv (hex29 s27.1) ⟨rfl, trivial⟩
                          · refine x_P 163 rfl rfl rfl ?_
                            refine x_P 165 rfl rfl rfl ?_
                            refine x_P 166 rfl rfl rfl ?_
                            refine x_jn 190 (fun v32 => [(0, .ref a0), (3, .int x18), (5, .int s27.2)]) (fun v32 => [.int v32.1, .int v32.2]) (fun v32 => th) (fun v32 => ?_) (fun j33 hj33 => ?_)
                            · refine x_P 191 rfl rfl rfl ?_
                              refine x_P (lv' := [(4, .int (v32.2 + v32.1)), (0, .ref a0), (3, .int x18), (5, .int s27.2)]) 193 rfl rfl rfl ?_
                              refine x_P (lv' := [(5, .int (s27.2 + Int32.ofInt 1)), (4, .int (v32.2 + v32.1)), (0, .ref a0), (3, .int x18)]) 196 rfl rfl rfl ?_
                              refine x_P 152 rfl rfl rfl ?_
                              exact x_lv (hnx28 ((v32.2 + v32.1), (s27.2 + Int32.ofInt 1))) ⟨rfl, rfl, rfl, rfl, trivial⟩
                            · refine x_jn 189 (fun v34 => [(0, .ref a0), (3, .int x18), (5, .int s27.2)]) (fun v34 => [.int v34]) (fun v34 => th) (fun v34 => ?_) (fun j35 hj35 => ?_)
                              · refine x_P 190 rfl rfl rfl ?_
                                exact x_lv (hj33 ((Int32.ofInt 0), v34)) ⟨rfl, rfl, rfl, trivial⟩
                              · refine x_ic_eq rfl rfl (fun h40 => ?_) (fun h40 => ?_)
                                · exact x_lv (hj35 s27.1) ⟨rfl, rfl, rfl, trivial⟩
                                · refine x_P 170 rfl rfl rfl ?_
                                  refine x_P 171 rfl rfl rfl ?_
                                  refine x_P 172 rfl rfl rfl ?_
                                  refine x_gN rfl (fun o36 ho36 => ?_)
                                  refine x_P 177 rfl rfl rfl ?_
                                  refine x_aI rfl ⟨rfl, rfl⟩ (fun x37 hx37 => ?_)
                                  refine x_callV rfl rfl rfl rfl rfl ⟨rfl, rfl⟩ (fun x h => c_272 h) (S_272 (d + 2) a0 x18 x37 th) (fun x38 hx38 => ?_)
                                  refine x_P 182 rfl rfl rfl ?_
                                  refine x_ic_ne rfl rfl (fun h39 => ?_) (fun h39 => ?_)
                                  · refine x_P 186 rfl rfl rfl ?_
                                    refine x_P 190 rfl rfl rfl ?_
                                    exact x_lv (hj33 ((Int32.ofInt 1), s27.1)) ⟨rfl, rfl, rfl, trivial⟩
                                  · exact x_lv (hj35 s27.1) ⟨rfl, rfl, rfl, trivial⟩
                        · refine x_P 201 rfl rfl rfl ?_
                          exact x_retI (x := (x30, th)) rfl
                      · skip
                        refine x_ite (fun h42 => ?_) (fun h42 => ?_)
                        · refine x_P 279 rfl rfl (x_ts h42 (by decide +kernel)) ?_
                          refine x_P 280 rfl rfl rfl ?_
                          refine x_gN rfl (fun o43 ho43 => ?_)
                          refine x_P 284 rfl rfl rfl ?_
                          refine x_aI rfl ⟨rfl, rfl⟩ (fun x44 hx44 => ?_)
                          exact x_retI (x := (x44, th)) rfl
                        · skip
                          refine x_ite (fun h45 => ?_) (fun h45 => ?_)
                          · refine x_P 202 rfl rfl (x_ts h45 (by decide +kernel)) ?_
                            refine x_P 203 rfl rfl rfl ?_
                            refine x_P (lv' := [(5, .int (Int32.ofInt 0)), (4, .int (Int32.ofInt 0)), (3, .int x18), (0, .ref a0), (1, .int a1), (2, .int a2)]) 205 rfl rfl rfl ?_
                            refine x_lv (lv := [(0, .ref a0), (3, .int x18), (4, .int (Int32.ofInt 0)), (5, .int (Int32.ofInt 0))]) (x_lp 276 (fun s46 => [(0, .ref a0), (3, .int x18), (4, .int s46.1), (5, .int s46.2)]) (fun s46 => th) (fun x49 => [(4, .int x49)]) (fun x49 => th) (fun s46 nx47 hnx47 ex48 hex48 => ?_) (fun x49 => ?_) 4096 ((Int32.ofInt 0), (Int32.ofInt 0))) ⟨rfl, rfl, rfl, rfl, trivial⟩
                            · refine x_P 207 rfl rfl rfl ?_
                              refine x_P 208 rfl rfl rfl ?_
                              refine x_gI rfl (fun x50 hx50 => ?_)
                              refine x_ic_ge rfl rfl (fun h68 => ?_) (fun h68 => ?_)
                              · exact x_lv (hex48 s46.1) ⟨rfl, trivial⟩
                              · refine x_P 216 rfl rfl rfl ?_
                                refine x_P 217 rfl rfl rfl ?_
                                refine x_jn 241 (fun v51 => [(0, .ref a0), (3, .int x18), (4, .int s46.1), (5, .int s46.2)]) (fun v51 => [.int v51]) (fun v51 => th) (fun v51 => ?_) (fun j52 hj52 => ?_)
                                · refine x_P (lv' := [(6, .int v51), (0, .ref a0), (3, .int x18), (4, .int s46.1), (5, .int s46.2)]) 243 rfl rfl rfl ?_
                                  refine x_P 245 rfl rfl rfl ?_
                                  refine x_P 246 rfl rfl rfl ?_
                                  refine x_jn 268 (fun v53 => [(0, .ref a0), (3, .int x18), (5, .int s46.2)]) (fun v53 => [.int v53]) (fun v53 => th) (fun v53 => ?_) (fun j54 hj54 => ?_)
                                  · refine x_P (lv' := [(4, .int v53), (0, .ref a0), (3, .int x18), (5, .int s46.2)]) 270 rfl rfl rfl ?_
                                    refine x_P (lv' := [(5, .int (s46.2 + Int32.ofInt 1)), (4, .int v53), (0, .ref a0), (3, .int x18)]) 273 rfl rfl rfl ?_
                                    refine x_P 205 rfl rfl rfl ?_
                                    exact x_lv (hnx47 (v53, (s46.2 + Int32.ofInt 1))) ⟨rfl, rfl, rfl, rfl, trivial⟩
                                  · refine x_jn 266 (fun v55 => [(0, .ref a0), (3, .int x18), (4, .int s46.1), (5, .int s46.2)]) (fun v55 => []) (fun v55 => th) (fun v55 => ?_) (fun j56 hj56 => ?_)
                                    · refine x_P 268 rfl rfl rfl ?_
                                      exact x_lv (hj54 s46.1) ⟨rfl, rfl, rfl, trivial⟩
                                    · refine x_ic_eq rfl rfl (fun h61 => ?_) (fun h61 => ?_)
                                      · exact x_lv (hj56 ()) ⟨rfl, rfl, rfl, rfl, trivial⟩
                                      · refine x_P 251 rfl rfl rfl ?_
                                        refine x_jn 261 (fun v57 => [(0, .ref a0), (3, .int x18), (5, .int s46.2), (6, .int v51)]) (fun v57 => []) (fun v57 => th) (fun v57 => ?_) (fun j58 hj58 => ?_)
                                        · refine x_P 263 rfl rfl rfl ?_
                                          refine x_P 268 rfl rfl rfl ?_
                                          exact x_lv (hj54 v51) ⟨rfl, rfl, rfl, trivial⟩
                                        · refine x_if_eq rfl rfl (fun h60 => ?_) (fun h60 => ?_)
                                          · exact x_lv (hj58 ()) ⟨rfl, rfl, rfl, rfl, trivial⟩
                                          · refine x_P 256 rfl rfl rfl ?_
                                            refine x_P 258 rfl rfl rfl ?_
                                            refine x_ic_ge rfl rfl (fun h59 => ?_) (fun h59 => ?_)
                                            · exact x_lv (hj56 ()) ⟨rfl, rfl, rfl, rfl, trivial⟩
                                            · exact x_lv (hj58 ()) ⟨rfl, rfl, rfl, rfl, trivial⟩
                                · refine x_ic_ne rfl rfl (fun h67 => ?_) (fun h67 => ?_)
                                  · refine x_P 221 rfl rfl rfl ?_
                                    refine x_P 241 rfl rfl rfl ?_
                                    exact x_lv (hj52 (Int32.ofInt 0)) ⟨rfl, rfl, rfl, rfl, trivial⟩
                                  · refine x_P 225 rfl rfl rfl ?_
                                    refine x_P 226 rfl rfl rfl ?_
                                    refine x_gN rfl (fun o62 ho62 => ?_)
                                    refine x_P 230 rfl rfl rfl ?_
                                    refine x_aI rfl ⟨rfl, rfl⟩ (fun x63 hx63 => ?_)
                                    refine x_P 232 rfl rfl rfl ?_
                                    refine x_gN rfl (fun o64 ho64 => ?_)
                                    refine x_P 237 rfl rfl rfl ?_
                                    refine x_aI rfl ⟨rfl, rfl⟩ (fun x65 hx65 => ?_)
                                    refine x_callV rfl rfl rfl rfl rfl ⟨rfl, rfl⟩ (fun x h => c_237 h) (S_237 (d + 4) a0 x63 x65 th) (fun x66 hx66 => ?_)
                                    exact x_lv (hj52 x66) ⟨rfl, rfl, rfl, rfl, trivial⟩
                            · refine x_P 278 rfl rfl rfl ?_
                              exact x_retI (x := (x49, th)) rfl
                          · skip
                            exact x_none
            · refine x_ic_ne rfl rfl (fun h77 => ?_) (fun h77 => ?_)
              · refine x_P 52 rfl rfl rfl ?_
                refine x_gN rfl (fun o71 ho71 => ?_)
                refine x_P 56 rfl rfl rfl ?_
                refine x_gN rfl (fun o72 ho72 => ?_)
                refine x_P 60 rfl rfl rfl ?_
                refine x_aI rfl ⟨rfl, rfl⟩ (fun x73 hx73 => ?_)
                refine x_aI rfl ⟨rfl, rfl⟩ (fun x74 hx74 => ?_)
                refine x_P 63 rfl rfl rfl ?_
                refine x_callS rfl rfl rfl rfl rfl rfl ⟨rfl, rfl⟩ (S_208 (d + 4) x74 a2 th) (fun x75 hx75 => ?_)
                refine x_if_ne rfl rfl (fun h76 => ?_) (fun h76 => ?_)
                · exact x_lv (hj9 ()) ⟨rfl, trivial⟩
                · exact x_lv (hj14 ()) ⟨rfl, rfl, rfl, trivial⟩
              · exact x_lv (hj14 ()) ⟨rfl, rfl, rfl, trivial⟩
-- 211 NineTreesModel.side(I)I
noncomputable def m_211 (a0 : Nat) (a1 : Int32) (th : tH) : Option (Int32 × tH) :=
  (gC th 8 a0).bind fun _ =>
  (m_190 (Int32.toInt64 a1) (Int64.ofNat 3) (Int64.ofNat 8) th).bind fun x1 =>
  if x1 = 0 then
    (m_189 a0 (Int8.ofInt (-2)).toInt32 th).bind fun q7 =>
    some (q7.1, q7.2)
  else
    (gI th 8 a0 10).bind fun x2 =>
    if x2 ≤ 0 then
      (gI th 8 a0 9).bind fun x3 =>
      (pI th 8 a0 9 a1).bind fun th4 =>
      some (x3, th4)
    else
      (m_189 a0 (Int8.ofInt (-5)).toInt32 th).bind fun q5 =>
      some (q5.1, q5.2)
theorem c_211 {a0 : Nat} {a1 : Int32} {th : tH} {x : (Int32 × tH)} (h : m_211 a0 a1 th = some x) : ∃ fs, th[a0]? = some (.inr (8, fs)) := gC_of h
theorem S_211 {L : Nat} (d : Nat) (a0 : Nat) (a1 : Int32) (th : tH) : Wx L (fun x => (some (.int x.1), x.2)) (d + 2) 211 3 0 [(0, .ref a0), (1, .int a1)] [] th (m_211 a0 a1 th) := by
  unfold m_211
  refine x_gC ?_
  refine x_P 1 rfl rfl rfl ?_
  refine x_P 2 rfl rfl rfl ?_
  refine x_P 5 rfl rfl rfl ?_
  refine x_P 8 rfl rfl rfl ?_
  refine x_callS rfl rfl rfl rfl rfl rfl ⟨rfl, rfl⟩ (S_190 (d + 1) (Int32.toInt64 a1) (Int64.ofNat 3) (Int64.ofNat 8) th) (fun x1 hx1 => ?_)
  refine x_if_ne rfl rfl (fun h8 => ?_) (fun h8 => ?_)
  · refine x_P 15 rfl rfl rfl ?_
    refine x_P 17 rfl rfl rfl ?_
    refine x_callV rfl rfl rfl rfl rfl ⟨rfl, rfl⟩ (fun x h => c_189 h) (S_189 d a0 (Int8.ofInt (-2)).toInt32 th) (fun q7 hq7 => ?_)
    exact x_retI (x := (q7.1, q7.2)) rfl
  · refine x_P 22 rfl rfl rfl ?_
    refine x_gI rfl (fun x2 hx2 => ?_)
    refine x_if_le rfl rfl (fun h6 => ?_) (fun h6 => ?_)
    · refine x_P 36 rfl rfl rfl ?_
      refine x_gI rfl (fun x3 hx3 => ?_)
      refine x_P (lv' := [(2, .int x3), (0, .ref a0), (1, .int a1)]) 40 rfl rfl rfl ?_
      refine x_P 41 rfl rfl rfl ?_
      refine x_P 42 rfl rfl rfl ?_
      refine x_pI rfl (fun th4 hth4 => ?_)
      refine x_P 46 rfl rfl rfl ?_
      exact x_retI (x := (x3, th4)) rfl
    · refine x_P 29 rfl rfl rfl ?_
      refine x_P 31 rfl rfl rfl ?_
      refine x_callV rfl rfl rfl rfl rfl ⟨rfl, rfl⟩ (fun x h => c_189 h) (S_189 d a0 (Int8.ofInt (-5)).toInt32 th) (fun q5 hq5 => ?_)
      exact x_retI (x := (q5.1, q5.2)) rfl
-- 212 NineTreesModel.addTree(III)V
noncomputable def m_212 (a0 : Nat) (a1 : Int32) (a2 : Int32) (a3 : Int32) (th : tH) : Option tH :=
  (gC th 8 a0).bind fun _ =>
  (gN th 8 a0 11).bind fun o1 =>
  (gI th 8 a0 10).bind fun x2 =>
  (sI th o1 x2 a1).bind fun th3 =>
  (gN th3 8 a0 12).bind fun o4 =>
  (gI th3 8 a0 10).bind fun x5 =>
  (sI th3 o4 x5 a2).bind fun th6 =>
  (gN th6 8 a0 13).bind fun o7 =>
  (gI th6 8 a0 10).bind fun x8 =>
  (sI th6 o7 x8 a3).bind fun th9 =>
  (gI th9 8 a0 10).bind fun x10 =>
  (pI th9 8 a0 10 (x10 + (Int32.ofInt 1))).bind fun th11 =>
  some th11
theorem c_212 {a0 : Nat} {a1 : Int32} {a2 : Int32} {a3 : Int32} {th : tH} {x : tH} (h : m_212 a0 a1 a2 a3 th = some x) : ∃ fs, th[a0]? = some (.inr (8, fs)) := gC_of h
theorem S_212 {L : Nat} (d : Nat) (a0 : Nat) (a1 : Int32) (a2 : Int32) (a3 : Int32) (th : tH) : Wx L (fun x => (none, x)) (d + 1) 212 4 0 [(0, .ref a0), (1, .int a1), (2, .int a2), (3, .int a3)] [] th (m_212 a0 a1 a2 a3 th) := by
  unfold m_212
  refine x_gC ?_
  refine x_P 1 rfl rfl rfl ?_
  refine x_gN rfl (fun o1 ho1 => ?_)
  refine x_P 5 rfl rfl rfl ?_
  refine x_gI rfl (fun x2 hx2 => ?_)
  refine x_P 9 rfl rfl rfl ?_
  refine x_sI rfl ⟨rfl, rfl⟩ (fun th3 hth3 => ?_)
  refine x_P 11 rfl rfl rfl ?_
  refine x_gN rfl (fun o4 ho4 => ?_)
  refine x_P 15 rfl rfl rfl ?_
  refine x_gI rfl (fun x5 hx5 => ?_)
  refine x_P 19 rfl rfl rfl ?_
  refine x_sI rfl ⟨rfl, rfl⟩ (fun th6 hth6 => ?_)
  refine x_P 21 rfl rfl rfl ?_
  refine x_gN rfl (fun o7 ho7 => ?_)
  refine x_P 25 rfl rfl rfl ?_
  refine x_gI rfl (fun x8 hx8 => ?_)
  refine x_P 29 rfl rfl rfl ?_
  refine x_sI rfl ⟨rfl, rfl⟩ (fun th9 hth9 => ?_)
  refine x_P 31 rfl rfl rfl ?_
  refine x_P 32 rfl rfl rfl ?_
  refine x_gI rfl (fun x10 hx10 => ?_)
  refine x_P 36 rfl rfl rfl ?_
  refine x_P 37 rfl rfl rfl ?_
  refine x_pI rfl (fun th11 hth11 => ?_)
  exact x_retV (x := th11) rfl
-- 213 NineTreesModel.tree(III)I
noncomputable def m_213 (a0 : Nat) (a1 : Int32) (a2 : Int32) (a3 : Int32) (th : tH) : Option (Int32 × tH) :=
  (gC th 8 a0).bind fun _ =>
  (m_190 (Int32.toInt64 a1) (Int64.ofNat 0) (Int64.ofNat 5) th).bind fun x1 =>
  jn (fun (v2 : Unit) =>
      (m_189 a0 (Int8.ofInt (-2)).toInt32 th).bind fun q4 =>
      some (q4.1, q4.2)
    ) (fun j3 =>
      if x1 = 0 then
        j3 ()
      else
        (m_193 a0 a2 th).bind fun x5 =>
        if x5 = 0 then
          j3 ()
        else
          (m_190 (Int32.toInt64 a3) (Int64.ofNat 0) (Int64.ofNat 9) th).bind fun x6 =>
          if x6 = 0 then
            j3 ()
          else
            (m_194 a0 a2 th).bind fun x7 =>
            if x7 = (Int32.ofInt (-1)) then
              (gI th 8 a0 10).bind fun x8 =>
              if x8 = (Int8.ofInt 12).toInt32 then
                (m_189 a0 (Int8.ofInt (-6)).toInt32 th).bind fun q11 =>
                some (q11.1, q11.2)
              else
                (m_212 a0 a1 a2 a3 th).bind fun th9 =>
                (gI th9 8 a0 10).bind fun x10 =>
                some ((x10 - (Int32.ofInt 1)), th9)
            else
              (m_189 a0 (Int8.ofInt (-5)).toInt32 th).bind fun q13 =>
              some (q13.1, q13.2)
    )
theorem c_213 {a0 : Nat} {a1 : Int32} {a2 : Int32} {a3 : Int32} {th : tH} {x : (Int32 × tH)} (h : m_213 a0 a1 a2 a3 th = some x) : ∃ fs, th[a0]? = some (.inr (8, fs)) := gC_of h
theorem S_213 {L : Nat} (d : Nat) (a0 : Nat) (a1 : Int32) (a2 : Int32) (a3 : Int32) (th : tH) : Wx L (fun x => (some (.int x.1), x.2)) (d + 2) 213 4 0 [(0, .ref a0), (1, .int a1), (2, .int a2), (3, .int a3)] [] th (m_213 a0 a1 a2 a3 th) := by
  unfold m_213
  refine x_gC ?_
  refine x_P 1 rfl rfl rfl ?_
  refine x_P 2 rfl rfl rfl ?_
  refine x_P 3 rfl rfl rfl ?_
  refine x_P 6 rfl rfl rfl ?_
  refine x_callS rfl rfl rfl rfl rfl rfl ⟨rfl, rfl⟩ (S_190 (d + 1) (Int32.toInt64 a1) (Int64.ofNat 0) (Int64.ofNat 5) th) (fun x1 hx1 => ?_)
  refine x_jn 32 (fun v2 => [(0, .ref a0)]) (fun v2 => []) (fun v2 => th) (fun v2 => ?_) (fun j3 hj3 => ?_)
  · refine x_P 33 rfl rfl rfl ?_
    refine x_P 35 rfl rfl rfl ?_
    refine x_callV rfl rfl rfl rfl rfl ⟨rfl, rfl⟩ (fun x h => c_189 h) (S_189 d a0 (Int8.ofInt (-2)).toInt32 th) (fun q4 hq4 => ?_)
    exact x_retI (x := (q4.1, q4.2)) rfl
  · refine x_if_eq rfl rfl (fun h17 => ?_) (fun h17 => ?_)
    · exact x_lv (hj3 ()) ⟨rfl, trivial⟩
    · refine x_P 13 rfl rfl rfl ?_
      refine x_P 14 rfl rfl rfl ?_
      refine x_callV rfl rfl rfl rfl rfl ⟨rfl, rfl⟩ (fun x h => c_193 h) (S_193 d a0 a2 th) (fun x5 hx5 => ?_)
      refine x_if_eq rfl rfl (fun h16 => ?_) (fun h16 => ?_)
      · exact x_lv (hj3 ()) ⟨rfl, trivial⟩
      · refine x_P 21 rfl rfl rfl ?_
        refine x_P 22 rfl rfl rfl ?_
        refine x_P 23 rfl rfl rfl ?_
        refine x_P 26 rfl rfl rfl ?_
        refine x_callS rfl rfl rfl rfl rfl rfl ⟨rfl, rfl⟩ (S_190 (d + 1) (Int32.toInt64 a3) (Int64.ofNat 0) (Int64.ofNat 9) th) (fun x6 hx6 => ?_)
        refine x_if_ne rfl rfl (fun h15 => ?_) (fun h15 => ?_)
        · exact x_lv (hj3 ()) ⟨rfl, trivial⟩
        · refine x_P 40 rfl rfl rfl ?_
          refine x_P 41 rfl rfl rfl ?_
          refine x_callV rfl rfl rfl rfl rfl ⟨rfl, rfl⟩ (fun x h => c_194 h) (S_194 (d + 1) a0 a2 th) (fun x7 hx7 => ?_)
          refine x_P 45 rfl rfl rfl ?_
          refine x_ic_eq rfl rfl (fun h14 => ?_) (fun h14 => ?_)
          · refine x_P 56 rfl rfl rfl ?_
            refine x_gI rfl (fun x8 hx8 => ?_)
            refine x_P 61 rfl rfl rfl ?_
            refine x_ic_ne rfl rfl (fun h12 => ?_) (fun h12 => ?_)
            · refine x_P 65 rfl rfl rfl ?_
              refine x_P 67 rfl rfl rfl ?_
              refine x_callV rfl rfl rfl rfl rfl ⟨rfl, rfl⟩ (fun x h => c_189 h) (S_189 d a0 (Int8.ofInt (-6)).toInt32 th) (fun q11 hq11 => ?_)
              exact x_retI (x := (q11.1, q11.2)) rfl
            · refine x_P 72 rfl rfl rfl ?_
              refine x_P 73 rfl rfl rfl ?_
              refine x_P 74 rfl rfl rfl ?_
              refine x_P 75 rfl rfl rfl ?_
              refine x_callW rfl rfl rfl rfl rfl ⟨rfl, rfl⟩ (fun x h => c_212 h) (S_212 d a0 a1 a2 a3 th) (fun th9 hth9 => ?_)
              refine x_P 79 rfl rfl rfl ?_
              refine x_gI rfl (fun x10 hx10 => ?_)
              refine x_P 83 rfl rfl rfl ?_
              refine x_P 84 rfl rfl rfl ?_
              exact x_retI (x := ((x10 - (Int32.ofInt 1)), th9)) rfl
          · refine x_P 49 rfl rfl rfl ?_
            refine x_P 51 rfl rfl rfl ?_
            refine x_callV rfl rfl rfl rfl rfl ⟨rfl, rfl⟩ (fun x h => c_189 h) (S_189 d a0 (Int8.ofInt (-5)).toInt32 th) (fun q13 hq13 => ?_)
            exact x_retI (x := (q13.1, q13.2)) rfl
-- 214 NineTreesModel.wish(I)I
noncomputable def m_214 (a0 : Nat) (a1 : Int32) (th : tH) : Option (Int32 × tH) :=
  (gC th 8 a0).bind fun _ =>
  jn (fun (v1 : Unit) =>
      (m_189 a0 (Int8.ofInt (-2)).toInt32 th).bind fun q3 =>
      some (q3.1, q3.2)
    ) (fun j2 =>
      if a1 < 0 then
        j2 ()
      else
        (gI th 8 a0 10).bind fun x4 =>
        if (a1 >>> (x4 &&& 31)) = 0 then
          (m_196 a1 th).bind fun x5 =>
          if (Int32.ofInt 3) ≤ x5 then
            (gI th 8 a0 14).bind fun x6 =>
            if x6 = (Int8.ofInt 8).toInt32 then
              (m_189 a0 (Int8.ofInt (-6)).toInt32 th).bind fun q12 =>
              some (q12.1, q12.2)
            else
              (gN th 8 a0 15).bind fun o7 =>
              (gI th 8 a0 14).bind fun x8 =>
              (pI th 8 a0 14 (x8 + (Int32.ofInt 1))).bind fun th9 =>
              (sI th9 o7 x8 a1).bind fun th10 =>
              (gI th10 8 a0 14).bind fun x11 =>
              some ((x11 - (Int32.ofInt 1)), th10)
          else
            j2 ()
        else
          j2 ()
    )
theorem c_214 {a0 : Nat} {a1 : Int32} {th : tH} {x : (Int32 × tH)} (h : m_214 a0 a1 th = some x) : ∃ fs, th[a0]? = some (.inr (8, fs)) := gC_of h
theorem S_214 {L : Nat} (d : Nat) (a0 : Nat) (a1 : Int32) (th : tH) : Wx L (fun x => (some (.int x.1), x.2)) (d + 2) 214 2 0 [(0, .ref a0), (1, .int a1)] [] th (m_214 a0 a1 th) := by
  unfold m_214
  refine x_gC ?_
  refine x_P 1 rfl rfl rfl ?_
  refine x_jn 21 (fun v1 => [(0, .ref a0)]) (fun v1 => []) (fun v1 => th) (fun v1 => ?_) (fun j2 hj2 => ?_)
  · refine x_P 22 rfl rfl rfl ?_
    refine x_P 24 rfl rfl rfl ?_
    refine x_callV rfl rfl rfl rfl rfl ⟨rfl, rfl⟩ (fun x h => c_189 h) (S_189 d a0 (Int8.ofInt (-2)).toInt32 th) (fun q3 hq3 => ?_)
    exact x_retI (x := (q3.1, q3.2)) rfl
  · refine x_if_lt rfl rfl (fun h16 => ?_) (fun h16 => ?_)
    · exact x_lv (hj2 ()) ⟨rfl, trivial⟩
    · refine x_P 5 rfl rfl rfl ?_
      refine x_P 6 rfl rfl rfl ?_
      refine x_gI rfl (fun x4 hx4 => ?_)
      refine x_P 10 rfl rfl rfl ?_
      refine x_if_ne rfl rfl (fun h15 => ?_) (fun h15 => ?_)
      · refine x_P 14 rfl rfl rfl ?_
        refine x_callS rfl rfl rfl rfl rfl rfl ⟨rfl, rfl⟩ (S_196 (d + 1) a1 th) (fun x5 hx5 => ?_)
        refine x_P 18 rfl rfl rfl ?_
        refine x_ic_ge rfl rfl (fun h14 => ?_) (fun h14 => ?_)
        · refine x_P 29 rfl rfl rfl ?_
          refine x_gI rfl (fun x6 hx6 => ?_)
          refine x_P 34 rfl rfl rfl ?_
          refine x_ic_ne rfl rfl (fun h13 => ?_) (fun h13 => ?_)
          · refine x_P 38 rfl rfl rfl ?_
            refine x_P 40 rfl rfl rfl ?_
            refine x_callV rfl rfl rfl rfl rfl ⟨rfl, rfl⟩ (fun x h => c_189 h) (S_189 d a0 (Int8.ofInt (-6)).toInt32 th) (fun q12 hq12 => ?_)
            exact x_retI (x := (q12.1, q12.2)) rfl
          · refine x_P 45 rfl rfl rfl ?_
            refine x_gN rfl (fun o7 ho7 => ?_)
            refine x_P 49 rfl rfl rfl ?_
            refine x_P 50 rfl rfl rfl ?_
            refine x_gI rfl (fun x8 hx8 => ?_)
            refine x_P 54 rfl rfl rfl ?_
            refine x_P 55 rfl rfl rfl ?_
            refine x_P 56 rfl rfl rfl ?_
            refine x_pI rfl (fun th9 hth9 => ?_)
            refine x_P 60 rfl rfl rfl ?_
            refine x_sI rfl ⟨rfl, rfl⟩ (fun th10 hth10 => ?_)
            refine x_P 62 rfl rfl rfl ?_
            refine x_gI rfl (fun x11 hx11 => ?_)
            refine x_P 66 rfl rfl rfl ?_
            refine x_P 67 rfl rfl rfl ?_
            exact x_retI (x := ((x11 - (Int32.ofInt 1)), th10)) rfl
        · exact x_lv (hj2 ()) ⟨rfl, trivial⟩
      · exact x_lv (hj2 ()) ⟨rfl, trivial⟩
-- 215 NineTreesModel.content()I
noncomputable def m_215 (a0 : Nat) (th : tH) : Option (Int32 × tH) :=
  (gC th 8 a0).bind fun _ =>
  (gI th 8 a0 14).bind fun x1 =>
  (pI th 8 a0 14 (Int32.ofInt 0)).bind fun th2 =>
  some (x1, th2)
theorem c_215 {a0 : Nat} {th : tH} {x : (Int32 × tH)} (h : m_215 a0 th = some x) : ∃ fs, th[a0]? = some (.inr (8, fs)) := gC_of h
theorem S_215 {L : Nat} (d : Nat) (a0 : Nat) (th : tH) : Wx L (fun x => (some (.int x.1), x.2)) (d + 1) 215 2 0 [(0, .ref a0)] [] th (m_215 a0 th) := by
  unfold m_215
  refine x_gC ?_
  refine x_P 1 rfl rfl rfl ?_
  refine x_gI rfl (fun x1 hx1 => ?_)
  refine x_P (lv' := [(1, .int x1), (0, .ref a0)]) 5 rfl rfl rfl ?_
  refine x_P 6 rfl rfl rfl ?_
  refine x_P 7 rfl rfl rfl ?_
  refine x_pI rfl (fun th2 hth2 => ?_)
  refine x_P 11 rfl rfl rfl ?_
  exact x_retI (x := (x1, th2)) rfl
-- 216 NineTreesModel.noMove(II)I
noncomputable def m_216 (a0 : Nat) (a1 : Int32) (a2 : Int32) (th : tH) : Option (Int32 × tH) :=
  (gC th 8 a0).bind fun _ =>
  (m_191 a0 a1 th).bind fun x1 =>
  jn (fun (v2 : Unit) =>
      (m_189 a0 (Int8.ofInt (-2)).toInt32 th).bind fun q4 =>
      some (q4.1, q4.2)
    ) (fun j3 =>
      if x1 = 0 then
        j3 ()
      else
        (m_193 a0 a2 th).bind fun x5 =>
        if x5 = 0 then
          j3 ()
        else
          (m_197 a0 a1 th).bind fun x6 =>
          jn (fun (v7 : Int32 × tH) =>
              some (v7.1, v7.2)
            ) (fun j8 =>
              jn (fun (v9 : Unit) =>
                  (m_189 a0 (Int8.ofInt (-5)).toInt32 th).bind fun q11 =>
                  j8 (q11.1, q11.2)
                ) (fun j10 =>
                  if x6 = 0 then
                    (m_194 a0 a2 th).bind fun x12 =>
                    if x12 = (Int32.ofInt (-1)) then
                      j8 ((Int32.ofInt 0), th)
                    else
                      j10 ()
                  else
                    j10 ()
                )
            )
    )
theorem c_216 {a0 : Nat} {a1 : Int32} {a2 : Int32} {th : tH} {x : (Int32 × tH)} (h : m_216 a0 a1 a2 th = some x) : ∃ fs, th[a0]? = some (.inr (8, fs)) := gC_of h
theorem S_216 {L : Nat} (d : Nat) (a0 : Nat) (a1 : Int32) (a2 : Int32) (th : tH) : Wx L (fun x => (some (.int x.1), x.2)) (d + 2) 216 3 0 [(0, .ref a0), (1, .int a1), (2, .int a2)] [] th (m_216 a0 a1 a2 th) := by
  unfold m_216
  refine x_gC ?_
  refine x_P 1 rfl rfl rfl ?_
  refine x_P 2 rfl rfl rfl ?_
  refine x_callV rfl rfl rfl rfl rfl ⟨rfl, rfl⟩ (fun x h => c_191 h) (S_191 d a0 a1 th) (fun x1 hx1 => ?_)
  refine x_jn 16 (fun v2 => [(0, .ref a0)]) (fun v2 => []) (fun v2 => th) (fun v2 => ?_) (fun j3 hj3 => ?_)
  · refine x_P 17 rfl rfl rfl ?_
    refine x_P 19 rfl rfl rfl ?_
    refine x_callV rfl rfl rfl rfl rfl ⟨rfl, rfl⟩ (fun x h => c_189 h) (S_189 d a0 (Int8.ofInt (-2)).toInt32 th) (fun q4 hq4 => ?_)
    exact x_retI (x := (q4.1, q4.2)) rfl
  · refine x_if_eq rfl rfl (fun h16 => ?_) (fun h16 => ?_)
    · exact x_lv (hj3 ()) ⟨rfl, trivial⟩
    · refine x_P 9 rfl rfl rfl ?_
      refine x_P 10 rfl rfl rfl ?_
      refine x_callV rfl rfl rfl rfl rfl ⟨rfl, rfl⟩ (fun x h => c_193 h) (S_193 d a0 a2 th) (fun x5 hx5 => ?_)
      refine x_if_ne rfl rfl (fun h15 => ?_) (fun h15 => ?_)
      · exact x_lv (hj3 ()) ⟨rfl, trivial⟩
      · refine x_P 24 rfl rfl rfl ?_
        refine x_P 25 rfl rfl rfl ?_
        refine x_callV rfl rfl rfl rfl rfl ⟨rfl, rfl⟩ (fun x h => c_197 h) (S_197 (d + 1) a0 a1 th) (fun x6 hx6 => ?_)
        refine x_jn 50 (fun v7 => []) (fun v7 => [.int v7.1]) (fun v7 => v7.2) (fun v7 => ?_) (fun j8 hj8 => ?_)
        · exact x_retI (x := (v7.1, v7.2)) rfl
        · refine x_jn 40 (fun v9 => [(0, .ref a0)]) (fun v9 => []) (fun v9 => th) (fun v9 => ?_) (fun j10 hj10 => ?_)
          · refine x_P 41 rfl rfl rfl ?_
            refine x_P 43 rfl rfl rfl ?_
            refine x_callV rfl rfl rfl rfl rfl ⟨rfl, rfl⟩ (fun x h => c_189 h) (S_189 d a0 (Int8.ofInt (-5)).toInt32 th) (fun q11 hq11 => ?_)
            refine x_P 50 rfl rfl rfl ?_
            exact x_lv (hj8 (q11.1, q11.2)) trivial
          · refine x_if_ne rfl rfl (fun h14 => ?_) (fun h14 => ?_)
            · refine x_P 32 rfl rfl rfl ?_
              refine x_P 33 rfl rfl rfl ?_
              refine x_callV rfl rfl rfl rfl rfl ⟨rfl, rfl⟩ (fun x h => c_194 h) (S_194 (d + 1) a0 a2 th) (fun x12 hx12 => ?_)
              refine x_P 37 rfl rfl rfl ?_
              refine x_ic_eq rfl rfl (fun h13 => ?_) (fun h13 => ?_)
              · refine x_P 50 rfl rfl rfl ?_
                exact x_lv (hj8 ((Int32.ofInt 0), th)) trivial
              · exact x_lv (hj10 ()) ⟨rfl, trivial⟩
            · exact x_lv (hj10 ()) ⟨rfl, trivial⟩
-- 217 NineTreesModel.move(II)I
noncomputable def m_217 (a0 : Nat) (a1 : Int32) (a2 : Int32) (th : tH) : Option (Int32 × tH) :=
  (gC th 8 a0).bind fun _ =>
  (m_216 a0 a1 a2 th).bind fun q1 =>
  if q1.1 = 0 then
    (gN q1.2 8 a0 12).bind fun o2 =>
    (aI q1.2 o2 a1).bind fun x3 =>
    (gN q1.2 8 a0 12).bind fun o4 =>
    (sI q1.2 o4 a1 a2).bind fun th5 =>
    some (x3, th5)
  else
    some (q1.1, q1.2)
theorem c_217 {a0 : Nat} {a1 : Int32} {a2 : Int32} {th : tH} {x : (Int32 × tH)} (h : m_217 a0 a1 a2 th = some x) : ∃ fs, th[a0]? = some (.inr (8, fs)) := gC_of h
theorem S_217 {L : Nat} (d : Nat) (a0 : Nat) (a1 : Int32) (a2 : Int32) (th : tH) : Wx L (fun x => (some (.int x.1), x.2)) (d + 3) 217 5 0 [(0, .ref a0), (1, .int a1), (2, .int a2)] [] th (m_217 a0 a1 a2 th) := by
  unfold m_217
  refine x_gC ?_
  refine x_P 1 rfl rfl rfl ?_
  refine x_P 2 rfl rfl rfl ?_
  refine x_P 3 rfl rfl rfl ?_
  refine x_callV rfl rfl rfl rfl rfl ⟨rfl, rfl⟩ (fun x h => c_216 h) (S_216 d a0 a1 a2 th) (fun q1 hq1 => ?_)
  refine x_P (lv' := [(3, .int q1.1), (0, .ref a0), (1, .int a1), (2, .int a2)]) 7 rfl rfl rfl ?_
  refine x_P 8 rfl rfl rfl ?_
  refine x_if_eq rfl rfl (fun h6 => ?_) (fun h6 => ?_)
  · refine x_P 14 rfl rfl rfl ?_
    refine x_gN rfl (fun o2 ho2 => ?_)
    refine x_P 18 rfl rfl rfl ?_
    refine x_aI rfl ⟨rfl, rfl⟩ (fun x3 hx3 => ?_)
    refine x_P (lv' := [(4, .int x3), (3, .int q1.1), (0, .ref a0), (1, .int a1), (2, .int a2)]) 21 rfl rfl rfl ?_
    refine x_P 22 rfl rfl rfl ?_
    refine x_gN rfl (fun o4 ho4 => ?_)
    refine x_P 26 rfl rfl rfl ?_
    refine x_P 27 rfl rfl rfl ?_
    refine x_sI rfl ⟨rfl, rfl⟩ (fun th5 hth5 => ?_)
    refine x_P 30 rfl rfl rfl ?_
    exact x_retI (x := (x3, th5)) rfl
  · refine x_P 12 rfl rfl rfl ?_
    exact x_retI (x := (q1.1, q1.2)) rfl
-- 218 NineTreesModel.canFell()Z
noncomputable def m_218 (a0 : Nat) (th : tH) : Option (Int32) :=
  (gC th 8 a0).bind fun _ =>
  (gI th 8 a0 10).bind fun x1 =>
  jn (fun (v2 : Int32) =>
      rB v2
    ) (fun j3 =>
      jn (fun (v4 : Unit) =>
          j3 (Int32.ofInt 0)
        ) (fun j5 =>
          if x1 ≤ 0 then
            j5 ()
          else
            (gI th 8 a0 10).bind fun x6 =>
            (m_210 a0 (x6 - (Int32.ofInt 1)) th).bind fun x7 =>
            if x7 = 0 then
              j3 (Int32.ofInt 1)
            else
              j5 ()
        )
    )
theorem c_218 {a0 : Nat} {th : tH} {x : (Int32)} (h : m_218 a0 th = some x) : ∃ fs, th[a0]? = some (.inr (8, fs)) := gC_of h
theorem S_218 {L : Nat} (d : Nat) (a0 : Nat) (th : tH) : Wx L (fun x => (some (.int x), th)) (d + 2) 218 1 0 [(0, .ref a0)] [] th (m_218 a0 th) := by
  unfold m_218
  refine x_gC ?_
  refine x_P 1 rfl rfl rfl ?_
  refine x_gI rfl (fun x1 hx1 => ?_)
  refine x_jn 25 (fun v2 => []) (fun v2 => [.int v2]) (fun v2 => th) (fun v2 => ?_) (fun j3 hj3 => ?_)
  · exact x_rB rfl
  · refine x_jn 24 (fun v4 => []) (fun v4 => []) (fun v4 => th) (fun v4 => ?_) (fun j5 hj5 => ?_)
    · refine x_P 25 rfl rfl rfl ?_
      exact x_lv (hj3 (Int32.ofInt 0)) trivial
    · refine x_if_le rfl rfl (fun h9 => ?_) (fun h9 => ?_)
      · exact x_lv (hj5 ()) trivial
      · refine x_P 8 rfl rfl rfl ?_
        refine x_P 9 rfl rfl rfl ?_
        refine x_gI rfl (fun x6 hx6 => ?_)
        refine x_P 13 rfl rfl rfl ?_
        refine x_P 14 rfl rfl rfl ?_
        refine x_callV rfl rfl rfl rfl rfl ⟨rfl, rfl⟩ (fun x h => c_210 h) (S_210 d a0 (x6 - (Int32.ofInt 1)) th) (fun x7 hx7 => ?_)
        refine x_if_ne rfl rfl (fun h8 => ?_) (fun h8 => ?_)
        · refine x_P 21 rfl rfl rfl ?_
          refine x_P 25 rfl rfl rfl ?_
          exact x_lv (hj3 (Int32.ofInt 1)) trivial
        · exact x_lv (hj5 ()) trivial
-- 219 NineTreesModel.fell()I
noncomputable def m_219 (a0 : Nat) (th : tH) : Option (Int32 × tH) :=
  (gC th 8 a0).bind fun _ =>
  (m_218 a0 th).bind fun x1 =>
  if x1 = 0 then
    (m_189 a0 (Int8.ofInt (-5)).toInt32 th).bind fun q6 =>
    some (q6.1, q6.2)
  else
    (gI th 8 a0 10).bind fun x2 =>
    (pI th 8 a0 10 (x2 - (Int32.ofInt 1))).bind fun th3 =>
    (m_207 a0 th3).bind fun th4 =>
    (gI th4 8 a0 10).bind fun x5 =>
    some (x5, th4)
theorem c_219 {a0 : Nat} {th : tH} {x : (Int32 × tH)} (h : m_219 a0 th = some x) : ∃ fs, th[a0]? = some (.inr (8, fs)) := gC_of h
theorem S_219 {L : Nat} (d : Nat) (a0 : Nat) (th : tH) : Wx L (fun x => (some (.int x.1), x.2)) (d + 3) 219 1 0 [(0, .ref a0)] [] th (m_219 a0 th) := by
  unfold m_219
  refine x_gC ?_
  refine x_P 1 rfl rfl rfl ?_
  refine x_callV rfl rfl rfl rfl rfl ⟨rfl, rfl⟩ (fun x h => c_218 h) (S_218 d a0 th) (fun x1 hx1 => ?_)
  refine x_if_ne rfl rfl (fun h7 => ?_) (fun h7 => ?_)
  · refine x_P 8 rfl rfl rfl ?_
    refine x_P 10 rfl rfl rfl ?_
    refine x_callV rfl rfl rfl rfl rfl ⟨rfl, rfl⟩ (fun x h => c_189 h) (S_189 (d + 1) a0 (Int8.ofInt (-5)).toInt32 th) (fun q6 hq6 => ?_)
    exact x_retI (x := (q6.1, q6.2)) rfl
  · refine x_P 15 rfl rfl rfl ?_
    refine x_P 16 rfl rfl rfl ?_
    refine x_gI rfl (fun x2 hx2 => ?_)
    refine x_P 20 rfl rfl rfl ?_
    refine x_P 21 rfl rfl rfl ?_
    refine x_pI rfl (fun th3 hth3 => ?_)
    refine x_P 25 rfl rfl rfl ?_
    refine x_callW rfl rfl rfl rfl rfl ⟨rfl, rfl⟩ (fun x h => c_207 h) (S_207 (d + 1) a0 th3) (fun th4 hth4 => ?_)
    refine x_P 29 rfl rfl rfl ?_
    refine x_gI rfl (fun x5 hx5 => ?_)
    exact x_retI (x := (x5, th4)) rfl
-- 220 NineTreesModel.feed(I)I
noncomputable def m_220 (a0 : Nat) (a1 : Int32) (th : tH) : Option (Int32 × tH) :=
  (gC th 8 a0).bind fun _ =>
  (m_190 (Int32.toInt64 a1) (Int64.ofNat 0) (Int64.ofNat 255) th).bind fun x1 =>
  if x1 = 0 then
    (m_189 a0 (Int8.ofInt (-2)).toInt32 th).bind fun q10 =>
    some (q10.1, q10.2)
  else
    (gI th 8 a0 7).bind fun x2 =>
    if x2 = (Int16.ofInt 250).toInt32 then
      (m_189 a0 (Int8.ofInt (-6)).toInt32 th).bind fun q8 =>
      some (q8.1, q8.2)
    else
      (gN th 8 a0 6).bind fun o3 =>
      (gI th 8 a0 7).bind fun x4 =>
      (pI th 8 a0 7 (x4 + (Int32.ofInt 1))).bind fun th5 =>
      (sI th5 o3 x4 a1).bind fun th6 =>
      (gI th6 8 a0 7).bind fun x7 =>
      some (x7, th6)
theorem c_220 {a0 : Nat} {a1 : Int32} {th : tH} {x : (Int32 × tH)} (h : m_220 a0 a1 th = some x) : ∃ fs, th[a0]? = some (.inr (8, fs)) := gC_of h
theorem S_220 {L : Nat} (d : Nat) (a0 : Nat) (a1 : Int32) (th : tH) : Wx L (fun x => (some (.int x.1), x.2)) (d + 2) 220 2 0 [(0, .ref a0), (1, .int a1)] [] th (m_220 a0 a1 th) := by
  unfold m_220
  refine x_gC ?_
  refine x_P 1 rfl rfl rfl ?_
  refine x_P 2 rfl rfl rfl ?_
  refine x_P 3 rfl rfl rfl ?_
  refine x_P 6 rfl rfl rfl ?_
  refine x_callS rfl rfl rfl rfl rfl rfl ⟨rfl, rfl⟩ (S_190 (d + 1) (Int32.toInt64 a1) (Int64.ofNat 0) (Int64.ofNat 255) th) (fun x1 hx1 => ?_)
  refine x_if_ne rfl rfl (fun h11 => ?_) (fun h11 => ?_)
  · refine x_P 13 rfl rfl rfl ?_
    refine x_P 15 rfl rfl rfl ?_
    refine x_callV rfl rfl rfl rfl rfl ⟨rfl, rfl⟩ (fun x h => c_189 h) (S_189 d a0 (Int8.ofInt (-2)).toInt32 th) (fun q10 hq10 => ?_)
    exact x_retI (x := (q10.1, q10.2)) rfl
  · refine x_P 20 rfl rfl rfl ?_
    refine x_gI rfl (fun x2 hx2 => ?_)
    refine x_P 26 rfl rfl rfl ?_
    refine x_ic_ne rfl rfl (fun h9 => ?_) (fun h9 => ?_)
    · refine x_P 30 rfl rfl rfl ?_
      refine x_P 32 rfl rfl rfl ?_
      refine x_callV rfl rfl rfl rfl rfl ⟨rfl, rfl⟩ (fun x h => c_189 h) (S_189 d a0 (Int8.ofInt (-6)).toInt32 th) (fun q8 hq8 => ?_)
      exact x_retI (x := (q8.1, q8.2)) rfl
    · refine x_P 37 rfl rfl rfl ?_
      refine x_gN rfl (fun o3 ho3 => ?_)
      refine x_P 41 rfl rfl rfl ?_
      refine x_P 42 rfl rfl rfl ?_
      refine x_gI rfl (fun x4 hx4 => ?_)
      refine x_P 46 rfl rfl rfl ?_
      refine x_P 47 rfl rfl rfl ?_
      refine x_P 48 rfl rfl rfl ?_
      refine x_pI rfl (fun th5 hth5 => ?_)
      refine x_P 52 rfl rfl rfl ?_
      refine x_sI rfl ⟨rfl, rfl⟩ (fun th6 hth6 => ?_)
      refine x_P 54 rfl rfl rfl ?_
      refine x_gI rfl (fun x7 hx7 => ?_)
      exact x_retI (x := (x7, th6)) rfl
-- 221 NineTreesModel.wipe()I
noncomputable def m_221 (a0 : Nat) (th : tH) : Option (Int32 × tH) :=
  (gC th 8 a0).bind fun _ =>
  (gI th 8 a0 7).bind fun x1 =>
  (pI th 8 a0 7 (Int32.ofInt 0)).bind fun th2 =>
  some (x1, th2)
theorem c_221 {a0 : Nat} {th : tH} {x : (Int32 × tH)} (h : m_221 a0 th = some x) : ∃ fs, th[a0]? = some (.inr (8, fs)) := gC_of h
theorem S_221 {L : Nat} (d : Nat) (a0 : Nat) (th : tH) : Wx L (fun x => (some (.int x.1), x.2)) (d + 1) 221 2 0 [(0, .ref a0)] [] th (m_221 a0 th) := by
  unfold m_221
  refine x_gC ?_
  refine x_P 1 rfl rfl rfl ?_
  refine x_gI rfl (fun x1 hx1 => ?_)
  refine x_P (lv' := [(1, .int x1), (0, .ref a0)]) 5 rfl rfl rfl ?_
  refine x_P 6 rfl rfl rfl ?_
  refine x_P 7 rfl rfl rfl ?_
  refine x_pI rfl (fun th2 hth2 => ?_)
  refine x_P 11 rfl rfl rfl ?_
  exact x_retI (x := (x1, th2)) rfl
-- 222 NineTreesModel.isLetter(I)Z
noncomputable def m_222 (a0 : Int32) (th : tH) : Option (Int32) :=
  jn (fun (v1 : Int32) =>
      rB v1
    ) (fun j2 =>
      jn (fun (v3 : Unit) =>
          j2 (Int32.ofInt 0)
        ) (fun j4 =>
          if a0 < (Int8.ofInt 97).toInt32 then
            j4 ()
          else
            if (Int8.ofInt 122).toInt32 < a0 then
              j4 ()
            else
              j2 (Int32.ofInt 1)
        )
    )
theorem S_222 {L : Nat} (d : Nat) (a0 : Int32) (th : tH) : Wx L (fun x => (some (.int x), th)) d 222 1 0 [(0, .int a0)] [] th (m_222 a0 th) := by
  unfold m_222
  refine x_P 1 rfl rfl rfl ?_
  refine x_P 3 rfl rfl rfl ?_
  refine x_jn 17 (fun v1 => []) (fun v1 => [.int v1]) (fun v1 => th) (fun v1 => ?_) (fun j2 hj2 => ?_)
  · exact x_rB rfl
  · refine x_jn 16 (fun v3 => []) (fun v3 => []) (fun v3 => th) (fun v3 => ?_) (fun j4 hj4 => ?_)
    · refine x_P 17 rfl rfl rfl ?_
      exact x_lv (hj2 (Int32.ofInt 0)) trivial
    · refine x_ic_lt rfl rfl (fun h6 => ?_) (fun h6 => ?_)
      · exact x_lv (hj4 ()) trivial
      · refine x_P 7 rfl rfl rfl ?_
        refine x_P 9 rfl rfl rfl ?_
        refine x_ic_gt rfl rfl (fun h5 => ?_) (fun h5 => ?_)
        · exact x_lv (hj4 ()) trivial
        · refine x_P 13 rfl rfl rfl ?_
          refine x_P 17 rfl rfl rfl ?_
          exact x_lv (hj2 (Int32.ofInt 1)) trivial
-- 223 NineTreesModel.isDigit(I)Z
noncomputable def m_223 (a0 : Int32) (th : tH) : Option (Int32) :=
  jn (fun (v1 : Int32) =>
      rB v1
    ) (fun j2 =>
      jn (fun (v3 : Unit) =>
          j2 (Int32.ofInt 0)
        ) (fun j4 =>
          if a0 < (Int8.ofInt 48).toInt32 then
            j4 ()
          else
            if (Int8.ofInt 57).toInt32 < a0 then
              j4 ()
            else
              j2 (Int32.ofInt 1)
        )
    )
theorem S_223 {L : Nat} (d : Nat) (a0 : Int32) (th : tH) : Wx L (fun x => (some (.int x), th)) d 223 1 0 [(0, .int a0)] [] th (m_223 a0 th) := by
  unfold m_223
  refine x_P 1 rfl rfl rfl ?_
  refine x_P 3 rfl rfl rfl ?_
  refine x_jn 17 (fun v1 => []) (fun v1 => [.int v1]) (fun v1 => th) (fun v1 => ?_) (fun j2 hj2 => ?_)
  · exact x_rB rfl
  · refine x_jn 16 (fun v3 => []) (fun v3 => []) (fun v3 => th) (fun v3 => ?_) (fun j4 hj4 => ?_)
    · refine x_P 17 rfl rfl rfl ?_
      exact x_lv (hj2 (Int32.ofInt 0)) trivial
    · refine x_ic_lt rfl rfl (fun h6 => ?_) (fun h6 => ?_)
      · exact x_lv (hj4 ()) trivial
      · refine x_P 7 rfl rfl rfl ?_
        refine x_P 9 rfl rfl rfl ?_
        refine x_ic_gt rfl rfl (fun h5 => ?_) (fun h5 => ?_)
        · exact x_lv (hj4 ()) trivial
        · refine x_P 13 rfl rfl rfl ?_
          refine x_P 17 rfl rfl rfl ?_
          exact x_lv (hj2 (Int32.ofInt 1)) trivial
end
