/-! ===== programs ===== -/
-- 241 NineTreesModel.putRow(I)V
noncomputable def m_241 (a0 : Nat) (a1 : Int32) (th : tH) : Option tH :=
  (gC th 8 a0).bind fun _ =>
  (gI th 8 a0 27).bind fun x1 =>
  (pI th 8 a0 27 (x1 + (Int32.ofInt 1))).bind fun th2 =>
  lp (fun (s3 : Int32 × tH) nx4 ex5 =>
      if s3.1 ≤ 0 then
        ex5 (s3.1, s3.2)
      else
        (gN s3.2 8 a0 26).bind fun o9 =>
        (aI s3.2 o9 (s3.1 - (Int32.ofInt 1))).bind fun x10 =>
        if x10 ≤ a1 then
          ex5 (s3.1, s3.2)
        else
          (gN s3.2 8 a0 26).bind fun o11 =>
          (gN s3.2 8 a0 26).bind fun o12 =>
          (aI s3.2 o12 (s3.1 - (Int32.ofInt 1))).bind fun x13 =>
          (sI s3.2 o11 s3.1 x13).bind fun th14 =>
          nx4 ((s3.1 + Int32.ofInt (-1)), th14)
    ) 4096 (x1, th2) (fun (x6 : Int32 × tH) =>
      (gN x6.2 8 a0 26).bind fun o7 =>
      (sI x6.2 o7 x6.1 a1).bind fun th8 =>
      some th8
    )
theorem c_241 {a0 : Nat} {a1 : Int32} {th : tH} {x : tH} (h : m_241 a0 a1 th = some x) : ∃ fs, th[a0]? = some (.inr (8, fs)) := gC_of h
theorem S_241 {L : Nat} (d : Nat) (a0 : Nat) (a1 : Int32) (th : tH) : Wx L (fun x => (none, x)) (d + 1) 241 3 0 [(0, .ref a0), (1, .int a1)] [] th (m_241 a0 a1 th) := by
  unfold m_241
  refine x_gC ?_
  refine x_P 1 rfl rfl rfl ?_
  refine x_P 2 rfl rfl rfl ?_
  refine x_gI rfl (fun x1 hx1 => ?_)
  refine x_P 6 rfl rfl rfl ?_
  refine x_P 7 rfl rfl rfl ?_
  refine x_P 8 rfl rfl rfl ?_
  refine x_pI rfl (fun th2 hth2 => ?_)
  refine x_P (lv' := [(2, .int x1), (0, .ref a0), (1, .int a1)]) 12 rfl rfl rfl ?_
  refine x_lv (lv := [(0, .ref a0), (1, .int a1), (2, .int x1)]) (x_lp 48 (fun s3 => [(0, .ref a0), (1, .int a1), (2, .int s3.1)]) (fun s3 => s3.2) (fun x6 => [(0, .ref a0), (1, .int a1), (2, .int x6.1)]) (fun x6 => x6.2) (fun s3 nx4 hnx4 ex5 hex5 => ?_) (fun x6 => ?_) 4096 (x1, th2)) ⟨rfl, rfl, rfl, trivial⟩
  · refine x_P 13 rfl rfl rfl ?_
    refine x_if_le rfl rfl (fun h16 => ?_) (fun h16 => ?_)
    · exact x_lv (hex5 (s3.1, s3.2)) ⟨rfl, rfl, rfl, trivial⟩
    · refine x_P 17 rfl rfl rfl ?_
      refine x_gN rfl (fun o9 ho9 => ?_)
      refine x_P 21 rfl rfl rfl ?_
      refine x_P 22 rfl rfl rfl ?_
      refine x_P 23 rfl rfl rfl ?_
      refine x_aI rfl ⟨rfl, rfl⟩ (fun x10 hx10 => ?_)
      refine x_P 25 rfl rfl rfl ?_
      refine x_ic_le rfl rfl (fun h15 => ?_) (fun h15 => ?_)
      · exact x_lv (hex5 (s3.1, s3.2)) ⟨rfl, rfl, rfl, trivial⟩
      · refine x_P 29 rfl rfl rfl ?_
        refine x_gN rfl (fun o11 ho11 => ?_)
        refine x_P 33 rfl rfl rfl ?_
        refine x_P 34 rfl rfl rfl ?_
        refine x_gN rfl (fun o12 ho12 => ?_)
        refine x_P 38 rfl rfl rfl ?_
        refine x_P 39 rfl rfl rfl ?_
        refine x_P 40 rfl rfl rfl ?_
        refine x_aI rfl ⟨rfl, rfl⟩ (fun x13 hx13 => ?_)
        refine x_sI rfl ⟨rfl, rfl⟩ (fun th14 hth14 => ?_)
        refine x_P (lv' := [(2, .int (s3.1 + Int32.ofInt (-1))), (0, .ref a0), (1, .int a1)]) 45 rfl rfl rfl ?_
        refine x_P 12 rfl rfl rfl ?_
        exact x_lv (hnx4 ((s3.1 + Int32.ofInt (-1)), th14)) ⟨rfl, rfl, rfl, trivial⟩
  · refine x_P 49 rfl rfl rfl ?_
    refine x_gN rfl (fun o7 ho7 => ?_)
    refine x_P 53 rfl rfl rfl ?_
    refine x_P 54 rfl rfl rfl ?_
    refine x_sI rfl ⟨rfl, rfl⟩ (fun th8 hth8 => ?_)
    exact x_retV (x := th8) rfl
-- 240 NineTreesModel.findRows()V
noncomputable def m_240 (a0 : Nat) (th : tH) : Option tH :=
  (gC th 8 a0).bind fun _ =>
  (pI th 8 a0 27 (Int32.ofInt 0)).bind fun th1 =>
  lp (fun (s2 : Int32 × tH) nx3 ex4 =>
      (gI s2.2 8 a0 10).bind fun x6 =>
      if x6 ≤ s2.1 then
        ex4 s2.2
      else
        lp (fun (s7 : Int32 × tH) nx8 ex9 =>
            (gI s7.2 8 a0 10).bind fun x11 =>
            if x11 ≤ s7.1 then
              ex9 s7.2
            else
              (gN s7.2 8 a0 11).bind fun o12 =>
              (aI s7.2 o12 s2.1).bind fun x13 =>
              jn (fun (v14 : tH) =>
                  nx8 ((s7.1 + Int32.ofInt 1), v14)
                ) (fun j15 =>
                  if x13 = (Int32.ofInt 4) then
                    j15 s7.2
                  else
                    (gN s7.2 8 a0 11).bind fun o16 =>
                    (aI s7.2 o16 s7.1).bind fun x17 =>
                    if x17 = (Int32.ofInt 4) then
                      j15 s7.2
                    else
                      (m_239 a0 s2.1 s7.1 s7.2).bind fun x18 =>
                      if (x18 &&& (((Int32.ofInt 1) <<< (s7.1 &&& 31)) - (Int32.ofInt 1))) = ((Int32.ofInt 1) <<< (s2.1 &&& 31)) then
                        (m_241 a0 x18 s7.2).bind fun th19 =>
                        j15 th19
                      else
                        j15 s7.2
                )
          ) 4096 ((s2.1 + (Int32.ofInt 1)), s2.2) (fun (x10 : tH) =>
            nx3 ((s2.1 + Int32.ofInt 1), x10)
          )
    ) 4096 ((Int32.ofInt 0), th1) (fun (x5 : tH) =>
      some x5
    )
theorem c_240 {a0 : Nat} {th : tH} {x : tH} (h : m_240 a0 th = some x) : ∃ fs, th[a0]? = some (.inr (8, fs)) := gC_of h
theorem S_240 {L : Nat} (d : Nat) (a0 : Nat) (th : tH) : Wx L (fun x => (none, x)) (d + 3) 240 4 0 [(0, .ref a0)] [] th (m_240 a0 th) := by
  unfold m_240
  refine x_gC ?_
  refine x_P 1 rfl rfl rfl ?_
  refine x_P 2 rfl rfl rfl ?_
  refine x_pI rfl (fun th1 hth1 => ?_)
  refine x_P 6 rfl rfl rfl ?_
  refine x_P (lv' := [(1, .int (Int32.ofInt 0)), (0, .ref a0)]) 7 rfl rfl rfl ?_
  refine x_lv (lv := [(0, .ref a0), (1, .int (Int32.ofInt 0))]) (x_lp 84 (fun s2 => [(0, .ref a0), (1, .int s2.1)]) (fun s2 => s2.2) (fun x5 => []) (fun x5 => x5) (fun s2 nx3 hnx3 ex4 hex4 => ?_) (fun x5 => ?_) 4096 ((Int32.ofInt 0), th1)) ⟨rfl, rfl, trivial⟩
  · refine x_P 8 rfl rfl rfl ?_
    refine x_P 9 rfl rfl rfl ?_
    refine x_gI rfl (fun x6 hx6 => ?_)
    refine x_ic_ge rfl rfl (fun h24 => ?_) (fun h24 => ?_)
    · exact x_lv (hex4 s2.2) trivial
    · refine x_P 16 rfl rfl rfl ?_
      refine x_P 17 rfl rfl rfl ?_
      refine x_P 18 rfl rfl rfl ?_
      refine x_P (lv' := [(2, .int (s2.1 + (Int32.ofInt 1))), (0, .ref a0), (1, .int s2.1)]) 19 rfl rfl rfl ?_
      refine x_lv (lv := [(0, .ref a0), (1, .int s2.1), (2, .int (s2.1 + (Int32.ofInt 1)))]) (x_lp 78 (fun s7 => [(0, .ref a0), (1, .int s2.1), (2, .int s7.1)]) (fun s7 => s7.2) (fun x10 => [(0, .ref a0), (1, .int s2.1)]) (fun x10 => x10) (fun s7 nx8 hnx8 ex9 hex9 => ?_) (fun x10 => ?_) 4096 ((s2.1 + (Int32.ofInt 1)), s2.2)) ⟨rfl, rfl, rfl, trivial⟩
      · refine x_P 20 rfl rfl rfl ?_
        refine x_P 21 rfl rfl rfl ?_
        refine x_gI rfl (fun x11 hx11 => ?_)
        refine x_ic_ge rfl rfl (fun h23 => ?_) (fun h23 => ?_)
        · exact x_lv (hex9 s7.2) ⟨rfl, rfl, trivial⟩
        · refine x_P 28 rfl rfl rfl ?_
          refine x_gN rfl (fun o12 ho12 => ?_)
          refine x_P 32 rfl rfl rfl ?_
          refine x_aI rfl ⟨rfl, rfl⟩ (fun x13 hx13 => ?_)
          refine x_P 34 rfl rfl rfl ?_
          refine x_jn 72 (fun v14 => [(0, .ref a0), (1, .int s2.1), (2, .int s7.1)]) (fun v14 => []) (fun v14 => v14) (fun v14 => ?_) (fun j15 hj15 => ?_)
          · refine x_P (lv' := [(2, .int (s7.1 + Int32.ofInt 1)), (0, .ref a0), (1, .int s2.1)]) 75 rfl rfl rfl ?_
            refine x_P 19 rfl rfl rfl ?_
            exact x_lv (hnx8 ((s7.1 + Int32.ofInt 1), v14)) ⟨rfl, rfl, rfl, trivial⟩
          · refine x_ic_eq rfl rfl (fun h22 => ?_) (fun h22 => ?_)
            · exact x_lv (hj15 s7.2) ⟨rfl, rfl, rfl, trivial⟩
            · refine x_P 38 rfl rfl rfl ?_
              refine x_gN rfl (fun o16 ho16 => ?_)
              refine x_P 42 rfl rfl rfl ?_
              refine x_aI rfl ⟨rfl, rfl⟩ (fun x17 hx17 => ?_)
              refine x_P 44 rfl rfl rfl ?_
              refine x_ic_eq rfl rfl (fun h21 => ?_) (fun h21 => ?_)
              · exact x_lv (hj15 s7.2) ⟨rfl, rfl, rfl, trivial⟩
              · refine x_P 48 rfl rfl rfl ?_
                refine x_P 49 rfl rfl rfl ?_
                refine x_P 50 rfl rfl rfl ?_
                refine x_callV rfl rfl rfl rfl rfl ⟨rfl, rfl⟩ (fun x h => c_239 h) (S_239 d a0 s2.1 s7.1 s7.2) (fun x18 hx18 => ?_)
                refine x_P (lv' := [(3, .int x18), (0, .ref a0), (1, .int s2.1), (2, .int s7.1)]) 54 rfl rfl rfl ?_
                refine x_P 55 rfl rfl rfl ?_
                refine x_P 56 rfl rfl rfl ?_
                refine x_P 57 rfl rfl rfl ?_
                refine x_P 58 rfl rfl rfl ?_
                refine x_P 59 rfl rfl rfl ?_
                refine x_P 60 rfl rfl rfl ?_
                refine x_P 61 rfl rfl rfl ?_
                refine x_P 62 rfl rfl rfl ?_
                refine x_P 63 rfl rfl rfl ?_
                refine x_P 64 rfl rfl rfl ?_
                refine x_ic_ne rfl rfl (fun h20 => ?_) (fun h20 => ?_)
                · refine x_P 68 rfl rfl rfl ?_
                  refine x_P 69 rfl rfl rfl ?_
                  refine x_callW rfl rfl rfl rfl rfl ⟨rfl, rfl⟩ (fun x h => c_241 h) (S_241 (d + 1) a0 x18 s7.2) (fun th19 hth19 => ?_)
                  exact x_lv (hj15 th19) ⟨rfl, rfl, rfl, trivial⟩
                · exact x_lv (hj15 s7.2) ⟨rfl, rfl, rfl, trivial⟩
      · refine x_P (lv' := [(1, .int (s2.1 + Int32.ofInt 1)), (0, .ref a0)]) 81 rfl rfl rfl ?_
        refine x_P 7 rfl rfl rfl ?_
        exact x_lv (hnx3 ((s2.1 + Int32.ofInt 1), x10)) ⟨rfl, rfl, trivial⟩
  · exact x_retV (x := x5) rfl
-- 242 NineTreesModel.rowsWith(II)I
noncomputable def m_242 (a0 : Nat) (a1 : Int32) (a2 : Int32) (th : tH) : Option (Int32 × tH) :=
  (gC th 8 a0).bind fun _ =>
  (m_240 a0 th).bind fun th1 =>
  lp (fun (s2 : Int32 × Int32) nx3 ex4 =>
      (gI th1 8 a0 27).bind fun x6 =>
      if x6 ≤ s2.2 then
        ex4 s2.1
      else
        (gN th1 8 a0 26).bind fun o7 =>
        (aI th1 o7 s2.2).bind fun x8 =>
        (m_195 x8 a1 th1).bind fun x9 =>
        jn (fun (v10 : Int32 × Int32) =>
            nx3 ((v10.2 + v10.1), (s2.2 + Int32.ofInt 1))
          ) (fun j11 =>
            jn (fun (v12 : Int32) =>
                j11 ((Int32.ofInt 0), v12)
              ) (fun j13 =>
                if x9 = 0 then
                  j13 s2.1
                else
                  (gN th1 8 a0 26).bind fun o14 =>
                  (aI th1 o14 s2.2).bind fun x15 =>
                  (m_196 x15 th1).bind fun x16 =>
                  if x16 < a2 then
                    j13 s2.1
                  else
                    j11 ((Int32.ofInt 1), s2.1)
              )
          )
    ) 4096 ((Int32.ofInt 0), (Int32.ofInt 0)) (fun (x5 : Int32) =>
      some (x5, th1)
    )
theorem c_242 {a0 : Nat} {a1 : Int32} {a2 : Int32} {th : tH} {x : (Int32 × tH)} (h : m_242 a0 a1 a2 th = some x) : ∃ fs, th[a0]? = some (.inr (8, fs)) := gC_of h
theorem S_242 {L : Nat} (d : Nat) (a0 : Nat) (a1 : Int32) (a2 : Int32) (th : tH) : Wx L (fun x => (some (.int x.1), x.2)) (d + 4) 242 5 0 [(0, .ref a0), (1, .int a1), (2, .int a2)] [] th (m_242 a0 a1 a2 th) := by
  unfold m_242
  refine x_gC ?_
  refine x_P 1 rfl rfl rfl ?_
  refine x_callW rfl rfl rfl rfl rfl ⟨rfl, rfl⟩ (fun x h => c_240 h) (S_240 d a0 th) (fun th1 hth1 => ?_)
  refine x_P 5 rfl rfl rfl ?_
  refine x_P (lv' := [(3, .int (Int32.ofInt 0)), (0, .ref a0), (1, .int a1), (2, .int a2)]) 6 rfl rfl rfl ?_
  refine x_P 7 rfl rfl rfl ?_
  refine x_P (lv' := [(4, .int (Int32.ofInt 0)), (3, .int (Int32.ofInt 0)), (0, .ref a0), (1, .int a1), (2, .int a2)]) 9 rfl rfl rfl ?_
  refine x_lv (lv := [(0, .ref a0), (1, .int a1), (2, .int a2), (3, .int (Int32.ofInt 0)), (4, .int (Int32.ofInt 0))]) (x_lp 60 (fun s2 => [(0, .ref a0), (1, .int a1), (2, .int a2), (3, .int s2.1), (4, .int s2.2)]) (fun s2 => th1) (fun x5 => [(3, .int x5)]) (fun x5 => th1) (fun s2 nx3 hnx3 ex4 hex4 => ?_) (fun x5 => ?_) 4096 ((Int32.ofInt 0), (Int32.ofInt 0))) ⟨rfl, rfl, rfl, rfl, rfl, trivial⟩
  · refine x_P 11 rfl rfl rfl ?_
    refine x_P 12 rfl rfl rfl ?_
    refine x_gI rfl (fun x6 hx6 => ?_)
    refine x_ic_ge rfl rfl (fun h19 => ?_) (fun h19 => ?_)
    · exact x_lv (hex4 s2.1) ⟨rfl, trivial⟩
    · refine x_P 19 rfl rfl rfl ?_
      refine x_P 20 rfl rfl rfl ?_
      refine x_gN rfl (fun o7 ho7 => ?_)
      refine x_P 25 rfl rfl rfl ?_
      refine x_aI rfl ⟨rfl, rfl⟩ (fun x8 hx8 => ?_)
      refine x_P 27 rfl rfl rfl ?_
      refine x_callS rfl rfl rfl rfl rfl rfl ⟨rfl, rfl⟩ (S_195 (d + 3) x8 a1 th1) (fun x9 hx9 => ?_)
      refine x_jn 52 (fun v10 => [(0, .ref a0), (1, .int a1), (2, .int a2), (4, .int s2.2)]) (fun v10 => [.int v10.1, .int v10.2]) (fun v10 => th1) (fun v10 => ?_) (fun j11 hj11 => ?_)
      · refine x_P 53 rfl rfl rfl ?_
        refine x_P (lv' := [(3, .int (v10.2 + v10.1)), (0, .ref a0), (1, .int a1), (2, .int a2), (4, .int s2.2)]) 54 rfl rfl rfl ?_
        refine x_P (lv' := [(4, .int (s2.2 + Int32.ofInt 1)), (3, .int (v10.2 + v10.1)), (0, .ref a0), (1, .int a1), (2, .int a2)]) 57 rfl rfl rfl ?_
        refine x_P 9 rfl rfl rfl ?_
        exact x_lv (hnx3 ((v10.2 + v10.1), (s2.2 + Int32.ofInt 1))) ⟨rfl, rfl, rfl, rfl, rfl, trivial⟩
      · refine x_jn 51 (fun v12 => [(0, .ref a0), (1, .int a1), (2, .int a2), (4, .int s2.2)]) (fun v12 => [.int v12]) (fun v12 => th1) (fun v12 => ?_) (fun j13 hj13 => ?_)
        · refine x_P 52 rfl rfl rfl ?_
          exact x_lv (hj11 ((Int32.ofInt 0), v12)) ⟨rfl, rfl, rfl, rfl, trivial⟩
        · refine x_if_eq rfl rfl (fun h18 => ?_) (fun h18 => ?_)
          · exact x_lv (hj13 s2.1) ⟨rfl, rfl, rfl, rfl, trivial⟩
          · refine x_P 34 rfl rfl rfl ?_
            refine x_gN rfl (fun o14 ho14 => ?_)
            refine x_P 39 rfl rfl rfl ?_
            refine x_aI rfl ⟨rfl, rfl⟩ (fun x15 hx15 => ?_)
            refine x_callS rfl rfl rfl rfl rfl rfl ⟨rfl, rfl⟩ (S_196 (d + 3) x15 th1) (fun x16 hx16 => ?_)
            refine x_P 44 rfl rfl rfl ?_
            refine x_ic_lt rfl rfl (fun h17 => ?_) (fun h17 => ?_)
            · exact x_lv (hj13 s2.1) ⟨rfl, rfl, rfl, rfl, trivial⟩
            · refine x_P 48 rfl rfl rfl ?_
              refine x_P 52 rfl rfl rfl ?_
              exact x_lv (hj11 ((Int32.ofInt 1), s2.1)) ⟨rfl, rfl, rfl, rfl, trivial⟩
  · refine x_P 61 rfl rfl rfl ?_
    exact x_retI (x := (x5, th1)) rfl
-- 210 NineTreesModel.wishesWith(I)I
noncomputable def m_210 (a0 : Nat) (a1 : Int32) (th : tH) : Option (Int32) :=
  (gC th 8 a0).bind fun _ =>
  lp (fun (s1 : Int32 × Int32) nx2 ex3 =>
      (gI th 8 a0 14).bind fun x5 =>
      if x5 ≤ s1.2 then
        ex3 s1.1
      else
        (gN th 8 a0 15).bind fun o6 =>
        (aI th o6 s1.2).bind fun x7 =>
        (m_195 x7 a1 th).bind fun x8 =>
        jn (fun (v9 : Int32 × Int32) =>
            nx2 ((v9.2 + v9.1), (s1.2 + Int32.ofInt 1))
          ) (fun j10 =>
            if x8 = 0 then
              j10 ((Int32.ofInt 0), s1.1)
            else
              j10 ((Int32.ofInt 1), s1.1)
          )
    ) 4096 ((Int32.ofInt 0), (Int32.ofInt 0)) (fun (x4 : Int32) =>
      some x4
    )
theorem c_210 {a0 : Nat} {a1 : Int32} {th : tH} {x : (Int32)} (h : m_210 a0 a1 th = some x) : ∃ fs, th[a0]? = some (.inr (8, fs)) := gC_of h
theorem S_210 {L : Nat} (d : Nat) (a0 : Nat) (a1 : Int32) (th : tH) : Wx L (fun x => (some (.int x), th)) (d + 1) 210 4 0 [(0, .ref a0), (1, .int a1)] [] th (m_210 a0 a1 th) := by
  unfold m_210
  refine x_gC ?_
  refine x_P 1 rfl rfl rfl ?_
  refine x_P (lv' := [(2, .int (Int32.ofInt 0)), (0, .ref a0), (1, .int a1)]) 2 rfl rfl rfl ?_
  refine x_P 3 rfl rfl rfl ?_
  refine x_P (lv' := [(3, .int (Int32.ofInt 0)), (2, .int (Int32.ofInt 0)), (0, .ref a0), (1, .int a1)]) 4 rfl rfl rfl ?_
  refine x_lv (lv := [(0, .ref a0), (1, .int a1), (2, .int (Int32.ofInt 0)), (3, .int (Int32.ofInt 0))]) (x_lp 39 (fun s1 => [(0, .ref a0), (1, .int a1), (2, .int s1.1), (3, .int s1.2)]) (fun s1 => th) (fun x4 => [(2, .int x4)]) (fun x4 => th) (fun s1 nx2 hnx2 ex3 hex3 => ?_) (fun x4 => ?_) 4096 ((Int32.ofInt 0), (Int32.ofInt 0))) ⟨rfl, rfl, rfl, rfl, trivial⟩
  · refine x_P 5 rfl rfl rfl ?_
    refine x_P 6 rfl rfl rfl ?_
    refine x_gI rfl (fun x5 hx5 => ?_)
    refine x_ic_ge rfl rfl (fun h12 => ?_) (fun h12 => ?_)
    · exact x_lv (hex3 s1.1) ⟨rfl, trivial⟩
    · refine x_P 13 rfl rfl rfl ?_
      refine x_P 14 rfl rfl rfl ?_
      refine x_gN rfl (fun o6 ho6 => ?_)
      refine x_P 18 rfl rfl rfl ?_
      refine x_aI rfl ⟨rfl, rfl⟩ (fun x7 hx7 => ?_)
      refine x_P 20 rfl rfl rfl ?_
      refine x_callS rfl rfl rfl rfl rfl rfl ⟨rfl, rfl⟩ (S_195 d x7 a1 th) (fun x8 hx8 => ?_)
      refine x_jn 31 (fun v9 => [(0, .ref a0), (1, .int a1), (3, .int s1.2)]) (fun v9 => [.int v9.1, .int v9.2]) (fun v9 => th) (fun v9 => ?_) (fun j10 hj10 => ?_)
      · refine x_P 32 rfl rfl rfl ?_
        refine x_P (lv' := [(2, .int (v9.2 + v9.1)), (0, .ref a0), (1, .int a1), (3, .int s1.2)]) 33 rfl rfl rfl ?_
        refine x_P (lv' := [(3, .int (s1.2 + Int32.ofInt 1)), (2, .int (v9.2 + v9.1)), (0, .ref a0), (1, .int a1)]) 36 rfl rfl rfl ?_
        refine x_P 4 rfl rfl rfl ?_
        exact x_lv (hnx2 ((v9.2 + v9.1), (s1.2 + Int32.ofInt 1))) ⟨rfl, rfl, rfl, rfl, trivial⟩
      · refine x_if_eq rfl rfl (fun h11 => ?_) (fun h11 => ?_)
        · refine x_P 31 rfl rfl rfl ?_
          exact x_lv (hj10 ((Int32.ofInt 0), s1.1)) ⟨rfl, rfl, rfl, trivial⟩
        · refine x_P 27 rfl rfl rfl ?_
          refine x_P 31 rfl rfl rfl ?_
          exact x_lv (hj10 ((Int32.ofInt 1), s1.1)) ⟨rfl, rfl, rfl, trivial⟩
  · refine x_P 40 rfl rfl rfl ?_
    exact x_retI (x := x4) rfl
-- 238 NineTreesModel.square(II)I
noncomputable def m_238 (a0 : Nat) (a1 : Int32) (a2 : Int32) (th : tH) : Option (Int32) :=
  (gC th 8 a0).bind fun _ =>
  (gI th 8 a0 9).bind fun x1 =>
  (dvI a1 x1).bind fun x2 =>
  (gI th 8 a0 9).bind fun x3 =>
  (dvI a2 x3).bind fun x4 =>
  (gI th 8 a0 9).bind fun x5 =>
  (rmI a1 x5).bind fun x6 =>
  (gI th 8 a0 9).bind fun x7 =>
  (rmI a2 x7).bind fun x8 =>
  some (((x2 - x4) * (x2 - x4)) + ((x6 - x8) * (x6 - x8)))
theorem c_238 {a0 : Nat} {a1 : Int32} {a2 : Int32} {th : tH} {x : (Int32)} (h : m_238 a0 a1 a2 th = some x) : ∃ fs, th[a0]? = some (.inr (8, fs)) := gC_of h
theorem S_238 {L : Nat} (d : Nat) (a0 : Nat) (a1 : Int32) (a2 : Int32) (th : tH) : Wx L (fun x => (some (.int x), th)) d 238 5 0 [(0, .ref a0), (1, .int a1), (2, .int a2)] [] th (m_238 a0 a1 a2 th) := by
  unfold m_238
  refine x_gC ?_
  refine x_P 1 rfl rfl rfl ?_
  refine x_P 2 rfl rfl rfl ?_
  refine x_gI rfl (fun x1 hx1 => ?_)
  refine x_dv rfl rfl (fun x2 hx2 => ?_)
  refine x_P 7 rfl rfl rfl ?_
  refine x_P 8 rfl rfl rfl ?_
  refine x_gI rfl (fun x3 hx3 => ?_)
  refine x_dv rfl rfl (fun x4 hx4 => ?_)
  refine x_P 13 rfl rfl rfl ?_
  refine x_P (lv' := [(3, .int (x2 - x4)), (0, .ref a0), (1, .int a1), (2, .int a2)]) 14 rfl rfl rfl ?_
  refine x_P 15 rfl rfl rfl ?_
  refine x_P 16 rfl rfl rfl ?_
  refine x_gI rfl (fun x5 hx5 => ?_)
  refine x_rm rfl rfl (fun x6 hx6 => ?_)
  refine x_P 21 rfl rfl rfl ?_
  refine x_P 22 rfl rfl rfl ?_
  refine x_gI rfl (fun x7 hx7 => ?_)
  refine x_rm rfl rfl (fun x8 hx8 => ?_)
  refine x_P 27 rfl rfl rfl ?_
  refine x_P (lv' := [(4, .int (x6 - x8)), (3, .int (x2 - x4)), (0, .ref a0), (1, .int a1), (2, .int a2)]) 29 rfl rfl rfl ?_
  refine x_P 30 rfl rfl rfl ?_
  refine x_P 31 rfl rfl rfl ?_
  refine x_P 32 rfl rfl rfl ?_
  refine x_P 34 rfl rfl rfl ?_
  refine x_P 36 rfl rfl rfl ?_
  refine x_P 37 rfl rfl rfl ?_
  refine x_P 38 rfl rfl rfl ?_
  exact x_retI (x := (((x2 - x4) * (x2 - x4)) + ((x6 - x8) * (x6 - x8)))) rfl
-- 272 NineTreesModel.between(II)I
noncomputable def m_272 (a0 : Nat) (a1 : Int32) (a2 : Int32) (th : tH) : Option (Int32) :=
  (gC th 8 a0).bind fun _ =>
  lp (fun (s1 : Int32 × Int32) nx2 ex3 =>
      (gI th 8 a0 10).bind fun x5 =>
      if x5 ≤ s1.2 then
        ex3 s1.1
      else
        jn (fun (v6 : Int32) =>
            (gN th 8 a0 12).bind fun o8 =>
            (aI th o8 a1).bind fun x9 =>
            (gN th 8 a0 12).bind fun o10 =>
            (aI th o10 s1.2).bind fun x11 =>
            (m_238 a0 x9 x11 th).bind fun x12 =>
            (gN th 8 a0 12).bind fun o13 =>
            (aI th o13 a1).bind fun x14 =>
            (m_238 a0 x14 a2 th).bind fun x15 =>
            jn (fun (v16 : Int32 × Int32) =>
                jn (fun (v18 : Int32) =>
                    nx2 (v18, (s1.2 + Int32.ofInt 1))
                  ) (fun j19 =>
                    jn (fun (v20 : Unit) =>
                        j19 s1.1
                      ) (fun j21 =>
                        if (v16.2 &&& v16.1) = 0 then
                          j21 ()
                        else
                          jn (fun (v22 : Unit) =>
                              j19 s1.2
                            ) (fun j23 =>
                              if s1.1 = (Int32.ofInt (-1)) then
                                j23 ()
                              else
                                (gN th 8 a0 12).bind fun o24 =>
                                (aI th o24 s1.2).bind fun x25 =>
                                (m_238 a0 a2 x25 th).bind fun x26 =>
                                (gN th 8 a0 12).bind fun o27 =>
                                (aI th o27 s1.1).bind fun x28 =>
                                (m_238 a0 a2 x28 th).bind fun x29 =>
                                if x29 ≤ x26 then
                                  j21 ()
                                else
                                  j23 ()
                            )
                      )
                  )
              ) (fun j17 =>
                jn (fun (v33 : Int32) =>
                    j17 ((Int32.ofInt 0), v33)
                  ) (fun j34 =>
                    if x15 ≤ x12 then
                      j34 v6
                    else
                      (gN th 8 a0 12).bind fun o35 =>
                      (aI th o35 s1.2).bind fun x36 =>
                      (m_238 a0 a2 x36 th).bind fun x37 =>
                      (gN th 8 a0 12).bind fun o38 =>
                      (aI th o38 a1).bind fun x39 =>
                      (m_238 a0 x39 a2 th).bind fun x40 =>
                      if x40 ≤ x37 then
                        j34 v6
                      else
                        j17 ((Int32.ofInt 1), v6)
                  )
              )
          ) (fun j7 =>
            jn (fun (v43 : Unit) =>
                j7 (Int32.ofInt 0)
              ) (fun j44 =>
                if s1.2 = a1 then
                  j44 ()
                else
                  (gN th 8 a0 12).bind fun o45 =>
                  (aI th o45 s1.2).bind fun x46 =>
                  if x46 = a2 then
                    j44 ()
                  else
                    (m_198 a0 s1.2 th).bind fun x47 =>
                    if x47 = 0 then
                      (gN th 8 a0 12).bind fun o48 =>
                      (aI th o48 a1).bind fun x49 =>
                      (gN th 8 a0 12).bind fun o50 =>
                      (aI th o50 s1.2).bind fun x51 =>
                      (m_236 a0 x49 a2 x51 th).bind fun x52 =>
                      if x52 = 0 then
                        j44 ()
                      else
                        j7 (Int32.ofInt 1)
                    else
                      j44 ()
              )
          )
    ) 4096 ((Int32.ofInt (-1)), (Int32.ofInt 0)) (fun (x4 : Int32) =>
      some x4
    )
theorem c_272 {a0 : Nat} {a1 : Int32} {a2 : Int32} {th : tH} {x : (Int32)} (h : m_272 a0 a1 a2 th = some x) : ∃ fs, th[a0]? = some (.inr (8, fs)) := gC_of h
theorem S_272 {L : Nat} (d : Nat) (a0 : Nat) (a1 : Int32) (a2 : Int32) (th : tH) : Wx L (fun x => (some (.int x), th)) (d + 2) 272 6 0 [(0, .ref a0), (1, .int a1), (2, .int a2)] [] th (m_272 a0 a1 a2 th) := by
  unfold m_272
  refine x_gC ?_
  refine x_P 1 rfl rfl rfl ?_
  refine x_P (lv' := [(3, .int (Int32.ofInt (-1))), (0, .ref a0), (1, .int a1), (2, .int a2)]) 2 rfl rfl rfl ?_
  refine x_P 3 rfl rfl rfl ?_
  refine x_P (lv' := [(4, .int (Int32.ofInt 0)), (3, .int (Int32.ofInt (-1))), (0, .ref a0), (1, .int a1), (2, .int a2)]) 5 rfl rfl rfl ?_
  refine x_lv (lv := [(0, .ref a0), (1, .int a1), (2, .int a2), (3, .int (Int32.ofInt (-1))), (4, .int (Int32.ofInt 0))]) (x_lp 184 (fun s1 => [(0, .ref a0), (1, .int a1), (2, .int a2), (3, .int s1.1), (4, .int s1.2)]) (fun s1 => th) (fun x4 => [(3, .int x4)]) (fun x4 => th) (fun s1 nx2 hnx2 ex3 hex3 => ?_) (fun x4 => ?_) 4096 ((Int32.ofInt (-1)), (Int32.ofInt 0))) ⟨rfl, rfl, rfl, rfl, rfl, trivial⟩
  · refine x_P 7 rfl rfl rfl ?_
    refine x_P 8 rfl rfl rfl ?_
    refine x_gI rfl (fun x5 hx5 => ?_)
    refine x_ic_ge rfl rfl (fun h57 => ?_) (fun h57 => ?_)
    · exact x_lv (hex3 s1.1) ⟨rfl, trivial⟩
    · refine x_P 16 rfl rfl rfl ?_
      refine x_P 17 rfl rfl rfl ?_
      refine x_jn 66 (fun v6 => [(0, .ref a0), (1, .int a1), (2, .int a2), (3, .int s1.1), (4, .int s1.2)]) (fun v6 => [.int v6]) (fun v6 => th) (fun v6 => ?_) (fun j7 hj7 => ?_)
      · refine x_P (lv' := [(5, .int v6), (0, .ref a0), (1, .int a1), (2, .int a2), (3, .int s1.1), (4, .int s1.2)]) 68 rfl rfl rfl ?_
        refine x_P 70 rfl rfl rfl ?_
        refine x_P 71 rfl rfl rfl ?_
        refine x_P 72 rfl rfl rfl ?_
        refine x_gN rfl (fun o8 ho8 => ?_)
        refine x_P 76 rfl rfl rfl ?_
        refine x_aI rfl ⟨rfl, rfl⟩ (fun x9 hx9 => ?_)
        refine x_P 78 rfl rfl rfl ?_
        refine x_gN rfl (fun o10 ho10 => ?_)
        refine x_P 83 rfl rfl rfl ?_
        refine x_aI rfl ⟨rfl, rfl⟩ (fun x11 hx11 => ?_)
        refine x_callV rfl rfl rfl rfl rfl ⟨rfl, rfl⟩ (fun x h => c_238 h) (S_238 (d + 1) a0 x9 x11 th) (fun x12 hx12 => ?_)
        refine x_P 88 rfl rfl rfl ?_
        refine x_P 89 rfl rfl rfl ?_
        refine x_gN rfl (fun o13 ho13 => ?_)
        refine x_P 93 rfl rfl rfl ?_
        refine x_aI rfl ⟨rfl, rfl⟩ (fun x14 hx14 => ?_)
        refine x_P 95 rfl rfl rfl ?_
        refine x_callV rfl rfl rfl rfl rfl ⟨rfl, rfl⟩ (fun x h => c_238 h) (S_238 (d + 1) a0 x14 a2 th) (fun x15 hx15 => ?_)
        refine x_jn 132 (fun v16 => [(0, .ref a0), (1, .int a1), (2, .int a2), (3, .int s1.1), (4, .int s1.2)]) (fun v16 => [.int v16.1, .int v16.2]) (fun v16 => th) (fun v16 => ?_) (fun j17 hj17 => ?_)
        · refine x_P 133 rfl rfl rfl ?_
          refine x_P (lv' := [(5, .int (v16.2 &&& v16.1)), (0, .ref a0), (1, .int a1), (2, .int a2), (3, .int s1.1), (4, .int s1.2)]) 135 rfl rfl rfl ?_
          refine x_P 137 rfl rfl rfl ?_
          refine x_jn 177 (fun v18 => [(0, .ref a0), (1, .int a1), (2, .int a2), (4, .int s1.2)]) (fun v18 => [.int v18]) (fun v18 => th) (fun v18 => ?_) (fun j19 hj19 => ?_)
          · refine x_P (lv' := [(3, .int v18), (0, .ref a0), (1, .int a1), (2, .int a2), (4, .int s1.2)]) 178 rfl rfl rfl ?_
            refine x_P (lv' := [(4, .int (s1.2 + Int32.ofInt 1)), (3, .int v18), (0, .ref a0), (1, .int a1), (2, .int a2)]) 181 rfl rfl rfl ?_
            refine x_P 5 rfl rfl rfl ?_
            exact x_lv (hnx2 (v18, (s1.2 + Int32.ofInt 1))) ⟨rfl, rfl, rfl, rfl, rfl, trivial⟩
          · refine x_jn 176 (fun v20 => [(0, .ref a0), (1, .int a1), (2, .int a2), (3, .int s1.1), (4, .int s1.2)]) (fun v20 => []) (fun v20 => th) (fun v20 => ?_) (fun j21 hj21 => ?_)
            · refine x_P 177 rfl rfl rfl ?_
              exact x_lv (hj19 s1.1) ⟨rfl, rfl, rfl, rfl, trivial⟩
            · refine x_if_eq rfl rfl (fun h32 => ?_) (fun h32 => ?_)
              · exact x_lv (hj21 ()) ⟨rfl, rfl, rfl, rfl, rfl, trivial⟩
              · refine x_P 141 rfl rfl rfl ?_
                refine x_P 142 rfl rfl rfl ?_
                refine x_jn 171 (fun v22 => [(0, .ref a0), (1, .int a1), (2, .int a2), (4, .int s1.2)]) (fun v22 => []) (fun v22 => th) (fun v22 => ?_) (fun j23 hj23 => ?_)
                · refine x_P 173 rfl rfl rfl ?_
                  refine x_P 177 rfl rfl rfl ?_
                  exact x_lv (hj19 s1.2) ⟨rfl, rfl, rfl, rfl, trivial⟩
                · refine x_ic_eq rfl rfl (fun h31 => ?_) (fun h31 => ?_)
                  · exact x_lv (hj23 ()) ⟨rfl, rfl, rfl, rfl, trivial⟩
                  · refine x_P 146 rfl rfl rfl ?_
                    refine x_P 147 rfl rfl rfl ?_
                    refine x_P 148 rfl rfl rfl ?_
                    refine x_gN rfl (fun o24 ho24 => ?_)
                    refine x_P 153 rfl rfl rfl ?_
                    refine x_aI rfl ⟨rfl, rfl⟩ (fun x25 hx25 => ?_)
                    refine x_callV rfl rfl rfl rfl rfl ⟨rfl, rfl⟩ (fun x h => c_238 h) (S_238 (d + 1) a0 a2 x25 th) (fun x26 hx26 => ?_)
                    refine x_P 158 rfl rfl rfl ?_
                    refine x_P 159 rfl rfl rfl ?_
                    refine x_P 160 rfl rfl rfl ?_
                    refine x_gN rfl (fun o27 ho27 => ?_)
                    refine x_P 164 rfl rfl rfl ?_
                    refine x_aI rfl ⟨rfl, rfl⟩ (fun x28 hx28 => ?_)
                    refine x_callV rfl rfl rfl rfl rfl ⟨rfl, rfl⟩ (fun x h => c_238 h) (S_238 (d + 1) a0 a2 x28 th) (fun x29 hx29 => ?_)
                    refine x_ic_ge rfl rfl (fun h30 => ?_) (fun h30 => ?_)
                    · exact x_lv (hj21 ()) ⟨rfl, rfl, rfl, rfl, rfl, trivial⟩
                    · exact x_lv (hj23 ()) ⟨rfl, rfl, rfl, rfl, trivial⟩
        · refine x_jn 131 (fun v33 => [(0, .ref a0), (1, .int a1), (2, .int a2), (3, .int s1.1), (4, .int s1.2)]) (fun v33 => [.int v33]) (fun v33 => th) (fun v33 => ?_) (fun j34 hj34 => ?_)
          · refine x_P 132 rfl rfl rfl ?_
            exact x_lv (hj17 ((Int32.ofInt 0), v33)) ⟨rfl, rfl, rfl, rfl, rfl, trivial⟩
          · refine x_ic_ge rfl rfl (fun h42 => ?_) (fun h42 => ?_)
            · exact x_lv (hj34 v6) ⟨rfl, rfl, rfl, rfl, rfl, trivial⟩
            · refine x_P 102 rfl rfl rfl ?_
              refine x_P 103 rfl rfl rfl ?_
              refine x_P 104 rfl rfl rfl ?_
              refine x_gN rfl (fun o35 ho35 => ?_)
              refine x_P 109 rfl rfl rfl ?_
              refine x_aI rfl ⟨rfl, rfl⟩ (fun x36 hx36 => ?_)
              refine x_callV rfl rfl rfl rfl rfl ⟨rfl, rfl⟩ (fun x h => c_238 h) (S_238 (d + 1) a0 a2 x36 th) (fun x37 hx37 => ?_)
              refine x_P 114 rfl rfl rfl ?_
              refine x_P 115 rfl rfl rfl ?_
              refine x_gN rfl (fun o38 ho38 => ?_)
              refine x_P 119 rfl rfl rfl ?_
              refine x_aI rfl ⟨rfl, rfl⟩ (fun x39 hx39 => ?_)
              refine x_P 121 rfl rfl rfl ?_
              refine x_callV rfl rfl rfl rfl rfl ⟨rfl, rfl⟩ (fun x h => c_238 h) (S_238 (d + 1) a0 x39 a2 th) (fun x40 hx40 => ?_)
              refine x_ic_ge rfl rfl (fun h41 => ?_) (fun h41 => ?_)
              · exact x_lv (hj34 v6) ⟨rfl, rfl, rfl, rfl, rfl, trivial⟩
              · refine x_P 128 rfl rfl rfl ?_
                refine x_P 132 rfl rfl rfl ?_
                exact x_lv (hj17 ((Int32.ofInt 1), v6)) ⟨rfl, rfl, rfl, rfl, rfl, trivial⟩
      · refine x_jn 65 (fun v43 => [(0, .ref a0), (1, .int a1), (2, .int a2), (3, .int s1.1), (4, .int s1.2)]) (fun v43 => []) (fun v43 => th) (fun v43 => ?_) (fun j44 hj44 => ?_)
        · refine x_P 66 rfl rfl rfl ?_
          exact x_lv (hj7 (Int32.ofInt 0)) ⟨rfl, rfl, rfl, rfl, rfl, trivial⟩
        · refine x_ic_eq rfl rfl (fun h56 => ?_) (fun h56 => ?_)
          · exact x_lv (hj44 ()) ⟨rfl, rfl, rfl, rfl, rfl, trivial⟩
          · refine x_P 21 rfl rfl rfl ?_
            refine x_gN rfl (fun o45 ho45 => ?_)
            refine x_P 26 rfl rfl rfl ?_
            refine x_aI rfl ⟨rfl, rfl⟩ (fun x46 hx46 => ?_)
            refine x_P 28 rfl rfl rfl ?_
            refine x_ic_eq rfl rfl (fun h55 => ?_) (fun h55 => ?_)
            · exact x_lv (hj44 ()) ⟨rfl, rfl, rfl, rfl, rfl, trivial⟩
            · refine x_P 32 rfl rfl rfl ?_
              refine x_P 34 rfl rfl rfl ?_
              refine x_callV rfl rfl rfl rfl rfl ⟨rfl, rfl⟩ (fun x h => c_198 h) (S_198 (d + 1) a0 s1.2 th) (fun x47 hx47 => ?_)
              refine x_if_ne rfl rfl (fun h54 => ?_) (fun h54 => ?_)
              · refine x_P 41 rfl rfl rfl ?_
                refine x_P 42 rfl rfl rfl ?_
                refine x_gN rfl (fun o48 ho48 => ?_)
                refine x_P 46 rfl rfl rfl ?_
                refine x_aI rfl ⟨rfl, rfl⟩ (fun x49 hx49 => ?_)
                refine x_P 48 rfl rfl rfl ?_
                refine x_P 49 rfl rfl rfl ?_
                refine x_gN rfl (fun o50 ho50 => ?_)
                refine x_P 54 rfl rfl rfl ?_
                refine x_aI rfl ⟨rfl, rfl⟩ (fun x51 hx51 => ?_)
                refine x_callV rfl rfl rfl rfl rfl ⟨rfl, rfl⟩ (fun x h => c_236 h) (S_236 d a0 x49 a2 x51 th) (fun x52 hx52 => ?_)
                refine x_if_eq rfl rfl (fun h53 => ?_) (fun h53 => ?_)
                · exact x_lv (hj44 ()) ⟨rfl, rfl, rfl, rfl, rfl, trivial⟩
                · refine x_P 62 rfl rfl rfl ?_
                  refine x_P 66 rfl rfl rfl ?_
                  exact x_lv (hj7 (Int32.ofInt 1)) ⟨rfl, rfl, rfl, rfl, rfl, trivial⟩
              · exact x_lv (hj44 ()) ⟨rfl, rfl, rfl, rfl, rfl, trivial⟩
  · refine x_P 185 rfl rfl rfl ?_
    exact x_retI (x := x4) rfl
-- 237 NineTreesModel.apart(II)I
noncomputable def m_237 (a0 : Nat) (a1 : Int32) (a2 : Int32) (th : tH) : Option (Int32) :=
  (gC th 8 a0).bind fun _ =>
  (gI th 8 a0 9).bind fun x1 =>
  (dvI a1 x1).bind fun x2 =>
  (gI th 8 a0 9).bind fun x3 =>
  (dvI a2 x3).bind fun x4 =>
  (gI th 8 a0 9).bind fun x5 =>
  (rmI a1 x5).bind fun x6 =>
  (gI th 8 a0 9).bind fun x7 =>
  (rmI a2 x7).bind fun x8 =>
  jn (fun (v9 : Int32) =>
      jn (fun (v11 : Int32 × Int32) =>
          some (v11.2 + v11.1)
        ) (fun j12 =>
          if 0 ≤ (x6 - x8) then
            j12 ((x6 - x8), v9)
          else
            j12 ((-(x6 - x8)), v9)
        )
    ) (fun j10 =>
      if 0 ≤ (x2 - x4) then
        j10 (x2 - x4)
      else
        j10 (-(x2 - x4))
    )
theorem c_237 {a0 : Nat} {a1 : Int32} {a2 : Int32} {th : tH} {x : (Int32)} (h : m_237 a0 a1 a2 th = some x) : ∃ fs, th[a0]? = some (.inr (8, fs)) := gC_of h
theorem S_237 {L : Nat} (d : Nat) (a0 : Nat) (a1 : Int32) (a2 : Int32) (th : tH) : Wx L (fun x => (some (.int x), th)) d 237 5 0 [(0, .ref a0), (1, .int a1), (2, .int a2)] [] th (m_237 a0 a1 a2 th) := by
  unfold m_237
  refine x_gC ?_
  refine x_P 1 rfl rfl rfl ?_
  refine x_P 2 rfl rfl rfl ?_
  refine x_gI rfl (fun x1 hx1 => ?_)
  refine x_dv rfl rfl (fun x2 hx2 => ?_)
  refine x_P 7 rfl rfl rfl ?_
  refine x_P 8 rfl rfl rfl ?_
  refine x_gI rfl (fun x3 hx3 => ?_)
  refine x_dv rfl rfl (fun x4 hx4 => ?_)
  refine x_P 13 rfl rfl rfl ?_
  refine x_P (lv' := [(3, .int (x2 - x4)), (0, .ref a0), (1, .int a1), (2, .int a2)]) 14 rfl rfl rfl ?_
  refine x_P 15 rfl rfl rfl ?_
  refine x_P 16 rfl rfl rfl ?_
  refine x_gI rfl (fun x5 hx5 => ?_)
  refine x_rm rfl rfl (fun x6 hx6 => ?_)
  refine x_P 21 rfl rfl rfl ?_
  refine x_P 22 rfl rfl rfl ?_
  refine x_gI rfl (fun x7 hx7 => ?_)
  refine x_rm rfl rfl (fun x8 hx8 => ?_)
  refine x_P 27 rfl rfl rfl ?_
  refine x_P (lv' := [(4, .int (x6 - x8)), (3, .int (x2 - x4)), (0, .ref a0), (1, .int a1), (2, .int a2)]) 29 rfl rfl rfl ?_
  refine x_P 30 rfl rfl rfl ?_
  refine x_jn 39 (fun v9 => [(4, .int (x6 - x8))]) (fun v9 => [.int v9]) (fun v9 => th) (fun v9 => ?_) (fun j10 hj10 => ?_)
  · refine x_P 41 rfl rfl rfl ?_
    refine x_jn 52 (fun v11 => []) (fun v11 => [.int v11.1, .int v11.2]) (fun v11 => th) (fun v11 => ?_) (fun j12 hj12 => ?_)
    · refine x_P 53 rfl rfl rfl ?_
      exact x_retI (x := (v11.2 + v11.1)) rfl
    · refine x_if_ge rfl rfl (fun h13 => ?_) (fun h13 => ?_)
      · refine x_P 52 rfl rfl rfl ?_
        exact x_lv (hj12 ((x6 - x8), v9)) trivial
      · refine x_P 46 rfl rfl rfl ?_
        refine x_P 47 rfl rfl rfl ?_
        refine x_P 52 rfl rfl rfl ?_
        exact x_lv (hj12 ((-(x6 - x8)), v9)) trivial
  · refine x_if_ge rfl rfl (fun h14 => ?_) (fun h14 => ?_)
    · refine x_P 39 rfl rfl rfl ?_
      exact x_lv (hj10 (x2 - x4)) ⟨rfl, trivial⟩
    · refine x_P 34 rfl rfl rfl ?_
      refine x_P 35 rfl rfl rfl ?_
      refine x_P 39 rfl rfl rfl ?_
      exact x_lv (hj10 (-(x2 - x4))) ⟨rfl, trivial⟩
-- 209 NineTreesModel.says(II)I
noncomputable def m_209 (a0 : Nat) (a1 : Int32) (a2 : Int32) (th : tH) : Option (Int32 × tH) :=
  (gC th 8 a0).bind fun _ =>
  (m_190 (Int32.toInt64 a1) (Int64.ofNat 0) (Int64.ofNat 7) th).bind fun x1 =>
  jn (fun (v2 : Unit) =>
      (m_189 a0 (Int8.ofInt (-2)).toInt32 th).bind fun q4 =>
      some (q4.1, q4.2)
    ) (fun j3 =>
      if x1 = 0 then
        j3 ()
      else
        (m_190 (Int32.toInt64 a2) (Int64.ofNat 0) (Int64.ofNat 5) th).bind fun x5 =>
        if x5 = 0 then
          j3 ()
        else
          (gN th 8 a0 0).bind fun o6 =>
          (aI th o6 a1).bind fun x7 =>
          jn (fun (v8 : Unit) =>
              (m_189 a0 (Int8.ofInt (-3)).toInt32 th).bind fun q10 =>
              some (q10.1, q10.2)
            ) (fun j9 =>
              if x7 = (Int32.ofInt 1) then
                j9 ()
              else
                (gN th 8 a0 0).bind fun o11 =>
                (aI th o11 a1).bind fun x12 =>
                jn (fun (v13 : Unit) =>
                    (gN th 8 a0 0).bind fun o15 =>
                    (aI th o15 a1).bind fun x16 =>
                    if x16 = 0 then
                      (m_189 a0 (Int8.ofInt (-4)).toInt32 th).bind fun q69 =>
                      some (q69.1, q69.2)
                    else
                      (gN th 8 a0 5).bind fun o17 =>
                      (aI th o17 a1).bind fun x18 =>
                      if a2 < 0 ∨ 4 < a2 then
                        (gN th 8 a0 13).bind fun o20 =>
                        (aI th o20 x18).bind fun x21 =>
                        some (x21, th)
                      else if a2 = 0 then
                        (m_242 a0 x18 (Int32.ofInt 3) th).bind fun q23 =>
                        some (q23.1, q23.2)
                      else if a2 = 1 then
                        (m_210 a0 x18 th).bind fun x25 =>
                        some (x25, th)
                      else if a2 = 2 then
                        lp (fun (s27 : Int32 × Int32) nx28 ex29 =>
                            (gI th 8 a0 10).bind fun x31 =>
                            if x31 ≤ s27.2 then
                              ex29 s27.1
                            else
                              jn (fun (v32 : Int32 × Int32) =>
                                  nx28 ((v32.2 + v32.1), (s27.2 + Int32.ofInt 1))
                                ) (fun j33 =>
                                  jn (fun (v34 : Int32) =>
                                      j33 ((Int32.ofInt 0), v34)
                                    ) (fun j35 =>
                                      if s27.2 = x18 then
                                        j35 s27.1
                                      else
                                        (gN th 8 a0 12).bind fun o36 =>
                                        (aI th o36 s27.2).bind fun x37 =>
                                        (m_272 a0 x18 x37 th).bind fun x38 =>
                                        if x38 = (Int32.ofInt (-1)) then
                                          j33 ((Int32.ofInt 1), s27.1)
                                        else
                                          j35 s27.1
                                    )
                                )
                          ) 4096 ((Int32.ofInt 0), (Int32.ofInt 0)) (fun (x30 : Int32) =>
                            some (x30, th)
                          )
                      else if a2 = 3 then
                        (gN th 8 a0 13).bind fun o43 =>
                        (aI th o43 x18).bind fun x44 =>
                        some (x44, th)
                      else if a2 = 4 then
                        lp (fun (s46 : Int32 × Int32) nx47 ex48 =>
                            (gI th 8 a0 10).bind fun x50 =>
                            if x50 ≤ s46.2 then
                              ex48 s46.1
                            else
                              jn (fun (v51 : Int32) =>
                                  jn (fun (v53 : Int32) =>
                                      nx47 (v53, (s46.2 + Int32.ofInt 1))
                                    ) (fun j54 =>
                                      jn (fun (v55 : Unit) =>
                                          j54 s46.1
                                        ) (fun j56 =>
                                          if s46.2 = x18 then
                                            j56 ()
                                          else
                                            jn (fun (v57 : Unit) =>
                                                j54 v51
                                              ) (fun j58 =>
                                                if s46.1 = 0 then
                                                  j58 ()
                                                else
                                                  if s46.1 ≤ v51 then
                                                    j56 ()
                                                  else
                                                    j58 ()
                                              )
                                        )
                                    )
                                ) (fun j52 =>
                                  if s46.2 = x18 then
                                    j52 (Int32.ofInt 0)
                                  else
                                    (gN th 8 a0 12).bind fun o62 =>
                                    (aI th o62 x18).bind fun x63 =>
                                    (gN th 8 a0 12).bind fun o64 =>
                                    (aI th o64 s46.2).bind fun x65 =>
                                    (m_237 a0 x63 x65 th).bind fun x66 =>
                                    j52 x66
                                )
                          ) 4096 ((Int32.ofInt 0), (Int32.ofInt 0)) (fun (x49 : Int32) =>
                            some (x49, th)
                          )
                      else
                        none
                  ) (fun j14 =>
                    if x12 = (Int32.ofInt 2) then
                      (gN th 8 a0 11).bind fun o71 =>
                      (gN th 8 a0 5).bind fun o72 =>
                      (aI th o72 a1).bind fun x73 =>
                      (aI th o71 x73).bind fun x74 =>
                      (m_208 x74 a2 th).bind fun x75 =>
                      if x75 = 0 then
                        j9 ()
                      else
                        j14 ()
                    else
                      j14 ()
                  )
            )
    )
theorem c_209 {a0 : Nat} {a1 : Int32} {a2 : Int32} {th : tH} {x : (Int32 × tH)} (h : m_209 a0 a1 a2 th = some x) : ∃ fs, th[a0]? = some (.inr (8, fs)) := gC_of h
theorem S_209 {L : Nat} (d : Nat) (a0 : Nat) (a1 : Int32) (a2 : Int32) (th : tH) : Wx L (fun x => (some (.int x.1), x.2)) (d + 5) 209 7 0 [(0, .ref a0), (1, .int a1), (2, .int a2)] [] th (m_209 a0 a1 a2 th) := by
  unfold m_209
  refine x_gC ?_
  refine x_P 1 rfl rfl rfl ?_
  refine x_P 2 rfl rfl rfl ?_
  refine x_P 3 rfl rfl rfl ?_
  refine x_P 6 rfl rfl rfl ?_
  refine x_callS rfl rfl rfl rfl rfl rfl ⟨rfl, rfl⟩ (S_190 (d + 4) (Int32.toInt64 a1) (Int64.ofNat 0) (Int64.ofNat 7) th) (fun x1 hx1 => ?_)
  refine x_jn 24 (fun v2 => [(0, .ref a0)]) (fun v2 => []) (fun v2 => th) (fun v2 => ?_) (fun j3 hj3 => ?_)
  · refine x_P 25 rfl rfl rfl ?_
    refine x_P 27 rfl rfl rfl ?_
    refine x_callV rfl rfl rfl rfl rfl ⟨rfl, rfl⟩ (fun x h => c_189 h) (S_189 (d + 3) a0 (Int8.ofInt (-2)).toInt32 th) (fun q4 hq4 => ?_)
    exact x_retI (x := (q4.1, q4.2)) rfl
  · refine x_if_eq rfl rfl (fun h80 => ?_) (fun h80 => ?_)
    · exact x_lv (hj3 ()) ⟨rfl, trivial⟩
    · refine x_P 13 rfl rfl rfl ?_
      refine x_P 14 rfl rfl rfl ?_
      refine x_P 15 rfl rfl rfl ?_
      refine x_P 18 rfl rfl rfl ?_
      refine x_callS rfl rfl rfl rfl rfl rfl ⟨rfl, rfl⟩ (S_190 (d + 4) (Int32.toInt64 a2) (Int64.ofNat 0) (Int64.ofNat 5) th) (fun x5 hx5 => ?_)
      refine x_if_ne rfl rfl (fun h79 => ?_) (fun h79 => ?_)
      · exact x_lv (hj3 ()) ⟨rfl, trivial⟩
      · refine x_P 32 rfl rfl rfl ?_
        refine x_gN rfl (fun o6 ho6 => ?_)
        refine x_P 36 rfl rfl rfl ?_
        refine x_aI rfl ⟨rfl, rfl⟩ (fun x7 hx7 => ?_)
        refine x_P 38 rfl rfl rfl ?_
        refine x_jn 69 (fun v8 => [(0, .ref a0)]) (fun v8 => []) (fun v8 => th) (fun v8 => ?_) (fun j9 hj9 => ?_)
        · refine x_P 70 rfl rfl rfl ?_
          refine x_P 72 rfl rfl rfl ?_
          refine x_callV rfl rfl rfl rfl rfl ⟨rfl, rfl⟩ (fun x h => c_189 h) (S_189 (d + 3) a0 (Int8.ofInt (-3)).toInt32 th) (fun q10 hq10 => ?_)
          exact x_retI (x := (q10.1, q10.2)) rfl
        · refine x_ic_eq rfl rfl (fun h78 => ?_) (fun h78 => ?_)
          · exact x_lv (hj9 ()) ⟨rfl, trivial⟩
          · refine x_P 42 rfl rfl rfl ?_
            refine x_gN rfl (fun o11 ho11 => ?_)
            refine x_P 46 rfl rfl rfl ?_
            refine x_aI rfl ⟨rfl, rfl⟩ (fun x12 hx12 => ?_)
            refine x_P 48 rfl rfl rfl ?_
            refine x_jn 76 (fun v13 => [(0, .ref a0), (1, .int a1), (2, .int a2)]) (fun v13 => []) (fun v13 => th) (fun v13 => ?_) (fun j14 hj14 => ?_)
            · refine x_P 77 rfl rfl rfl ?_
              refine x_gN rfl (fun o15 ho15 => ?_)
              refine x_P 81 rfl rfl rfl ?_
              refine x_aI rfl ⟨rfl, rfl⟩ (fun x16 hx16 => ?_)
              refine x_if_ne rfl rfl (fun h70 => ?_) (fun h70 => ?_)
              · refine x_P 86 rfl rfl rfl ?_
                refine x_P 88 rfl rfl rfl ?_
                refine x_callV rfl rfl rfl rfl rfl ⟨rfl, rfl⟩ (fun x h => c_189 h) (S_189 (d + 3) a0 (Int8.ofInt (-4)).toInt32 th) (fun q69 hq69 => ?_)
                exact x_retI (x := (q69.1, q69.2)) rfl
              · refine x_P 93 rfl rfl rfl ?_
                refine x_gN rfl (fun o17 ho17 => ?_)
                refine x_P 97 rfl rfl rfl ?_
                refine x_aI rfl ⟨rfl, rfl⟩ (fun x18 hx18 => ?_)
                refine x_P (lv' := [(3, .int x18), (0, .ref a0), (1, .int a1), (2, .int a2)]) 99 rfl rfl rfl ?_
                refine x_P 100 rfl rfl rfl ?_
                refine x_P (lv' := [(4, .int (Int32.ofInt 0)), (3, .int x18), (0, .ref a0), (1, .int a1), (2, .int a2)]) 102 rfl rfl rfl ?_
                refine x_P 103 rfl rfl rfl ?_
                refine x_ite (fun h19 => ?_) (fun h19 => ?_)
                · refine x_P 279 rfl rfl (x_td h19 (by decide +kernel)) ?_
                  refine x_P 280 rfl rfl rfl ?_
                  refine x_gN rfl (fun o20 ho20 => ?_)
                  refine x_P 284 rfl rfl rfl ?_
                  refine x_aI rfl ⟨rfl, rfl⟩ (fun x21 hx21 => ?_)
                  exact x_retI (x := (x21, th)) rfl
                · skip
                  refine x_ite (fun h22 => ?_) (fun h22 => ?_)
                  · refine x_P 136 rfl rfl (x_ts h22 (by decide +kernel)) ?_
                    refine x_P 137 rfl rfl rfl ?_
                    refine x_P 138 rfl rfl rfl ?_
                    refine x_P 139 rfl rfl rfl ?_
                    refine x_callV rfl rfl rfl rfl rfl ⟨rfl, rfl⟩ (fun x h => c_242 h) (S_242 d a0 x18 (Int32.ofInt 3) th) (fun q23 hq23 => ?_)
                    exact x_retI (x := (q23.1, q23.2)) rfl
                  · skip
                    refine x_ite (fun h24 => ?_) (fun h24 => ?_)
                    · refine x_P 143 rfl rfl (x_ts h24 (by decide +kernel)) ?_
                      refine x_P 144 rfl rfl rfl ?_
                      refine x_P 145 rfl rfl rfl ?_
                      refine x_callV rfl rfl rfl rfl rfl ⟨rfl, rfl⟩ (fun x h => c_210 h) (S_210 (d + 3) a0 x18 th) (fun x25 hx25 => ?_)
                      exact x_retI (x := (x25, th)) rfl
                    · skip
                      refine x_ite (fun h26 => ?_) (fun h26 => ?_)
                      · refine x_P 149 rfl rfl (x_ts h26 (by decide +kernel)) ?_
                        refine x_P 150 rfl rfl rfl ?_
                        refine x_P (lv' := [(5, .int (Int32.ofInt 0)), (4, .int (Int32.ofInt 0)), (3, .int x18), (0, .ref a0), (1, .int a1), (2, .int a2)]) 152 rfl rfl rfl ?_
                        refine x_lv (lv := [(0, .ref a0), (3, .int x18), (4, .int (Int32.ofInt 0)), (5, .int (Int32.ofInt 0))]) (x_lp 199 (fun s27 => [(0, .ref a0), (3, .int x18), (4, .int s27.1), (5, .int s27.2)]) (fun s27 => th) (fun x30 => [(4, .int x30)]) (fun x30 => th) (fun s27 nx28 hnx28 ex29 hex29 => ?_) (fun x30 => ?_) 4096 ((Int32.ofInt 0), (Int32.ofInt 0))) ⟨rfl, rfl, rfl, rfl, trivial⟩
                        · refine x_P 154 rfl rfl rfl ?_
                          refine x_P 155 rfl rfl rfl ?_
                          refine x_gI rfl (fun x31 hx31 => ?_)
                          refine x_ic_ge rfl rfl (fun h41 => ?_) (fun h41 => ?_)
                          · exact x_lv (hex29 s27.1) ⟨rfl, trivial⟩
                          · refine x_P 163 rfl rfl rfl ?_
                            refine x_P 165 rfl rfl rfl ?_
                            refine x_P 166 rfl rfl rfl ?_
                            refine x_jn 190 (fun v32 => [(0, .ref a0), (3, .int x18), (5, .int s27.2)]) (fun v32 => [.int v32.1, .int v32.2]) (fun v32 => th) (fun v32 => ?_) (fun j33 hj33 => ?_)
                            · refine x_P 191 rfl rfl rfl ?_
                              refine x_P (lv' := [(4, .int (v32.2 + v32.1)), (0, .ref a0), (3, .int x18), (5, .int s27.2)]) 193 rfl rfl rfl ?_
                              refine x_P (lv' := [(5, .int (s27.2 + Int32.ofInt 1)), (4, .int (v32.2 + v32.1)), (0, .ref a0), (3, .int x18)]) 196 rfl rfl rfl ?_
                              refine x_P 152 rfl rfl rfl ?_
                              exact x_lv (hnx28 ((v32.2 + v32.1), (s27.2 + Int32.ofInt 1))) ⟨rfl, rfl, rfl, rfl, trivial⟩
                            · refine x_jn 189 (fun v34 => [(0, .ref a0), (3, .int x18), (5, .int s27.2)]) (fun v34 => [.int v34]) (fun v34 => th) (fun v34 => ?_) (fun j35 hj35 => ?_)
                              · refine x_P 190 rfl rfl rfl ?_
                                exact x_lv (hj33 ((Int32.ofInt 0), v34)) ⟨rfl, rfl, rfl, trivial⟩
                              · refine x_ic_eq rfl rfl (fun h40 => ?_) (fun h40 => ?_)
                                · exact x_lv (hj35 s27.1) ⟨rfl, rfl, rfl, trivial⟩
                                · refine x_P 170 rfl rfl rfl ?_
                                  refine x_P 171 rfl rfl rfl ?_
                                  refine x_P 172 rfl rfl rfl ?_
                                  refine x_gN rfl (fun o36 ho36 => ?_)
                                  refine x_P 177 rfl rfl rfl ?_
                                  refine x_aI rfl ⟨rfl, rfl⟩ (fun x37 hx37 => ?_)
                                  refine x_callV rfl rfl rfl rfl rfl ⟨rfl, rfl⟩ (fun x h => c_272 h) (S_272 (d + 2) a0 x18 x37 th) (fun x38 hx38 => ?_)
                                  refine x_P 182 rfl rfl rfl ?_
                                  refine x_ic_ne rfl rfl (fun h39 => ?_) (fun h39 => ?_)
                                  · refine x_P 186 rfl rfl rfl ?_
                                    refine x_P 190 rfl rfl rfl ?_
                                    exact x_lv (hj33 ((Int32.ofInt 1), s27.1)) ⟨rfl, rfl, rfl, trivial⟩
                                  · exact x_lv (hj35 s27.1) ⟨rfl, rfl, rfl, trivial⟩
                        · refine x_P 201 rfl rfl rfl ?_
                          exact x_retI (x := (x30, th)) rfl
                      · skip
                        refine x_ite (fun h42 => ?_) (fun h42 => ?_)
                        · refine x_P 279 rfl rfl (x_ts h42 (by decide +kernel)) ?_
                          refine x_P 280 rfl rfl rfl ?_
                          refine x_gN rfl (fun o43 ho43 => ?_)
                          refine x_P 284 rfl rfl rfl ?_
                          refine x_aI rfl ⟨rfl, rfl⟩ (fun x44 hx44 => ?_)
                          exact x_retI (x := (x44, th)) rfl
                        · skip
                          refine x_ite (fun h45 => ?_) (fun h45 => ?_)
                          · refine x_P 202 rfl rfl (x_ts h45 (by decide +kernel)) ?_
                            refine x_P 203 rfl rfl rfl ?_
                            refine x_P (lv' := [(5, .int (Int32.ofInt 0)), (4, .int (Int32.ofInt 0)), (3, .int x18), (0, .ref a0), (1, .int a1), (2, .int a2)]) 205 rfl rfl rfl ?_
                            refine x_lv (lv := [(0, .ref a0), (3, .int x18), (4, .int (Int32.ofInt 0)), (5, .int (Int32.ofInt 0))]) (x_lp 276 (fun s46 => [(0, .ref a0), (3, .int x18), (4, .int s46.1), (5, .int s46.2)]) (fun s46 => th) (fun x49 => [(4, .int x49)]) (fun x49 => th) (fun s46 nx47 hnx47 ex48 hex48 => ?_) (fun x49 => ?_) 4096 ((Int32.ofInt 0), (Int32.ofInt 0))) ⟨rfl, rfl, rfl, rfl, trivial⟩
                            · refine x_P 207 rfl rfl rfl ?_
                              refine x_P 208 rfl rfl rfl ?_
                              refine x_gI rfl (fun x50 hx50 => ?_)
                              refine x_ic_ge rfl rfl (fun h68 => ?_) (fun h68 => ?_)
                              · exact x_lv (hex48 s46.1) ⟨rfl, trivial⟩
                              · refine x_P 216 rfl rfl rfl ?_
                                refine x_P 217 rfl rfl rfl ?_
                                refine x_jn 241 (fun v51 => [(0, .ref a0), (3, .int x18), (4, .int s46.1), (5, .int s46.2)]) (fun v51 => [.int v51]) (fun v51 => th) (fun v51 => ?_) (fun j52 hj52 => ?_)
                                · refine x_P (lv' := [(6, .int v51), (0, .ref a0), (3, .int x18), (4, .int s46.1), (5, .int s46.2)]) 243 rfl rfl rfl ?_
                                  refine x_P 245 rfl rfl rfl ?_
                                  refine x_P 246 rfl rfl rfl ?_
                                  refine x_jn 268 (fun v53 => [(0, .ref a0), (3, .int x18), (5, .int s46.2)]) (fun v53 => [.int v53]) (fun v53 => th) (fun v53 => ?_) (fun j54 hj54 => ?_)
                                  · refine x_P (lv' := [(4, .int v53), (0, .ref a0), (3, .int x18), (5, .int s46.2)]) 270 rfl rfl rfl ?_
                                    refine x_P (lv' := [(5, .int (s46.2 + Int32.ofInt 1)), (4, .int v53), (0, .ref a0), (3, .int x18)]) 273 rfl rfl rfl ?_
                                    refine x_P 205 rfl rfl rfl ?_
                                    exact x_lv (hnx47 (v53, (s46.2 + Int32.ofInt 1))) ⟨rfl, rfl, rfl, rfl, trivial⟩
                                  · refine x_jn 266 (fun v55 => [(0, .ref a0), (3, .int x18), (4, .int s46.1), (5, .int s46.2)]) (fun v55 => []) (fun v55 => th) (fun v55 => ?_) (fun j56 hj56 => ?_)
                                    · refine x_P 268 rfl rfl rfl ?_
                                      exact x_lv (hj54 s46.1) ⟨rfl, rfl, rfl, trivial⟩
                                    · refine x_ic_eq rfl rfl (fun h61 => ?_) (fun h61 => ?_)
                                      · exact x_lv (hj56 ()) ⟨rfl, rfl, rfl, rfl, trivial⟩
                                      · refine x_P 251 rfl rfl rfl ?_
                                        refine x_jn 261 (fun v57 => [(0, .ref a0), (3, .int x18), (5, .int s46.2), (6, .int v51)]) (fun v57 => []) (fun v57 => th) (fun v57 => ?_) (fun j58 hj58 => ?_)
                                        · refine x_P 263 rfl rfl rfl ?_
                                          refine x_P 268 rfl rfl rfl ?_
                                          exact x_lv (hj54 v51) ⟨rfl, rfl, rfl, trivial⟩
                                        · refine x_if_eq rfl rfl (fun h60 => ?_) (fun h60 => ?_)
                                          · exact x_lv (hj58 ()) ⟨rfl, rfl, rfl, rfl, trivial⟩
                                          · refine x_P 256 rfl rfl rfl ?_
                                            refine x_P 258 rfl rfl rfl ?_
                                            refine x_ic_ge rfl rfl (fun h59 => ?_) (fun h59 => ?_)
                                            · exact x_lv (hj56 ()) ⟨rfl, rfl, rfl, rfl, trivial⟩
                                            · exact x_lv (hj58 ()) ⟨rfl, rfl, rfl, rfl, trivial⟩
                                · refine x_ic_ne rfl rfl (fun h67 => ?_) (fun h67 => ?_)
                                  · refine x_P 221 rfl rfl rfl ?_
                                    refine x_P 241 rfl rfl rfl ?_
                                    exact x_lv (hj52 (Int32.ofInt 0)) ⟨rfl, rfl, rfl, rfl, trivial⟩
                                  · refine x_P 225 rfl rfl rfl ?_
                                    refine x_P 226 rfl rfl rfl ?_
                                    refine x_gN rfl (fun o62 ho62 => ?_)
                                    refine x_P 230 rfl rfl rfl ?_
                                    refine x_aI rfl ⟨rfl, rfl⟩ (fun x63 hx63 => ?_)
                                    refine x_P 232 rfl rfl rfl ?_
                                    refine x_gN rfl (fun o64 ho64 => ?_)
                                    refine x_P 237 rfl rfl rfl ?_
                                    refine x_aI rfl ⟨rfl, rfl⟩ (fun x65 hx65 => ?_)
                                    refine x_callV rfl rfl rfl rfl rfl ⟨rfl, rfl⟩ (fun x h => c_237 h) (S_237 (d + 4) a0 x63 x65 th) (fun x66 hx66 => ?_)
                                    exact x_lv (hj52 x66) ⟨rfl, rfl, rfl, rfl, trivial⟩
                            · refine x_P 278 rfl rfl rfl ?_
                              exact x_retI (x := (x49, th)) rfl
                          · skip
                            exact x_none
            · refine x_ic_ne rfl rfl (fun h77 => ?_) (fun h77 => ?_)
              · refine x_P 52 rfl rfl rfl ?_
                refine x_gN rfl (fun o71 ho71 => ?_)
                refine x_P 56 rfl rfl rfl ?_
                refine x_gN rfl (fun o72 ho72 => ?_)
                refine x_P 60 rfl rfl rfl ?_
                refine x_aI rfl ⟨rfl, rfl⟩ (fun x73 hx73 => ?_)
                refine x_aI rfl ⟨rfl, rfl⟩ (fun x74 hx74 => ?_)
                refine x_P 63 rfl rfl rfl ?_
                refine x_callS rfl rfl rfl rfl rfl rfl ⟨rfl, rfl⟩ (S_208 (d + 4) x74 a2 th) (fun x75 hx75 => ?_)
                refine x_if_ne rfl rfl (fun h76 => ?_) (fun h76 => ?_)
                · exact x_lv (hj9 ()) ⟨rfl, trivial⟩
                · exact x_lv (hj14 ()) ⟨rfl, rfl, rfl, trivial⟩
              · exact x_lv (hj14 ()) ⟨rfl, rfl, rfl, trivial⟩
-- 211 NineTreesModel.side(I)I
noncomputable def m_211 (a0 : Nat) (a1 : Int32) (th : tH) : Option (Int32 × tH) :=
  (gC th 8 a0).bind fun _ =>
  (m_190 (Int32.toInt64 a1) (Int64.ofNat 3) (Int64.ofNat 8) th).bind fun x1 =>
  if x1 = 0 then
    (m_189 a0 (Int8.ofInt (-2)).toInt32 th).bind fun q7 =>
    some (q7.1, q7.2)
  else
    (gI th 8 a0 10).bind fun x2 =>
    if x2 ≤ 0 then
      (gI th 8 a0 9).bind fun x3 =>
      (pI th 8 a0 9 a1).bind fun th4 =>
      some (x3, th4)
    else
      (m_189 a0 (Int8.ofInt (-5)).toInt32 th).bind fun q5 =>
      some (q5.1, q5.2)
theorem c_211 {a0 : Nat} {a1 : Int32} {th : tH} {x : (Int32 × tH)} (h : m_211 a0 a1 th = some x) : ∃ fs, th[a0]? = some (.inr (8, fs)) := gC_of h
theorem S_211 {L : Nat} (d : Nat) (a0 : Nat) (a1 : Int32) (th : tH) : Wx L (fun x => (some (.int x.1), x.2)) (d + 2) 211 3 0 [(0, .ref a0), (1, .int a1)] [] th (m_211 a0 a1 th) := by
  unfold m_211
  refine x_gC ?_
  refine x_P 1 rfl rfl rfl ?_
  refine x_P 2 rfl rfl rfl ?_
  refine x_P 5 rfl rfl rfl ?_
  refine x_P 8 rfl rfl rfl ?_
  refine x_callS rfl rfl rfl rfl rfl rfl ⟨rfl, rfl⟩ (S_190 (d + 1) (Int32.toInt64 a1) (Int64.ofNat 3) (Int64.ofNat 8) th) (fun x1 hx1 => ?_)
  refine x_if_ne rfl rfl (fun h8 => ?_) (fun h8 => ?_)
  · refine x_P 15 rfl rfl rfl ?_
    refine x_P 17 rfl rfl rfl ?_
    refine x_callV rfl rfl rfl rfl rfl ⟨rfl, rfl⟩ (fun x h => c_189 h) (S_189 d a0 (Int8.ofInt (-2)).toInt32 th) (fun q7 hq7 => ?_)
    exact x_retI (x := (q7.1, q7.2)) rfl
  · refine x_P 22 rfl rfl rfl ?_
    refine x_gI rfl (fun x2 hx2 => ?_)
    refine x_if_le rfl rfl (fun h6 => ?_) (fun h6 => ?_)
    · refine x_P 36 rfl rfl rfl ?_
      refine x_gI rfl (fun x3 hx3 => ?_)
      refine x_P (lv' := [(2, .int x3), (0, .ref a0), (1, .int a1)]) 40 rfl rfl rfl ?_
      refine x_P 41 rfl rfl rfl ?_
      refine x_P 42 rfl rfl rfl ?_
      refine x_pI rfl (fun th4 hth4 => ?_)
      refine x_P 46 rfl rfl rfl ?_
      exact x_retI (x := (x3, th4)) rfl
    · refine x_P 29 rfl rfl rfl ?_
      refine x_P 31 rfl rfl rfl ?_
      refine x_callV rfl rfl rfl rfl rfl ⟨rfl, rfl⟩ (fun x h => c_189 h) (S_189 d a0 (Int8.ofInt (-5)).toInt32 th) (fun q5 hq5 => ?_)
      exact x_retI (x := (q5.1, q5.2)) rfl
-- 212 NineTreesModel.addTree(III)V
noncomputable def m_212 (a0 : Nat) (a1 : Int32) (a2 : Int32) (a3 : Int32) (th : tH) : Option tH :=
  (gC th 8 a0).bind fun _ =>
  (gN th 8 a0 11).bind fun o1 =>
  (gI th 8 a0 10).bind fun x2 =>
  (sI th o1 x2 a1).bind fun th3 =>
  (gN th3 8 a0 12).bind fun o4 =>
  (gI th3 8 a0 10).bind fun x5 =>
  (sI th3 o4 x5 a2).bind fun th6 =>
  (gN th6 8 a0 13).bind fun o7 =>
  (gI th6 8 a0 10).bind fun x8 =>
  (sI th6 o7 x8 a3).bind fun th9 =>
  (gI th9 8 a0 10).bind fun x10 =>
  (pI th9 8 a0 10 (x10 + (Int32.ofInt 1))).bind fun th11 =>
  some th11
theorem c_212 {a0 : Nat} {a1 : Int32} {a2 : Int32} {a3 : Int32} {th : tH} {x : tH} (h : m_212 a0 a1 a2 a3 th = some x) : ∃ fs, th[a0]? = some (.inr (8, fs)) := gC_of h
theorem S_212 {L : Nat} (d : Nat) (a0 : Nat) (a1 : Int32) (a2 : Int32) (a3 : Int32) (th : tH) : Wx L (fun x => (none, x)) (d + 1) 212 4 0 [(0, .ref a0), (1, .int a1), (2, .int a2), (3, .int a3)] [] th (m_212 a0 a1 a2 a3 th) := by
  unfold m_212
  refine x_gC ?_
  refine x_P 1 rfl rfl rfl ?_
  refine x_gN rfl (fun o1 ho1 => ?_)
  refine x_P 5 rfl rfl rfl ?_
  refine x_gI rfl (fun x2 hx2 => ?_)
  refine x_P 9 rfl rfl rfl ?_
  refine x_sI rfl ⟨rfl, rfl⟩ (fun th3 hth3 => ?_)
  refine x_P 11 rfl rfl rfl ?_
  refine x_gN rfl (fun o4 ho4 => ?_)
  refine x_P 15 rfl rfl rfl ?_
  refine x_gI rfl (fun x5 hx5 => ?_)
  refine x_P 19 rfl rfl rfl ?_
  refine x_sI rfl ⟨rfl, rfl⟩ (fun th6 hth6 => ?_)
  refine x_P 21 rfl rfl rfl ?_
  refine x_gN rfl (fun o7 ho7 => ?_)
  refine x_P 25 rfl rfl rfl ?_
  refine x_gI rfl (fun x8 hx8 => ?_)
  refine x_P 29 rfl rfl rfl ?_
  refine x_sI rfl ⟨rfl, rfl⟩ (fun th9 hth9 => ?_)
  refine x_P 31 rfl rfl rfl ?_
  refine x_P 32 rfl rfl rfl ?_
  refine x_gI rfl (fun x10 hx10 => ?_)
  refine x_P 36 rfl rfl rfl ?_
  refine x_P 37 rfl rfl rfl ?_
  refine x_pI rfl (fun th11 hth11 => ?_)
  exact x_retV (x := th11) rfl
-- 213 NineTreesModel.tree(III)I
noncomputable def m_213 (a0 : Nat) (a1 : Int32) (a2 : Int32) (a3 : Int32) (th : tH) : Option (Int32 × tH) :=
  (gC th 8 a0).bind fun _ =>
  (m_190 (Int32.toInt64 a1) (Int64.ofNat 0) (Int64.ofNat 5) th).bind fun x1 =>
  jn (fun (v2 : Unit) =>
      (m_189 a0 (Int8.ofInt (-2)).toInt32 th).bind fun q4 =>
      some (q4.1, q4.2)
    ) (fun j3 =>
      if x1 = 0 then
        j3 ()
      else
        (m_193 a0 a2 th).bind fun x5 =>
        if x5 = 0 then
          j3 ()
        else
          (m_190 (Int32.toInt64 a3) (Int64.ofNat 0) (Int64.ofNat 9) th).bind fun x6 =>
          if x6 = 0 then
            j3 ()
          else
            (m_194 a0 a2 th).bind fun x7 =>
            if x7 = (Int32.ofInt (-1)) then
              (gI th 8 a0 10).bind fun x8 =>
              if x8 = (Int8.ofInt 12).toInt32 then
                (m_189 a0 (Int8.ofInt (-6)).toInt32 th).bind fun q11 =>
                some (q11.1, q11.2)
              else
                (m_212 a0 a1 a2 a3 th).bind fun th9 =>
                (gI th9 8 a0 10).bind fun x10 =>
                some ((x10 - (Int32.ofInt 1)), th9)
            else
              (m_189 a0 (Int8.ofInt (-5)).toInt32 th).bind fun q13 =>
              some (q13.1, q13.2)
    )
theorem c_213 {a0 : Nat} {a1 : Int32} {a2 : Int32} {a3 : Int32} {th : tH} {x : (Int32 × tH)} (h : m_213 a0 a1 a2 a3 th = some x) : ∃ fs, th[a0]? = some (.inr (8, fs)) := gC_of h
theorem S_213 {L : Nat} (d : Nat) (a0 : Nat) (a1 : Int32) (a2 : Int32) (a3 : Int32) (th : tH) : Wx L (fun x => (some (.int x.1), x.2)) (d + 2) 213 4 0 [(0, .ref a0), (1, .int a1), (2, .int a2), (3, .int a3)] [] th (m_213 a0 a1 a2 a3 th) := by
  unfold m_213
  refine x_gC ?_
  refine x_P 1 rfl rfl rfl ?_
  refine x_P 2 rfl rfl rfl ?_
  refine x_P 3 rfl rfl rfl ?_
  refine x_P 6 rfl rfl rfl ?_
  refine x_callS rfl rfl rfl rfl rfl rfl ⟨rfl, rfl⟩ (S_190 (d + 1) (Int32.toInt64 a1) (Int64.ofNat 0) (Int64.ofNat 5) th) (fun x1 hx1 => ?_)
  refine x_jn 32 (fun v2 => [(0, .ref a0)]) (fun v2 => []) (fun v2 => th) (fun v2 => ?_) (fun j3 hj3 => ?_)
  · refine x_P 33 rfl rfl rfl ?_
    refine x_P 35 rfl rfl rfl ?_
    refine x_callV rfl rfl rfl rfl rfl ⟨rfl, rfl⟩ (fun x h => c_189 h) (S_189 d a0 (Int8.ofInt (-2)).toInt32 th) (fun q4 hq4 => ?_)
    exact x_retI (x := (q4.1, q4.2)) rfl
  · refine x_if_eq rfl rfl (fun h17 => ?_) (fun h17 => ?_)
    · exact x_lv (hj3 ()) ⟨rfl, trivial⟩
    · refine x_P 13 rfl rfl rfl ?_
      refine x_P 14 rfl rfl rfl ?_
      refine x_callV rfl rfl rfl rfl rfl ⟨rfl, rfl⟩ (fun x h => c_193 h) (S_193 d a0 a2 th) (fun x5 hx5 => ?_)
      refine x_if_eq rfl rfl (fun h16 => ?_) (fun h16 => ?_)
      · exact x_lv (hj3 ()) ⟨rfl, trivial⟩
      · refine x_P 21 rfl rfl rfl ?_
        refine x_P 22 rfl rfl rfl ?_
        refine x_P 23 rfl rfl rfl ?_
        refine x_P 26 rfl rfl rfl ?_
        refine x_callS rfl rfl rfl rfl rfl rfl ⟨rfl, rfl⟩ (S_190 (d + 1) (Int32.toInt64 a3) (Int64.ofNat 0) (Int64.ofNat 9) th) (fun x6 hx6 => ?_)
        refine x_if_ne rfl rfl (fun h15 => ?_) (fun h15 => ?_)
        · exact x_lv (hj3 ()) ⟨rfl, trivial⟩
        · refine x_P 40 rfl rfl rfl ?_
          refine x_P 41 rfl rfl rfl ?_
          refine x_callV rfl rfl rfl rfl rfl ⟨rfl, rfl⟩ (fun x h => c_194 h) (S_194 (d + 1) a0 a2 th) (fun x7 hx7 => ?_)
          refine x_P 45 rfl rfl rfl ?_
          refine x_ic_eq rfl rfl (fun h14 => ?_) (fun h14 => ?_)
          · refine x_P 56 rfl rfl rfl ?_
            refine x_gI rfl (fun x8 hx8 => ?_)
            refine x_P 61 rfl rfl rfl ?_
            refine x_ic_ne rfl rfl (fun h12 => ?_) (fun h12 => ?_)
            · refine x_P 65 rfl rfl rfl ?_
              refine x_P 67 rfl rfl rfl ?_
              refine x_callV rfl rfl rfl rfl rfl ⟨rfl, rfl⟩ (fun x h => c_189 h) (S_189 d a0 (Int8.ofInt (-6)).toInt32 th) (fun q11 hq11 => ?_)
              exact x_retI (x := (q11.1, q11.2)) rfl
            · refine x_P 72 rfl rfl rfl ?_
              refine x_P 73 rfl rfl rfl ?_
              refine x_P 74 rfl rfl rfl ?_
              refine x_P 75 rfl rfl rfl ?_
              refine x_callW rfl rfl rfl rfl rfl ⟨rfl, rfl⟩ (fun x h => c_212 h) (S_212 d a0 a1 a2 a3 th) (fun th9 hth9 => ?_)
              refine x_P 79 rfl rfl rfl ?_
              refine x_gI rfl (fun x10 hx10 => ?_)
              refine x_P 83 rfl rfl rfl ?_
              refine x_P 84 rfl rfl rfl ?_
              exact x_retI (x := ((x10 - (Int32.ofInt 1)), th9)) rfl
          · refine x_P 49 rfl rfl rfl ?_
            refine x_P 51 rfl rfl rfl ?_
            refine x_callV rfl rfl rfl rfl rfl ⟨rfl, rfl⟩ (fun x h => c_189 h) (S_189 d a0 (Int8.ofInt (-5)).toInt32 th) (fun q13 hq13 => ?_)
            exact x_retI (x := (q13.1, q13.2)) rfl
-- 214 NineTreesModel.wish(I)I
noncomputable def m_214 (a0 : Nat) (a1 : Int32) (th : tH) : Option (Int32 × tH) :=
  (gC th 8 a0).bind fun _ =>
  jn (fun (v1 : Unit) =>
      (m_189 a0 (Int8.ofInt (-2)).toInt32 th).bind fun q3 =>
      some (q3.1, q3.2)
    ) (fun j2 =>
      if a1 < 0 then
        j2 ()
      else
        (gI th 8 a0 10).bind fun x4 =>
        if (a1 >>> (x4 &&& 31)) = 0 then
          (m_196 a1 th).bind fun x5 =>
          if (Int32.ofInt 3) ≤ x5 then
            (gI th 8 a0 14).bind fun x6 =>
            if x6 = (Int8.ofInt 8).toInt32 then
              (m_189 a0 (Int8.ofInt (-6)).toInt32 th).bind fun q12 =>
              some (q12.1, q12.2)
            else
              (gN th 8 a0 15).bind fun o7 =>
              (gI th 8 a0 14).bind fun x8 =>
              (pI th 8 a0 14 (x8 + (Int32.ofInt 1))).bind fun th9 =>
              (sI th9 o7 x8 a1).bind fun th10 =>
              (gI th10 8 a0 14).bind fun x11 =>
              some ((x11 - (Int32.ofInt 1)), th10)
          else
            j2 ()
        else
          j2 ()
    )
theorem c_214 {a0 : Nat} {a1 : Int32} {th : tH} {x : (Int32 × tH)} (h : m_214 a0 a1 th = some x) : ∃ fs, th[a0]? = some (.inr (8, fs)) := gC_of h
theorem S_214 {L : Nat} (d : Nat) (a0 : Nat) (a1 : Int32) (th : tH) : Wx L (fun x => (some (.int x.1), x.2)) (d + 2) 214 2 0 [(0, .ref a0), (1, .int a1)] [] th (m_214 a0 a1 th) := by
  unfold m_214
  refine x_gC ?_
  refine x_P 1 rfl rfl rfl ?_
  refine x_jn 21 (fun v1 => [(0, .ref a0)]) (fun v1 => []) (fun v1 => th) (fun v1 => ?_) (fun j2 hj2 => ?_)
  · refine x_P 22 rfl rfl rfl ?_
    refine x_P 24 rfl rfl rfl ?_
    refine x_callV rfl rfl rfl rfl rfl ⟨rfl, rfl⟩ (fun x h => c_189 h) (S_189 d a0 (Int8.ofInt (-2)).toInt32 th) (fun q3 hq3 => ?_)
    exact x_retI (x := (q3.1, q3.2)) rfl
  · refine x_if_lt rfl rfl (fun h16 => ?_) (fun h16 => ?_)
    · exact x_lv (hj2 ()) ⟨rfl, trivial⟩
    · refine x_P 5 rfl rfl rfl ?_
      refine x_P 6 rfl rfl rfl ?_
      refine x_gI rfl (fun x4 hx4 => ?_)
      refine x_P 10 rfl rfl rfl ?_
      refine x_if_ne rfl rfl (fun h15 => ?_) (fun h15 => ?_)
      · refine x_P 14 rfl rfl rfl ?_
        refine x_callS rfl rfl rfl rfl rfl rfl ⟨rfl, rfl⟩ (S_196 (d + 1) a1 th) (fun x5 hx5 => ?_)
        refine x_P 18 rfl rfl rfl ?_
        refine x_ic_ge rfl rfl (fun h14 => ?_) (fun h14 => ?_)
        · refine x_P 29 rfl rfl rfl ?_
          refine x_gI rfl (fun x6 hx6 => ?_)
          refine x_P 34 rfl rfl rfl ?_
          refine x_ic_ne rfl rfl (fun h13 => ?_) (fun h13 => ?_)
          · refine x_P 38 rfl rfl rfl ?_
            refine x_P 40 rfl rfl rfl ?_
            refine x_callV rfl rfl rfl rfl rfl ⟨rfl, rfl⟩ (fun x h => c_189 h) (S_189 d a0 (Int8.ofInt (-6)).toInt32 th) (fun q12 hq12 => ?_)
            exact x_retI (x := (q12.1, q12.2)) rfl
          · refine x_P 45 rfl rfl rfl ?_
            refine x_gN rfl (fun o7 ho7 => ?_)
            refine x_P 49 rfl rfl rfl ?_
            refine x_P 50 rfl rfl rfl ?_
            refine x_gI rfl (fun x8 hx8 => ?_)
            refine x_P 54 rfl rfl rfl ?_
            refine x_P 55 rfl rfl rfl ?_
            refine x_P 56 rfl rfl rfl ?_
            refine x_pI rfl (fun th9 hth9 => ?_)
            refine x_P 60 rfl rfl rfl ?_
            refine x_sI rfl ⟨rfl, rfl⟩ (fun th10 hth10 => ?_)
            refine x_P 62 rfl rfl rfl ?_
            refine x_gI rfl (fun x11 hx11 => ?_)
            refine x_P 66 rfl rfl rfl ?_
            refine x_P 67 rfl rfl rfl ?_
            exact x_retI (x := ((x11 - (Int32.ofInt 1)), th10)) rfl
        · exact x_lv (hj2 ()) ⟨rfl, trivial⟩
      · exact x_lv (hj2 ()) ⟨rfl, trivial⟩
-- 215 NineTreesModel.content()I
noncomputable def m_215 (a0 : Nat) (th : tH) : Option (Int32 × tH) :=
  (gC th 8 a0).bind fun _ =>
  (gI th 8 a0 14).bind fun x1 =>
  (pI th 8 a0 14 (Int32.ofInt 0)).bind fun th2 =>
  some (x1, th2)
theorem c_215 {a0 : Nat} {th : tH} {x : (Int32 × tH)} (h : m_215 a0 th = some x) : ∃ fs, th[a0]? = some (.inr (8, fs)) := gC_of h
theorem S_215 {L : Nat} (d : Nat) (a0 : Nat) (th : tH) : Wx L (fun x => (some (.int x.1), x.2)) (d + 1) 215 2 0 [(0, .ref a0)] [] th (m_215 a0 th) := by
  unfold m_215
  refine x_gC ?_
  refine x_P 1 rfl rfl rfl ?_
  refine x_gI rfl (fun x1 hx1 => ?_)
  refine x_P (lv' := [(1, .int x1), (0, .ref a0)]) 5 rfl rfl rfl ?_
  refine x_P 6 rfl rfl rfl ?_
  refine x_P 7 rfl rfl rfl ?_
  refine x_pI rfl (fun th2 hth2 => ?_)
  refine x_P 11 rfl rfl rfl ?_
  exact x_retI (x := (x1, th2)) rfl
-- 216 NineTreesModel.noMove(II)I
noncomputable def m_216 (a0 : Nat) (a1 : Int32) (a2 : Int32) (th : tH) : Option (Int32 × tH) :=
  (gC th 8 a0).bind fun _ =>
  (m_191 a0 a1 th).bind fun x1 =>
  jn (fun (v2 : Unit) =>
      (m_189 a0 (Int8.ofInt (-2)).toInt32 th).bind fun q4 =>
      some (q4.1, q4.2)
    ) (fun j3 =>
      if x1 = 0 then
        j3 ()
      else
        (m_193 a0 a2 th).bind fun x5 =>
        if x5 = 0 then
          j3 ()
        else
          (m_197 a0 a1 th).bind fun x6 =>
          jn (fun (v7 : Int32 × tH) =>
              some (v7.1, v7.2)
            ) (fun j8 =>
              jn (fun (v9 : Unit) =>
                  (m_189 a0 (Int8.ofInt (-5)).toInt32 th).bind fun q11 =>
                  j8 (q11.1, q11.2)
                ) (fun j10 =>
                  if x6 = 0 then
                    (m_194 a0 a2 th).bind fun x12 =>
                    if x12 = (Int32.ofInt (-1)) then
                      j8 ((Int32.ofInt 0), th)
                    else
                      j10 ()
                  else
                    j10 ()
                )
            )
    )
theorem c_216 {a0 : Nat} {a1 : Int32} {a2 : Int32} {th : tH} {x : (Int32 × tH)} (h : m_216 a0 a1 a2 th = some x) : ∃ fs, th[a0]? = some (.inr (8, fs)) := gC_of h
theorem S_216 {L : Nat} (d : Nat) (a0 : Nat) (a1 : Int32) (a2 : Int32) (th : tH) : Wx L (fun x => (some (.int x.1), x.2)) (d + 2) 216 3 0 [(0, .ref a0), (1, .int a1), (2, .int a2)] [] th (m_216 a0 a1 a2 th) := by
  unfold m_216
  refine x_gC ?_
  refine x_P 1 rfl rfl rfl ?_
  refine x_P 2 rfl rfl rfl ?_
  refine x_callV rfl rfl rfl rfl rfl ⟨rfl, rfl⟩ (fun x h => c_191 h) (S_191 d a0 a1 th) (fun x1 hx1 => ?_)
  refine x_jn 16 (fun v2 => [(0, .ref a0)]) (fun v2 => []) (fun v2 => th) (fun v2 => ?_) (fun j3 hj3 => ?_)
  · refine x_P 17 rfl rfl rfl ?_
    refine x_P 19 rfl rfl rfl ?_
    refine x_callV rfl rfl rfl rfl rfl ⟨rfl, rfl⟩ (fun x h => c_189 h) (S_189 d a0 (Int8.ofInt (-2)).toInt32 th) (fun q4 hq4 => ?_)
    exact x_retI (x := (q4.1, q4.2)) rfl
  · refine x_if_eq rfl rfl (fun h16 => ?_) (fun h16 => ?_)
    · exact x_lv (hj3 ()) ⟨rfl, trivial⟩
    · refine x_P 9 rfl rfl rfl ?_
      refine x_P 10 rfl rfl rfl ?_
      refine x_callV rfl rfl rfl rfl rfl ⟨rfl, rfl⟩ (fun x h => c_193 h) (S_193 d a0 a2 th) (fun x5 hx5 => ?_)
      refine x_if_ne rfl rfl (fun h15 => ?_) (fun h15 => ?_)
      · exact x_lv (hj3 ()) ⟨rfl, trivial⟩
      · refine x_P 24 rfl rfl rfl ?_
        refine x_P 25 rfl rfl rfl ?_
        refine x_callV rfl rfl rfl rfl rfl ⟨rfl, rfl⟩ (fun x h => c_197 h) (S_197 (d + 1) a0 a1 th) (fun x6 hx6 => ?_)
        refine x_jn 50 (fun v7 => []) (fun v7 => [.int v7.1]) (fun v7 => v7.2) (fun v7 => ?_) (fun j8 hj8 => ?_)
        · exact x_retI (x := (v7.1, v7.2)) rfl
        · refine x_jn 40 (fun v9 => [(0, .ref a0)]) (fun v9 => []) (fun v9 => th) (fun v9 => ?_) (fun j10 hj10 => ?_)
          · refine x_P 41 rfl rfl rfl ?_
            refine x_P 43 rfl rfl rfl ?_
            refine x_callV rfl rfl rfl rfl rfl ⟨rfl, rfl⟩ (fun x h => c_189 h) (S_189 d a0 (Int8.ofInt (-5)).toInt32 th) (fun q11 hq11 => ?_)
            refine x_P 50 rfl rfl rfl ?_
            exact x_lv (hj8 (q11.1, q11.2)) trivial
          · refine x_if_ne rfl rfl (fun h14 => ?_) (fun h14 => ?_)
            · refine x_P 32 rfl rfl rfl ?_
              refine x_P 33 rfl rfl rfl ?_
              refine x_callV rfl rfl rfl rfl rfl ⟨rfl, rfl⟩ (fun x h => c_194 h) (S_194 (d + 1) a0 a2 th) (fun x12 hx12 => ?_)
              refine x_P 37 rfl rfl rfl ?_
              refine x_ic_eq rfl rfl (fun h13 => ?_) (fun h13 => ?_)
              · refine x_P 50 rfl rfl rfl ?_
                exact x_lv (hj8 ((Int32.ofInt 0), th)) trivial
              · exact x_lv (hj10 ()) ⟨rfl, trivial⟩
            · exact x_lv (hj10 ()) ⟨rfl, trivial⟩
-- 217 NineTreesModel.move(II)I
noncomputable def m_217 (a0 : Nat) (a1 : Int32) (a2 : Int32) (th : tH) : Option (Int32 × tH) :=
  (gC th 8 a0).bind fun _ =>
  (m_216 a0 a1 a2 th).bind fun q1 =>
  if q1.1 = 0 then
    (gN q1.2 8 a0 12).bind fun o2 =>
    (aI q1.2 o2 a1).bind fun x3 =>
    (gN q1.2 8 a0 12).bind fun o4 =>
    (sI q1.2 o4 a1 a2).bind fun th5 =>
    some (x3, th5)
  else
    some (q1.1, q1.2)
theorem c_217 {a0 : Nat} {a1 : Int32} {a2 : Int32} {th : tH} {x : (Int32 × tH)} (h : m_217 a0 a1 a2 th = some x) : ∃ fs, th[a0]? = some (.inr (8, fs)) := gC_of h
theorem S_217 {L : Nat} (d : Nat) (a0 : Nat) (a1 : Int32) (a2 : Int32) (th : tH) : Wx L (fun x => (some (.int x.1), x.2)) (d + 3) 217 5 0 [(0, .ref a0), (1, .int a1), (2, .int a2)] [] th (m_217 a0 a1 a2 th) := by
  unfold m_217
  refine x_gC ?_
  refine x_P 1 rfl rfl rfl ?_
  refine x_P 2 rfl rfl rfl ?_
  refine x_P 3 rfl rfl rfl ?_
  refine x_callV rfl rfl rfl rfl rfl ⟨rfl, rfl⟩ (fun x h => c_216 h) (S_216 d a0 a1 a2 th) (fun q1 hq1 => ?_)
  refine x_P (lv' := [(3, .int q1.1), (0, .ref a0), (1, .int a1), (2, .int a2)]) 7 rfl rfl rfl ?_
  refine x_P 8 rfl rfl rfl ?_
  refine x_if_eq rfl rfl (fun h6 => ?_) (fun h6 => ?_)
  · refine x_P 14 rfl rfl rfl ?_
    refine x_gN rfl (fun o2 ho2 => ?_)
    refine x_P 18 rfl rfl rfl ?_
    refine x_aI rfl ⟨rfl, rfl⟩ (fun x3 hx3 => ?_)
    refine x_P (lv' := [(4, .int x3), (3, .int q1.1), (0, .ref a0), (1, .int a1), (2, .int a2)]) 21 rfl rfl rfl ?_
    refine x_P 22 rfl rfl rfl ?_
    refine x_gN rfl (fun o4 ho4 => ?_)
    refine x_P 26 rfl rfl rfl ?_
    refine x_P 27 rfl rfl rfl ?_
    refine x_sI rfl ⟨rfl, rfl⟩ (fun th5 hth5 => ?_)
    refine x_P 30 rfl rfl rfl ?_
    exact x_retI (x := (x3, th5)) rfl
  · refine x_P 12 rfl rfl rfl ?_
    exact x_retI (x := (q1.1, q1.2)) rfl
-- 218 NineTreesModel.canFell()Z
noncomputable def m_218 (a0 : Nat) (th : tH) : Option (Int32) :=
  (gC th 8 a0).bind fun _ =>
  (gI th 8 a0 10).bind fun x1 =>
  jn (fun (v2 : Int32) =>
      rB v2
    ) (fun j3 =>
      jn (fun (v4 : Unit) =>
          j3 (Int32.ofInt 0)
        ) (fun j5 =>
          if x1 ≤ 0 then
            j5 ()
          else
            (gI th 8 a0 10).bind fun x6 =>
            (m_210 a0 (x6 - (Int32.ofInt 1)) th).bind fun x7 =>
            if x7 = 0 then
              j3 (Int32.ofInt 1)
            else
              j5 ()
        )
    )
theorem c_218 {a0 : Nat} {th : tH} {x : (Int32)} (h : m_218 a0 th = some x) : ∃ fs, th[a0]? = some (.inr (8, fs)) := gC_of h
theorem S_218 {L : Nat} (d : Nat) (a0 : Nat) (th : tH) : Wx L (fun x => (some (.int x), th)) (d + 2) 218 1 0 [(0, .ref a0)] [] th (m_218 a0 th) := by
  unfold m_218
  refine x_gC ?_
  refine x_P 1 rfl rfl rfl ?_
  refine x_gI rfl (fun x1 hx1 => ?_)
  refine x_jn 25 (fun v2 => []) (fun v2 => [.int v2]) (fun v2 => th) (fun v2 => ?_) (fun j3 hj3 => ?_)
  · exact x_rB rfl
  · refine x_jn 24 (fun v4 => []) (fun v4 => []) (fun v4 => th) (fun v4 => ?_) (fun j5 hj5 => ?_)
    · refine x_P 25 rfl rfl rfl ?_
      exact x_lv (hj3 (Int32.ofInt 0)) trivial
    · refine x_if_le rfl rfl (fun h9 => ?_) (fun h9 => ?_)
      · exact x_lv (hj5 ()) trivial
      · refine x_P 8 rfl rfl rfl ?_
        refine x_P 9 rfl rfl rfl ?_
        refine x_gI rfl (fun x6 hx6 => ?_)
        refine x_P 13 rfl rfl rfl ?_
        refine x_P 14 rfl rfl rfl ?_
        refine x_callV rfl rfl rfl rfl rfl ⟨rfl, rfl⟩ (fun x h => c_210 h) (S_210 d a0 (x6 - (Int32.ofInt 1)) th) (fun x7 hx7 => ?_)
        refine x_if_ne rfl rfl (fun h8 => ?_) (fun h8 => ?_)
        · refine x_P 21 rfl rfl rfl ?_
          refine x_P 25 rfl rfl rfl ?_
          exact x_lv (hj3 (Int32.ofInt 1)) trivial
        · exact x_lv (hj5 ()) trivial
-- 219 NineTreesModel.fell()I
noncomputable def m_219 (a0 : Nat) (th : tH) : Option (Int32 × tH) :=
  (gC th 8 a0).bind fun _ =>
  (m_218 a0 th).bind fun x1 =>
  if x1 = 0 then
    (m_189 a0 (Int8.ofInt (-5)).toInt32 th).bind fun q6 =>
    some (q6.1, q6.2)
  else
    (gI th 8 a0 10).bind fun x2 =>
    (pI th 8 a0 10 (x2 - (Int32.ofInt 1))).bind fun th3 =>
    (m_207 a0 th3).bind fun th4 =>
    (gI th4 8 a0 10).bind fun x5 =>
    some (x5, th4)
theorem c_219 {a0 : Nat} {th : tH} {x : (Int32 × tH)} (h : m_219 a0 th = some x) : ∃ fs, th[a0]? = some (.inr (8, fs)) := gC_of h
theorem S_219 {L : Nat} (d : Nat) (a0 : Nat) (th : tH) : Wx L (fun x => (some (.int x.1), x.2)) (d + 3) 219 1 0 [(0, .ref a0)] [] th (m_219 a0 th) := by
  unfold m_219
  refine x_gC ?_
  refine x_P 1 rfl rfl rfl ?_
  refine x_callV rfl rfl rfl rfl rfl ⟨rfl, rfl⟩ (fun x h => c_218 h) (S_218 d a0 th) (fun x1 hx1 => ?_)
  refine x_if_ne rfl rfl (fun h7 => ?_) (fun h7 => ?_)
  · refine x_P 8 rfl rfl rfl ?_
    refine x_P 10 rfl rfl rfl ?_
    refine x_callV rfl rfl rfl rfl rfl ⟨rfl, rfl⟩ (fun x h => c_189 h) (S_189 (d + 1) a0 (Int8.ofInt (-5)).toInt32 th) (fun q6 hq6 => ?_)
    exact x_retI (x := (q6.1, q6.2)) rfl
  · refine x_P 15 rfl rfl rfl ?_
    refine x_P 16 rfl rfl rfl ?_
    refine x_gI rfl (fun x2 hx2 => ?_)
    refine x_P 20 rfl rfl rfl ?_
    refine x_P 21 rfl rfl rfl ?_
    refine x_pI rfl (fun th3 hth3 => ?_)
    refine x_P 25 rfl rfl rfl ?_
    refine x_callW rfl rfl rfl rfl rfl ⟨rfl, rfl⟩ (fun x h => c_207 h) (S_207 (d + 1) a0 th3) (fun th4 hth4 => ?_)
    refine x_P 29 rfl rfl rfl ?_
    refine x_gI rfl (fun x5 hx5 => ?_)
    exact x_retI (x := (x5, th4)) rfl
-- 220 NineTreesModel.feed(I)I
noncomputable def m_220 (a0 : Nat) (a1 : Int32) (th : tH) : Option (Int32 × tH) :=
  (gC th 8 a0).bind fun _ =>
  (m_190 (Int32.toInt64 a1) (Int64.ofNat 0) (Int64.ofNat 255) th).bind fun x1 =>
  if x1 = 0 then
    (m_189 a0 (Int8.ofInt (-2)).toInt32 th).bind fun q10 =>
    some (q10.1, q10.2)
  else
    (gI th 8 a0 7).bind fun x2 =>
    if x2 = (Int16.ofInt 250).toInt32 then
      (m_189 a0 (Int8.ofInt (-6)).toInt32 th).bind fun q8 =>
      some (q8.1, q8.2)
    else
      (gN th 8 a0 6).bind fun o3 =>
      (gI th 8 a0 7).bind fun x4 =>
      (pI th 8 a0 7 (x4 + (Int32.ofInt 1))).bind fun th5 =>
      (sI th5 o3 x4 a1).bind fun th6 =>
      (gI th6 8 a0 7).bind fun x7 =>
      some (x7, th6)
theorem c_220 {a0 : Nat} {a1 : Int32} {th : tH} {x : (Int32 × tH)} (h : m_220 a0 a1 th = some x) : ∃ fs, th[a0]? = some (.inr (8, fs)) := gC_of h
theorem S_220 {L : Nat} (d : Nat) (a0 : Nat) (a1 : Int32) (th : tH) : Wx L (fun x => (some (.int x.1), x.2)) (d + 2) 220 2 0 [(0, .ref a0), (1, .int a1)] [] th (m_220 a0 a1 th) := by
  unfold m_220
  refine x_gC ?_
  refine x_P 1 rfl rfl rfl ?_
  refine x_P 2 rfl rfl rfl ?_
  refine x_P 3 rfl rfl rfl ?_
  refine x_P 6 rfl rfl rfl ?_
  refine x_callS rfl rfl rfl rfl rfl rfl ⟨rfl, rfl⟩ (S_190 (d + 1) (Int32.toInt64 a1) (Int64.ofNat 0) (Int64.ofNat 255) th) (fun x1 hx1 => ?_)
  refine x_if_ne rfl rfl (fun h11 => ?_) (fun h11 => ?_)
  · refine x_P 13 rfl rfl rfl ?_
    refine x_P 15 rfl rfl rfl ?_
    refine x_callV rfl rfl rfl rfl rfl ⟨rfl, rfl⟩ (fun x h => c_189 h) (S_189 d a0 (Int8.ofInt (-2)).toInt32 th) (fun q10 hq10 => ?_)
    exact x_retI (x := (q10.1, q10.2)) rfl
  · refine x_P 20 rfl rfl rfl ?_
    refine x_gI rfl (fun x2 hx2 => ?_)
    refine x_P 26 rfl rfl rfl ?_
    refine x_ic_ne rfl rfl (fun h9 => ?_) (fun h9 => ?_)
    · refine x_P 30 rfl rfl rfl ?_
      refine x_P 32 rfl rfl rfl ?_
      refine x_callV rfl rfl rfl rfl rfl ⟨rfl, rfl⟩ (fun x h => c_189 h) (S_189 d a0 (Int8.ofInt (-6)).toInt32 th) (fun q8 hq8 => ?_)
      exact x_retI (x := (q8.1, q8.2)) rfl
    · refine x_P 37 rfl rfl rfl ?_
      refine x_gN rfl (fun o3 ho3 => ?_)
      refine x_P 41 rfl rfl rfl ?_
      refine x_P 42 rfl rfl rfl ?_
      refine x_gI rfl (fun x4 hx4 => ?_)
      refine x_P 46 rfl rfl rfl ?_
      refine x_P 47 rfl rfl rfl ?_
      refine x_P 48 rfl rfl rfl ?_
      refine x_pI rfl (fun th5 hth5 => ?_)
      refine x_P 52 rfl rfl rfl ?_
      refine x_sI rfl ⟨rfl, rfl⟩ (fun th6 hth6 => ?_)
      refine x_P 54 rfl rfl rfl ?_
      refine x_gI rfl (fun x7 hx7 => ?_)
      exact x_retI (x := (x7, th6)) rfl
-- 221 NineTreesModel.wipe()I
noncomputable def m_221 (a0 : Nat) (th : tH) : Option (Int32 × tH) :=
  (gC th 8 a0).bind fun _ =>
  (gI th 8 a0 7).bind fun x1 =>
  (pI th 8 a0 7 (Int32.ofInt 0)).bind fun th2 =>
  some (x1, th2)
theorem c_221 {a0 : Nat} {th : tH} {x : (Int32 × tH)} (h : m_221 a0 th = some x) : ∃ fs, th[a0]? = some (.inr (8, fs)) := gC_of h
theorem S_221 {L : Nat} (d : Nat) (a0 : Nat) (th : tH) : Wx L (fun x => (some (.int x.1), x.2)) (d + 1) 221 2 0 [(0, .ref a0)] [] th (m_221 a0 th) := by
  unfold m_221
  refine x_gC ?_
  refine x_P 1 rfl rfl rfl ?_
  refine x_gI rfl (fun x1 hx1 => ?_)
  refine x_P (lv' := [(1, .int x1), (0, .ref a0)]) 5 rfl rfl rfl ?_
  refine x_P 6 rfl rfl rfl ?_
  refine x_P 7 rfl rfl rfl ?_
  refine x_pI rfl (fun th2 hth2 => ?_)
  refine x_P 11 rfl rfl rfl ?_
  exact x_retI (x := (x1, th2)) rfl
-- 222 NineTreesModel.isLetter(I)Z
noncomputable def m_222 (a0 : Int32) (th : tH) : Option (Int32) :=
  jn (fun (v1 : Int32) =>
      rB v1
    ) (fun j2 =>
      jn (fun (v3 : Unit) =>
          j2 (Int32.ofInt 0)
        ) (fun j4 =>
          if a0 < (Int8.ofInt 97).toInt32 then
            j4 ()
          else
            if (Int8.ofInt 122).toInt32 < a0 then
              j4 ()
            else
              j2 (Int32.ofInt 1)
        )
    )
theorem S_222 {L : Nat} (d : Nat) (a0 : Int32) (th : tH) : Wx L (fun x => (some (.int x), th)) d 222 1 0 [(0, .int a0)] [] th (m_222 a0 th) := by
  unfold m_222
  refine x_P 1 rfl rfl rfl ?_
  refine x_P 3 rfl rfl rfl ?_
  refine x_jn 17 (fun v1 => []) (fun v1 => [.int v1]) (fun v1 => th) (fun v1 => ?_) (fun j2 hj2 => ?_)
  · exact x_rB rfl
  · refine x_jn 16 (fun v3 => []) (fun v3 => []) (fun v3 => th) (fun v3 => ?_) (fun j4 hj4 => ?_)
    · refine x_P 17 rfl rfl rfl ?_
      exact x_lv (hj2 (Int32.ofInt 0)) trivial
    · refine x_ic_lt rfl rfl (fun h6 => ?_) (fun h6 => ?_)
      · exact x_lv (hj4 ()) trivial
      · refine x_P 7 rfl rfl rfl ?_
        refine x_P 9 rfl rfl rfl ?_
        refine x_ic_gt rfl rfl (fun h5 => ?_) (fun h5 => ?_)
        · exact x_lv (hj4 ()) trivial
        · refine x_P 13 rfl rfl rfl ?_
          refine x_P 17 rfl rfl rfl ?_
          exact x_lv (hj2 (Int32.ofInt 1)) trivial
-- 223 NineTreesModel.isDigit(I)Z
noncomputable def m_223 (a0 : Int32) (th : tH) : Option (Int32) :=
  jn (fun (v1 : Int32) =>
      rB v1
    ) (fun j2 =>
      jn (fun (v3 : Unit) =>
          j2 (Int32.ofInt 0)
        ) (fun j4 =>
          if a0 < (Int8.ofInt 48).toInt32 then
            j4 ()
          else
            if (Int8.ofInt 57).toInt32 < a0 then
              j4 ()
            else
              j2 (Int32.ofInt 1)
        )
    )
theorem S_223 {L : Nat} (d : Nat) (a0 : Int32) (th : tH) : Wx L (fun x => (some (.int x), th)) d 223 1 0 [(0, .int a0)] [] th (m_223 a0 th) := by
  unfold m_223
  refine x_P 1 rfl rfl rfl ?_
  refine x_P 3 rfl rfl rfl ?_
  refine x_jn 17 (fun v1 => []) (fun v1 => [.int v1]) (fun v1 => th) (fun v1 => ?_) (fun j2 hj2 => ?_)
  · exact x_rB rfl
  · refine x_jn 16 (fun v3 => []) (fun v3 => []) (fun v3 => th) (fun v3 => ?_) (fun j4 hj4 => ?_)
    · refine x_P 17 rfl rfl rfl ?_
      exact x_lv (hj2 (Int32.ofInt 0)) trivial
    · refine x_ic_lt rfl rfl (fun h6 => ?_) (fun h6 => ?_)
      · exact x_lv (hj4 ()) trivial
      · refine x_P 7 rfl rfl rfl ?_
        refine x_P 9 rfl rfl rfl ?_
        refine x_ic_gt rfl rfl (fun h5 => ?_) (fun h5 => ?_)
        · exact x_lv (hj4 ()) trivial
        · refine x_P 13 rfl rfl rfl ?_
          refine x_P 17 rfl rfl rfl ?_
          exact x_lv (hj2 (Int32.ofInt 1)) trivial
