/-! ===== programs ===== -/
-- 275 NineTreesModel.overlooks()J
noncomputable def m_275 (a0 : Nat) (th : tH) : Option (Int64) :=
  (gC th 8 a0).bind fun _ =>
  lp (fun (s1 : Int64 × Int32) nx2 ex3 =>
      (m_192 a0 th).bind fun x5 =>
      if x5 ≤ s1.2 then
        ex3 s1.1
      else
        (m_194 a0 s1.2 th).bind fun x6 =>
        jn (fun (v7 : Int64 × Int64) =>
            nx2 ((v7.2 ||| v7.1), (s1.2 + Int32.ofInt 1))
          ) (fun j8 =>
            jn (fun (v9 : Int64) =>
                j8 ((Int64.ofNat 0), v9)
              ) (fun j10 =>
                if x6 = (Int32.ofInt (-1)) then
                  (m_273 a0 s1.2 th).bind fun x11 =>
                  (gI th 8 a0 10).bind fun x12 =>
                  if x11 = (((Int32.ofInt 1) <<< (x12 &&& 31)) - (Int32.ofInt 1)) then
                    j8 (((Int64.ofNat 1) <<< ((Int32.toInt64 s1.2) &&& 63)), s1.1)
                  else
                    j10 s1.1
                else
                  j10 s1.1
              )
          )
    ) 4096 ((Int64.ofNat 0), (Int32.ofInt 0)) (fun (x4 : Int64) =>
      some x4
    )
theorem c_275 {a0 : Nat} {th : tH} {x : (Int64)} (h : m_275 a0 th = some x) : ∃ fs, th[a0]? = some (.inr (8, fs)) := gC_of h
theorem S_275 {L : Nat} (d : Nat) (a0 : Nat) (th : tH) : Wx L (fun x => (some (.long x), th)) (d + 4) 275 4 0 [(0, .ref a0)] [] th (m_275 a0 th) := by
  unfold m_275
  refine x_gC ?_
  refine x_P 1 rfl rfl rfl ?_
  refine x_P (lv' := [(1, .long (Int64.ofNat 0)), (0, .ref a0)]) 2 rfl rfl rfl ?_
  refine x_P 3 rfl rfl rfl ?_
  refine x_P (lv' := [(3, .int (Int32.ofInt 0)), (1, .long (Int64.ofNat 0)), (0, .ref a0)]) 4 rfl rfl rfl ?_
  refine x_lv (lv := [(0, .ref a0), (1, .long (Int64.ofNat 0)), (3, .int (Int32.ofInt 0))]) (x_lp 53 (fun s1 => [(0, .ref a0), (1, .long s1.1), (3, .int s1.2)]) (fun s1 => th) (fun x4 => [(1, .long x4)]) (fun x4 => th) (fun s1 nx2 hnx2 ex3 hex3 => ?_) (fun x4 => ?_) 4096 ((Int64.ofNat 0), (Int32.ofInt 0))) ⟨rfl, rfl, rfl, trivial⟩
  · refine x_P 5 rfl rfl rfl ?_
    refine x_P 6 rfl rfl rfl ?_
    refine x_callV rfl rfl rfl rfl rfl ⟨rfl, rfl⟩ (fun x h => c_192 h) (S_192 (d + 3) a0 th) (fun x5 hx5 => ?_)
    refine x_ic_ge rfl rfl (fun h15 => ?_) (fun h15 => ?_)
    · exact x_lv (hex3 s1.1) ⟨rfl, trivial⟩
    · refine x_P 13 rfl rfl rfl ?_
      refine x_P 14 rfl rfl rfl ?_
      refine x_P 15 rfl rfl rfl ?_
      refine x_callV rfl rfl rfl rfl rfl ⟨rfl, rfl⟩ (fun x h => c_194 h) (S_194 (d + 3) a0 s1.2 th) (fun x6 hx6 => ?_)
      refine x_P 19 rfl rfl rfl ?_
      refine x_jn 45 (fun v7 => [(0, .ref a0), (3, .int s1.2)]) (fun v7 => [.long v7.1, .long v7.2]) (fun v7 => th) (fun v7 => ?_) (fun j8 hj8 => ?_)
      · refine x_P 46 rfl rfl rfl ?_
        refine x_P (lv' := [(1, .long (v7.2 ||| v7.1)), (0, .ref a0), (3, .int s1.2)]) 47 rfl rfl rfl ?_
        refine x_P (lv' := [(3, .int (s1.2 + Int32.ofInt 1)), (1, .long (v7.2 ||| v7.1)), (0, .ref a0)]) 50 rfl rfl rfl ?_
        refine x_P 4 rfl rfl rfl ?_
        exact x_lv (hnx2 ((v7.2 ||| v7.1), (s1.2 + Int32.ofInt 1))) ⟨rfl, rfl, rfl, trivial⟩
      · refine x_jn 44 (fun v9 => [(0, .ref a0), (3, .int s1.2)]) (fun v9 => [.long v9]) (fun v9 => th) (fun v9 => ?_) (fun j10 hj10 => ?_)
        · refine x_P 45 rfl rfl rfl ?_
          exact x_lv (hj8 ((Int64.ofNat 0), v9)) ⟨rfl, rfl, trivial⟩
        · refine x_ic_ne rfl rfl (fun h14 => ?_) (fun h14 => ?_)
          · refine x_P 23 rfl rfl rfl ?_
            refine x_P 24 rfl rfl rfl ?_
            refine x_callV rfl rfl rfl rfl rfl ⟨rfl, rfl⟩ (fun x h => c_273 h) (S_273 d a0 s1.2 th) (fun x11 hx11 => ?_)
            refine x_P 28 rfl rfl rfl ?_
            refine x_P 29 rfl rfl rfl ?_
            refine x_gI rfl (fun x12 hx12 => ?_)
            refine x_P 33 rfl rfl rfl ?_
            refine x_P 34 rfl rfl rfl ?_
            refine x_P 35 rfl rfl rfl ?_
            refine x_ic_ne rfl rfl (fun h13 => ?_) (fun h13 => ?_)
            · refine x_P 39 rfl rfl rfl ?_
              refine x_P 40 rfl rfl rfl ?_
              refine x_P 41 rfl rfl rfl ?_
              refine x_P 45 rfl rfl rfl ?_
              exact x_lv (hj8 (((Int64.ofNat 1) <<< ((Int32.toInt64 s1.2) &&& 63)), s1.1)) ⟨rfl, rfl, trivial⟩
            · exact x_lv (hj10 s1.1) ⟨rfl, rfl, trivial⟩
          · exact x_lv (hj10 s1.1) ⟨rfl, rfl, trivial⟩
  · refine x_P 54 rfl rfl rfl ?_
    exact x_retJ (x := x4) rfl
-- 276 NineTreesModel.behind(II)I
noncomputable def m_276 (a0 : Nat) (a1 : Int32) (a2 : Int32) (th : tH) : Option (Int32 × tH) :=
  (gC th 8 a0).bind fun _ =>
  (m_191 a0 a1 th).bind fun x1 =>
  jn (fun (v2 : Int32 × tH) =>
      some (v2.1, v2.2)
    ) (fun j3 =>
      jn (fun (v4 : Unit) =>
          (m_189 a0 (Int8.ofInt (-2)).toInt32 th).bind fun q6 =>
          j3 (q6.1, q6.2)
        ) (fun j5 =>
          if x1 = 0 then
            j5 ()
          else
            (m_193 a0 a2 th).bind fun x7 =>
            if x7 = 0 then
              j5 ()
            else
              (gN th 8 a0 12).bind fun o8 =>
              (aI th o8 a1).bind fun x9 =>
              if x9 = a2 then
                j5 ()
              else
                (m_272 a0 a1 a2 th).bind fun x10 =>
                j3 (x10, th)
        )
    )
theorem c_276 {a0 : Nat} {a1 : Int32} {a2 : Int32} {th : tH} {x : (Int32 × tH)} (h : m_276 a0 a1 a2 th = some x) : ∃ fs, th[a0]? = some (.inr (8, fs)) := gC_of h
theorem S_276 {L : Nat} (d : Nat) (a0 : Nat) (a1 : Int32) (a2 : Int32) (th : tH) : Wx L (fun x => (some (.int x.1), x.2)) (d + 3) 276 3 0 [(0, .ref a0), (1, .int a1), (2, .int a2)] [] th (m_276 a0 a1 a2 th) := by
  unfold m_276
  refine x_gC ?_
  refine x_P 1 rfl rfl rfl ?_
  refine x_P 2 rfl rfl rfl ?_
  refine x_callV rfl rfl rfl rfl rfl ⟨rfl, rfl⟩ (fun x h => c_191 h) (S_191 (d + 1) a0 a1 th) (fun x1 hx1 => ?_)
  refine x_jn 41 (fun v2 => []) (fun v2 => [.int v2.1]) (fun v2 => v2.2) (fun v2 => ?_) (fun j3 hj3 => ?_)
  · exact x_retI (x := (v2.1, v2.2)) rfl
  · refine x_jn 35 (fun v4 => [(0, .ref a0)]) (fun v4 => []) (fun v4 => th) (fun v4 => ?_) (fun j5 hj5 => ?_)
    · refine x_P 36 rfl rfl rfl ?_
      refine x_P 38 rfl rfl rfl ?_
      refine x_callV rfl rfl rfl rfl rfl ⟨rfl, rfl⟩ (fun x h => c_189 h) (S_189 (d + 1) a0 (Int8.ofInt (-2)).toInt32 th) (fun q6 hq6 => ?_)
      exact x_lv (hj3 (q6.1, q6.2)) trivial
    · refine x_if_eq rfl rfl (fun h13 => ?_) (fun h13 => ?_)
      · exact x_lv (hj5 ()) ⟨rfl, trivial⟩
      · refine x_P 9 rfl rfl rfl ?_
        refine x_P 10 rfl rfl rfl ?_
        refine x_callV rfl rfl rfl rfl rfl ⟨rfl, rfl⟩ (fun x h => c_193 h) (S_193 (d + 1) a0 a2 th) (fun x7 hx7 => ?_)
        refine x_if_eq rfl rfl (fun h12 => ?_) (fun h12 => ?_)
        · exact x_lv (hj5 ()) ⟨rfl, trivial⟩
        · refine x_P 17 rfl rfl rfl ?_
          refine x_gN rfl (fun o8 ho8 => ?_)
          refine x_P 21 rfl rfl rfl ?_
          refine x_aI rfl ⟨rfl, rfl⟩ (fun x9 hx9 => ?_)
          refine x_P 23 rfl rfl rfl ?_
          refine x_ic_eq rfl rfl (fun h11 => ?_) (fun h11 => ?_)
          · exact x_lv (hj5 ()) ⟨rfl, trivial⟩
          · refine x_P 27 rfl rfl rfl ?_
            refine x_P 28 rfl rfl rfl ?_
            refine x_P 29 rfl rfl rfl ?_
            refine x_callV rfl rfl rfl rfl rfl ⟨rfl, rfl⟩ (fun x h => c_272 h) (S_272 d a0 a1 a2 th) (fun x10 hx10 => ?_)
            refine x_P 41 rfl rfl rfl ?_
            exact x_lv (hj3 (x10, th)) trivial
-- 277 NineTreesModel.pathOf(II)I
noncomputable def m_277 (a0 : Nat) (a1 : Int32) (a2 : Int32) (th : tH) : Option (Int32) :=
  (gC th 8 a0).bind fun _ =>
  (gI th 8 a0 9).bind fun x1 =>
  (dvI a2 x1).bind fun x2 =>
  (gI th 8 a0 9).bind fun x3 =>
  (rmI a2 x3).bind fun x4 =>
  jn (fun (v5 : Int32) =>
      some v5
    ) (fun j6 =>
      if a1 = 0 then
        j6 x2
      else
        if a1 = (Int32.ofInt 1) then
          j6 x4
        else
          if a1 = (Int32.ofInt 2) then
            (gI th 8 a0 9).bind fun x7 =>
            j6 (((x2 - x4) + x7) - (Int32.ofInt 1))
          else
            j6 (x2 + x4)
    )
theorem c_277 {a0 : Nat} {a1 : Int32} {a2 : Int32} {th : tH} {x : (Int32)} (h : m_277 a0 a1 a2 th = some x) : ∃ fs, th[a0]? = some (.inr (8, fs)) := gC_of h
theorem S_277 {L : Nat} (d : Nat) (a0 : Nat) (a1 : Int32) (a2 : Int32) (th : tH) : Wx L (fun x => (some (.int x), th)) d 277 5 0 [(0, .ref a0), (1, .int a1), (2, .int a2)] [] th (m_277 a0 a1 a2 th) := by
  unfold m_277
  refine x_gC ?_
  refine x_P 1 rfl rfl rfl ?_
  refine x_P 2 rfl rfl rfl ?_
  refine x_gI rfl (fun x1 hx1 => ?_)
  refine x_dv rfl rfl (fun x2 hx2 => ?_)
  refine x_P (lv' := [(3, .int x2), (0, .ref a0), (1, .int a1), (2, .int a2)]) 7 rfl rfl rfl ?_
  refine x_P 8 rfl rfl rfl ?_
  refine x_P 9 rfl rfl rfl ?_
  refine x_gI rfl (fun x3 hx3 => ?_)
  refine x_rm rfl rfl (fun x4 hx4 => ?_)
  refine x_P (lv' := [(4, .int x4), (3, .int x2), (0, .ref a0), (1, .int a1), (2, .int a2)]) 15 rfl rfl rfl ?_
  refine x_P 16 rfl rfl rfl ?_
  refine x_jn 56 (fun v5 => []) (fun v5 => [.int v5]) (fun v5 => th) (fun v5 => ?_) (fun j6 hj6 => ?_)
  · exact x_retI (x := v5) rfl
  · refine x_if_ne rfl rfl (fun h10 => ?_) (fun h10 => ?_)
    · refine x_P 20 rfl rfl rfl ?_
      refine x_P 56 rfl rfl rfl ?_
      exact x_lv (hj6 x2) trivial
    · refine x_P 24 rfl rfl rfl ?_
      refine x_P 25 rfl rfl rfl ?_
      refine x_ic_ne rfl rfl (fun h9 => ?_) (fun h9 => ?_)
      · refine x_P 30 rfl rfl rfl ?_
        refine x_P 56 rfl rfl rfl ?_
        exact x_lv (hj6 x4) trivial
      · refine x_P 34 rfl rfl rfl ?_
        refine x_P 35 rfl rfl rfl ?_
        refine x_ic_ne rfl rfl (fun h8 => ?_) (fun h8 => ?_)
        · refine x_P 39 rfl rfl rfl ?_
          refine x_P 41 rfl rfl rfl ?_
          refine x_P 42 rfl rfl rfl ?_
          refine x_P 43 rfl rfl rfl ?_
          refine x_gI rfl (fun x7 hx7 => ?_)
          refine x_P 47 rfl rfl rfl ?_
          refine x_P 48 rfl rfl rfl ?_
          refine x_P 49 rfl rfl rfl ?_
          refine x_P 56 rfl rfl rfl ?_
          exact x_lv (hj6 (((x2 - x4) + x7) - (Int32.ofInt 1))) trivial
        · refine x_P 53 rfl rfl rfl ?_
          refine x_P 55 rfl rfl rfl ?_
          refine x_P 56 rfl rfl rfl ?_
          exact x_lv (hj6 (x2 + x4)) trivial
-- 278 NineTreesModel.paths(I)I
noncomputable def m_278 (a0 : Nat) (a1 : Int32) (th : tH) : Option (Int32 × tH) :=
  (gC th 8 a0).bind fun _ =>
  (m_190 (Int32.toInt64 a1) (Int64.ofNat 0) (Int64.ofNat 3) th).bind fun x1 =>
  if x1 = 0 then
    (m_189 a0 (Int8.ofInt (-2)).toInt32 th).bind fun q27 =>
    some (q27.1, q27.2)
  else
    jn (fun (v2 : Int32) =>
        lp (fun (s4 : Int32 × Int32) nx5 ex6 =>
            if v2 ≤ s4.2 then
              ex6 s4.1
            else
              lp (fun (s8 : Int32 × Int32) nx9 ex10 =>
                  (gI th 8 a0 10).bind fun x15 =>
                  if x15 ≤ s8.2 then
                    ex10 s8.1
                  else
                    (gN th 8 a0 12).bind fun o16 =>
                    (aI th o16 s8.2).bind fun x17 =>
                    (m_277 a0 a1 x17 th).bind fun x18 =>
                    jn (fun (v19 : Int32 × Int32) =>
                        nx9 ((v19.2 &&& v19.1), (s8.2 + Int32.ofInt 1))
                      ) (fun j20 =>
                        if x18 = s4.2 then
                          j20 ((Int32.ofInt 0), s8.1)
                        else
                          j20 ((Int32.ofInt 1), s8.1)
                      )
                ) 4096 ((Int32.ofInt 1), (Int32.ofInt 0)) (fun (x11 : Int32) =>
                  jn (fun (v12 : Int32 × Int32) =>
                      nx5 ((v12.2 + v12.1), (s4.2 + Int32.ofInt 1))
                    ) (fun j13 =>
                      if x11 = 0 then
                        j13 ((Int32.ofInt 0), s4.1)
                      else
                        j13 ((Int32.ofInt 1), s4.1)
                    )
                )
          ) 4096 ((Int32.ofInt 0), (Int32.ofInt 0)) (fun (x7 : Int32) =>
            some (x7, th)
          )
      ) (fun j3 =>
        if (Int32.ofInt 2) ≤ a1 then
          (gI th 8 a0 9).bind fun x24 =>
          j3 (((Int32.ofInt 2) * x24) - (Int32.ofInt 1))
        else
          (gI th 8 a0 9).bind fun x25 =>
          j3 x25
      )
theorem c_278 {a0 : Nat} {a1 : Int32} {th : tH} {x : (Int32 × tH)} (h : m_278 a0 a1 th = some x) : ∃ fs, th[a0]? = some (.inr (8, fs)) := gC_of h
theorem S_278 {L : Nat} (d : Nat) (a0 : Nat) (a1 : Int32) (th : tH) : Wx L (fun x => (some (.int x.1), x.2)) (d + 2) 278 7 0 [(0, .ref a0), (1, .int a1)] [] th (m_278 a0 a1 th) := by
  unfold m_278
  refine x_gC ?_
  refine x_P 1 rfl rfl rfl ?_
  refine x_P 2 rfl rfl rfl ?_
  refine x_P 3 rfl rfl rfl ?_
  refine x_P 6 rfl rfl rfl ?_
  refine x_callS rfl rfl rfl rfl rfl rfl ⟨rfl, rfl⟩ (S_190 (d + 1) (Int32.toInt64 a1) (Int64.ofNat 0) (Int64.ofNat 3) th) (fun x1 hx1 => ?_)
  refine x_if_ne rfl rfl (fun h28 => ?_) (fun h28 => ?_)
  · refine x_P 13 rfl rfl rfl ?_
    refine x_P 15 rfl rfl rfl ?_
    refine x_callV rfl rfl rfl rfl rfl ⟨rfl, rfl⟩ (fun x h => c_189 h) (S_189 d a0 (Int8.ofInt (-2)).toInt32 th) (fun q27 hq27 => ?_)
    exact x_retI (x := (q27.1, q27.2)) rfl
  · refine x_P 20 rfl rfl rfl ?_
    refine x_P 21 rfl rfl rfl ?_
    refine x_jn 39 (fun v2 => [(0, .ref a0), (1, .int a1)]) (fun v2 => [.int v2]) (fun v2 => th) (fun v2 => ?_) (fun j3 hj3 => ?_)
    · refine x_P (lv' := [(2, .int v2), (0, .ref a0), (1, .int a1)]) 40 rfl rfl rfl ?_
      refine x_P 41 rfl rfl rfl ?_
      refine x_P (lv' := [(3, .int (Int32.ofInt 0)), (2, .int v2), (0, .ref a0), (1, .int a1)]) 42 rfl rfl rfl ?_
      refine x_P 43 rfl rfl rfl ?_
      refine x_P (lv' := [(4, .int (Int32.ofInt 0)), (3, .int (Int32.ofInt 0)), (2, .int v2), (0, .ref a0), (1, .int a1)]) 45 rfl rfl rfl ?_
      refine x_lv (lv := [(0, .ref a0), (1, .int a1), (2, .int v2), (3, .int (Int32.ofInt 0)), (4, .int (Int32.ofInt 0))]) (x_lp 118 (fun s4 => [(0, .ref a0), (1, .int a1), (2, .int v2), (3, .int s4.1), (4, .int s4.2)]) (fun s4 => th) (fun x7 => [(3, .int x7)]) (fun x7 => th) (fun s4 nx5 hnx5 ex6 hex6 => ?_) (fun x7 => ?_) 4096 ((Int32.ofInt 0), (Int32.ofInt 0))) ⟨rfl, rfl, rfl, rfl, rfl, trivial⟩
      · refine x_P 47 rfl rfl rfl ?_
        refine x_P 48 rfl rfl rfl ?_
        refine x_ic_ge rfl rfl (fun h23 => ?_) (fun h23 => ?_)
        · exact x_lv (hex6 s4.1) ⟨rfl, trivial⟩
        · refine x_P 52 rfl rfl rfl ?_
          refine x_P (lv' := [(5, .int (Int32.ofInt 1)), (0, .ref a0), (1, .int a1), (2, .int v2), (3, .int s4.1), (4, .int s4.2)]) 54 rfl rfl rfl ?_
          refine x_P 55 rfl rfl rfl ?_
          refine x_P (lv' := [(6, .int (Int32.ofInt 0)), (5, .int (Int32.ofInt 1)), (0, .ref a0), (1, .int a1), (2, .int v2), (3, .int s4.1), (4, .int s4.2)]) 57 rfl rfl rfl ?_
          refine x_lv (lv := [(0, .ref a0), (1, .int a1), (2, .int v2), (3, .int s4.1), (4, .int s4.2), (5, .int (Int32.ofInt 1)), (6, .int (Int32.ofInt 0))]) (x_lp 99 (fun s8 => [(0, .ref a0), (1, .int a1), (2, .int v2), (3, .int s4.1), (4, .int s4.2), (5, .int s8.1), (6, .int s8.2)]) (fun s8 => th) (fun x11 => [(0, .ref a0), (1, .int a1), (2, .int v2), (3, .int s4.1), (4, .int s4.2), (5, .int x11)]) (fun x11 => th) (fun s8 nx9 hnx9 ex10 hex10 => ?_) (fun x11 => ?_) 4096 ((Int32.ofInt 1), (Int32.ofInt 0))) ⟨rfl, rfl, rfl, rfl, rfl, rfl, rfl, trivial⟩
          · refine x_P 59 rfl rfl rfl ?_
            refine x_P 60 rfl rfl rfl ?_
            refine x_gI rfl (fun x15 hx15 => ?_)
            refine x_ic_ge rfl rfl (fun h22 => ?_) (fun h22 => ?_)
            · exact x_lv (hex10 s8.1) ⟨rfl, rfl, rfl, rfl, rfl, rfl, trivial⟩
            · refine x_P 68 rfl rfl rfl ?_
              refine x_P 69 rfl rfl rfl ?_
              refine x_P 70 rfl rfl rfl ?_
              refine x_P 71 rfl rfl rfl ?_
              refine x_gN rfl (fun o16 ho16 => ?_)
              refine x_P 76 rfl rfl rfl ?_
              refine x_aI rfl ⟨rfl, rfl⟩ (fun x17 hx17 => ?_)
              refine x_callV rfl rfl rfl rfl rfl ⟨rfl, rfl⟩ (fun x h => c_277 h) (S_277 (d + 1) a0 a1 x17 th) (fun x18 hx18 => ?_)
              refine x_P 82 rfl rfl rfl ?_
              refine x_jn 90 (fun v19 => [(0, .ref a0), (1, .int a1), (2, .int v2), (3, .int s4.1), (4, .int s4.2), (6, .int s8.2)]) (fun v19 => [.int v19.1, .int v19.2]) (fun v19 => th) (fun v19 => ?_) (fun j20 hj20 => ?_)
              · refine x_P 91 rfl rfl rfl ?_
                refine x_P (lv' := [(5, .int (v19.2 &&& v19.1)), (0, .ref a0), (1, .int a1), (2, .int v2), (3, .int s4.1), (4, .int s4.2), (6, .int s8.2)]) 93 rfl rfl rfl ?_
                refine x_P (lv' := [(6, .int (s8.2 + Int32.ofInt 1)), (5, .int (v19.2 &&& v19.1)), (0, .ref a0), (1, .int a1), (2, .int v2), (3, .int s4.1), (4, .int s4.2)]) 96 rfl rfl rfl ?_
                refine x_P 57 rfl rfl rfl ?_
                exact x_lv (hnx9 ((v19.2 &&& v19.1), (s8.2 + Int32.ofInt 1))) ⟨rfl, rfl, rfl, rfl, rfl, rfl, rfl, trivial⟩
              · refine x_ic_eq rfl rfl (fun h21 => ?_) (fun h21 => ?_)
                · refine x_P 90 rfl rfl rfl ?_
                  exact x_lv (hj20 ((Int32.ofInt 0), s8.1)) ⟨rfl, rfl, rfl, rfl, rfl, rfl, trivial⟩
                · refine x_P 86 rfl rfl rfl ?_
                  refine x_P 90 rfl rfl rfl ?_
                  exact x_lv (hj20 ((Int32.ofInt 1), s8.1)) ⟨rfl, rfl, rfl, rfl, rfl, rfl, trivial⟩
          · refine x_P 100 rfl rfl rfl ?_
            refine x_P 102 rfl rfl rfl ?_
            refine x_jn 110 (fun v12 => [(0, .ref a0), (1, .int a1), (2, .int v2), (4, .int s4.2)]) (fun v12 => [.int v12.1, .int v12.2]) (fun v12 => th) (fun v12 => ?_) (fun j13 hj13 => ?_)
            · refine x_P 111 rfl rfl rfl ?_
              refine x_P (lv' := [(3, .int (v12.2 + v12.1)), (0, .ref a0), (1, .int a1), (2, .int v2), (4, .int s4.2)]) 112 rfl rfl rfl ?_
              refine x_P (lv' := [(4, .int (s4.2 + Int32.ofInt 1)), (3, .int (v12.2 + v12.1)), (0, .ref a0), (1, .int a1), (2, .int v2)]) 115 rfl rfl rfl ?_
              refine x_P 45 rfl rfl rfl ?_
              exact x_lv (hnx5 ((v12.2 + v12.1), (s4.2 + Int32.ofInt 1))) ⟨rfl, rfl, rfl, rfl, rfl, trivial⟩
            · refine x_if_eq rfl rfl (fun h14 => ?_) (fun h14 => ?_)
              · refine x_P 110 rfl rfl rfl ?_
                exact x_lv (hj13 ((Int32.ofInt 0), s4.1)) ⟨rfl, rfl, rfl, rfl, trivial⟩
              · refine x_P 106 rfl rfl rfl ?_
                refine x_P 110 rfl rfl rfl ?_
                exact x_lv (hj13 ((Int32.ofInt 1), s4.1)) ⟨rfl, rfl, rfl, rfl, trivial⟩
      · refine x_P 119 rfl rfl rfl ?_
        exact x_retI (x := (x7, th)) rfl
    · refine x_ic_ge rfl rfl (fun h26 => ?_) (fun h26 => ?_)
      · refine x_P 32 rfl rfl rfl ?_
        refine x_P 33 rfl rfl rfl ?_
        refine x_gI rfl (fun x24 hx24 => ?_)
        refine x_P 37 rfl rfl rfl ?_
        refine x_P 38 rfl rfl rfl ?_
        refine x_P 39 rfl rfl rfl ?_
        exact x_lv (hj3 (((Int32.ofInt 2) * x24) - (Int32.ofInt 1))) ⟨rfl, rfl, trivial⟩
      · refine x_P 25 rfl rfl rfl ?_
        refine x_gI rfl (fun x25 hx25 => ?_)
        refine x_P 39 rfl rfl rfl ?_
        exact x_lv (hj3 x25) ⟨rfl, rfl, trivial⟩
-- 279 NineTreesModel.wishOf(I)I
noncomputable def m_279 (a0 : Nat) (a1 : Int32) (th : tH) : Option (Int32 × tH) :=
  (gC th 8 a0).bind fun _ =>
  (gI th 8 a0 14).bind fun x1 =>
  (m_190 (Int32.toInt64 a1) (Int64.ofNat 0) (Int32.toInt64 (x1 - (Int32.ofInt 1))) th).bind fun x2 =>
  jn (fun (v3 : Int32 × tH) =>
      some (v3.1, v3.2)
    ) (fun j4 =>
      if x2 = 0 then
        (m_189 a0 (Int8.ofInt (-2)).toInt32 th).bind fun q5 =>
        j4 (q5.1, q5.2)
      else
        (gN th 8 a0 15).bind fun o6 =>
        (aI th o6 a1).bind fun x7 =>
        j4 (x7, th)
    )
theorem c_279 {a0 : Nat} {a1 : Int32} {th : tH} {x : (Int32 × tH)} (h : m_279 a0 a1 th = some x) : ∃ fs, th[a0]? = some (.inr (8, fs)) := gC_of h
theorem S_279 {L : Nat} (d : Nat) (a0 : Nat) (a1 : Int32) (th : tH) : Wx L (fun x => (some (.int x.1), x.2)) (d + 2) 279 2 0 [(0, .ref a0), (1, .int a1)] [] th (m_279 a0 a1 th) := by
  unfold m_279
  refine x_gC ?_
  refine x_P 1 rfl rfl rfl ?_
  refine x_P 2 rfl rfl rfl ?_
  refine x_P 3 rfl rfl rfl ?_
  refine x_P 4 rfl rfl rfl ?_
  refine x_gI rfl (fun x1 hx1 => ?_)
  refine x_P 8 rfl rfl rfl ?_
  refine x_P 9 rfl rfl rfl ?_
  refine x_P 10 rfl rfl rfl ?_
  refine x_callS rfl rfl rfl rfl rfl rfl ⟨rfl, rfl⟩ (S_190 (d + 1) (Int32.toInt64 a1) (Int64.ofNat 0) (Int32.toInt64 (x1 - (Int32.ofInt 1))) th) (fun x2 hx2 => ?_)
  refine x_jn 31 (fun v3 => []) (fun v3 => [.int v3.1]) (fun v3 => v3.2) (fun v3 => ?_) (fun j4 hj4 => ?_)
  · exact x_retI (x := (v3.1, v3.2)) rfl
  · refine x_if_eq rfl rfl (fun h8 => ?_) (fun h8 => ?_)
    · refine x_P 26 rfl rfl rfl ?_
      refine x_P 28 rfl rfl rfl ?_
      refine x_callV rfl rfl rfl rfl rfl ⟨rfl, rfl⟩ (fun x h => c_189 h) (S_189 d a0 (Int8.ofInt (-2)).toInt32 th) (fun q5 hq5 => ?_)
      exact x_lv (hj4 (q5.1, q5.2)) trivial
    · refine x_P 17 rfl rfl rfl ?_
      refine x_gN rfl (fun o6 ho6 => ?_)
      refine x_P 21 rfl rfl rfl ?_
      refine x_aI rfl ⟨rfl, rfl⟩ (fun x7 hx7 => ?_)
      refine x_P 31 rfl rfl rfl ?_
      exact x_lv (hj4 (x7, th)) trivial
-- 280 NineTreesModel.met(I)I
noncomputable def m_280 (a0 : Nat) (a1 : Int32) (th : tH) : Option (Int32 × tH) :=
  (gC th 8 a0).bind fun _ =>
  (gI th 8 a0 14).bind fun x1 =>
  (m_190 (Int32.toInt64 a1) (Int64.ofNat 18446744073709551615) (Int32.toInt64 (x1 - (Int32.ofInt 1))) th).bind fun x2 =>
  if x2 = 0 then
    (m_189 a0 (Int8.ofInt (-2)).toInt32 th).bind fun q11 =>
    some (q11.1, q11.2)
  else
    jn (fun (v3 : Int32 × tH) =>
        some (v3.1, v3.2)
      ) (fun j4 =>
        if a1 = (Int32.ofInt (-1)) then
          (m_261 a0 th).bind fun q9 =>
          j4 (q9.1, q9.2)
        else
          (gN th 8 a0 15).bind fun o5 =>
          (aI th o5 a1).bind fun x6 =>
          (m_252 a0 x6 th).bind fun q7 =>
          if q7.1 = 0 then
            j4 ((Int32.ofInt 0), q7.2)
          else
            j4 ((Int32.ofInt 1), q7.2)
      )
theorem c_280 {a0 : Nat} {a1 : Int32} {th : tH} {x : (Int32 × tH)} (h : m_280 a0 a1 th = some x) : ∃ fs, th[a0]? = some (.inr (8, fs)) := gC_of h
theorem S_280 {L : Nat} (d : Nat) (a0 : Nat) (a1 : Int32) (th : tH) : Wx L (fun x => (some (.int x.1), x.2)) (d + 6) 280 2 0 [(0, .ref a0), (1, .int a1)] [] th (m_280 a0 a1 th) := by
  unfold m_280
  refine x_gC ?_
  refine x_P 1 rfl rfl rfl ?_
  refine x_P 2 rfl rfl rfl ?_
  refine x_P 5 rfl rfl rfl ?_
  refine x_P 6 rfl rfl rfl ?_
  refine x_gI rfl (fun x1 hx1 => ?_)
  refine x_P 10 rfl rfl rfl ?_
  refine x_P 11 rfl rfl rfl ?_
  refine x_P 12 rfl rfl rfl ?_
  refine x_callS rfl rfl rfl rfl rfl rfl ⟨rfl, rfl⟩ (S_190 (d + 5) (Int32.toInt64 a1) (Int64.ofNat 18446744073709551615) (Int32.toInt64 (x1 - (Int32.ofInt 1))) th) (fun x2 hx2 => ?_)
  refine x_if_ne rfl rfl (fun h12 => ?_) (fun h12 => ?_)
  · refine x_P 19 rfl rfl rfl ?_
    refine x_P 21 rfl rfl rfl ?_
    refine x_callV rfl rfl rfl rfl rfl ⟨rfl, rfl⟩ (fun x h => c_189 h) (S_189 (d + 4) a0 (Int8.ofInt (-2)).toInt32 th) (fun q11 hq11 => ?_)
    exact x_retI (x := (q11.1, q11.2)) rfl
  · refine x_P 26 rfl rfl rfl ?_
    refine x_P 27 rfl rfl rfl ?_
    refine x_jn 55 (fun v3 => []) (fun v3 => [.int v3.1]) (fun v3 => v3.2) (fun v3 => ?_) (fun j4 hj4 => ?_)
    · exact x_retI (x := (v3.1, v3.2)) rfl
    · refine x_ic_ne rfl rfl (fun h10 => ?_) (fun h10 => ?_)
      · refine x_P 31 rfl rfl rfl ?_
        refine x_callV rfl rfl rfl rfl rfl ⟨rfl, rfl⟩ (fun x h => c_261 h) (S_261 d a0 th) (fun q9 hq9 => ?_)
        refine x_P 55 rfl rfl rfl ?_
        exact x_lv (hj4 (q9.1, q9.2)) trivial
      · refine x_P 38 rfl rfl rfl ?_
        refine x_P 39 rfl rfl rfl ?_
        refine x_gN rfl (fun o5 ho5 => ?_)
        refine x_P 43 rfl rfl rfl ?_
        refine x_aI rfl ⟨rfl, rfl⟩ (fun x6 hx6 => ?_)
        refine x_callV rfl rfl rfl rfl rfl ⟨rfl, rfl⟩ (fun x h => c_252 h) (S_252 (d + 1) a0 x6 th) (fun q7 hq7 => ?_)
        refine x_if_eq rfl rfl (fun h8 => ?_) (fun h8 => ?_)
        · refine x_P 55 rfl rfl rfl ?_
          exact x_lv (hj4 ((Int32.ofInt 0), q7.2)) trivial
        · refine x_P 51 rfl rfl rfl ?_
          refine x_P 55 rfl rfl rfl ?_
          exact x_lv (hj4 ((Int32.ofInt 1), q7.2)) trivial
-- 281 NineTreesModel.turned(I)I
noncomputable def m_281 (a0 : Nat) (a1 : Int32) (th : tH) : Option (Int32) :=
  (gC th 8 a0).bind fun _ =>
  (gI th 8 a0 9).bind fun x1 =>
  (rmI a1 x1).bind fun x2 =>
  (gI th 8 a0 9).bind fun x3 =>
  (gI th 8 a0 9).bind fun x4 =>
  (gI th 8 a0 9).bind fun x5 =>
  (dvI a1 x5).bind fun x6 =>
  some ((((x2 * x3) + x4) - (Int32.ofInt 1)) - x6)
theorem c_281 {a0 : Nat} {a1 : Int32} {th : tH} {x : (Int32)} (h : m_281 a0 a1 th = some x) : ∃ fs, th[a0]? = some (.inr (8, fs)) := gC_of h
theorem S_281 {L : Nat} (d : Nat) (a0 : Nat) (a1 : Int32) (th : tH) : Wx L (fun x => (some (.int x), th)) d 281 2 0 [(0, .ref a0), (1, .int a1)] [] th (m_281 a0 a1 th) := by
  unfold m_281
  refine x_gC ?_
  refine x_P 1 rfl rfl rfl ?_
  refine x_P 2 rfl rfl rfl ?_
  refine x_gI rfl (fun x1 hx1 => ?_)
  refine x_rm rfl rfl (fun x2 hx2 => ?_)
  refine x_P 7 rfl rfl rfl ?_
  refine x_gI rfl (fun x3 hx3 => ?_)
  refine x_P 11 rfl rfl rfl ?_
  refine x_P 12 rfl rfl rfl ?_
  refine x_gI rfl (fun x4 hx4 => ?_)
  refine x_P 16 rfl rfl rfl ?_
  refine x_P 17 rfl rfl rfl ?_
  refine x_P 18 rfl rfl rfl ?_
  refine x_P 19 rfl rfl rfl ?_
  refine x_P 20 rfl rfl rfl ?_
  refine x_gI rfl (fun x5 hx5 => ?_)
  refine x_dv rfl rfl (fun x6 hx6 => ?_)
  refine x_P 25 rfl rfl rfl ?_
  exact x_retI (x := ((((x2 * x3) + x4) - (Int32.ofInt 1)) - x6)) rfl
-- 282 NineTreesModel.mirrored(I)I
noncomputable def m_282 (a0 : Nat) (a1 : Int32) (th : tH) : Option (Int32) :=
  (gC th 8 a0).bind fun _ =>
  (gI th 8 a0 9).bind fun x1 =>
  (dvI a1 x1).bind fun x2 =>
  (gI th 8 a0 9).bind fun x3 =>
  (gI th 8 a0 9).bind fun x4 =>
  (gI th 8 a0 9).bind fun x5 =>
  (rmI a1 x5).bind fun x6 =>
  some ((((x2 * x3) + x4) - (Int32.ofInt 1)) - x6)
theorem c_282 {a0 : Nat} {a1 : Int32} {th : tH} {x : (Int32)} (h : m_282 a0 a1 th = some x) : ∃ fs, th[a0]? = some (.inr (8, fs)) := gC_of h
theorem S_282 {L : Nat} (d : Nat) (a0 : Nat) (a1 : Int32) (th : tH) : Wx L (fun x => (some (.int x), th)) d 282 2 0 [(0, .ref a0), (1, .int a1)] [] th (m_282 a0 a1 th) := by
  unfold m_282
  refine x_gC ?_
  refine x_P 1 rfl rfl rfl ?_
  refine x_P 2 rfl rfl rfl ?_
  refine x_gI rfl (fun x1 hx1 => ?_)
  refine x_dv rfl rfl (fun x2 hx2 => ?_)
  refine x_P 7 rfl rfl rfl ?_
  refine x_gI rfl (fun x3 hx3 => ?_)
  refine x_P 11 rfl rfl rfl ?_
  refine x_P 12 rfl rfl rfl ?_
  refine x_gI rfl (fun x4 hx4 => ?_)
  refine x_P 16 rfl rfl rfl ?_
  refine x_P 17 rfl rfl rfl ?_
  refine x_P 18 rfl rfl rfl ?_
  refine x_P 19 rfl rfl rfl ?_
  refine x_P 20 rfl rfl rfl ?_
  refine x_gI rfl (fun x5 hx5 => ?_)
  refine x_rm rfl rfl (fun x6 hx6 => ?_)
  refine x_P 25 rfl rfl rfl ?_
  exact x_retI (x := ((((x2 * x3) + x4) - (Int32.ofInt 1)) - x6)) rfl
-- 283 NineTreesModel.alike()I
noncomputable def m_283 (a0 : Nat) (th : tH) : Option (Int32) :=
  (gC th 8 a0).bind fun _ =>
  lp (fun (s1 : Int32 × Int32) nx2 ex3 =>
      if (Int8.ofInt 8).toInt32 ≤ s1.2 then
        ex3 s1.1
      else
        lp (fun (s5 : Int32 × Int32) nx6 ex7 =>
            (gI th 8 a0 10).bind fun x12 =>
            if x12 ≤ s5.2 then
              ex7 s5.1
            else
              jn (fun (v13 : Int32) =>
                  lp (fun (s15 : Int32 × Int32) nx16 ex17 =>
                      (rmI s1.2 (Int32.ofInt 4)).bind fun x23 =>
                      if x23 ≤ s15.2 then
                        ex17 s15.1
                      else
                        (m_281 a0 s15.1 th).bind fun x24 =>
                        nx16 (x24, (s15.2 + Int32.ofInt 1))
                    ) 4096 (v13, (Int32.ofInt 0)) (fun (x18 : Int32) =>
                      (m_194 a0 x18 th).bind fun x19 =>
                      jn (fun (v20 : Int32 × Int32) =>
                          nx6 ((v20.2 &&& v20.1), (s5.2 + Int32.ofInt 1))
                        ) (fun j21 =>
                          if x19 = (Int32.ofInt (-1)) then
                            j21 ((Int32.ofInt 0), s5.1)
                          else
                            j21 ((Int32.ofInt 1), s5.1)
                        )
                    )
                ) (fun j14 =>
                  if (Int32.ofInt 4) ≤ s1.2 then
                    (gN th 8 a0 12).bind fun o26 =>
                    (aI th o26 s5.2).bind fun x27 =>
                    (m_282 a0 x27 th).bind fun x28 =>
                    j14 x28
                  else
                    (gN th 8 a0 12).bind fun o29 =>
                    (aI th o29 s5.2).bind fun x30 =>
                    j14 x30
                )
          ) 4096 ((Int32.ofInt 1), (Int32.ofInt 0)) (fun (x8 : Int32) =>
            jn (fun (v9 : Int32 × Int32) =>
                nx2 ((v9.2 + v9.1), (s1.2 + Int32.ofInt 1))
              ) (fun j10 =>
                if x8 = 0 then
                  j10 ((Int32.ofInt 0), s1.1)
                else
                  j10 ((Int32.ofInt 1), s1.1)
              )
          )
    ) 4096 ((Int32.ofInt 0), (Int32.ofInt 0)) (fun (x4 : Int32) =>
      some x4
    )
theorem c_283 {a0 : Nat} {th : tH} {x : (Int32)} (h : m_283 a0 th = some x) : ∃ fs, th[a0]? = some (.inr (8, fs)) := gC_of h
theorem S_283 {L : Nat} (d : Nat) (a0 : Nat) (th : tH) : Wx L (fun x => (some (.int x), th)) (d + 1) 283 7 0 [(0, .ref a0)] [] th (m_283 a0 th) := by
  unfold m_283
  refine x_gC ?_
  refine x_P 1 rfl rfl rfl ?_
  refine x_P (lv' := [(1, .int (Int32.ofInt 0)), (0, .ref a0)]) 2 rfl rfl rfl ?_
  refine x_P 3 rfl rfl rfl ?_
  refine x_P (lv' := [(2, .int (Int32.ofInt 0)), (1, .int (Int32.ofInt 0)), (0, .ref a0)]) 4 rfl rfl rfl ?_
  refine x_lv (lv := [(0, .ref a0), (1, .int (Int32.ofInt 0)), (2, .int (Int32.ofInt 0))]) (x_lp 119 (fun s1 => [(0, .ref a0), (1, .int s1.1), (2, .int s1.2)]) (fun s1 => th) (fun x4 => [(1, .int x4)]) (fun x4 => th) (fun s1 nx2 hnx2 ex3 hex3 => ?_) (fun x4 => ?_) 4096 ((Int32.ofInt 0), (Int32.ofInt 0))) ⟨rfl, rfl, rfl, trivial⟩
  · refine x_P 5 rfl rfl rfl ?_
    refine x_P 7 rfl rfl rfl ?_
    refine x_ic_ge rfl rfl (fun h33 => ?_) (fun h33 => ?_)
    · exact x_lv (hex3 s1.1) ⟨rfl, trivial⟩
    · refine x_P 11 rfl rfl rfl ?_
      refine x_P (lv' := [(3, .int (Int32.ofInt 1)), (0, .ref a0), (1, .int s1.1), (2, .int s1.2)]) 12 rfl rfl rfl ?_
      refine x_P 13 rfl rfl rfl ?_
      refine x_P (lv' := [(4, .int (Int32.ofInt 0)), (3, .int (Int32.ofInt 1)), (0, .ref a0), (1, .int s1.1), (2, .int s1.2)]) 15 rfl rfl rfl ?_
      refine x_lv (lv := [(0, .ref a0), (1, .int s1.1), (2, .int s1.2), (3, .int (Int32.ofInt 1)), (4, .int (Int32.ofInt 0))]) (x_lp 101 (fun s5 => [(0, .ref a0), (1, .int s1.1), (2, .int s1.2), (3, .int s5.1), (4, .int s5.2)]) (fun s5 => th) (fun x8 => [(0, .ref a0), (1, .int s1.1), (2, .int s1.2), (3, .int x8)]) (fun x8 => th) (fun s5 nx6 hnx6 ex7 hex7 => ?_) (fun x8 => ?_) 4096 ((Int32.ofInt 1), (Int32.ofInt 0))) ⟨rfl, rfl, rfl, rfl, rfl, trivial⟩
      · refine x_P 17 rfl rfl rfl ?_
        refine x_P 18 rfl rfl rfl ?_
        refine x_gI rfl (fun x12 hx12 => ?_)
        refine x_ic_ge rfl rfl (fun h32 => ?_) (fun h32 => ?_)
        · exact x_lv (hex7 s5.1) ⟨rfl, rfl, rfl, rfl, trivial⟩
        · refine x_P 25 rfl rfl rfl ?_
          refine x_P 26 rfl rfl rfl ?_
          refine x_jn 50 (fun v13 => [(0, .ref a0), (1, .int s1.1), (2, .int s1.2), (3, .int s5.1), (4, .int s5.2)]) (fun v13 => [.int v13]) (fun v13 => th) (fun v13 => ?_) (fun j14 hj14 => ?_)
          · refine x_P (lv' := [(5, .int v13), (0, .ref a0), (1, .int s1.1), (2, .int s1.2), (3, .int s5.1), (4, .int s5.2)]) 52 rfl rfl rfl ?_
            refine x_P 53 rfl rfl rfl ?_
            refine x_P (lv' := [(6, .int (Int32.ofInt 0)), (5, .int v13), (0, .ref a0), (1, .int s1.1), (2, .int s1.2), (3, .int s5.1), (4, .int s5.2)]) 55 rfl rfl rfl ?_
            refine x_lv (lv := [(0, .ref a0), (1, .int s1.1), (2, .int s1.2), (3, .int s5.1), (4, .int s5.2), (5, .int v13), (6, .int (Int32.ofInt 0))]) (x_lp 77 (fun s15 => [(0, .ref a0), (1, .int s1.1), (2, .int s1.2), (3, .int s5.1), (4, .int s5.2), (5, .int s15.1), (6, .int s15.2)]) (fun s15 => th) (fun x18 => [(0, .ref a0), (1, .int s1.1), (2, .int s1.2), (3, .int s5.1), (4, .int s5.2), (5, .int x18)]) (fun x18 => th) (fun s15 nx16 hnx16 ex17 hex17 => ?_) (fun x18 => ?_) 4096 (v13, (Int32.ofInt 0))) ⟨rfl, rfl, rfl, rfl, rfl, rfl, rfl, trivial⟩
            · refine x_P 57 rfl rfl rfl ?_
              refine x_P 58 rfl rfl rfl ?_
              refine x_P 59 rfl rfl rfl ?_
              refine x_rm rfl rfl (fun x23 hx23 => ?_)
              refine x_ic_ge rfl rfl (fun h25 => ?_) (fun h25 => ?_)
              · exact x_lv (hex17 s15.1) ⟨rfl, rfl, rfl, rfl, rfl, rfl, trivial⟩
              · refine x_P 64 rfl rfl rfl ?_
                refine x_P 66 rfl rfl rfl ?_
                refine x_callV rfl rfl rfl rfl rfl ⟨rfl, rfl⟩ (fun x h => c_281 h) (S_281 d a0 s15.1 th) (fun x24 hx24 => ?_)
                refine x_P (lv' := [(5, .int x24), (0, .ref a0), (1, .int s1.1), (2, .int s1.2), (3, .int s5.1), (4, .int s5.2), (6, .int s15.2)]) 71 rfl rfl rfl ?_
                refine x_P (lv' := [(6, .int (s15.2 + Int32.ofInt 1)), (5, .int x24), (0, .ref a0), (1, .int s1.1), (2, .int s1.2), (3, .int s5.1), (4, .int s5.2)]) 74 rfl rfl rfl ?_
                refine x_P 55 rfl rfl rfl ?_
                exact x_lv (hnx16 (x24, (s15.2 + Int32.ofInt 1))) ⟨rfl, rfl, rfl, rfl, rfl, rfl, rfl, trivial⟩
            · refine x_P 78 rfl rfl rfl ?_
              refine x_P 79 rfl rfl rfl ?_
              refine x_P 81 rfl rfl rfl ?_
              refine x_callV rfl rfl rfl rfl rfl ⟨rfl, rfl⟩ (fun x h => c_194 h) (S_194 d a0 x18 th) (fun x19 hx19 => ?_)
              refine x_P 85 rfl rfl rfl ?_
              refine x_jn 93 (fun v20 => [(0, .ref a0), (1, .int s1.1), (2, .int s1.2), (4, .int s5.2)]) (fun v20 => [.int v20.1, .int v20.2]) (fun v20 => th) (fun v20 => ?_) (fun j21 hj21 => ?_)
              · refine x_P 94 rfl rfl rfl ?_
                refine x_P (lv' := [(3, .int (v20.2 &&& v20.1)), (0, .ref a0), (1, .int s1.1), (2, .int s1.2), (4, .int s5.2)]) 95 rfl rfl rfl ?_
                refine x_P (lv' := [(4, .int (s5.2 + Int32.ofInt 1)), (3, .int (v20.2 &&& v20.1)), (0, .ref a0), (1, .int s1.1), (2, .int s1.2)]) 98 rfl rfl rfl ?_
                refine x_P 15 rfl rfl rfl ?_
                exact x_lv (hnx6 ((v20.2 &&& v20.1), (s5.2 + Int32.ofInt 1))) ⟨rfl, rfl, rfl, rfl, rfl, trivial⟩
              · refine x_ic_eq rfl rfl (fun h22 => ?_) (fun h22 => ?_)
                · refine x_P 93 rfl rfl rfl ?_
                  exact x_lv (hj21 ((Int32.ofInt 0), s5.1)) ⟨rfl, rfl, rfl, rfl, trivial⟩
                · refine x_P 89 rfl rfl rfl ?_
                  refine x_P 93 rfl rfl rfl ?_
                  exact x_lv (hj21 ((Int32.ofInt 1), s5.1)) ⟨rfl, rfl, rfl, rfl, trivial⟩
          · refine x_ic_ge rfl rfl (fun h31 => ?_) (fun h31 => ?_)
            · refine x_P 40 rfl rfl rfl ?_
              refine x_P 41 rfl rfl rfl ?_
              refine x_gN rfl (fun o26 ho26 => ?_)
              refine x_P 46 rfl rfl rfl ?_
              refine x_aI rfl ⟨rfl, rfl⟩ (fun x27 hx27 => ?_)
              refine x_callV rfl rfl rfl rfl rfl ⟨rfl, rfl⟩ (fun x h => c_282 h) (S_282 d a0 x27 th) (fun x28 hx28 => ?_)
              exact x_lv (hj14 x28) ⟨rfl, rfl, rfl, rfl, rfl, trivial⟩
            · refine x_P 30 rfl rfl rfl ?_
              refine x_gN rfl (fun o29 ho29 => ?_)
              refine x_P 35 rfl rfl rfl ?_
              refine x_aI rfl ⟨rfl, rfl⟩ (fun x30 hx30 => ?_)
              refine x_P 50 rfl rfl rfl ?_
              exact x_lv (hj14 x30) ⟨rfl, rfl, rfl, rfl, rfl, trivial⟩
      · refine x_P 102 rfl rfl rfl ?_
        refine x_P 103 rfl rfl rfl ?_
        refine x_jn 111 (fun v9 => [(0, .ref a0), (2, .int s1.2)]) (fun v9 => [.int v9.1, .int v9.2]) (fun v9 => th) (fun v9 => ?_) (fun j10 hj10 => ?_)
        · refine x_P 112 rfl rfl rfl ?_
          refine x_P (lv' := [(1, .int (v9.2 + v9.1)), (0, .ref a0), (2, .int s1.2)]) 113 rfl rfl rfl ?_
          refine x_P (lv' := [(2, .int (s1.2 + Int32.ofInt 1)), (1, .int (v9.2 + v9.1)), (0, .ref a0)]) 116 rfl rfl rfl ?_
          refine x_P 4 rfl rfl rfl ?_
          exact x_lv (hnx2 ((v9.2 + v9.1), (s1.2 + Int32.ofInt 1))) ⟨rfl, rfl, rfl, trivial⟩
        · refine x_if_eq rfl rfl (fun h11 => ?_) (fun h11 => ?_)
          · refine x_P 111 rfl rfl rfl ?_
            exact x_lv (hj10 ((Int32.ofInt 0), s1.1)) ⟨rfl, rfl, trivial⟩
          · refine x_P 107 rfl rfl rfl ?_
            refine x_P 111 rfl rfl rfl ?_
            exact x_lv (hj10 ((Int32.ofInt 1), s1.1)) ⟨rfl, rfl, trivial⟩
  · refine x_P 120 rfl rfl rfl ?_
    exact x_retI (x := x4) rfl
-- 284 NineTreesModel.middle()I
noncomputable def m_284 (a0 : Nat) (th : tH) : Option (Int32 × tH) :=
  (gC th 8 a0).bind fun _ =>
  (gI th 8 a0 10).bind fun x1 =>
  if x1 = 0 then
    (m_189 a0 (Int8.ofInt (-5)).toInt32 th).bind fun q23 =>
    some (q23.1, q23.2)
  else
    lp (fun (s2 : Int32 × Int32 × Int32) nx3 ex4 =>
        (m_192 a0 th).bind fun x6 =>
        if x6 ≤ s2.2.2 then
          ex4 s2.1
        else
          lp (fun (s7 : Int32 × Int32) nx8 ex9 =>
              (gI th 8 a0 10).bind fun x17 =>
              if x17 ≤ s7.2 then
                ex9 s7.1
              else
                (gN th 8 a0 12).bind fun o18 =>
                (aI th o18 s7.2).bind fun x19 =>
                (m_237 a0 s2.2.2 x19 th).bind fun x20 =>
                nx8 ((s7.1 + x20), (s7.2 + Int32.ofInt 1))
            ) 4096 ((Int32.ofInt 0), (Int32.ofInt 0)) (fun (x10 : Int32) =>
              jn (fun (v11 : Int32 × Int32) =>
                  nx3 (v11.1, v11.2, (s2.2.2 + Int32.ofInt 1))
                ) (fun j12 =>
                  jn (fun (v13 : Unit) =>
                      j12 (s2.2.2, x10)
                    ) (fun j14 =>
                      if s2.1 = (Int32.ofInt (-1)) then
                        j14 ()
                      else
                        if s2.2.1 ≤ x10 then
                          j12 (s2.1, s2.2.1)
                        else
                          j14 ()
                    )
                )
            )
      ) 4096 ((Int32.ofInt (-1)), (Int32.ofInt 0), (Int32.ofInt 0)) (fun (x5 : Int32) =>
        some (x5, th)
      )
theorem c_284 {a0 : Nat} {th : tH} {x : (Int32 × tH)} (h : m_284 a0 th = some x) : ∃ fs, th[a0]? = some (.inr (8, fs)) := gC_of h
theorem S_284 {L : Nat} (d : Nat) (a0 : Nat) (th : tH) : Wx L (fun x => (some (.int x.1), x.2)) (d + 2) 284 6 0 [(0, .ref a0)] [] th (m_284 a0 th) := by
  unfold m_284
  refine x_gC ?_
  refine x_P 1 rfl rfl rfl ?_
  refine x_gI rfl (fun x1 hx1 => ?_)
  refine x_if_ne rfl rfl (fun h24 => ?_) (fun h24 => ?_)
  · refine x_P 8 rfl rfl rfl ?_
    refine x_P 10 rfl rfl rfl ?_
    refine x_callV rfl rfl rfl rfl rfl ⟨rfl, rfl⟩ (fun x h => c_189 h) (S_189 d a0 (Int8.ofInt (-5)).toInt32 th) (fun q23 hq23 => ?_)
    exact x_retI (x := (q23.1, q23.2)) rfl
  · refine x_P 15 rfl rfl rfl ?_
    refine x_P (lv' := [(1, .int (Int32.ofInt (-1))), (0, .ref a0)]) 16 rfl rfl rfl ?_
    refine x_P 17 rfl rfl rfl ?_
    refine x_P (lv' := [(2, .int (Int32.ofInt 0)), (1, .int (Int32.ofInt (-1))), (0, .ref a0)]) 18 rfl rfl rfl ?_
    refine x_P 19 rfl rfl rfl ?_
    refine x_P (lv' := [(3, .int (Int32.ofInt 0)), (2, .int (Int32.ofInt 0)), (1, .int (Int32.ofInt (-1))), (0, .ref a0)]) 20 rfl rfl rfl ?_
    refine x_lv (lv := [(0, .ref a0), (1, .int (Int32.ofInt (-1))), (2, .int (Int32.ofInt 0)), (3, .int (Int32.ofInt 0))]) (x_lp 88 (fun s2 => [(0, .ref a0), (1, .int s2.1), (2, .int s2.2.1), (3, .int s2.2.2)]) (fun s2 => th) (fun x5 => [(1, .int x5)]) (fun x5 => th) (fun s2 nx3 hnx3 ex4 hex4 => ?_) (fun x5 => ?_) 4096 ((Int32.ofInt (-1)), (Int32.ofInt 0), (Int32.ofInt 0))) ⟨rfl, rfl, rfl, rfl, trivial⟩
    · refine x_P 21 rfl rfl rfl ?_
      refine x_P 22 rfl rfl rfl ?_
      refine x_callV rfl rfl rfl rfl rfl ⟨rfl, rfl⟩ (fun x h => c_192 h) (S_192 (d + 1) a0 th) (fun x6 hx6 => ?_)
      refine x_ic_ge rfl rfl (fun h22 => ?_) (fun h22 => ?_)
      · exact x_lv (hex4 s2.1) ⟨rfl, trivial⟩
      · refine x_P 29 rfl rfl rfl ?_
        refine x_P (lv' := [(4, .int (Int32.ofInt 0)), (0, .ref a0), (1, .int s2.1), (2, .int s2.2.1), (3, .int s2.2.2)]) 31 rfl rfl rfl ?_
        refine x_P 32 rfl rfl rfl ?_
        refine x_P (lv' := [(5, .int (Int32.ofInt 0)), (4, .int (Int32.ofInt 0)), (0, .ref a0), (1, .int s2.1), (2, .int s2.2.1), (3, .int s2.2.2)]) 34 rfl rfl rfl ?_
        refine x_lv (lv := [(0, .ref a0), (1, .int s2.1), (2, .int s2.2.1), (3, .int s2.2.2), (4, .int (Int32.ofInt 0)), (5, .int (Int32.ofInt 0))]) (x_lp 66 (fun s7 => [(0, .ref a0), (1, .int s2.1), (2, .int s2.2.1), (3, .int s2.2.2), (4, .int s7.1), (5, .int s7.2)]) (fun s7 => th) (fun x10 => [(0, .ref a0), (1, .int s2.1), (2, .int s2.2.1), (3, .int s2.2.2), (4, .int x10)]) (fun x10 => th) (fun s7 nx8 hnx8 ex9 hex9 => ?_) (fun x10 => ?_) 4096 ((Int32.ofInt 0), (Int32.ofInt 0))) ⟨rfl, rfl, rfl, rfl, rfl, rfl, trivial⟩
        · refine x_P 36 rfl rfl rfl ?_
          refine x_P 37 rfl rfl rfl ?_
          refine x_gI rfl (fun x17 hx17 => ?_)
          refine x_ic_ge rfl rfl (fun h21 => ?_) (fun h21 => ?_)
          · exact x_lv (hex9 s7.1) ⟨rfl, rfl, rfl, rfl, rfl, trivial⟩
          · refine x_P 45 rfl rfl rfl ?_
            refine x_P 46 rfl rfl rfl ?_
            refine x_P 47 rfl rfl rfl ?_
            refine x_P 48 rfl rfl rfl ?_
            refine x_gN rfl (fun o18 ho18 => ?_)
            refine x_P 53 rfl rfl rfl ?_
            refine x_aI rfl ⟨rfl, rfl⟩ (fun x19 hx19 => ?_)
            refine x_callV rfl rfl rfl rfl rfl ⟨rfl, rfl⟩ (fun x h => c_237 h) (S_237 (d + 1) a0 s2.2.2 x19 th) (fun x20 hx20 => ?_)
            refine x_P 58 rfl rfl rfl ?_
            refine x_P (lv' := [(4, .int (s7.1 + x20)), (0, .ref a0), (1, .int s2.1), (2, .int s2.2.1), (3, .int s2.2.2), (5, .int s7.2)]) 60 rfl rfl rfl ?_
            refine x_P (lv' := [(5, .int (s7.2 + Int32.ofInt 1)), (4, .int (s7.1 + x20)), (0, .ref a0), (1, .int s2.1), (2, .int s2.2.1), (3, .int s2.2.2)]) 63 rfl rfl rfl ?_
            refine x_P 34 rfl rfl rfl ?_
            exact x_lv (hnx8 ((s7.1 + x20), (s7.2 + Int32.ofInt 1))) ⟨rfl, rfl, rfl, rfl, rfl, rfl, trivial⟩
        · refine x_P 67 rfl rfl rfl ?_
          refine x_P 68 rfl rfl rfl ?_
          refine x_jn 82 (fun v11 => [(0, .ref a0), (1, .int v11.1), (2, .int v11.2), (3, .int s2.2.2)]) (fun v11 => []) (fun v11 => th) (fun v11 => ?_) (fun j12 hj12 => ?_)
          · refine x_P (lv' := [(3, .int (s2.2.2 + Int32.ofInt 1)), (0, .ref a0), (1, .int v11.1), (2, .int v11.2)]) 85 rfl rfl rfl ?_
            refine x_P 20 rfl rfl rfl ?_
            exact x_lv (hnx3 (v11.1, v11.2, (s2.2.2 + Int32.ofInt 1))) ⟨rfl, rfl, rfl, rfl, trivial⟩
          · refine x_jn 77 (fun v13 => [(0, .ref a0), (3, .int s2.2.2), (4, .int x10)]) (fun v13 => []) (fun v13 => th) (fun v13 => ?_) (fun j14 hj14 => ?_)
            · refine x_P 78 rfl rfl rfl ?_
              refine x_P (lv' := [(1, .int s2.2.2), (0, .ref a0), (3, .int s2.2.2), (4, .int x10)]) 79 rfl rfl rfl ?_
              refine x_P 81 rfl rfl rfl ?_
              refine x_P (lv' := [(2, .int x10), (1, .int s2.2.2), (0, .ref a0), (3, .int s2.2.2), (4, .int x10)]) 82 rfl rfl rfl ?_
              exact x_lv (hj12 (s2.2.2, x10)) ⟨rfl, rfl, rfl, rfl, trivial⟩
            · refine x_ic_eq rfl rfl (fun h16 => ?_) (fun h16 => ?_)
              · exact x_lv (hj14 ()) ⟨rfl, rfl, rfl, trivial⟩
              · refine x_P 73 rfl rfl rfl ?_
                refine x_P 74 rfl rfl rfl ?_
                refine x_ic_ge rfl rfl (fun h15 => ?_) (fun h15 => ?_)
                · exact x_lv (hj12 (s2.1, s2.2.1)) ⟨rfl, rfl, rfl, rfl, trivial⟩
                · exact x_lv (hj14 ()) ⟨rfl, rfl, rfl, trivial⟩
    · refine x_P 89 rfl rfl rfl ?_
      exact x_retI (x := (x5, th)) rfl
-- 285 NineTreesModel.nearest()I
noncomputable def m_285 (a0 : Nat) (th : tH) : Option (Int32 × tH) :=
  (gC th 8 a0).bind fun _ =>
  (gI th 8 a0 10).bind fun x1 =>
  if (Int32.ofInt 2) ≤ x1 then
    lp (fun (s2 : Int32 × Int32) nx3 ex4 =>
        (gI th 8 a0 10).bind fun x6 =>
        if x6 ≤ s2.2 then
          ex4 s2.1
        else
          lp (fun (s7 : Int32 × Int32) nx8 ex9 =>
              (gI th 8 a0 10).bind fun x11 =>
              if x11 ≤ s7.2 then
                ex9 s7.1
              else
                (gN th 8 a0 12).bind fun o12 =>
                (aI th o12 s2.2).bind fun x13 =>
                (gN th 8 a0 12).bind fun o14 =>
                (aI th o14 s7.2).bind fun x15 =>
                (m_237 a0 x13 x15 th).bind fun x16 =>
                (gN th 8 a0 12).bind fun o17 =>
                (dvI s7.1 (Int8.ofInt 100).toInt32).bind fun x18 =>
                (aI th o17 x18).bind fun x19 =>
                (gN th 8 a0 12).bind fun o20 =>
                (rmI s7.1 (Int8.ofInt 100).toInt32).bind fun x21 =>
                (aI th o20 x21).bind fun x22 =>
                (m_237 a0 x19 x22 th).bind fun x23 =>
                jn (fun (v24 : Int32) =>
                    nx8 (v24, (s7.2 + Int32.ofInt 1))
                  ) (fun j25 =>
                    if x23 ≤ x16 then
                      j25 s7.1
                    else
                      j25 (((Int8.ofInt 100).toInt32 * s2.2) + s7.2)
                  )
            ) 4096 (s2.1, (s2.2 + (Int32.ofInt 1))) (fun (x10 : Int32) =>
              nx3 (x10, (s2.2 + Int32.ofInt 1))
            )
      ) 4096 ((Int32.ofInt 1), (Int32.ofInt 0)) (fun (x5 : Int32) =>
        some (x5, th)
      )
  else
    (m_189 a0 (Int8.ofInt (-5)).toInt32 th).bind fun q29 =>
    some (q29.1, q29.2)
theorem c_285 {a0 : Nat} {th : tH} {x : (Int32 × tH)} (h : m_285 a0 th = some x) : ∃ fs, th[a0]? = some (.inr (8, fs)) := gC_of h
theorem S_285 {L : Nat} (d : Nat) (a0 : Nat) (th : tH) : Wx L (fun x => (some (.int x.1), x.2)) (d + 2) 285 4 0 [(0, .ref a0)] [] th (m_285 a0 th) := by
  unfold m_285
  refine x_gC ?_
  refine x_P 1 rfl rfl rfl ?_
  refine x_gI rfl (fun x1 hx1 => ?_)
  refine x_P 5 rfl rfl rfl ?_
  refine x_ic_ge rfl rfl (fun h30 => ?_) (fun h30 => ?_)
  · refine x_P 16 rfl rfl rfl ?_
    refine x_P (lv' := [(1, .int (Int32.ofInt 1)), (0, .ref a0)]) 17 rfl rfl rfl ?_
    refine x_P 18 rfl rfl rfl ?_
    refine x_P (lv' := [(2, .int (Int32.ofInt 0)), (1, .int (Int32.ofInt 1)), (0, .ref a0)]) 19 rfl rfl rfl ?_
    refine x_lv (lv := [(0, .ref a0), (1, .int (Int32.ofInt 1)), (2, .int (Int32.ofInt 0))]) (x_lp 103 (fun s2 => [(0, .ref a0), (1, .int s2.1), (2, .int s2.2)]) (fun s2 => th) (fun x5 => [(1, .int x5)]) (fun x5 => th) (fun s2 nx3 hnx3 ex4 hex4 => ?_) (fun x5 => ?_) 4096 ((Int32.ofInt 1), (Int32.ofInt 0))) ⟨rfl, rfl, rfl, trivial⟩
    · refine x_P 20 rfl rfl rfl ?_
      refine x_P 21 rfl rfl rfl ?_
      refine x_gI rfl (fun x6 hx6 => ?_)
      refine x_ic_ge rfl rfl (fun h28 => ?_) (fun h28 => ?_)
      · exact x_lv (hex4 s2.1) ⟨rfl, trivial⟩
      · refine x_P 28 rfl rfl rfl ?_
        refine x_P 29 rfl rfl rfl ?_
        refine x_P 30 rfl rfl rfl ?_
        refine x_P (lv' := [(3, .int (s2.2 + (Int32.ofInt 1))), (0, .ref a0), (1, .int s2.1), (2, .int s2.2)]) 31 rfl rfl rfl ?_
        refine x_lv (lv := [(0, .ref a0), (1, .int s2.1), (2, .int s2.2), (3, .int (s2.2 + (Int32.ofInt 1)))]) (x_lp 97 (fun s7 => [(0, .ref a0), (1, .int s7.1), (2, .int s2.2), (3, .int s7.2)]) (fun s7 => th) (fun x10 => [(0, .ref a0), (1, .int x10), (2, .int s2.2)]) (fun x10 => th) (fun s7 nx8 hnx8 ex9 hex9 => ?_) (fun x10 => ?_) 4096 (s2.1, (s2.2 + (Int32.ofInt 1)))) ⟨rfl, rfl, rfl, rfl, trivial⟩
        · refine x_P 32 rfl rfl rfl ?_
          refine x_P 33 rfl rfl rfl ?_
          refine x_gI rfl (fun x11 hx11 => ?_)
          refine x_ic_ge rfl rfl (fun h27 => ?_) (fun h27 => ?_)
          · exact x_lv (hex9 s7.1) ⟨rfl, rfl, rfl, trivial⟩
          · refine x_P 40 rfl rfl rfl ?_
            refine x_P 41 rfl rfl rfl ?_
            refine x_gN rfl (fun o12 ho12 => ?_)
            refine x_P 45 rfl rfl rfl ?_
            refine x_aI rfl ⟨rfl, rfl⟩ (fun x13 hx13 => ?_)
            refine x_P 47 rfl rfl rfl ?_
            refine x_gN rfl (fun o14 ho14 => ?_)
            refine x_P 51 rfl rfl rfl ?_
            refine x_aI rfl ⟨rfl, rfl⟩ (fun x15 hx15 => ?_)
            refine x_callV rfl rfl rfl rfl rfl ⟨rfl, rfl⟩ (fun x h => c_237 h) (S_237 (d + 1) a0 x13 x15 th) (fun x16 hx16 => ?_)
            refine x_P 56 rfl rfl rfl ?_
            refine x_P 57 rfl rfl rfl ?_
            refine x_gN rfl (fun o17 ho17 => ?_)
            refine x_P 61 rfl rfl rfl ?_
            refine x_P 63 rfl rfl rfl ?_
            refine x_dv rfl rfl (fun x18 hx18 => ?_)
            refine x_aI rfl ⟨rfl, rfl⟩ (fun x19 hx19 => ?_)
            refine x_P 66 rfl rfl rfl ?_
            refine x_gN rfl (fun o20 ho20 => ?_)
            refine x_P 70 rfl rfl rfl ?_
            refine x_P 72 rfl rfl rfl ?_
            refine x_rm rfl rfl (fun x21 hx21 => ?_)
            refine x_aI rfl ⟨rfl, rfl⟩ (fun x22 hx22 => ?_)
            refine x_callV rfl rfl rfl rfl rfl ⟨rfl, rfl⟩ (fun x h => c_237 h) (S_237 (d + 1) a0 x19 x22 th) (fun x23 hx23 => ?_)
            refine x_jn 90 (fun v24 => [(0, .ref a0), (2, .int s2.2), (3, .int s7.2)]) (fun v24 => [.int v24]) (fun v24 => th) (fun v24 => ?_) (fun j25 hj25 => ?_)
            · refine x_P (lv' := [(1, .int v24), (0, .ref a0), (2, .int s2.2), (3, .int s7.2)]) 91 rfl rfl rfl ?_
              refine x_P (lv' := [(3, .int (s7.2 + Int32.ofInt 1)), (1, .int v24), (0, .ref a0), (2, .int s2.2)]) 94 rfl rfl rfl ?_
              refine x_P 31 rfl rfl rfl ?_
              exact x_lv (hnx8 (v24, (s7.2 + Int32.ofInt 1))) ⟨rfl, rfl, rfl, rfl, trivial⟩
            · refine x_ic_ge rfl rfl (fun h26 => ?_) (fun h26 => ?_)
              · refine x_P 90 rfl rfl rfl ?_
                exact x_lv (hj25 s7.1) ⟨rfl, rfl, rfl, trivial⟩
              · refine x_P 82 rfl rfl rfl ?_
                refine x_P 83 rfl rfl rfl ?_
                refine x_P 84 rfl rfl rfl ?_
                refine x_P 85 rfl rfl rfl ?_
                refine x_P 86 rfl rfl rfl ?_
                refine x_P 90 rfl rfl rfl ?_
                exact x_lv (hj25 (((Int8.ofInt 100).toInt32 * s2.2) + s7.2)) ⟨rfl, rfl, rfl, trivial⟩
        · refine x_P (lv' := [(2, .int (s2.2 + Int32.ofInt 1)), (0, .ref a0), (1, .int x10)]) 100 rfl rfl rfl ?_
          refine x_P 19 rfl rfl rfl ?_
          exact x_lv (hnx3 (x10, (s2.2 + Int32.ofInt 1))) ⟨rfl, rfl, rfl, trivial⟩
    · refine x_P 104 rfl rfl rfl ?_
      exact x_retI (x := (x5, th)) rfl
  · refine x_P 9 rfl rfl rfl ?_
    refine x_P 11 rfl rfl rfl ?_
    refine x_callV rfl rfl rfl rfl rfl ⟨rfl, rfl⟩ (fun x h => c_189 h) (S_189 d a0 (Int8.ofInt (-5)).toInt32 th) (fun q29 hq29 => ?_)
    exact x_retI (x := (q29.1, q29.2)) rfl
-- 286 NineTreesModel.largest()I
noncomputable def m_286 (a0 : Nat) (th : tH) : Option (Int32) :=
  (gC th 8 a0).bind fun _ =>
  lp (fun (s1 : Int32 × Int32) nx2 ex3 =>
      (gI th 8 a0 10).bind fun x5 =>
      if x5 ≤ s1.2 then
        ex3 s1.1
      else
        lp (fun (s6 : Int32 × Int32) nx7 ex8 =>
            if s1.2 ≤ s6.2 then
              ex8 s6.1
            else
              lp (fun (s10 : Int32 × Int32) nx11 ex12 =>
                  if s6.2 ≤ s10.2 then
                    ex12 s10.1
                  else
                    (gN th 8 a0 12).bind fun o14 =>
                    (aI th o14 s1.2).bind fun x15 =>
                    (gN th 8 a0 12).bind fun o16 =>
                    (aI th o16 s6.2).bind fun x17 =>
                    (gN th 8 a0 12).bind fun o18 =>
                    (aI th o18 s10.2).bind fun x19 =>
                    (m_235 a0 x15 x17 x19 th).bind fun x20 =>
                    jn (fun (v21 : Int32) =>
                        jn (fun (v23 : Int32) =>
                            nx11 (v23, (s10.2 + Int32.ofInt 1))
                          ) (fun j24 =>
                            if v21 ≤ s10.1 then
                              j24 s10.1
                            else
                              j24 v21
                          )
                      ) (fun j22 =>
                        if 0 ≤ x20 then
                          j22 x20
                        else
                          j22 (-x20)
                      )
                ) 4096 (s6.1, (Int32.ofInt 0)) (fun (x13 : Int32) =>
                  nx7 (x13, (s6.2 + Int32.ofInt 1))
                )
          ) 4096 (s1.1, (Int32.ofInt 0)) (fun (x9 : Int32) =>
            nx2 (x9, (s1.2 + Int32.ofInt 1))
          )
    ) 4096 ((Int32.ofInt 0), (Int32.ofInt 0)) (fun (x4 : Int32) =>
      some x4
    )
theorem c_286 {a0 : Nat} {th : tH} {x : (Int32)} (h : m_286 a0 th = some x) : ∃ fs, th[a0]? = some (.inr (8, fs)) := gC_of h
theorem S_286 {L : Nat} (d : Nat) (a0 : Nat) (th : tH) : Wx L (fun x => (some (.int x), th)) (d + 1) 286 6 0 [(0, .ref a0)] [] th (m_286 a0 th) := by
  unfold m_286
  refine x_gC ?_
  refine x_P 1 rfl rfl rfl ?_
  refine x_P (lv' := [(1, .int (Int32.ofInt 0)), (0, .ref a0)]) 2 rfl rfl rfl ?_
  refine x_P 3 rfl rfl rfl ?_
  refine x_P (lv' := [(2, .int (Int32.ofInt 0)), (1, .int (Int32.ofInt 0)), (0, .ref a0)]) 4 rfl rfl rfl ?_
  refine x_lv (lv := [(0, .ref a0), (1, .int (Int32.ofInt 0)), (2, .int (Int32.ofInt 0))]) (x_lp 99 (fun s1 => [(0, .ref a0), (1, .int s1.1), (2, .int s1.2)]) (fun s1 => th) (fun x4 => [(1, .int x4)]) (fun x4 => th) (fun s1 nx2 hnx2 ex3 hex3 => ?_) (fun x4 => ?_) 4096 ((Int32.ofInt 0), (Int32.ofInt 0))) ⟨rfl, rfl, rfl, trivial⟩
  · refine x_P 5 rfl rfl rfl ?_
    refine x_P 6 rfl rfl rfl ?_
    refine x_gI rfl (fun x5 hx5 => ?_)
    refine x_ic_ge rfl rfl (fun h29 => ?_) (fun h29 => ?_)
    · exact x_lv (hex3 s1.1) ⟨rfl, trivial⟩
    · refine x_P 13 rfl rfl rfl ?_
      refine x_P (lv' := [(3, .int (Int32.ofInt 0)), (0, .ref a0), (1, .int s1.1), (2, .int s1.2)]) 14 rfl rfl rfl ?_
      refine x_lv (lv := [(0, .ref a0), (1, .int s1.1), (2, .int s1.2), (3, .int (Int32.ofInt 0))]) (x_lp 93 (fun s6 => [(0, .ref a0), (1, .int s6.1), (2, .int s1.2), (3, .int s6.2)]) (fun s6 => th) (fun x9 => [(0, .ref a0), (1, .int x9), (2, .int s1.2)]) (fun x9 => th) (fun s6 nx7 hnx7 ex8 hex8 => ?_) (fun x9 => ?_) 4096 (s1.1, (Int32.ofInt 0))) ⟨rfl, rfl, rfl, rfl, trivial⟩
      · refine x_P 15 rfl rfl rfl ?_
        refine x_P 16 rfl rfl rfl ?_
        refine x_ic_ge rfl rfl (fun h28 => ?_) (fun h28 => ?_)
        · exact x_lv (hex8 s6.1) ⟨rfl, rfl, rfl, trivial⟩
        · refine x_P 20 rfl rfl rfl ?_
          refine x_P (lv' := [(4, .int (Int32.ofInt 0)), (0, .ref a0), (1, .int s6.1), (2, .int s1.2), (3, .int s6.2)]) 22 rfl rfl rfl ?_
          refine x_lv (lv := [(0, .ref a0), (1, .int s6.1), (2, .int s1.2), (3, .int s6.2), (4, .int (Int32.ofInt 0))]) (x_lp 87 (fun s10 => [(0, .ref a0), (1, .int s10.1), (2, .int s1.2), (3, .int s6.2), (4, .int s10.2)]) (fun s10 => th) (fun x13 => [(0, .ref a0), (1, .int x13), (2, .int s1.2), (3, .int s6.2)]) (fun x13 => th) (fun s10 nx11 hnx11 ex12 hex12 => ?_) (fun x13 => ?_) 4096 (s6.1, (Int32.ofInt 0))) ⟨rfl, rfl, rfl, rfl, rfl, trivial⟩
          · refine x_P 24 rfl rfl rfl ?_
            refine x_P 25 rfl rfl rfl ?_
            refine x_ic_ge rfl rfl (fun h27 => ?_) (fun h27 => ?_)
            · exact x_lv (hex12 s10.1) ⟨rfl, rfl, rfl, rfl, trivial⟩
            · refine x_P 29 rfl rfl rfl ?_
              refine x_P 30 rfl rfl rfl ?_
              refine x_gN rfl (fun o14 ho14 => ?_)
              refine x_P 34 rfl rfl rfl ?_
              refine x_aI rfl ⟨rfl, rfl⟩ (fun x15 hx15 => ?_)
              refine x_P 36 rfl rfl rfl ?_
              refine x_gN rfl (fun o16 ho16 => ?_)
              refine x_P 40 rfl rfl rfl ?_
              refine x_aI rfl ⟨rfl, rfl⟩ (fun x17 hx17 => ?_)
              refine x_P 42 rfl rfl rfl ?_
              refine x_gN rfl (fun o18 ho18 => ?_)
              refine x_P 47 rfl rfl rfl ?_
              refine x_aI rfl ⟨rfl, rfl⟩ (fun x19 hx19 => ?_)
              refine x_callV rfl rfl rfl rfl rfl ⟨rfl, rfl⟩ (fun x h => c_235 h) (S_235 d a0 x15 x17 x19 th) (fun x20 hx20 => ?_)
              refine x_P (lv' := [(5, .int x20), (0, .ref a0), (1, .int s10.1), (2, .int s1.2), (3, .int s6.2), (4, .int s10.2)]) 53 rfl rfl rfl ?_
              refine x_P 55 rfl rfl rfl ?_
              refine x_jn 66 (fun v21 => [(0, .ref a0), (1, .int s10.1), (2, .int s1.2), (3, .int s6.2), (4, .int s10.2)]) (fun v21 => [.int v21]) (fun v21 => th) (fun v21 => ?_) (fun j22 hj22 => ?_)
              · refine x_P (lv' := [(5, .int v21), (0, .ref a0), (1, .int s10.1), (2, .int s1.2), (3, .int s6.2), (4, .int s10.2)]) 68 rfl rfl rfl ?_
                refine x_P 70 rfl rfl rfl ?_
                refine x_P 71 rfl rfl rfl ?_
                refine x_jn 80 (fun v23 => [(0, .ref a0), (2, .int s1.2), (3, .int s6.2), (4, .int s10.2)]) (fun v23 => [.int v23]) (fun v23 => th) (fun v23 => ?_) (fun j24 hj24 => ?_)
                · refine x_P (lv' := [(1, .int v23), (0, .ref a0), (2, .int s1.2), (3, .int s6.2), (4, .int s10.2)]) 81 rfl rfl rfl ?_
                  refine x_P (lv' := [(4, .int (s10.2 + Int32.ofInt 1)), (1, .int v23), (0, .ref a0), (2, .int s1.2), (3, .int s6.2)]) 84 rfl rfl rfl ?_
                  refine x_P 22 rfl rfl rfl ?_
                  exact x_lv (hnx11 (v23, (s10.2 + Int32.ofInt 1))) ⟨rfl, rfl, rfl, rfl, rfl, trivial⟩
                · refine x_ic_le rfl rfl (fun h25 => ?_) (fun h25 => ?_)
                  · refine x_P 80 rfl rfl rfl ?_
                    exact x_lv (hj24 s10.1) ⟨rfl, rfl, rfl, rfl, trivial⟩
                  · refine x_P 76 rfl rfl rfl ?_
                    refine x_P 80 rfl rfl rfl ?_
                    exact x_lv (hj24 v21) ⟨rfl, rfl, rfl, rfl, trivial⟩
              · refine x_if_ge rfl rfl (fun h26 => ?_) (fun h26 => ?_)
                · refine x_P 66 rfl rfl rfl ?_
                  exact x_lv (hj22 x20) ⟨rfl, rfl, rfl, rfl, rfl, trivial⟩
                · refine x_P 60 rfl rfl rfl ?_
                  refine x_P 61 rfl rfl rfl ?_
                  refine x_P 66 rfl rfl rfl ?_
                  exact x_lv (hj22 (-x20)) ⟨rfl, rfl, rfl, rfl, rfl, trivial⟩
          · refine x_P (lv' := [(3, .int (s6.2 + Int32.ofInt 1)), (0, .ref a0), (1, .int x13), (2, .int s1.2)]) 90 rfl rfl rfl ?_
            refine x_P 14 rfl rfl rfl ?_
            exact x_lv (hnx7 (x13, (s6.2 + Int32.ofInt 1))) ⟨rfl, rfl, rfl, rfl, trivial⟩
      · refine x_P (lv' := [(2, .int (s1.2 + Int32.ofInt 1)), (0, .ref a0), (1, .int x9)]) 96 rfl rfl rfl ?_
        refine x_P 4 rfl rfl rfl ?_
        exact x_lv (hnx2 (x9, (s1.2 + Int32.ofInt 1))) ⟨rfl, rfl, rfl, trivial⟩
  · refine x_P 100 rfl rfl rfl ?_
    exact x_retI (x := x4) rfl
-- 287 NineTreesModel.at(II)I
noncomputable def m_287 (a0 : Nat) (a1 : Int32) (a2 : Int32) (th : tH) : Option (Int32) :=
  (gC th 8 a0).bind fun _ =>
  (gI th 8 a0 9).bind fun x1 =>
  (m_190 (Int32.toInt64 a1) (Int64.ofNat 0) (Int32.toInt64 (x1 - (Int32.ofInt 1))) th).bind fun x2 =>
  jn (fun (v3 : Int32) =>
      some v3
    ) (fun j4 =>
      jn (fun (v5 : Unit) =>
          j4 (Int32.ofInt (-1))
        ) (fun j6 =>
          if x2 = 0 then
            j6 ()
          else
            (gI th 8 a0 9).bind fun x7 =>
            (m_190 (Int32.toInt64 a2) (Int64.ofNat 0) (Int32.toInt64 (x7 - (Int32.ofInt 1))) th).bind fun x8 =>
            if x8 = 0 then
              j6 ()
            else
              (gI th 8 a0 9).bind fun x9 =>
              (m_194 a0 ((a1 * x9) + a2) th).bind fun x10 =>
              j4 x10
        )
    )
theorem c_287 {a0 : Nat} {a1 : Int32} {a2 : Int32} {th : tH} {x : (Int32)} (h : m_287 a0 a1 a2 th = some x) : ∃ fs, th[a0]? = some (.inr (8, fs)) := gC_of h
theorem S_287 {L : Nat} (d : Nat) (a0 : Nat) (a1 : Int32) (a2 : Int32) (th : tH) : Wx L (fun x => (some (.int x), th)) (d + 1) 287 3 0 [(0, .ref a0), (1, .int a1), (2, .int a2)] [] th (m_287 a0 a1 a2 th) := by
  unfold m_287
  refine x_gC ?_
  refine x_P 1 rfl rfl rfl ?_
  refine x_P 2 rfl rfl rfl ?_
  refine x_P 3 rfl rfl rfl ?_
  refine x_P 4 rfl rfl rfl ?_
  refine x_gI rfl (fun x1 hx1 => ?_)
  refine x_P 8 rfl rfl rfl ?_
  refine x_P 9 rfl rfl rfl ?_
  refine x_P 10 rfl rfl rfl ?_
  refine x_callS rfl rfl rfl rfl rfl rfl ⟨rfl, rfl⟩ (S_190 d (Int32.toInt64 a1) (Int64.ofNat 0) (Int32.toInt64 (x1 - (Int32.ofInt 1))) th) (fun x2 hx2 => ?_)
  refine x_jn 48 (fun v3 => []) (fun v3 => [.int v3]) (fun v3 => th) (fun v3 => ?_) (fun j4 hj4 => ?_)
  · exact x_retI (x := v3) rfl
  · refine x_jn 47 (fun v5 => []) (fun v5 => []) (fun v5 => th) (fun v5 => ?_) (fun j6 hj6 => ?_)
    · refine x_P 48 rfl rfl rfl ?_
      exact x_lv (hj4 (Int32.ofInt (-1))) trivial
    · refine x_if_eq rfl rfl (fun h12 => ?_) (fun h12 => ?_)
      · exact x_lv (hj6 ()) trivial
      · refine x_P 17 rfl rfl rfl ?_
        refine x_P 18 rfl rfl rfl ?_
        refine x_P 19 rfl rfl rfl ?_
        refine x_P 20 rfl rfl rfl ?_
        refine x_gI rfl (fun x7 hx7 => ?_)
        refine x_P 24 rfl rfl rfl ?_
        refine x_P 25 rfl rfl rfl ?_
        refine x_P 26 rfl rfl rfl ?_
        refine x_callS rfl rfl rfl rfl rfl rfl ⟨rfl, rfl⟩ (S_190 d (Int32.toInt64 a2) (Int64.ofNat 0) (Int32.toInt64 (x7 - (Int32.ofInt 1))) th) (fun x8 hx8 => ?_)
        refine x_if_eq rfl rfl (fun h11 => ?_) (fun h11 => ?_)
        · exact x_lv (hj6 ()) trivial
        · refine x_P 33 rfl rfl rfl ?_
          refine x_P 34 rfl rfl rfl ?_
          refine x_P 35 rfl rfl rfl ?_
          refine x_gI rfl (fun x9 hx9 => ?_)
          refine x_P 39 rfl rfl rfl ?_
          refine x_P 40 rfl rfl rfl ?_
          refine x_P 41 rfl rfl rfl ?_
          refine x_callV rfl rfl rfl rfl rfl ⟨rfl, rfl⟩ (fun x h => c_194 h) (S_194 d a0 ((a1 * x9) + a2) th) (fun x10 hx10 => ?_)
          refine x_P 48 rfl rfl rfl ?_
          exact x_lv (hj4 x10) trivial
-- 288 NineTreesModel.squares()I
noncomputable def m_288 (a0 : Nat) (th : tH) : Option (Int32) :=
  (gC th 8 a0).bind fun _ =>
  lp (fun (s1 : Int32 × Int32) nx2 ex3 =>
      (gI th 8 a0 10).bind fun x6 =>
      if x6 ≤ s1.2 then
        ex3 s1.1
      else
        lp (fun (s7 : Int32 × Int32) nx8 ex9 =>
            (gI th 8 a0 10).bind fun x11 =>
            if x11 ≤ s7.2 then
              ex9 s7.1
            else
              jn (fun (v12 : Int32) =>
                  nx8 (v12, (s7.2 + Int32.ofInt 1))
                ) (fun j13 =>
                  if s1.2 = s7.2 then
                    j13 s7.1
                  else
                    (gN th 8 a0 12).bind fun o14 =>
                    (aI th o14 s7.2).bind fun x15 =>
                    (gI th 8 a0 9).bind fun x16 =>
                    (dvI x15 x16).bind fun x17 =>
                    (gN th 8 a0 12).bind fun o18 =>
                    (aI th o18 s1.2).bind fun x19 =>
                    (gI th 8 a0 9).bind fun x20 =>
                    (dvI x19 x20).bind fun x21 =>
                    (gN th 8 a0 12).bind fun o22 =>
                    (aI th o22 s7.2).bind fun x23 =>
                    (gI th 8 a0 9).bind fun x24 =>
                    (rmI x23 x24).bind fun x25 =>
                    (gN th 8 a0 12).bind fun o26 =>
                    (aI th o26 s1.2).bind fun x27 =>
                    (gI th 8 a0 9).bind fun x28 =>
                    (rmI x27 x28).bind fun x29 =>
                    (gN th 8 a0 12).bind fun o30 =>
                    (aI th o30 s7.2).bind fun x31 =>
                    (gI th 8 a0 9).bind fun x32 =>
                    (dvI x31 x32).bind fun x33 =>
                    (gN th 8 a0 12).bind fun o34 =>
                    (aI th o34 s7.2).bind fun x35 =>
                    (gI th 8 a0 9).bind fun x36 =>
                    (rmI x35 x36).bind fun x37 =>
                    (m_287 a0 (x33 + (x25 - x29)) (x37 - (x17 - x21)) th).bind fun x38 =>
                    jn (fun (v39 : Int32) =>
                        jn (fun (v41 : Int32 × Int32) =>
                            j13 (v41.2 + v41.1)
                          ) (fun j42 =>
                            jn (fun (v43 : Int32) =>
                                j42 ((Int32.ofInt 0), v43)
                              ) (fun j44 =>
                                if v39 = 0 then
                                  j44 s7.1
                                else
                                  (gN th 8 a0 12).bind fun o45 =>
                                  (aI th o45 s1.2).bind fun x46 =>
                                  (gI th 8 a0 9).bind fun x47 =>
                                  (dvI x46 x47).bind fun x48 =>
                                  (gN th 8 a0 12).bind fun o49 =>
                                  (aI th o49 s1.2).bind fun x50 =>
                                  (gI th 8 a0 9).bind fun x51 =>
                                  (rmI x50 x51).bind fun x52 =>
                                  (m_287 a0 (x48 + (x25 - x29)) (x52 - (x17 - x21)) th).bind fun x53 =>
                                  if x53 = (Int32.ofInt (-1)) then
                                    j44 s7.1
                                  else
                                    j42 ((Int32.ofInt 1), s7.1)
                              )
                          )
                      ) (fun j40 =>
                        if x38 = (Int32.ofInt (-1)) then
                          j40 (Int32.ofInt 0)
                        else
                          j40 (Int32.ofInt 1)
                      )
                )
          ) 4096 (s1.1, (Int32.ofInt 0)) (fun (x10 : Int32) =>
            nx2 (x10, (s1.2 + Int32.ofInt 1))
          )
    ) 4096 ((Int32.ofInt 0), (Int32.ofInt 0)) (fun (x4 : Int32) =>
      (dvI x4 (Int32.ofInt 4)).bind fun x5 =>
      some x5
    )
theorem c_288 {a0 : Nat} {th : tH} {x : (Int32)} (h : m_288 a0 th = some x) : ∃ fs, th[a0]? = some (.inr (8, fs)) := gC_of h
theorem S_288 {L : Nat} (d : Nat) (a0 : Nat) (th : tH) : Wx L (fun x => (some (.int x), th)) (d + 2) 288 7 0 [(0, .ref a0)] [] th (m_288 a0 th) := by
  unfold m_288
  refine x_gC ?_
  refine x_P 1 rfl rfl rfl ?_
  refine x_P (lv' := [(1, .int (Int32.ofInt 0)), (0, .ref a0)]) 2 rfl rfl rfl ?_
  refine x_P 3 rfl rfl rfl ?_
  refine x_P (lv' := [(2, .int (Int32.ofInt 0)), (1, .int (Int32.ofInt 0)), (0, .ref a0)]) 4 rfl rfl rfl ?_
  refine x_lv (lv := [(0, .ref a0), (1, .int (Int32.ofInt 0)), (2, .int (Int32.ofInt 0))]) (x_lp 181 (fun s1 => [(0, .ref a0), (1, .int s1.1), (2, .int s1.2)]) (fun s1 => th) (fun x4 => [(1, .int x4)]) (fun x4 => th) (fun s1 nx2 hnx2 ex3 hex3 => ?_) (fun x4 => ?_) 4096 ((Int32.ofInt 0), (Int32.ofInt 0))) ⟨rfl, rfl, rfl, trivial⟩
  · refine x_P 5 rfl rfl rfl ?_
    refine x_P 6 rfl rfl rfl ?_
    refine x_gI rfl (fun x6 hx6 => ?_)
    refine x_ic_ge rfl rfl (fun h59 => ?_) (fun h59 => ?_)
    · exact x_lv (hex3 s1.1) ⟨rfl, trivial⟩
    · refine x_P 13 rfl rfl rfl ?_
      refine x_P (lv' := [(3, .int (Int32.ofInt 0)), (0, .ref a0), (1, .int s1.1), (2, .int s1.2)]) 14 rfl rfl rfl ?_
      refine x_lv (lv := [(0, .ref a0), (1, .int s1.1), (2, .int s1.2), (3, .int (Int32.ofInt 0))]) (x_lp 175 (fun s7 => [(0, .ref a0), (1, .int s7.1), (2, .int s1.2), (3, .int s7.2)]) (fun s7 => th) (fun x10 => [(0, .ref a0), (1, .int x10), (2, .int s1.2)]) (fun x10 => th) (fun s7 nx8 hnx8 ex9 hex9 => ?_) (fun x10 => ?_) 4096 (s1.1, (Int32.ofInt 0))) ⟨rfl, rfl, rfl, rfl, trivial⟩
      · refine x_P 15 rfl rfl rfl ?_
        refine x_P 16 rfl rfl rfl ?_
        refine x_gI rfl (fun x11 hx11 => ?_)
        refine x_ic_ge rfl rfl (fun h58 => ?_) (fun h58 => ?_)
        · exact x_lv (hex9 s7.1) ⟨rfl, rfl, rfl, trivial⟩
        · refine x_P 23 rfl rfl rfl ?_
          refine x_P 24 rfl rfl rfl ?_
          refine x_jn 169 (fun v12 => [(0, .ref a0), (1, .int v12), (2, .int s1.2), (3, .int s7.2)]) (fun v12 => []) (fun v12 => th) (fun v12 => ?_) (fun j13 hj13 => ?_)
          · refine x_P (lv' := [(3, .int (s7.2 + Int32.ofInt 1)), (0, .ref a0), (1, .int v12), (2, .int s1.2)]) 172 rfl rfl rfl ?_
            refine x_P 14 rfl rfl rfl ?_
            exact x_lv (hnx8 (v12, (s7.2 + Int32.ofInt 1))) ⟨rfl, rfl, rfl, rfl, trivial⟩
          · refine x_ic_eq rfl rfl (fun h57 => ?_) (fun h57 => ?_)
            · exact x_lv (hj13 s7.1) ⟨rfl, rfl, rfl, rfl, trivial⟩
            · refine x_P 28 rfl rfl rfl ?_
              refine x_gN rfl (fun o14 ho14 => ?_)
              refine x_P 32 rfl rfl rfl ?_
              refine x_aI rfl ⟨rfl, rfl⟩ (fun x15 hx15 => ?_)
              refine x_P 34 rfl rfl rfl ?_
              refine x_gI rfl (fun x16 hx16 => ?_)
              refine x_dv rfl rfl (fun x17 hx17 => ?_)
              refine x_P 39 rfl rfl rfl ?_
              refine x_gN rfl (fun o18 ho18 => ?_)
              refine x_P 43 rfl rfl rfl ?_
              refine x_aI rfl ⟨rfl, rfl⟩ (fun x19 hx19 => ?_)
              refine x_P 45 rfl rfl rfl ?_
              refine x_gI rfl (fun x20 hx20 => ?_)
              refine x_dv rfl rfl (fun x21 hx21 => ?_)
              refine x_P 50 rfl rfl rfl ?_
              refine x_P (lv' := [(4, .int (x17 - x21)), (0, .ref a0), (1, .int s7.1), (2, .int s1.2), (3, .int s7.2)]) 52 rfl rfl rfl ?_
              refine x_P 53 rfl rfl rfl ?_
              refine x_gN rfl (fun o22 ho22 => ?_)
              refine x_P 57 rfl rfl rfl ?_
              refine x_aI rfl ⟨rfl, rfl⟩ (fun x23 hx23 => ?_)
              refine x_P 59 rfl rfl rfl ?_
              refine x_gI rfl (fun x24 hx24 => ?_)
              refine x_rm rfl rfl (fun x25 hx25 => ?_)
              refine x_P 64 rfl rfl rfl ?_
              refine x_gN rfl (fun o26 ho26 => ?_)
              refine x_P 68 rfl rfl rfl ?_
              refine x_aI rfl ⟨rfl, rfl⟩ (fun x27 hx27 => ?_)
              refine x_P 70 rfl rfl rfl ?_
              refine x_gI rfl (fun x28 hx28 => ?_)
              refine x_rm rfl rfl (fun x29 hx29 => ?_)
              refine x_P 75 rfl rfl rfl ?_
              refine x_P (lv' := [(5, .int (x25 - x29)), (4, .int (x17 - x21)), (0, .ref a0), (1, .int s7.1), (2, .int s1.2), (3, .int s7.2)]) 77 rfl rfl rfl ?_
              refine x_P 78 rfl rfl rfl ?_
              refine x_P 79 rfl rfl rfl ?_
              refine x_gN rfl (fun o30 ho30 => ?_)
              refine x_P 83 rfl rfl rfl ?_
              refine x_aI rfl ⟨rfl, rfl⟩ (fun x31 hx31 => ?_)
              refine x_P 85 rfl rfl rfl ?_
              refine x_gI rfl (fun x32 hx32 => ?_)
              refine x_dv rfl rfl (fun x33 hx33 => ?_)
              refine x_P 91 rfl rfl rfl ?_
              refine x_P 92 rfl rfl rfl ?_
              refine x_P 93 rfl rfl rfl ?_
              refine x_gN rfl (fun o34 ho34 => ?_)
              refine x_P 97 rfl rfl rfl ?_
              refine x_aI rfl ⟨rfl, rfl⟩ (fun x35 hx35 => ?_)
              refine x_P 99 rfl rfl rfl ?_
              refine x_gI rfl (fun x36 hx36 => ?_)
              refine x_rm rfl rfl (fun x37 hx37 => ?_)
              refine x_P 105 rfl rfl rfl ?_
              refine x_P 106 rfl rfl rfl ?_
              refine x_callV rfl rfl rfl rfl rfl ⟨rfl, rfl⟩ (fun x h => c_287 h) (S_287 d a0 (x33 + (x25 - x29)) (x37 - (x17 - x21)) th) (fun x38 hx38 => ?_)
              refine x_P 110 rfl rfl rfl ?_
              refine x_jn 118 (fun v39 => [(0, .ref a0), (1, .int s7.1), (2, .int s1.2), (3, .int s7.2), (4, .int (x17 - x21)), (5, .int (x25 - x29))]) (fun v39 => [.int v39]) (fun v39 => th) (fun v39 => ?_) (fun j40 hj40 => ?_)
              · refine x_P (lv' := [(6, .int v39), (0, .ref a0), (1, .int s7.1), (2, .int s1.2), (3, .int s7.2), (4, .int (x17 - x21)), (5, .int (x25 - x29))]) 120 rfl rfl rfl ?_
                refine x_P 121 rfl rfl rfl ?_
                refine x_P 123 rfl rfl rfl ?_
                refine x_jn 167 (fun v41 => [(0, .ref a0), (2, .int s1.2), (3, .int s7.2)]) (fun v41 => [.int v41.1, .int v41.2]) (fun v41 => th) (fun v41 => ?_) (fun j42 hj42 => ?_)
                · refine x_P 168 rfl rfl rfl ?_
                  refine x_P (lv' := [(1, .int (v41.2 + v41.1)), (0, .ref a0), (2, .int s1.2), (3, .int s7.2)]) 169 rfl rfl rfl ?_
                  exact x_lv (hj13 (v41.2 + v41.1)) ⟨rfl, rfl, rfl, rfl, trivial⟩
                · refine x_jn 166 (fun v43 => [(0, .ref a0), (2, .int s1.2), (3, .int s7.2)]) (fun v43 => [.int v43]) (fun v43 => th) (fun v43 => ?_) (fun j44 hj44 => ?_)
                  · refine x_P 167 rfl rfl rfl ?_
                    exact x_lv (hj42 ((Int32.ofInt 0), v43)) ⟨rfl, rfl, rfl, trivial⟩
                  · refine x_if_eq rfl rfl (fun h55 => ?_) (fun h55 => ?_)
                    · exact x_lv (hj44 s7.1) ⟨rfl, rfl, rfl, trivial⟩
                    · refine x_P 127 rfl rfl rfl ?_
                      refine x_P 128 rfl rfl rfl ?_
                      refine x_gN rfl (fun o45 ho45 => ?_)
                      refine x_P 132 rfl rfl rfl ?_
                      refine x_aI rfl ⟨rfl, rfl⟩ (fun x46 hx46 => ?_)
                      refine x_P 134 rfl rfl rfl ?_
                      refine x_gI rfl (fun x47 hx47 => ?_)
                      refine x_dv rfl rfl (fun x48 hx48 => ?_)
                      refine x_P 140 rfl rfl rfl ?_
                      refine x_P 141 rfl rfl rfl ?_
                      refine x_P 142 rfl rfl rfl ?_
                      refine x_gN rfl (fun o49 ho49 => ?_)
                      refine x_P 146 rfl rfl rfl ?_
                      refine x_aI rfl ⟨rfl, rfl⟩ (fun x50 hx50 => ?_)
                      refine x_P 148 rfl rfl rfl ?_
                      refine x_gI rfl (fun x51 hx51 => ?_)
                      refine x_rm rfl rfl (fun x52 hx52 => ?_)
                      refine x_P 154 rfl rfl rfl ?_
                      refine x_P 155 rfl rfl rfl ?_
                      refine x_callV rfl rfl rfl rfl rfl ⟨rfl, rfl⟩ (fun x h => c_287 h) (S_287 d a0 (x48 + (x25 - x29)) (x52 - (x17 - x21)) th) (fun x53 hx53 => ?_)
                      refine x_P 159 rfl rfl rfl ?_
                      refine x_ic_eq rfl rfl (fun h54 => ?_) (fun h54 => ?_)
                      · exact x_lv (hj44 s7.1) ⟨rfl, rfl, rfl, trivial⟩
                      · refine x_P 163 rfl rfl rfl ?_
                        refine x_P 167 rfl rfl rfl ?_
                        exact x_lv (hj42 ((Int32.ofInt 1), s7.1)) ⟨rfl, rfl, rfl, trivial⟩
              · refine x_ic_eq rfl rfl (fun h56 => ?_) (fun h56 => ?_)
                · refine x_P 118 rfl rfl rfl ?_
                  exact x_lv (hj40 (Int32.ofInt 0)) ⟨rfl, rfl, rfl, rfl, rfl, rfl, trivial⟩
                · refine x_P 114 rfl rfl rfl ?_
                  refine x_P 118 rfl rfl rfl ?_
                  exact x_lv (hj40 (Int32.ofInt 1)) ⟨rfl, rfl, rfl, rfl, rfl, rfl, trivial⟩
      · refine x_P (lv' := [(2, .int (s1.2 + Int32.ofInt 1)), (0, .ref a0), (1, .int x10)]) 178 rfl rfl rfl ?_
        refine x_P 4 rfl rfl rfl ?_
        exact x_lv (hnx2 (x10, (s1.2 + Int32.ofInt 1))) ⟨rfl, rfl, rfl, trivial⟩
  · refine x_P 182 rfl rfl rfl ?_
    refine x_P 183 rfl rfl rfl ?_
    refine x_dv rfl rfl (fun x5 hx5 => ?_)
    exact x_retI (x := x5) rfl
-- 289 NineTreesModel.isIn(IIII)Z
noncomputable def m_289 (a0 : Nat) (a1 : Int32) (a2 : Int32) (a3 : Int32) (a4 : Int32) (th : tH) : Option (Int32) :=
  (gC th 8 a0).bind fun _ =>
  (m_235 a0 a1 a2 a4 th).bind fun x1 =>
  (m_235 a0 a2 a3 a4 th).bind fun x2 =>
  (m_235 a0 a3 a1 a4 th).bind fun x3 =>
  jn (fun (v4 : Int32) =>
      jn (fun (v6 : Int32) =>
          rB v6
        ) (fun j7 =>
          jn (fun (v8 : Unit) =>
              j7 (Int32.ofInt 1)
            ) (fun j9 =>
              if v4 = 0 then
                jn (fun (v10 : Unit) =>
                    j7 (Int32.ofInt 0)
                  ) (fun j11 =>
                    if 0 < x1 then
                      j11 ()
                    else
                      if 0 < x2 then
                        j11 ()
                      else
                        if 0 < x3 then
                          j11 ()
                        else
                          j9 ()
                  )
              else
                j9 ()
            )
        )
    ) (fun j5 =>
      jn (fun (v16 : Unit) =>
          j5 (Int32.ofInt 0)
        ) (fun j17 =>
          if x1 < 0 then
            j17 ()
          else
            if x2 < 0 then
              j17 ()
            else
              if x3 < 0 then
                j17 ()
              else
                j5 (Int32.ofInt 1)
        )
    )
theorem c_289 {a0 : Nat} {a1 : Int32} {a2 : Int32} {a3 : Int32} {a4 : Int32} {th : tH} {x : (Int32)} (h : m_289 a0 a1 a2 a3 a4 th = some x) : ∃ fs, th[a0]? = some (.inr (8, fs)) := gC_of h
theorem S_289 {L : Nat} (d : Nat) (a0 : Nat) (a1 : Int32) (a2 : Int32) (a3 : Int32) (a4 : Int32) (th : tH) : Wx L (fun x => (some (.int x), th)) (d + 1) 289 9 0 [(0, .ref a0), (1, .int a1), (2, .int a2), (3, .int a3), (4, .int a4)] [] th (m_289 a0 a1 a2 a3 a4 th) := by
  unfold m_289
  refine x_gC ?_
  refine x_P 1 rfl rfl rfl ?_
  refine x_P 2 rfl rfl rfl ?_
  refine x_P 3 rfl rfl rfl ?_
  refine x_P 5 rfl rfl rfl ?_
  refine x_callV rfl rfl rfl rfl rfl ⟨rfl, rfl⟩ (fun x h => c_235 h) (S_235 d a0 a1 a2 a4 th) (fun x1 hx1 => ?_)
  refine x_P (lv' := [(5, .int x1), (0, .ref a0), (1, .int a1), (2, .int a2), (3, .int a3), (4, .int a4)]) 10 rfl rfl rfl ?_
  refine x_P 11 rfl rfl rfl ?_
  refine x_P 12 rfl rfl rfl ?_
  refine x_P 13 rfl rfl rfl ?_
  refine x_P 15 rfl rfl rfl ?_
  refine x_callV rfl rfl rfl rfl rfl ⟨rfl, rfl⟩ (fun x h => c_235 h) (S_235 d a0 a2 a3 a4 th) (fun x2 hx2 => ?_)
  refine x_P (lv' := [(6, .int x2), (5, .int x1), (0, .ref a0), (1, .int a1), (2, .int a2), (3, .int a3), (4, .int a4)]) 20 rfl rfl rfl ?_
  refine x_P 21 rfl rfl rfl ?_
  refine x_P 22 rfl rfl rfl ?_
  refine x_P 23 rfl rfl rfl ?_
  refine x_P 25 rfl rfl rfl ?_
  refine x_callV rfl rfl rfl rfl rfl ⟨rfl, rfl⟩ (fun x h => c_235 h) (S_235 d a0 a3 a1 a4 th) (fun x3 hx3 => ?_)
  refine x_P (lv' := [(7, .int x3), (6, .int x2), (5, .int x1), (0, .ref a0), (1, .int a1), (2, .int a2), (3, .int a3), (4, .int a4)]) 30 rfl rfl rfl ?_
  refine x_P 32 rfl rfl rfl ?_
  refine x_jn 50 (fun v4 => [(5, .int x1), (6, .int x2), (7, .int x3)]) (fun v4 => [.int v4]) (fun v4 => th) (fun v4 => ?_) (fun j5 hj5 => ?_)
  · refine x_P (lv' := [(8, .int v4), (5, .int x1), (6, .int x2), (7, .int x3)]) 52 rfl rfl rfl ?_
    refine x_P 54 rfl rfl rfl ?_
    refine x_jn 77 (fun v6 => []) (fun v6 => [.int v6]) (fun v6 => th) (fun v6 => ?_) (fun j7 hj7 => ?_)
    · exact x_rB rfl
    · refine x_jn 72 (fun v8 => []) (fun v8 => []) (fun v8 => th) (fun v8 => ?_) (fun j9 hj9 => ?_)
      · refine x_P 73 rfl rfl rfl ?_
        refine x_P 77 rfl rfl rfl ?_
        exact x_lv (hj7 (Int32.ofInt 1)) trivial
      · refine x_if_ne rfl rfl (fun h15 => ?_) (fun h15 => ?_)
        · refine x_P 59 rfl rfl rfl ?_
          refine x_jn 76 (fun v10 => []) (fun v10 => []) (fun v10 => th) (fun v10 => ?_) (fun j11 hj11 => ?_)
          · refine x_P 77 rfl rfl rfl ?_
            exact x_lv (hj7 (Int32.ofInt 0)) trivial
          · refine x_if_gt rfl rfl (fun h14 => ?_) (fun h14 => ?_)
            · exact x_lv (hj11 ()) trivial
            · refine x_P 64 rfl rfl rfl ?_
              refine x_if_gt rfl rfl (fun h13 => ?_) (fun h13 => ?_)
              · exact x_lv (hj11 ()) trivial
              · refine x_P 69 rfl rfl rfl ?_
                refine x_if_gt rfl rfl (fun h12 => ?_) (fun h12 => ?_)
                · exact x_lv (hj11 ()) trivial
                · exact x_lv (hj9 ()) trivial
        · exact x_lv (hj9 ()) trivial
  · refine x_jn 49 (fun v16 => [(5, .int x1), (6, .int x2), (7, .int x3)]) (fun v16 => []) (fun v16 => th) (fun v16 => ?_) (fun j17 hj17 => ?_)
    · refine x_P 50 rfl rfl rfl ?_
      exact x_lv (hj5 (Int32.ofInt 0)) ⟨rfl, rfl, rfl, trivial⟩
    · refine x_if_lt rfl rfl (fun h20 => ?_) (fun h20 => ?_)
      · exact x_lv (hj17 ()) ⟨rfl, rfl, rfl, trivial⟩
      · refine x_P 37 rfl rfl rfl ?_
        refine x_if_lt rfl rfl (fun h19 => ?_) (fun h19 => ?_)
        · exact x_lv (hj17 ()) ⟨rfl, rfl, rfl, trivial⟩
        · refine x_P 42 rfl rfl rfl ?_
          refine x_if_lt rfl rfl (fun h18 => ?_) (fun h18 => ?_)
          · exact x_lv (hj17 ()) ⟨rfl, rfl, rfl, trivial⟩
          · refine x_P 46 rfl rfl rfl ?_
            refine x_P 50 rfl rfl rfl ?_
            exact x_lv (hj5 (Int32.ofInt 1)) ⟨rfl, rfl, rfl, trivial⟩
