/-! ===== programs ===== -/
-- 254 NineTreesModel.judge(II)I
noncomputable def m_254 (a0 : Nat) (a1 : Int32) (a2 : Int32) (th : tH) : Option (Int32 × tH) :=
  (gC th 8 a0).bind fun _ =>
  (m_190 (Int32.toInt64 a1) (Int64.ofNat 0) (Int64.ofNat 7) th).bind fun x1 =>
  jn (fun (v2 : Unit) =>
      (m_189 a0 (Int8.ofInt (-2)).toInt32 th).bind fun q4 =>
      some (q4.1, q4.2)
    ) (fun j3 =>
      if x1 = 0 then
        j3 ()
      else
        (m_190 (Int32.toInt64 a2) (Int64.ofNat 0) (Int64.ofNat 12) th).bind fun x5 =>
        if x5 = 0 then
          j3 ()
        else
          (m_201 a0 a1 th).bind fun q6 =>
          if q6.1 = 0 then
            (gN q6.2 8 a0 2).bind fun o7 =>
            (aI q6.2 o7 a1).bind fun x8 =>
            if a2 ≤ x8 then
              lp (fun (s9 : Int32 × Int32) nx10 ex11 =>
                  if a2 ≤ s9.2 then
                    ex11 ()
                  else
                    (gN q6.2 8 a0 3).bind fun o13 =>
                    (aN q6.2 o13 a1).bind fun o14 =>
                    (aJ q6.2 o14 s9.2).bind fun x15 =>
                    (gI q6.2 8 a0 10).bind fun x16 =>
                    (m_190 x15 (Int64.ofNat 0) (Int32.toInt64 (x16 - (Int32.ofInt 1))) q6.2).bind fun x17 =>
                    jn (fun (v18 : Unit) =>
                        some (s9.2, q6.2)
                      ) (fun j19 =>
                        if x17 = 0 then
                          j19 ()
                        else
                          (m_195 s9.1 (Int64.toInt32 x15) q6.2).bind fun x20 =>
                          if x20 = 0 then
                            (gN q6.2 8 a0 11).bind fun o21 =>
                            (aI q6.2 o21 (Int64.toInt32 x15)).bind fun x22 =>
                            if x22 = (Int32.ofInt 4) then
                              j19 ()
                            else
                              jn (fun (v23 : Unit) =>
                                  nx10 ((s9.1 ||| ((Int32.ofInt 1) <<< ((Int64.toInt32 x15) &&& 31))), (s9.2 + Int32.ofInt 1))
                                ) (fun j24 =>
                                  if s9.2 ≤ (Int32.ofInt 1) then
                                    j24 ()
                                  else
                                    (gN q6.2 8 a0 12).bind fun o25 =>
                                    (gN q6.2 8 a0 3).bind fun o26 =>
                                    (aN q6.2 o26 a1).bind fun o27 =>
                                    (aJ q6.2 o27 (Int32.ofInt 0)).bind fun x28 =>
                                    (aI q6.2 o25 (Int64.toInt32 x28)).bind fun x29 =>
                                    (gN q6.2 8 a0 12).bind fun o30 =>
                                    (gN q6.2 8 a0 3).bind fun o31 =>
                                    (aN q6.2 o31 a1).bind fun o32 =>
                                    (aJ q6.2 o32 (Int32.ofInt 1)).bind fun x33 =>
                                    (aI q6.2 o30 (Int64.toInt32 x33)).bind fun x34 =>
                                    (gN q6.2 8 a0 12).bind fun o35 =>
                                    (aI q6.2 o35 (Int64.toInt32 x15)).bind fun x36 =>
                                    (m_236 a0 x29 x34 x36 q6.2).bind fun x37 =>
                                    if x37 = 0 then
                                      some (s9.2, q6.2)
                                    else
                                      j24 ()
                                )
                          else
                            j19 ()
                      )
                ) 4096 ((Int32.ofInt 0), (Int32.ofInt 0)) (fun (x12 : Unit) =>
                  some ((Int32.ofInt (-1)), q6.2)
                )
            else
              (m_189 a0 (Int8.ofInt (-2)).toInt32 q6.2).bind fun q44 =>
              some (q44.1, q44.2)
          else
            some (q6.1, q6.2)
    )
theorem c_254 {a0 : Nat} {a1 : Int32} {a2 : Int32} {th : tH} {x : (Int32 × tH)} (h : m_254 a0 a1 a2 th = some x) : ∃ fs, th[a0]? = some (.inr (8, fs)) := gC_of h
theorem S_254 {L : Nat} (d : Nat) (a0 : Nat) (a1 : Int32) (a2 : Int32) (th : tH) : Wx L (fun x => (some (.int x.1), x.2)) (d + 3) 254 8 0 [(0, .ref a0), (1, .int a1), (2, .int a2)] [] th (m_254 a0 a1 a2 th) := by
  unfold m_254
  refine x_gC ?_
  refine x_P 1 rfl rfl rfl ?_
  refine x_P 2 rfl rfl rfl ?_
  refine x_P 3 rfl rfl rfl ?_
  refine x_P 6 rfl rfl rfl ?_
  refine x_callS rfl rfl rfl rfl rfl rfl ⟨rfl, rfl⟩ (S_190 (d + 2) (Int32.toInt64 a1) (Int64.ofNat 0) (Int64.ofNat 7) th) (fun x1 hx1 => ?_)
  refine x_jn 24 (fun v2 => [(0, .ref a0)]) (fun v2 => []) (fun v2 => th) (fun v2 => ?_) (fun j3 hj3 => ?_)
  · refine x_P 25 rfl rfl rfl ?_
    refine x_P 27 rfl rfl rfl ?_
    refine x_callV rfl rfl rfl rfl rfl ⟨rfl, rfl⟩ (fun x h => c_189 h) (S_189 (d + 1) a0 (Int8.ofInt (-2)).toInt32 th) (fun q4 hq4 => ?_)
    exact x_retI (x := (q4.1, q4.2)) rfl
  · refine x_if_eq rfl rfl (fun h48 => ?_) (fun h48 => ?_)
    · exact x_lv (hj3 ()) ⟨rfl, trivial⟩
    · refine x_P 13 rfl rfl rfl ?_
      refine x_P 14 rfl rfl rfl ?_
      refine x_P 15 rfl rfl rfl ?_
      refine x_P 18 rfl rfl rfl ?_
      refine x_callS rfl rfl rfl rfl rfl rfl ⟨rfl, rfl⟩ (S_190 (d + 2) (Int32.toInt64 a2) (Int64.ofNat 0) (Int64.ofNat 12) th) (fun x5 hx5 => ?_)
      refine x_if_ne rfl rfl (fun h47 => ?_) (fun h47 => ?_)
      · exact x_lv (hj3 ()) ⟨rfl, trivial⟩
      · refine x_P 32 rfl rfl rfl ?_
        refine x_P 33 rfl rfl rfl ?_
        refine x_callV rfl rfl rfl rfl rfl ⟨rfl, rfl⟩ (fun x h => c_201 h) (S_201 d a0 a1 th) (fun q6 hq6 => ?_)
        refine x_P (lv' := [(3, .int q6.1), (0, .ref a0), (1, .int a1), (2, .int a2)]) 37 rfl rfl rfl ?_
        refine x_P 38 rfl rfl rfl ?_
        refine x_if_eq rfl rfl (fun h46 => ?_) (fun h46 => ?_)
        · refine x_P 44 rfl rfl rfl ?_
          refine x_gN rfl (fun o7 ho7 => ?_)
          refine x_P 48 rfl rfl rfl ?_
          refine x_aI rfl ⟨rfl, rfl⟩ (fun x8 hx8 => ?_)
          refine x_P 50 rfl rfl rfl ?_
          refine x_ic_ge rfl rfl (fun h45 => ?_) (fun h45 => ?_)
          · refine x_P 61 rfl rfl rfl ?_
            refine x_P (lv' := [(4, .int (Int32.ofInt 0)), (3, .int q6.1), (0, .ref a0), (1, .int a1), (2, .int a2)]) 63 rfl rfl rfl ?_
            refine x_P 64 rfl rfl rfl ?_
            refine x_P (lv' := [(5, .int (Int32.ofInt 0)), (4, .int (Int32.ofInt 0)), (3, .int q6.1), (0, .ref a0), (1, .int a1), (2, .int a2)]) 66 rfl rfl rfl ?_
            refine x_lv (lv := [(0, .ref a0), (1, .int a1), (2, .int a2), (4, .int (Int32.ofInt 0)), (5, .int (Int32.ofInt 0))]) (x_lp 193 (fun s9 => [(0, .ref a0), (1, .int a1), (2, .int a2), (4, .int s9.1), (5, .int s9.2)]) (fun s9 => q6.2) (fun x12 => []) (fun x12 => q6.2) (fun s9 nx10 hnx10 ex11 hex11 => ?_) (fun x12 => ?_) 4096 ((Int32.ofInt 0), (Int32.ofInt 0))) ⟨rfl, rfl, rfl, rfl, rfl, trivial⟩
            · refine x_P 68 rfl rfl rfl ?_
              refine x_P 69 rfl rfl rfl ?_
              refine x_ic_ge rfl rfl (fun h43 => ?_) (fun h43 => ?_)
              · exact x_lv (hex11 ()) trivial
              · refine x_P 73 rfl rfl rfl ?_
                refine x_gN rfl (fun o13 ho13 => ?_)
                refine x_P 77 rfl rfl rfl ?_
                refine x_aN rfl ⟨rfl, rfl⟩ (fun o14 ho14 => ?_)
                refine x_P 80 rfl rfl rfl ?_
                refine x_aJ rfl ⟨rfl, rfl⟩ (fun x15 hx15 => ?_)
                refine x_P (lv' := [(6, .long x15), (0, .ref a0), (1, .int a1), (2, .int a2), (4, .int s9.1), (5, .int s9.2)]) 83 rfl rfl rfl ?_
                refine x_P 85 rfl rfl rfl ?_
                refine x_P 86 rfl rfl rfl ?_
                refine x_P 87 rfl rfl rfl ?_
                refine x_gI rfl (fun x16 hx16 => ?_)
                refine x_P 91 rfl rfl rfl ?_
                refine x_P 92 rfl rfl rfl ?_
                refine x_P 93 rfl rfl rfl ?_
                refine x_callS rfl rfl rfl rfl rfl rfl ⟨rfl, rfl⟩ (S_190 (d + 2) x15 (Int64.ofNat 0) (Int32.toInt64 (x16 - (Int32.ofInt 1))) q6.2) (fun x17 hx17 => ?_)
                refine x_jn 122 (fun v18 => [(5, .int s9.2)]) (fun v18 => []) (fun v18 => q6.2) (fun v18 => ?_) (fun j19 hj19 => ?_)
                · refine x_P 124 rfl rfl rfl ?_
                  exact x_retI (x := (s9.2, q6.2)) rfl
                · refine x_if_eq rfl rfl (fun h42 => ?_) (fun h42 => ?_)
                  · exact x_lv (hj19 ()) ⟨rfl, trivial⟩
                  · refine x_P 101 rfl rfl rfl ?_
                    refine x_P 103 rfl rfl rfl ?_
                    refine x_P 104 rfl rfl rfl ?_
                    refine x_callS rfl rfl rfl rfl rfl rfl ⟨rfl, rfl⟩ (S_195 (d + 2) s9.1 (Int64.toInt32 x15) q6.2) (fun x20 hx20 => ?_)
                    refine x_if_ne rfl rfl (fun h41 => ?_) (fun h41 => ?_)
                    · refine x_P 111 rfl rfl rfl ?_
                      refine x_gN rfl (fun o21 ho21 => ?_)
                      refine x_P 116 rfl rfl rfl ?_
                      refine x_P 117 rfl rfl rfl ?_
                      refine x_aI rfl ⟨rfl, rfl⟩ (fun x22 hx22 => ?_)
                      refine x_P 119 rfl rfl rfl ?_
                      refine x_ic_ne rfl rfl (fun h40 => ?_) (fun h40 => ?_)
                      · exact x_lv (hj19 ()) ⟨rfl, trivial⟩
                      · refine x_P 127 rfl rfl rfl ?_
                        refine x_P 128 rfl rfl rfl ?_
                        refine x_jn 177 (fun v23 => [(0, .ref a0), (1, .int a1), (2, .int a2), (4, .int s9.1), (5, .int s9.2), (6, .long x15)]) (fun v23 => []) (fun v23 => q6.2) (fun v23 => ?_) (fun j24 hj24 => ?_)
                        · refine x_P 179 rfl rfl rfl ?_
                          refine x_P 180 rfl rfl rfl ?_
                          refine x_P 182 rfl rfl rfl ?_
                          refine x_P 183 rfl rfl rfl ?_
                          refine x_P 184 rfl rfl rfl ?_
                          refine x_P 185 rfl rfl rfl ?_
                          refine x_P (lv' := [(4, .int (s9.1 ||| ((Int32.ofInt 1) <<< ((Int64.toInt32 x15) &&& 31)))), (0, .ref a0), (1, .int a1), (2, .int a2), (5, .int s9.2), (6, .long x15)]) 187 rfl rfl rfl ?_
                          refine x_P (lv' := [(5, .int (s9.2 + Int32.ofInt 1)), (4, .int (s9.1 ||| ((Int32.ofInt 1) <<< ((Int64.toInt32 x15) &&& 31)))), (0, .ref a0), (1, .int a1), (2, .int a2), (6, .long x15)]) 190 rfl rfl rfl ?_
                          refine x_P 66 rfl rfl rfl ?_
                          exact x_lv (hnx10 ((s9.1 ||| ((Int32.ofInt 1) <<< ((Int64.toInt32 x15) &&& 31))), (s9.2 + Int32.ofInt 1))) ⟨rfl, rfl, rfl, rfl, rfl, trivial⟩
                        · refine x_ic_le rfl rfl (fun h39 => ?_) (fun h39 => ?_)
                          · exact x_lv (hj24 ()) ⟨rfl, rfl, rfl, rfl, rfl, rfl, trivial⟩
                          · refine x_P 132 rfl rfl rfl ?_
                            refine x_P 133 rfl rfl rfl ?_
                            refine x_gN rfl (fun o25 ho25 => ?_)
                            refine x_P 137 rfl rfl rfl ?_
                            refine x_gN rfl (fun o26 ho26 => ?_)
                            refine x_P 141 rfl rfl rfl ?_
                            refine x_aN rfl ⟨rfl, rfl⟩ (fun o27 ho27 => ?_)
                            refine x_P 143 rfl rfl rfl ?_
                            refine x_aJ rfl ⟨rfl, rfl⟩ (fun x28 hx28 => ?_)
                            refine x_P 145 rfl rfl rfl ?_
                            refine x_aI rfl ⟨rfl, rfl⟩ (fun x29 hx29 => ?_)
                            refine x_P 147 rfl rfl rfl ?_
                            refine x_gN rfl (fun o30 ho30 => ?_)
                            refine x_P 151 rfl rfl rfl ?_
                            refine x_gN rfl (fun o31 ho31 => ?_)
                            refine x_P 155 rfl rfl rfl ?_
                            refine x_aN rfl ⟨rfl, rfl⟩ (fun o32 ho32 => ?_)
                            refine x_P 157 rfl rfl rfl ?_
                            refine x_aJ rfl ⟨rfl, rfl⟩ (fun x33 hx33 => ?_)
                            refine x_P 159 rfl rfl rfl ?_
                            refine x_aI rfl ⟨rfl, rfl⟩ (fun x34 hx34 => ?_)
                            refine x_P 161 rfl rfl rfl ?_
                            refine x_gN rfl (fun o35 ho35 => ?_)
                            refine x_P 166 rfl rfl rfl ?_
                            refine x_P 167 rfl rfl rfl ?_
                            refine x_aI rfl ⟨rfl, rfl⟩ (fun x36 hx36 => ?_)
                            refine x_callV rfl rfl rfl rfl rfl ⟨rfl, rfl⟩ (fun x h => c_236 h) (S_236 (d + 1) a0 x29 x34 x36 q6.2) (fun x37 hx37 => ?_)
                            refine x_if_ne rfl rfl (fun h38 => ?_) (fun h38 => ?_)
                            · refine x_P 176 rfl rfl rfl ?_
                              exact x_retI (x := (s9.2, q6.2)) rfl
                            · exact x_lv (hj24 ()) ⟨rfl, rfl, rfl, rfl, rfl, rfl, trivial⟩
                    · exact x_lv (hj19 ()) ⟨rfl, trivial⟩
            · refine x_P 194 rfl rfl rfl ?_
              exact x_retI (x := ((Int32.ofInt (-1)), q6.2)) rfl
          · refine x_P 54 rfl rfl rfl ?_
            refine x_P 56 rfl rfl rfl ?_
            refine x_callV rfl rfl rfl rfl rfl ⟨rfl, rfl⟩ (fun x h => c_189 h) (S_189 (d + 1) a0 (Int8.ofInt (-2)).toInt32 q6.2) (fun q44 hq44 => ?_)
            exact x_retI (x := (q44.1, q44.2)) rfl
        · refine x_P 42 rfl rfl rfl ?_
          exact x_retI (x := (q6.1, q6.2)) rfl
-- 255 NineTreesModel.first(II)I
noncomputable def m_255 (a0 : Int32) (a1 : Int32) (th : tH) : Option (Int32) :=
  lp (fun (s1 : Int32) nx2 ex3 =>
      (m_195 a0 s1 th).bind fun x5 =>
      if x5 = 0 then
        nx2 (s1 + Int32.ofInt 1)
      else
        ex3 s1
    ) 4096 a1 (fun (x4 : Int32) =>
      some x4
    )
theorem S_255 {L : Nat} (d : Nat) (a0 : Int32) (a1 : Int32) (th : tH) : Wx L (fun x => (some (.int x), th)) (d + 1) 255 3 0 [(0, .int a0), (1, .int a1)] [] th (m_255 a0 a1 th) := by
  unfold m_255
  refine x_P 1 rfl rfl rfl ?_
  refine x_P (lv' := [(2, .int a1), (0, .int a0), (1, .int a1)]) 2 rfl rfl rfl ?_
  refine x_lv (lv := [(0, .int a0), (2, .int a1)]) (x_lp 16 (fun s1 => [(0, .int a0), (2, .int s1)]) (fun s1 => th) (fun x4 => [(2, .int x4)]) (fun x4 => th) (fun s1 nx2 hnx2 ex3 hex3 => ?_) (fun x4 => ?_) 4096 a1) ⟨rfl, rfl, trivial⟩
  · refine x_P 3 rfl rfl rfl ?_
    refine x_P 4 rfl rfl rfl ?_
    refine x_callS rfl rfl rfl rfl rfl rfl ⟨rfl, rfl⟩ (S_195 d a0 s1 th) (fun x5 hx5 => ?_)
    refine x_if_ne rfl rfl (fun h6 => ?_) (fun h6 => ?_)
    · refine x_P (lv' := [(2, .int (s1 + Int32.ofInt 1)), (0, .int a0)]) 13 rfl rfl rfl ?_
      refine x_P 2 rfl rfl rfl ?_
      exact x_lv (hnx2 (s1 + Int32.ofInt 1)) ⟨rfl, rfl, trivial⟩
    · exact x_lv (hex3 s1) ⟨rfl, trivial⟩
  · refine x_P 17 rfl rfl rfl ?_
    exact x_retI (x := x4) rfl
-- 256 NineTreesModel.gap(I)I
noncomputable def m_256 (a0 : Nat) (a1 : Int32) (th : tH) : Option (Int32 × tH) :=
  (gC th 8 a0).bind fun _ =>
  (m_190 (Int32.toInt64 a1) (Int64.ofNat 0) (Int64.ofNat 1) th).bind fun x1 =>
  if x1 = 0 then
    (m_189 a0 (Int8.ofInt (-2)).toInt32 th).bind fun q58 =>
    some (q58.1, q58.2)
  else
    (m_240 a0 th).bind fun th2 =>
    lp (fun (s3 : Int32 × Int32 × Int64 × Int64 × Int32) nx4 ex5 =>
        (gI th2 8 a0 27).bind fun x12 =>
        if x12 ≤ s3.2.2.2.2 then
          ex5 (s3.1, s3.2.1)
        else
          (gN th2 8 a0 26).bind fun o13 =>
          (aI th2 o13 s3.2.2.2.2).bind fun x14 =>
          (m_255 x14 (Int32.ofInt 0) th2).bind fun x15 =>
          (gN th2 8 a0 26).bind fun o16 =>
          (aI th2 o16 s3.2.2.2.2).bind fun x17 =>
          (m_255 x17 (x15 + (Int32.ofInt 1)) th2).bind fun x18 =>
          (gN th2 8 a0 12).bind fun o19 =>
          (aI th2 o19 x15).bind fun x20 =>
          (gN th2 8 a0 12).bind fun o21 =>
          (aI th2 o21 x18).bind fun x22 =>
          (m_238 a0 x20 x22 th2).bind fun x23 =>
          lp (fun (s24 : Int32 × Int32 × Int64 × Int64 × Int32) nx25 ex26 =>
              (gI th2 8 a0 10).bind fun x28 =>
              if x28 ≤ s24.2.2.2.2 then
                ex26 (s24.1, s24.2.1, s24.2.2.1, s24.2.2.2.1)
              else
                (gN th2 8 a0 12).bind fun o29 =>
                (aI th2 o29 x15).bind fun x30 =>
                (gN th2 8 a0 12).bind fun o31 =>
                (aI th2 o31 x18).bind fun x32 =>
                (gN th2 8 a0 12).bind fun o33 =>
                (aI th2 o33 s24.2.2.2.2).bind fun x34 =>
                (m_235 a0 x30 x32 x34 th2).bind fun x35 =>
                (gN th2 8 a0 11).bind fun o36 =>
                (aI th2 o36 s24.2.2.2.2).bind fun x37 =>
                jn (fun (v38 : Int32) =>
                    jn (fun (v40 : Int32 × Int32 × Int64 × Int64) =>
                        nx25 (v40.1, v40.2.1, v40.2.2.1, v40.2.2.2, (s24.2.2.2.2 + Int32.ofInt 1))
                      ) (fun j41 =>
                        if v38 = 0 then
                          j41 (s24.1, s24.2.1, s24.2.2.1, s24.2.2.2.1)
                        else
                          jn (fun (v42 : Unit) =>
                              (gN th2 8 a0 26).bind fun o44 =>
                              (aI th2 o44 s3.2.2.2.2).bind fun x45 =>
                              j41 (x45, s24.2.2.2.2, ((Int32.toInt64 x35) * (Int32.toInt64 x35)), (Int32.toInt64 x23))
                            ) (fun j43 =>
                              if s24.1 = (Int32.ofInt (-1)) then
                                j43 ()
                              else
                                if 0 ≤ (lg_cmp (((Int32.toInt64 x35) * (Int32.toInt64 x35)) * s24.2.2.2.1) (s24.2.2.1 * (Int32.toInt64 x23))) then
                                  j41 (s24.1, s24.2.1, s24.2.2.1, s24.2.2.2.1)
                                else
                                  j43 ()
                            )
                      )
                  ) (fun j39 =>
                    jn (fun (v49 : Unit) =>
                        j39 (Int32.ofInt 0)
                      ) (fun j50 =>
                        if x37 = (Int32.ofInt 4) then
                          j50 ()
                        else
                          (gN th2 8 a0 26).bind fun o51 =>
                          (aI th2 o51 s3.2.2.2.2).bind fun x52 =>
                          (m_195 x52 s24.2.2.2.2 th2).bind fun x53 =>
                          if x53 = 0 then
                            j39 (Int32.ofInt 1)
                          else
                            j50 ()
                      )
                  )
            ) 4096 (s3.1, s3.2.1, s3.2.2.1, s3.2.2.2.1, (Int32.ofInt 0)) (fun (x27 : Int32 × Int32 × Int64 × Int64) =>
              nx4 (x27.1, x27.2.1, x27.2.2.1, x27.2.2.2, (s3.2.2.2.2 + Int32.ofInt 1))
            )
      ) 4096 ((Int32.ofInt (-1)), (Int32.ofInt (-1)), (Int64.ofNat 0), (Int64.ofNat 1), (Int32.ofInt 0)) (fun (x6 : Int32 × Int32) =>
        if x6.1 = (Int32.ofInt (-1)) then
          (m_189 a0 (Int8.ofInt (-5)).toInt32 th2).bind fun q10 =>
          some (q10.1, q10.2)
        else
          jn (fun (v7 : Int32) =>
              some (v7, th2)
            ) (fun j8 =>
              if a1 = 0 then
                j8 x6.1
              else
                j8 x6.2
            )
      )
theorem c_256 {a0 : Nat} {a1 : Int32} {th : tH} {x : (Int32 × tH)} (h : m_256 a0 a1 th = some x) : ∃ fs, th[a0]? = some (.inr (8, fs)) := gC_of h
theorem S_256 {L : Nat} (d : Nat) (a0 : Nat) (a1 : Int32) (th : tH) : Wx L (fun x => (some (.int x.1), x.2)) (d + 4) 256 17 0 [(0, .ref a0), (1, .int a1)] [] th (m_256 a0 a1 th) := by
  unfold m_256
  refine x_gC ?_
  refine x_P 1 rfl rfl rfl ?_
  refine x_P 2 rfl rfl rfl ?_
  refine x_P 3 rfl rfl rfl ?_
  refine x_P 4 rfl rfl rfl ?_
  refine x_callS rfl rfl rfl rfl rfl rfl ⟨rfl, rfl⟩ (S_190 (d + 3) (Int32.toInt64 a1) (Int64.ofNat 0) (Int64.ofNat 1) th) (fun x1 hx1 => ?_)
  refine x_if_ne rfl rfl (fun h59 => ?_) (fun h59 => ?_)
  · refine x_P 11 rfl rfl rfl ?_
    refine x_P 13 rfl rfl rfl ?_
    refine x_callV rfl rfl rfl rfl rfl ⟨rfl, rfl⟩ (fun x h => c_189 h) (S_189 (d + 2) a0 (Int8.ofInt (-2)).toInt32 th) (fun q58 hq58 => ?_)
    exact x_retI (x := (q58.1, q58.2)) rfl
  · refine x_P 18 rfl rfl rfl ?_
    refine x_callW rfl rfl rfl rfl rfl ⟨rfl, rfl⟩ (fun x h => c_240 h) (S_240 d a0 th) (fun th2 hth2 => ?_)
    refine x_P 22 rfl rfl rfl ?_
    refine x_P (lv' := [(2, .int (Int32.ofInt (-1))), (0, .ref a0), (1, .int a1)]) 23 rfl rfl rfl ?_
    refine x_P 24 rfl rfl rfl ?_
    refine x_P (lv' := [(3, .int (Int32.ofInt (-1))), (2, .int (Int32.ofInt (-1))), (0, .ref a0), (1, .int a1)]) 25 rfl rfl rfl ?_
    refine x_P 26 rfl rfl rfl ?_
    refine x_P (lv' := [(4, .long (Int64.ofNat 0)), (3, .int (Int32.ofInt (-1))), (2, .int (Int32.ofInt (-1))), (0, .ref a0), (1, .int a1)]) 28 rfl rfl rfl ?_
    refine x_P 29 rfl rfl rfl ?_
    refine x_P (lv' := [(6, .long (Int64.ofNat 1)), (4, .long (Int64.ofNat 0)), (3, .int (Int32.ofInt (-1))), (2, .int (Int32.ofInt (-1))), (0, .ref a0), (1, .int a1)]) 31 rfl rfl rfl ?_
    refine x_P 32 rfl rfl rfl ?_
    refine x_P (lv' := [(8, .int (Int32.ofInt 0)), (6, .long (Int64.ofNat 1)), (4, .long (Int64.ofNat 0)), (3, .int (Int32.ofInt (-1))), (2, .int (Int32.ofInt (-1))), (0, .ref a0), (1, .int a1)]) 34 rfl rfl rfl ?_
    refine x_lv (lv := [(0, .ref a0), (1, .int a1), (2, .int (Int32.ofInt (-1))), (3, .int (Int32.ofInt (-1))), (4, .long (Int64.ofNat 0)), (6, .long (Int64.ofNat 1)), (8, .int (Int32.ofInt 0))]) (x_lp 227 (fun s3 => [(0, .ref a0), (1, .int a1), (2, .int s3.1), (3, .int s3.2.1), (4, .long s3.2.2.1), (6, .long s3.2.2.2.1), (8, .int s3.2.2.2.2)]) (fun s3 => th2) (fun x6 => [(0, .ref a0), (1, .int a1), (2, .int x6.1), (3, .int x6.2)]) (fun x6 => th2) (fun s3 nx4 hnx4 ex5 hex5 => ?_) (fun x6 => ?_) 4096 ((Int32.ofInt (-1)), (Int32.ofInt (-1)), (Int64.ofNat 0), (Int64.ofNat 1), (Int32.ofInt 0))) ⟨rfl, rfl, rfl, rfl, rfl, rfl, rfl, trivial⟩
    · refine x_P 36 rfl rfl rfl ?_
      refine x_P 37 rfl rfl rfl ?_
      refine x_gI rfl (fun x12 hx12 => ?_)
      refine x_ic_ge rfl rfl (fun h57 => ?_) (fun h57 => ?_)
      · exact x_lv (hex5 (s3.1, s3.2.1)) ⟨rfl, rfl, rfl, rfl, trivial⟩
      · refine x_P 44 rfl rfl rfl ?_
        refine x_gN rfl (fun o13 ho13 => ?_)
        refine x_P 49 rfl rfl rfl ?_
        refine x_aI rfl ⟨rfl, rfl⟩ (fun x14 hx14 => ?_)
        refine x_P 51 rfl rfl rfl ?_
        refine x_callS rfl rfl rfl rfl rfl rfl ⟨rfl, rfl⟩ (S_255 (d + 2) x14 (Int32.ofInt 0) th2) (fun x15 hx15 => ?_)
        refine x_P (lv' := [(9, .int x15), (0, .ref a0), (1, .int a1), (2, .int s3.1), (3, .int s3.2.1), (4, .long s3.2.2.1), (6, .long s3.2.2.2.1), (8, .int s3.2.2.2.2)]) 56 rfl rfl rfl ?_
        refine x_P 57 rfl rfl rfl ?_
        refine x_gN rfl (fun o16 ho16 => ?_)
        refine x_P 62 rfl rfl rfl ?_
        refine x_aI rfl ⟨rfl, rfl⟩ (fun x17 hx17 => ?_)
        refine x_P 65 rfl rfl rfl ?_
        refine x_P 66 rfl rfl rfl ?_
        refine x_P 67 rfl rfl rfl ?_
        refine x_callS rfl rfl rfl rfl rfl rfl ⟨rfl, rfl⟩ (S_255 (d + 2) x17 (x15 + (Int32.ofInt 1)) th2) (fun x18 hx18 => ?_)
        refine x_P (lv' := [(10, .int x18), (9, .int x15), (0, .ref a0), (1, .int a1), (2, .int s3.1), (3, .int s3.2.1), (4, .long s3.2.2.1), (6, .long s3.2.2.2.1), (8, .int s3.2.2.2.2)]) 72 rfl rfl rfl ?_
        refine x_P 73 rfl rfl rfl ?_
        refine x_P 74 rfl rfl rfl ?_
        refine x_gN rfl (fun o19 ho19 => ?_)
        refine x_P 79 rfl rfl rfl ?_
        refine x_aI rfl ⟨rfl, rfl⟩ (fun x20 hx20 => ?_)
        refine x_P 81 rfl rfl rfl ?_
        refine x_gN rfl (fun o21 ho21 => ?_)
        refine x_P 86 rfl rfl rfl ?_
        refine x_aI rfl ⟨rfl, rfl⟩ (fun x22 hx22 => ?_)
        refine x_callV rfl rfl rfl rfl rfl ⟨rfl, rfl⟩ (fun x h => c_238 h) (S_238 (d + 3) a0 x20 x22 th2) (fun x23 hx23 => ?_)
        refine x_P 91 rfl rfl rfl ?_
        refine x_P (lv' := [(11, .long (Int32.toInt64 x23)), (10, .int x18), (9, .int x15), (0, .ref a0), (1, .int a1), (2, .int s3.1), (3, .int s3.2.1), (4, .long s3.2.2.1), (6, .long s3.2.2.2.1), (8, .int s3.2.2.2.2)]) 93 rfl rfl rfl ?_
        refine x_P 94 rfl rfl rfl ?_
        refine x_P (lv' := [(13, .int (Int32.ofInt 0)), (11, .long (Int32.toInt64 x23)), (10, .int x18), (9, .int x15), (0, .ref a0), (1, .int a1), (2, .int s3.1), (3, .int s3.2.1), (4, .long s3.2.2.1), (6, .long s3.2.2.2.1), (8, .int s3.2.2.2.2)]) 96 rfl rfl rfl ?_
        refine x_lv (lv := [(0, .ref a0), (1, .int a1), (2, .int s3.1), (3, .int s3.2.1), (4, .long s3.2.2.1), (6, .long s3.2.2.2.1), (8, .int s3.2.2.2.2), (9, .int x15), (10, .int x18), (11, .long (Int32.toInt64 x23)), (13, .int (Int32.ofInt 0))]) (x_lp 221 (fun s24 => [(0, .ref a0), (1, .int a1), (2, .int s24.1), (3, .int s24.2.1), (4, .long s24.2.2.1), (6, .long s24.2.2.2.1), (8, .int s3.2.2.2.2), (9, .int x15), (10, .int x18), (11, .long (Int32.toInt64 x23)), (13, .int s24.2.2.2.2)]) (fun s24 => th2) (fun x27 => [(0, .ref a0), (1, .int a1), (2, .int x27.1), (3, .int x27.2.1), (4, .long x27.2.2.1), (6, .long x27.2.2.2), (8, .int s3.2.2.2.2)]) (fun x27 => th2) (fun s24 nx25 hnx25 ex26 hex26 => ?_) (fun x27 => ?_) 4096 (s3.1, s3.2.1, s3.2.2.1, s3.2.2.2.1, (Int32.ofInt 0))) ⟨rfl, rfl, rfl, rfl, rfl, rfl, rfl, rfl, rfl, rfl, rfl, trivial⟩
        · refine x_P 98 rfl rfl rfl ?_
          refine x_P 99 rfl rfl rfl ?_
          refine x_gI rfl (fun x28 hx28 => ?_)
          refine x_ic_ge rfl rfl (fun h56 => ?_) (fun h56 => ?_)
          · exact x_lv (hex26 (s24.1, s24.2.1, s24.2.2.1, s24.2.2.2.1)) ⟨rfl, rfl, rfl, rfl, rfl, rfl, rfl, trivial⟩
          · refine x_P 106 rfl rfl rfl ?_
            refine x_P 107 rfl rfl rfl ?_
            refine x_gN rfl (fun o29 ho29 => ?_)
            refine x_P 112 rfl rfl rfl ?_
            refine x_aI rfl ⟨rfl, rfl⟩ (fun x30 hx30 => ?_)
            refine x_P 114 rfl rfl rfl ?_
            refine x_gN rfl (fun o31 ho31 => ?_)
            refine x_P 119 rfl rfl rfl ?_
            refine x_aI rfl ⟨rfl, rfl⟩ (fun x32 hx32 => ?_)
            refine x_P 121 rfl rfl rfl ?_
            refine x_gN rfl (fun o33 ho33 => ?_)
            refine x_P 126 rfl rfl rfl ?_
            refine x_aI rfl ⟨rfl, rfl⟩ (fun x34 hx34 => ?_)
            refine x_callV rfl rfl rfl rfl rfl ⟨rfl, rfl⟩ (fun x h => c_235 h) (S_235 (d + 3) a0 x30 x32 x34 th2) (fun x35 hx35 => ?_)
            refine x_P 131 rfl rfl rfl ?_
            refine x_P (lv' := [(14, .long (Int32.toInt64 x35)), (0, .ref a0), (1, .int a1), (2, .int s24.1), (3, .int s24.2.1), (4, .long s24.2.2.1), (6, .long s24.2.2.2.1), (8, .int s3.2.2.2.2), (9, .int x15), (10, .int x18), (11, .long (Int32.toInt64 x23)), (13, .int s24.2.2.2.2)]) 133 rfl rfl rfl ?_
            refine x_P 134 rfl rfl rfl ?_
            refine x_gN rfl (fun o36 ho36 => ?_)
            refine x_P 139 rfl rfl rfl ?_
            refine x_aI rfl ⟨rfl, rfl⟩ (fun x37 hx37 => ?_)
            refine x_P 141 rfl rfl rfl ?_
            refine x_jn 164 (fun v38 => [(0, .ref a0), (1, .int a1), (2, .int s24.1), (3, .int s24.2.1), (4, .long s24.2.2.1), (6, .long s24.2.2.2.1), (8, .int s3.2.2.2.2), (9, .int x15), (10, .int x18), (11, .long (Int32.toInt64 x23)), (13, .int s24.2.2.2.2), (14, .long (Int32.toInt64 x35))]) (fun v38 => [.int v38]) (fun v38 => th2) (fun v38 => ?_) (fun j39 hj39 => ?_)
            · refine x_P (lv' := [(16, .int v38), (0, .ref a0), (1, .int a1), (2, .int s24.1), (3, .int s24.2.1), (4, .long s24.2.2.1), (6, .long s24.2.2.2.1), (8, .int s3.2.2.2.2), (9, .int x15), (10, .int x18), (11, .long (Int32.toInt64 x23)), (13, .int s24.2.2.2.2), (14, .long (Int32.toInt64 x35))]) 166 rfl rfl rfl ?_
              refine x_P 168 rfl rfl rfl ?_
              refine x_jn 215 (fun v40 => [(0, .ref a0), (1, .int a1), (2, .int v40.1), (3, .int v40.2.1), (4, .long v40.2.2.1), (6, .long v40.2.2.2), (8, .int s3.2.2.2.2), (9, .int x15), (10, .int x18), (11, .long (Int32.toInt64 x23)), (13, .int s24.2.2.2.2)]) (fun v40 => []) (fun v40 => th2) (fun v40 => ?_) (fun j41 hj41 => ?_)
              · refine x_P (lv' := [(13, .int (s24.2.2.2.2 + Int32.ofInt 1)), (0, .ref a0), (1, .int a1), (2, .int v40.1), (3, .int v40.2.1), (4, .long v40.2.2.1), (6, .long v40.2.2.2), (8, .int s3.2.2.2.2), (9, .int x15), (10, .int x18), (11, .long (Int32.toInt64 x23))]) 218 rfl rfl rfl ?_
                refine x_P 96 rfl rfl rfl ?_
                exact x_lv (hnx25 (v40.1, v40.2.1, v40.2.2.1, v40.2.2.2, (s24.2.2.2.2 + Int32.ofInt 1))) ⟨rfl, rfl, rfl, rfl, rfl, rfl, rfl, rfl, rfl, rfl, rfl, trivial⟩
              · refine x_if_eq rfl rfl (fun h48 => ?_) (fun h48 => ?_)
                · exact x_lv (hj41 (s24.1, s24.2.1, s24.2.2.1, s24.2.2.2.1)) ⟨rfl, rfl, rfl, rfl, rfl, rfl, rfl, rfl, rfl, rfl, rfl, trivial⟩
                · refine x_P 172 rfl rfl rfl ?_
                  refine x_P 173 rfl rfl rfl ?_
                  refine x_jn 193 (fun v42 => [(0, .ref a0), (1, .int a1), (8, .int s3.2.2.2.2), (9, .int x15), (10, .int x18), (11, .long (Int32.toInt64 x23)), (13, .int s24.2.2.2.2), (14, .long (Int32.toInt64 x35))]) (fun v42 => []) (fun v42 => th2) (fun v42 => ?_) (fun j43 hj43 => ?_)
                  · refine x_P 194 rfl rfl rfl ?_
                    refine x_gN rfl (fun o44 ho44 => ?_)
                    refine x_P 199 rfl rfl rfl ?_
                    refine x_aI rfl ⟨rfl, rfl⟩ (fun x45 hx45 => ?_)
                    refine x_P (lv' := [(2, .int x45), (0, .ref a0), (1, .int a1), (8, .int s3.2.2.2.2), (9, .int x15), (10, .int x18), (11, .long (Int32.toInt64 x23)), (13, .int s24.2.2.2.2), (14, .long (Int32.toInt64 x35))]) 201 rfl rfl rfl ?_
                    refine x_P 203 rfl rfl rfl ?_
                    refine x_P (lv' := [(3, .int s24.2.2.2.2), (2, .int x45), (0, .ref a0), (1, .int a1), (8, .int s3.2.2.2.2), (9, .int x15), (10, .int x18), (11, .long (Int32.toInt64 x23)), (13, .int s24.2.2.2.2), (14, .long (Int32.toInt64 x35))]) 204 rfl rfl rfl ?_
                    refine x_P 206 rfl rfl rfl ?_
                    refine x_P 208 rfl rfl rfl ?_
                    refine x_P 209 rfl rfl rfl ?_
                    refine x_P (lv' := [(4, .long ((Int32.toInt64 x35) * (Int32.toInt64 x35))), (3, .int s24.2.2.2.2), (2, .int x45), (0, .ref a0), (1, .int a1), (8, .int s3.2.2.2.2), (9, .int x15), (10, .int x18), (11, .long (Int32.toInt64 x23)), (13, .int s24.2.2.2.2), (14, .long (Int32.toInt64 x35))]) 211 rfl rfl rfl ?_
                    refine x_P 213 rfl rfl rfl ?_
                    refine x_P (lv' := [(6, .long (Int32.toInt64 x23)), (4, .long ((Int32.toInt64 x35) * (Int32.toInt64 x35))), (3, .int s24.2.2.2.2), (2, .int x45), (0, .ref a0), (1, .int a1), (8, .int s3.2.2.2.2), (9, .int x15), (10, .int x18), (11, .long (Int32.toInt64 x23)), (13, .int s24.2.2.2.2), (14, .long (Int32.toInt64 x35))]) 215 rfl rfl rfl ?_
                    exact x_lv (hj41 (x45, s24.2.2.2.2, ((Int32.toInt64 x35) * (Int32.toInt64 x35)), (Int32.toInt64 x23))) ⟨rfl, rfl, rfl, rfl, rfl, rfl, rfl, rfl, rfl, rfl, rfl, trivial⟩
                  · refine x_ic_eq rfl rfl (fun h47 => ?_) (fun h47 => ?_)
                    · exact x_lv (hj43 ()) ⟨rfl, rfl, rfl, rfl, rfl, rfl, rfl, rfl, trivial⟩
                    · refine x_P 178 rfl rfl rfl ?_
                      refine x_P 180 rfl rfl rfl ?_
                      refine x_P 181 rfl rfl rfl ?_
                      refine x_P 183 rfl rfl rfl ?_
                      refine x_P 184 rfl rfl rfl ?_
                      refine x_P 186 rfl rfl rfl ?_
                      refine x_P 188 rfl rfl rfl ?_
                      refine x_P 189 rfl rfl rfl ?_
                      refine x_P 190 rfl rfl rfl ?_
                      refine x_if_ge rfl rfl (fun h46 => ?_) (fun h46 => ?_)
                      · exact x_lv (hj41 (s24.1, s24.2.1, s24.2.2.1, s24.2.2.2.1)) ⟨rfl, rfl, rfl, rfl, rfl, rfl, rfl, rfl, rfl, rfl, rfl, trivial⟩
                      · exact x_lv (hj43 ()) ⟨rfl, rfl, rfl, rfl, rfl, rfl, rfl, rfl, trivial⟩
            · refine x_jn 163 (fun v49 => [(0, .ref a0), (1, .int a1), (2, .int s24.1), (3, .int s24.2.1), (4, .long s24.2.2.1), (6, .long s24.2.2.2.1), (8, .int s3.2.2.2.2), (9, .int x15), (10, .int x18), (11, .long (Int32.toInt64 x23)), (13, .int s24.2.2.2.2), (14, .long (Int32.toInt64 x35))]) (fun v49 => []) (fun v49 => th2) (fun v49 => ?_) (fun j50 hj50 => ?_)
              · refine x_P 164 rfl rfl rfl ?_
                exact x_lv (hj39 (Int32.ofInt 0)) ⟨rfl, rfl, rfl, rfl, rfl, rfl, rfl, rfl, rfl, rfl, rfl, rfl, trivial⟩
              · refine x_ic_eq rfl rfl (fun h55 => ?_) (fun h55 => ?_)
                · exact x_lv (hj50 ()) ⟨rfl, rfl, rfl, rfl, rfl, rfl, rfl, rfl, rfl, rfl, rfl, rfl, trivial⟩
                · refine x_P 145 rfl rfl rfl ?_
                  refine x_gN rfl (fun o51 ho51 => ?_)
                  refine x_P 150 rfl rfl rfl ?_
                  refine x_aI rfl ⟨rfl, rfl⟩ (fun x52 hx52 => ?_)
                  refine x_P 153 rfl rfl rfl ?_
                  refine x_callS rfl rfl rfl rfl rfl rfl ⟨rfl, rfl⟩ (S_195 (d + 3) x52 s24.2.2.2.2 th2) (fun x53 hx53 => ?_)
                  refine x_if_ne rfl rfl (fun h54 => ?_) (fun h54 => ?_)
                  · refine x_P 160 rfl rfl rfl ?_
                    refine x_P 164 rfl rfl rfl ?_
                    exact x_lv (hj39 (Int32.ofInt 1)) ⟨rfl, rfl, rfl, rfl, rfl, rfl, rfl, rfl, rfl, rfl, rfl, rfl, trivial⟩
                  · exact x_lv (hj50 ()) ⟨rfl, rfl, rfl, rfl, rfl, rfl, rfl, rfl, rfl, rfl, rfl, rfl, trivial⟩
        · refine x_P (lv' := [(8, .int (s3.2.2.2.2 + Int32.ofInt 1)), (0, .ref a0), (1, .int a1), (2, .int x27.1), (3, .int x27.2.1), (4, .long x27.2.2.1), (6, .long x27.2.2.2)]) 224 rfl rfl rfl ?_
          refine x_P 34 rfl rfl rfl ?_
          exact x_lv (hnx4 (x27.1, x27.2.1, x27.2.2.1, x27.2.2.2, (s3.2.2.2.2 + Int32.ofInt 1))) ⟨rfl, rfl, rfl, rfl, rfl, rfl, rfl, trivial⟩
    · refine x_P 228 rfl rfl rfl ?_
      refine x_P 229 rfl rfl rfl ?_
      refine x_ic_ne rfl rfl (fun h11 => ?_) (fun h11 => ?_)
      · refine x_P 233 rfl rfl rfl ?_
        refine x_P 235 rfl rfl rfl ?_
        refine x_callV rfl rfl rfl rfl rfl ⟨rfl, rfl⟩ (fun x h => c_189 h) (S_189 (d + 2) a0 (Int8.ofInt (-5)).toInt32 th2) (fun q10 hq10 => ?_)
        exact x_retI (x := (q10.1, q10.2)) rfl
      · refine x_P 240 rfl rfl rfl ?_
        refine x_jn 248 (fun v7 => []) (fun v7 => [.int v7]) (fun v7 => th2) (fun v7 => ?_) (fun j8 hj8 => ?_)
        · exact x_retI (x := (v7, th2)) rfl
        · refine x_if_ne rfl rfl (fun h9 => ?_) (fun h9 => ?_)
          · refine x_P 244 rfl rfl rfl ?_
            refine x_P 248 rfl rfl rfl ?_
            exact x_lv (hj8 x6.1) trivial
          · refine x_P 248 rfl rfl rfl ?_
            exact x_lv (hj8 x6.2) trivial
-- 257 NineTreesModel.threesWithout(I)I
noncomputable def m_257 (a0 : Nat) (a1 : Int32) (th : tH) : Option (Int32 × tH) :=
  (gC th 8 a0).bind fun _ =>
  (gN th 8 a0 11).bind fun o1 =>
  (aI th o1 a1).bind fun x2 =>
  (gN th 8 a0 11).bind fun o3 =>
  (sI th o3 a1 (Int32.ofInt 4)).bind fun th4 =>
  (m_243 a0 th4).bind fun q5 =>
  (gN q5.2 8 a0 11).bind fun o6 =>
  (sI q5.2 o6 a1 x2).bind fun th7 =>
  some (q5.1, th7)
theorem c_257 {a0 : Nat} {a1 : Int32} {th : tH} {x : (Int32 × tH)} (h : m_257 a0 a1 th = some x) : ∃ fs, th[a0]? = some (.inr (8, fs)) := gC_of h
theorem S_257 {L : Nat} (d : Nat) (a0 : Nat) (a1 : Int32) (th : tH) : Wx L (fun x => (some (.int x.1), x.2)) (d + 5) 257 4 0 [(0, .ref a0), (1, .int a1)] [] th (m_257 a0 a1 th) := by
  unfold m_257
  refine x_gC ?_
  refine x_P 1 rfl rfl rfl ?_
  refine x_gN rfl (fun o1 ho1 => ?_)
  refine x_P 5 rfl rfl rfl ?_
  refine x_aI rfl ⟨rfl, rfl⟩ (fun x2 hx2 => ?_)
  refine x_P (lv' := [(2, .int x2), (0, .ref a0), (1, .int a1)]) 7 rfl rfl rfl ?_
  refine x_P 8 rfl rfl rfl ?_
  refine x_gN rfl (fun o3 ho3 => ?_)
  refine x_P 12 rfl rfl rfl ?_
  refine x_P 13 rfl rfl rfl ?_
  refine x_sI rfl ⟨rfl, rfl⟩ (fun th4 hth4 => ?_)
  refine x_P 15 rfl rfl rfl ?_
  refine x_callV rfl rfl rfl rfl rfl ⟨rfl, rfl⟩ (fun x h => c_243 h) (S_243 d a0 th4) (fun q5 hq5 => ?_)
  refine x_P (lv' := [(3, .int q5.1), (2, .int x2), (0, .ref a0), (1, .int a1)]) 19 rfl rfl rfl ?_
  refine x_P 20 rfl rfl rfl ?_
  refine x_gN rfl (fun o6 ho6 => ?_)
  refine x_P 24 rfl rfl rfl ?_
  refine x_P 25 rfl rfl rfl ?_
  refine x_sI rfl ⟨rfl, rfl⟩ (fun th7 hth7 => ?_)
  refine x_P 27 rfl rfl rfl ?_
  exact x_retI (x := (q5.1, th7)) rfl
-- 258 NineTreesModel.missedOf(I)I
noncomputable def m_258 (a0 : Nat) (a1 : Int32) (th : tH) : Option (Int32 × tH) :=
  (gC th 8 a0).bind fun _ =>
  (m_243 a0 th).bind fun q1 =>
  (m_257 a0 a1 q1.2).bind fun q2 =>
  some ((q1.1 - q2.1), q2.2)
theorem c_258 {a0 : Nat} {a1 : Int32} {th : tH} {x : (Int32 × tH)} (h : m_258 a0 a1 th = some x) : ∃ fs, th[a0]? = some (.inr (8, fs)) := gC_of h
theorem S_258 {L : Nat} (d : Nat) (a0 : Nat) (a1 : Int32) (th : tH) : Wx L (fun x => (some (.int x.1), x.2)) (d + 6) 258 2 0 [(0, .ref a0), (1, .int a1)] [] th (m_258 a0 a1 th) := by
  unfold m_258
  refine x_gC ?_
  refine x_P 1 rfl rfl rfl ?_
  refine x_callV rfl rfl rfl rfl rfl ⟨rfl, rfl⟩ (fun x h => c_243 h) (S_243 (d + 1) a0 th) (fun q1 hq1 => ?_)
  refine x_P 5 rfl rfl rfl ?_
  refine x_P 6 rfl rfl rfl ?_
  refine x_callV rfl rfl rfl rfl rfl ⟨rfl, rfl⟩ (fun x h => c_257 h) (S_257 d a0 a1 q1.2) (fun q2 hq2 => ?_)
  refine x_P 10 rfl rfl rfl ?_
  exact x_retI (x := ((q1.1 - q2.1), q2.2)) rfl
-- 259 NineTreesModel.missed(I)I
noncomputable def m_259 (a0 : Nat) (a1 : Int32) (th : tH) : Option (Int32 × tH) :=
  (gC th 8 a0).bind fun _ =>
  (m_191 a0 a1 th).bind fun x1 =>
  jn (fun (v2 : Int32 × tH) =>
      some (v2.1, v2.2)
    ) (fun j3 =>
      if x1 = 0 then
        (m_189 a0 (Int8.ofInt (-2)).toInt32 th).bind fun q4 =>
        j3 (q4.1, q4.2)
      else
        (m_258 a0 a1 th).bind fun q5 =>
        j3 (q5.1, q5.2)
    )
theorem c_259 {a0 : Nat} {a1 : Int32} {th : tH} {x : (Int32 × tH)} (h : m_259 a0 a1 th = some x) : ∃ fs, th[a0]? = some (.inr (8, fs)) := gC_of h
theorem S_259 {L : Nat} (d : Nat) (a0 : Nat) (a1 : Int32) (th : tH) : Wx L (fun x => (some (.int x.1), x.2)) (d + 7) 259 2 0 [(0, .ref a0), (1, .int a1)] [] th (m_259 a0 a1 th) := by
  unfold m_259
  refine x_gC ?_
  refine x_P 1 rfl rfl rfl ?_
  refine x_P 2 rfl rfl rfl ?_
  refine x_callV rfl rfl rfl rfl rfl ⟨rfl, rfl⟩ (fun x h => c_191 h) (S_191 (d + 5) a0 a1 th) (fun x1 hx1 => ?_)
  refine x_jn 22 (fun v2 => []) (fun v2 => [.int v2.1]) (fun v2 => v2.2) (fun v2 => ?_) (fun j3 hj3 => ?_)
  · exact x_retI (x := (v2.1, v2.2)) rfl
  · refine x_if_eq rfl rfl (fun h6 => ?_) (fun h6 => ?_)
    · refine x_P 17 rfl rfl rfl ?_
      refine x_P 19 rfl rfl rfl ?_
      refine x_callV rfl rfl rfl rfl rfl ⟨rfl, rfl⟩ (fun x h => c_189 h) (S_189 (d + 5) a0 (Int8.ofInt (-2)).toInt32 th) (fun q4 hq4 => ?_)
      exact x_lv (hj3 (q4.1, q4.2)) trivial
    · refine x_P 9 rfl rfl rfl ?_
      refine x_P 10 rfl rfl rfl ?_
      refine x_callV rfl rfl rfl rfl rfl ⟨rfl, rfl⟩ (fun x h => c_258 h) (S_258 d a0 a1 th) (fun q5 hq5 => ?_)
      refine x_P 22 rfl rfl rfl ?_
      exact x_lv (hj3 (q5.1, q5.2)) trivial
-- 260 NineTreesModel.least()I
noncomputable def m_260 (a0 : Nat) (th : tH) : Option (Int32 × tH) :=
  (gC th 8 a0).bind fun _ =>
  (gI th 8 a0 10).bind fun x1 =>
  if x1 = 0 then
    (m_189 a0 (Int8.ofInt (-5)).toInt32 th).bind fun q13 =>
    some (q13.1, q13.2)
  else
    lp (fun (s2 : Int32 × Int32 × tH) nx3 ex4 =>
        (gI s2.2.2 8 a0 10).bind fun x6 =>
        if x6 ≤ s2.2.1 then
          ex4 (s2.1, s2.2.2)
        else
          (m_258 a0 s2.2.1 s2.2.2).bind fun q7 =>
          (m_258 a0 s2.1 q7.2).bind fun q8 =>
          jn (fun (v9 : Int32) =>
              nx3 (v9, (s2.2.1 + Int32.ofInt 1), q8.2)
            ) (fun j10 =>
              if q8.1 ≤ q7.1 then
                j10 s2.1
              else
                j10 s2.2.1
            )
      ) 4096 ((Int32.ofInt 0), (Int32.ofInt 1), th) (fun (x5 : Int32 × tH) =>
        some (x5.1, x5.2)
      )
theorem c_260 {a0 : Nat} {th : tH} {x : (Int32 × tH)} (h : m_260 a0 th = some x) : ∃ fs, th[a0]? = some (.inr (8, fs)) := gC_of h
theorem S_260 {L : Nat} (d : Nat) (a0 : Nat) (th : tH) : Wx L (fun x => (some (.int x.1), x.2)) (d + 7) 260 3 0 [(0, .ref a0)] [] th (m_260 a0 th) := by
  unfold m_260
  refine x_gC ?_
  refine x_P 1 rfl rfl rfl ?_
  refine x_gI rfl (fun x1 hx1 => ?_)
  refine x_if_ne rfl rfl (fun h14 => ?_) (fun h14 => ?_)
  · refine x_P 8 rfl rfl rfl ?_
    refine x_P 10 rfl rfl rfl ?_
    refine x_callV rfl rfl rfl rfl rfl ⟨rfl, rfl⟩ (fun x h => c_189 h) (S_189 (d + 5) a0 (Int8.ofInt (-5)).toInt32 th) (fun q13 hq13 => ?_)
    exact x_retI (x := (q13.1, q13.2)) rfl
  · refine x_P 15 rfl rfl rfl ?_
    refine x_P (lv' := [(1, .int (Int32.ofInt 0)), (0, .ref a0)]) 16 rfl rfl rfl ?_
    refine x_P 17 rfl rfl rfl ?_
    refine x_P (lv' := [(2, .int (Int32.ofInt 1)), (1, .int (Int32.ofInt 0)), (0, .ref a0)]) 18 rfl rfl rfl ?_
    refine x_lv (lv := [(0, .ref a0), (1, .int (Int32.ofInt 0)), (2, .int (Int32.ofInt 1))]) (x_lp 51 (fun s2 => [(0, .ref a0), (1, .int s2.1), (2, .int s2.2.1)]) (fun s2 => s2.2.2) (fun x5 => [(1, .int x5.1)]) (fun x5 => x5.2) (fun s2 nx3 hnx3 ex4 hex4 => ?_) (fun x5 => ?_) 4096 ((Int32.ofInt 0), (Int32.ofInt 1), th)) ⟨rfl, rfl, rfl, trivial⟩
    · refine x_P 19 rfl rfl rfl ?_
      refine x_P 20 rfl rfl rfl ?_
      refine x_gI rfl (fun x6 hx6 => ?_)
      refine x_ic_ge rfl rfl (fun h12 => ?_) (fun h12 => ?_)
      · exact x_lv (hex4 (s2.1, s2.2.2)) ⟨rfl, trivial⟩
      · refine x_P 27 rfl rfl rfl ?_
        refine x_P 28 rfl rfl rfl ?_
        refine x_callV rfl rfl rfl rfl rfl ⟨rfl, rfl⟩ (fun x h => c_258 h) (S_258 d a0 s2.2.1 s2.2.2) (fun q7 hq7 => ?_)
        refine x_P 32 rfl rfl rfl ?_
        refine x_P 33 rfl rfl rfl ?_
        refine x_callV rfl rfl rfl rfl rfl ⟨rfl, rfl⟩ (fun x h => c_258 h) (S_258 d a0 s2.1 q7.2) (fun q8 hq8 => ?_)
        refine x_jn 44 (fun v9 => [(0, .ref a0), (2, .int s2.2.1)]) (fun v9 => [.int v9]) (fun v9 => q8.2) (fun v9 => ?_) (fun j10 hj10 => ?_)
        · refine x_P (lv' := [(1, .int v9), (0, .ref a0), (2, .int s2.2.1)]) 45 rfl rfl rfl ?_
          refine x_P (lv' := [(2, .int (s2.2.1 + Int32.ofInt 1)), (1, .int v9), (0, .ref a0)]) 48 rfl rfl rfl ?_
          refine x_P 18 rfl rfl rfl ?_
          exact x_lv (hnx3 (v9, (s2.2.1 + Int32.ofInt 1), q8.2)) ⟨rfl, rfl, rfl, trivial⟩
        · refine x_ic_ge rfl rfl (fun h11 => ?_) (fun h11 => ?_)
          · refine x_P 44 rfl rfl rfl ?_
            exact x_lv (hj10 s2.1) ⟨rfl, rfl, trivial⟩
          · refine x_P 40 rfl rfl rfl ?_
            refine x_P 44 rfl rfl rfl ?_
            exact x_lv (hj10 s2.2.1) ⟨rfl, rfl, trivial⟩
    · refine x_P 52 rfl rfl rfl ?_
      exact x_retI (x := (x5.1, x5.2)) rfl
-- 261 NineTreesModel.metMany()I
noncomputable def m_261 (a0 : Nat) (th : tH) : Option (Int32 × tH) :=
  (gC th 8 a0).bind fun _ =>
  lp (fun (s1 : Int32 × Int32 × tH) nx2 ex3 =>
      (gI s1.2.2 8 a0 14).bind fun x5 =>
      if x5 ≤ s1.2.1 then
        ex3 (s1.1, s1.2.2)
      else
        (gN s1.2.2 8 a0 15).bind fun o6 =>
        (aI s1.2.2 o6 s1.2.1).bind fun x7 =>
        (m_252 a0 x7 s1.2.2).bind fun q8 =>
        jn (fun (v9 : Int32 × Int32) =>
            nx2 ((v9.2 + v9.1), (s1.2.1 + Int32.ofInt 1), q8.2)
          ) (fun j10 =>
            if q8.1 = 0 then
              j10 ((Int32.ofInt 0), s1.1)
            else
              j10 ((Int32.ofInt 1), s1.1)
          )
    ) 4096 ((Int32.ofInt 0), (Int32.ofInt 0), th) (fun (x4 : Int32 × tH) =>
      some (x4.1, x4.2)
    )
theorem c_261 {a0 : Nat} {th : tH} {x : (Int32 × tH)} (h : m_261 a0 th = some x) : ∃ fs, th[a0]? = some (.inr (8, fs)) := gC_of h
theorem S_261 {L : Nat} (d : Nat) (a0 : Nat) (th : tH) : Wx L (fun x => (some (.int x.1), x.2)) (d + 5) 261 3 0 [(0, .ref a0)] [] th (m_261 a0 th) := by
  unfold m_261
  refine x_gC ?_
  refine x_P 1 rfl rfl rfl ?_
  refine x_P (lv' := [(1, .int (Int32.ofInt 0)), (0, .ref a0)]) 2 rfl rfl rfl ?_
  refine x_P 3 rfl rfl rfl ?_
  refine x_P (lv' := [(2, .int (Int32.ofInt 0)), (1, .int (Int32.ofInt 0)), (0, .ref a0)]) 4 rfl rfl rfl ?_
  refine x_lv (lv := [(0, .ref a0), (1, .int (Int32.ofInt 0)), (2, .int (Int32.ofInt 0))]) (x_lp 39 (fun s1 => [(0, .ref a0), (1, .int s1.1), (2, .int s1.2.1)]) (fun s1 => s1.2.2) (fun x4 => [(1, .int x4.1)]) (fun x4 => x4.2) (fun s1 nx2 hnx2 ex3 hex3 => ?_) (fun x4 => ?_) 4096 ((Int32.ofInt 0), (Int32.ofInt 0), th)) ⟨rfl, rfl, rfl, trivial⟩
  · refine x_P 5 rfl rfl rfl ?_
    refine x_P 6 rfl rfl rfl ?_
    refine x_gI rfl (fun x5 hx5 => ?_)
    refine x_ic_ge rfl rfl (fun h12 => ?_) (fun h12 => ?_)
    · exact x_lv (hex3 (s1.1, s1.2.2)) ⟨rfl, trivial⟩
    · refine x_P 13 rfl rfl rfl ?_
      refine x_P 14 rfl rfl rfl ?_
      refine x_P 15 rfl rfl rfl ?_
      refine x_gN rfl (fun o6 ho6 => ?_)
      refine x_P 19 rfl rfl rfl ?_
      refine x_aI rfl ⟨rfl, rfl⟩ (fun x7 hx7 => ?_)
      refine x_callV rfl rfl rfl rfl rfl ⟨rfl, rfl⟩ (fun x h => c_252 h) (S_252 d a0 x7 s1.2.2) (fun q8 hq8 => ?_)
      refine x_jn 31 (fun v9 => [(0, .ref a0), (2, .int s1.2.1)]) (fun v9 => [.int v9.1, .int v9.2]) (fun v9 => q8.2) (fun v9 => ?_) (fun j10 hj10 => ?_)
      · refine x_P 32 rfl rfl rfl ?_
        refine x_P (lv' := [(1, .int (v9.2 + v9.1)), (0, .ref a0), (2, .int s1.2.1)]) 33 rfl rfl rfl ?_
        refine x_P (lv' := [(2, .int (s1.2.1 + Int32.ofInt 1)), (1, .int (v9.2 + v9.1)), (0, .ref a0)]) 36 rfl rfl rfl ?_
        refine x_P 4 rfl rfl rfl ?_
        exact x_lv (hnx2 ((v9.2 + v9.1), (s1.2.1 + Int32.ofInt 1), q8.2)) ⟨rfl, rfl, rfl, trivial⟩
      · refine x_if_eq rfl rfl (fun h11 => ?_) (fun h11 => ?_)
        · refine x_P 31 rfl rfl rfl ?_
          exact x_lv (hj10 ((Int32.ofInt 0), s1.1)) ⟨rfl, rfl, trivial⟩
        · refine x_P 27 rfl rfl rfl ?_
          refine x_P 31 rfl rfl rfl ?_
          exact x_lv (hj10 ((Int32.ofInt 1), s1.1)) ⟨rfl, rfl, trivial⟩
  · refine x_P 40 rfl rfl rfl ?_
    exact x_retI (x := (x4.1, x4.2)) rfl
-- 262 NineTreesModel.findBest(Z)V
noncomputable def m_262 (a0 : Nat) (a1 : Int32) (th : tH) : Option tH :=
  (gC th 8 a0).bind fun _ =>
  (pI th 8 a0 28 (Int32.ofInt (-1))).bind fun th1 =>
  (pI th1 8 a0 29 (Int32.ofInt (-1))).bind fun th2 =>
  (pI th2 8 a0 30 (Int32.ofInt (-1))).bind fun th3 =>
  lp (fun (s4 : Int32 × tH) nx5 ex6 =>
      (gI s4.2 8 a0 10).bind fun x8 =>
      if x8 ≤ s4.1 then
        ex6 s4.2
      else
        lp (fun (s9 : Int32 × tH) nx10 ex11 =>
            (m_192 a0 s9.2).bind fun x13 =>
            if x13 ≤ s9.1 then
              ex11 s9.2
            else
              (m_197 a0 s4.1 s9.2).bind fun x14 =>
              if x14 = 0 then
                (m_194 a0 s9.1 s9.2).bind fun x15 =>
                jn (fun (v16 : tH) =>
                    nx10 ((s9.1 + Int32.ofInt 1), v16)
                  ) (fun j17 =>
                    if x15 = (Int32.ofInt (-1)) then
                      (gN s9.2 8 a0 12).bind fun o18 =>
                      (aI s9.2 o18 s4.1).bind fun x19 =>
                      (gN s9.2 8 a0 12).bind fun o20 =>
                      (sI s9.2 o20 s4.1 s9.1).bind fun th21 =>
                      jn (fun (v22 : Int32 × tH) =>
                          (gN v22.2 8 a0 12).bind fun o24 =>
                          (sI v22.2 o24 s4.1 x19).bind fun th25 =>
                          (gI th25 8 a0 30).bind fun x26 =>
                          if v22.1 ≤ x26 then
                            j17 th25
                          else
                            (pI th25 8 a0 28 s4.1).bind fun th27 =>
                            (pI th27 8 a0 29 s9.1).bind fun th28 =>
                            (pI th28 8 a0 30 v22.1).bind fun th29 =>
                            j17 th29
                        ) (fun j23 =>
                          if a1 = 0 then
                            (m_243 a0 th21).bind fun q31 =>
                            j23 (q31.1, q31.2)
                          else
                            (m_261 a0 th21).bind fun q32 =>
                            j23 (q32.1, q32.2)
                        )
                    else
                      j17 s9.2
                  )
              else
                ex11 s9.2
          ) 4096 ((Int32.ofInt 0), s4.2) (fun (x12 : tH) =>
            nx5 ((s4.1 + Int32.ofInt 1), x12)
          )
    ) 4096 ((Int32.ofInt 0), th3) (fun (x7 : tH) =>
      some x7
    )
theorem c_262 {a0 : Nat} {a1 : Int32} {th : tH} {x : tH} (h : m_262 a0 a1 th = some x) : ∃ fs, th[a0]? = some (.inr (8, fs)) := gC_of h
theorem S_262 {L : Nat} (d : Nat) (a0 : Nat) (a1 : Int32) (th : tH) : Wx L (fun x => (none, x)) (d + 6) 262 6 0 [(0, .ref a0), (1, .int a1)] [] th (m_262 a0 a1 th) := by
  unfold m_262
  refine x_gC ?_
  refine x_P 1 rfl rfl rfl ?_
  refine x_P 2 rfl rfl rfl ?_
  refine x_pI rfl (fun th1 hth1 => ?_)
  refine x_P 6 rfl rfl rfl ?_
  refine x_P 7 rfl rfl rfl ?_
  refine x_pI rfl (fun th2 hth2 => ?_)
  refine x_P 11 rfl rfl rfl ?_
  refine x_P 12 rfl rfl rfl ?_
  refine x_pI rfl (fun th3 hth3 => ?_)
  refine x_P 16 rfl rfl rfl ?_
  refine x_P (lv' := [(2, .int (Int32.ofInt 0)), (0, .ref a0), (1, .int a1)]) 17 rfl rfl rfl ?_
  refine x_lv (lv := [(0, .ref a0), (1, .int a1), (2, .int (Int32.ofInt 0))]) (x_lp 129 (fun s4 => [(0, .ref a0), (1, .int a1), (2, .int s4.1)]) (fun s4 => s4.2) (fun x7 => []) (fun x7 => x7) (fun s4 nx5 hnx5 ex6 hex6 => ?_) (fun x7 => ?_) 4096 ((Int32.ofInt 0), th3)) ⟨rfl, rfl, rfl, trivial⟩
  · refine x_P 18 rfl rfl rfl ?_
    refine x_P 19 rfl rfl rfl ?_
    refine x_gI rfl (fun x8 hx8 => ?_)
    refine x_ic_ge rfl rfl (fun h37 => ?_) (fun h37 => ?_)
    · exact x_lv (hex6 s4.2) trivial
    · refine x_P 26 rfl rfl rfl ?_
      refine x_P (lv' := [(3, .int (Int32.ofInt 0)), (0, .ref a0), (1, .int a1), (2, .int s4.1)]) 27 rfl rfl rfl ?_
      refine x_lv (lv := [(0, .ref a0), (1, .int a1), (2, .int s4.1), (3, .int (Int32.ofInt 0))]) (x_lp 123 (fun s9 => [(0, .ref a0), (1, .int a1), (2, .int s4.1), (3, .int s9.1)]) (fun s9 => s9.2) (fun x12 => [(0, .ref a0), (1, .int a1), (2, .int s4.1)]) (fun x12 => x12) (fun s9 nx10 hnx10 ex11 hex11 => ?_) (fun x12 => ?_) 4096 ((Int32.ofInt 0), s4.2)) ⟨rfl, rfl, rfl, rfl, trivial⟩
      · refine x_P 28 rfl rfl rfl ?_
        refine x_P 29 rfl rfl rfl ?_
        refine x_callV rfl rfl rfl rfl rfl ⟨rfl, rfl⟩ (fun x h => c_192 h) (S_192 (d + 5) a0 s9.2) (fun x13 hx13 => ?_)
        refine x_ic_ge rfl rfl (fun h36 => ?_) (fun h36 => ?_)
        · exact x_lv (hex11 s9.2) ⟨rfl, rfl, rfl, trivial⟩
        · refine x_P 36 rfl rfl rfl ?_
          refine x_P 37 rfl rfl rfl ?_
          refine x_callV rfl rfl rfl rfl rfl ⟨rfl, rfl⟩ (fun x h => c_197 h) (S_197 (d + 5) a0 s4.1 s9.2) (fun x14 hx14 => ?_)
          refine x_if_ne rfl rfl (fun h35 => ?_) (fun h35 => ?_)
          · refine x_P 44 rfl rfl rfl ?_
            refine x_P 45 rfl rfl rfl ?_
            refine x_callV rfl rfl rfl rfl rfl ⟨rfl, rfl⟩ (fun x h => c_194 h) (S_194 (d + 5) a0 s9.1 s9.2) (fun x15 hx15 => ?_)
            refine x_P 49 rfl rfl rfl ?_
            refine x_jn 117 (fun v16 => [(0, .ref a0), (1, .int a1), (2, .int s4.1), (3, .int s9.1)]) (fun v16 => []) (fun v16 => v16) (fun v16 => ?_) (fun j17 hj17 => ?_)
            · refine x_P (lv' := [(3, .int (s9.1 + Int32.ofInt 1)), (0, .ref a0), (1, .int a1), (2, .int s4.1)]) 120 rfl rfl rfl ?_
              refine x_P 27 rfl rfl rfl ?_
              exact x_lv (hnx10 ((s9.1 + Int32.ofInt 1), v16)) ⟨rfl, rfl, rfl, rfl, trivial⟩
            · refine x_ic_ne rfl rfl (fun h34 => ?_) (fun h34 => ?_)
              · refine x_P 53 rfl rfl rfl ?_
                refine x_gN rfl (fun o18 ho18 => ?_)
                refine x_P 57 rfl rfl rfl ?_
                refine x_aI rfl ⟨rfl, rfl⟩ (fun x19 hx19 => ?_)
                refine x_P (lv' := [(4, .int x19), (0, .ref a0), (1, .int a1), (2, .int s4.1), (3, .int s9.1)]) 60 rfl rfl rfl ?_
                refine x_P 61 rfl rfl rfl ?_
                refine x_gN rfl (fun o20 ho20 => ?_)
                refine x_P 65 rfl rfl rfl ?_
                refine x_P 66 rfl rfl rfl ?_
                refine x_sI rfl ⟨rfl, rfl⟩ (fun th21 hth21 => ?_)
                refine x_P 68 rfl rfl rfl ?_
                refine x_jn 82 (fun v22 => [(0, .ref a0), (1, .int a1), (2, .int s4.1), (3, .int s9.1), (4, .int x19)]) (fun v22 => [.int v22.1]) (fun v22 => v22.2) (fun v22 => ?_) (fun j23 hj23 => ?_)
                · refine x_P (lv' := [(5, .int v22.1), (0, .ref a0), (1, .int a1), (2, .int s4.1), (3, .int s9.1), (4, .int x19)]) 84 rfl rfl rfl ?_
                  refine x_P 85 rfl rfl rfl ?_
                  refine x_gN rfl (fun o24 ho24 => ?_)
                  refine x_P 89 rfl rfl rfl ?_
                  refine x_P 91 rfl rfl rfl ?_
                  refine x_sI rfl ⟨rfl, rfl⟩ (fun th25 hth25 => ?_)
                  refine x_P 94 rfl rfl rfl ?_
                  refine x_P 95 rfl rfl rfl ?_
                  refine x_gI rfl (fun x26 hx26 => ?_)
                  refine x_ic_le rfl rfl (fun h30 => ?_) (fun h30 => ?_)
                  · exact x_lv (hj17 th25) ⟨rfl, rfl, rfl, rfl, trivial⟩
                  · refine x_P 102 rfl rfl rfl ?_
                    refine x_P 103 rfl rfl rfl ?_
                    refine x_pI rfl (fun th27 hth27 => ?_)
                    refine x_P 107 rfl rfl rfl ?_
                    refine x_P 108 rfl rfl rfl ?_
                    refine x_pI rfl (fun th28 hth28 => ?_)
                    refine x_P 112 rfl rfl rfl ?_
                    refine x_P 114 rfl rfl rfl ?_
                    refine x_pI rfl (fun th29 hth29 => ?_)
                    exact x_lv (hj17 th29) ⟨rfl, rfl, rfl, rfl, trivial⟩
                · refine x_if_eq rfl rfl (fun h33 => ?_) (fun h33 => ?_)
                  · refine x_P 79 rfl rfl rfl ?_
                    refine x_callV rfl rfl rfl rfl rfl ⟨rfl, rfl⟩ (fun x h => c_243 h) (S_243 (d + 1) a0 th21) (fun q31 hq31 => ?_)
                    exact x_lv (hj23 (q31.1, q31.2)) ⟨rfl, rfl, rfl, rfl, rfl, trivial⟩
                  · refine x_P 72 rfl rfl rfl ?_
                    refine x_callV rfl rfl rfl rfl rfl ⟨rfl, rfl⟩ (fun x h => c_261 h) (S_261 d a0 th21) (fun q32 hq32 => ?_)
                    refine x_P 82 rfl rfl rfl ?_
                    exact x_lv (hj23 (q32.1, q32.2)) ⟨rfl, rfl, rfl, rfl, rfl, trivial⟩
              · exact x_lv (hj17 s9.2) ⟨rfl, rfl, rfl, rfl, trivial⟩
          · exact x_lv (hex11 s9.2) ⟨rfl, rfl, rfl, trivial⟩
      · refine x_P (lv' := [(2, .int (s4.1 + Int32.ofInt 1)), (0, .ref a0), (1, .int a1)]) 126 rfl rfl rfl ?_
        refine x_P 17 rfl rfl rfl ?_
        exact x_lv (hnx5 ((s4.1 + Int32.ofInt 1), x12)) ⟨rfl, rfl, rfl, trivial⟩
  · exact x_retV (x := x7) rfl
-- 263 NineTreesModel.bestBy(ZI)I
noncomputable def m_263 (a0 : Nat) (a1 : Int32) (a2 : Int32) (th : tH) : Option (Int32 × tH) :=
  (gC th 8 a0).bind fun _ =>
  (m_190 (Int32.toInt64 a2) (Int64.ofNat 0) (Int64.ofNat 2) th).bind fun x1 =>
  if x1 = 0 then
    (m_189 a0 (Int8.ofInt (-2)).toInt32 th).bind fun q10 =>
    some (q10.1, q10.2)
  else
    (m_262 a0 a1 th).bind fun th2 =>
    jn (fun (v3 : Int32) =>
        some (v3, th2)
      ) (fun j4 =>
        if a2 = 0 then
          (gI th2 8 a0 28).bind fun x8 =>
          j4 x8
        else
          if a2 = (Int32.ofInt 1) then
            (gI th2 8 a0 29).bind fun x6 =>
            j4 x6
          else
            (gI th2 8 a0 30).bind fun x5 =>
            j4 x5
      )
theorem c_263 {a0 : Nat} {a1 : Int32} {a2 : Int32} {th : tH} {x : (Int32 × tH)} (h : m_263 a0 a1 a2 th = some x) : ∃ fs, th[a0]? = some (.inr (8, fs)) := gC_of h
theorem S_263 {L : Nat} (d : Nat) (a0 : Nat) (a1 : Int32) (a2 : Int32) (th : tH) : Wx L (fun x => (some (.int x.1), x.2)) (d + 7) 263 3 0 [(0, .ref a0), (1, .int a1), (2, .int a2)] [] th (m_263 a0 a1 a2 th) := by
  unfold m_263
  refine x_gC ?_
  refine x_P 1 rfl rfl rfl ?_
  refine x_P 2 rfl rfl rfl ?_
  refine x_P 3 rfl rfl rfl ?_
  refine x_P 6 rfl rfl rfl ?_
  refine x_callS rfl rfl rfl rfl rfl rfl ⟨rfl, rfl⟩ (S_190 (d + 6) (Int32.toInt64 a2) (Int64.ofNat 0) (Int64.ofNat 2) th) (fun x1 hx1 => ?_)
  refine x_if_ne rfl rfl (fun h11 => ?_) (fun h11 => ?_)
  · refine x_P 13 rfl rfl rfl ?_
    refine x_P 15 rfl rfl rfl ?_
    refine x_callV rfl rfl rfl rfl rfl ⟨rfl, rfl⟩ (fun x h => c_189 h) (S_189 (d + 5) a0 (Int8.ofInt (-2)).toInt32 th) (fun q10 hq10 => ?_)
    exact x_retI (x := (q10.1, q10.2)) rfl
  · refine x_P 20 rfl rfl rfl ?_
    refine x_P 21 rfl rfl rfl ?_
    refine x_callW rfl rfl rfl rfl rfl ⟨rfl, rfl⟩ (fun x h => c_262 h) (S_262 d a0 a1 th) (fun th2 hth2 => ?_)
    refine x_P 25 rfl rfl rfl ?_
    refine x_jn 51 (fun v3 => []) (fun v3 => [.int v3]) (fun v3 => th2) (fun v3 => ?_) (fun j4 hj4 => ?_)
    · exact x_retI (x := (v3, th2)) rfl
    · refine x_if_ne rfl rfl (fun h9 => ?_) (fun h9 => ?_)
      · refine x_P 29 rfl rfl rfl ?_
        refine x_gI rfl (fun x8 hx8 => ?_)
        refine x_P 51 rfl rfl rfl ?_
        exact x_lv (hj4 x8) trivial
      · refine x_P 36 rfl rfl rfl ?_
        refine x_P 37 rfl rfl rfl ?_
        refine x_ic_ne rfl rfl (fun h7 => ?_) (fun h7 => ?_)
        · refine x_P 41 rfl rfl rfl ?_
          refine x_gI rfl (fun x6 hx6 => ?_)
          refine x_P 51 rfl rfl rfl ?_
          exact x_lv (hj4 x6) trivial
        · refine x_P 48 rfl rfl rfl ?_
          refine x_gI rfl (fun x5 hx5 => ?_)
          exact x_lv (hj4 x5) trivial
-- 264 NineTreesModel.best(I)I
noncomputable def m_264 (a0 : Nat) (a1 : Int32) (th : tH) : Option (Int32 × tH) :=
  (gC th 8 a0).bind fun _ =>
  (m_263 a0 (Int32.ofInt 0) a1 th).bind fun q1 =>
  some (q1.1, q1.2)
theorem c_264 {a0 : Nat} {a1 : Int32} {th : tH} {x : (Int32 × tH)} (h : m_264 a0 a1 th = some x) : ∃ fs, th[a0]? = some (.inr (8, fs)) := gC_of h
theorem S_264 {L : Nat} (d : Nat) (a0 : Nat) (a1 : Int32) (th : tH) : Wx L (fun x => (some (.int x.1), x.2)) (d + 8) 264 2 0 [(0, .ref a0), (1, .int a1)] [] th (m_264 a0 a1 th) := by
  unfold m_264
  refine x_gC ?_
  refine x_P 1 rfl rfl rfl ?_
  refine x_P 2 rfl rfl rfl ?_
  refine x_P 3 rfl rfl rfl ?_
  refine x_callV rfl rfl rfl rfl rfl ⟨rfl, rfl⟩ (fun x h => c_263 h) (S_263 d a0 (Int32.ofInt 0) a1 th) (fun q1 hq1 => ?_)
  exact x_retI (x := (q1.1, q1.2)) rfl
-- 265 NineTreesModel.bestFor(I)I
noncomputable def m_265 (a0 : Nat) (a1 : Int32) (th : tH) : Option (Int32 × tH) :=
  (gC th 8 a0).bind fun _ =>
  (m_263 a0 (Int32.ofInt 1) a1 th).bind fun q1 =>
  some (q1.1, q1.2)
theorem c_265 {a0 : Nat} {a1 : Int32} {th : tH} {x : (Int32 × tH)} (h : m_265 a0 a1 th = some x) : ∃ fs, th[a0]? = some (.inr (8, fs)) := gC_of h
theorem S_265 {L : Nat} (d : Nat) (a0 : Nat) (a1 : Int32) (th : tH) : Wx L (fun x => (some (.int x.1), x.2)) (d + 8) 265 2 0 [(0, .ref a0), (1, .int a1)] [] th (m_265 a0 a1 th) := by
  unfold m_265
  refine x_gC ?_
  refine x_P 1 rfl rfl rfl ?_
  refine x_P 2 rfl rfl rfl ?_
  refine x_P 3 rfl rfl rfl ?_
  refine x_callV rfl rfl rfl rfl rfl ⟨rfl, rfl⟩ (fun x h => c_263 h) (S_263 d a0 (Int32.ofInt 1) a1 th) (fun q1 hq1 => ?_)
  exact x_retI (x := (q1.1, q1.2)) rfl
-- 266 NineTreesModel.moved(II)I
noncomputable def m_266 (a0 : Nat) (a1 : Int32) (a2 : Int32) (th : tH) : Option (Int32 × tH) :=
  (gC th 8 a0).bind fun _ =>
  (m_216 a0 a1 a2 th).bind fun q1 =>
  if q1.1 = 0 then
    (gN q1.2 8 a0 12).bind fun o2 =>
    (aI q1.2 o2 a1).bind fun x3 =>
    (gN q1.2 8 a0 12).bind fun o4 =>
    (sI q1.2 o4 a1 a2).bind fun th5 =>
    (m_243 a0 th5).bind fun q6 =>
    (gN q6.2 8 a0 12).bind fun o7 =>
    (sI q6.2 o7 a1 x3).bind fun th8 =>
    some (q6.1, th8)
  else
    some (q1.1, q1.2)
theorem c_266 {a0 : Nat} {a1 : Int32} {a2 : Int32} {th : tH} {x : (Int32 × tH)} (h : m_266 a0 a1 a2 th = some x) : ∃ fs, th[a0]? = some (.inr (8, fs)) := gC_of h
theorem S_266 {L : Nat} (d : Nat) (a0 : Nat) (a1 : Int32) (a2 : Int32) (th : tH) : Wx L (fun x => (some (.int x.1), x.2)) (d + 5) 266 6 0 [(0, .ref a0), (1, .int a1), (2, .int a2)] [] th (m_266 a0 a1 a2 th) := by
  unfold m_266
  refine x_gC ?_
  refine x_P 1 rfl rfl rfl ?_
  refine x_P 2 rfl rfl rfl ?_
  refine x_P 3 rfl rfl rfl ?_
  refine x_callV rfl rfl rfl rfl rfl ⟨rfl, rfl⟩ (fun x h => c_216 h) (S_216 (d + 2) a0 a1 a2 th) (fun q1 hq1 => ?_)
  refine x_P (lv' := [(3, .int q1.1), (0, .ref a0), (1, .int a1), (2, .int a2)]) 7 rfl rfl rfl ?_
  refine x_P 8 rfl rfl rfl ?_
  refine x_if_eq rfl rfl (fun h9 => ?_) (fun h9 => ?_)
  · refine x_P 14 rfl rfl rfl ?_
    refine x_gN rfl (fun o2 ho2 => ?_)
    refine x_P 18 rfl rfl rfl ?_
    refine x_aI rfl ⟨rfl, rfl⟩ (fun x3 hx3 => ?_)
    refine x_P (lv' := [(4, .int x3), (3, .int q1.1), (0, .ref a0), (1, .int a1), (2, .int a2)]) 21 rfl rfl rfl ?_
    refine x_P 22 rfl rfl rfl ?_
    refine x_gN rfl (fun o4 ho4 => ?_)
    refine x_P 26 rfl rfl rfl ?_
    refine x_P 27 rfl rfl rfl ?_
    refine x_sI rfl ⟨rfl, rfl⟩ (fun th5 hth5 => ?_)
    refine x_P 29 rfl rfl rfl ?_
    refine x_callV rfl rfl rfl rfl rfl ⟨rfl, rfl⟩ (fun x h => c_243 h) (S_243 d a0 th5) (fun q6 hq6 => ?_)
    refine x_P (lv' := [(5, .int q6.1), (4, .int x3), (3, .int q1.1), (0, .ref a0), (1, .int a1), (2, .int a2)]) 34 rfl rfl rfl ?_
    refine x_P 35 rfl rfl rfl ?_
    refine x_gN rfl (fun o7 ho7 => ?_)
    refine x_P 39 rfl rfl rfl ?_
    refine x_P 41 rfl rfl rfl ?_
    refine x_sI rfl ⟨rfl, rfl⟩ (fun th8 hth8 => ?_)
    refine x_P 44 rfl rfl rfl ?_
    exact x_retI (x := (q6.1, th8)) rfl
  · refine x_P 12 rfl rfl rfl ?_
    exact x_retI (x := (q1.1, q1.2)) rfl
-- 267 NineTreesModel.improve()I
noncomputable def m_267 (a0 : Nat) (th : tH) : Option (Int32 × tH) :=
  (gC th 8 a0).bind fun _ =>
  (m_243 a0 th).bind fun q1 =>
  (m_262 a0 (Int32.ofInt 0) q1.2).bind fun th2 =>
  (gI th2 8 a0 30).bind fun x3 =>
  if q1.1 < x3 then
    (gN th2 8 a0 12).bind fun o4 =>
    (gI th2 8 a0 28).bind fun x5 =>
    (gI th2 8 a0 29).bind fun x6 =>
    (sI th2 o4 x5 x6).bind fun th7 =>
    (gI th7 8 a0 30).bind fun x8 =>
    some (x8, th7)
  else
    some (q1.1, th2)
theorem c_267 {a0 : Nat} {th : tH} {x : (Int32 × tH)} (h : m_267 a0 th = some x) : ∃ fs, th[a0]? = some (.inr (8, fs)) := gC_of h
theorem S_267 {L : Nat} (d : Nat) (a0 : Nat) (th : tH) : Wx L (fun x => (some (.int x.1), x.2)) (d + 7) 267 2 0 [(0, .ref a0)] [] th (m_267 a0 th) := by
  unfold m_267
  refine x_gC ?_
  refine x_P 1 rfl rfl rfl ?_
  refine x_callV rfl rfl rfl rfl rfl ⟨rfl, rfl⟩ (fun x h => c_243 h) (S_243 (d + 2) a0 th) (fun q1 hq1 => ?_)
  refine x_P (lv' := [(1, .int q1.1), (0, .ref a0)]) 5 rfl rfl rfl ?_
  refine x_P 6 rfl rfl rfl ?_
  refine x_P 7 rfl rfl rfl ?_
  refine x_callW rfl rfl rfl rfl rfl ⟨rfl, rfl⟩ (fun x h => c_262 h) (S_262 d a0 (Int32.ofInt 0) q1.2) (fun th2 hth2 => ?_)
  refine x_P 11 rfl rfl rfl ?_
  refine x_gI rfl (fun x3 hx3 => ?_)
  refine x_P 15 rfl rfl rfl ?_
  refine x_ic_gt rfl rfl (fun h9 => ?_) (fun h9 => ?_)
  · refine x_P 21 rfl rfl rfl ?_
    refine x_gN rfl (fun o4 ho4 => ?_)
    refine x_P 25 rfl rfl rfl ?_
    refine x_gI rfl (fun x5 hx5 => ?_)
    refine x_P 29 rfl rfl rfl ?_
    refine x_gI rfl (fun x6 hx6 => ?_)
    refine x_sI rfl ⟨rfl, rfl⟩ (fun th7 hth7 => ?_)
    refine x_P 34 rfl rfl rfl ?_
    refine x_gI rfl (fun x8 hx8 => ?_)
    exact x_retI (x := (x8, th7)) rfl
  · refine x_P 19 rfl rfl rfl ?_
    exact x_retI (x := (q1.1, th2)) rfl
-- 268 NineTreesModel.mayStand(I)Z
noncomputable def m_268 (a0 : Nat) (a1 : Int32) (th : tH) : Option (Int32) :=
  (gC th 8 a0).bind fun _ =>
  (m_194 a0 a1 th).bind fun x1 =>
  if x1 = (Int32.ofInt (-1)) then
    lp (fun (s2 : Int32) nx3 ex4 =>
        (gI th 8 a0 10).bind fun x6 =>
        if x6 ≤ s2 then
          ex4 ()
        else
          lp (fun (s7 : Int32) nx8 ex9 =>
              if s2 ≤ s7 then
                ex9 ()
              else
                (gN th 8 a0 11).bind fun o11 =>
                (aI th o11 s2).bind fun x12 =>
                jn (fun (v13 : Unit) =>
                    nx8 (s7 + Int32.ofInt 1)
                  ) (fun j14 =>
                    if x12 = (Int32.ofInt 4) then
                      j14 ()
                    else
                      (gN th 8 a0 11).bind fun o15 =>
                      (aI th o15 s7).bind fun x16 =>
                      if x16 = (Int32.ofInt 4) then
                        j14 ()
                      else
                        (gN th 8 a0 12).bind fun o17 =>
                        (aI th o17 s2).bind fun x18 =>
                        (gN th 8 a0 12).bind fun o19 =>
                        (aI th o19 s7).bind fun x20 =>
                        (m_236 a0 x18 x20 a1 th).bind fun x21 =>
                        if x21 = 0 then
                          j14 ()
                        else
                          rB (Int32.ofInt 0)
                  )
            ) 4096 (Int32.ofInt 0) (fun (x10 : Unit) =>
              nx3 (s2 + Int32.ofInt 1)
            )
      ) 4096 (Int32.ofInt 0) (fun (x5 : Unit) =>
        rB (Int32.ofInt 1)
      )
  else
    rB (Int32.ofInt 0)
theorem c_268 {a0 : Nat} {a1 : Int32} {th : tH} {x : (Int32)} (h : m_268 a0 a1 th = some x) : ∃ fs, th[a0]? = some (.inr (8, fs)) := gC_of h
theorem S_268 {L : Nat} (d : Nat) (a0 : Nat) (a1 : Int32) (th : tH) : Wx L (fun x => (some (.int x), th)) (d + 2) 268 4 0 [(0, .ref a0), (1, .int a1)] [] th (m_268 a0 a1 th) := by
  unfold m_268
  refine x_gC ?_
  refine x_P 1 rfl rfl rfl ?_
  refine x_P 2 rfl rfl rfl ?_
  refine x_callV rfl rfl rfl rfl rfl ⟨rfl, rfl⟩ (fun x h => c_194 h) (S_194 (d + 1) a0 a1 th) (fun x1 hx1 => ?_)
  refine x_P 6 rfl rfl rfl ?_
  refine x_ic_eq rfl rfl (fun h27 => ?_) (fun h27 => ?_)
  · refine x_P 12 rfl rfl rfl ?_
    refine x_P (lv' := [(2, .int (Int32.ofInt 0)), (0, .ref a0), (1, .int a1)]) 13 rfl rfl rfl ?_
    refine x_lv (lv := [(0, .ref a0), (1, .int a1), (2, .int (Int32.ofInt 0))]) (x_lp 82 (fun s2 => [(0, .ref a0), (1, .int a1), (2, .int s2)]) (fun s2 => th) (fun x5 => []) (fun x5 => th) (fun s2 nx3 hnx3 ex4 hex4 => ?_) (fun x5 => ?_) 4096 (Int32.ofInt 0)) ⟨rfl, rfl, rfl, trivial⟩
    · refine x_P 14 rfl rfl rfl ?_
      refine x_P 15 rfl rfl rfl ?_
      refine x_gI rfl (fun x6 hx6 => ?_)
      refine x_ic_ge rfl rfl (fun h26 => ?_) (fun h26 => ?_)
      · exact x_lv (hex4 ()) trivial
      · refine x_P 22 rfl rfl rfl ?_
        refine x_P (lv' := [(3, .int (Int32.ofInt 0)), (0, .ref a0), (1, .int a1), (2, .int s2)]) 23 rfl rfl rfl ?_
        refine x_lv (lv := [(0, .ref a0), (1, .int a1), (2, .int s2), (3, .int (Int32.ofInt 0))]) (x_lp 76 (fun s7 => [(0, .ref a0), (1, .int a1), (2, .int s2), (3, .int s7)]) (fun s7 => th) (fun x10 => [(0, .ref a0), (1, .int a1), (2, .int s2)]) (fun x10 => th) (fun s7 nx8 hnx8 ex9 hex9 => ?_) (fun x10 => ?_) 4096 (Int32.ofInt 0)) ⟨rfl, rfl, rfl, rfl, trivial⟩
        · refine x_P 24 rfl rfl rfl ?_
          refine x_P 25 rfl rfl rfl ?_
          refine x_ic_ge rfl rfl (fun h25 => ?_) (fun h25 => ?_)
          · exact x_lv (hex9 ()) ⟨rfl, rfl, rfl, trivial⟩
          · refine x_P 29 rfl rfl rfl ?_
            refine x_gN rfl (fun o11 ho11 => ?_)
            refine x_P 33 rfl rfl rfl ?_
            refine x_aI rfl ⟨rfl, rfl⟩ (fun x12 hx12 => ?_)
            refine x_P 35 rfl rfl rfl ?_
            refine x_jn 70 (fun v13 => [(0, .ref a0), (1, .int a1), (2, .int s2), (3, .int s7)]) (fun v13 => []) (fun v13 => th) (fun v13 => ?_) (fun j14 hj14 => ?_)
            · refine x_P (lv' := [(3, .int (s7 + Int32.ofInt 1)), (0, .ref a0), (1, .int a1), (2, .int s2)]) 73 rfl rfl rfl ?_
              refine x_P 23 rfl rfl rfl ?_
              exact x_lv (hnx8 (s7 + Int32.ofInt 1)) ⟨rfl, rfl, rfl, rfl, trivial⟩
            · refine x_ic_eq rfl rfl (fun h24 => ?_) (fun h24 => ?_)
              · exact x_lv (hj14 ()) ⟨rfl, rfl, rfl, rfl, trivial⟩
              · refine x_P 39 rfl rfl rfl ?_
                refine x_gN rfl (fun o15 ho15 => ?_)
                refine x_P 43 rfl rfl rfl ?_
                refine x_aI rfl ⟨rfl, rfl⟩ (fun x16 hx16 => ?_)
                refine x_P 45 rfl rfl rfl ?_
                refine x_ic_eq rfl rfl (fun h23 => ?_) (fun h23 => ?_)
                · exact x_lv (hj14 ()) ⟨rfl, rfl, rfl, rfl, trivial⟩
                · refine x_P 49 rfl rfl rfl ?_
                  refine x_P 50 rfl rfl rfl ?_
                  refine x_gN rfl (fun o17 ho17 => ?_)
                  refine x_P 54 rfl rfl rfl ?_
                  refine x_aI rfl ⟨rfl, rfl⟩ (fun x18 hx18 => ?_)
                  refine x_P 56 rfl rfl rfl ?_
                  refine x_gN rfl (fun o19 ho19 => ?_)
                  refine x_P 60 rfl rfl rfl ?_
                  refine x_aI rfl ⟨rfl, rfl⟩ (fun x20 hx20 => ?_)
                  refine x_P 62 rfl rfl rfl ?_
                  refine x_callV rfl rfl rfl rfl rfl ⟨rfl, rfl⟩ (fun x h => c_236 h) (S_236 d a0 x18 x20 a1 th) (fun x21 hx21 => ?_)
                  refine x_if_eq rfl rfl (fun h22 => ?_) (fun h22 => ?_)
                  · exact x_lv (hj14 ()) ⟨rfl, rfl, rfl, rfl, trivial⟩
                  · refine x_P 69 rfl rfl rfl ?_
                    exact x_rB rfl
        · refine x_P (lv' := [(2, .int (s2 + Int32.ofInt 1)), (0, .ref a0), (1, .int a1)]) 79 rfl rfl rfl ?_
          refine x_P 13 rfl rfl rfl ?_
          exact x_lv (hnx3 (s2 + Int32.ofInt 1)) ⟨rfl, rfl, rfl, trivial⟩
    · refine x_P 83 rfl rfl rfl ?_
      exact x_rB rfl
  · refine x_P 10 rfl rfl rfl ?_
    exact x_rB rfl
-- 269 NineTreesModel.may()J
noncomputable def m_269 (a0 : Nat) (th : tH) : Option (Int64) :=
  (gC th 8 a0).bind fun _ =>
  lp (fun (s1 : Int64 × Int32) nx2 ex3 =>
      (m_192 a0 th).bind fun x5 =>
      if x5 ≤ s1.2 then
        ex3 s1.1
      else
        (m_268 a0 s1.2 th).bind fun x6 =>
        jn (fun (v7 : Int64 × Int64) =>
            nx2 ((v7.2 ||| v7.1), (s1.2 + Int32.ofInt 1))
          ) (fun j8 =>
            if x6 = 0 then
              j8 ((Int64.ofNat 0), s1.1)
            else
              j8 (((Int64.ofNat 1) <<< ((Int32.toInt64 s1.2) &&& 63)), s1.1)
          )
    ) 4096 ((Int64.ofNat 0), (Int32.ofInt 0)) (fun (x4 : Int64) =>
      some x4
    )
theorem c_269 {a0 : Nat} {th : tH} {x : (Int64)} (h : m_269 a0 th = some x) : ∃ fs, th[a0]? = some (.inr (8, fs)) := gC_of h
theorem S_269 {L : Nat} (d : Nat) (a0 : Nat) (th : tH) : Wx L (fun x => (some (.long x), th)) (d + 3) 269 4 0 [(0, .ref a0)] [] th (m_269 a0 th) := by
  unfold m_269
  refine x_gC ?_
  refine x_P 1 rfl rfl rfl ?_
  refine x_P (lv' := [(1, .long (Int64.ofNat 0)), (0, .ref a0)]) 2 rfl rfl rfl ?_
  refine x_P 3 rfl rfl rfl ?_
  refine x_P (lv' := [(3, .int (Int32.ofInt 0)), (1, .long (Int64.ofNat 0)), (0, .ref a0)]) 4 rfl rfl rfl ?_
  refine x_lv (lv := [(0, .ref a0), (1, .long (Int64.ofNat 0)), (3, .int (Int32.ofInt 0))]) (x_lp 36 (fun s1 => [(0, .ref a0), (1, .long s1.1), (3, .int s1.2)]) (fun s1 => th) (fun x4 => [(1, .long x4)]) (fun x4 => th) (fun s1 nx2 hnx2 ex3 hex3 => ?_) (fun x4 => ?_) 4096 ((Int64.ofNat 0), (Int32.ofInt 0))) ⟨rfl, rfl, rfl, trivial⟩
  · refine x_P 5 rfl rfl rfl ?_
    refine x_P 6 rfl rfl rfl ?_
    refine x_callV rfl rfl rfl rfl rfl ⟨rfl, rfl⟩ (fun x h => c_192 h) (S_192 (d + 2) a0 th) (fun x5 hx5 => ?_)
    refine x_ic_ge rfl rfl (fun h10 => ?_) (fun h10 => ?_)
    · exact x_lv (hex3 s1.1) ⟨rfl, trivial⟩
    · refine x_P 13 rfl rfl rfl ?_
      refine x_P 14 rfl rfl rfl ?_
      refine x_P 15 rfl rfl rfl ?_
      refine x_callV rfl rfl rfl rfl rfl ⟨rfl, rfl⟩ (fun x h => c_268 h) (S_268 d a0 s1.2 th) (fun x6 hx6 => ?_)
      refine x_jn 28 (fun v7 => [(0, .ref a0), (3, .int s1.2)]) (fun v7 => [.long v7.1, .long v7.2]) (fun v7 => th) (fun v7 => ?_) (fun j8 hj8 => ?_)
      · refine x_P 29 rfl rfl rfl ?_
        refine x_P (lv' := [(1, .long (v7.2 ||| v7.1)), (0, .ref a0), (3, .int s1.2)]) 30 rfl rfl rfl ?_
        refine x_P (lv' := [(3, .int (s1.2 + Int32.ofInt 1)), (1, .long (v7.2 ||| v7.1)), (0, .ref a0)]) 33 rfl rfl rfl ?_
        refine x_P 4 rfl rfl rfl ?_
        exact x_lv (hnx2 ((v7.2 ||| v7.1), (s1.2 + Int32.ofInt 1))) ⟨rfl, rfl, rfl, trivial⟩
      · refine x_if_eq rfl rfl (fun h9 => ?_) (fun h9 => ?_)
        · refine x_P 28 rfl rfl rfl ?_
          exact x_lv (hj8 ((Int64.ofNat 0), s1.1)) ⟨rfl, rfl, trivial⟩
        · refine x_P 22 rfl rfl rfl ?_
          refine x_P 23 rfl rfl rfl ?_
          refine x_P 24 rfl rfl rfl ?_
          refine x_P 28 rfl rfl rfl ?_
          exact x_lv (hj8 (((Int64.ofNat 1) <<< ((Int32.toInt64 s1.2) &&& 63)), s1.1)) ⟨rfl, rfl, trivial⟩
  · refine x_P 37 rfl rfl rfl ?_
    exact x_retJ (x := x4) rfl
-- 270 NineTreesModel.most(I)I
noncomputable def m_270 (a0 : Nat) (a1 : Int32) (th : tH) : Option (Int32 × tH) :=
  (gC th 8 a0).bind fun _ =>
  (m_190 (Int32.toInt64 a1) (Int64.ofNat 1) (Int64.ofNat 5) th).bind fun x1 =>
  if x1 = 0 then
    (m_189 a0 (Int8.ofInt (-2)).toInt32 th).bind fun q5 =>
    some (q5.1, q5.2)
  else
    jn (fun (v2 : Int32) =>
        some (v2, th)
      ) (fun j3 =>
        if a1 = (Int32.ofInt 1) then
          j3 (Int32.ofInt 1)
        else
          j3 ((Int32.ofInt 2) * a1)
      )
theorem c_270 {a0 : Nat} {a1 : Int32} {th : tH} {x : (Int32 × tH)} (h : m_270 a0 a1 th = some x) : ∃ fs, th[a0]? = some (.inr (8, fs)) := gC_of h
theorem S_270 {L : Nat} (d : Nat) (a0 : Nat) (a1 : Int32) (th : tH) : Wx L (fun x => (some (.int x.1), x.2)) (d + 2) 270 2 0 [(0, .ref a0), (1, .int a1)] [] th (m_270 a0 a1 th) := by
  unfold m_270
  refine x_gC ?_
  refine x_P 1 rfl rfl rfl ?_
  refine x_P 2 rfl rfl rfl ?_
  refine x_P 3 rfl rfl rfl ?_
  refine x_P 6 rfl rfl rfl ?_
  refine x_callS rfl rfl rfl rfl rfl rfl ⟨rfl, rfl⟩ (S_190 (d + 1) (Int32.toInt64 a1) (Int64.ofNat 1) (Int64.ofNat 5) th) (fun x1 hx1 => ?_)
  refine x_if_ne rfl rfl (fun h6 => ?_) (fun h6 => ?_)
  · refine x_P 13 rfl rfl rfl ?_
    refine x_P 15 rfl rfl rfl ?_
    refine x_callV rfl rfl rfl rfl rfl ⟨rfl, rfl⟩ (fun x h => c_189 h) (S_189 d a0 (Int8.ofInt (-2)).toInt32 th) (fun q5 hq5 => ?_)
    exact x_retI (x := (q5.1, q5.2)) rfl
  · refine x_P 20 rfl rfl rfl ?_
    refine x_P 21 rfl rfl rfl ?_
    refine x_jn 31 (fun v2 => []) (fun v2 => [.int v2]) (fun v2 => th) (fun v2 => ?_) (fun j3 hj3 => ?_)
    · exact x_retI (x := (v2, th)) rfl
    · refine x_ic_ne rfl rfl (fun h4 => ?_) (fun h4 => ?_)
      · refine x_P 25 rfl rfl rfl ?_
        refine x_P 31 rfl rfl rfl ?_
        exact x_lv (hj3 (Int32.ofInt 1)) trivial
      · refine x_P 29 rfl rfl rfl ?_
        refine x_P 30 rfl rfl rfl ?_
        refine x_P 31 rfl rfl rfl ?_
        exact x_lv (hj3 ((Int32.ofInt 2) * a1)) trivial
-- 271 NineTreesModel.pointed(I)I
noncomputable def m_271 (a0 : Nat) (a1 : Int32) (th : tH) : Option (Int32 × tH) :=
  (gC th 8 a0).bind fun _ =>
  (m_193 a0 a1 th).bind fun x1 =>
  if x1 = 0 then
    (m_189 a0 (Int8.ofInt (-2)).toInt32 th).bind fun q29 =>
    some (q29.1, q29.2)
  else
    (m_240 a0 th).bind fun th2 =>
    lp (fun (s3 : Int32 × Int32) nx4 ex5 =>
        (gI th2 8 a0 27).bind fun x7 =>
        if x7 ≤ s3.2 then
          ex5 s3.1
        else
          (gN th2 8 a0 26).bind fun o8 =>
          (aI th2 o8 s3.2).bind fun x9 =>
          (m_255 x9 (Int32.ofInt 0) th2).bind fun x10 =>
          (gN th2 8 a0 26).bind fun o11 =>
          (aI th2 o11 s3.2).bind fun x12 =>
          (m_255 x12 (x10 + (Int32.ofInt 1)) th2).bind fun x13 =>
          (gN th2 8 a0 26).bind fun o14 =>
          (aI th2 o14 s3.2).bind fun x15 =>
          (m_196 x15 th2).bind fun x16 =>
          jn (fun (v17 : Int32 × Int32) =>
              nx4 ((v17.2 + v17.1), (s3.2 + Int32.ofInt 1))
            ) (fun j18 =>
              jn (fun (v19 : Int32) =>
                  j18 ((Int32.ofInt 0), v19)
                ) (fun j20 =>
                  if x16 < (Int32.ofInt 3) then
                    j20 s3.1
                  else
                    (gN th2 8 a0 12).bind fun o21 =>
                    (aI th2 o21 x10).bind fun x22 =>
                    (gN th2 8 a0 12).bind fun o23 =>
                    (aI th2 o23 x13).bind fun x24 =>
                    (m_236 a0 x22 x24 a1 th2).bind fun x25 =>
                    if x25 = 0 then
                      j20 s3.1
                    else
                      j18 ((Int32.ofInt 1), s3.1)
                )
            )
      ) 4096 ((Int32.ofInt 0), (Int32.ofInt 0)) (fun (x6 : Int32) =>
        some (x6, th2)
      )
theorem c_271 {a0 : Nat} {a1 : Int32} {th : tH} {x : (Int32 × tH)} (h : m_271 a0 a1 th = some x) : ∃ fs, th[a0]? = some (.inr (8, fs)) := gC_of h
theorem S_271 {L : Nat} (d : Nat) (a0 : Nat) (a1 : Int32) (th : tH) : Wx L (fun x => (some (.int x.1), x.2)) (d + 4) 271 6 0 [(0, .ref a0), (1, .int a1)] [] th (m_271 a0 a1 th) := by
  unfold m_271
  refine x_gC ?_
  refine x_P 1 rfl rfl rfl ?_
  refine x_P 2 rfl rfl rfl ?_
  refine x_callV rfl rfl rfl rfl rfl ⟨rfl, rfl⟩ (fun x h => c_193 h) (S_193 (d + 2) a0 a1 th) (fun x1 hx1 => ?_)
  refine x_if_ne rfl rfl (fun h30 => ?_) (fun h30 => ?_)
  · refine x_P 9 rfl rfl rfl ?_
    refine x_P 11 rfl rfl rfl ?_
    refine x_callV rfl rfl rfl rfl rfl ⟨rfl, rfl⟩ (fun x h => c_189 h) (S_189 (d + 2) a0 (Int8.ofInt (-2)).toInt32 th) (fun q29 hq29 => ?_)
    exact x_retI (x := (q29.1, q29.2)) rfl
  · refine x_P 16 rfl rfl rfl ?_
    refine x_callW rfl rfl rfl rfl rfl ⟨rfl, rfl⟩ (fun x h => c_240 h) (S_240 d a0 th) (fun th2 hth2 => ?_)
    refine x_P 20 rfl rfl rfl ?_
    refine x_P (lv' := [(2, .int (Int32.ofInt 0)), (0, .ref a0), (1, .int a1)]) 21 rfl rfl rfl ?_
    refine x_P 22 rfl rfl rfl ?_
    refine x_P (lv' := [(3, .int (Int32.ofInt 0)), (2, .int (Int32.ofInt 0)), (0, .ref a0), (1, .int a1)]) 23 rfl rfl rfl ?_
    refine x_lv (lv := [(0, .ref a0), (1, .int a1), (2, .int (Int32.ofInt 0)), (3, .int (Int32.ofInt 0))]) (x_lp 107 (fun s3 => [(0, .ref a0), (1, .int a1), (2, .int s3.1), (3, .int s3.2)]) (fun s3 => th2) (fun x6 => [(2, .int x6)]) (fun x6 => th2) (fun s3 nx4 hnx4 ex5 hex5 => ?_) (fun x6 => ?_) 4096 ((Int32.ofInt 0), (Int32.ofInt 0))) ⟨rfl, rfl, rfl, rfl, trivial⟩
    · refine x_P 24 rfl rfl rfl ?_
      refine x_P 25 rfl rfl rfl ?_
      refine x_gI rfl (fun x7 hx7 => ?_)
      refine x_ic_ge rfl rfl (fun h28 => ?_) (fun h28 => ?_)
      · exact x_lv (hex5 s3.1) ⟨rfl, trivial⟩
      · refine x_P 32 rfl rfl rfl ?_
        refine x_gN rfl (fun o8 ho8 => ?_)
        refine x_P 36 rfl rfl rfl ?_
        refine x_aI rfl ⟨rfl, rfl⟩ (fun x9 hx9 => ?_)
        refine x_P 38 rfl rfl rfl ?_
        refine x_callS rfl rfl rfl rfl rfl rfl ⟨rfl, rfl⟩ (S_255 (d + 2) x9 (Int32.ofInt 0) th2) (fun x10 hx10 => ?_)
        refine x_P (lv' := [(4, .int x10), (0, .ref a0), (1, .int a1), (2, .int s3.1), (3, .int s3.2)]) 43 rfl rfl rfl ?_
        refine x_P 44 rfl rfl rfl ?_
        refine x_gN rfl (fun o11 ho11 => ?_)
        refine x_P 48 rfl rfl rfl ?_
        refine x_aI rfl ⟨rfl, rfl⟩ (fun x12 hx12 => ?_)
        refine x_P 51 rfl rfl rfl ?_
        refine x_P 52 rfl rfl rfl ?_
        refine x_P 53 rfl rfl rfl ?_
        refine x_callS rfl rfl rfl rfl rfl rfl ⟨rfl, rfl⟩ (S_255 (d + 2) x12 (x10 + (Int32.ofInt 1)) th2) (fun x13 hx13 => ?_)
        refine x_P (lv' := [(5, .int x13), (4, .int x10), (0, .ref a0), (1, .int a1), (2, .int s3.1), (3, .int s3.2)]) 58 rfl rfl rfl ?_
        refine x_P 59 rfl rfl rfl ?_
        refine x_P 60 rfl rfl rfl ?_
        refine x_gN rfl (fun o14 ho14 => ?_)
        refine x_P 64 rfl rfl rfl ?_
        refine x_aI rfl ⟨rfl, rfl⟩ (fun x15 hx15 => ?_)
        refine x_callS rfl rfl rfl rfl rfl rfl ⟨rfl, rfl⟩ (S_196 (d + 3) x15 th2) (fun x16 hx16 => ?_)
        refine x_P 69 rfl rfl rfl ?_
        refine x_jn 99 (fun v17 => [(0, .ref a0), (1, .int a1), (3, .int s3.2)]) (fun v17 => [.int v17.1, .int v17.2]) (fun v17 => th2) (fun v17 => ?_) (fun j18 hj18 => ?_)
        · refine x_P 100 rfl rfl rfl ?_
          refine x_P (lv' := [(2, .int (v17.2 + v17.1)), (0, .ref a0), (1, .int a1), (3, .int s3.2)]) 101 rfl rfl rfl ?_
          refine x_P (lv' := [(3, .int (s3.2 + Int32.ofInt 1)), (2, .int (v17.2 + v17.1)), (0, .ref a0), (1, .int a1)]) 104 rfl rfl rfl ?_
          refine x_P 23 rfl rfl rfl ?_
          exact x_lv (hnx4 ((v17.2 + v17.1), (s3.2 + Int32.ofInt 1))) ⟨rfl, rfl, rfl, rfl, trivial⟩
        · refine x_jn 98 (fun v19 => [(0, .ref a0), (1, .int a1), (3, .int s3.2)]) (fun v19 => [.int v19]) (fun v19 => th2) (fun v19 => ?_) (fun j20 hj20 => ?_)
          · refine x_P 99 rfl rfl rfl ?_
            exact x_lv (hj18 ((Int32.ofInt 0), v19)) ⟨rfl, rfl, rfl, trivial⟩
          · refine x_ic_lt rfl rfl (fun h27 => ?_) (fun h27 => ?_)
            · exact x_lv (hj20 s3.1) ⟨rfl, rfl, rfl, trivial⟩
            · refine x_P 73 rfl rfl rfl ?_
              refine x_P 74 rfl rfl rfl ?_
              refine x_gN rfl (fun o21 ho21 => ?_)
              refine x_P 79 rfl rfl rfl ?_
              refine x_aI rfl ⟨rfl, rfl⟩ (fun x22 hx22 => ?_)
              refine x_P 81 rfl rfl rfl ?_
              refine x_gN rfl (fun o23 ho23 => ?_)
              refine x_P 86 rfl rfl rfl ?_
              refine x_aI rfl ⟨rfl, rfl⟩ (fun x24 hx24 => ?_)
              refine x_P 88 rfl rfl rfl ?_
              refine x_callV rfl rfl rfl rfl rfl ⟨rfl, rfl⟩ (fun x h => c_236 h) (S_236 (d + 2) a0 x22 x24 a1 th2) (fun x25 hx25 => ?_)
              refine x_if_eq rfl rfl (fun h26 => ?_) (fun h26 => ?_)
              · exact x_lv (hj20 s3.1) ⟨rfl, rfl, rfl, trivial⟩
              · refine x_P 95 rfl rfl rfl ?_
                refine x_P 99 rfl rfl rfl ?_
                exact x_lv (hj18 ((Int32.ofInt 1), s3.1)) ⟨rfl, rfl, rfl, trivial⟩
    · refine x_P 108 rfl rfl rfl ?_
      exact x_retI (x := (x6, th2)) rfl
-- 273 NineTreesModel.viewFrom(I)I
noncomputable def m_273 (a0 : Nat) (a1 : Int32) (th : tH) : Option (Int32) :=
  (gC th 8 a0).bind fun _ =>
  lp (fun (s1 : Int32 × Int32) nx2 ex3 =>
      (gI th 8 a0 10).bind fun x5 =>
      if x5 ≤ s1.2 then
        ex3 s1.1
      else
        (gN th 8 a0 12).bind fun o6 =>
        (aI th o6 s1.2).bind fun x7 =>
        jn (fun (v8 : Int32 × Int32) =>
            nx2 ((v8.2 ||| v8.1), (s1.2 + Int32.ofInt 1))
          ) (fun j9 =>
            jn (fun (v10 : Int32) =>
                j9 ((Int32.ofInt 0), v10)
              ) (fun j11 =>
                if x7 = a1 then
                  j11 s1.1
                else
                  (m_272 a0 s1.2 a1 th).bind fun x12 =>
                  if x12 = (Int32.ofInt (-1)) then
                    j9 (((Int32.ofInt 1) <<< (s1.2 &&& 31)), s1.1)
                  else
                    j11 s1.1
              )
          )
    ) 4096 ((Int32.ofInt 0), (Int32.ofInt 0)) (fun (x4 : Int32) =>
      some x4
    )
theorem c_273 {a0 : Nat} {a1 : Int32} {th : tH} {x : (Int32)} (h : m_273 a0 a1 th = some x) : ∃ fs, th[a0]? = some (.inr (8, fs)) := gC_of h
theorem S_273 {L : Nat} (d : Nat) (a0 : Nat) (a1 : Int32) (th : tH) : Wx L (fun x => (some (.int x), th)) (d + 3) 273 4 0 [(0, .ref a0), (1, .int a1)] [] th (m_273 a0 a1 th) := by
  unfold m_273
  refine x_gC ?_
  refine x_P 1 rfl rfl rfl ?_
  refine x_P (lv' := [(2, .int (Int32.ofInt 0)), (0, .ref a0), (1, .int a1)]) 2 rfl rfl rfl ?_
  refine x_P 3 rfl rfl rfl ?_
  refine x_P (lv' := [(3, .int (Int32.ofInt 0)), (2, .int (Int32.ofInt 0)), (0, .ref a0), (1, .int a1)]) 4 rfl rfl rfl ?_
  refine x_lv (lv := [(0, .ref a0), (1, .int a1), (2, .int (Int32.ofInt 0)), (3, .int (Int32.ofInt 0))]) (x_lp 48 (fun s1 => [(0, .ref a0), (1, .int a1), (2, .int s1.1), (3, .int s1.2)]) (fun s1 => th) (fun x4 => [(2, .int x4)]) (fun x4 => th) (fun s1 nx2 hnx2 ex3 hex3 => ?_) (fun x4 => ?_) 4096 ((Int32.ofInt 0), (Int32.ofInt 0))) ⟨rfl, rfl, rfl, rfl, trivial⟩
  · refine x_P 5 rfl rfl rfl ?_
    refine x_P 6 rfl rfl rfl ?_
    refine x_gI rfl (fun x5 hx5 => ?_)
    refine x_ic_ge rfl rfl (fun h15 => ?_) (fun h15 => ?_)
    · exact x_lv (hex3 s1.1) ⟨rfl, trivial⟩
    · refine x_P 13 rfl rfl rfl ?_
      refine x_P 14 rfl rfl rfl ?_
      refine x_gN rfl (fun o6 ho6 => ?_)
      refine x_P 18 rfl rfl rfl ?_
      refine x_aI rfl ⟨rfl, rfl⟩ (fun x7 hx7 => ?_)
      refine x_P 20 rfl rfl rfl ?_
      refine x_jn 40 (fun v8 => [(0, .ref a0), (1, .int a1), (3, .int s1.2)]) (fun v8 => [.int v8.1, .int v8.2]) (fun v8 => th) (fun v8 => ?_) (fun j9 hj9 => ?_)
      · refine x_P 41 rfl rfl rfl ?_
        refine x_P (lv' := [(2, .int (v8.2 ||| v8.1)), (0, .ref a0), (1, .int a1), (3, .int s1.2)]) 42 rfl rfl rfl ?_
        refine x_P (lv' := [(3, .int (s1.2 + Int32.ofInt 1)), (2, .int (v8.2 ||| v8.1)), (0, .ref a0), (1, .int a1)]) 45 rfl rfl rfl ?_
        refine x_P 4 rfl rfl rfl ?_
        exact x_lv (hnx2 ((v8.2 ||| v8.1), (s1.2 + Int32.ofInt 1))) ⟨rfl, rfl, rfl, rfl, trivial⟩
      · refine x_jn 39 (fun v10 => [(0, .ref a0), (1, .int a1), (3, .int s1.2)]) (fun v10 => [.int v10]) (fun v10 => th) (fun v10 => ?_) (fun j11 hj11 => ?_)
        · refine x_P 40 rfl rfl rfl ?_
          exact x_lv (hj9 ((Int32.ofInt 0), v10)) ⟨rfl, rfl, rfl, trivial⟩
        · refine x_ic_eq rfl rfl (fun h14 => ?_) (fun h14 => ?_)
          · exact x_lv (hj11 s1.1) ⟨rfl, rfl, rfl, trivial⟩
          · refine x_P 24 rfl rfl rfl ?_
            refine x_P 25 rfl rfl rfl ?_
            refine x_P 26 rfl rfl rfl ?_
            refine x_callV rfl rfl rfl rfl rfl ⟨rfl, rfl⟩ (fun x h => c_272 h) (S_272 d a0 s1.2 a1 th) (fun x12 hx12 => ?_)
            refine x_P 30 rfl rfl rfl ?_
            refine x_ic_ne rfl rfl (fun h13 => ?_) (fun h13 => ?_)
            · refine x_P 34 rfl rfl rfl ?_
              refine x_P 35 rfl rfl rfl ?_
              refine x_P 36 rfl rfl rfl ?_
              refine x_P 40 rfl rfl rfl ?_
              exact x_lv (hj9 (((Int32.ofInt 1) <<< (s1.2 &&& 31)), s1.1)) ⟨rfl, rfl, rfl, trivial⟩
            · exact x_lv (hj11 s1.1) ⟨rfl, rfl, rfl, trivial⟩
  · refine x_P 49 rfl rfl rfl ?_
    exact x_retI (x := x4) rfl
-- 274 NineTreesModel.view(I)I
noncomputable def m_274 (a0 : Nat) (a1 : Int32) (th : tH) : Option (Int32 × tH) :=
  (gC th 8 a0).bind fun _ =>
  (m_193 a0 a1 th).bind fun x1 =>
  jn (fun (v2 : Int32 × tH) =>
      some (v2.1, v2.2)
    ) (fun j3 =>
      if x1 = 0 then
        (m_189 a0 (Int8.ofInt (-2)).toInt32 th).bind fun q4 =>
        j3 (q4.1, q4.2)
      else
        (m_273 a0 a1 th).bind fun x5 =>
        j3 (x5, th)
    )
theorem c_274 {a0 : Nat} {a1 : Int32} {th : tH} {x : (Int32 × tH)} (h : m_274 a0 a1 th = some x) : ∃ fs, th[a0]? = some (.inr (8, fs)) := gC_of h
theorem S_274 {L : Nat} (d : Nat) (a0 : Nat) (a1 : Int32) (th : tH) : Wx L (fun x => (some (.int x.1), x.2)) (d + 4) 274 2 0 [(0, .ref a0), (1, .int a1)] [] th (m_274 a0 a1 th) := by
  unfold m_274
  refine x_gC ?_
  refine x_P 1 rfl rfl rfl ?_
  refine x_P 2 rfl rfl rfl ?_
  refine x_callV rfl rfl rfl rfl rfl ⟨rfl, rfl⟩ (fun x h => c_193 h) (S_193 (d + 2) a0 a1 th) (fun x1 hx1 => ?_)
  refine x_jn 22 (fun v2 => []) (fun v2 => [.int v2.1]) (fun v2 => v2.2) (fun v2 => ?_) (fun j3 hj3 => ?_)
  · exact x_retI (x := (v2.1, v2.2)) rfl
  · refine x_if_eq rfl rfl (fun h6 => ?_) (fun h6 => ?_)
    · refine x_P 17 rfl rfl rfl ?_
      refine x_P 19 rfl rfl rfl ?_
      refine x_callV rfl rfl rfl rfl rfl ⟨rfl, rfl⟩ (fun x h => c_189 h) (S_189 (d + 2) a0 (Int8.ofInt (-2)).toInt32 th) (fun q4 hq4 => ?_)
      exact x_lv (hj3 (q4.1, q4.2)) trivial
    · refine x_P 9 rfl rfl rfl ?_
      refine x_P 10 rfl rfl rfl ?_
      refine x_callV rfl rfl rfl rfl rfl ⟨rfl, rfl⟩ (fun x h => c_273 h) (S_273 d a0 a1 th) (fun x5 hx5 => ?_)
      refine x_P 22 rfl rfl rfl ?_
      exact x_lv (hj3 (x5, th)) trivial
