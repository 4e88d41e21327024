/-! ===== programs ===== -/
-- 290 NineTreesModel.isCorner(I)Z
noncomputable def m_290 (a0 : Nat) (a1 : Int32) (th : tH) : Option (Int32) :=
  (gC th 8 a0).bind fun _ =>
  lp (fun (s1 : Int32) nx2 ex3 =>
      (gI th 8 a0 10).bind fun x5 =>
      if x5 ≤ s1 then
        ex3 ()
      else
        lp (fun (s6 : Int32) nx7 ex8 =>
            if s1 ≤ s6 then
              ex8 ()
            else
              jn (fun (v10 : Unit) =>
                  nx7 (s6 + Int32.ofInt 1)
                ) (fun j11 =>
                  if s1 = a1 then
                    j11 ()
                  else
                    if s6 = a1 then
                      j11 ()
                    else
                      (gN th 8 a0 12).bind fun o12 =>
                      (aI th o12 s1).bind fun x13 =>
                      (gN th 8 a0 12).bind fun o14 =>
                      (aI th o14 s6).bind fun x15 =>
                      (m_238 a0 x13 x15 th).bind fun x16 =>
                      (gN th 8 a0 12).bind fun o17 =>
                      (aI th o17 s1).bind fun x18 =>
                      (gN th 8 a0 12).bind fun o19 =>
                      (aI th o19 s6).bind fun x20 =>
                      (gN th 8 a0 12).bind fun o21 =>
                      (aI th o21 a1).bind fun x22 =>
                      (m_236 a0 x18 x20 x22 th).bind fun x23 =>
                      jn (fun (v24 : Unit) =>
                          lp (fun (s26 : Int32) nx27 ex28 =>
                              if s6 ≤ s26 then
                                ex28 ()
                              else
                                jn (fun (v30 : Int32) =>
                                    jn (fun (v32 : Unit) =>
                                        nx27 (s26 + Int32.ofInt 1)
                                      ) (fun j33 =>
                                        if v30 = 0 then
                                          j33 ()
                                        else
                                          (gN th 8 a0 12).bind fun o34 =>
                                          (aI th o34 s1).bind fun x35 =>
                                          (gN th 8 a0 12).bind fun o36 =>
                                          (aI th o36 s6).bind fun x37 =>
                                          (gN th 8 a0 12).bind fun o38 =>
                                          (aI th o38 s26).bind fun x39 =>
                                          (gN th 8 a0 12).bind fun o40 =>
                                          (aI th o40 a1).bind fun x41 =>
                                          (m_289 a0 x35 x37 x39 x41 th).bind fun x42 =>
                                          if x42 = 0 then
                                            j33 ()
                                          else
                                            rB (Int32.ofInt 0)
                                      )
                                  ) (fun j31 =>
                                    jn (fun (v45 : Unit) =>
                                        j31 (Int32.ofInt 0)
                                      ) (fun j46 =>
                                        if s26 = a1 then
                                          j46 ()
                                        else
                                          (gN th 8 a0 12).bind fun o47 =>
                                          (aI th o47 s1).bind fun x48 =>
                                          (gN th 8 a0 12).bind fun o49 =>
                                          (aI th o49 s6).bind fun x50 =>
                                          (gN th 8 a0 12).bind fun o51 =>
                                          (aI th o51 s26).bind fun x52 =>
                                          (m_236 a0 x48 x50 x52 th).bind fun x53 =>
                                          if x53 = 0 then
                                            j31 (Int32.ofInt 1)
                                          else
                                            j46 ()
                                      )
                                  )
                            ) 4096 (Int32.ofInt 0) (fun (x29 : Unit) =>
                              j11 ()
                            )
                        ) (fun j25 =>
                          if x23 = 0 then
                            j25 ()
                          else
                            (gN th 8 a0 12).bind fun o57 =>
                            (aI th o57 s1).bind fun x58 =>
                            (gN th 8 a0 12).bind fun o59 =>
                            (aI th o59 a1).bind fun x60 =>
                            (m_238 a0 x58 x60 th).bind fun x61 =>
                            if x16 ≤ x61 then
                              j25 ()
                            else
                              (gN th 8 a0 12).bind fun o62 =>
                              (aI th o62 s6).bind fun x63 =>
                              (gN th 8 a0 12).bind fun o64 =>
                              (aI th o64 a1).bind fun x65 =>
                              (m_238 a0 x63 x65 th).bind fun x66 =>
                              if x16 ≤ x66 then
                                j25 ()
                              else
                                rB (Int32.ofInt 0)
                        )
                )
          ) 4096 (Int32.ofInt 0) (fun (x9 : Unit) =>
            nx2 (s1 + Int32.ofInt 1)
          )
    ) 4096 (Int32.ofInt 0) (fun (x4 : Unit) =>
      rB (Int32.ofInt 1)
    )
theorem c_290 {a0 : Nat} {a1 : Int32} {th : tH} {x : (Int32)} (h : m_290 a0 a1 th = some x) : ∃ fs, th[a0]? = some (.inr (8, fs)) := gC_of h
theorem S_290 {L : Nat} (d : Nat) (a0 : Nat) (a1 : Int32) (th : tH) : Wx L (fun x => (some (.int x), th)) (d + 2) 290 8 0 [(0, .ref a0), (1, .int a1)] [] th (m_290 a0 a1 th) := by
  unfold m_290
  refine x_gC ?_
  refine x_P 1 rfl rfl rfl ?_
  refine x_P (lv' := [(2, .int (Int32.ofInt 0)), (0, .ref a0), (1, .int a1)]) 2 rfl rfl rfl ?_
  refine x_lv (lv := [(0, .ref a0), (1, .int a1), (2, .int (Int32.ofInt 0))]) (x_lp 223 (fun s1 => [(0, .ref a0), (1, .int a1), (2, .int s1)]) (fun s1 => th) (fun x4 => []) (fun x4 => th) (fun s1 nx2 hnx2 ex3 hex3 => ?_) (fun x4 => ?_) 4096 (Int32.ofInt 0)) ⟨rfl, rfl, rfl, trivial⟩
  · refine x_P 3 rfl rfl rfl ?_
    refine x_P 4 rfl rfl rfl ?_
    refine x_gI rfl (fun x5 hx5 => ?_)
    refine x_ic_ge rfl rfl (fun h73 => ?_) (fun h73 => ?_)
    · exact x_lv (hex3 ()) trivial
    · refine x_P 11 rfl rfl rfl ?_
      refine x_P (lv' := [(3, .int (Int32.ofInt 0)), (0, .ref a0), (1, .int a1), (2, .int s1)]) 12 rfl rfl rfl ?_
      refine x_lv (lv := [(0, .ref a0), (1, .int a1), (2, .int s1), (3, .int (Int32.ofInt 0))]) (x_lp 217 (fun s6 => [(0, .ref a0), (1, .int a1), (2, .int s1), (3, .int s6)]) (fun s6 => th) (fun x9 => [(0, .ref a0), (1, .int a1), (2, .int s1)]) (fun x9 => th) (fun s6 nx7 hnx7 ex8 hex8 => ?_) (fun x9 => ?_) 4096 (Int32.ofInt 0)) ⟨rfl, rfl, rfl, rfl, trivial⟩
      · refine x_P 13 rfl rfl rfl ?_
        refine x_P 14 rfl rfl rfl ?_
        refine x_ic_ge rfl rfl (fun h72 => ?_) (fun h72 => ?_)
        · exact x_lv (hex8 ()) ⟨rfl, rfl, rfl, trivial⟩
        · refine x_P 18 rfl rfl rfl ?_
          refine x_P 19 rfl rfl rfl ?_
          refine x_jn 211 (fun v10 => [(0, .ref a0), (1, .int a1), (2, .int s1), (3, .int s6)]) (fun v10 => []) (fun v10 => th) (fun v10 => ?_) (fun j11 hj11 => ?_)
          · refine x_P (lv' := [(3, .int (s6 + Int32.ofInt 1)), (0, .ref a0), (1, .int a1), (2, .int s1)]) 214 rfl rfl rfl ?_
            refine x_P 12 rfl rfl rfl ?_
            exact x_lv (hnx7 (s6 + Int32.ofInt 1)) ⟨rfl, rfl, rfl, rfl, trivial⟩
          · refine x_ic_eq rfl rfl (fun h71 => ?_) (fun h71 => ?_)
            · exact x_lv (hj11 ()) ⟨rfl, rfl, rfl, rfl, trivial⟩
            · refine x_P 23 rfl rfl rfl ?_
              refine x_P 24 rfl rfl rfl ?_
              refine x_ic_eq rfl rfl (fun h70 => ?_) (fun h70 => ?_)
              · exact x_lv (hj11 ()) ⟨rfl, rfl, rfl, rfl, trivial⟩
              · refine x_P 28 rfl rfl rfl ?_
                refine x_P 29 rfl rfl rfl ?_
                refine x_gN rfl (fun o12 ho12 => ?_)
                refine x_P 33 rfl rfl rfl ?_
                refine x_aI rfl ⟨rfl, rfl⟩ (fun x13 hx13 => ?_)
                refine x_P 35 rfl rfl rfl ?_
                refine x_gN rfl (fun o14 ho14 => ?_)
                refine x_P 39 rfl rfl rfl ?_
                refine x_aI rfl ⟨rfl, rfl⟩ (fun x15 hx15 => ?_)
                refine x_callV rfl rfl rfl rfl rfl ⟨rfl, rfl⟩ (fun x h => c_238 h) (S_238 (d + 1) a0 x13 x15 th) (fun x16 hx16 => ?_)
                refine x_P (lv' := [(4, .int x16), (0, .ref a0), (1, .int a1), (2, .int s1), (3, .int s6)]) 45 rfl rfl rfl ?_
                refine x_P 46 rfl rfl rfl ?_
                refine x_P 47 rfl rfl rfl ?_
                refine x_gN rfl (fun o17 ho17 => ?_)
                refine x_P 51 rfl rfl rfl ?_
                refine x_aI rfl ⟨rfl, rfl⟩ (fun x18 hx18 => ?_)
                refine x_P 53 rfl rfl rfl ?_
                refine x_gN rfl (fun o19 ho19 => ?_)
                refine x_P 57 rfl rfl rfl ?_
                refine x_aI rfl ⟨rfl, rfl⟩ (fun x20 hx20 => ?_)
                refine x_P 59 rfl rfl rfl ?_
                refine x_gN rfl (fun o21 ho21 => ?_)
                refine x_P 63 rfl rfl rfl ?_
                refine x_aI rfl ⟨rfl, rfl⟩ (fun x22 hx22 => ?_)
                refine x_callV rfl rfl rfl rfl rfl ⟨rfl, rfl⟩ (fun x h => c_236 h) (S_236 d a0 x18 x20 x22 th) (fun x23 hx23 => ?_)
                refine x_P (lv' := [(5, .int x23), (4, .int x16), (0, .ref a0), (1, .int a1), (2, .int s1), (3, .int s6)]) 69 rfl rfl rfl ?_
                refine x_P 71 rfl rfl rfl ?_
                refine x_jn 118 (fun v24 => [(0, .ref a0), (1, .int a1), (2, .int s1), (3, .int s6)]) (fun v24 => []) (fun v24 => th) (fun v24 => ?_) (fun j25 hj25 => ?_)
                · refine x_P 119 rfl rfl rfl ?_
                  refine x_P (lv' := [(6, .int (Int32.ofInt 0)), (0, .ref a0), (1, .int a1), (2, .int s1), (3, .int s6)]) 121 rfl rfl rfl ?_
                  refine x_lv (lv := [(0, .ref a0), (1, .int a1), (2, .int s1), (3, .int s6), (6, .int (Int32.ofInt 0))]) (x_lp 211 (fun s26 => [(0, .ref a0), (1, .int a1), (2, .int s1), (3, .int s6), (6, .int s26)]) (fun s26 => th) (fun x29 => [(0, .ref a0), (1, .int a1), (2, .int s1), (3, .int s6)]) (fun x29 => th) (fun s26 nx27 hnx27 ex28 hex28 => ?_) (fun x29 => ?_) 4096 (Int32.ofInt 0)) ⟨rfl, rfl, rfl, rfl, rfl, trivial⟩
                  · refine x_P 123 rfl rfl rfl ?_
                    refine x_P 124 rfl rfl rfl ?_
                    refine x_ic_ge rfl rfl (fun h56 => ?_) (fun h56 => ?_)
                    · exact x_lv (hex28 ()) ⟨rfl, rfl, rfl, rfl, trivial⟩
                    · refine x_P 129 rfl rfl rfl ?_
                      refine x_P 130 rfl rfl rfl ?_
                      refine x_jn 164 (fun v30 => [(0, .ref a0), (1, .int a1), (2, .int s1), (3, .int s6), (6, .int s26)]) (fun v30 => [.int v30]) (fun v30 => th) (fun v30 => ?_) (fun j31 hj31 => ?_)
                      · refine x_P (lv' := [(7, .int v30), (0, .ref a0), (1, .int a1), (2, .int s1), (3, .int s6), (6, .int s26)]) 166 rfl rfl rfl ?_
                        refine x_P 168 rfl rfl rfl ?_
                        refine x_jn 205 (fun v32 => [(0, .ref a0), (1, .int a1), (2, .int s1), (3, .int s6), (6, .int s26)]) (fun v32 => []) (fun v32 => th) (fun v32 => ?_) (fun j33 hj33 => ?_)
                        · refine x_P (lv' := [(6, .int (s26 + Int32.ofInt 1)), (0, .ref a0), (1, .int a1), (2, .int s1), (3, .int s6)]) 208 rfl rfl rfl ?_
                          refine x_P 121 rfl rfl rfl ?_
                          exact x_lv (hnx27 (s26 + Int32.ofInt 1)) ⟨rfl, rfl, rfl, rfl, rfl, trivial⟩
                        · refine x_if_eq rfl rfl (fun h44 => ?_) (fun h44 => ?_)
                          · exact x_lv (hj33 ()) ⟨rfl, rfl, rfl, rfl, rfl, trivial⟩
                          · refine x_P 172 rfl rfl rfl ?_
                            refine x_P 173 rfl rfl rfl ?_
                            refine x_gN rfl (fun o34 ho34 => ?_)
                            refine x_P 177 rfl rfl rfl ?_
                            refine x_aI rfl ⟨rfl, rfl⟩ (fun x35 hx35 => ?_)
                            refine x_P 179 rfl rfl rfl ?_
                            refine x_gN rfl (fun o36 ho36 => ?_)
                            refine x_P 183 rfl rfl rfl ?_
                            refine x_aI rfl ⟨rfl, rfl⟩ (fun x37 hx37 => ?_)
                            refine x_P 185 rfl rfl rfl ?_
                            refine x_gN rfl (fun o38 ho38 => ?_)
                            refine x_P 190 rfl rfl rfl ?_
                            refine x_aI rfl ⟨rfl, rfl⟩ (fun x39 hx39 => ?_)
                            refine x_P 192 rfl rfl rfl ?_
                            refine x_gN rfl (fun o40 ho40 => ?_)
                            refine x_P 196 rfl rfl rfl ?_
                            refine x_aI rfl ⟨rfl, rfl⟩ (fun x41 hx41 => ?_)
                            refine x_callV rfl rfl rfl rfl rfl ⟨rfl, rfl⟩ (fun x h => c_289 h) (S_289 d a0 x35 x37 x39 x41 th) (fun x42 hx42 => ?_)
                            refine x_if_eq rfl rfl (fun h43 => ?_) (fun h43 => ?_)
                            · exact x_lv (hj33 ()) ⟨rfl, rfl, rfl, rfl, rfl, trivial⟩
                            · refine x_P 204 rfl rfl rfl ?_
                              exact x_rB rfl
                      · refine x_jn 163 (fun v45 => [(0, .ref a0), (1, .int a1), (2, .int s1), (3, .int s6), (6, .int s26)]) (fun v45 => []) (fun v45 => th) (fun v45 => ?_) (fun j46 hj46 => ?_)
                        · refine x_P 164 rfl rfl rfl ?_
                          exact x_lv (hj31 (Int32.ofInt 0)) ⟨rfl, rfl, rfl, rfl, rfl, trivial⟩
                        · refine x_ic_eq rfl rfl (fun h55 => ?_) (fun h55 => ?_)
                          · exact x_lv (hj46 ()) ⟨rfl, rfl, rfl, rfl, rfl, trivial⟩
                          · refine x_P 134 rfl rfl rfl ?_
                            refine x_P 135 rfl rfl rfl ?_
                            refine x_gN rfl (fun o47 ho47 => ?_)
                            refine x_P 139 rfl rfl rfl ?_
                            refine x_aI rfl ⟨rfl, rfl⟩ (fun x48 hx48 => ?_)
                            refine x_P 141 rfl rfl rfl ?_
                            refine x_gN rfl (fun o49 ho49 => ?_)
                            refine x_P 145 rfl rfl rfl ?_
                            refine x_aI rfl ⟨rfl, rfl⟩ (fun x50 hx50 => ?_)
                            refine x_P 147 rfl rfl rfl ?_
                            refine x_gN rfl (fun o51 ho51 => ?_)
                            refine x_P 152 rfl rfl rfl ?_
                            refine x_aI rfl ⟨rfl, rfl⟩ (fun x52 hx52 => ?_)
                            refine x_callV rfl rfl rfl rfl rfl ⟨rfl, rfl⟩ (fun x h => c_236 h) (S_236 d a0 x48 x50 x52 th) (fun x53 hx53 => ?_)
                            refine x_if_ne rfl rfl (fun h54 => ?_) (fun h54 => ?_)
                            · refine x_P 160 rfl rfl rfl ?_
                              refine x_P 164 rfl rfl rfl ?_
                              exact x_lv (hj31 (Int32.ofInt 1)) ⟨rfl, rfl, rfl, rfl, rfl, trivial⟩
                            · exact x_lv (hj46 ()) ⟨rfl, rfl, rfl, rfl, rfl, trivial⟩
                  · exact x_lv (hj11 ()) ⟨rfl, rfl, rfl, rfl, trivial⟩
                · refine x_if_eq rfl rfl (fun h69 => ?_) (fun h69 => ?_)
                  · exact x_lv (hj25 ()) ⟨rfl, rfl, rfl, rfl, trivial⟩
                  · refine x_P 75 rfl rfl rfl ?_
                    refine x_P 76 rfl rfl rfl ?_
                    refine x_gN rfl (fun o57 ho57 => ?_)
                    refine x_P 80 rfl rfl rfl ?_
                    refine x_aI rfl ⟨rfl, rfl⟩ (fun x58 hx58 => ?_)
                    refine x_P 82 rfl rfl rfl ?_
                    refine x_gN rfl (fun o59 ho59 => ?_)
                    refine x_P 86 rfl rfl rfl ?_
                    refine x_aI rfl ⟨rfl, rfl⟩ (fun x60 hx60 => ?_)
                    refine x_callV rfl rfl rfl rfl rfl ⟨rfl, rfl⟩ (fun x h => c_238 h) (S_238 (d + 1) a0 x58 x60 th) (fun x61 hx61 => ?_)
                    refine x_P 92 rfl rfl rfl ?_
                    refine x_ic_ge rfl rfl (fun h68 => ?_) (fun h68 => ?_)
                    · exact x_lv (hj25 ()) ⟨rfl, rfl, rfl, rfl, trivial⟩
                    · refine x_P 96 rfl rfl rfl ?_
                      refine x_P 97 rfl rfl rfl ?_
                      refine x_gN rfl (fun o62 ho62 => ?_)
                      refine x_P 101 rfl rfl rfl ?_
                      refine x_aI rfl ⟨rfl, rfl⟩ (fun x63 hx63 => ?_)
                      refine x_P 103 rfl rfl rfl ?_
                      refine x_gN rfl (fun o64 ho64 => ?_)
                      refine x_P 107 rfl rfl rfl ?_
                      refine x_aI rfl ⟨rfl, rfl⟩ (fun x65 hx65 => ?_)
                      refine x_callV rfl rfl rfl rfl rfl ⟨rfl, rfl⟩ (fun x h => c_238 h) (S_238 (d + 1) a0 x63 x65 th) (fun x66 hx66 => ?_)
                      refine x_P 113 rfl rfl rfl ?_
                      refine x_ic_ge rfl rfl (fun h67 => ?_) (fun h67 => ?_)
                      · exact x_lv (hj25 ()) ⟨rfl, rfl, rfl, rfl, trivial⟩
                      · refine x_P 117 rfl rfl rfl ?_
                        exact x_rB rfl
      · refine x_P (lv' := [(2, .int (s1 + Int32.ofInt 1)), (0, .ref a0), (1, .int a1)]) 220 rfl rfl rfl ?_
        refine x_P 2 rfl rfl rfl ?_
        exact x_lv (hnx2 (s1 + Int32.ofInt 1)) ⟨rfl, rfl, rfl, trivial⟩
  · refine x_P 224 rfl rfl rfl ?_
    exact x_rB rfl
-- 291 NineTreesModel.corners()I
noncomputable def m_291 (a0 : Nat) (th : tH) : Option (Int32) :=
  (gC th 8 a0).bind fun _ =>
  lp (fun (s1 : Int32 × Int32) nx2 ex3 =>
      (gI th 8 a0 10).bind fun x5 =>
      if x5 ≤ s1.2 then
        ex3 s1.1
      else
        (m_290 a0 s1.2 th).bind fun x6 =>
        jn (fun (v7 : Int32 × Int32) =>
            nx2 ((v7.2 ||| v7.1), (s1.2 + Int32.ofInt 1))
          ) (fun j8 =>
            if x6 = 0 then
              j8 ((Int32.ofInt 0), s1.1)
            else
              j8 (((Int32.ofInt 1) <<< (s1.2 &&& 31)), s1.1)
          )
    ) 4096 ((Int32.ofInt 0), (Int32.ofInt 0)) (fun (x4 : Int32) =>
      some x4
    )
theorem c_291 {a0 : Nat} {th : tH} {x : (Int32)} (h : m_291 a0 th = some x) : ∃ fs, th[a0]? = some (.inr (8, fs)) := gC_of h
theorem S_291 {L : Nat} (d : Nat) (a0 : Nat) (th : tH) : Wx L (fun x => (some (.int x), th)) (d + 3) 291 3 0 [(0, .ref a0)] [] th (m_291 a0 th) := by
  unfold m_291
  refine x_gC ?_
  refine x_P 1 rfl rfl rfl ?_
  refine x_P (lv' := [(1, .int (Int32.ofInt 0)), (0, .ref a0)]) 2 rfl rfl rfl ?_
  refine x_P 3 rfl rfl rfl ?_
  refine x_P (lv' := [(2, .int (Int32.ofInt 0)), (1, .int (Int32.ofInt 0)), (0, .ref a0)]) 4 rfl rfl rfl ?_
  refine x_lv (lv := [(0, .ref a0), (1, .int (Int32.ofInt 0)), (2, .int (Int32.ofInt 0))]) (x_lp 36 (fun s1 => [(0, .ref a0), (1, .int s1.1), (2, .int s1.2)]) (fun s1 => th) (fun x4 => [(1, .int x4)]) (fun x4 => th) (fun s1 nx2 hnx2 ex3 hex3 => ?_) (fun x4 => ?_) 4096 ((Int32.ofInt 0), (Int32.ofInt 0))) ⟨rfl, rfl, rfl, trivial⟩
  · refine x_P 5 rfl rfl rfl ?_
    refine x_P 6 rfl rfl rfl ?_
    refine x_gI rfl (fun x5 hx5 => ?_)
    refine x_ic_ge rfl rfl (fun h10 => ?_) (fun h10 => ?_)
    · exact x_lv (hex3 s1.1) ⟨rfl, trivial⟩
    · refine x_P 13 rfl rfl rfl ?_
      refine x_P 14 rfl rfl rfl ?_
      refine x_P 15 rfl rfl rfl ?_
      refine x_callV rfl rfl rfl rfl rfl ⟨rfl, rfl⟩ (fun x h => c_290 h) (S_290 d a0 s1.2 th) (fun x6 hx6 => ?_)
      refine x_jn 28 (fun v7 => [(0, .ref a0), (2, .int s1.2)]) (fun v7 => [.int v7.1, .int v7.2]) (fun v7 => th) (fun v7 => ?_) (fun j8 hj8 => ?_)
      · refine x_P 29 rfl rfl rfl ?_
        refine x_P (lv' := [(1, .int (v7.2 ||| v7.1)), (0, .ref a0), (2, .int s1.2)]) 30 rfl rfl rfl ?_
        refine x_P (lv' := [(2, .int (s1.2 + Int32.ofInt 1)), (1, .int (v7.2 ||| v7.1)), (0, .ref a0)]) 33 rfl rfl rfl ?_
        refine x_P 4 rfl rfl rfl ?_
        exact x_lv (hnx2 ((v7.2 ||| v7.1), (s1.2 + Int32.ofInt 1))) ⟨rfl, rfl, rfl, trivial⟩
      · refine x_if_eq rfl rfl (fun h9 => ?_) (fun h9 => ?_)
        · refine x_P 28 rfl rfl rfl ?_
          exact x_lv (hj8 ((Int32.ofInt 0), s1.1)) ⟨rfl, rfl, trivial⟩
        · refine x_P 22 rfl rfl rfl ?_
          refine x_P 23 rfl rfl rfl ?_
          refine x_P 24 rfl rfl rfl ?_
          refine x_P 28 rfl rfl rfl ?_
          exact x_lv (hj8 (((Int32.ofInt 1) <<< (s1.2 &&& 31)), s1.1)) ⟨rfl, rfl, trivial⟩
  · refine x_P 37 rfl rfl rfl ?_
    exact x_retI (x := x4) rfl
-- 292 NineTreesModel.firmMany()I
noncomputable def m_292 (a0 : Nat) (th : tH) : Option (Int32) :=
  (gC th 8 a0).bind fun _ =>
  lp (fun (s1 : Int32 × Int32) nx2 ex3 =>
      (gI th 8 a0 10).bind fun x5 =>
      if x5 ≤ s1.2 then
        ex3 s1.1
      else
        (m_197 a0 s1.2 th).bind fun x6 =>
        jn (fun (v7 : Int32 × Int32) =>
            nx2 ((v7.2 + v7.1), (s1.2 + Int32.ofInt 1))
          ) (fun j8 =>
            if x6 = 0 then
              j8 ((Int32.ofInt 0), s1.1)
            else
              j8 ((Int32.ofInt 1), s1.1)
          )
    ) 4096 ((Int32.ofInt 0), (Int32.ofInt 0)) (fun (x4 : Int32) =>
      some x4
    )
theorem c_292 {a0 : Nat} {th : tH} {x : (Int32)} (h : m_292 a0 th = some x) : ∃ fs, th[a0]? = some (.inr (8, fs)) := gC_of h
theorem S_292 {L : Nat} (d : Nat) (a0 : Nat) (th : tH) : Wx L (fun x => (some (.int x), th)) (d + 1) 292 3 0 [(0, .ref a0)] [] th (m_292 a0 th) := by
  unfold m_292
  refine x_gC ?_
  refine x_P 1 rfl rfl rfl ?_
  refine x_P (lv' := [(1, .int (Int32.ofInt 0)), (0, .ref a0)]) 2 rfl rfl rfl ?_
  refine x_P 3 rfl rfl rfl ?_
  refine x_P (lv' := [(2, .int (Int32.ofInt 0)), (1, .int (Int32.ofInt 0)), (0, .ref a0)]) 4 rfl rfl rfl ?_
  refine x_lv (lv := [(0, .ref a0), (1, .int (Int32.ofInt 0)), (2, .int (Int32.ofInt 0))]) (x_lp 34 (fun s1 => [(0, .ref a0), (1, .int s1.1), (2, .int s1.2)]) (fun s1 => th) (fun x4 => [(1, .int x4)]) (fun x4 => th) (fun s1 nx2 hnx2 ex3 hex3 => ?_) (fun x4 => ?_) 4096 ((Int32.ofInt 0), (Int32.ofInt 0))) ⟨rfl, rfl, rfl, trivial⟩
  · refine x_P 5 rfl rfl rfl ?_
    refine x_P 6 rfl rfl rfl ?_
    refine x_gI rfl (fun x5 hx5 => ?_)
    refine x_ic_ge rfl rfl (fun h10 => ?_) (fun h10 => ?_)
    · exact x_lv (hex3 s1.1) ⟨rfl, trivial⟩
    · refine x_P 13 rfl rfl rfl ?_
      refine x_P 14 rfl rfl rfl ?_
      refine x_P 15 rfl rfl rfl ?_
      refine x_callV rfl rfl rfl rfl rfl ⟨rfl, rfl⟩ (fun x h => c_197 h) (S_197 d a0 s1.2 th) (fun x6 hx6 => ?_)
      refine x_jn 26 (fun v7 => [(0, .ref a0), (2, .int s1.2)]) (fun v7 => [.int v7.1, .int v7.2]) (fun v7 => th) (fun v7 => ?_) (fun j8 hj8 => ?_)
      · refine x_P 27 rfl rfl rfl ?_
        refine x_P (lv' := [(1, .int (v7.2 + v7.1)), (0, .ref a0), (2, .int s1.2)]) 28 rfl rfl rfl ?_
        refine x_P (lv' := [(2, .int (s1.2 + Int32.ofInt 1)), (1, .int (v7.2 + v7.1)), (0, .ref a0)]) 31 rfl rfl rfl ?_
        refine x_P 4 rfl rfl rfl ?_
        exact x_lv (hnx2 ((v7.2 + v7.1), (s1.2 + Int32.ofInt 1))) ⟨rfl, rfl, rfl, trivial⟩
      · refine x_if_eq rfl rfl (fun h9 => ?_) (fun h9 => ?_)
        · refine x_P 26 rfl rfl rfl ?_
          exact x_lv (hj8 ((Int32.ofInt 0), s1.1)) ⟨rfl, rfl, trivial⟩
        · refine x_P 22 rfl rfl rfl ?_
          refine x_P 26 rfl rfl rfl ?_
          exact x_lv (hj8 ((Int32.ofInt 1), s1.1)) ⟨rfl, rfl, trivial⟩
  · refine x_P 35 rfl rfl rfl ?_
    exact x_retI (x := x4) rfl
-- 293 NineTreesModel.turn()I
noncomputable def m_293 (a0 : Nat) (th : tH) : Option (Int32 × tH) :=
  (gC th 8 a0).bind fun _ =>
  lp (fun (s1 : Int32 × tH) nx2 ex3 =>
      (gI s1.2 8 a0 10).bind fun x6 =>
      if x6 ≤ s1.1 then
        ex3 s1.2
      else
        (gN s1.2 8 a0 12).bind fun o7 =>
        (gN s1.2 8 a0 12).bind fun o8 =>
        (aI s1.2 o8 s1.1).bind fun x9 =>
        (m_281 a0 x9 s1.2).bind fun x10 =>
        (sI s1.2 o7 s1.1 x10).bind fun th11 =>
        nx2 ((s1.1 + Int32.ofInt 1), th11)
    ) 4096 ((Int32.ofInt 0), th) (fun (x4 : tH) =>
      (m_292 a0 x4).bind fun x5 =>
      some (x5, x4)
    )
theorem c_293 {a0 : Nat} {th : tH} {x : (Int32 × tH)} (h : m_293 a0 th = some x) : ∃ fs, th[a0]? = some (.inr (8, fs)) := gC_of h
theorem S_293 {L : Nat} (d : Nat) (a0 : Nat) (th : tH) : Wx L (fun x => (some (.int x.1), x.2)) (d + 2) 293 2 0 [(0, .ref a0)] [] th (m_293 a0 th) := by
  unfold m_293
  refine x_gC ?_
  refine x_P 1 rfl rfl rfl ?_
  refine x_P (lv' := [(1, .int (Int32.ofInt 0)), (0, .ref a0)]) 2 rfl rfl rfl ?_
  refine x_lv (lv := [(0, .ref a0), (1, .int (Int32.ofInt 0))]) (x_lp 32 (fun s1 => [(0, .ref a0), (1, .int s1.1)]) (fun s1 => s1.2) (fun x4 => [(0, .ref a0)]) (fun x4 => x4) (fun s1 nx2 hnx2 ex3 hex3 => ?_) (fun x4 => ?_) 4096 ((Int32.ofInt 0), th)) ⟨rfl, rfl, trivial⟩
  · refine x_P 3 rfl rfl rfl ?_
    refine x_P 4 rfl rfl rfl ?_
    refine x_gI rfl (fun x6 hx6 => ?_)
    refine x_ic_ge rfl rfl (fun h12 => ?_) (fun h12 => ?_)
    · exact x_lv (hex3 s1.2) ⟨rfl, trivial⟩
    · refine x_P 11 rfl rfl rfl ?_
      refine x_gN rfl (fun o7 ho7 => ?_)
      refine x_P 15 rfl rfl rfl ?_
      refine x_P 16 rfl rfl rfl ?_
      refine x_P 17 rfl rfl rfl ?_
      refine x_gN rfl (fun o8 ho8 => ?_)
      refine x_P 21 rfl rfl rfl ?_
      refine x_aI rfl ⟨rfl, rfl⟩ (fun x9 hx9 => ?_)
      refine x_callV rfl rfl rfl rfl rfl ⟨rfl, rfl⟩ (fun x h => c_281 h) (S_281 (d + 1) a0 x9 s1.2) (fun x10 hx10 => ?_)
      refine x_sI rfl ⟨rfl, rfl⟩ (fun th11 hth11 => ?_)
      refine x_P (lv' := [(1, .int (s1.1 + Int32.ofInt 1)), (0, .ref a0)]) 29 rfl rfl rfl ?_
      refine x_P 2 rfl rfl rfl ?_
      exact x_lv (hnx2 ((s1.1 + Int32.ofInt 1), th11)) ⟨rfl, rfl, trivial⟩
  · refine x_P 33 rfl rfl rfl ?_
    refine x_callV rfl rfl rfl rfl rfl ⟨rfl, rfl⟩ (fun x h => c_292 h) (S_292 d a0 x4) (fun x5 hx5 => ?_)
    exact x_retI (x := (x5, x4)) rfl
-- 294 NineTreesModel.mirror()I
noncomputable def m_294 (a0 : Nat) (th : tH) : Option (Int32 × tH) :=
  (gC th 8 a0).bind fun _ =>
  lp (fun (s1 : Int32 × tH) nx2 ex3 =>
      (gI s1.2 8 a0 10).bind fun x6 =>
      if x6 ≤ s1.1 then
        ex3 s1.2
      else
        (gN s1.2 8 a0 12).bind fun o7 =>
        (gN s1.2 8 a0 12).bind fun o8 =>
        (aI s1.2 o8 s1.1).bind fun x9 =>
        (m_282 a0 x9 s1.2).bind fun x10 =>
        (sI s1.2 o7 s1.1 x10).bind fun th11 =>
        nx2 ((s1.1 + Int32.ofInt 1), th11)
    ) 4096 ((Int32.ofInt 0), th) (fun (x4 : tH) =>
      (m_292 a0 x4).bind fun x5 =>
      some (x5, x4)
    )
theorem c_294 {a0 : Nat} {th : tH} {x : (Int32 × tH)} (h : m_294 a0 th = some x) : ∃ fs, th[a0]? = some (.inr (8, fs)) := gC_of h
theorem S_294 {L : Nat} (d : Nat) (a0 : Nat) (th : tH) : Wx L (fun x => (some (.int x.1), x.2)) (d + 2) 294 2 0 [(0, .ref a0)] [] th (m_294 a0 th) := by
  unfold m_294
  refine x_gC ?_
  refine x_P 1 rfl rfl rfl ?_
  refine x_P (lv' := [(1, .int (Int32.ofInt 0)), (0, .ref a0)]) 2 rfl rfl rfl ?_
  refine x_lv (lv := [(0, .ref a0), (1, .int (Int32.ofInt 0))]) (x_lp 32 (fun s1 => [(0, .ref a0), (1, .int s1.1)]) (fun s1 => s1.2) (fun x4 => [(0, .ref a0)]) (fun x4 => x4) (fun s1 nx2 hnx2 ex3 hex3 => ?_) (fun x4 => ?_) 4096 ((Int32.ofInt 0), th)) ⟨rfl, rfl, trivial⟩
  · refine x_P 3 rfl rfl rfl ?_
    refine x_P 4 rfl rfl rfl ?_
    refine x_gI rfl (fun x6 hx6 => ?_)
    refine x_ic_ge rfl rfl (fun h12 => ?_) (fun h12 => ?_)
    · exact x_lv (hex3 s1.2) ⟨rfl, trivial⟩
    · refine x_P 11 rfl rfl rfl ?_
      refine x_gN rfl (fun o7 ho7 => ?_)
      refine x_P 15 rfl rfl rfl ?_
      refine x_P 16 rfl rfl rfl ?_
      refine x_P 17 rfl rfl rfl ?_
      refine x_gN rfl (fun o8 ho8 => ?_)
      refine x_P 21 rfl rfl rfl ?_
      refine x_aI rfl ⟨rfl, rfl⟩ (fun x9 hx9 => ?_)
      refine x_callV rfl rfl rfl rfl rfl ⟨rfl, rfl⟩ (fun x h => c_282 h) (S_282 (d + 1) a0 x9 s1.2) (fun x10 hx10 => ?_)
      refine x_sI rfl ⟨rfl, rfl⟩ (fun th11 hth11 => ?_)
      refine x_P (lv' := [(1, .int (s1.1 + Int32.ofInt 1)), (0, .ref a0)]) 29 rfl rfl rfl ?_
      refine x_P 2 rfl rfl rfl ?_
      exact x_lv (hnx2 ((s1.1 + Int32.ofInt 1), th11)) ⟨rfl, rfl, trivial⟩
  · refine x_P 33 rfl rfl rfl ?_
    refine x_callV rfl rfl rfl rfl rfl ⟨rfl, rfl⟩ (fun x h => c_292 h) (S_292 d a0 x4) (fun x5 hx5 => ?_)
    exact x_retI (x := (x5, x4)) rfl
-- 295 NineTreesModel.below(I)I
noncomputable def m_295 (a0 : Nat) (a1 : Int32) (th : tH) : Option (Int32 × tH) :=
  (gC th 8 a0).bind fun _ =>
  (gI th 8 a0 16).bind fun x1 =>
  (pI th 8 a0 16 ((x1 * (Int32.ofNat 1103515245)) + (Int16.ofInt 12345).toInt32)).bind fun th2 =>
  (gI th2 8 a0 16).bind fun x3 =>
  (rmI (Int32.toUInt32 x3 >>> (Int32.toUInt32 (Int8.ofInt 16).toInt32 &&& Int32.toUInt32 31)).toInt32 a1).bind fun x4 =>
  some (x4, th2)
theorem c_295 {a0 : Nat} {a1 : Int32} {th : tH} {x : (Int32 × tH)} (h : m_295 a0 a1 th = some x) : ∃ fs, th[a0]? = some (.inr (8, fs)) := gC_of h
theorem S_295 {L : Nat} (d : Nat) (a0 : Nat) (a1 : Int32) (th : tH) : Wx L (fun x => (some (.int x.1), x.2)) (d + 1) 295 2 0 [(0, .ref a0), (1, .int a1)] [] th (m_295 a0 a1 th) := by
  unfold m_295
  refine x_gC ?_
  refine x_P 1 rfl rfl rfl ?_
  refine x_P 2 rfl rfl rfl ?_
  refine x_gI rfl (fun x1 hx1 => ?_)
  refine x_P 8 rfl rfl rfl ?_
  refine x_P 9 rfl rfl rfl ?_
  refine x_P 12 rfl rfl rfl ?_
  refine x_P 13 rfl rfl rfl ?_
  refine x_pI rfl (fun th2 hth2 => ?_)
  refine x_P 17 rfl rfl rfl ?_
  refine x_gI rfl (fun x3 hx3 => ?_)
  refine x_P 22 rfl rfl rfl ?_
  refine x_P 23 rfl rfl rfl ?_
  refine x_P 24 rfl rfl rfl ?_
  refine x_rm rfl rfl (fun x4 hx4 => ?_)
  exact x_retI (x := (x4, th2)) rfl
-- 296 NineTreesModel.plant(I)I
noncomputable def m_296 (a0 : Nat) (a1 : Int32) (th : tH) : Option (Int32 × tH) :=
  (gC th 8 a0).bind fun _ =>
  (m_190 (Int32.toInt64 a1) (Int64.ofNat 1) (Int64.ofNat 12) th).bind fun x1 =>
  if x1 = 0 then
    (m_189 a0 (Int8.ofInt (-2)).toInt32 th).bind fun q25 =>
    some (q25.1, q25.2)
  else
    lp (fun (s2 : Int32 × tH) nx3 ex4 =>
        if a1 ≤ s2.1 then
          ex4 (s2.1, s2.2)
        else
          (gI s2.2 8 a0 10).bind fun x6 =>
          if (Int8.ofInt 12).toInt32 ≤ x6 then
            ex4 (s2.1, s2.2)
          else
            (gI s2.2 8 a0 10).bind fun x7 =>
            (m_192 a0 s2.2).bind fun x8 =>
            if x8 ≤ x7 then
              ex4 (s2.1, s2.2)
            else
              (m_295 a0 (Int8.ofInt 6).toInt32 s2.2).bind fun q9 =>
              (m_192 a0 q9.2).bind fun x10 =>
              (m_295 a0 x10 q9.2).bind fun q11 =>
              lp (fun (s12 : Int32) nx13 ex14 =>
                  (m_194 a0 s12 q11.2).bind fun x18 =>
                  if x18 = (Int32.ofInt (-1)) then
                    ex14 s12
                  else
                    (m_192 a0 q11.2).bind fun x19 =>
                    (rmI (s12 + (Int32.ofInt 1)) x19).bind fun x20 =>
                    nx13 x20
                ) 4096 q11.1 (fun (x15 : Int32) =>
                  (m_295 a0 (Int8.ofInt 10).toInt32 q11.2).bind fun q16 =>
                  (m_212 a0 q9.1 x15 q16.1 q16.2).bind fun th17 =>
                  nx3 ((s2.1 + Int32.ofInt 1), th17)
                )
      ) 4096 ((Int32.ofInt 0), th) (fun (x5 : Int32 × tH) =>
        some (x5.1, x5.2)
      )
theorem c_296 {a0 : Nat} {a1 : Int32} {th : tH} {x : (Int32 × tH)} (h : m_296 a0 a1 th = some x) : ∃ fs, th[a0]? = some (.inr (8, fs)) := gC_of h
theorem S_296 {L : Nat} (d : Nat) (a0 : Nat) (a1 : Int32) (th : tH) : Wx L (fun x => (some (.int x.1), x.2)) (d + 2) 296 5 0 [(0, .ref a0), (1, .int a1)] [] th (m_296 a0 a1 th) := by
  unfold m_296
  refine x_gC ?_
  refine x_P 1 rfl rfl rfl ?_
  refine x_P 2 rfl rfl rfl ?_
  refine x_P 3 rfl rfl rfl ?_
  refine x_P 6 rfl rfl rfl ?_
  refine x_callS rfl rfl rfl rfl rfl rfl ⟨rfl, rfl⟩ (S_190 (d + 1) (Int32.toInt64 a1) (Int64.ofNat 1) (Int64.ofNat 12) th) (fun x1 hx1 => ?_)
  refine x_if_ne rfl rfl (fun h26 => ?_) (fun h26 => ?_)
  · refine x_P 13 rfl rfl rfl ?_
    refine x_P 15 rfl rfl rfl ?_
    refine x_callV rfl rfl rfl rfl rfl ⟨rfl, rfl⟩ (fun x h => c_189 h) (S_189 d a0 (Int8.ofInt (-2)).toInt32 th) (fun q25 hq25 => ?_)
    exact x_retI (x := (q25.1, q25.2)) rfl
  · refine x_P 20 rfl rfl rfl ?_
    refine x_P (lv' := [(2, .int (Int32.ofInt 0)), (0, .ref a0), (1, .int a1)]) 21 rfl rfl rfl ?_
    refine x_lv (lv := [(0, .ref a0), (1, .int a1), (2, .int (Int32.ofInt 0))]) (x_lp 106 (fun s2 => [(0, .ref a0), (1, .int a1), (2, .int s2.1)]) (fun s2 => s2.2) (fun x5 => [(2, .int x5.1)]) (fun x5 => x5.2) (fun s2 nx3 hnx3 ex4 hex4 => ?_) (fun x5 => ?_) 4096 ((Int32.ofInt 0), th)) ⟨rfl, rfl, rfl, trivial⟩
    · refine x_P 22 rfl rfl rfl ?_
      refine x_P 23 rfl rfl rfl ?_
      refine x_ic_ge rfl rfl (fun h24 => ?_) (fun h24 => ?_)
      · exact x_lv (hex4 (s2.1, s2.2)) ⟨rfl, trivial⟩
      · refine x_P 27 rfl rfl rfl ?_
        refine x_gI rfl (fun x6 hx6 => ?_)
        refine x_P 32 rfl rfl rfl ?_
        refine x_ic_ge rfl rfl (fun h23 => ?_) (fun h23 => ?_)
        · exact x_lv (hex4 (s2.1, s2.2)) ⟨rfl, trivial⟩
        · refine x_P 36 rfl rfl rfl ?_
          refine x_gI rfl (fun x7 hx7 => ?_)
          refine x_P 40 rfl rfl rfl ?_
          refine x_callV rfl rfl rfl rfl rfl ⟨rfl, rfl⟩ (fun x h => c_192 h) (S_192 (d + 1) a0 s2.2) (fun x8 hx8 => ?_)
          refine x_ic_ge rfl rfl (fun h22 => ?_) (fun h22 => ?_)
          · exact x_lv (hex4 (s2.1, s2.2)) ⟨rfl, trivial⟩
          · refine x_P 47 rfl rfl rfl ?_
            refine x_P 49 rfl rfl rfl ?_
            refine x_callV rfl rfl rfl rfl rfl ⟨rfl, rfl⟩ (fun x h => c_295 h) (S_295 d a0 (Int8.ofInt 6).toInt32 s2.2) (fun q9 hq9 => ?_)
            refine x_P (lv' := [(3, .int q9.1), (0, .ref a0), (1, .int a1), (2, .int s2.1)]) 53 rfl rfl rfl ?_
            refine x_P 54 rfl rfl rfl ?_
            refine x_P 55 rfl rfl rfl ?_
            refine x_callV rfl rfl rfl rfl rfl ⟨rfl, rfl⟩ (fun x h => c_192 h) (S_192 (d + 1) a0 q9.2) (fun x10 hx10 => ?_)
            refine x_callV rfl rfl rfl rfl rfl ⟨rfl, rfl⟩ (fun x h => c_295 h) (S_295 d a0 x10 q9.2) (fun q11 hq11 => ?_)
            refine x_P (lv' := [(4, .int q11.1), (3, .int q9.1), (0, .ref a0), (1, .int a1), (2, .int s2.1)]) 63 rfl rfl rfl ?_
            refine x_lv (lv := [(0, .ref a0), (1, .int a1), (2, .int s2.1), (3, .int q9.1), (4, .int q11.1)]) (x_lp 87 (fun s12 => [(0, .ref a0), (1, .int a1), (2, .int s2.1), (3, .int q9.1), (4, .int s12)]) (fun s12 => q11.2) (fun x15 => [(0, .ref a0), (1, .int a1), (2, .int s2.1), (3, .int q9.1), (4, .int x15)]) (fun x15 => q11.2) (fun s12 nx13 hnx13 ex14 hex14 => ?_) (fun x15 => ?_) 4096 q11.1) ⟨rfl, rfl, rfl, rfl, rfl, trivial⟩
            · refine x_P 64 rfl rfl rfl ?_
              refine x_P 66 rfl rfl rfl ?_
              refine x_callV rfl rfl rfl rfl rfl ⟨rfl, rfl⟩ (fun x h => c_194 h) (S_194 (d + 1) a0 s12 q11.2) (fun x18 hx18 => ?_)
              refine x_P 70 rfl rfl rfl ?_
              refine x_ic_eq rfl rfl (fun h21 => ?_) (fun h21 => ?_)
              · exact x_lv (hex14 s12) ⟨rfl, rfl, rfl, rfl, rfl, trivial⟩
              · refine x_P 75 rfl rfl rfl ?_
                refine x_P 76 rfl rfl rfl ?_
                refine x_P 77 rfl rfl rfl ?_
                refine x_P 78 rfl rfl rfl ?_
                refine x_callV rfl rfl rfl rfl rfl ⟨rfl, rfl⟩ (fun x h => c_192 h) (S_192 (d + 1) a0 q11.2) (fun x19 hx19 => ?_)
                refine x_rm rfl rfl (fun x20 hx20 => ?_)
                refine x_P (lv' := [(4, .int x20), (0, .ref a0), (1, .int a1), (2, .int s2.1), (3, .int q9.1)]) 84 rfl rfl rfl ?_
                refine x_P 63 rfl rfl rfl ?_
                exact x_lv (hnx13 x20) ⟨rfl, rfl, rfl, rfl, rfl, trivial⟩
            · refine x_P 88 rfl rfl rfl ?_
              refine x_P 89 rfl rfl rfl ?_
              refine x_P 91 rfl rfl rfl ?_
              refine x_P 92 rfl rfl rfl ?_
              refine x_P 94 rfl rfl rfl ?_
              refine x_callV rfl rfl rfl rfl rfl ⟨rfl, rfl⟩ (fun x h => c_295 h) (S_295 d a0 (Int8.ofInt 10).toInt32 q11.2) (fun q16 hq16 => ?_)
              refine x_callW rfl rfl rfl rfl rfl ⟨rfl, rfl⟩ (fun x h => c_212 h) (S_212 d a0 q9.1 x15 q16.1 q16.2) (fun th17 hth17 => ?_)
              refine x_P (lv' := [(2, .int (s2.1 + Int32.ofInt 1)), (0, .ref a0), (1, .int a1), (3, .int q9.1), (4, .int x15)]) 103 rfl rfl rfl ?_
              refine x_P 21 rfl rfl rfl ?_
              exact x_lv (hnx3 ((s2.1 + Int32.ofInt 1), th17)) ⟨rfl, rfl, rfl, trivial⟩
    · refine x_P 107 rfl rfl rfl ?_
      exact x_retI (x := (x5.1, x5.2)) rfl
-- 297 NineTreesModel.seed(I)I
noncomputable def m_297 (a0 : Nat) (a1 : Int32) (th : tH) : Option (Int32 × tH) :=
  (gC th 8 a0).bind fun _ =>
  (gI th 8 a0 16).bind fun x1 =>
  (pI th 8 a0 16 a1).bind fun th2 =>
  some (x1, th2)
theorem c_297 {a0 : Nat} {a1 : Int32} {th : tH} {x : (Int32 × tH)} (h : m_297 a0 a1 th = some x) : ∃ fs, th[a0]? = some (.inr (8, fs)) := gC_of h
theorem S_297 {L : Nat} (d : Nat) (a0 : Nat) (a1 : Int32) (th : tH) : Wx L (fun x => (some (.int x.1), x.2)) (d + 1) 297 3 0 [(0, .ref a0), (1, .int a1)] [] th (m_297 a0 a1 th) := by
  unfold m_297
  refine x_gC ?_
  refine x_P 1 rfl rfl rfl ?_
  refine x_gI rfl (fun x1 hx1 => ?_)
  refine x_P (lv' := [(2, .int x1), (0, .ref a0), (1, .int a1)]) 5 rfl rfl rfl ?_
  refine x_P 6 rfl rfl rfl ?_
  refine x_P 7 rfl rfl rfl ?_
  refine x_pI rfl (fun th2 hth2 => ?_)
  refine x_P 11 rfl rfl rfl ?_
  exact x_retI (x := (x1, th2)) rfl
-- 299 NineTreesModel.copied([I[I)V
noncomputable def m_299 (a0 : Nat) (a1 : Nat) (th : tH) : Option tH :=
  lp (fun (s1 : Int32 × tH) nx2 ex3 =>
      (aL s1.2 a0).bind fun x5 =>
      if x5 ≤ s1.1 then
        ex3 s1.2
      else
        (aI s1.2 a0 s1.1).bind fun x6 =>
        (sI s1.2 a1 s1.1 x6).bind fun th7 =>
        nx2 ((s1.1 + Int32.ofInt 1), th7)
    ) 4096 ((Int32.ofInt 0), th) (fun (x4 : tH) =>
      some x4
    )
theorem S_299 {L : Nat} (d : Nat) (a0 : Nat) (a1 : Nat) (th : tH) : Wx L (fun x => (none, x)) (d + 1) 299 3 0 [(0, .ref a0), (1, .ref a1)] [] th (m_299 a0 a1 th) := by
  unfold m_299
  refine x_P 1 rfl rfl rfl ?_
  refine x_P (lv' := [(2, .int (Int32.ofInt 0)), (0, .ref a0), (1, .ref a1)]) 2 rfl rfl rfl ?_
  refine x_lv (lv := [(0, .ref a0), (1, .ref a1), (2, .int (Int32.ofInt 0))]) (x_lp 20 (fun s1 => [(0, .ref a0), (1, .ref a1), (2, .int s1.1)]) (fun s1 => s1.2) (fun x4 => []) (fun x4 => x4) (fun s1 nx2 hnx2 ex3 hex3 => ?_) (fun x4 => ?_) 4096 ((Int32.ofInt 0), th)) ⟨rfl, rfl, rfl, trivial⟩
  · refine x_P 3 rfl rfl rfl ?_
    refine x_P 4 rfl rfl rfl ?_
    refine x_aL rfl ⟨rfl, rfl⟩ (fun x5 hx5 => ?_)
    refine x_ic_ge rfl rfl (fun h8 => ?_) (fun h8 => ?_)
    · exact x_lv (hex3 s1.2) trivial
    · refine x_P 9 rfl rfl rfl ?_
      refine x_P 10 rfl rfl rfl ?_
      refine x_P 11 rfl rfl rfl ?_
      refine x_P 12 rfl rfl rfl ?_
      refine x_aI rfl ⟨rfl, rfl⟩ (fun x6 hx6 => ?_)
      refine x_sI rfl ⟨rfl, rfl⟩ (fun th7 hth7 => ?_)
      refine x_P (lv' := [(2, .int (s1.1 + Int32.ofInt 1)), (0, .ref a0), (1, .ref a1)]) 17 rfl rfl rfl ?_
      refine x_P 2 rfl rfl rfl ?_
      exact x_lv (hnx2 ((s1.1 + Int32.ofInt 1), th7)) ⟨rfl, rfl, rfl, trivial⟩
  · exact x_retV (x := x4) rfl
-- 300 NineTreesModel.takeFrom(LNineTreesModel;)V
noncomputable def m_300 (a0 : Nat) (a1 : Nat) (th : tH) : Option tH :=
  (gC th 8 a0).bind fun _ =>
  (gI th 8 a1 9).bind fun x1 =>
  (pI th 8 a0 9 x1).bind fun th2 =>
  (gI th2 8 a1 10).bind fun x3 =>
  (pI th2 8 a0 10 x3).bind fun th4 =>
  (gN th4 8 a1 11).bind fun o5 =>
  (gN th4 8 a0 11).bind fun o6 =>
  (m_299 o5 o6 th4).bind fun th7 =>
  (gN th7 8 a1 12).bind fun o8 =>
  (gN th7 8 a0 12).bind fun o9 =>
  (m_299 o8 o9 th7).bind fun th10 =>
  (gN th10 8 a1 13).bind fun o11 =>
  (gN th10 8 a0 13).bind fun o12 =>
  (m_299 o11 o12 th10).bind fun th13 =>
  (gI th13 8 a1 14).bind fun x14 =>
  (pI th13 8 a0 14 x14).bind fun th15 =>
  (gN th15 8 a1 15).bind fun o16 =>
  (gN th15 8 a0 15).bind fun o17 =>
  (m_299 o16 o17 th15).bind fun th18 =>
  (gI th18 8 a1 16).bind fun x19 =>
  (pI th18 8 a0 16 x19).bind fun th20 =>
  some th20
theorem c_300 {a0 : Nat} {a1 : Nat} {th : tH} {x : tH} (h : m_300 a0 a1 th = some x) : ∃ fs, th[a0]? = some (.inr (8, fs)) := gC_of h
theorem S_300 {L : Nat} (d : Nat) (a0 : Nat) (a1 : Nat) (th : tH) : Wx L (fun x => (none, x)) (d + 2) 300 2 0 [(0, .ref a0), (1, .ref a1)] [] th (m_300 a0 a1 th) := by
  unfold m_300
  refine x_gC ?_
  refine x_P 1 rfl rfl rfl ?_
  refine x_P 2 rfl rfl rfl ?_
  refine x_gI rfl (fun x1 hx1 => ?_)
  refine x_pI rfl (fun th2 hth2 => ?_)
  refine x_P 9 rfl rfl rfl ?_
  refine x_P 10 rfl rfl rfl ?_
  refine x_gI rfl (fun x3 hx3 => ?_)
  refine x_pI rfl (fun th4 hth4 => ?_)
  refine x_P 17 rfl rfl rfl ?_
  refine x_gN rfl (fun o5 ho5 => ?_)
  refine x_P 21 rfl rfl rfl ?_
  refine x_gN rfl (fun o6 ho6 => ?_)
  refine x_callSW rfl rfl rfl rfl rfl rfl ⟨rfl, rfl⟩ (S_299 d o5 o6 th4) (fun th7 hth7 => ?_)
  refine x_P 28 rfl rfl rfl ?_
  refine x_gN rfl (fun o8 ho8 => ?_)
  refine x_P 32 rfl rfl rfl ?_
  refine x_gN rfl (fun o9 ho9 => ?_)
  refine x_callSW rfl rfl rfl rfl rfl rfl ⟨rfl, rfl⟩ (S_299 d o8 o9 th7) (fun th10 hth10 => ?_)
  refine x_P 39 rfl rfl rfl ?_
  refine x_gN rfl (fun o11 ho11 => ?_)
  refine x_P 43 rfl rfl rfl ?_
  refine x_gN rfl (fun o12 ho12 => ?_)
  refine x_callSW rfl rfl rfl rfl rfl rfl ⟨rfl, rfl⟩ (S_299 d o11 o12 th10) (fun th13 hth13 => ?_)
  refine x_P 50 rfl rfl rfl ?_
  refine x_P 51 rfl rfl rfl ?_
  refine x_gI rfl (fun x14 hx14 => ?_)
  refine x_pI rfl (fun th15 hth15 => ?_)
  refine x_P 58 rfl rfl rfl ?_
  refine x_gN rfl (fun o16 ho16 => ?_)
  refine x_P 62 rfl rfl rfl ?_
  refine x_gN rfl (fun o17 ho17 => ?_)
  refine x_callSW rfl rfl rfl rfl rfl rfl ⟨rfl, rfl⟩ (S_299 d o16 o17 th15) (fun th18 hth18 => ?_)
  refine x_P 69 rfl rfl rfl ?_
  refine x_P 70 rfl rfl rfl ?_
  refine x_gI rfl (fun x19 hx19 => ?_)
  refine x_pI rfl (fun th20 hth20 => ?_)
  exact x_retV (x := th20) rfl
-- 302 NineTreesModel.back()I
noncomputable def m_302 (a0 : Nat) (th : tH) : Option (Int32 × tH) :=
  (gC th 8 a0).bind fun _ =>
  (gR th 8 a0 17).bind fun r1 =>
  match r1 with
  | none =>
    (m_189 a0 (Int8.ofInt (-5)).toInt32 th).bind fun q3 =>
    some (q3.1, q3.2)
  | some o2 =>
    (gR th 8 a0 17).bind fun r4 =>
    r4.bind fun o5 =>
    (m_300 a0 o5 th).bind fun th6 =>
    (m_207 a0 th6).bind fun th7 =>
    some ((Int32.ofInt 1), th7)
theorem c_302 {a0 : Nat} {th : tH} {x : (Int32 × tH)} (h : m_302 a0 th = some x) : ∃ fs, th[a0]? = some (.inr (8, fs)) := gC_of h
theorem S_302 {L : Nat} (d : Nat) (a0 : Nat) (th : tH) : Wx L (fun x => (some (.int x.1), x.2)) (d + 3) 302 1 0 [(0, .ref a0)] [] th (m_302 a0 th) := by
  unfold m_302
  refine x_gC ?_
  refine x_P 1 rfl rfl rfl ?_
  refine x_gR rfl (fun r1 hr1 => ?_)
  rcases r1 with _ | o2
  · refine x_P 7 rfl rfl rfl ?_
    refine x_P 8 rfl rfl rfl ?_
    refine x_P 10 rfl rfl rfl ?_
    refine x_callV rfl rfl rfl rfl rfl ⟨rfl, rfl⟩ (fun x h => c_189 h) (S_189 (d + 1) a0 (Int8.ofInt (-5)).toInt32 th) (fun q3 hq3 => ?_)
    exact x_retI (x := (q3.1, q3.2)) rfl
  · refine x_P 14 rfl rfl rfl ?_
    refine x_P 15 rfl rfl rfl ?_
    refine x_P 16 rfl rfl rfl ?_
    refine x_gR rfl (fun r4 hr4 => ?_)
    rcases r4 with _ | o5
    · exact x_none
    · refine x_oS ?_
      refine x_callW rfl rfl rfl rfl rfl ⟨rfl, rfl⟩ (fun x h => c_300 h) (S_300 d a0 o5 th) (fun th6 hth6 => ?_)
      refine x_P 23 rfl rfl rfl ?_
      refine x_callW rfl rfl rfl rfl rfl ⟨rfl, rfl⟩ (fun x h => c_207 h) (S_207 (d + 1) a0 th6) (fun th7 hth7 => ?_)
      refine x_P 27 rfl rfl rfl ?_
      exact x_retI (x := ((Int32.ofInt 1), th7)) rfl
-- 303 NineTreesModel.status(I)I
noncomputable def m_303 (a0 : Nat) (a1 : Int32) (th : tH) : Option (Int32 × tH) :=
  (gC th 8 a0).bind fun _ =>
  if a1 < 0 ∨ 9 < a1 then
    (m_190 (Int32.toInt64 a1) (Int64.ofNat 12) (Int64.ofNat 16) th).bind fun x2 =>
    jn (fun (v3 : Int32) =>
        some (v3, th)
      ) (fun j4 =>
        if x2 = 0 then
          j4 (Int32.ofInt (-1))
        else
          (gN th 8 a0 8).bind fun o5 =>
          (aI th o5 (a1 - (Int8.ofInt 10).toInt32)).bind fun x6 =>
          j4 x6
      )
  else if a1 = 0 then
    (gI th 8 a0 9).bind fun x9 =>
    some (x9, th)
  else if a1 = 1 then
    (gI th 8 a0 10).bind fun x11 =>
    some (x11, th)
  else if a1 = 2 then
    (m_240 a0 th).bind fun th13 =>
    (gI th13 8 a0 27).bind fun x14 =>
    some (x14, th13)
  else if a1 = 3 then
    lp (fun (s16 : Int32 × Int32) nx17 ex18 =>
        (gI th 8 a0 10).bind fun x20 =>
        if x20 ≤ s16.2 then
          ex18 s16.1
        else
          (gN th 8 a0 11).bind fun o21 =>
          (aI th o21 s16.2).bind fun x22 =>
          jn (fun (v23 : Int32 × Int32) =>
              nx17 ((v23.2 + v23.1), (s16.2 + Int32.ofInt 1))
            ) (fun j24 =>
              if x22 = (Int32.ofInt 4) then
                j24 ((Int32.ofInt 1), s16.1)
              else
                j24 ((Int32.ofInt 0), s16.1)
            )
      ) 4096 ((Int32.ofInt 0), (Int32.ofInt 0)) (fun (x19 : Int32) =>
        some (x19, th)
      )
  else if a1 = 4 then
    (m_292 a0 th).bind fun x28 =>
    some (x28, th)
  else if a1 = 5 then
    (gI th 8 a0 14).bind fun x30 =>
    some (x30, th)
  else if a1 = 6 then
    (gI th 8 a0 7).bind fun x32 =>
    some (x32, th)
  else if a1 = 7 then
    (gI th 8 a0 16).bind fun x34 =>
    some (x34, th)
  else if a1 = 8 then
    lp (fun (s36 : Int32 × Int32) nx37 ex38 =>
        if (Int8.ofInt 8).toInt32 ≤ s36.2 then
          ex38 s36.1
        else
          (gN th 8 a0 0).bind fun o40 =>
          (aI th o40 s36.2).bind fun x41 =>
          jn (fun (v42 : Int32 × Int32) =>
              nx37 ((v42.2 + v42.1), (s36.2 + Int32.ofInt 1))
            ) (fun j43 =>
              if x41 = 0 then
                j43 ((Int32.ofInt 0), s36.1)
              else
                j43 ((Int32.ofInt 1), s36.1)
            )
      ) 4096 ((Int32.ofInt 0), (Int32.ofInt 0)) (fun (x39 : Int32) =>
        some (x39, th)
      )
  else if a1 = 9 then
    (m_243 a0 th).bind fun q47 =>
    some (q47.1, q47.2)
  else
    none
theorem c_303 {a0 : Nat} {a1 : Int32} {th : tH} {x : (Int32 × tH)} (h : m_303 a0 a1 th = some x) : ∃ fs, th[a0]? = some (.inr (8, fs)) := gC_of h
theorem S_303 {L : Nat} (d : Nat) (a0 : Nat) (a1 : Int32) (th : tH) : Wx L (fun x => (some (.int x.1), x.2)) (d + 5) 303 4 0 [(0, .ref a0), (1, .int a1)] [] th (m_303 a0 a1 th) := by
  unfold m_303
  refine x_gC ?_
  refine x_P 1 rfl rfl rfl ?_
  refine x_P (lv' := [(2, .int (Int32.ofInt 0)), (0, .ref a0), (1, .int a1)]) 2 rfl rfl rfl ?_
  refine x_P 3 rfl rfl rfl ?_
  refine x_ite (fun h1 => ?_) (fun h1 => ?_)
  · refine x_P 169 rfl rfl (x_td h1 (by decide +kernel)) ?_
    refine x_P 170 rfl rfl rfl ?_
    refine x_P 171 rfl rfl rfl ?_
    refine x_P 174 rfl rfl rfl ?_
    refine x_P 177 rfl rfl rfl ?_
    refine x_callS rfl rfl rfl rfl rfl rfl ⟨rfl, rfl⟩ (S_190 (d + 4) (Int32.toInt64 a1) (Int64.ofNat 12) (Int64.ofNat 16) th) (fun x2 hx2 => ?_)
    refine x_jn 196 (fun v3 => []) (fun v3 => [.int v3]) (fun v3 => th) (fun v3 => ?_) (fun j4 hj4 => ?_)
    · exact x_retI (x := (v3, th)) rfl
    · refine x_if_eq rfl rfl (fun h7 => ?_) (fun h7 => ?_)
      · refine x_P 196 rfl rfl rfl ?_
        exact x_lv (hj4 (Int32.ofInt (-1))) trivial
      · refine x_P 184 rfl rfl rfl ?_
        refine x_gN rfl (fun o5 ho5 => ?_)
        refine x_P 188 rfl rfl rfl ?_
        refine x_P 190 rfl rfl rfl ?_
        refine x_P 191 rfl rfl rfl ?_
        refine x_aI rfl ⟨rfl, rfl⟩ (fun x6 hx6 => ?_)
        refine x_P 196 rfl rfl rfl ?_
        exact x_lv (hj4 x6) trivial
  · skip
    refine x_ite (fun h8 => ?_) (fun h8 => ?_)
    · refine x_P 56 rfl rfl (x_ts h8 (by decide +kernel)) ?_
      refine x_P 57 rfl rfl rfl ?_
      refine x_gI rfl (fun x9 hx9 => ?_)
      exact x_retI (x := (x9, th)) rfl
    · skip
      refine x_ite (fun h10 => ?_) (fun h10 => ?_)
      · refine x_P 61 rfl rfl (x_ts h10 (by decide +kernel)) ?_
        refine x_P 62 rfl rfl rfl ?_
        refine x_gI rfl (fun x11 hx11 => ?_)
        exact x_retI (x := (x11, th)) rfl
      · skip
        refine x_ite (fun h12 => ?_) (fun h12 => ?_)
        · refine x_P 66 rfl rfl (x_ts h12 (by decide +kernel)) ?_
          refine x_P 67 rfl rfl rfl ?_
          refine x_callW rfl rfl rfl rfl rfl ⟨rfl, rfl⟩ (fun x h => c_240 h) (S_240 (d + 1) a0 th) (fun th13 hth13 => ?_)
          refine x_P 71 rfl rfl rfl ?_
          refine x_gI rfl (fun x14 hx14 => ?_)
          exact x_retI (x := (x14, th13)) rfl
        · skip
          refine x_ite (fun h15 => ?_) (fun h15 => ?_)
          · refine x_P 75 rfl rfl (x_ts h15 (by decide +kernel)) ?_
            refine x_P 76 rfl rfl rfl ?_
            refine x_P (lv' := [(3, .int (Int32.ofInt 0)), (2, .int (Int32.ofInt 0)), (0, .ref a0), (1, .int a1)]) 77 rfl rfl rfl ?_
            refine x_lv (lv := [(0, .ref a0), (2, .int (Int32.ofInt 0)), (3, .int (Int32.ofInt 0))]) (x_lp 109 (fun s16 => [(0, .ref a0), (2, .int s16.1), (3, .int s16.2)]) (fun s16 => th) (fun x19 => [(2, .int x19)]) (fun x19 => th) (fun s16 nx17 hnx17 ex18 hex18 => ?_) (fun x19 => ?_) 4096 ((Int32.ofInt 0), (Int32.ofInt 0))) ⟨rfl, rfl, rfl, trivial⟩
            · refine x_P 78 rfl rfl rfl ?_
              refine x_P 79 rfl rfl rfl ?_
              refine x_gI rfl (fun x20 hx20 => ?_)
              refine x_ic_ge rfl rfl (fun h26 => ?_) (fun h26 => ?_)
              · exact x_lv (hex18 s16.1) ⟨rfl, trivial⟩
              · refine x_P 86 rfl rfl rfl ?_
                refine x_P 87 rfl rfl rfl ?_
                refine x_gN rfl (fun o21 ho21 => ?_)
                refine x_P 91 rfl rfl rfl ?_
                refine x_aI rfl ⟨rfl, rfl⟩ (fun x22 hx22 => ?_)
                refine x_P 93 rfl rfl rfl ?_
                refine x_jn 101 (fun v23 => [(0, .ref a0), (3, .int s16.2)]) (fun v23 => [.int v23.1, .int v23.2]) (fun v23 => th) (fun v23 => ?_) (fun j24 hj24 => ?_)
                · refine x_P 102 rfl rfl rfl ?_
                  refine x_P (lv' := [(2, .int (v23.2 + v23.1)), (0, .ref a0), (3, .int s16.2)]) 103 rfl rfl rfl ?_
                  refine x_P (lv' := [(3, .int (s16.2 + Int32.ofInt 1)), (2, .int (v23.2 + v23.1)), (0, .ref a0)]) 106 rfl rfl rfl ?_
                  refine x_P 77 rfl rfl rfl ?_
                  exact x_lv (hnx17 ((v23.2 + v23.1), (s16.2 + Int32.ofInt 1))) ⟨rfl, rfl, rfl, trivial⟩
                · refine x_ic_ne rfl rfl (fun h25 => ?_) (fun h25 => ?_)
                  · refine x_P 97 rfl rfl rfl ?_
                    refine x_P 101 rfl rfl rfl ?_
                    exact x_lv (hj24 ((Int32.ofInt 1), s16.1)) ⟨rfl, rfl, trivial⟩
                  · refine x_P 101 rfl rfl rfl ?_
                    exact x_lv (hj24 ((Int32.ofInt 0), s16.1)) ⟨rfl, rfl, trivial⟩
            · refine x_P 110 rfl rfl rfl ?_
              exact x_retI (x := (x19, th)) rfl
          · skip
            refine x_ite (fun h27 => ?_) (fun h27 => ?_)
            · refine x_P 111 rfl rfl (x_ts h27 (by decide +kernel)) ?_
              refine x_P 112 rfl rfl rfl ?_
              refine x_callV rfl rfl rfl rfl rfl ⟨rfl, rfl⟩ (fun x h => c_292 h) (S_292 (d + 3) a0 th) (fun x28 hx28 => ?_)
              exact x_retI (x := (x28, th)) rfl
            · skip
              refine x_ite (fun h29 => ?_) (fun h29 => ?_)
              · refine x_P 116 rfl rfl (x_ts h29 (by decide +kernel)) ?_
                refine x_P 117 rfl rfl rfl ?_
                refine x_gI rfl (fun x30 hx30 => ?_)
                exact x_retI (x := (x30, th)) rfl
              · skip
                refine x_ite (fun h31 => ?_) (fun h31 => ?_)
                · refine x_P 121 rfl rfl (x_ts h31 (by decide +kernel)) ?_
                  refine x_P 122 rfl rfl rfl ?_
                  refine x_gI rfl (fun x32 hx32 => ?_)
                  exact x_retI (x := (x32, th)) rfl
                · skip
                  refine x_ite (fun h33 => ?_) (fun h33 => ?_)
                  · refine x_P 126 rfl rfl (x_ts h33 (by decide +kernel)) ?_
                    refine x_P 127 rfl rfl rfl ?_
                    refine x_gI rfl (fun x34 hx34 => ?_)
                    exact x_retI (x := (x34, th)) rfl
                  · skip
                    refine x_ite (fun h35 => ?_) (fun h35 => ?_)
                    · refine x_P 131 rfl rfl (x_ts h35 (by decide +kernel)) ?_
                      refine x_P 132 rfl rfl rfl ?_
                      refine x_P (lv' := [(3, .int (Int32.ofInt 0)), (2, .int (Int32.ofInt 0)), (0, .ref a0), (1, .int a1)]) 133 rfl rfl rfl ?_
                      refine x_lv (lv := [(0, .ref a0), (2, .int (Int32.ofInt 0)), (3, .int (Int32.ofInt 0))]) (x_lp 162 (fun s36 => [(0, .ref a0), (2, .int s36.1), (3, .int s36.2)]) (fun s36 => th) (fun x39 => [(2, .int x39)]) (fun x39 => th) (fun s36 nx37 hnx37 ex38 hex38 => ?_) (fun x39 => ?_) 4096 ((Int32.ofInt 0), (Int32.ofInt 0))) ⟨rfl, rfl, rfl, trivial⟩
                      · refine x_P 134 rfl rfl rfl ?_
                        refine x_P 136 rfl rfl rfl ?_
                        refine x_ic_ge rfl rfl (fun h45 => ?_) (fun h45 => ?_)
                        · exact x_lv (hex38 s36.1) ⟨rfl, trivial⟩
                        · refine x_P 140 rfl rfl rfl ?_
                          refine x_P 141 rfl rfl rfl ?_
                          refine x_gN rfl (fun o40 ho40 => ?_)
                          refine x_P 145 rfl rfl rfl ?_
                          refine x_aI rfl ⟨rfl, rfl⟩ (fun x41 hx41 => ?_)
                          refine x_jn 154 (fun v42 => [(0, .ref a0), (3, .int s36.2)]) (fun v42 => [.int v42.1, .int v42.2]) (fun v42 => th) (fun v42 => ?_) (fun j43 hj43 => ?_)
                          · refine x_P 155 rfl rfl rfl ?_
                            refine x_P (lv' := [(2, .int (v42.2 + v42.1)), (0, .ref a0), (3, .int s36.2)]) 156 rfl rfl rfl ?_
                            refine x_P (lv' := [(3, .int (s36.2 + Int32.ofInt 1)), (2, .int (v42.2 + v42.1)), (0, .ref a0)]) 159 rfl rfl rfl ?_
                            refine x_P 133 rfl rfl rfl ?_
                            exact x_lv (hnx37 ((v42.2 + v42.1), (s36.2 + Int32.ofInt 1))) ⟨rfl, rfl, rfl, trivial⟩
                          · refine x_if_eq rfl rfl (fun h44 => ?_) (fun h44 => ?_)
                            · refine x_P 154 rfl rfl rfl ?_
                              exact x_lv (hj43 ((Int32.ofInt 0), s36.1)) ⟨rfl, rfl, trivial⟩
                            · refine x_P 150 rfl rfl rfl ?_
                              refine x_P 154 rfl rfl rfl ?_
                              exact x_lv (hj43 ((Int32.ofInt 1), s36.1)) ⟨rfl, rfl, trivial⟩
                      · refine x_P 163 rfl rfl rfl ?_
                        exact x_retI (x := (x39, th)) rfl
                    · skip
                      refine x_ite (fun h46 => ?_) (fun h46 => ?_)
                      · refine x_P 164 rfl rfl (x_ts h46 (by decide +kernel)) ?_
                        refine x_P 165 rfl rfl rfl ?_
                        refine x_callV rfl rfl rfl rfl rfl ⟨rfl, rfl⟩ (fun x h => c_243 h) (S_243 d a0 th) (fun q47 hq47 => ?_)
                        exact x_retI (x := (q47.1, q47.2)) rfl
                      · skip
                        exact x_none
