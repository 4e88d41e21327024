/-! ===== programs ===== -/
-- 224 NineTreesModel.look()V
noncomputable def m_224 (a0 : Nat) (th : tH) : Option tH :=
  (gC th 8 a0).bind fun _ =>
  lp (fun (s1 : tH) nx2 ex3 =>
      (gI s1 8 a0 19).bind fun x73 =>
      (gI s1 8 a0 7).bind fun x74 =>
      if x74 ≤ x73 then
        ex3 s1
      else
        (gN s1 8 a0 6).bind fun o75 =>
        (gI s1 8 a0 19).bind fun x76 =>
        (aI s1 o75 x76).bind fun x77 =>
        if x77 = (Int8.ofInt 32).toInt32 then
          (gI s1 8 a0 19).bind fun x78 =>
          (pI s1 8 a0 19 (x78 + (Int32.ofInt 1))).bind fun th79 =>
          nx2 th79
        else
          ex3 s1
    ) 4096 th (fun (x4 : tH) =>
      (gI x4 8 a0 19).bind fun x5 =>
      (pI x4 8 a0 21 x5).bind fun th6 =>
      (pI th6 8 a0 22 (Int32.ofInt 0)).bind fun th7 =>
      (gI th7 8 a0 19).bind fun x8 =>
      (gI th7 8 a0 7).bind fun x9 =>
      jn (fun (v10 : tH) =>
          some v10
        ) (fun j11 =>
          if x8 = x9 then
            (pI th7 8 a0 20 (Int32.ofInt 0)).bind fun th71 =>
            j11 th71
          else
            (gN th7 8 a0 6).bind fun o12 =>
            (gI th7 8 a0 19).bind fun x13 =>
            (aI th7 o12 x13).bind fun x14 =>
            (m_222 x14 th7).bind fun x15 =>
            if x15 = 0 then
              (gN th7 8 a0 6).bind fun o16 =>
              (gI th7 8 a0 19).bind fun x17 =>
              (aI th7 o16 x17).bind fun x18 =>
              (m_223 x18 th7).bind fun x19 =>
              if x19 = 0 then
                (gN th7 8 a0 6).bind fun o20 =>
                (gI th7 8 a0 19).bind fun x21 =>
                (aI th7 o20 x21).bind fun x22 =>
                jn (fun (v23 : Int32 × Nat) =>
                    (pI th7 8 v23.2 20 v23.1).bind fun th25 =>
                    (gI th25 8 a0 19).bind fun x26 =>
                    (pI th25 8 a0 19 (x26 + (Int32.ofInt 1))).bind fun th27 =>
                    j11 th27
                  ) (fun j24 =>
                    if x22 = (Int8.ofInt 59).toInt32 then
                      j24 ((Int32.ofInt 3), a0)
                    else
                      j24 ((Int32.ofInt 4), a0)
                  )
              else
                (pI th7 8 a0 20 (Int32.ofInt 2)).bind fun th29 =>
                lp (fun (s30 : tH) nx31 ex32 =>
                    (gI s30 8 a0 19).bind fun x34 =>
                    (gI s30 8 a0 7).bind fun x35 =>
                    if x35 ≤ x34 then
                      ex32 s30
                    else
                      (gN s30 8 a0 6).bind fun o36 =>
                      (gI s30 8 a0 19).bind fun x37 =>
                      (aI s30 o36 x37).bind fun x38 =>
                      (m_223 x38 s30).bind fun x39 =>
                      if x39 = 0 then
                        ex32 s30
                      else
                        (gI s30 8 a0 19).bind fun x40 =>
                        (gI s30 8 a0 21).bind fun x41 =>
                        jn (fun (v42 : Int32 × Nat) =>
                            (pI s30 8 v42.2 22 v42.1).bind fun th44 =>
                            (gI th44 8 a0 19).bind fun x45 =>
                            (pI th44 8 a0 19 (x45 + (Int32.ofInt 1))).bind fun th46 =>
                            nx31 th46
                          ) (fun j43 =>
                            if (Int32.ofInt 2) ≤ (x40 - x41) then
                              j43 ((Int16.ofInt 1000).toInt32, a0)
                            else
                              (gI s30 8 a0 22).bind fun x47 =>
                              (gN s30 8 a0 6).bind fun o48 =>
                              (gI s30 8 a0 19).bind fun x49 =>
                              (aI s30 o48 x49).bind fun x50 =>
                              j43 ((((x47 * (Int8.ofInt 10).toInt32) + x50) - (Int8.ofInt 48).toInt32), a0)
                          )
                  ) 4096 th29 (fun (x33 : tH) =>
                    j11 x33
                  )
            else
              (pI th7 8 a0 20 (Int32.ofInt 1)).bind fun th55 =>
              lp (fun (s56 : tH) nx57 ex58 =>
                  (gI s56 8 a0 19).bind fun x60 =>
                  (gI s56 8 a0 7).bind fun x61 =>
                  if x61 ≤ x60 then
                    ex58 s56
                  else
                    (gN s56 8 a0 6).bind fun o62 =>
                    (gI s56 8 a0 19).bind fun x63 =>
                    (aI s56 o62 x63).bind fun x64 =>
                    (m_222 x64 s56).bind fun x65 =>
                    if x65 = 0 then
                      ex58 s56
                    else
                      (gI s56 8 a0 19).bind fun x66 =>
                      (pI s56 8 a0 19 (x66 + (Int32.ofInt 1))).bind fun th67 =>
                      nx57 th67
                ) 4096 th55 (fun (x59 : tH) =>
                  j11 x59
                )
        )
    )
theorem c_224 {a0 : Nat} {th : tH} {x : tH} (h : m_224 a0 th = some x) : ∃ fs, th[a0]? = some (.inr (8, fs)) := gC_of h
theorem S_224 {L : Nat} (d : Nat) (a0 : Nat) (th : tH) : Wx L (fun x => (none, x)) (d + 1) 224 1 0 [(0, .ref a0)] [] th (m_224 a0 th) := by
  unfold m_224
  refine x_gC ?_
  refine x_lv (lv := [(0, .ref a0)]) (x_lp 38 (fun s1 => [(0, .ref a0)]) (fun s1 => s1) (fun x4 => [(0, .ref a0)]) (fun x4 => x4) (fun s1 nx2 hnx2 ex3 hex3 => ?_) (fun x4 => ?_) 4096 th) ⟨rfl, trivial⟩
  · refine x_P 1 rfl rfl rfl ?_
    refine x_gI rfl (fun x73 hx73 => ?_)
    refine x_P 5 rfl rfl rfl ?_
    refine x_gI rfl (fun x74 hx74 => ?_)
    refine x_ic_ge rfl rfl (fun h81 => ?_) (fun h81 => ?_)
    · exact x_lv (hex3 s1) ⟨rfl, trivial⟩
    · refine x_P 12 rfl rfl rfl ?_
      refine x_gN rfl (fun o75 ho75 => ?_)
      refine x_P 16 rfl rfl rfl ?_
      refine x_gI rfl (fun x76 hx76 => ?_)
      refine x_aI rfl ⟨rfl, rfl⟩ (fun x77 hx77 => ?_)
      refine x_P 22 rfl rfl rfl ?_
      refine x_ic_ne rfl rfl (fun h80 => ?_) (fun h80 => ?_)
      · refine x_P 26 rfl rfl rfl ?_
        refine x_P 27 rfl rfl rfl ?_
        refine x_gI rfl (fun x78 hx78 => ?_)
        refine x_P 31 rfl rfl rfl ?_
        refine x_P 32 rfl rfl rfl ?_
        refine x_pI rfl (fun th79 hth79 => ?_)
        refine x_P 0 rfl rfl rfl ?_
        exact x_lv (hnx2 th79) ⟨rfl, trivial⟩
      · exact x_lv (hex3 s1) ⟨rfl, trivial⟩
  · refine x_P 39 rfl rfl rfl ?_
    refine x_P 40 rfl rfl rfl ?_
    refine x_gI rfl (fun x5 hx5 => ?_)
    refine x_pI rfl (fun th6 hth6 => ?_)
    refine x_P 47 rfl rfl rfl ?_
    refine x_P 48 rfl rfl rfl ?_
    refine x_pI rfl (fun th7 hth7 => ?_)
    refine x_P 52 rfl rfl rfl ?_
    refine x_gI rfl (fun x8 hx8 => ?_)
    refine x_P 56 rfl rfl rfl ?_
    refine x_gI rfl (fun x9 hx9 => ?_)
    refine x_jn 264 (fun v10 => []) (fun v10 => []) (fun v10 => v10) (fun v10 => ?_) (fun j11 hj11 => ?_)
    · exact x_retV (x := v10) rfl
    · refine x_ic_ne rfl rfl (fun h72 => ?_) (fun h72 => ?_)
      · refine x_P 63 rfl rfl rfl ?_
        refine x_P 64 rfl rfl rfl ?_
        refine x_pI rfl (fun th71 hth71 => ?_)
        refine x_P 264 rfl rfl rfl ?_
        exact x_lv (hj11 th71) trivial
      · refine x_P 71 rfl rfl rfl ?_
        refine x_gN rfl (fun o12 ho12 => ?_)
        refine x_P 75 rfl rfl rfl ?_
        refine x_gI rfl (fun x13 hx13 => ?_)
        refine x_aI rfl ⟨rfl, rfl⟩ (fun x14 hx14 => ?_)
        refine x_callS rfl rfl rfl rfl rfl rfl ⟨rfl, rfl⟩ (S_222 d x14 th7) (fun x15 hx15 => ?_)
        refine x_if_eq rfl rfl (fun h70 => ?_) (fun h70 => ?_)
        · refine x_P 130 rfl rfl rfl ?_
          refine x_gN rfl (fun o16 ho16 => ?_)
          refine x_P 134 rfl rfl rfl ?_
          refine x_gI rfl (fun x17 hx17 => ?_)
          refine x_aI rfl ⟨rfl, rfl⟩ (fun x18 hx18 => ?_)
          refine x_callS rfl rfl rfl rfl rfl rfl ⟨rfl, rfl⟩ (S_223 d x18 th7) (fun x19 hx19 => ?_)
          refine x_if_eq rfl rfl (fun h54 => ?_) (fun h54 => ?_)
          · refine x_P 232 rfl rfl rfl ?_
            refine x_P 233 rfl rfl rfl ?_
            refine x_gN rfl (fun o20 ho20 => ?_)
            refine x_P 237 rfl rfl rfl ?_
            refine x_gI rfl (fun x21 hx21 => ?_)
            refine x_aI rfl ⟨rfl, rfl⟩ (fun x22 hx22 => ?_)
            refine x_P 243 rfl rfl rfl ?_
            refine x_jn 251 (fun v23 => [(0, .ref a0)]) (fun v23 => [.int v23.1, .ref v23.2]) (fun v23 => th7) (fun v23 => ?_) (fun j24 hj24 => ?_)
            · refine x_pI rfl (fun th25 hth25 => ?_)
              refine x_P 255 rfl rfl rfl ?_
              refine x_P 256 rfl rfl rfl ?_
              refine x_gI rfl (fun x26 hx26 => ?_)
              refine x_P 260 rfl rfl rfl ?_
              refine x_P 261 rfl rfl rfl ?_
              refine x_pI rfl (fun th27 hth27 => ?_)
              exact x_lv (hj11 th27) trivial
            · refine x_ic_ne rfl rfl (fun h28 => ?_) (fun h28 => ?_)
              · refine x_P 247 rfl rfl rfl ?_
                refine x_P 251 rfl rfl rfl ?_
                exact x_lv (hj24 ((Int32.ofInt 3), a0)) ⟨rfl, trivial⟩
              · refine x_P 251 rfl rfl rfl ?_
                exact x_lv (hj24 ((Int32.ofInt 4), a0)) ⟨rfl, trivial⟩
          · refine x_P 145 rfl rfl rfl ?_
            refine x_P 146 rfl rfl rfl ?_
            refine x_pI rfl (fun th29 hth29 => ?_)
            refine x_lv (lv := [(0, .ref a0)]) (x_lp 264 (fun s30 => [(0, .ref a0)]) (fun s30 => s30) (fun x33 => []) (fun x33 => x33) (fun s30 nx31 hnx31 ex32 hex32 => ?_) (fun x33 => ?_) 4096 th29) ⟨rfl, trivial⟩
            · refine x_P 150 rfl rfl rfl ?_
              refine x_gI rfl (fun x34 hx34 => ?_)
              refine x_P 154 rfl rfl rfl ?_
              refine x_gI rfl (fun x35 hx35 => ?_)
              refine x_ic_ge rfl rfl (fun h53 => ?_) (fun h53 => ?_)
              · exact x_lv (hex32 s30) trivial
              · refine x_P 161 rfl rfl rfl ?_
                refine x_gN rfl (fun o36 ho36 => ?_)
                refine x_P 165 rfl rfl rfl ?_
                refine x_gI rfl (fun x37 hx37 => ?_)
                refine x_aI rfl ⟨rfl, rfl⟩ (fun x38 hx38 => ?_)
                refine x_callS rfl rfl rfl rfl rfl rfl ⟨rfl, rfl⟩ (S_223 d x38 s30) (fun x39 hx39 => ?_)
                refine x_if_eq rfl rfl (fun h52 => ?_) (fun h52 => ?_)
                · exact x_lv (hex32 s30) trivial
                · refine x_P 176 rfl rfl rfl ?_
                  refine x_P 177 rfl rfl rfl ?_
                  refine x_gI rfl (fun x40 hx40 => ?_)
                  refine x_P 181 rfl rfl rfl ?_
                  refine x_gI rfl (fun x41 hx41 => ?_)
                  refine x_P 185 rfl rfl rfl ?_
                  refine x_P 186 rfl rfl rfl ?_
                  refine x_jn 215 (fun v42 => [(0, .ref a0)]) (fun v42 => [.int v42.1, .ref v42.2]) (fun v42 => s30) (fun v42 => ?_) (fun j43 hj43 => ?_)
                  · refine x_pI rfl (fun th44 hth44 => ?_)
                    refine x_P 219 rfl rfl rfl ?_
                    refine x_P 220 rfl rfl rfl ?_
                    refine x_gI rfl (fun x45 hx45 => ?_)
                    refine x_P 224 rfl rfl rfl ?_
                    refine x_P 225 rfl rfl rfl ?_
                    refine x_pI rfl (fun th46 hth46 => ?_)
                    refine x_P 149 rfl rfl rfl ?_
                    exact x_lv (hnx31 th46) ⟨rfl, trivial⟩
                  · refine x_ic_ge rfl rfl (fun h51 => ?_) (fun h51 => ?_)
                    · refine x_P 215 rfl rfl rfl ?_
                      exact x_lv (hj43 ((Int16.ofInt 1000).toInt32, a0)) ⟨rfl, trivial⟩
                    · refine x_P 190 rfl rfl rfl ?_
                      refine x_gI rfl (fun x47 hx47 => ?_)
                      refine x_P 195 rfl rfl rfl ?_
                      refine x_P 196 rfl rfl rfl ?_
                      refine x_P 197 rfl rfl rfl ?_
                      refine x_gN rfl (fun o48 ho48 => ?_)
                      refine x_P 201 rfl rfl rfl ?_
                      refine x_gI rfl (fun x49 hx49 => ?_)
                      refine x_aI rfl ⟨rfl, rfl⟩ (fun x50 hx50 => ?_)
                      refine x_P 206 rfl rfl rfl ?_
                      refine x_P 208 rfl rfl rfl ?_
                      refine x_P 209 rfl rfl rfl ?_
                      refine x_P 215 rfl rfl rfl ?_
                      exact x_lv (hj43 ((((x47 * (Int8.ofInt 10).toInt32) + x50) - (Int8.ofInt 48).toInt32), a0)) ⟨rfl, trivial⟩
            · exact x_lv (hj11 x33) trivial
        · refine x_P 86 rfl rfl rfl ?_
          refine x_P 87 rfl rfl rfl ?_
          refine x_pI rfl (fun th55 hth55 => ?_)
          refine x_lv (lv := [(0, .ref a0)]) (x_lp 264 (fun s56 => [(0, .ref a0)]) (fun s56 => s56) (fun x59 => []) (fun x59 => x59) (fun s56 nx57 hnx57 ex58 hex58 => ?_) (fun x59 => ?_) 4096 th55) ⟨rfl, trivial⟩
          · refine x_P 91 rfl rfl rfl ?_
            refine x_gI rfl (fun x60 hx60 => ?_)
            refine x_P 95 rfl rfl rfl ?_
            refine x_gI rfl (fun x61 hx61 => ?_)
            refine x_ic_ge rfl rfl (fun h69 => ?_) (fun h69 => ?_)
            · exact x_lv (hex58 s56) trivial
            · refine x_P 102 rfl rfl rfl ?_
              refine x_gN rfl (fun o62 ho62 => ?_)
              refine x_P 106 rfl rfl rfl ?_
              refine x_gI rfl (fun x63 hx63 => ?_)
              refine x_aI rfl ⟨rfl, rfl⟩ (fun x64 hx64 => ?_)
              refine x_callS rfl rfl rfl rfl rfl rfl ⟨rfl, rfl⟩ (S_222 d x64 s56) (fun x65 hx65 => ?_)
              refine x_if_eq rfl rfl (fun h68 => ?_) (fun h68 => ?_)
              · exact x_lv (hex58 s56) trivial
              · refine x_P 117 rfl rfl rfl ?_
                refine x_P 118 rfl rfl rfl ?_
                refine x_gI rfl (fun x66 hx66 => ?_)
                refine x_P 122 rfl rfl rfl ?_
                refine x_P 123 rfl rfl rfl ?_
                refine x_pI rfl (fun th67 hth67 => ?_)
                refine x_P 90 rfl rfl rfl ?_
                exact x_lv (hnx57 th67) ⟨rfl, trivial⟩
          · exact x_lv (hj11 x59) trivial
-- 225 NineTreesModel.wrong()Z
noncomputable def m_225 (a0 : Nat) (th : tH) : Option (Int32 × tH) :=
  (gC th 8 a0).bind fun _ =>
  (gI th 8 a0 21).bind fun x1 =>
  (pI th 8 a0 23 x1).bind fun th2 =>
  (rB (Int32.ofInt 0)).bind fun y3 => some (y3, th2)
theorem c_225 {a0 : Nat} {th : tH} {x : (Int32 × tH)} (h : m_225 a0 th = some x) : ∃ fs, th[a0]? = some (.inr (8, fs)) := gC_of h
theorem S_225 {L : Nat} (d : Nat) (a0 : Nat) (th : tH) : Wx L (fun x => (some (.int x.1), x.2)) (d + 1) 225 1 0 [(0, .ref a0)] [] th (m_225 a0 th) := by
  unfold m_225
  refine x_gC ?_
  refine x_P 1 rfl rfl rfl ?_
  refine x_P 2 rfl rfl rfl ?_
  refine x_gI rfl (fun x1 hx1 => ?_)
  refine x_pI rfl (fun th2 hth2 => ?_)
  refine x_P 9 rfl rfl rfl ?_
  exact x_rBw rfl
-- 226 NineTreesModel.isWord(Ljava/lang/String;)Z
noncomputable def m_226 (a0 : Nat) (a1 : Nat) (th : tH) : Option (Int32) :=
  (gC th 8 a0).bind fun _ =>
  (gI th 8 a0 20).bind fun x1 =>
  jn (fun (v2 : Unit) =>
      rB (Int32.ofInt 0)
    ) (fun j3 =>
      if x1 = (Int32.ofInt 1) then
        (gI th 8 a0 19).bind fun x4 =>
        (gI th 8 a0 21).bind fun x5 =>
        (m_177 a1 th).bind fun x6 =>
        if (x4 - x5) = x6 then
          lp (fun (s7 : Int32) nx8 ex9 =>
              (m_177 a1 th).bind fun x11 =>
              if x11 ≤ s7 then
                ex9 ()
              else
                (gN th 8 a0 6).bind fun o12 =>
                (gI th 8 a0 21).bind fun x13 =>
                (aI th o12 (x13 + s7)).bind fun x14 =>
                (m_178 a1 s7 th).bind fun x15 =>
                if x14 = x15 then
                  nx8 (s7 + Int32.ofInt 1)
                else
                  rB (Int32.ofInt 0)
            ) 4096 (Int32.ofInt 0) (fun (x10 : Unit) =>
              rB (Int32.ofInt 1)
            )
        else
          j3 ()
      else
        j3 ()
    )
theorem c_226 {a0 : Nat} {a1 : Nat} {th : tH} {x : (Int32)} (h : m_226 a0 a1 th = some x) : ∃ fs, th[a0]? = some (.inr (8, fs)) := gC_of h
theorem S_226 {L : Nat} (d : Nat) (a0 : Nat) (a1 : Nat) (th : tH) : Wx L (fun x => (some (.int x), th)) (d + 4) 226 3 0 [(0, .ref a0), (1, .ref a1)] [] th (m_226 a0 a1 th) := by
  unfold m_226
  refine x_gC ?_
  refine x_P 1 rfl rfl rfl ?_
  refine x_gI rfl (fun x1 hx1 => ?_)
  refine x_P 5 rfl rfl rfl ?_
  refine x_jn 24 (fun v2 => []) (fun v2 => []) (fun v2 => th) (fun v2 => ?_) (fun j3 hj3 => ?_)
  · refine x_P 25 rfl rfl rfl ?_
    exact x_rB rfl
  · refine x_ic_ne rfl rfl (fun h19 => ?_) (fun h19 => ?_)
    · refine x_P 9 rfl rfl rfl ?_
      refine x_gI rfl (fun x4 hx4 => ?_)
      refine x_P 13 rfl rfl rfl ?_
      refine x_gI rfl (fun x5 hx5 => ?_)
      refine x_P 17 rfl rfl rfl ?_
      refine x_P 18 rfl rfl rfl ?_
      refine x_callT rfl rfl rfl rfl rfl ⟨rfl, rfl⟩ (fun x h => c_177 h) (S_177 (d + 2) a1 th) (fun x6 hx6 => ?_)
      refine x_ic_eq rfl rfl (fun h18 => ?_) (fun h18 => ?_)
      · refine x_P 27 rfl rfl rfl ?_
        refine x_P (lv' := [(2, .int (Int32.ofInt 0)), (0, .ref a0), (1, .ref a1)]) 28 rfl rfl rfl ?_
        refine x_lv (lv := [(0, .ref a0), (1, .ref a1), (2, .int (Int32.ofInt 0))]) (x_lp 63 (fun s7 => [(0, .ref a0), (1, .ref a1), (2, .int s7)]) (fun s7 => th) (fun x10 => []) (fun x10 => th) (fun s7 nx8 hnx8 ex9 hex9 => ?_) (fun x10 => ?_) 4096 (Int32.ofInt 0)) ⟨rfl, rfl, rfl, trivial⟩
        · refine x_P 29 rfl rfl rfl ?_
          refine x_P 30 rfl rfl rfl ?_
          refine x_callT rfl rfl rfl rfl rfl ⟨rfl, rfl⟩ (fun x h => c_177 h) (S_177 (d + 2) a1 th) (fun x11 hx11 => ?_)
          refine x_ic_ge rfl rfl (fun h17 => ?_) (fun h17 => ?_)
          · exact x_lv (hex9 ()) trivial
          · refine x_P 37 rfl rfl rfl ?_
            refine x_gN rfl (fun o12 ho12 => ?_)
            refine x_P 41 rfl rfl rfl ?_
            refine x_gI rfl (fun x13 hx13 => ?_)
            refine x_P 45 rfl rfl rfl ?_
            refine x_P 46 rfl rfl rfl ?_
            refine x_aI rfl ⟨rfl, rfl⟩ (fun x14 hx14 => ?_)
            refine x_P 48 rfl rfl rfl ?_
            refine x_P 49 rfl rfl rfl ?_
            refine x_callT rfl rfl rfl rfl rfl ⟨rfl, rfl⟩ (fun x h => c_178 h) (S_178 d a1 s7 th) (fun x15 hx15 => ?_)
            refine x_ic_eq rfl rfl (fun h16 => ?_) (fun h16 => ?_)
            · refine x_P (lv' := [(2, .int (s7 + Int32.ofInt 1)), (0, .ref a0), (1, .ref a1)]) 60 rfl rfl rfl ?_
              refine x_P 28 rfl rfl rfl ?_
              exact x_lv (hnx8 (s7 + Int32.ofInt 1)) ⟨rfl, rfl, rfl, trivial⟩
            · refine x_P 56 rfl rfl rfl ?_
              exact x_rB rfl
        · refine x_P 64 rfl rfl rfl ?_
          exact x_rB rfl
      · exact x_lv (hj3 ()) trivial
    · exact x_lv (hj3 ()) trivial
-- 227 NineTreesModel.number(III)Z
noncomputable def m_227 (a0 : Nat) (a1 : Int32) (a2 : Int32) (a3 : Int32) (th : tH) : Option (Int32 × tH) :=
  (gC th 8 a0).bind fun _ =>
  (gI th 8 a0 20).bind fun x1 =>
  jn (fun (v2 : Unit) =>
      (m_225 a0 th).bind fun q4 =>
      (rB q4.1).bind fun y5 => some (y5, q4.2)
    ) (fun j3 =>
      if x1 = (Int32.ofInt 2) then
        (gI th 8 a0 22).bind fun x6 =>
        (m_190 (Int32.toInt64 x6) (Int32.toInt64 a2) (Int32.toInt64 a3) th).bind fun x7 =>
        if x7 = 0 then
          j3 ()
        else
          (gN th 8 a0 24).bind fun o8 =>
          (gI th 8 a0 22).bind fun x9 =>
          (sI th o8 a1 x9).bind fun th10 =>
          (m_224 a0 th10).bind fun th11 =>
          (rB (Int32.ofInt 1)).bind fun y12 => some (y12, th11)
      else
        j3 ()
    )
theorem c_227 {a0 : Nat} {a1 : Int32} {a2 : Int32} {a3 : Int32} {th : tH} {x : (Int32 × tH)} (h : m_227 a0 a1 a2 a3 th = some x) : ∃ fs, th[a0]? = some (.inr (8, fs)) := gC_of h
theorem S_227 {L : Nat} (d : Nat) (a0 : Nat) (a1 : Int32) (a2 : Int32) (a3 : Int32) (th : tH) : Wx L (fun x => (some (.int x.1), x.2)) (d + 2) 227 4 0 [(0, .ref a0), (1, .int a1), (2, .int a2), (3, .int a3)] [] th (m_227 a0 a1 a2 a3 th) := by
  unfold m_227
  refine x_gC ?_
  refine x_P 1 rfl rfl rfl ?_
  refine x_gI rfl (fun x1 hx1 => ?_)
  refine x_P 5 rfl rfl rfl ?_
  refine x_jn 23 (fun v2 => [(0, .ref a0)]) (fun v2 => []) (fun v2 => th) (fun v2 => ?_) (fun j3 hj3 => ?_)
  · refine x_P 24 rfl rfl rfl ?_
    refine x_callV rfl rfl rfl rfl rfl ⟨rfl, rfl⟩ (fun x h => c_225 h) (S_225 d a0 th) (fun q4 hq4 => ?_)
    exact x_rBw rfl
  · refine x_ic_ne rfl rfl (fun h14 => ?_) (fun h14 => ?_)
    · refine x_P 9 rfl rfl rfl ?_
      refine x_gI rfl (fun x6 hx6 => ?_)
      refine x_P 13 rfl rfl rfl ?_
      refine x_P 14 rfl rfl rfl ?_
      refine x_P 15 rfl rfl rfl ?_
      refine x_P 16 rfl rfl rfl ?_
      refine x_P 17 rfl rfl rfl ?_
      refine x_callS rfl rfl rfl rfl rfl rfl ⟨rfl, rfl⟩ (S_190 (d + 1) (Int32.toInt64 x6) (Int32.toInt64 a2) (Int32.toInt64 a3) th) (fun x7 hx7 => ?_)
      refine x_if_ne rfl rfl (fun h13 => ?_) (fun h13 => ?_)
      · exact x_lv (hj3 ()) ⟨rfl, trivial⟩
      · refine x_P 29 rfl rfl rfl ?_
        refine x_gN rfl (fun o8 ho8 => ?_)
        refine x_P 33 rfl rfl rfl ?_
        refine x_P 34 rfl rfl rfl ?_
        refine x_gI rfl (fun x9 hx9 => ?_)
        refine x_sI rfl ⟨rfl, rfl⟩ (fun th10 hth10 => ?_)
        refine x_P 39 rfl rfl rfl ?_
        refine x_callW rfl rfl rfl rfl rfl ⟨rfl, rfl⟩ (fun x h => c_224 h) (S_224 d a0 th10) (fun th11 hth11 => ?_)
        refine x_P 43 rfl rfl rfl ?_
        exact x_rBw rfl
    · exact x_lv (hj3 ()) ⟨rfl, trivial⟩
-- 228 NineTreesModel.tells(II)Z
noncomputable def m_228 (a0 : Nat) (a1 : Int32) (a2 : Int32) (th : tH) : Option (Int32 × tH) :=
  (gC th 8 a0).bind fun _ =>
  (m_224 a0 th).bind fun th1 =>
  (m_227 a0 (Int32.ofInt 0) a1 a2 th1).bind fun q2 =>
  (rB q2.1).bind fun y3 => some (y3, q2.2)
theorem c_228 {a0 : Nat} {a1 : Int32} {a2 : Int32} {th : tH} {x : (Int32 × tH)} (h : m_228 a0 a1 a2 th = some x) : ∃ fs, th[a0]? = some (.inr (8, fs)) := gC_of h
theorem S_228 {L : Nat} (d : Nat) (a0 : Nat) (a1 : Int32) (a2 : Int32) (th : tH) : Wx L (fun x => (some (.int x.1), x.2)) (d + 3) 228 3 0 [(0, .ref a0), (1, .int a1), (2, .int a2)] [] th (m_228 a0 a1 a2 th) := by
  unfold m_228
  refine x_gC ?_
  refine x_P 1 rfl rfl rfl ?_
  refine x_callW rfl rfl rfl rfl rfl ⟨rfl, rfl⟩ (fun x h => c_224 h) (S_224 (d + 1) a0 th) (fun th1 hth1 => ?_)
  refine x_P 5 rfl rfl rfl ?_
  refine x_P 6 rfl rfl rfl ?_
  refine x_P 7 rfl rfl rfl ?_
  refine x_P 8 rfl rfl rfl ?_
  refine x_callV rfl rfl rfl rfl rfl ⟨rfl, rfl⟩ (fun x h => c_227 h) (S_227 d a0 (Int32.ofInt 0) a1 a2 th1) (fun q2 hq2 => ?_)
  exact x_rBw rfl
-- 229 NineTreesModel.freeCell(I)Z
noncomputable def m_229 (a0 : Nat) (a1 : Int32) (th : tH) : Option (Int32 × tH) :=
  (gC th 8 a0).bind fun _ =>
  (gI th 8 a0 20).bind fun x1 =>
  jn (fun (v2 : Unit) =>
      (m_192 a0 th).bind fun x4 =>
      (m_227 a0 a1 (Int32.ofInt 0) (x4 - (Int32.ofInt 1)) th).bind fun q5 =>
      (rB q5.1).bind fun y6 => some (y6, q5.2)
    ) (fun j3 =>
      if x1 = (Int32.ofInt 2) then
        (gI th 8 a0 22).bind fun x7 =>
        (m_194 a0 x7 th).bind fun x8 =>
        if x8 = (Int32.ofInt (-1)) then
          j3 ()
        else
          (m_225 a0 th).bind fun q9 =>
          (rB q9.1).bind fun y10 => some (y10, q9.2)
      else
        j3 ()
    )
theorem c_229 {a0 : Nat} {a1 : Int32} {th : tH} {x : (Int32 × tH)} (h : m_229 a0 a1 th = some x) : ∃ fs, th[a0]? = some (.inr (8, fs)) := gC_of h
theorem S_229 {L : Nat} (d : Nat) (a0 : Nat) (a1 : Int32) (th : tH) : Wx L (fun x => (some (.int x.1), x.2)) (d + 3) 229 2 0 [(0, .ref a0), (1, .int a1)] [] th (m_229 a0 a1 th) := by
  unfold m_229
  refine x_gC ?_
  refine x_P 1 rfl rfl rfl ?_
  refine x_gI rfl (fun x1 hx1 => ?_)
  refine x_P 5 rfl rfl rfl ?_
  refine x_jn 25 (fun v2 => [(0, .ref a0), (1, .int a1)]) (fun v2 => []) (fun v2 => th) (fun v2 => ?_) (fun j3 hj3 => ?_)
  · refine x_P 26 rfl rfl rfl ?_
    refine x_P 27 rfl rfl rfl ?_
    refine x_P 28 rfl rfl rfl ?_
    refine x_P 29 rfl rfl rfl ?_
    refine x_callV rfl rfl rfl rfl rfl ⟨rfl, rfl⟩ (fun x h => c_192 h) (S_192 (d + 2) a0 th) (fun x4 hx4 => ?_)
    refine x_P 33 rfl rfl rfl ?_
    refine x_P 34 rfl rfl rfl ?_
    refine x_callV rfl rfl rfl rfl rfl ⟨rfl, rfl⟩ (fun x h => c_227 h) (S_227 d a0 a1 (Int32.ofInt 0) (x4 - (Int32.ofInt 1)) th) (fun q5 hq5 => ?_)
    exact x_rBw rfl
  · refine x_ic_ne rfl rfl (fun h12 => ?_) (fun h12 => ?_)
    · refine x_P 9 rfl rfl rfl ?_
      refine x_P 10 rfl rfl rfl ?_
      refine x_gI rfl (fun x7 hx7 => ?_)
      refine x_callV rfl rfl rfl rfl rfl ⟨rfl, rfl⟩ (fun x h => c_194 h) (S_194 (d + 2) a0 x7 th) (fun x8 hx8 => ?_)
      refine x_P 17 rfl rfl rfl ?_
      refine x_ic_eq rfl rfl (fun h11 => ?_) (fun h11 => ?_)
      · exact x_lv (hj3 ()) ⟨rfl, rfl, trivial⟩
      · refine x_P 21 rfl rfl rfl ?_
        refine x_callV rfl rfl rfl rfl rfl ⟨rfl, rfl⟩ (fun x h => c_225 h) (S_225 (d + 1) a0 th) (fun q9 hq9 => ?_)
        exact x_rBw rfl
    · exact x_lv (hj3 ()) ⟨rfl, rfl, trivial⟩
-- 230 NineTreesModel.wishTold()Z
noncomputable def m_230 (a0 : Nat) (th : tH) : Option (Int32 × tH) :=
  (gC th 8 a0).bind fun _ =>
  (m_224 a0 th).bind fun th1 =>
  lp (fun (s2 : Int32 × Int32 × tH) nx3 ex4 =>
      jn (fun (v11 : Unit) =>
          (gI s2.2.2 8 a0 20).bind fun x13 =>
          jn (fun (v14 : Unit) =>
              (m_225 a0 s2.2.2).bind fun q16 =>
              (rB q16.1).bind fun y17 => some (y17, q16.2)
            ) (fun j15 =>
              if x13 = (Int32.ofInt 2) then
                (gI s2.2.2 8 a0 22).bind fun x18 =>
                (m_191 a0 x18 s2.2.2).bind fun x19 =>
                if x19 = 0 then
                  j15 ()
                else
                  (gI s2.2.2 8 a0 22).bind fun x20 =>
                  (m_195 s2.1 x20 s2.2.2).bind fun x21 =>
                  if x21 = 0 then
                    (gI s2.2.2 8 a0 22).bind fun x22 =>
                    (m_224 a0 s2.2.2).bind fun th23 =>
                    nx3 ((s2.1 ||| ((Int32.ofInt 1) <<< (x22 &&& 31))), (s2.2.1 + Int32.ofInt 1), th23)
                  else
                    j15 ()
              else
                j15 ()
            )
        ) (fun j12 =>
          if s2.2.1 < (Int32.ofInt 3) then
            j12 ()
          else
            (gI s2.2.2 8 a0 20).bind fun x27 =>
            if x27 = (Int32.ofInt 2) then
              j12 ()
            else
              ex4 (s2.1, s2.2.2)
        )
    ) 4096 ((Int32.ofInt 0), (Int32.ofInt 0), th1) (fun (x5 : Int32 × tH) =>
      (gN x5.2 8 a0 15).bind fun o6 =>
      (gI x5.2 8 a0 14).bind fun x7 =>
      (pI x5.2 8 a0 14 (x7 + (Int32.ofInt 1))).bind fun th8 =>
      (sI th8 o6 x7 x5.1).bind fun th9 =>
      (rB (Int32.ofInt 1)).bind fun y10 => some (y10, th9)
    )
theorem c_230 {a0 : Nat} {th : tH} {x : (Int32 × tH)} (h : m_230 a0 th = some x) : ∃ fs, th[a0]? = some (.inr (8, fs)) := gC_of h
theorem S_230 {L : Nat} (d : Nat) (a0 : Nat) (th : tH) : Wx L (fun x => (some (.int x.1), x.2)) (d + 2) 230 3 0 [(0, .ref a0)] [] th (m_230 a0 th) := by
  unfold m_230
  refine x_gC ?_
  refine x_P 1 rfl rfl rfl ?_
  refine x_P (lv' := [(1, .int (Int32.ofInt 0)), (0, .ref a0)]) 2 rfl rfl rfl ?_
  refine x_P 3 rfl rfl rfl ?_
  refine x_P (lv' := [(2, .int (Int32.ofInt 0)), (1, .int (Int32.ofInt 0)), (0, .ref a0)]) 4 rfl rfl rfl ?_
  refine x_P 5 rfl rfl rfl ?_
  refine x_callW rfl rfl rfl rfl rfl ⟨rfl, rfl⟩ (fun x h => c_224 h) (S_224 d a0 th) (fun th1 hth1 => ?_)
  refine x_lv (lv := [(0, .ref a0), (1, .int (Int32.ofInt 0)), (2, .int (Int32.ofInt 0))]) (x_lp 75 (fun s2 => [(0, .ref a0), (1, .int s2.1), (2, .int s2.2.1)]) (fun s2 => s2.2.2) (fun x5 => [(0, .ref a0), (1, .int x5.1)]) (fun x5 => x5.2) (fun s2 nx3 hnx3 ex4 hex4 => ?_) (fun x5 => ?_) 4096 ((Int32.ofInt 0), (Int32.ofInt 0), th1)) ⟨rfl, rfl, rfl, trivial⟩
  · refine x_P 9 rfl rfl rfl ?_
    refine x_P 10 rfl rfl rfl ?_
    refine x_jn 21 (fun v11 => [(0, .ref a0), (1, .int s2.1), (2, .int s2.2.1)]) (fun v11 => []) (fun v11 => s2.2.2) (fun v11 => ?_) (fun j12 hj12 => ?_)
    · refine x_P 22 rfl rfl rfl ?_
      refine x_gI rfl (fun x13 hx13 => ?_)
      refine x_P 26 rfl rfl rfl ?_
      refine x_jn 51 (fun v14 => [(0, .ref a0)]) (fun v14 => []) (fun v14 => s2.2.2) (fun v14 => ?_) (fun j15 hj15 => ?_)
      · refine x_P 52 rfl rfl rfl ?_
        refine x_callV rfl rfl rfl rfl rfl ⟨rfl, rfl⟩ (fun x h => c_225 h) (S_225 d a0 s2.2.2) (fun q16 hq16 => ?_)
        exact x_rBw rfl
      · refine x_ic_ne rfl rfl (fun h26 => ?_) (fun h26 => ?_)
        · refine x_P 30 rfl rfl rfl ?_
          refine x_P 31 rfl rfl rfl ?_
          refine x_gI rfl (fun x18 hx18 => ?_)
          refine x_callV rfl rfl rfl rfl rfl ⟨rfl, rfl⟩ (fun x h => c_191 h) (S_191 d a0 x18 s2.2.2) (fun x19 hx19 => ?_)
          refine x_if_eq rfl rfl (fun h25 => ?_) (fun h25 => ?_)
          · exact x_lv (hj15 ()) ⟨rfl, trivial⟩
          · refine x_P 41 rfl rfl rfl ?_
            refine x_P 42 rfl rfl rfl ?_
            refine x_gI rfl (fun x20 hx20 => ?_)
            refine x_callS rfl rfl rfl rfl rfl rfl ⟨rfl, rfl⟩ (S_195 (d + 1) s2.1 x20 s2.2.2) (fun x21 hx21 => ?_)
            refine x_if_eq rfl rfl (fun h24 => ?_) (fun h24 => ?_)
            · refine x_P 57 rfl rfl rfl ?_
              refine x_P 58 rfl rfl rfl ?_
              refine x_P 59 rfl rfl rfl ?_
              refine x_gI rfl (fun x22 hx22 => ?_)
              refine x_P 63 rfl rfl rfl ?_
              refine x_P 64 rfl rfl rfl ?_
              refine x_P (lv' := [(1, .int (s2.1 ||| ((Int32.ofInt 1) <<< (x22 &&& 31)))), (0, .ref a0), (2, .int s2.2.1)]) 65 rfl rfl rfl ?_
              refine x_P (lv' := [(2, .int (s2.2.1 + Int32.ofInt 1)), (1, .int (s2.1 ||| ((Int32.ofInt 1) <<< (x22 &&& 31)))), (0, .ref a0)]) 68 rfl rfl rfl ?_
              refine x_P 69 rfl rfl rfl ?_
              refine x_callW rfl rfl rfl rfl rfl ⟨rfl, rfl⟩ (fun x h => c_224 h) (S_224 d a0 s2.2.2) (fun th23 hth23 => ?_)
              refine x_P 8 rfl rfl rfl ?_
              exact x_lv (hnx3 ((s2.1 ||| ((Int32.ofInt 1) <<< (x22 &&& 31))), (s2.2.1 + Int32.ofInt 1), th23)) ⟨rfl, rfl, rfl, trivial⟩
            · exact x_lv (hj15 ()) ⟨rfl, trivial⟩
        · exact x_lv (hj15 ()) ⟨rfl, trivial⟩
    · refine x_ic_lt rfl rfl (fun h29 => ?_) (fun h29 => ?_)
      · exact x_lv (hj12 ()) ⟨rfl, rfl, rfl, trivial⟩
      · refine x_P 14 rfl rfl rfl ?_
        refine x_gI rfl (fun x27 hx27 => ?_)
        refine x_P 18 rfl rfl rfl ?_
        refine x_ic_ne rfl rfl (fun h28 => ?_) (fun h28 => ?_)
        · exact x_lv (hj12 ()) ⟨rfl, rfl, rfl, trivial⟩
        · exact x_lv (hex4 (s2.1, s2.2.2)) ⟨rfl, rfl, trivial⟩
  · refine x_P 76 rfl rfl rfl ?_
    refine x_gN rfl (fun o6 ho6 => ?_)
    refine x_P 80 rfl rfl rfl ?_
    refine x_P 81 rfl rfl rfl ?_
    refine x_gI rfl (fun x7 hx7 => ?_)
    refine x_P 85 rfl rfl rfl ?_
    refine x_P 86 rfl rfl rfl ?_
    refine x_P 87 rfl rfl rfl ?_
    refine x_pI rfl (fun th8 hth8 => ?_)
    refine x_P 91 rfl rfl rfl ?_
    refine x_sI rfl ⟨rfl, rfl⟩ (fun th9 hth9 => ?_)
    refine x_P 93 rfl rfl rfl ?_
    exact x_rBw rfl
-- 231 NineTreesModel.moveTold()Z
noncomputable def m_231 (a0 : Nat) (th : tH) : Option (Int32 × tH) :=
  (gC th 8 a0).bind fun _ =>
  (m_224 a0 th).bind fun th1 =>
  (gI th1 8 a0 20).bind fun x2 =>
  jn (fun (v3 : Unit) =>
      (gI th1 8 a0 10).bind fun x5 =>
      (m_227 a0 (Int32.ofInt 0) (Int32.ofInt 0) (x5 - (Int32.ofInt 1)) th1).bind fun q6 =>
      jn (fun (v7 : tH) =>
          (rB (Int32.ofInt 0)).bind fun y9 => some (y9, v7)
        ) (fun j8 =>
          if q6.1 = 0 then
            j8 q6.2
          else
            (m_229 a0 (Int32.ofInt 1) q6.2).bind fun q10 =>
            if q10.1 = 0 then
              j8 q10.2
            else
              (gN q10.2 8 a0 12).bind fun o11 =>
              (gN q10.2 8 a0 24).bind fun o12 =>
              (aI q10.2 o12 (Int32.ofInt 0)).bind fun x13 =>
              (gN q10.2 8 a0 24).bind fun o14 =>
              (aI q10.2 o14 (Int32.ofInt 1)).bind fun x15 =>
              (sI q10.2 o11 x13 x15).bind fun th16 =>
              (rB (Int32.ofInt 1)).bind fun y17 => some (y17, th16)
        )
    ) (fun j4 =>
      if x2 = (Int32.ofInt 2) then
        (gI th1 8 a0 22).bind fun x20 =>
        (m_191 a0 x20 th1).bind fun x21 =>
        if x21 = 0 then
          j4 ()
        else
          (gI th1 8 a0 22).bind fun x22 =>
          (m_197 a0 x22 th1).bind fun x23 =>
          if x23 = 0 then
            j4 ()
          else
            (m_225 a0 th1).bind fun q24 =>
            (rB q24.1).bind fun y25 => some (y25, q24.2)
      else
        j4 ()
    )
theorem c_231 {a0 : Nat} {th : tH} {x : (Int32 × tH)} (h : m_231 a0 th = some x) : ∃ fs, th[a0]? = some (.inr (8, fs)) := gC_of h
theorem S_231 {L : Nat} (d : Nat) (a0 : Nat) (th : tH) : Wx L (fun x => (some (.int x.1), x.2)) (d + 4) 231 1 0 [(0, .ref a0)] [] th (m_231 a0 th) := by
  unfold m_231
  refine x_gC ?_
  refine x_P 1 rfl rfl rfl ?_
  refine x_callW rfl rfl rfl rfl rfl ⟨rfl, rfl⟩ (fun x h => c_224 h) (S_224 (d + 2) a0 th) (fun th1 hth1 => ?_)
  refine x_P 5 rfl rfl rfl ?_
  refine x_gI rfl (fun x2 hx2 => ?_)
  refine x_P 9 rfl rfl rfl ?_
  refine x_jn 39 (fun v3 => [(0, .ref a0)]) (fun v3 => []) (fun v3 => th1) (fun v3 => ?_) (fun j4 hj4 => ?_)
  · refine x_P 40 rfl rfl rfl ?_
    refine x_P 41 rfl rfl rfl ?_
    refine x_P 42 rfl rfl rfl ?_
    refine x_P 43 rfl rfl rfl ?_
    refine x_gI rfl (fun x5 hx5 => ?_)
    refine x_P 47 rfl rfl rfl ?_
    refine x_P 48 rfl rfl rfl ?_
    refine x_callV rfl rfl rfl rfl rfl ⟨rfl, rfl⟩ (fun x h => c_227 h) (S_227 (d + 1) a0 (Int32.ofInt 0) (Int32.ofInt 0) (x5 - (Int32.ofInt 1)) th1) (fun q6 hq6 => ?_)
    refine x_jn 62 (fun v7 => []) (fun v7 => []) (fun v7 => v7) (fun v7 => ?_) (fun j8 hj8 => ?_)
    · refine x_P 63 rfl rfl rfl ?_
      exact x_rBw rfl
    · refine x_if_eq rfl rfl (fun h19 => ?_) (fun h19 => ?_)
      · exact x_lv (hj8 q6.2) trivial
      · refine x_P 55 rfl rfl rfl ?_
        refine x_P 56 rfl rfl rfl ?_
        refine x_callV rfl rfl rfl rfl rfl ⟨rfl, rfl⟩ (fun x h => c_229 h) (S_229 d a0 (Int32.ofInt 1) q6.2) (fun q10 hq10 => ?_)
        refine x_if_ne rfl rfl (fun h18 => ?_) (fun h18 => ?_)
        · exact x_lv (hj8 q10.2) trivial
        · refine x_P 65 rfl rfl rfl ?_
          refine x_gN rfl (fun o11 ho11 => ?_)
          refine x_P 69 rfl rfl rfl ?_
          refine x_gN rfl (fun o12 ho12 => ?_)
          refine x_P 73 rfl rfl rfl ?_
          refine x_aI rfl ⟨rfl, rfl⟩ (fun x13 hx13 => ?_)
          refine x_P 75 rfl rfl rfl ?_
          refine x_gN rfl (fun o14 ho14 => ?_)
          refine x_P 79 rfl rfl rfl ?_
          refine x_aI rfl ⟨rfl, rfl⟩ (fun x15 hx15 => ?_)
          refine x_sI rfl ⟨rfl, rfl⟩ (fun th16 hth16 => ?_)
          refine x_P 82 rfl rfl rfl ?_
          exact x_rBw rfl
  · refine x_ic_ne rfl rfl (fun h28 => ?_) (fun h28 => ?_)
    · refine x_P 13 rfl rfl rfl ?_
      refine x_P 14 rfl rfl rfl ?_
      refine x_gI rfl (fun x20 hx20 => ?_)
      refine x_callV rfl rfl rfl rfl rfl ⟨rfl, rfl⟩ (fun x h => c_191 h) (S_191 (d + 2) a0 x20 th1) (fun x21 hx21 => ?_)
      refine x_if_eq rfl rfl (fun h27 => ?_) (fun h27 => ?_)
      · exact x_lv (hj4 ()) ⟨rfl, trivial⟩
      · refine x_P 24 rfl rfl rfl ?_
        refine x_P 25 rfl rfl rfl ?_
        refine x_gI rfl (fun x22 hx22 => ?_)
        refine x_callV rfl rfl rfl rfl rfl ⟨rfl, rfl⟩ (fun x h => c_197 h) (S_197 (d + 3) a0 x22 th1) (fun x23 hx23 => ?_)
        refine x_if_eq rfl rfl (fun h26 => ?_) (fun h26 => ?_)
        · exact x_lv (hj4 ()) ⟨rfl, trivial⟩
        · refine x_P 35 rfl rfl rfl ?_
          refine x_callV rfl rfl rfl rfl rfl ⟨rfl, rfl⟩ (fun x h => c_225 h) (S_225 (d + 2) a0 th1) (fun q24 hq24 => ?_)
          exact x_rBw rfl
    · exact x_lv (hj4 ()) ⟨rfl, trivial⟩
-- 232 NineTreesModel.statement()Z
noncomputable def m_232 (a0 : Nat) (th : tH) : Option (Int32 × tH) :=
  (gC th 8 a0).bind fun _ =>
  (m_226 a0 1006 th).bind fun x1 =>
  jn (fun (v2 : Unit) =>
      (m_226 a0 1007 th).bind fun x4 =>
      jn (fun (v5 : Unit) =>
          (m_226 a0 1008 th).bind fun x7 =>
          jn (fun (v8 : Unit) =>
              (m_226 a0 1009 th).bind fun x10 =>
              if x10 = 0 then
                (m_226 a0 1010 th).bind fun x11 =>
                jn (fun (v12 : Unit) =>
                    (m_225 a0 th).bind fun q14 =>
                    (rB q14.1).bind fun y15 => some (y15, q14.2)
                  ) (fun j13 =>
                    if x11 = 0 then
                      j13 ()
                    else
                      (m_218 a0 th).bind fun x16 =>
                      if x16 = 0 then
                        j13 ()
                      else
                        (gI th 8 a0 10).bind fun x17 =>
                        (pI th 8 a0 10 (x17 - (Int32.ofInt 1))).bind fun th18 =>
                        (m_224 a0 th18).bind fun th19 =>
                        (rB (Int32.ofInt 1)).bind fun y20 => some (y20, th19)
                  )
              else
                (m_231 a0 th).bind fun q23 =>
                (rB q23.1).bind fun y24 => some (y24, q23.2)
            ) (fun j9 =>
              if x7 = 0 then
                j9 ()
              else
                (gI th 8 a0 14).bind fun x26 =>
                if (Int8.ofInt 8).toInt32 ≤ x26 then
                  j9 ()
                else
                  (m_230 a0 th).bind fun q27 =>
                  (rB q27.1).bind fun y28 => some (y28, q27.2)
            )
        ) (fun j6 =>
          if x4 = 0 then
            j6 ()
          else
            (gI th 8 a0 10).bind fun x31 =>
            if (Int8.ofInt 12).toInt32 ≤ x31 then
              j6 ()
            else
              (m_228 a0 (Int32.ofInt 0) (Int32.ofInt 5) th).bind fun q32 =>
              jn (fun (v33 : tH) =>
                  (rB (Int32.ofInt 0)).bind fun y35 => some (y35, v33)
                ) (fun j34 =>
                  if q32.1 = 0 then
                    j34 q32.2
                  else
                    (m_229 a0 (Int32.ofInt 1) q32.2).bind fun q36 =>
                    if q36.1 = 0 then
                      j34 q36.2
                    else
                      (m_227 a0 (Int32.ofInt 2) (Int32.ofInt 0) (Int8.ofInt 9).toInt32 q36.2).bind fun q37 =>
                      if q37.1 = 0 then
                        j34 q37.2
                      else
                        (gN q37.2 8 a0 24).bind fun o38 =>
                        (aI q37.2 o38 (Int32.ofInt 0)).bind fun x39 =>
                        (gN q37.2 8 a0 24).bind fun o40 =>
                        (aI q37.2 o40 (Int32.ofInt 1)).bind fun x41 =>
                        (gN q37.2 8 a0 24).bind fun o42 =>
                        (aI q37.2 o42 (Int32.ofInt 2)).bind fun x43 =>
                        (m_212 a0 x39 x41 x43 q37.2).bind fun th44 =>
                        (rB (Int32.ofInt 1)).bind fun y45 => some (y45, th44)
                )
        )
    ) (fun j3 =>
      if x1 = 0 then
        j3 ()
      else
        (gI th 8 a0 10).bind fun x51 =>
        if x51 = 0 then
          (m_228 a0 (Int32.ofInt 3) (Int8.ofInt 8).toInt32 th).bind fun q52 =>
          jn (fun (v53 : Int32 × Nat) =>
              (pI q52.2 8 v53.2 9 v53.1).bind fun th55 =>
              (rB q52.1).bind fun y56 => some (y56, th55)
            ) (fun j54 =>
              if q52.1 = 0 then
                (gI q52.2 8 a0 9).bind fun x57 =>
                j54 (x57, a0)
              else
                (gN q52.2 8 a0 24).bind fun o58 =>
                (aI q52.2 o58 (Int32.ofInt 0)).bind fun x59 =>
                j54 (x59, a0)
            )
        else
          j3 ()
    )
theorem c_232 {a0 : Nat} {th : tH} {x : (Int32 × tH)} (h : m_232 a0 th = some x) : ∃ fs, th[a0]? = some (.inr (8, fs)) := gC_of h
theorem S_232 {L : Nat} (d : Nat) (a0 : Nat) (th : tH) : Wx L (fun x => (some (.int x.1), x.2)) (d + 5) 232 2 0 [(0, .ref a0)] [] th (m_232 a0 th) := by
  unfold m_232
  refine x_gC ?_
  refine x_P 1 rfl rfl rfl ?_
  refine x_ls rfl ⟨rfl, rfl⟩ ?_
  refine x_callV rfl rfl rfl rfl rfl ⟨rfl, rfl⟩ (fun x h => c_226 h) (S_226 d a0 1006 th) (fun x1 hx1 => ?_)
  refine x_jn 47 (fun v2 => [(0, .ref a0)]) (fun v2 => []) (fun v2 => th) (fun v2 => ?_) (fun j3 hj3 => ?_)
  · refine x_P 48 rfl rfl rfl ?_
    refine x_ls rfl ⟨rfl, rfl⟩ ?_
    refine x_callV rfl rfl rfl rfl rfl ⟨rfl, rfl⟩ (fun x h => c_226 h) (S_226 d a0 1007 th) (fun x4 hx4 => ?_)
    refine x_jn 119 (fun v5 => [(0, .ref a0)]) (fun v5 => []) (fun v5 => th) (fun v5 => ?_) (fun j6 hj6 => ?_)
    · refine x_P 120 rfl rfl rfl ?_
      refine x_ls rfl ⟨rfl, rfl⟩ ?_
      refine x_callV rfl rfl rfl rfl rfl ⟨rfl, rfl⟩ (fun x h => c_226 h) (S_226 d a0 1008 th) (fun x7 hx7 => ?_)
      refine x_jn 142 (fun v8 => [(0, .ref a0)]) (fun v8 => []) (fun v8 => th) (fun v8 => ?_) (fun j9 hj9 => ?_)
      · refine x_P 143 rfl rfl rfl ?_
        refine x_ls rfl ⟨rfl, rfl⟩ ?_
        refine x_callV rfl rfl rfl rfl rfl ⟨rfl, rfl⟩ (fun x h => c_226 h) (S_226 d a0 1009 th) (fun x10 hx10 => ?_)
        refine x_if_eq rfl rfl (fun h25 => ?_) (fun h25 => ?_)
        · refine x_P 157 rfl rfl rfl ?_
          refine x_ls rfl ⟨rfl, rfl⟩ ?_
          refine x_callV rfl rfl rfl rfl rfl ⟨rfl, rfl⟩ (fun x h => c_226 h) (S_226 d a0 1010 th) (fun x11 hx11 => ?_)
          refine x_jn 188 (fun v12 => [(0, .ref a0)]) (fun v12 => []) (fun v12 => th) (fun v12 => ?_) (fun j13 hj13 => ?_)
          · refine x_P 189 rfl rfl rfl ?_
            refine x_callV rfl rfl rfl rfl rfl ⟨rfl, rfl⟩ (fun x h => c_225 h) (S_225 (d + 3) a0 th) (fun q14 hq14 => ?_)
            exact x_rBw rfl
          · refine x_if_eq rfl rfl (fun h22 => ?_) (fun h22 => ?_)
            · exact x_lv (hj13 ()) ⟨rfl, trivial⟩
            · refine x_P 166 rfl rfl rfl ?_
              refine x_callV rfl rfl rfl rfl rfl ⟨rfl, rfl⟩ (fun x h => c_218 h) (S_218 (d + 2) a0 th) (fun x16 hx16 => ?_)
              refine x_if_eq rfl rfl (fun h21 => ?_) (fun h21 => ?_)
              · exact x_lv (hj13 ()) ⟨rfl, trivial⟩
              · refine x_P 173 rfl rfl rfl ?_
                refine x_P 174 rfl rfl rfl ?_
                refine x_gI rfl (fun x17 hx17 => ?_)
                refine x_P 178 rfl rfl rfl ?_
                refine x_P 179 rfl rfl rfl ?_
                refine x_pI rfl (fun th18 hth18 => ?_)
                refine x_P 183 rfl rfl rfl ?_
                refine x_callW rfl rfl rfl rfl rfl ⟨rfl, rfl⟩ (fun x h => c_224 h) (S_224 (d + 3) a0 th18) (fun th19 hth19 => ?_)
                refine x_P 187 rfl rfl rfl ?_
                exact x_rBw rfl
        · refine x_P 152 rfl rfl rfl ?_
          refine x_callV rfl rfl rfl rfl rfl ⟨rfl, rfl⟩ (fun x h => c_231 h) (S_231 d a0 th) (fun q23 hq23 => ?_)
          exact x_rBw rfl
      · refine x_if_eq rfl rfl (fun h30 => ?_) (fun h30 => ?_)
        · exact x_lv (hj9 ()) ⟨rfl, trivial⟩
        · refine x_P 129 rfl rfl rfl ?_
          refine x_gI rfl (fun x26 hx26 => ?_)
          refine x_P 134 rfl rfl rfl ?_
          refine x_ic_ge rfl rfl (fun h29 => ?_) (fun h29 => ?_)
          · exact x_lv (hj9 ()) ⟨rfl, trivial⟩
          · refine x_P 138 rfl rfl rfl ?_
            refine x_callV rfl rfl rfl rfl rfl ⟨rfl, rfl⟩ (fun x h => c_230 h) (S_230 (d + 2) a0 th) (fun q27 hq27 => ?_)
            exact x_rBw rfl
    · refine x_if_eq rfl rfl (fun h50 => ?_) (fun h50 => ?_)
      · exact x_lv (hj6 ()) ⟨rfl, trivial⟩
      · refine x_P 57 rfl rfl rfl ?_
        refine x_gI rfl (fun x31 hx31 => ?_)
        refine x_P 62 rfl rfl rfl ?_
        refine x_ic_ge rfl rfl (fun h49 => ?_) (fun h49 => ?_)
        · exact x_lv (hj6 ()) ⟨rfl, trivial⟩
        · refine x_P 66 rfl rfl rfl ?_
          refine x_P 67 rfl rfl rfl ?_
          refine x_P 68 rfl rfl rfl ?_
          refine x_callV rfl rfl rfl rfl rfl ⟨rfl, rfl⟩ (fun x h => c_228 h) (S_228 (d + 1) a0 (Int32.ofInt 0) (Int32.ofInt 5) th) (fun q32 hq32 => ?_)
          refine x_jn 93 (fun v33 => []) (fun v33 => []) (fun v33 => v33) (fun v33 => ?_) (fun j34 hj34 => ?_)
          · refine x_P 94 rfl rfl rfl ?_
            exact x_rBw rfl
          · refine x_if_eq rfl rfl (fun h48 => ?_) (fun h48 => ?_)
            · exact x_lv (hj34 q32.2) trivial
            · refine x_P 75 rfl rfl rfl ?_
              refine x_P 76 rfl rfl rfl ?_
              refine x_callV rfl rfl rfl rfl rfl ⟨rfl, rfl⟩ (fun x h => c_229 h) (S_229 (d + 1) a0 (Int32.ofInt 1) q32.2) (fun q36 hq36 => ?_)
              refine x_if_eq rfl rfl (fun h47 => ?_) (fun h47 => ?_)
              · exact x_lv (hj34 q36.2) trivial
              · refine x_P 83 rfl rfl rfl ?_
                refine x_P 84 rfl rfl rfl ?_
                refine x_P 85 rfl rfl rfl ?_
                refine x_P 87 rfl rfl rfl ?_
                refine x_callV rfl rfl rfl rfl rfl ⟨rfl, rfl⟩ (fun x h => c_227 h) (S_227 (d + 2) a0 (Int32.ofInt 2) (Int32.ofInt 0) (Int8.ofInt 9).toInt32 q36.2) (fun q37 hq37 => ?_)
                refine x_if_ne rfl rfl (fun h46 => ?_) (fun h46 => ?_)
                · exact x_lv (hj34 q37.2) trivial
                · refine x_P 96 rfl rfl rfl ?_
                  refine x_P 97 rfl rfl rfl ?_
                  refine x_gN rfl (fun o38 ho38 => ?_)
                  refine x_P 101 rfl rfl rfl ?_
                  refine x_aI rfl ⟨rfl, rfl⟩ (fun x39 hx39 => ?_)
                  refine x_P 103 rfl rfl rfl ?_
                  refine x_gN rfl (fun o40 ho40 => ?_)
                  refine x_P 107 rfl rfl rfl ?_
                  refine x_aI rfl ⟨rfl, rfl⟩ (fun x41 hx41 => ?_)
                  refine x_P 109 rfl rfl rfl ?_
                  refine x_gN rfl (fun o42 ho42 => ?_)
                  refine x_P 113 rfl rfl rfl ?_
                  refine x_aI rfl ⟨rfl, rfl⟩ (fun x43 hx43 => ?_)
                  refine x_callW rfl rfl rfl rfl rfl ⟨rfl, rfl⟩ (fun x h => c_212 h) (S_212 (d + 3) a0 x39 x41 x43 q37.2) (fun th44 hth44 => ?_)
                  refine x_P 118 rfl rfl rfl ?_
                  exact x_rBw rfl
  · refine x_if_eq rfl rfl (fun h62 => ?_) (fun h62 => ?_)
    · exact x_lv (hj3 ()) ⟨rfl, trivial⟩
    · refine x_P 10 rfl rfl rfl ?_
      refine x_gI rfl (fun x51 hx51 => ?_)
      refine x_if_ne rfl rfl (fun h61 => ?_) (fun h61 => ?_)
      · refine x_P 17 rfl rfl rfl ?_
        refine x_P 18 rfl rfl rfl ?_
        refine x_P 20 rfl rfl rfl ?_
        refine x_callV rfl rfl rfl rfl rfl ⟨rfl, rfl⟩ (fun x h => c_228 h) (S_228 (d + 1) a0 (Int32.ofInt 3) (Int8.ofInt 8).toInt32 th) (fun q52 hq52 => ?_)
        refine x_P (lv' := [(1, .int q52.1), (0, .ref a0)]) 24 rfl rfl rfl ?_
        refine x_P 25 rfl rfl rfl ?_
        refine x_P 26 rfl rfl rfl ?_
        refine x_jn 42 (fun v53 => [(1, .int q52.1)]) (fun v53 => [.int v53.1, .ref v53.2]) (fun v53 => q52.2) (fun v53 => ?_) (fun j54 hj54 => ?_)
        · refine x_pI rfl (fun th55 hth55 => ?_)
          refine x_P 46 rfl rfl rfl ?_
          exact x_rBw rfl
        · refine x_if_eq rfl rfl (fun h60 => ?_) (fun h60 => ?_)
          · refine x_P 39 rfl rfl rfl ?_
            refine x_gI rfl (fun x57 hx57 => ?_)
            exact x_lv (hj54 (x57, a0)) ⟨rfl, trivial⟩
          · refine x_P 30 rfl rfl rfl ?_
            refine x_gN rfl (fun o58 ho58 => ?_)
            refine x_P 34 rfl rfl rfl ?_
            refine x_aI rfl ⟨rfl, rfl⟩ (fun x59 hx59 => ?_)
            refine x_P 42 rfl rfl rfl ?_
            exact x_lv (hj54 (x59, a0)) ⟨rfl, trivial⟩
      · exact x_lv (hj3 ()) ⟨rfl, trivial⟩
-- 233 NineTreesModel.readAll()Z
noncomputable def m_233 (a0 : Nat) (th : tH) : Option (Int32 × tH) :=
  (gC th 8 a0).bind fun _ =>
  (pI th 8 a0 25 (Int32.ofInt 1)).bind fun th1 =>
  (pI th1 8 a0 19 (Int32.ofInt 0)).bind fun th2 =>
  (m_224 a0 th2).bind fun th3 =>
  (m_232 a0 th3).bind fun q4 =>
  if q4.1 = 0 then
    (rB (Int32.ofInt 0)).bind fun y22 => some (y22, q4.2)
  else
    lp (fun (s5 : tH) nx6 ex7 =>
        (gI s5 8 a0 20).bind fun x10 =>
        if x10 = 0 then
          ex7 s5
        else
          (gI s5 8 a0 20).bind fun x11 =>
          if x11 = (Int32.ofInt 3) then
            (m_224 a0 s5).bind fun th12 =>
            (m_232 a0 th12).bind fun q13 =>
            if q13.1 = 0 then
              (rB (Int32.ofInt 0)).bind fun y16 => some (y16, q13.2)
            else
              (gI q13.2 8 a0 25).bind fun x14 =>
              (pI q13.2 8 a0 25 (x14 + (Int32.ofInt 1))).bind fun th15 =>
              nx6 th15
          else
            (m_225 a0 s5).bind fun q18 =>
            (rB q18.1).bind fun y19 => some (y19, q18.2)
      ) 4096 q4.2 (fun (x8 : tH) =>
        (rB (Int32.ofInt 1)).bind fun y9 => some (y9, x8)
      )
theorem c_233 {a0 : Nat} {th : tH} {x : (Int32 × tH)} (h : m_233 a0 th = some x) : ∃ fs, th[a0]? = some (.inr (8, fs)) := gC_of h
theorem S_233 {L : Nat} (d : Nat) (a0 : Nat) (th : tH) : Wx L (fun x => (some (.int x.1), x.2)) (d + 6) 233 1 0 [(0, .ref a0)] [] th (m_233 a0 th) := by
  unfold m_233
  refine x_gC ?_
  refine x_P 1 rfl rfl rfl ?_
  refine x_P 2 rfl rfl rfl ?_
  refine x_pI rfl (fun th1 hth1 => ?_)
  refine x_P 6 rfl rfl rfl ?_
  refine x_P 7 rfl rfl rfl ?_
  refine x_pI rfl (fun th2 hth2 => ?_)
  refine x_P 11 rfl rfl rfl ?_
  refine x_callW rfl rfl rfl rfl rfl ⟨rfl, rfl⟩ (fun x h => c_224 h) (S_224 (d + 4) a0 th2) (fun th3 hth3 => ?_)
  refine x_P 15 rfl rfl rfl ?_
  refine x_callV rfl rfl rfl rfl rfl ⟨rfl, rfl⟩ (fun x h => c_232 h) (S_232 d a0 th3) (fun q4 hq4 => ?_)
  refine x_if_ne rfl rfl (fun h23 => ?_) (fun h23 => ?_)
  · refine x_P 22 rfl rfl rfl ?_
    exact x_rBw rfl
  · refine x_lv (lv := [(0, .ref a0)]) (x_lp 69 (fun s5 => [(0, .ref a0)]) (fun s5 => s5) (fun x8 => []) (fun x8 => x8) (fun s5 nx6 hnx6 ex7 hex7 => ?_) (fun x8 => ?_) 4096 q4.2) ⟨rfl, trivial⟩
    · refine x_P 24 rfl rfl rfl ?_
      refine x_gI rfl (fun x10 hx10 => ?_)
      refine x_if_eq rfl rfl (fun h21 => ?_) (fun h21 => ?_)
      · exact x_lv (hex7 s5) trivial
      · refine x_P 31 rfl rfl rfl ?_
        refine x_gI rfl (fun x11 hx11 => ?_)
        refine x_P 35 rfl rfl rfl ?_
        refine x_ic_eq rfl rfl (fun h20 => ?_) (fun h20 => ?_)
        · refine x_P 44 rfl rfl rfl ?_
          refine x_callW rfl rfl rfl rfl rfl ⟨rfl, rfl⟩ (fun x h => c_224 h) (S_224 (d + 4) a0 s5) (fun th12 hth12 => ?_)
          refine x_P 48 rfl rfl rfl ?_
          refine x_callV rfl rfl rfl rfl rfl ⟨rfl, rfl⟩ (fun x h => c_232 h) (S_232 d a0 th12) (fun q13 hq13 => ?_)
          refine x_if_ne rfl rfl (fun h17 => ?_) (fun h17 => ?_)
          · refine x_P 55 rfl rfl rfl ?_
            exact x_rBw rfl
          · refine x_P 57 rfl rfl rfl ?_
            refine x_P 58 rfl rfl rfl ?_
            refine x_gI rfl (fun x14 hx14 => ?_)
            refine x_P 62 rfl rfl rfl ?_
            refine x_P 63 rfl rfl rfl ?_
            refine x_pI rfl (fun th15 hth15 => ?_)
            refine x_P 23 rfl rfl rfl ?_
            exact x_lv (hnx6 th15) ⟨rfl, trivial⟩
        · refine x_P 39 rfl rfl rfl ?_
          refine x_callV rfl rfl rfl rfl rfl ⟨rfl, rfl⟩ (fun x h => c_225 h) (S_225 (d + 4) a0 s5) (fun q18 hq18 => ?_)
          exact x_rBw rfl
    · refine x_P 70 rfl rfl rfl ?_
      exact x_rBw rfl
-- 243 NineTreesModel.threesNow()I
noncomputable def m_243 (a0 : Nat) (th : tH) : Option (Int32 × tH) :=
  (gC th 8 a0).bind fun _ =>
  (m_240 a0 th).bind fun th1 =>
  lp (fun (s2 : Int32 × Int32) nx3 ex4 =>
      (gI th1 8 a0 27).bind fun x6 =>
      if x6 ≤ s2.2 then
        ex4 s2.1
      else
        (gN th1 8 a0 26).bind fun o7 =>
        (aI th1 o7 s2.2).bind fun x8 =>
        (m_196 x8 th1).bind fun x9 =>
        jn (fun (v10 : Int32 × Int32) =>
            nx3 ((v10.2 + v10.1), (s2.2 + Int32.ofInt 1))
          ) (fun j11 =>
            if x9 < (Int32.ofInt 3) then
              j11 ((Int32.ofInt 0), s2.1)
            else
              j11 ((Int32.ofInt 1), s2.1)
          )
    ) 4096 ((Int32.ofInt 0), (Int32.ofInt 0)) (fun (x5 : Int32) =>
      some (x5, th1)
    )
theorem c_243 {a0 : Nat} {th : tH} {x : (Int32 × tH)} (h : m_243 a0 th = some x) : ∃ fs, th[a0]? = some (.inr (8, fs)) := gC_of h
theorem S_243 {L : Nat} (d : Nat) (a0 : Nat) (th : tH) : Wx L (fun x => (some (.int x.1), x.2)) (d + 4) 243 3 0 [(0, .ref a0)] [] th (m_243 a0 th) := by
  unfold m_243
  refine x_gC ?_
  refine x_P 1 rfl rfl rfl ?_
  refine x_callW rfl rfl rfl rfl rfl ⟨rfl, rfl⟩ (fun x h => c_240 h) (S_240 d a0 th) (fun th1 hth1 => ?_)
  refine x_P 5 rfl rfl rfl ?_
  refine x_P (lv' := [(1, .int (Int32.ofInt 0)), (0, .ref a0)]) 6 rfl rfl rfl ?_
  refine x_P 7 rfl rfl rfl ?_
  refine x_P (lv' := [(2, .int (Int32.ofInt 0)), (1, .int (Int32.ofInt 0)), (0, .ref a0)]) 8 rfl rfl rfl ?_
  refine x_lv (lv := [(0, .ref a0), (1, .int (Int32.ofInt 0)), (2, .int (Int32.ofInt 0))]) (x_lp 43 (fun s2 => [(0, .ref a0), (1, .int s2.1), (2, .int s2.2)]) (fun s2 => th1) (fun x5 => [(1, .int x5)]) (fun x5 => th1) (fun s2 nx3 hnx3 ex4 hex4 => ?_) (fun x5 => ?_) 4096 ((Int32.ofInt 0), (Int32.ofInt 0))) ⟨rfl, rfl, rfl, trivial⟩
  · refine x_P 9 rfl rfl rfl ?_
    refine x_P 10 rfl rfl rfl ?_
    refine x_gI rfl (fun x6 hx6 => ?_)
    refine x_ic_ge rfl rfl (fun h13 => ?_) (fun h13 => ?_)
    · exact x_lv (hex4 s2.1) ⟨rfl, trivial⟩
    · refine x_P 17 rfl rfl rfl ?_
      refine x_P 18 rfl rfl rfl ?_
      refine x_gN rfl (fun o7 ho7 => ?_)
      refine x_P 22 rfl rfl rfl ?_
      refine x_aI rfl ⟨rfl, rfl⟩ (fun x8 hx8 => ?_)
      refine x_callS rfl rfl rfl rfl rfl rfl ⟨rfl, rfl⟩ (S_196 (d + 3) x8 th1) (fun x9 hx9 => ?_)
      refine x_P 27 rfl rfl rfl ?_
      refine x_jn 35 (fun v10 => [(0, .ref a0), (2, .int s2.2)]) (fun v10 => [.int v10.1, .int v10.2]) (fun v10 => th1) (fun v10 => ?_) (fun j11 hj11 => ?_)
      · refine x_P 36 rfl rfl rfl ?_
        refine x_P (lv' := [(1, .int (v10.2 + v10.1)), (0, .ref a0), (2, .int s2.2)]) 37 rfl rfl rfl ?_
        refine x_P (lv' := [(2, .int (s2.2 + Int32.ofInt 1)), (1, .int (v10.2 + v10.1)), (0, .ref a0)]) 40 rfl rfl rfl ?_
        refine x_P 8 rfl rfl rfl ?_
        exact x_lv (hnx3 ((v10.2 + v10.1), (s2.2 + Int32.ofInt 1))) ⟨rfl, rfl, rfl, trivial⟩
      · refine x_ic_lt rfl rfl (fun h12 => ?_) (fun h12 => ?_)
        · refine x_P 35 rfl rfl rfl ?_
          exact x_lv (hj11 ((Int32.ofInt 0), s2.1)) ⟨rfl, rfl, trivial⟩
        · refine x_P 31 rfl rfl rfl ?_
          refine x_P 35 rfl rfl rfl ?_
          exact x_lv (hj11 ((Int32.ofInt 1), s2.1)) ⟨rfl, rfl, trivial⟩
  · refine x_P 44 rfl rfl rfl ?_
    exact x_retI (x := (x5, th1)) rfl
-- 244 NineTreesModel.treeOf(II)I
noncomputable def m_244 (a0 : Nat) (a1 : Int32) (a2 : Int32) (th : tH) : Option (Int32 × tH) :=
  (gC th 8 a0).bind fun _ =>
  (m_191 a0 a1 th).bind fun x1 =>
  if x1 = 0 then
    (m_189 a0 (Int8.ofInt (-2)).toInt32 th).bind fun q17 =>
    some (q17.1, q17.2)
  else
    if a2 < 0 ∨ 4 < a2 then
      (m_189 a0 (Int8.ofInt (-2)).toInt32 th).bind fun q3 =>
      some (q3.1, q3.2)
    else if a2 = 0 then
      (gN th 8 a0 11).bind fun o5 =>
      (aI th o5 a1).bind fun x6 =>
      some (x6, th)
    else if a2 = 1 then
      (gN th 8 a0 12).bind fun o8 =>
      (aI th o8 a1).bind fun x9 =>
      some (x9, th)
    else if a2 = 2 then
      (gN th 8 a0 13).bind fun o11 =>
      (aI th o11 a1).bind fun x12 =>
      some (x12, th)
    else if a2 = 3 then
      (m_242 a0 a1 (Int32.ofInt 2) th).bind fun q14 =>
      some (q14.1, q14.2)
    else if a2 = 4 then
      (m_242 a0 a1 (Int32.ofInt 3) th).bind fun q16 =>
      some (q16.1, q16.2)
    else
      none
theorem c_244 {a0 : Nat} {a1 : Int32} {a2 : Int32} {th : tH} {x : (Int32 × tH)} (h : m_244 a0 a1 a2 th = some x) : ∃ fs, th[a0]? = some (.inr (8, fs)) := gC_of h
theorem S_244 {L : Nat} (d : Nat) (a0 : Nat) (a1 : Int32) (a2 : Int32) (th : tH) : Wx L (fun x => (some (.int x.1), x.2)) (d + 5) 244 3 0 [(0, .ref a0), (1, .int a1), (2, .int a2)] [] th (m_244 a0 a1 a2 th) := by
  unfold m_244
  refine x_gC ?_
  refine x_P 1 rfl rfl rfl ?_
  refine x_P 2 rfl rfl rfl ?_
  refine x_callV rfl rfl rfl rfl rfl ⟨rfl, rfl⟩ (fun x h => c_191 h) (S_191 (d + 3) a0 a1 th) (fun x1 hx1 => ?_)
  refine x_if_ne rfl rfl (fun h18 => ?_) (fun h18 => ?_)
  · refine x_P 9 rfl rfl rfl ?_
    refine x_P 11 rfl rfl rfl ?_
    refine x_callV rfl rfl rfl rfl rfl ⟨rfl, rfl⟩ (fun x h => c_189 h) (S_189 (d + 3) a0 (Int8.ofInt (-2)).toInt32 th) (fun q17 hq17 => ?_)
    exact x_retI (x := (q17.1, q17.2)) rfl
  · refine x_P 16 rfl rfl rfl ?_
    refine x_ite (fun h2 => ?_) (fun h2 => ?_)
    · refine x_P 87 rfl rfl (x_td h2 (by decide +kernel)) ?_
      refine x_P 88 rfl rfl rfl ?_
      refine x_P 90 rfl rfl rfl ?_
      refine x_callV rfl rfl rfl rfl rfl ⟨rfl, rfl⟩ (fun x h => c_189 h) (S_189 (d + 3) a0 (Int8.ofInt (-2)).toInt32 th) (fun q3 hq3 => ?_)
      exact x_retI (x := (q3.1, q3.2)) rfl
    · skip
      refine x_ite (fun h4 => ?_) (fun h4 => ?_)
      · refine x_P 52 rfl rfl (x_ts h4 (by decide +kernel)) ?_
        refine x_P 53 rfl rfl rfl ?_
        refine x_gN rfl (fun o5 ho5 => ?_)
        refine x_P 57 rfl rfl rfl ?_
        refine x_aI rfl ⟨rfl, rfl⟩ (fun x6 hx6 => ?_)
        exact x_retI (x := (x6, th)) rfl
      · skip
        refine x_ite (fun h7 => ?_) (fun h7 => ?_)
        · refine x_P 59 rfl rfl (x_ts h7 (by decide +kernel)) ?_
          refine x_P 60 rfl rfl rfl ?_
          refine x_gN rfl (fun o8 ho8 => ?_)
          refine x_P 64 rfl rfl rfl ?_
          refine x_aI rfl ⟨rfl, rfl⟩ (fun x9 hx9 => ?_)
          exact x_retI (x := (x9, th)) rfl
        · skip
          refine x_ite (fun h10 => ?_) (fun h10 => ?_)
          · refine x_P 66 rfl rfl (x_ts h10 (by decide +kernel)) ?_
            refine x_P 67 rfl rfl rfl ?_
            refine x_gN rfl (fun o11 ho11 => ?_)
            refine x_P 71 rfl rfl rfl ?_
            refine x_aI rfl ⟨rfl, rfl⟩ (fun x12 hx12 => ?_)
            exact x_retI (x := (x12, th)) rfl
          · skip
            refine x_ite (fun h13 => ?_) (fun h13 => ?_)
            · refine x_P 73 rfl rfl (x_ts h13 (by decide +kernel)) ?_
              refine x_P 74 rfl rfl rfl ?_
              refine x_P 75 rfl rfl rfl ?_
              refine x_P 76 rfl rfl rfl ?_
              refine x_callV rfl rfl rfl rfl rfl ⟨rfl, rfl⟩ (fun x h => c_242 h) (S_242 d a0 a1 (Int32.ofInt 2) th) (fun q14 hq14 => ?_)
              exact x_retI (x := (q14.1, q14.2)) rfl
            · skip
              refine x_ite (fun h15 => ?_) (fun h15 => ?_)
              · refine x_P 80 rfl rfl (x_ts h15 (by decide +kernel)) ?_
                refine x_P 81 rfl rfl rfl ?_
                refine x_P 82 rfl rfl rfl ?_
                refine x_P 83 rfl rfl rfl ?_
                refine x_callV rfl rfl rfl rfl rfl ⟨rfl, rfl⟩ (fun x h => c_242 h) (S_242 d a0 a1 (Int32.ofInt 3) th) (fun q16 hq16 => ?_)
                exact x_retI (x := (q16.1, q16.2)) rfl
              · skip
                exact x_none
-- 245 NineTreesModel.treeAt(I)I
noncomputable def m_245 (a0 : Nat) (a1 : Int32) (th : tH) : Option (Int32 × tH) :=
  (gC th 8 a0).bind fun _ =>
  (m_193 a0 a1 th).bind fun x1 =>
  jn (fun (v2 : Int32 × tH) =>
      some (v2.1, v2.2)
    ) (fun j3 =>
      if x1 = 0 then
        (m_189 a0 (Int8.ofInt (-2)).toInt32 th).bind fun q4 =>
        j3 (q4.1, q4.2)
      else
        (m_194 a0 a1 th).bind fun x5 =>
        j3 (x5, th)
    )
theorem c_245 {a0 : Nat} {a1 : Int32} {th : tH} {x : (Int32 × tH)} (h : m_245 a0 a1 th = some x) : ∃ fs, th[a0]? = some (.inr (8, fs)) := gC_of h
theorem S_245 {L : Nat} (d : Nat) (a0 : Nat) (a1 : Int32) (th : tH) : Wx L (fun x => (some (.int x.1), x.2)) (d + 2) 245 2 0 [(0, .ref a0), (1, .int a1)] [] th (m_245 a0 a1 th) := by
  unfold m_245
  refine x_gC ?_
  refine x_P 1 rfl rfl rfl ?_
  refine x_P 2 rfl rfl rfl ?_
  refine x_callV rfl rfl rfl rfl rfl ⟨rfl, rfl⟩ (fun x h => c_193 h) (S_193 d a0 a1 th) (fun x1 hx1 => ?_)
  refine x_jn 22 (fun v2 => []) (fun v2 => [.int v2.1]) (fun v2 => v2.2) (fun v2 => ?_) (fun j3 hj3 => ?_)
  · exact x_retI (x := (v2.1, v2.2)) rfl
  · refine x_if_eq rfl rfl (fun h6 => ?_) (fun h6 => ?_)
    · refine x_P 17 rfl rfl rfl ?_
      refine x_P 19 rfl rfl rfl ?_
      refine x_callV rfl rfl rfl rfl rfl ⟨rfl, rfl⟩ (fun x h => c_189 h) (S_189 d a0 (Int8.ofInt (-2)).toInt32 th) (fun q4 hq4 => ?_)
      exact x_lv (hj3 (q4.1, q4.2)) trivial
    · refine x_P 9 rfl rfl rfl ?_
      refine x_P 10 rfl rfl rfl ?_
      refine x_callV rfl rfl rfl rfl rfl ⟨rfl, rfl⟩ (fun x h => c_194 h) (S_194 (d + 1) a0 a1 th) (fun x5 hx5 => ?_)
      refine x_P 22 rfl rfl rfl ?_
      exact x_lv (hj3 (x5, th)) trivial
-- 246 NineTreesModel.many(I)I
noncomputable def m_246 (a0 : Nat) (a1 : Int32) (th : tH) : Option (Int32 × tH) :=
  (gC th 8 a0).bind fun _ =>
  (m_190 (Int32.toInt64 a1) (Int64.ofNat 2) (Int64.ofNat 12) th).bind fun x1 =>
  if x1 = 0 then
    (m_189 a0 (Int8.ofInt (-2)).toInt32 th).bind fun q15 =>
    some (q15.1, q15.2)
  else
    (m_240 a0 th).bind fun th2 =>
    lp (fun (s3 : Int32 × Int32) nx4 ex5 =>
        (gI th2 8 a0 27).bind fun x7 =>
        if x7 ≤ s3.2 then
          ex5 s3.1
        else
          (gN th2 8 a0 26).bind fun o8 =>
          (aI th2 o8 s3.2).bind fun x9 =>
          (m_196 x9 th2).bind fun x10 =>
          jn (fun (v11 : Int32 × Int32) =>
              nx4 ((v11.2 + v11.1), (s3.2 + Int32.ofInt 1))
            ) (fun j12 =>
              if x10 = a1 then
                j12 ((Int32.ofInt 1), s3.1)
              else
                j12 ((Int32.ofInt 0), s3.1)
            )
      ) 4096 ((Int32.ofInt 0), (Int32.ofInt 0)) (fun (x6 : Int32) =>
        some (x6, th2)
      )
theorem c_246 {a0 : Nat} {a1 : Int32} {th : tH} {x : (Int32 × tH)} (h : m_246 a0 a1 th = some x) : ∃ fs, th[a0]? = some (.inr (8, fs)) := gC_of h
theorem S_246 {L : Nat} (d : Nat) (a0 : Nat) (a1 : Int32) (th : tH) : Wx L (fun x => (some (.int x.1), x.2)) (d + 4) 246 4 0 [(0, .ref a0), (1, .int a1)] [] th (m_246 a0 a1 th) := by
  unfold m_246
  refine x_gC ?_
  refine x_P 1 rfl rfl rfl ?_
  refine x_P 2 rfl rfl rfl ?_
  refine x_P 5 rfl rfl rfl ?_
  refine x_P 8 rfl rfl rfl ?_
  refine x_callS rfl rfl rfl rfl rfl rfl ⟨rfl, rfl⟩ (S_190 (d + 3) (Int32.toInt64 a1) (Int64.ofNat 2) (Int64.ofNat 12) th) (fun x1 hx1 => ?_)
  refine x_if_ne rfl rfl (fun h16 => ?_) (fun h16 => ?_)
  · refine x_P 15 rfl rfl rfl ?_
    refine x_P 17 rfl rfl rfl ?_
    refine x_callV rfl rfl rfl rfl rfl ⟨rfl, rfl⟩ (fun x h => c_189 h) (S_189 (d + 2) a0 (Int8.ofInt (-2)).toInt32 th) (fun q15 hq15 => ?_)
    exact x_retI (x := (q15.1, q15.2)) rfl
  · refine x_P 22 rfl rfl rfl ?_
    refine x_callW rfl rfl rfl rfl rfl ⟨rfl, rfl⟩ (fun x h => c_240 h) (S_240 d a0 th) (fun th2 hth2 => ?_)
    refine x_P 26 rfl rfl rfl ?_
    refine x_P (lv' := [(2, .int (Int32.ofInt 0)), (0, .ref a0), (1, .int a1)]) 27 rfl rfl rfl ?_
    refine x_P 28 rfl rfl rfl ?_
    refine x_P (lv' := [(3, .int (Int32.ofInt 0)), (2, .int (Int32.ofInt 0)), (0, .ref a0), (1, .int a1)]) 29 rfl rfl rfl ?_
    refine x_lv (lv := [(0, .ref a0), (1, .int a1), (2, .int (Int32.ofInt 0)), (3, .int (Int32.ofInt 0))]) (x_lp 64 (fun s3 => [(0, .ref a0), (1, .int a1), (2, .int s3.1), (3, .int s3.2)]) (fun s3 => th2) (fun x6 => [(2, .int x6)]) (fun x6 => th2) (fun s3 nx4 hnx4 ex5 hex5 => ?_) (fun x6 => ?_) 4096 ((Int32.ofInt 0), (Int32.ofInt 0))) ⟨rfl, rfl, rfl, rfl, trivial⟩
    · refine x_P 30 rfl rfl rfl ?_
      refine x_P 31 rfl rfl rfl ?_
      refine x_gI rfl (fun x7 hx7 => ?_)
      refine x_ic_ge rfl rfl (fun h14 => ?_) (fun h14 => ?_)
      · exact x_lv (hex5 s3.1) ⟨rfl, trivial⟩
      · refine x_P 38 rfl rfl rfl ?_
        refine x_P 39 rfl rfl rfl ?_
        refine x_gN rfl (fun o8 ho8 => ?_)
        refine x_P 43 rfl rfl rfl ?_
        refine x_aI rfl ⟨rfl, rfl⟩ (fun x9 hx9 => ?_)
        refine x_callS rfl rfl rfl rfl rfl rfl ⟨rfl, rfl⟩ (S_196 (d + 3) x9 th2) (fun x10 hx10 => ?_)
        refine x_P 48 rfl rfl rfl ?_
        refine x_jn 56 (fun v11 => [(0, .ref a0), (1, .int a1), (3, .int s3.2)]) (fun v11 => [.int v11.1, .int v11.2]) (fun v11 => th2) (fun v11 => ?_) (fun j12 hj12 => ?_)
        · refine x_P 57 rfl rfl rfl ?_
          refine x_P (lv' := [(2, .int (v11.2 + v11.1)), (0, .ref a0), (1, .int a1), (3, .int s3.2)]) 58 rfl rfl rfl ?_
          refine x_P (lv' := [(3, .int (s3.2 + Int32.ofInt 1)), (2, .int (v11.2 + v11.1)), (0, .ref a0), (1, .int a1)]) 61 rfl rfl rfl ?_
          refine x_P 29 rfl rfl rfl ?_
          exact x_lv (hnx4 ((v11.2 + v11.1), (s3.2 + Int32.ofInt 1))) ⟨rfl, rfl, rfl, rfl, trivial⟩
        · refine x_ic_ne rfl rfl (fun h13 => ?_) (fun h13 => ?_)
          · refine x_P 52 rfl rfl rfl ?_
            refine x_P 56 rfl rfl rfl ?_
            exact x_lv (hj12 ((Int32.ofInt 1), s3.1)) ⟨rfl, rfl, rfl, trivial⟩
          · refine x_P 56 rfl rfl rfl ?_
            exact x_lv (hj12 ((Int32.ofInt 0), s3.1)) ⟨rfl, rfl, rfl, trivial⟩
    · refine x_P 65 rfl rfl rfl ?_
      exact x_retI (x := (x6, th2)) rfl
-- 247 NineTreesModel.threes()I
noncomputable def m_247 (a0 : Nat) (th : tH) : Option (Int32 × tH) :=
  (gC th 8 a0).bind fun _ =>
  (m_243 a0 th).bind fun q1 =>
  some (q1.1, q1.2)
theorem c_247 {a0 : Nat} {th : tH} {x : (Int32 × tH)} (h : m_247 a0 th = some x) : ∃ fs, th[a0]? = some (.inr (8, fs)) := gC_of h
theorem S_247 {L : Nat} (d : Nat) (a0 : Nat) (th : tH) : Wx L (fun x => (some (.int x.1), x.2)) (d + 5) 247 1 0 [(0, .ref a0)] [] th (m_247 a0 th) := by
  unfold m_247
  refine x_gC ?_
  refine x_P 1 rfl rfl rfl ?_
  refine x_callV rfl rfl rfl rfl rfl ⟨rfl, rfl⟩ (fun x h => c_243 h) (S_243 d a0 th) (fun q1 hq1 => ?_)
  exact x_retI (x := (q1.1, q1.2)) rfl
-- 248 NineTreesModel.rowAt(II)I
noncomputable def m_248 (a0 : Nat) (a1 : Int32) (a2 : Int32) (th : tH) : Option (Int32 × tH) :=
  (gC th 8 a0).bind fun _ =>
  (m_190 (Int32.toInt64 a1) (Int64.ofNat 2) (Int64.ofNat 12) th).bind fun x1 =>
  jn (fun (v2 : Unit) =>
      (m_189 a0 (Int8.ofInt (-2)).toInt32 th).bind fun q4 =>
      some (q4.1, q4.2)
    ) (fun j3 =>
      if x1 = 0 then
        j3 ()
      else
        if 0 ≤ a2 then
          (m_240 a0 th).bind fun th5 =>
          lp (fun (s6 : Int32 × Int32) nx7 ex8 =>
              (gI th5 8 a0 27).bind fun x11 =>
              if x11 ≤ s6.2 then
                ex8 ()
              else
                (gN th5 8 a0 26).bind fun o12 =>
                (aI th5 o12 s6.2).bind fun x13 =>
                (m_196 x13 th5).bind fun x14 =>
                jn (fun (v15 : Int32) =>
                    nx7 (v15, (s6.2 + Int32.ofInt 1))
                  ) (fun j16 =>
                    if x14 = a1 then
                      if s6.1 = 0 then
                        (gN th5 8 a0 26).bind fun o17 =>
                        (aI th5 o17 s6.2).bind fun x18 =>
                        some (x18, th5)
                      else
                        j16 (s6.1 + Int32.ofInt (-1))
                    else
                      j16 s6.1
                  )
            ) 4096 (a2, (Int32.ofInt 0)) (fun (x9 : Unit) =>
              (m_189 a0 (Int8.ofInt (-5)).toInt32 th5).bind fun q10 =>
              some (q10.1, q10.2)
            )
        else
          j3 ()
    )
theorem c_248 {a0 : Nat} {a1 : Int32} {a2 : Int32} {th : tH} {x : (Int32 × tH)} (h : m_248 a0 a1 a2 th = some x) : ∃ fs, th[a0]? = some (.inr (8, fs)) := gC_of h
theorem S_248 {L : Nat} (d : Nat) (a0 : Nat) (a1 : Int32) (a2 : Int32) (th : tH) : Wx L (fun x => (some (.int x.1), x.2)) (d + 4) 248 5 0 [(0, .ref a0), (1, .int a1), (2, .int a2)] [] th (m_248 a0 a1 a2 th) := by
  unfold m_248
  refine x_gC ?_
  refine x_P 1 rfl rfl rfl ?_
  refine x_P 2 rfl rfl rfl ?_
  refine x_P 5 rfl rfl rfl ?_
  refine x_P 8 rfl rfl rfl ?_
  refine x_callS rfl rfl rfl rfl rfl rfl ⟨rfl, rfl⟩ (S_190 (d + 3) (Int32.toInt64 a1) (Int64.ofNat 2) (Int64.ofNat 12) th) (fun x1 hx1 => ?_)
  refine x_jn 18 (fun v2 => [(0, .ref a0)]) (fun v2 => []) (fun v2 => th) (fun v2 => ?_) (fun j3 hj3 => ?_)
  · refine x_P 19 rfl rfl rfl ?_
    refine x_P 21 rfl rfl rfl ?_
    refine x_callV rfl rfl rfl rfl rfl ⟨rfl, rfl⟩ (fun x h => c_189 h) (S_189 (d + 2) a0 (Int8.ofInt (-2)).toInt32 th) (fun q4 hq4 => ?_)
    exact x_retI (x := (q4.1, q4.2)) rfl
  · refine x_if_eq rfl rfl (fun h23 => ?_) (fun h23 => ?_)
    · exact x_lv (hj3 ()) ⟨rfl, trivial⟩
    · refine x_P 15 rfl rfl rfl ?_
      refine x_if_ge rfl rfl (fun h22 => ?_) (fun h22 => ?_)
      · refine x_P 26 rfl rfl rfl ?_
        refine x_callW rfl rfl rfl rfl rfl ⟨rfl, rfl⟩ (fun x h => c_240 h) (S_240 d a0 th) (fun th5 hth5 => ?_)
        refine x_P 30 rfl rfl rfl ?_
        refine x_P (lv' := [(3, .int a2), (0, .ref a0), (1, .int a1), (2, .int a2)]) 31 rfl rfl rfl ?_
        refine x_P 32 rfl rfl rfl ?_
        refine x_P (lv' := [(4, .int (Int32.ofInt 0)), (3, .int a2), (0, .ref a0), (1, .int a1), (2, .int a2)]) 34 rfl rfl rfl ?_
        refine x_lv (lv := [(0, .ref a0), (1, .int a1), (3, .int a2), (4, .int (Int32.ofInt 0))]) (x_lp 78 (fun s6 => [(0, .ref a0), (1, .int a1), (3, .int s6.1), (4, .int s6.2)]) (fun s6 => th5) (fun x9 => [(0, .ref a0)]) (fun x9 => th5) (fun s6 nx7 hnx7 ex8 hex8 => ?_) (fun x9 => ?_) 4096 (a2, (Int32.ofInt 0))) ⟨rfl, rfl, rfl, rfl, trivial⟩
        · refine x_P 36 rfl rfl rfl ?_
          refine x_P 37 rfl rfl rfl ?_
          refine x_gI rfl (fun x11 hx11 => ?_)
          refine x_ic_ge rfl rfl (fun h21 => ?_) (fun h21 => ?_)
          · exact x_lv (hex8 ()) ⟨rfl, trivial⟩
          · refine x_P 44 rfl rfl rfl ?_
            refine x_gN rfl (fun o12 ho12 => ?_)
            refine x_P 49 rfl rfl rfl ?_
            refine x_aI rfl ⟨rfl, rfl⟩ (fun x13 hx13 => ?_)
            refine x_callS rfl rfl rfl rfl rfl rfl ⟨rfl, rfl⟩ (S_196 (d + 3) x13 th5) (fun x14 hx14 => ?_)
            refine x_P 54 rfl rfl rfl ?_
            refine x_jn 72 (fun v15 => [(0, .ref a0), (1, .int a1), (3, .int v15), (4, .int s6.2)]) (fun v15 => []) (fun v15 => th5) (fun v15 => ?_) (fun j16 hj16 => ?_)
            · refine x_P (lv' := [(4, .int (s6.2 + Int32.ofInt 1)), (0, .ref a0), (1, .int a1), (3, .int v15)]) 75 rfl rfl rfl ?_
              refine x_P 34 rfl rfl rfl ?_
              exact x_lv (hnx7 (v15, (s6.2 + Int32.ofInt 1))) ⟨rfl, rfl, rfl, rfl, trivial⟩
            · refine x_ic_ne rfl rfl (fun h20 => ?_) (fun h20 => ?_)
              · refine x_P 58 rfl rfl rfl ?_
                refine x_P (lv' := [(3, .int (s6.1 + Int32.ofInt (-1))), (0, .ref a0), (1, .int a1), (4, .int s6.2)]) 61 rfl rfl rfl ?_
                refine x_if_ne rfl rfl (fun h19 => ?_) (fun h19 => ?_)
                · refine x_P 65 rfl rfl rfl ?_
                  refine x_gN rfl (fun o17 ho17 => ?_)
                  refine x_P 70 rfl rfl rfl ?_
                  refine x_aI rfl ⟨rfl, rfl⟩ (fun x18 hx18 => ?_)
                  exact x_retI (x := (x18, th5)) rfl
                · exact x_lv (hj16 (s6.1 + Int32.ofInt (-1))) ⟨rfl, rfl, rfl, rfl, trivial⟩
              · exact x_lv (hj16 s6.1) ⟨rfl, rfl, rfl, rfl, trivial⟩
        · refine x_P 79 rfl rfl rfl ?_
          refine x_P 81 rfl rfl rfl ?_
          refine x_callV rfl rfl rfl rfl rfl ⟨rfl, rfl⟩ (fun x h => c_189 h) (S_189 (d + 2) a0 (Int8.ofInt (-5)).toInt32 th5) (fun q10 hq10 => ?_)
          exact x_retI (x := (q10.1, q10.2)) rfl
      · exact x_lv (hj3 ()) ⟨rfl, trivial⟩
-- 249 NineTreesModel.longest()I
noncomputable def m_249 (a0 : Nat) (th : tH) : Option (Int32 × tH) :=
  (gC th 8 a0).bind fun _ =>
  (m_240 a0 th).bind fun th1 =>
  (gI th1 8 a0 27).bind fun x2 =>
  if x2 = 0 then
    (m_189 a0 (Int8.ofInt (-5)).toInt32 th1).bind fun q20 =>
    some (q20.1, q20.2)
  else
    lp (fun (s3 : Int32 × Int32) nx4 ex5 =>
        (gI th1 8 a0 27).bind fun x9 =>
        if x9 ≤ s3.2 then
          ex5 s3.1
        else
          (gN th1 8 a0 26).bind fun o10 =>
          (aI th1 o10 s3.2).bind fun x11 =>
          (m_196 x11 th1).bind fun x12 =>
          (gN th1 8 a0 26).bind fun o13 =>
          (aI th1 o13 s3.1).bind fun x14 =>
          (m_196 x14 th1).bind fun x15 =>
          jn (fun (v16 : Int32) =>
              nx4 (v16, (s3.2 + Int32.ofInt 1))
            ) (fun j17 =>
              if x12 ≤ x15 then
                j17 s3.1
              else
                j17 s3.2
            )
      ) 4096 ((Int32.ofInt 0), (Int32.ofInt 1)) (fun (x6 : Int32) =>
        (gN th1 8 a0 26).bind fun o7 =>
        (aI th1 o7 x6).bind fun x8 =>
        some (x8, th1)
      )
theorem c_249 {a0 : Nat} {th : tH} {x : (Int32 × tH)} (h : m_249 a0 th = some x) : ∃ fs, th[a0]? = some (.inr (8, fs)) := gC_of h
theorem S_249 {L : Nat} (d : Nat) (a0 : Nat) (th : tH) : Wx L (fun x => (some (.int x.1), x.2)) (d + 4) 249 3 0 [(0, .ref a0)] [] th (m_249 a0 th) := by
  unfold m_249
  refine x_gC ?_
  refine x_P 1 rfl rfl rfl ?_
  refine x_callW rfl rfl rfl rfl rfl ⟨rfl, rfl⟩ (fun x h => c_240 h) (S_240 d a0 th) (fun th1 hth1 => ?_)
  refine x_P 5 rfl rfl rfl ?_
  refine x_gI rfl (fun x2 hx2 => ?_)
  refine x_if_ne rfl rfl (fun h21 => ?_) (fun h21 => ?_)
  · refine x_P 12 rfl rfl rfl ?_
    refine x_P 14 rfl rfl rfl ?_
    refine x_callV rfl rfl rfl rfl rfl ⟨rfl, rfl⟩ (fun x h => c_189 h) (S_189 (d + 2) a0 (Int8.ofInt (-5)).toInt32 th1) (fun q20 hq20 => ?_)
    exact x_retI (x := (q20.1, q20.2)) rfl
  · refine x_P 19 rfl rfl rfl ?_
    refine x_P (lv' := [(1, .int (Int32.ofInt 0)), (0, .ref a0)]) 20 rfl rfl rfl ?_
    refine x_P 21 rfl rfl rfl ?_
    refine x_P (lv' := [(2, .int (Int32.ofInt 1)), (1, .int (Int32.ofInt 0)), (0, .ref a0)]) 22 rfl rfl rfl ?_
    refine x_lv (lv := [(0, .ref a0), (1, .int (Int32.ofInt 0)), (2, .int (Int32.ofInt 1))]) (x_lp 63 (fun s3 => [(0, .ref a0), (1, .int s3.1), (2, .int s3.2)]) (fun s3 => th1) (fun x6 => [(0, .ref a0), (1, .int x6)]) (fun x6 => th1) (fun s3 nx4 hnx4 ex5 hex5 => ?_) (fun x6 => ?_) 4096 ((Int32.ofInt 0), (Int32.ofInt 1))) ⟨rfl, rfl, rfl, trivial⟩
    · refine x_P 23 rfl rfl rfl ?_
      refine x_P 24 rfl rfl rfl ?_
      refine x_gI rfl (fun x9 hx9 => ?_)
      refine x_ic_ge rfl rfl (fun h19 => ?_) (fun h19 => ?_)
      · exact x_lv (hex5 s3.1) ⟨rfl, rfl, trivial⟩
      · refine x_P 31 rfl rfl rfl ?_
        refine x_gN rfl (fun o10 ho10 => ?_)
        refine x_P 35 rfl rfl rfl ?_
        refine x_aI rfl ⟨rfl, rfl⟩ (fun x11 hx11 => ?_)
        refine x_callS rfl rfl rfl rfl rfl rfl ⟨rfl, rfl⟩ (S_196 (d + 3) x11 th1) (fun x12 hx12 => ?_)
        refine x_P 40 rfl rfl rfl ?_
        refine x_gN rfl (fun o13 ho13 => ?_)
        refine x_P 44 rfl rfl rfl ?_
        refine x_aI rfl ⟨rfl, rfl⟩ (fun x14 hx14 => ?_)
        refine x_callS rfl rfl rfl rfl rfl rfl ⟨rfl, rfl⟩ (S_196 (d + 3) x14 th1) (fun x15 hx15 => ?_)
        refine x_jn 56 (fun v16 => [(0, .ref a0), (2, .int s3.2)]) (fun v16 => [.int v16]) (fun v16 => th1) (fun v16 => ?_) (fun j17 hj17 => ?_)
        · refine x_P (lv' := [(1, .int v16), (0, .ref a0), (2, .int s3.2)]) 57 rfl rfl rfl ?_
          refine x_P (lv' := [(2, .int (s3.2 + Int32.ofInt 1)), (1, .int v16), (0, .ref a0)]) 60 rfl rfl rfl ?_
          refine x_P 22 rfl rfl rfl ?_
          exact x_lv (hnx4 (v16, (s3.2 + Int32.ofInt 1))) ⟨rfl, rfl, rfl, trivial⟩
        · refine x_ic_le rfl rfl (fun h18 => ?_) (fun h18 => ?_)
          · refine x_P 56 rfl rfl rfl ?_
            exact x_lv (hj17 s3.1) ⟨rfl, rfl, trivial⟩
          · refine x_P 52 rfl rfl rfl ?_
            refine x_P 56 rfl rfl rfl ?_
            exact x_lv (hj17 s3.2) ⟨rfl, rfl, trivial⟩
    · refine x_P 64 rfl rfl rfl ?_
      refine x_gN rfl (fun o7 ho7 => ?_)
      refine x_P 68 rfl rfl rfl ?_
      refine x_aI rfl ⟨rfl, rfl⟩ (fun x8 hx8 => ?_)
      exact x_retI (x := (x8, th1)) rfl
-- 250 NineTreesModel.alone()I
noncomputable def m_250 (a0 : Nat) (th : tH) : Option (Int32 × tH) :=
  (gC th 8 a0).bind fun _ =>
  lp (fun (s1 : Int32 × Int32 × tH) nx2 ex3 =>
      (gI s1.2.2 8 a0 10).bind fun x5 =>
      if x5 ≤ s1.2.1 then
        ex3 (s1.1, s1.2.2)
      else
        (m_242 a0 s1.2.1 (Int32.ofInt 3) s1.2.2).bind fun q6 =>
        jn (fun (v7 : Int32 × Int32) =>
            nx2 ((v7.2 ||| v7.1), (s1.2.1 + Int32.ofInt 1), q6.2)
          ) (fun j8 =>
            if q6.1 = 0 then
              j8 (((Int32.ofInt 1) <<< (s1.2.1 &&& 31)), s1.1)
            else
              j8 ((Int32.ofInt 0), s1.1)
          )
    ) 4096 ((Int32.ofInt 0), (Int32.ofInt 0), th) (fun (x4 : Int32 × tH) =>
      some (x4.1, x4.2)
    )
theorem c_250 {a0 : Nat} {th : tH} {x : (Int32 × tH)} (h : m_250 a0 th = some x) : ∃ fs, th[a0]? = some (.inr (8, fs)) := gC_of h
theorem S_250 {L : Nat} (d : Nat) (a0 : Nat) (th : tH) : Wx L (fun x => (some (.int x.1), x.2)) (d + 5) 250 3 0 [(0, .ref a0)] [] th (m_250 a0 th) := by
  unfold m_250
  refine x_gC ?_
  refine x_P 1 rfl rfl rfl ?_
  refine x_P (lv' := [(1, .int (Int32.ofInt 0)), (0, .ref a0)]) 2 rfl rfl rfl ?_
  refine x_P 3 rfl rfl rfl ?_
  refine x_P (lv' := [(2, .int (Int32.ofInt 0)), (1, .int (Int32.ofInt 0)), (0, .ref a0)]) 4 rfl rfl rfl ?_
  refine x_lv (lv := [(0, .ref a0), (1, .int (Int32.ofInt 0)), (2, .int (Int32.ofInt 0))]) (x_lp 37 (fun s1 => [(0, .ref a0), (1, .int s1.1), (2, .int s1.2.1)]) (fun s1 => s1.2.2) (fun x4 => [(1, .int x4.1)]) (fun x4 => x4.2) (fun s1 nx2 hnx2 ex3 hex3 => ?_) (fun x4 => ?_) 4096 ((Int32.ofInt 0), (Int32.ofInt 0), th)) ⟨rfl, rfl, rfl, trivial⟩
  · refine x_P 5 rfl rfl rfl ?_
    refine x_P 6 rfl rfl rfl ?_
    refine x_gI rfl (fun x5 hx5 => ?_)
    refine x_ic_ge rfl rfl (fun h10 => ?_) (fun h10 => ?_)
    · exact x_lv (hex3 (s1.1, s1.2.2)) ⟨rfl, trivial⟩
    · refine x_P 13 rfl rfl rfl ?_
      refine x_P 14 rfl rfl rfl ?_
      refine x_P 15 rfl rfl rfl ?_
      refine x_P 16 rfl rfl rfl ?_
      refine x_callV rfl rfl rfl rfl rfl ⟨rfl, rfl⟩ (fun x h => c_242 h) (S_242 d a0 s1.2.1 (Int32.ofInt 3) s1.2.2) (fun q6 hq6 => ?_)
      refine x_jn 29 (fun v7 => [(0, .ref a0), (2, .int s1.2.1)]) (fun v7 => [.int v7.1, .int v7.2]) (fun v7 => q6.2) (fun v7 => ?_) (fun j8 hj8 => ?_)
      · refine x_P 30 rfl rfl rfl ?_
        refine x_P (lv' := [(1, .int (v7.2 ||| v7.1)), (0, .ref a0), (2, .int s1.2.1)]) 31 rfl rfl rfl ?_
        refine x_P (lv' := [(2, .int (s1.2.1 + Int32.ofInt 1)), (1, .int (v7.2 ||| v7.1)), (0, .ref a0)]) 34 rfl rfl rfl ?_
        refine x_P 4 rfl rfl rfl ?_
        exact x_lv (hnx2 ((v7.2 ||| v7.1), (s1.2.1 + Int32.ofInt 1), q6.2)) ⟨rfl, rfl, rfl, trivial⟩
      · refine x_if_ne rfl rfl (fun h9 => ?_) (fun h9 => ?_)
        · refine x_P 23 rfl rfl rfl ?_
          refine x_P 24 rfl rfl rfl ?_
          refine x_P 25 rfl rfl rfl ?_
          refine x_P 29 rfl rfl rfl ?_
          exact x_lv (hj8 (((Int32.ofInt 1) <<< (s1.2.1 &&& 31)), s1.1)) ⟨rfl, rfl, trivial⟩
        · refine x_P 29 rfl rfl rfl ?_
          exact x_lv (hj8 ((Int32.ofInt 0), s1.1)) ⟨rfl, rfl, trivial⟩
  · refine x_P 38 rfl rfl rfl ?_
    exact x_retI (x := (x4.1, x4.2)) rfl
-- 251 NineTreesModel.through(II)I
noncomputable def m_251 (a0 : Nat) (a1 : Int32) (a2 : Int32) (th : tH) : Option (Int32 × tH) :=
  (gC th 8 a0).bind fun _ =>
  (m_191 a0 a1 th).bind fun x1 =>
  jn (fun (v2 : Unit) =>
      (m_189 a0 (Int8.ofInt (-2)).toInt32 th).bind fun q4 =>
      some (q4.1, q4.2)
    ) (fun j3 =>
      if x1 = 0 then
        j3 ()
      else
        (m_191 a0 a2 th).bind fun x5 =>
        if x5 = 0 then
          j3 ()
        else
          if a1 = a2 then
            j3 ()
          else
            (gN th 8 a0 11).bind fun o6 =>
            (aI th o6 a1).bind fun x7 =>
            jn (fun (v8 : Int32 × tH) =>
                some (v8.1, v8.2)
              ) (fun j9 =>
                jn (fun (v10 : Unit) =>
                    (m_189 a0 (Int8.ofInt (-5)).toInt32 th).bind fun q12 =>
                    j9 (q12.1, q12.2)
                  ) (fun j11 =>
                    if x7 = (Int32.ofInt 4) then
                      j11 ()
                    else
                      (gN th 8 a0 11).bind fun o13 =>
                      (aI th o13 a2).bind fun x14 =>
                      if x14 = (Int32.ofInt 4) then
                        j11 ()
                      else
                        (m_239 a0 a1 a2 th).bind fun x15 =>
                        j9 (x15, th)
                  )
              )
    )
theorem c_251 {a0 : Nat} {a1 : Int32} {a2 : Int32} {th : tH} {x : (Int32 × tH)} (h : m_251 a0 a1 a2 th = some x) : ∃ fs, th[a0]? = some (.inr (8, fs)) := gC_of h
theorem S_251 {L : Nat} (d : Nat) (a0 : Nat) (a1 : Int32) (a2 : Int32) (th : tH) : Wx L (fun x => (some (.int x.1), x.2)) (d + 3) 251 3 0 [(0, .ref a0), (1, .int a1), (2, .int a2)] [] th (m_251 a0 a1 a2 th) := by
  unfold m_251
  refine x_gC ?_
  refine x_P 1 rfl rfl rfl ?_
  refine x_P 2 rfl rfl rfl ?_
  refine x_callV rfl rfl rfl rfl rfl ⟨rfl, rfl⟩ (fun x h => c_191 h) (S_191 (d + 1) a0 a1 th) (fun x1 hx1 => ?_)
  refine x_jn 21 (fun v2 => [(0, .ref a0)]) (fun v2 => []) (fun v2 => th) (fun v2 => ?_) (fun j3 hj3 => ?_)
  · refine x_P 22 rfl rfl rfl ?_
    refine x_P 24 rfl rfl rfl ?_
    refine x_callV rfl rfl rfl rfl rfl ⟨rfl, rfl⟩ (fun x h => c_189 h) (S_189 (d + 1) a0 (Int8.ofInt (-2)).toInt32 th) (fun q4 hq4 => ?_)
    exact x_retI (x := (q4.1, q4.2)) rfl
  · refine x_if_eq rfl rfl (fun h20 => ?_) (fun h20 => ?_)
    · exact x_lv (hj3 ()) ⟨rfl, trivial⟩
    · refine x_P 9 rfl rfl rfl ?_
      refine x_P 10 rfl rfl rfl ?_
      refine x_callV rfl rfl rfl rfl rfl ⟨rfl, rfl⟩ (fun x h => c_191 h) (S_191 (d + 1) a0 a2 th) (fun x5 hx5 => ?_)
      refine x_if_eq rfl rfl (fun h19 => ?_) (fun h19 => ?_)
      · exact x_lv (hj3 ()) ⟨rfl, trivial⟩
      · refine x_P 17 rfl rfl rfl ?_
        refine x_P 18 rfl rfl rfl ?_
        refine x_ic_ne rfl rfl (fun h18 => ?_) (fun h18 => ?_)
        · exact x_lv (hj3 ()) ⟨rfl, trivial⟩
        · refine x_P 29 rfl rfl rfl ?_
          refine x_gN rfl (fun o6 ho6 => ?_)
          refine x_P 33 rfl rfl rfl ?_
          refine x_aI rfl ⟨rfl, rfl⟩ (fun x7 hx7 => ?_)
          refine x_P 35 rfl rfl rfl ?_
          refine x_jn 63 (fun v8 => []) (fun v8 => [.int v8.1]) (fun v8 => v8.2) (fun v8 => ?_) (fun j9 hj9 => ?_)
          · exact x_retI (x := (v8.1, v8.2)) rfl
          · refine x_jn 48 (fun v10 => [(0, .ref a0)]) (fun v10 => []) (fun v10 => th) (fun v10 => ?_) (fun j11 hj11 => ?_)
            · refine x_P 49 rfl rfl rfl ?_
              refine x_P 51 rfl rfl rfl ?_
              refine x_callV rfl rfl rfl rfl rfl ⟨rfl, rfl⟩ (fun x h => c_189 h) (S_189 (d + 1) a0 (Int8.ofInt (-5)).toInt32 th) (fun q12 hq12 => ?_)
              refine x_P 63 rfl rfl rfl ?_
              exact x_lv (hj9 (q12.1, q12.2)) trivial
            · refine x_ic_eq rfl rfl (fun h17 => ?_) (fun h17 => ?_)
              · exact x_lv (hj11 ()) ⟨rfl, trivial⟩
              · refine x_P 39 rfl rfl rfl ?_
                refine x_gN rfl (fun o13 ho13 => ?_)
                refine x_P 43 rfl rfl rfl ?_
                refine x_aI rfl ⟨rfl, rfl⟩ (fun x14 hx14 => ?_)
                refine x_P 45 rfl rfl rfl ?_
                refine x_ic_ne rfl rfl (fun h16 => ?_) (fun h16 => ?_)
                · exact x_lv (hj11 ()) ⟨rfl, trivial⟩
                · refine x_P 58 rfl rfl rfl ?_
                  refine x_P 59 rfl rfl rfl ?_
                  refine x_P 60 rfl rfl rfl ?_
                  refine x_callV rfl rfl rfl rfl rfl ⟨rfl, rfl⟩ (fun x h => c_239 h) (S_239 d a0 a1 a2 th) (fun x15 hx15 => ?_)
                  exact x_lv (hj9 (x15, th)) trivial
-- 252 NineTreesModel.standInLine(I)Z
noncomputable def m_252 (a0 : Nat) (a1 : Int32) (th : tH) : Option (Int32 × tH) :=
  (gC th 8 a0).bind fun _ =>
  (m_240 a0 th).bind fun th1 =>
  lp (fun (s2 : Int32) nx3 ex4 =>
      (gI th1 8 a0 27).bind fun x7 =>
      if x7 ≤ s2 then
        ex4 ()
      else
        (gN th1 8 a0 26).bind fun o8 =>
        (aI th1 o8 s2).bind fun x9 =>
        if (a1 &&& (x9 ^^^ (Int32.ofInt (-1)))) = 0 then
          (rB (Int32.ofInt 1)).bind fun y10 => some (y10, th1)
        else
          nx3 (s2 + Int32.ofInt 1)
    ) 4096 (Int32.ofInt 0) (fun (x5 : Unit) =>
      (rB (Int32.ofInt 0)).bind fun y6 => some (y6, th1)
    )
theorem c_252 {a0 : Nat} {a1 : Int32} {th : tH} {x : (Int32 × tH)} (h : m_252 a0 a1 th = some x) : ∃ fs, th[a0]? = some (.inr (8, fs)) := gC_of h
theorem S_252 {L : Nat} (d : Nat) (a0 : Nat) (a1 : Int32) (th : tH) : Wx L (fun x => (some (.int x.1), x.2)) (d + 4) 252 3 0 [(0, .ref a0), (1, .int a1)] [] th (m_252 a0 a1 th) := by
  unfold m_252
  refine x_gC ?_
  refine x_P 1 rfl rfl rfl ?_
  refine x_callW rfl rfl rfl rfl rfl ⟨rfl, rfl⟩ (fun x h => c_240 h) (S_240 d a0 th) (fun th1 hth1 => ?_)
  refine x_P 5 rfl rfl rfl ?_
  refine x_P (lv' := [(2, .int (Int32.ofInt 0)), (0, .ref a0), (1, .int a1)]) 6 rfl rfl rfl ?_
  refine x_lv (lv := [(0, .ref a0), (1, .int a1), (2, .int (Int32.ofInt 0))]) (x_lp 35 (fun s2 => [(0, .ref a0), (1, .int a1), (2, .int s2)]) (fun s2 => th1) (fun x5 => []) (fun x5 => th1) (fun s2 nx3 hnx3 ex4 hex4 => ?_) (fun x5 => ?_) 4096 (Int32.ofInt 0)) ⟨rfl, rfl, rfl, trivial⟩
  · refine x_P 7 rfl rfl rfl ?_
    refine x_P 8 rfl rfl rfl ?_
    refine x_gI rfl (fun x7 hx7 => ?_)
    refine x_ic_ge rfl rfl (fun h12 => ?_) (fun h12 => ?_)
    · exact x_lv (hex4 ()) trivial
    · refine x_P 15 rfl rfl rfl ?_
      refine x_P 16 rfl rfl rfl ?_
      refine x_gN rfl (fun o8 ho8 => ?_)
      refine x_P 20 rfl rfl rfl ?_
      refine x_aI rfl ⟨rfl, rfl⟩ (fun x9 hx9 => ?_)
      refine x_P 22 rfl rfl rfl ?_
      refine x_P 23 rfl rfl rfl ?_
      refine x_P 24 rfl rfl rfl ?_
      refine x_if_ne rfl rfl (fun h11 => ?_) (fun h11 => ?_)
      · refine x_P 28 rfl rfl rfl ?_
        exact x_rBw rfl
      · refine x_P (lv' := [(2, .int (s2 + Int32.ofInt 1)), (0, .ref a0), (1, .int a1)]) 32 rfl rfl rfl ?_
        refine x_P 6 rfl rfl rfl ?_
        exact x_lv (hnx3 (s2 + Int32.ofInt 1)) ⟨rfl, rfl, rfl, trivial⟩
  · refine x_P 36 rfl rfl rfl ?_
    exact x_rBw rfl
-- 253 NineTreesModel.inLine(I)I
noncomputable def m_253 (a0 : Nat) (a1 : Int32) (th : tH) : Option (Int32 × tH) :=
  (gC th 8 a0).bind fun _ =>
  jn (fun (v1 : Unit) =>
      (m_189 a0 (Int8.ofInt (-2)).toInt32 th).bind fun q3 =>
      some (q3.1, q3.2)
    ) (fun j2 =>
      if a1 < 0 then
        j2 ()
      else
        (gI th 8 a0 10).bind fun x4 =>
        if (a1 >>> (x4 &&& 31)) = 0 then
          (m_196 a1 th).bind fun x5 =>
          if (Int32.ofInt 3) ≤ x5 then
            (m_252 a0 a1 th).bind fun q6 =>
            jn (fun (v7 : Int32) =>
                some (v7, q6.2)
              ) (fun j8 =>
                if q6.1 = 0 then
                  j8 (Int32.ofInt 0)
                else
                  j8 (Int32.ofInt 1)
              )
          else
            j2 ()
        else
          j2 ()
    )
theorem c_253 {a0 : Nat} {a1 : Int32} {th : tH} {x : (Int32 × tH)} (h : m_253 a0 a1 th = some x) : ∃ fs, th[a0]? = some (.inr (8, fs)) := gC_of h
theorem S_253 {L : Nat} (d : Nat) (a0 : Nat) (a1 : Int32) (th : tH) : Wx L (fun x => (some (.int x.1), x.2)) (d + 5) 253 2 0 [(0, .ref a0), (1, .int a1)] [] th (m_253 a0 a1 th) := by
  unfold m_253
  refine x_gC ?_
  refine x_P 1 rfl rfl rfl ?_
  refine x_jn 21 (fun v1 => [(0, .ref a0)]) (fun v1 => []) (fun v1 => th) (fun v1 => ?_) (fun j2 hj2 => ?_)
  · refine x_P 22 rfl rfl rfl ?_
    refine x_P 24 rfl rfl rfl ?_
    refine x_callV rfl rfl rfl rfl rfl ⟨rfl, rfl⟩ (fun x h => c_189 h) (S_189 (d + 3) a0 (Int8.ofInt (-2)).toInt32 th) (fun q3 hq3 => ?_)
    exact x_retI (x := (q3.1, q3.2)) rfl
  · refine x_if_lt rfl rfl (fun h12 => ?_) (fun h12 => ?_)
    · exact x_lv (hj2 ()) ⟨rfl, trivial⟩
    · refine x_P 5 rfl rfl rfl ?_
      refine x_P 6 rfl rfl rfl ?_
      refine x_gI rfl (fun x4 hx4 => ?_)
      refine x_P 10 rfl rfl rfl ?_
      refine x_if_ne rfl rfl (fun h11 => ?_) (fun h11 => ?_)
      · refine x_P 14 rfl rfl rfl ?_
        refine x_callS rfl rfl rfl rfl rfl rfl ⟨rfl, rfl⟩ (S_196 (d + 4) a1 th) (fun x5 hx5 => ?_)
        refine x_P 18 rfl rfl rfl ?_
        refine x_ic_ge rfl rfl (fun h10 => ?_) (fun h10 => ?_)
        · refine x_P 29 rfl rfl rfl ?_
          refine x_P 30 rfl rfl rfl ?_
          refine x_callV rfl rfl rfl rfl rfl ⟨rfl, rfl⟩ (fun x h => c_252 h) (S_252 d a0 a1 th) (fun q6 hq6 => ?_)
          refine x_jn 41 (fun v7 => []) (fun v7 => [.int v7]) (fun v7 => q6.2) (fun v7 => ?_) (fun j8 hj8 => ?_)
          · exact x_retI (x := (v7, q6.2)) rfl
          · refine x_if_eq rfl rfl (fun h9 => ?_) (fun h9 => ?_)
            · refine x_P 41 rfl rfl rfl ?_
              exact x_lv (hj8 (Int32.ofInt 0)) trivial
            · refine x_P 37 rfl rfl rfl ?_
              refine x_P 41 rfl rfl rfl ?_
              exact x_lv (hj8 (Int32.ofInt 1)) trivial
        · exact x_lv (hj2 ()) ⟨rfl, trivial⟩
      · exact x_lv (hj2 ()) ⟨rfl, trivial⟩
