section
/-! ===== programs ===== -/
-- 224 NineTreesModel.look()V
noncomputable def m_224 (a0 : Nat) (th : tH) : Option tH :=
  (gC th 8 a0).bind fun _ =>
  lp (fun (s1 : tH) nx2 ex3 =>
      (gI s1 8 a0 19).bind fun x73 =>
      (gI s1 8 a0 7).bind fun x74 =>
      if x74 ≤ x73 then
        ex3 s1
      else
        (gN s1 8 a0 6).bind fun o75 =>
        (gI s1 8 a0 19).bind fun x76 =>
        (aI s1 o75 x76).bind fun x77 =>
        if x77 = (Int8.ofInt 32).toInt32 then
          (gI s1 8 a0 19).bind fun x78 =>
          (pI s1 8 a0 19 (x78 + (Int32.ofInt 1))).bind fun th79 =>
          nx2 th79
        else
          ex3 s1
    ) 4096 th (fun (x4 : tH) =>
      (gI x4 8 a0 19).bind fun x5 =>
      (pI x4 8 a0 21 x5).bind fun th6 =>
      (pI th6 8 a0 22 (Int32.ofInt 0)).bind fun th7 =>
      (gI th7 8 a0 19).bind fun x8 =>
      (gI th7 8 a0 7).bind fun x9 =>
      jn (fun (v10 : tH) =>
          some v10
        ) (fun j11 =>
          if x8 = x9 then
            (pI th7 8 a0 20 (Int32.ofInt 0)).bind fun th71 =>
            j11 th71
          else
            (gN th7 8 a0 6).bind fun o12 =>
            (gI th7 8 a0 19).bind fun x13 =>
            (aI th7 o12 x13).bind fun x14 =>
            (m_222 x14 th7).bind fun x15 =>
            if x15 = 0 then
              (gN th7 8 a0 6).bind fun o16 =>
              (gI th7 8 a0 19).bind fun x17 =>
              (aI th7 o16 x17).bind fun x18 =>
              (m_223 x18 th7).bind fun x19 =>
              if x19 = 0 then
                (gN th7 8 a0 6).bind fun o20 =>
                (gI th7 8 a0 19).bind fun x21 =>
                (aI th7 o20 x21).bind fun x22 =>
                jn (fun (v23 : Int32 × Nat) =>
                    (pI th7 8 v23.2 20 v23.1).bind fun th25 =>
                    (gI th25 8 a0 19).bind fun x26 =>
                    (pI th25 8 a0 19 (x26 + (Int32.ofInt 1))).bind fun th27 =>
                    j11 th27
                  ) (fun j24 =>
                    if x22 = (Int8.ofInt 59).toInt32 then
                      j24 ((Int32.ofInt 3), a0)
                    else
                      j24 ((Int32.ofInt 4), a0)
                  )
              else
                (pI th7 8 a0 20 (Int32.ofInt 2)).bind fun th29 =>
                lp (fun (s30 : tH) nx31 ex32 =>
                    (gI s30 8 a0 19).bind fun x34 =>
                    (gI s30 8 a0 7).bind fun x35 =>
                    if x35 ≤ x34 then
                      ex32 s30
                    else
                      (gN s30 8 a0 6).bind fun o36 =>
                      (gI s30 8 a0 19).bind fun x37 =>
                      (aI s30 o36 x37).bind fun x38 =>
                      (m_223 x38 s30).bind fun x39 =>
                      if x39 = 0 then
                        ex32 s30
                      else
                        (gI s30 8 a0 19).bind fun x40 =>
                        (gI s30 8 a0 21).bind fun x41 =>
                        jn (fun (v42 : Int32 × Nat) =>
                            (pI s30 8 v42.2 22 v42.1).bind fun th44 =>
                            (gI th44 8 a0 19).bind fun x45 =>
                            (pI th44 8 a0 19 (x45 + (Int32.ofInt 1))).bind fun th46 =>
                            nx31 th46
                          ) (fun j43 =>
                            if (Int32.ofInt 2) ≤ (x40 - x41) then
                              j43 ((Int16.ofInt 1000).toInt32, a0)
                            else
                              (gI s30 8 a0 22).bind fun x47 =>
                              (gN s30 8 a0 6).bind fun o48 =>
                              (gI s30 8 a0 19).bind fun x49 =>
                              (aI s30 o48 x49).bind fun x50 =>
                              j43 ((((x47 * (Int8.ofInt 10).toInt32) + x50) - (Int8.ofInt 48).toInt32), a0)
                          )
                  ) 4096 th29 (fun (x33 : tH) =>
                    j11 x33
                  )
            else
              (pI th7 8 a0 20 (Int32.ofInt 1)).bind fun th55 =>
              lp (fun (s56 : tH) nx57 ex58 =>
                  (gI s56 8 a0 19).bind fun x60 =>
                  (gI s56 8 a0 7).bind fun x61 =>
                  if x61 ≤ x60 then
                    ex58 s56
                  else
                    (gN s56 8 a0 6).bind fun o62 =>
                    (gI s56 8 a0 19).bind fun x63 =>
                    (aI s56 o62 x63).bind fun x64 =>
                    (m_222 x64 s56).bind fun x65 =>
                    if x65 = 0 then
                      ex58 s56
                    else
                      (gI s56 8 a0 19).bind fun x66 =>
                      (pI s56 8 a0 19 (x66 + (Int32.ofInt 1))).bind fun th67 =>
                      nx57 th67
                ) 4096 th55 (fun (x59 : tH) =>
                  j11 x59
                )
        )
    )
theorem c_224 {a0 : Nat} {th : tH} {x : tH} (h : m_224 a0 th = some x) : ∃ fs, th[a0]? = some (.inr (8, fs)) := gC_of h
theorem S_224 {L : Nat} (d : Nat) (a0 : Nat) (th : tH) : Wx L (fun x => (none, x)) (d + 1) 224 1 0 [(0, .ref a0)] [] th (m_224 a0 th) := by
  unfold m_224
  refine x_gC ?_
  refine x_lv (lv := [(0, .ref a0)]) (x_lp 38 (fun s1 => [(0, .ref a0)]) (fun s1 => s1) (fun x4 => [(0, .ref a0)]) (fun x4 => x4) (fun s1 nx2 hnx2 ex3 hex3 => ?_) (fun x4 => ?_) 4096 th) ⟨rfl, trivial⟩
  · refine x_P 1 rfl rfl rfl ?_
    refine x_gI rfl (fun x73 hx73 => ?_)
    refine x_P 5 rfl rfl rfl ?_
    refine x_gI rfl (fun x74 hx74 => ?_)
    refine x_ic_ge rfl rfl (fun h81 => ?_) (fun h81 => ?_)
    · exact x_lv (hex3 s1) ⟨rfl, trivial⟩
    · refine x_P 12 rfl rfl rfl ?_
      refine x_gN rfl (fun o75 ho75 => ?_)
      refine x_P 16 rfl rfl rfl ?_
      refine x_gI rfl (fun x76 hx76 => ?_)
      refine x_aI rfl ⟨rfl, rfl⟩ (fun x77 hx77 => ?_)
      refine x_P 22 rfl rfl rfl ?_
      refine x_ic_ne rfl rfl (fun h80 => ?_) (fun h80 => ?_)
      · refine x_P 26 rfl rfl rfl ?_
        refine x_P 27 rfl rfl rfl ?_
        refine x_gI rfl (fun x78 hx78 => ?_)
        refine x_P 31 rfl rfl rfl ?_
        refine x_P 32 rfl rfl rfl ?_
        refine x_pI rfl (fun th79 hth79 => ?_)
        refine x_P 0 rfl rfl rfl ?_
        exact x_lv (hnx2 th79) ⟨rfl, trivial⟩
      · exact x_lv (hex3 s1) ⟨rfl, trivial⟩
  · refine x_P 39 rfl rfl rfl ?_
    refine x_P 40 rfl rfl rfl ?_
    refine x_gI rfl (fun x5 hx5 => ?_)
    refine x_pI rfl (fun th6 hth6 => ?_)
    refine x_P 47 rfl rfl rfl ?_
    refine x_P 48 rfl rfl rfl ?_
    refine x_pI rfl (fun th7 hth7 => ?_)
    refine x_P 52 rfl rfl rfl ?_
    refine x_gI rfl (fun x8 hx8 => ?_)
    refine x_P 56 rfl rfl rfl ?_
    refine x_gI rfl (fun x9 hx9 => ?_)
    refine x_jn 264 (fun v10 => []) (fun v10 => []) (fun v10 => v10) (fun v10 => ?_) (fun j11 hj11 => ?_)
    · exact x_retV (x := v10) rfl
    · refine x_ic_ne rfl rfl (fun h72 => ?_) (fun h72 => ?_)
      · refine x_P 63 rfl rfl rfl ?_
        refine x_P 64 rfl rfl rfl ?_
        refine x_pI rfl (fun th71 hth71 => ?_)
        refine x_P 264 rfl rfl rfl ?_
        exact x_lv (hj11 th71) trivial
      · refine x_P 71 rfl rfl rfl ?_
        refine x_gN rfl (fun o12 ho12 => ?_)
        refine x_P 75 rfl rfl rfl ?_
        refine x_gI rfl (fun x13 hx13 => ?_)
        refine x_aI rfl ⟨rfl, rfl⟩ (fun x14 hx14 => ?_)
        refine x_callS rfl rfl rfl rfl rfl rfl ⟨rfl, rfl⟩ (S_222 d x14 th7) (fun x15 hx15 => ?_)
        refine x_if_eq rfl rfl (fun h70 => ?_) (fun h70 => ?_)
        · refine x_P 130 rfl rfl rfl ?_
          refine x_gN rfl (fun o16 ho16 => ?_)
          refine x_P 134 rfl rfl rfl ?_
          refine x_gI rfl (fun x17 hx17 => ?_)
          refine x_aI rfl ⟨rfl, rfl⟩ (fun x18 hx18 => ?_)
          refine x_callS rfl rfl rfl rfl rfl rfl ⟨rfl, rfl⟩ (S_223 d x18 th7) (fun x19 hx19 => ?_)
          refine x_if_eq rfl rfl (fun h54 => ?_) (fun h54 => ?_)
          · refine x_P 232 rfl rfl rfl ?_
            refine x_P 233 rfl rfl rfl ?_
            refine x_gN rfl (fun o20 ho20 => ?_)
            refine x_P 237 rfl rfl rfl ?_
            refine x_gI rfl (fun x21 hx21 => ?_)
            refine x_aI rfl ⟨rfl, rfl⟩ (fun x22 hx22 => ?_)
            refine x_P 243 rfl rfl rfl ?_
            refine x_jn 251 (fun v23 => [(0, .ref a0)]) (fun v23 => [.int v23.1, .ref v23.2]) (fun v23 => th7) (fun v23 => ?_) (fun j24 hj24 => ?_)
            · refine x_pI rfl (fun th25 hth25 => ?_)
              refine x_P 255 rfl rfl rfl ?_
              refine x_P 256 rfl rfl rfl ?_
              refine x_gI rfl (fun x26 hx26 => ?_)
              refine x_P 260 rfl rfl rfl ?_
              refine x_P 261 rfl rfl rfl ?_
              refine x_pI rfl (fun th27 hth27 => ?_)
              exact x_lv (hj11 th27) trivial
            · refine x_ic_ne rfl rfl (fun h28 => ?_) (fun h28 => ?_)
              · refine x_P 247 rfl rfl rfl ?_
                refine x_P 251 rfl rfl rfl ?_
                exact x_lv (hj24 ((Int32.ofInt 3), a0)) ⟨rfl, trivial⟩
              · refine x_P 251 rfl rfl rfl ?_
                exact x_lv (hj24 ((Int32.ofInt 4), a0)) ⟨rfl, trivial⟩
          · refine x_P 145 rfl rfl rfl ?_
            refine x_P 146 rfl rfl rfl ?_
            refine x_pI rfl (fun th29 hth29 => ?_)
            refine x_lv (lv := [(0, .ref a0)]) (x_lp 264 (fun s30 => [(0, .ref a0)]) (fun s30 => s30) (fun x33 => []) (fun x33 => x33) (fun s30 nx31 hnx31 ex32 hex32 => ?_) (fun x33 => ?_) 4096 th29) ⟨rfl, trivial⟩
            · refine x_P 150 rfl rfl rfl ?_
              refine x_gI rfl (fun x34 hx34 => ?_)
              refine x_P 154 rfl rfl rfl ?_
              refine x_gI rfl (fun x35 hx35 => ?_)
              refine x_ic_ge rfl rfl (fun h53 => ?_) (fun h53 => ?_)
              · exact x_lv (hex32 s30) trivial
              · refine x_P 161 rfl rfl rfl ?_
                refine x_gN rfl (fun o36 ho36 => ?_)
                refine x_P 165 rfl rfl rfl ?_
                refine x_gI rfl (fun x37 hx37 => ?_)
                refine x_aI rfl ⟨rfl, rfl⟩ (fun x38 hx38 => ?_)
                refine x_callS rfl rfl rfl rfl rfl rfl ⟨rfl, rfl⟩ (S_223 d x38 s30) (fun x39 hx39 => ?_)
                refine x_if_eq rfl rfl (fun h52 => ?_) (fun h52 => ?_)
                · exact x_lv (hex32 s30) trivial
                · refine x_P 176 rfl rfl rfl ?_
                  refine x_P 177 rfl rfl rfl ?_
                  refine x_gI rfl (fun x40 hx40 => ?_)
                  refine x_P 181 rfl rfl rfl ?_
                  refine x_gI rfl (fun x41 hx41 => ?_)
                  refine x_P 185 rfl rfl rfl ?_
                  refine x_P 186 rfl rfl rfl ?_
                  refine x_jn 215 (fun v42 => [(0, .ref a0)]) (fun v42 => [.int v42.1, .ref v42.2]) (fun v42 => s30) (fun v42 => ?_) (fun j43 hj43 => ?_)
                  · refine x_pI rfl (fun th44 hth44 => ?_)
                    refine x_P 219 rfl rfl rfl ?_
                    refine x_P 220 rfl rfl rfl ?_
                    refine x_gI rfl (fun x45 hx45 => ?_)
                    refine x_P 224 rfl rfl rfl ?_
                    refine x_P 225 rfl rfl rfl ?_
                    refine x_pI rfl (fun th46 hth46 => ?_)
                    refine x_P 149 rfl rfl rfl ?_
                    exact x_lv (hnx31 th46) ⟨rfl, trivial⟩
                  · refine x_ic_ge rfl rfl (fun h51 => ?_) (fun h51 => ?_)
                    · refine x_P 215 rfl rfl rfl ?_
                      exact x_lv (hj43 ((Int16.ofInt 1000).toInt32, a0)) ⟨rfl, trivial⟩
                    · refine x_P 190 rfl rfl rfl ?_
                      refine x_gI rfl (fun x47 hx47 => ?_)
                      refine x_P 195 rfl rfl rfl ?_
                      refine x_P 196 rfl rfl rfl ?_
                      refine x_P 197 rfl rfl rfl ?_
                      refine x_gN rfl (fun o48 ho48 => ?_)
                      refine x_P 201 rfl rfl rfl ?_
                      refine x_gI rfl (fun x49 hx49 => ?_)
                      refine x_aI rfl ⟨rfl, rfl⟩ (fun x50 hx50 => ?_)
                      refine x_P 206 rfl rfl rfl ?_
                      refine x_P 208 rfl rfl rfl ?_
                      refine x_P 209 rfl rfl rfl ?_
                      refine x_P 215 rfl rfl rfl ?_
                      exact x_lv (hj43 ((((x47 * (Int8.ofInt 10).toInt32) + x50) - (Int8.ofInt 48).toInt32), a0)) ⟨rfl, trivial⟩
            · exact x_lv (hj11 x33) trivial
        · refine x_P 86 rfl rfl rfl ?_
          refine x_P 87 rfl rfl rfl ?_
          refine x_pI rfl (fun th55 hth55 => ?_)
          refine x_lv (lv := [(0, .ref a0)]) (x_lp 264 (fun s56 => [(0, .ref a0)]) (fun s56 => s56) (fun x59 => []) (fun x59 => x59) (fun s56 nx57 hnx57 ex58 hex58 => ?_) (fun x59 => ?_) 4096 th55) ⟨rfl, trivial⟩
          · refine x_P 91 rfl rfl rfl ?_
            refine x_gI rfl (fun x60 hx60 => ?_)
            refine x_P 95 rfl rfl rfl ?_
            refine x_gI rfl (fun x61 hx61 => ?_)
            refine x_ic_ge rfl rfl (fun h69 => ?_) (fun h69 => ?_)
            · exact x_lv (hex58 s56) trivial
            · refine x_P 102 rfl rfl rfl ?_
              refine x_gN rfl (fun o62 ho62 => ?_)
              refine x_P 106 rfl rfl rfl ?_
              refine x_gI rfl (fun x63 hx63 => ?_)
              refine x_aI rfl ⟨rfl, rfl⟩ (fun x64 hx64 => ?_)
              refine x_callS rfl rfl rfl rfl rfl rfl ⟨rfl, rfl⟩ (S_222 d x64 s56) (fun x65 hx65 => ?_)
              refine x_if_eq rfl rfl (fun h68 => ?_) (fun h68 => ?_)
              · exact x_lv (hex58 s56) trivial
              · refine x_P 117 rfl rfl rfl ?_
                refine x_P 118 rfl rfl rfl ?_
                refine x_gI rfl (fun x66 hx66 => ?_)
                refine x_P 122 rfl rfl rfl ?_
                refine x_P 123 rfl rfl rfl ?_
                refine x_pI rfl (fun th67 hth67 => ?_)
                refine x_P 90 rfl rfl rfl ?_
                exact x_lv (hnx57 th67) ⟨rfl, trivial⟩
          · exact x_lv (hj11 x59) trivial
-- 225 NineTreesModel.wrong()Z
noncomputable def m_225 (a0 : Nat) (th : tH) : Option (Int32 × tH) :=
  (gC th 8 a0).bind fun _ =>
  (gI th 8 a0 21).bind fun x1 =>
  (pI th 8 a0 23 x1).bind fun th2 =>
  (rB (Int32.ofInt 0)).bind fun y3 => some (y3, th2)
theorem c_225 {a0 : Nat} {th : tH} {x : (Int32 × tH)} (h : m_225 a0 th = some x) : ∃ fs, th[a0]? = some (.inr (8, fs)) := gC_of h
theorem S_225 {L : Nat} (d : Nat) (a0 : Nat) (th : tH) : Wx L (fun x => (some (.int x.1), x.2)) (d + 1) 225 1 0 [(0, .ref a0)] [] th (m_225 a0 th) := by
  unfold m_225
  refine x_gC ?_
  refine x_P 1 rfl rfl rfl ?_
  refine x_P 2 rfl rfl rfl ?_
  refine x_gI rfl (fun x1 hx1 => ?_)
  refine x_pI rfl (fun th2 hth2 => ?_)
  refine x_P 9 rfl rfl rfl ?_
  exact x_rBw rfl
-- 226 NineTreesModel.isWord(Ljava/lang/String;)Z
noncomputable def m_226 (a0 : Nat) (a1 : Nat) (th : tH) : Option (Int32) :=
  (gC th 8 a0).bind fun _ =>
  (gI th 8 a0 20).bind fun x1 =>
  jn (fun (v2 : Unit) =>
      rB (Int32.ofInt 0)
    ) (fun j3 =>
      if x1 = (Int32.ofInt 1) then
        (gI th 8 a0 19).bind fun x4 =>
        (gI th 8 a0 21).bind fun x5 =>
        (m_177 a1 th).bind fun x6 =>
        if (x4 - x5) = x6 then
          lp (fun (s7 : Int32) nx8 ex9 =>
              (m_177 a1 th).bind fun x11 =>
              if x11 ≤ s7 then
                ex9 ()
              else
                (gN th 8 a0 6).bind fun o12 =>
                (gI th 8 a0 21).bind fun x13 =>
                (aI th o12 (x13 + s7)).bind fun x14 =>
                (m_178 a1 s7 th).bind fun x15 =>
                if x14 = x15 then
                  nx8 (s7 + Int32.ofInt 1)
                else
                  rB (Int32.ofInt 0)
            ) 4096 (Int32.ofInt 0) (fun (x10 : Unit) =>
              rB (Int32.ofInt 1)
            )
        else
          j3 ()
      else
        j3 ()
    )
theorem c_226 {a0 : Nat} {a1 : Nat} {th : tH} {x : (Int32)} (h : m_226 a0 a1 th = some x) : ∃ fs, th[a0]? = some (.inr (8, fs)) := gC_of h
theorem S_226 {L : Nat} (d : Nat) (a0 : Nat) (a1 : Nat) (th : tH) : Wx L (fun x => (some (.int x), th)) (d + 4) 226 3 0 [(0, .ref a0), (1, .ref a1)] [] th (m_226 a0 a1 th) := by
  unfold m_226
  refine x_gC ?_
  refine x_P 1 rfl rfl rfl ?_
  refine x_gI rfl (fun x1 hx1 => ?_)
  refine x_P 5 rfl rfl rfl ?_
  refine x_jn 24 (fun v2 => []) (fun v2 => []) (fun v2 => th) (fun v2 => ?_) (fun j3 hj3 => ?_)
  · refine x_P 25 rfl rfl rfl ?_
    exact x_rB rfl
  · refine x_ic_ne rfl rfl (fun h19 => ?_) (fun h19 => ?_)
    · refine x_P 9 rfl rfl rfl ?_
      refine x_gI rfl (fun x4 hx4 => ?_)
      refine x_P 13 rfl rfl rfl ?_
      refine x_gI rfl (fun x5 hx5 => ?_)
      refine x_P 17 rfl rfl rfl ?_
      refine x_P 18 rfl rfl rfl ?_
      refine x_callT rfl rfl rfl rfl rfl ⟨rfl, rfl⟩ (fun x h => c_177 h) (S_177 (d + 2) a1 th) (fun x6 hx6 => ?_)
      refine x_ic_eq rfl rfl (fun h18 => ?_) (fun h18 => ?_)
      · refine x_P 27 rfl rfl rfl ?_
        refine x_P (lv' := [(2, .int (Int32.ofInt 0)), (0, .ref a0), (1, .ref a1)]) 28 rfl rfl rfl ?_
        refine x_lv (lv := [(0, .ref a0), (1, .ref a1), (2, .int (Int32.ofInt 0))]) (x_lp 63 (fun s7 => [(0, .ref a0), (1, .ref a1), (2, .int s7)]) (fun s7 => th) (fun x10 => []) (fun x10 => th) (fun s7 nx8 hnx8 ex9 hex9 => ?_) (fun x10 => ?_) 4096 (Int32.ofInt 0)) ⟨rfl, rfl, rfl, trivial⟩
        · refine x_P 29 rfl rfl rfl ?_
          refine x_P 30 rfl rfl rfl ?_
          refine x_callT rfl rfl rfl rfl rfl ⟨rfl, rfl⟩ (fun x h => c_177 h) (S_177 (d + 2) a1 th) (fun x11 hx11 => ?_)
          refine x_ic_ge rfl rfl (fun h17 => ?_) (fun h17 => ?_)
          · exact x_lv (hex9 ()) trivial
          · refine x_P 37 rfl rfl rfl ?_
            refine x_gN rfl (fun o12 ho12 => ?_)
            refine x_P 41 rfl rfl rfl ?_
            refine x_gI rfl (fun x13 hx13 => ?_)
            refine x_P 45 rfl rfl rfl ?_
            refine x_P 46 rfl rfl rfl ?_
            refine x_aI rfl ⟨rfl, rfl⟩ (fun x14 hx14 => ?_)
            refine x_P 48 rfl rfl rfl ?_
            refine x_P 49 rfl rfl rfl ?_
            refine x_callT rfl rfl rfl rfl rfl ⟨rfl, rfl⟩ (fun x h => c_178 h) (S_178 d a1 s7 th) (fun x15 hx15 => ?_)
            refine x_ic_eq rfl rfl (fun h16 => ?_) (fun h16 => ?_)
            · refine x_P (lv' := [(2, .int (s7 + Int32.ofInt 1)), (0, .ref a0), (1, .ref a1)]) 60 rfl rfl rfl ?_
              refine x_P 28 rfl rfl rfl ?_
              exact x_lv (hnx8 (s7 + Int32.ofInt 1)) ⟨rfl, rfl, rfl, trivial⟩
            · refine x_P 56 rfl rfl rfl ?_
              exact x_rB rfl
        · refine x_P 64 rfl rfl rfl ?_
          exact x_rB rfl
      · exact x_lv (hj3 ()) trivial
    · exact x_lv (hj3 ()) trivial
-- 227 NineTreesModel.number(III)Z
noncomputable def m_227 (a0 : Nat) (a1 : Int32) (a2 : Int32) (a3 : Int32) (th : tH) : Option (Int32 × tH) :=
  (gC th 8 a0).bind fun _ =>
  (gI th 8 a0 20).bind fun x1 =>
  jn (fun (v2 : Unit) =>
      (m_225 a0 th).bind fun q4 =>
      (rB q4.1).bind fun y5 => some (y5, q4.2)
    ) (fun j3 =>
      if x1 = (Int32.ofInt 2) then
        (gI th 8 a0 22).bind fun x6 =>
        (m_190 (Int32.toInt64 x6) (Int32.toInt64 a2) (Int32.toInt64 a3) th).bind fun x7 =>
        if x7 = 0 then
          j3 ()
        else
          (gN th 8 a0 24).bind fun o8 =>
          (gI th 8 a0 22).bind fun x9 =>
          (sI th o8 a1 x9).bind fun th10 =>
          (m_224 a0 th10).bind fun th11 =>
          (rB (Int32.ofInt 1)).bind fun y12 => some (y12, th11)
      else
        j3 ()
    )
theorem c_227 {a0 : Nat} {a1 : Int32} {a2 : Int32} {a3 : Int32} {th : tH} {x : (Int32 × tH)} (h : m_227 a0 a1 a2 a3 th = some x) : ∃ fs, th[a0]? = some (.inr (8, fs)) := gC_of h
theorem S_227 {L : Nat} (d : Nat) (a0 : Nat) (a1 : Int32) (a2 : Int32) (a3 : Int32) (th : tH) : Wx L (fun x => (some (.int x.1), x.2)) (d + 2) 227 4 0 [(0, .ref a0), (1, .int a1), (2, .int a2), (3, .int a3)] [] th (m_227 a0 a1 a2 a3 th) := by
  unfold m_227
  refine x_gC ?_
  refine x_P 1 rfl rfl rfl ?_
  refine x_gI rfl (fun x1 hx1 => ?_)
  refine x_P 5 rfl rfl rfl ?_
  refine x_jn 23 (fun v2 => [(0, .ref a0)]) (fun v2 => []) (fun v2 => th) (fun v2 => ?_) (fun j3 hj3 => ?_)
  · refine x_P 24 rfl rfl rfl ?_
    refine x_callV rfl rfl rfl rfl rfl ⟨rfl, rfl⟩ (fun x h => c_225 h) (S_225 d a0 th) (fun q4 hq4 => ?_)
    exact x_rBw rfl
  · refine x_ic_ne rfl rfl (fun h14 => ?_) (fun h14 => ?_)
    · refine x_P 9 rfl rfl rfl ?_
      refine x_gI rfl (fun x6 hx6 => ?_)
      refine x_P 13 rfl rfl rfl ?_
      refine x_P 14 rfl rfl rfl ?_
      refine x_P 15 rfl rfl rfl ?_
      refine x_P 16 rfl rfl rfl ?_
      refine x_P 17 rfl rfl rfl ?_
      refine x_callS rfl rfl rfl rfl rfl rfl ⟨rfl, rfl⟩ (S_190 (d + 1) (Int32.toInt64 x6) (Int32.toInt64 a2) (Int32.toInt64 a3) th) (fun x7 hx7 => ?_)
      refine x_if_ne rfl rfl (fun h13 => ?_) (fun h13 => ?_)
      · exact x_lv (hj3 ()) ⟨rfl, trivial⟩
      · refine x_P 29 rfl rfl rfl ?_
        refine x_gN rfl (fun o8 ho8 => ?_)
        refine x_P 33 rfl rfl rfl ?_
        refine x_P 34 rfl rfl rfl ?_
        refine x_gI rfl (fun x9 hx9 => ?_)
        refine x_sI rfl ⟨rfl, rfl⟩ (fun th10 hth10 => ?_)
        refine x_P 39 rfl rfl rfl ?_
        refine x_callW rfl rfl rfl rfl rfl ⟨rfl, rfl⟩ (fun x h => c_224 h) (S_224 d a0 th10) (fun th11 hth11 => ?_)
        refine x_P 43 rfl rfl rfl ?_
        exact x_rBw rfl
    · exact x_lv (hj3 ()) ⟨rfl, trivial⟩
-- 228 NineTreesModel.tells(II)Z
noncomputable def m_228 (a0 : Nat) (a1 : Int32) (a2 : Int32) (th : tH) : Option (Int32 × tH) :=
  (gC th 8 a0).bind fun _ =>
  (m_224 a0 th).bind fun th1 =>
  (m_227 a0 (Int32.ofInt 0) a1 a2 th1).bind fun q2 =>
  (rB q2.1).bind fun y3 => some (y3, q2.2)
theorem c_228 {a0 : Nat} {a1 : Int32} {a2 : Int32} {th : tH} {x : (Int32 × tH)} (h : m_228 a0 a1 a2 th = some x) : ∃ fs, th[a0]? = some (.inr (8, fs)) := gC_of h
theorem S_228 {L : Nat} (d : Nat) (a0 : Nat) (a1 : Int32) (a2 : Int32) (th : tH) : Wx L (fun x => (some (.int x.1), x.2)) (d + 3) 228 3 0 [(0, .ref a0), (1, .int a1), (2, .int a2)] [] th (m_228 a0 a1 a2 th) := by
  unfold m_228
  refine x_gC ?_
  refine x_P 1 rfl rfl rfl ?_
  refine x_callW rfl rfl rfl rfl rfl ⟨rfl, rfl⟩ (fun x h => c_224 h) (S_224 (d + 1) a0 th) (fun th1 hth1 => ?_)
  refine x_P 5 rfl rfl rfl ?_
  refine x_P 6 rfl rfl rfl ?_
  refine x_P 7 rfl rfl rfl ?_
  refine x_P 8 rfl rfl rfl ?_
  refine x_callV rfl rfl rfl rfl rfl ⟨rfl, rfl⟩ (fun x h => c_227 h) (S_227 d a0 (Int32.ofInt 0) a1 a2 th1) (fun q2 hq2 => ?_)
  exact x_rBw rfl
-- 229 NineTreesModel.freeCell(I)Z
noncomputable def m_229 (a0 : Nat) (a1 : Int32) (th : tH) : Option (Int32 × tH) :=
  (gC th 8 a0).bind fun _ =>
  (gI th 8 a0 20).bind fun x1 =>
  jn (fun (v2 : Unit) =>
      (m_192 a0 th).bind fun x4 =>
      (m_227 a0 a1 (Int32.ofInt 0) (x4 - (Int32.ofInt 1)) th).bind fun q5 =>
      (rB q5.1).bind fun y6 => some (y6, q5.2)
    ) (fun j3 =>
      if x1 = (Int32.ofInt 2) then
        (gI th 8 a0 22).bind fun x7 =>
        (m_194 a0 x7 th).bind fun x8 =>
        if x8 = (Int32.ofInt (-1)) then
          j3 ()
        else
          (m_225 a0 th).bind fun q9 =>
          (rB q9.1).bind fun y10 => some (y10, q9.2)
      else
        j3 ()
    )
theorem c_229 {a0 : Nat} {a1 : Int32} {th : tH} {x : (Int32 × tH)} (h : m_229 a0 a1 th = some x) : ∃ fs, th[a0]? = some (.inr (8, fs)) := gC_of h
theorem S_229 {L : Nat} (d : Nat) (a0 : Nat) (a1 : Int32) (th : tH) : Wx L (fun x => (some (.int x.1), x.2)) (d + 3) 229 2 0 [(0, .ref a0), (1, .int a1)] [] th (m_229 a0 a1 th) := by
  unfold m_229
  refine x_gC ?_
  refine x_P 1 rfl rfl rfl ?_
  refine x_gI rfl (fun x1 hx1 => ?_)
  refine x_P 5 rfl rfl rfl ?_
  refine x_jn 25 (fun v2 => [(0, .ref a0), (1, .int a1)]) (fun v2 => []) (fun v2 => th) (fun v2 => ?_) (fun j3 hj3 => ?_)
  · refine x_P 26 rfl rfl rfl ?_
    refine x_P 27 rfl rfl rfl ?_
    refine x_P 28 rfl rfl rfl ?_
    refine x_P 29 rfl rfl rfl ?_
    refine x_callV rfl rfl rfl rfl rfl ⟨rfl, rfl⟩ (fun x h => c_192 h) (S_192 (d + 2) a0 th) (fun x4 hx4 => ?_)
    refine x_P 33 rfl rfl rfl ?_
    refine x_P 34 rfl rfl rfl ?_
    refine x_callV rfl rfl rfl rfl rfl ⟨rfl, rfl⟩ (fun x h => c_227 h) (S_227 d a0 a1 (Int32.ofInt 0) (x4 - (Int32.ofInt 1)) th) (fun q5 hq5 => ?_)
    exact x_rBw rfl
  · refine x_ic_ne rfl rfl (fun h12 => ?_) (fun h12 => ?_)
    · refine x_P 9 rfl rfl rfl ?_
      refine x_P 10 rfl rfl rfl ?_
      refine x_gI rfl (fun x7 hx7 => ?_)
      refine x_callV rfl rfl rfl rfl rfl ⟨rfl, rfl⟩ (fun x h => c_194 h) (S_194 (d + 2) a0 x7 th) (fun x8 hx8 => ?_)
      refine x_P 17 rfl rfl rfl ?_
      refine x_ic_eq rfl rfl (fun h11 => ?_) (fun h11 => ?_)
      · exact x_lv (hj3 ()) ⟨rfl, rfl, trivial⟩
      · refine x_P 21 rfl rfl rfl ?_
        refine x_callV rfl rfl rfl rfl rfl ⟨rfl, rfl⟩ (fun x h => c_225 h) (S_225 (d + 1) a0 th) (fun q9 hq9 => ?_)
        exact x_rBw rfl
    · exact x_lv (hj3 ()) ⟨rfl, rfl, trivial⟩
-- 230 NineTreesModel.wishTold()Z
noncomputable def m_230 (a0 : Nat) (th : tH) : Option (Int32 × tH) :=
  (gC th 8 a0).bind fun _ =>
  (m_224 a0 th).bind fun th1 =>
  lp (fun (s2 : Int32 × Int32 × tH) nx3 ex4 =>
      jn (fun (v11 : Unit) =>
          (gI s2.2.2 8 a0 20).bind fun x13 =>
          jn (fun (v14 : Unit) =>
              (m_225 a0 s2.2.2).bind fun q16 =>
              (rB q16.1).bind fun y17 => some (y17, q16.2)
            ) (fun j15 =>
              if x13 = (Int32.ofInt 2) then
                (gI s2.2.2 8 a0 22).bind fun x18 =>
                (m_191 a0 x18 s2.2.2).bind fun x19 =>
                if x19 = 0 then
                  j15 ()
                else
                  (gI s2.2.2 8 a0 22).bind fun x20 =>
                  (m_195 s2.1 x20 s2.2.2).bind fun x21 =>
                  if x21 = 0 then
                    (gI s2.2.2 8 a0 22).bind fun x22 =>
                    (m_224 a0 s2.2.2).bind fun th23 =>
                    nx3 ((s2.1 ||| ((Int32.ofInt 1) <<< (x22 &&& 31))), (s2.2.1 + Int32.ofInt 1), th23)
                  else
                    j15 ()
              else
                j15 ()
            )
        ) (fun j12 =>
          if s2.2.1 < (Int32.ofInt 3) then
            j12 ()
          else
            (gI s2.2.2 8 a0 20).bind fun x27 =>
            if x27 = (Int32.ofInt 2) then
              j12 ()
            else
              ex4 (s2.1, s2.2.2)
        )
    ) 4096 ((Int32.ofInt 0), (Int32.ofInt 0), th1) (fun (x5 : Int32 × tH) =>
      (gN x5.2 8 a0 15).bind fun o6 =>
      (gI x5.2 8 a0 14).bind fun x7 =>
      (pI x5.2 8 a0 14 (x7 + (Int32.ofInt 1))).bind fun th8 =>
      (sI th8 o6 x7 x5.1).bind fun th9 =>
      (rB (Int32.ofInt 1)).bind fun y10 => some (y10, th9)
    )
theorem c_230 {a0 : Nat} {th : tH} {x : (Int32 × tH)} (h : m_230 a0 th = some x) : ∃ fs, th[a0]? = some (.inr (8, fs)) := gC_of h
theorem S_230 {L : Nat} (d : Nat) (a0 : Nat) (th : tH) : Wx L (fun x => (some (.int x.1), x.2)) (d + 2) 230 3 0 [(0, .ref a0)] [] th (m_230 a0 th) := by
  unfold m_230
  refine x_gC ?_
  refine x_P 1 rfl rfl rfl ?_
  refine x_P (lv' := [(1, .int (Int32.ofInt 0)), (0, .ref a0)]) 2 rfl rfl rfl ?_
  refine x_P 3 rfl rfl rfl ?_
  refine x_P (lv' := [(2, .int (Int32.ofInt 0)), (1, .int (Int32.ofInt 0)), (0, .ref a0)]) 4 rfl rfl rfl ?_
  refine x_P 5 rfl rfl rfl ?_
  refine x_callW rfl rfl rfl rfl rfl ⟨rfl, rfl⟩ (fun x h => c_224 h) (S_224 d a0 th) (fun th1 hth1 => ?_)
  refine x_lv (lv := [(0, .ref a0), (1, .int (Int32.ofInt 0)), (2, .int (Int32.ofInt 0))]) (x_lp 75 (fun s2 => [(0, .ref a0), (1, .int s2.1), (2, .int s2.2.1)]) (fun s2 => s2.2.2) (fun x5 => [(0, .ref a0), (1, .int x5.1)]) (fun x5 => x5.2) (fun s2 nx3 hnx3 ex4 hex4 => ?_) (fun x5 => ?_) 4096 ((Int32.ofInt 0), (Int32.ofInt 0), th1)) ⟨rfl, rfl, rfl, trivial⟩
  · refine x_P 9 rfl rfl rfl ?_
    refine x_P 10 rfl rfl rfl ?_
    refine x_jn 21 (fun v11 => [(0, .ref a0), (1, .int s2.1), (2, .int s2.2.1)]) (fun v11 => []) (fun v11 => s2.2.2) (fun v11 => ?_) (fun j12 hj12 => ?_)
    · refine x_P 22 rfl rfl rfl ?_
      refine x_gI rfl (fun x13 hx13 => ?_)
      refine x_P 26 rfl rfl rfl ?_
      refine x_jn 51 (fun v14 => [(0, .ref a0)]) (fun v14 => []) (fun v14 => s2.2.2) (fun v14 => ?_) (fun j15 hj15 => ?_)
      · refine x_P 52 rfl rfl rfl ?_
        refine x_callV rfl rfl rfl rfl rfl ⟨rfl, rfl⟩ (fun x h => c_225 h) (S_225 d a0 s2.2.2) (fun q16 hq16 => ?_)
        exact x_rBw rfl
      · refine x_ic_ne rfl rfl (fun h26 => ?_) (fun h26 => ?_)
        · refine x_P 30 rfl rfl rfl ?_
          refine x_P 31 rfl rfl rfl ?_
          refine x_gI rfl (fun x18 hx18 => ?_)
          refine x_callV rfl rfl rfl rfl rfl ⟨rfl, rfl⟩ (fun x h => c_191 h) (S_191 d a0 x18 s2.2.2) (fun x19 hx19 => ?_)
          refine x_if_eq rfl rfl (fun h25 => ?_) (fun h25 => ?_)
          · exact x_lv (hj15 ()) ⟨rfl, trivial⟩
          · refine x_P 41 rfl rfl rfl ?_
            refine x_P 42 rfl rfl rfl ?_
            refine x_gI rfl (fun x20 hx20 => ?_)
            refine x_callS rfl rfl rfl rfl rfl rfl ⟨rfl, rfl⟩ (S_195 (d + 1) s2.1 x20 s2.2.2) (fun x21 hx21 => ?_)
            refine x_if_eq rfl rfl (fun h24 => ?_) (fun h24 => ?_)
            · refine x_P 57 rfl rfl rfl ?_
              refine x_P 58 rfl rfl rfl ?_
              refine x_P 59 rfl rfl rfl ?_
              refine x_gI rfl (fun x22 hx22 => ?_)
              refine x_P 63 rfl rfl rfl ?_
              refine x_P 64 rfl rfl rfl ?_
              refine x_P (lv' := [(1, .int (s2.1 ||| ((Int32.ofInt 1) <<< (x22 &&& 31)))), (0, .ref a0), (2, .int s2.2.1)]) 65 rfl rfl rfl ?_
              refine x_P (lv' := [(2, .int (s2.2.1 + Int32.ofInt 1)), (1, .int (s2.1 ||| ((Int32.ofInt 1) <<< (x22 &&& 31)))), (0, .ref a0)]) 68 rfl rfl rfl ?_
              refine x_P 69 rfl rfl rfl ?_
              refine x_callW rfl rfl rfl rfl rfl ⟨rfl, rfl⟩ (fun x h => c_224 h) (S_224 d a0 s2.2.2) (fun th23 hth23 => ?_)
              refine x_P 8 rfl rfl rfl ?_
              exact x_lv (hnx3 ((s2.1 ||| ((Int32.ofInt 1) <<< (x22 &&& 31))), (s2.2.1 + Int32.ofInt 1), th23)) ⟨rfl, rfl, rfl, trivial⟩
            · exact x_lv (hj15 ()) ⟨rfl, trivial⟩
        · exact x_lv (hj15 ()) ⟨rfl, trivial⟩
    · refine x_ic_lt rfl rfl (fun h29 => ?_) (fun h29 => ?_)
      · exact x_lv (hj12 ()) ⟨rfl, rfl, rfl, trivial⟩
      · refine x_P 14 rfl rfl rfl ?_
        refine x_gI rfl (fun x27 hx27 => ?_)
        refine x_P 18 rfl rfl rfl ?_
        refine x_ic_ne rfl rfl (fun h28 => ?_) (fun h28 => ?_)
        · exact x_lv (hj12 ()) ⟨rfl, rfl, rfl, trivial⟩
        · exact x_lv (hex4 (s2.1, s2.2.2)) ⟨rfl, rfl, trivial⟩
  · refine x_P 76 rfl rfl rfl ?_
    refine x_gN rfl (fun o6 ho6 => ?_)
    refine x_P 80 rfl rfl rfl ?_
    refine x_P 81 rfl rfl rfl ?_
    refine x_gI rfl (fun x7 hx7 => ?_)
    refine x_P 85 rfl rfl rfl ?_
    refine x_P 86 rfl rfl rfl ?_
    refine x_P 87 rfl rfl rfl ?_
    refine x_pI rfl (fun th8 hth8 => ?_)
    refine x_P 91 rfl rfl rfl ?_
    refine x_sI rfl ⟨rfl, rfl⟩ (fun th9 hth9 => ?_)
    refine x_P 93 rfl rfl rfl ?_
    exact x_rBw rfl
-- 231 NineTreesModel.moveTold()Z
noncomputable def m_231 (a0 : Nat) (th : tH) : Option (Int32 × tH) :=
  (gC th 8 a0).bind fun _ =>
  (m_224 a0 th).bind fun th1 =>
  (gI th1 8 a0 20).bind fun x2 =>
  jn (fun (v3 : Unit) =>
      (gI th1 8 a0 10).bind fun x5 =>
      (m_227 a0 (Int32.ofInt 0) (Int32.ofInt 0) (x5 - (Int32.ofInt 1)) th1).bind fun q6 =>
      jn (fun (v7 : tH) =>
          (rB (Int32.ofInt 0)).bind fun y9 => some (y9, v7)
        ) (fun j8 =>
          if q6.1 = 0 then
            j8 q6.2
          else
            (m_229 a0 (Int32.ofInt 1) q6.2).bind fun q10 =>
            if q10.1 = 0 then
              j8 q10.2
            else
              (gN q10.2 8 a0 12).bind fun o11 =>
              (gN q10.2 8 a0 24).bind fun o12 =>
              (aI q10.2 o12 (Int32.ofInt 0)).bind fun x13 =>
              (gN q10.2 8 a0 24).bind fun o14 =>
              (aI q10.2 o14 (Int32.ofInt 1)).bind fun x15 =>
              (sI q10.2 o11 x13 x15).bind fun th16 =>
              (rB (Int32.ofInt 1)).bind fun y17 => some (y17, th16)
        )
    ) (fun j4 =>
      if x2 = (Int32.ofInt 2) then
        (gI th1 8 a0 22).bind fun x20 =>
        (m_191 a0 x20 th1).bind fun x21 =>
        if x21 = 0 then
          j4 ()
        else
          (gI th1 8 a0 22).bind fun x22 =>
          (m_197 a0 x22 th1).bind fun x23 =>
          if x23 = 0 then
            j4 ()
          else
            (m_225 a0 th1).bind fun q24 =>
            (rB q24.1).bind fun y25 => some (y25, q24.2)
      else
        j4 ()
    )
theorem c_231 {a0 : Nat} {th : tH} {x : (Int32 × tH)} (h : m_231 a0 th = some x) : ∃ fs, th[a0]? = some (.inr (8, fs)) := gC_of h
theorem S_231 {L : Nat} (d : Nat) (a0 : Nat) (th : tH) : Wx L (fun x => (some (.int x.1), x.2)) (d + 4) 231 1 0 [(0, .ref a0)] [] th (m_231 a0 th) := by
  unfold m_231
  refine x_gC ?_
  refine x_P 1 rfl rfl rfl ?_
  refine x_callW rfl rfl rfl rfl rfl ⟨rfl, rfl⟩ (fun x h => c_224 h) (S_224 (d + 2) a0 th) (fun th1 hth1 => ?_)
  refine x_P 5 rfl rfl rfl ?_
  refine x_gI rfl (fun x2 hx2 => ?_)
  refine x_P 9 rfl rfl rfl ?_
  refine x_jn 39 (fun v3 => [(0, .ref a0)]) (fun v3 => []) (fun v3 => th1) (fun v3 => ?_) (fun j4 hj4 => ?_)
  · refine x_P 40 rfl rfl rfl ?_
    refine x_P 41 rfl rfl rfl ?_
    refine x_P 42 rfl rfl rfl ?_
    refine x_P 43 rfl rfl rfl ?_
    refine x_gI rfl (fun x5 hx5 => ?_)
    refine x_P 47 rfl rfl rfl ?_
    refine x_P 48 rfl rfl rfl ?_
    refine x_callV rfl rfl rfl rfl rfl ⟨rfl, rfl⟩ (fun x h => c_227 h) (S_227 (d + 1) a0 (Int32.ofInt 0) (Int32.ofInt 0) (x5 - (Int32.ofInt 1)) th1) (fun q6 hq6 => ?_)
    refine x_jn 62 (fun v7 => []) (fun v7 => []) (fun v7 => v7) (fun v7 => ?_) (fun j8 hj8 => ?_)
    · refine x_P 63 rfl rfl rfl ?_
      exact x_rBw rfl
    · refine x_if_eq rfl rfl (fun h19 => ?_) (fun h19 => ?_)
      · exact x_lv (hj8 q6.2) trivial
      · refine x_P 55 rfl rfl rfl ?_
        refine x_P 56 rfl rfl rfl ?_
        refine x_callV rfl rfl rfl rfl rfl ⟨rfl, rfl⟩ (fun x h => c_229 h) (S_229 d a0 (Int32.ofInt 1) q6.2) (fun q10 hq10 => ?_)
        refine x_if_ne rfl rfl (fun h18 => ?_) (fun h18 => ?_)
        · exact x_lv (hj8 q10.2) trivial
        · refine x_P 65 rfl rfl rfl ?_
          refine x_gN rfl (fun o11 ho11 => ?_)
          refine x_P 69 rfl rfl rfl ?_
          refine x_gN rfl (fun o12 ho12 => ?_)
          refine x_P 73 rfl rfl rfl ?_
          refine x_aI rfl ⟨rfl, rfl⟩ (fun x13 hx13 => ?_)
          refine x_P 75 rfl rfl rfl ?_
          refine x_gN rfl (fun o14 ho14 => ?_)
          refine x_P 79 rfl rfl rfl ?_
          refine x_aI rfl ⟨rfl, rfl⟩ (fun x15 hx15 => ?_)
          refine x_sI rfl ⟨rfl, rfl⟩ (fun th16 hth16 => ?_)
          refine x_P 82 rfl rfl rfl ?_
          exact x_rBw rfl
  · refine x_ic_ne rfl rfl (fun h28 => ?_) (fun h28 => ?_)
    · refine x_P 13 rfl rfl rfl ?_
      refine x_P 14 rfl rfl rfl ?_
      refine x_gI rfl (fun x20 hx20 => ?_)
      refine x_callV rfl rfl rfl rfl rfl ⟨rfl, rfl⟩ (fun x h => c_191 h) (S_191 (d + 2) a0 x20 th1) (fun x21 hx21 => ?_)
      refine x_if_eq rfl rfl (fun h27 => ?_) (fun h27 => ?_)
      · exact x_lv (hj4 ()) ⟨rfl, trivial⟩
      · refine x_P 24 rfl rfl rfl ?_
        refine x_P 25 rfl rfl rfl ?_
        refine x_gI rfl (fun x22 hx22 => ?_)
        refine x_callV rfl rfl rfl rfl rfl ⟨rfl, rfl⟩ (fun x h => c_197 h) (S_197 (d + 3) a0 x22 th1) (fun x23 hx23 => ?_)
        refine x_if_eq rfl rfl (fun h26 => ?_) (fun h26 => ?_)
        · exact x_lv (hj4 ()) ⟨rfl, trivial⟩
        · refine x_P 35 rfl rfl rfl ?_
          refine x_callV rfl rfl rfl rfl rfl ⟨rfl, rfl⟩ (fun x h => c_225 h) (S_225 (d + 2) a0 th1) (fun q24 hq24 => ?_)
          exact x_rBw rfl
    · exact x_lv (hj4 ()) ⟨rfl, trivial⟩
-- 232 NineTreesModel.statement()Z
noncomputable def m_232 (a0 : Nat) (th : tH) : Option (Int32 × tH) :=
  (gC th 8 a0).bind fun _ =>
  (m_226 a0 1006 th).bind fun x1 =>
  jn (fun (v2 : Unit) =>
      (m_226 a0 1007 th).bind fun x4 =>
      jn (fun (v5 : Unit) =>
          (m_226 a0 1008 th).bind fun x7 =>
          jn (fun (v8 : Unit) =>
              (m_226 a0 1009 th).bind fun x10 =>
              if x10 = 0 then
                (m_226 a0 1010 th).bind fun x11 =>
                jn (fun (v12 : Unit) =>
                    (m_225 a0 th).bind fun q14 =>
                    (rB q14.1).bind fun y15 => some (y15, q14.2)
                  ) (fun j13 =>
                    if x11 = 0 then
                      j13 ()
                    else
                      (m_218 a0 th).bind fun x16 =>
                      if x16 = 0 then
                        j13 ()
                      else
                        (gI th 8 a0 10).bind fun x17 =>
                        (pI th 8 a0 10 (x17 - (Int32.ofInt 1))).bind fun th18 =>
                        (m_224 a0 th18).bind fun th19 =>
                        (rB (Int32.ofInt 1)).bind fun y20 => some (y20, th19)
                  )
              else
                (m_231 a0 th).bind fun q23 =>
                (rB q23.1).bind fun y24 => some (y24, q23.2)
            ) (fun j9 =>
              if x7 = 0 then
                j9 ()
              else
                (gI th 8 a0 14).bind fun x26 =>
                if (Int8.ofInt 8).toInt32 ≤ x26 then
                  j9 ()
                else
                  (m_230 a0 th).bind fun q27 =>
                  (rB q27.1).bind fun y28 => some (y28, q27.2)
            )
        ) (fun j6 =>
          if x4 = 0 then
            j6 ()
          else
            (gI th 8 a0 10).bind fun x31 =>
            if (Int8.ofInt 12).toInt32 ≤ x31 then
              j6 ()
            else
              (m_228 a0 (Int32.ofInt 0) (Int32.ofInt 5) th).bind fun q32 =>
              jn (fun (v33 : tH) =>
                  (rB (Int32.ofInt 0)).bind fun y35 => some (y35, v33)
                ) (fun j34 =>
                  if q32.1 = 0 then
                    j34 q32.2
                  else
                    (m_229 a0 (Int32.ofInt 1) q32.2).bind fun q36 =>
                    if q36.1 = 0 then
                      j34 q36.2
                    else
                      (m_227 a0 (Int32.ofInt 2) (Int32.ofInt 0) (Int8.ofInt 9).toInt32 q36.2).bind fun q37 =>
                      if q37.1 = 0 then
                        j34 q37.2
                      else
                        (gN q37.2 8 a0 24).bind fun o38 =>
                        (aI q37.2 o38 (Int32.ofInt 0)).bind fun x39 =>
                        (gN q37.2 8 a0 24).bind fun o40 =>
                        (aI q37.2 o40 (Int32.ofInt 1)).bind fun x41 =>
                        (gN q37.2 8 a0 24).bind fun o42 =>
                        (aI q37.2 o42 (Int32.ofInt 2)).bind fun x43 =>
                        (m_212 a0 x39 x41 x43 q37.2).bind fun th44 =>
                        (rB (Int32.ofInt 1)).bind fun y45 => some (y45, th44)
                )
        )
    ) (fun j3 =>
      if x1 = 0 then
        j3 ()
      else
        (gI th 8 a0 10).bind fun x51 =>
        if x51 = 0 then
          (m_228 a0 (Int32.ofInt 3) (Int8.ofInt 8).toInt32 th).bind fun q52 =>
          jn (fun (v53 : Int32 × Nat) =>
              (pI q52.2 8 v53.2 9 v53.1).bind fun th55 =>
              (rB q52.1).bind fun y56 => some (y56, th55)
            ) (fun j54 =>
              if q52.1 = 0 then
                (gI q52.2 8 a0 9).bind fun x57 =>
                j54 (x57, a0)
              else
                (gN q52.2 8 a0 24).bind fun o58 =>
                (aI q52.2 o58 (Int32.ofInt 0)).bind fun x59 =>
                j54 (x59, a0)
            )
        else
          j3 ()
    )
theorem c_232 {a0 : Nat} {th : tH} {x : (Int32 × tH)} (h : m_232 a0 th = some x) : ∃ fs, th[a0]? = some (.inr (8, fs)) := gC_of h
theorem S_232 {L : Nat} (d : Nat) (a0 : Nat) (th : tH) : Wx L (fun x => (some (.int x.1), x.2)) (d + 5) 232 2 0 [(0, .ref a0)] [] th (m_232 a0 th) := by
  unfold m_232
  refine x_gC ?_
  refine x_P 1 rfl rfl rfl ?_
  refine x_ls rfl ⟨rfl, rfl⟩ ?_
  refine x_callV rfl rfl rfl rfl rfl ⟨rfl, rfl⟩ (fun x h => c_226 h) (S_226 d a0 1006 th) (fun x1 hx1 => ?_)
  refine x_jn 47 (fun v2 => [(0, .ref a0)]) (fun v2 => []) (fun v2 => th) (fun v2 => ?_) (fun j3 hj3 => ?_)
  · refine x_P 48 rfl rfl rfl ?_
    refine x_ls rfl ⟨rfl, rfl⟩ ?_
    refine x_callV rfl rfl rfl rfl rfl ⟨rfl, rfl⟩ (fun x h => c_226 h) (S_226 d a0 1007 th) (fun x4 hx4 => ?_)
    refine x_jn 119 (fun v5 => [(0, .ref a0)]) (fun v5 => []) (fun v5 => th) (fun v5 => ?_) (fun j6 hj6 => ?_)
    · refine x_P 120 rfl rfl rfl ?_
      refine x_ls rfl ⟨rfl, rfl⟩ ?_
      refine x_callV rfl rfl rfl rfl rfl ⟨rfl, rfl⟩ (fun x h => c_226 h) (S_226 d a0 1008 th) (fun x7 hx7 => ?_)
      refine x_jn 142 (fun v8 => [(0, .ref a0)]) (fun v8 => []) (fun v8 => th) (fun v8 => ?_) (fun j9 hj9 => ?_)
      · refine x_P 143 rfl rfl rfl ?_
        refine x_ls rfl ⟨rfl, rfl⟩ ?_
        refine x_callV rfl rfl rfl rfl rfl ⟨rfl, rfl⟩ (fun x h => c_226 h) (S_226 d a0 1009 th) (fun x10 hx10 => ?_)
        refine x_if_eq rfl rfl (fun h25 => ?_) (fun h25 => ?_)
        · refine x_P 157 rfl rfl rfl ?_
          refine x_ls rfl ⟨rfl, rfl⟩ ?_
          refine x_callV rfl rfl rfl rfl rfl ⟨rfl, rfl⟩ (fun x h => c_226 h) (S_226 d a0 1010 th) (fun x11 hx11 => ?_)
          refine x_jn 188 (fun v12 => [(0, .ref a0)]) (fun v12 => []) (fun v12 => th) (fun v12 => ?_) (fun j13 hj13 => ?_)
          · refine x_P 189 rfl rfl rfl ?_
            refine x_callV rfl rfl rfl rfl rfl ⟨rfl, rfl⟩ (fun x h => c_225 h) (S_225 (d + 3) a0 th) (fun q14 hq14 => ?_)
            exact x_rBw rfl
          · refine x_if_eq rfl rfl (fun h22 => ?_) (fun h22 => ?_)
            · exact x_lv (hj13 ()) ⟨rfl, trivial⟩
            · refine x_P 166 rfl rfl rfl ?_
              refine x_callV rfl rfl rfl rfl rfl ⟨rfl, rfl⟩ (fun x h => c_218 h) (S_218 (d + 2) a0 th) (fun x16 hx16 => ?_)
              refine x_if_eq rfl rfl (fun h21 => ?_) (fun h21 => ?_)
              · exact x_lv (hj13 ()) ⟨rfl, trivial⟩
              · refine x_P 173 rfl rfl rfl ?_
                refine x_P 174 rfl rfl rfl ?_
                refine x_gI rfl (fun x17 hx17 => ?_)
                refine x_P 178 rfl rfl rfl ?_
                refine x_P 179 rfl rfl rfl ?_
                refine x_pI rfl (fun th18 hth18 => ?_)
                refine x_P 183 rfl rfl rfl ?_
                refine x_callW rfl rfl rfl rfl rfl ⟨rfl, rfl⟩ (fun x h => c_224 h) (S_224 (d + 3) a0 th18) (fun th19 hth19 => ?_)
                refine x_P 187 rfl rfl rfl ?_
                exact x_rBw rfl
        · refine x_P 152 rfl rfl rfl ?_
          refine x_callV rfl rfl rfl rfl rfl ⟨rfl, rfl⟩ (fun x h => c_231 h) (S_231 d a0 th) (fun q23 hq23 => ?_)
          exact x_rBw rfl
      · refine x_if_eq rfl rfl (fun h30 => ?_) (fun h30 => ?_)
        · exact x_lv (hj9 ()) ⟨rfl, trivial⟩
        · refine x_P 129 rfl rfl rfl ?_
          refine x_gI rfl (fun x26 hx26 => ?_)
          refine x_P 134 rfl rfl rfl ?_
          refine x_ic_ge rfl rfl (fun h29 => ?_) (fun h29 => ?_)
          · exact x_lv (hj9 ()) ⟨rfl, trivial⟩
          · refine x_P 138 rfl rfl rfl ?_
            refine x_callV rfl rfl rfl rfl rfl ⟨rfl, rfl⟩ (fun x h => c_230 h) (S_230 (d + 2) a0 th) (fun q27 hq27 => ?_)
            exact x_rBw rfl
    · refine x_if_eq rfl rfl (fun h50 => ?_) (fun h50 => ?_)
      · exact x_lv (hj6 ()) ⟨rfl, trivial⟩
      · refine x_P 57 rfl rfl rfl ?_
        refine x_gI rfl (fun x31 hx31 => ?_)
        refine x_P 62 rfl rfl rfl ?_
        refine x_ic_ge rfl rfl (fun h49 => ?_) (fun h49 => ?_)
        · exact x_lv (hj6 ()) ⟨rfl, trivial⟩
        · refine x_P 66 rfl rfl rfl ?_
          refine x_P 67 rfl rfl rfl ?_
          refine x_P 68 rfl rfl rfl ?_
          refine x_callV rfl rfl rfl rfl rfl ⟨rfl, rfl⟩ (fun x h => c_228 h) (S_228 (d + 1) a0 (Int32.ofInt 0) (Int32.ofInt 5) th) (fun q32 hq32 => ?_)
          refine x_jn 93 (fun v33 => []) (fun v33 => []) (fun v33 => v33) (fun v33 => ?_) (fun j34 hj34 => ?_)
          · refine x_P 94 rfl rfl rfl ?_
            exact x_rBw rfl
          · refine x_if_eq rfl rfl (fun h48 => ?_) (fun h48 => ?_)
            · exact x_lv (hj34 q32.2) trivial
            · refine x_P 75 rfl rfl rfl ?_
              refine x_P 76 rfl rfl rfl ?_
              refine x_callV rfl rfl rfl rfl rfl ⟨rfl, rfl⟩ (fun x h => c_229 h) (S_229 (d + 1) a0 (Int32.ofInt 1) q32.2) (fun q36 hq36 => ?_)
              refine x_if_eq rfl rfl (fun h47 => ?_) (fun h47 => ?_)
              · exact x_lv (hj34 q36.2) trivial
              · refine x_P 83 rfl rfl rfl ?_
                refine x_P 84 rfl rfl rfl ?_
                refine x_P 85 rfl rfl rfl ?_
                refine x_P 87 rfl rfl rfl ?_
                refine x_callV rfl rfl rfl rfl rfl ⟨rfl, rfl⟩ (fun x h => c_227 h) (S_227 (d + 2) a0 (Int32.ofInt 2) (Int32.ofInt 0) (Int8.ofInt 9).toInt32 q36.2) (fun q37 hq37 => ?_)
                refine x_if_ne rfl rfl (fun h46 => ?_) (fun h46 => ?_)
                · exact x_lv (hj34 q37.2) trivial
                · refine x_P 96 rfl rfl rfl ?_
                  refine x_P 97 rfl rfl rfl ?_
                  refine x_gN rfl (fun o38 ho38 => ?_)
                  refine x_P 101 rfl rfl rfl ?_
                  refine x_aI rfl ⟨rfl, rfl⟩ (fun x39 hx39 => ?_)
                  refine x_P 103 rfl rfl rfl ?_
                  refine x_gN rfl (fun o40 ho40 => ?_)
                  refine x_P 107 rfl rfl rfl ?_
                  refine x_aI rfl ⟨rfl, rfl⟩ (fun x41 hx41 => ?_)
                  refine x_P 109 rfl rfl rfl ?_
                  refine x_gN rfl (fun o42 ho42 => ?_)
                  refine x_P 113 rfl rfl rfl ?_
                  refine x_aI rfl ⟨rfl, rfl⟩ (fun x43 hx43 => ?_)
                  refine x_callW rfl rfl rfl rfl rfl ⟨rfl, rfl⟩ (fun x h => c_212 h) (S_212 (d + 3) a0 x39 x41 x43 q37.2) (fun th44 hth44 => ?_)
                  refine x_P 118 rfl rfl rfl ?_
                  exact x_rBw rfl
  · refine x_if_eq rfl rfl (fun h62 => ?_) (fun h62 => ?_)
    · exact x_lv (hj3 ()) ⟨rfl, trivial⟩
    · refine x_P 10 rfl rfl rfl ?_
      refine x_gI rfl (fun x51 hx51 => ?_)
      refine x_if_ne rfl rfl (fun h61 => ?_) (fun h61 => ?_)
      · refine x_P 17 rfl rfl rfl ?_
        refine x_P 18 rfl rfl rfl ?_
        refine x_P 20 rfl rfl rfl ?_
        refine x_callV rfl rfl rfl rfl rfl ⟨rfl, rfl⟩ (fun x h => c_228 h) (S_228 (d + 1) a0 (Int32.ofInt 3) (Int8.ofInt 8).toInt32 th) (fun q52 hq52 => ?_)
        refine x_P (lv' := [(1, .int q52.1), (0, .ref a0)]) 24 rfl rfl rfl ?_
        refine x_P 25 rfl rfl rfl ?_
        refine x_P 26 rfl rfl rfl ?_
        refine x_jn 42 (fun v53 => [(1, .int q52.1)]) (fun v53 => [.int v53.1, .ref v53.2]) (fun v53 => q52.2) (fun v53 => ?_) (fun j54 hj54 => ?_)
        · refine x_pI rfl (fun th55 hth55 => ?_)
          refine x_P 46 rfl rfl rfl ?_
          exact x_rBw rfl
        · refine x_if_eq rfl rfl (fun h60 => ?_) (fun h60 => ?_)
          · refine x_P 39 rfl rfl rfl ?_
            refine x_gI rfl (fun x57 hx57 => ?_)
            exact x_lv (hj54 (x57, a0)) ⟨rfl, trivial⟩
          · refine x_P 30 rfl rfl rfl ?_
            refine x_gN rfl (fun o58 ho58 => ?_)
            refine x_P 34 rfl rfl rfl ?_
            refine x_aI rfl ⟨rfl, rfl⟩ (fun x59 hx59 => ?_)
            refine x_P 42 rfl rfl rfl ?_
            exact x_lv (hj54 (x59, a0)) ⟨rfl, trivial⟩
      · exact x_lv (hj3 ()) ⟨rfl, trivial⟩
-- 233 NineTreesModel.readAll()Z
noncomputable def m_233 (a0 : Nat) (th : tH) : Option (Int32 × tH) :=
  (gC th 8 a0).bind fun _ =>
  (pI th 8 a0 25 (Int32.ofInt 1)).bind fun th1 =>
  (pI th1 8 a0 19 (Int32.ofInt 0)).bind fun th2 =>
  (m_224 a0 th2).bind fun th3 =>
  (m_232 a0 th3).bind fun q4 =>
  if q4.1 = 0 then
    (rB (Int32.ofInt 0)).bind fun y22 => some (y22, q4.2)
  else
    lp (fun (s5 : tH) nx6 ex7 =>
        (gI s5 8 a0 20).bind fun x10 =>
        if x10 = 0 then
          ex7 s5
        else
          (gI s5 8 a0 20).bind fun x11 =>
          if x11 = (Int32.ofInt 3) then
            (m_224 a0 s5).bind fun th12 =>
            (m_232 a0 th12).bind fun q13 =>
            if q13.1 = 0 then
              (rB (Int32.ofInt 0)).bind fun y16 => some (y16, q13.2)
            else
              (gI q13.2 8 a0 25).bind fun x14 =>
              (pI q13.2 8 a0 25 (x14 + (Int32.ofInt 1))).bind fun th15 =>
              nx6 th15
          else
            (m_225 a0 s5).bind fun q18 =>
            (rB q18.1).bind fun y19 => some (y19, q18.2)
      ) 4096 q4.2 (fun (x8 : tH) =>
        (rB (Int32.ofInt 1)).bind fun y9 => some (y9, x8)
      )
theorem c_233 {a0 : Nat} {th : tH} {x : (Int32 × tH)} (h : m_233 a0 th = some x) : ∃ fs, th[a0]? = some (.inr (8, fs)) := gC_of h
theorem S_233 {L : Nat} (d : Nat) (a0 : Nat) (th : tH) : Wx L (fun x => (some (.int x.1), x.2)) (d + 6) 233 1 0 [(0, .ref a0)] [] th (m_233 a0 th) := by
  unfold m_233
  refine x_gC ?_
  refine x_P 1 rfl rfl rfl ?_
  refine x_P 2 rfl rfl rfl ?_
  refine x_pI rfl (fun th1 hth1 => ?_)
  refine x_P 6 rfl rfl rfl ?_
  refine x_P 7 rfl rfl rfl ?_
  refine x_pI rfl (fun th2 hth2 => ?_)
  refine x_P 11 rfl rfl rfl ?_
  refine x_callW rfl rfl rfl rfl rfl ⟨rfl, rfl⟩ (fun x h => c_224 h) (S_224 (d + 4) a0 th2) (fun th3 hth3 => ?_)
  refine x_P 15 rfl rfl rfl ?_
  refine x_callV rfl rfl rfl rfl rfl ⟨rfl, rfl⟩ (fun x h => c_232 h) (S_232 d a0 th3) (fun q4 hq4 => ?_)
  refine x_if_ne rfl rfl (fun h23 => ?_) (fun h23 => ?_)
  · refine x_P 22 rfl rfl rfl ?_
    exact x_rBw rfl
  · refine x_lv (lv := [(0, .ref a0)]) (x_lp 69 (fun s5 => [(0, .ref a0)]) (fun s5 => s5) (fun x8 => []) (fun x8 => x8) (fun s5 nx6 hnx6 ex7 hex7 => ?_) (fun x8 => ?_) 4096 q4.2) ⟨rfl, trivial⟩
    · refine x_P 24 rfl rfl rfl ?_
      refine x_gI rfl (fun x10 hx10 => ?_)
      refine x_if_eq rfl rfl (fun h21 => ?_) (fun h21 => ?_)
      · exact x_lv (hex7 s5) trivial
      · refine x_P 31 rfl rfl rfl ?_
        refine x_gI rfl (fun x11 hx11 => ?_)
        refine x_P 35 rfl rfl rfl ?_
        refine x_ic_eq rfl rfl (fun h20 => ?_) (fun h20 => ?_)
        · refine x_P 44 rfl rfl rfl ?_
          refine x_callW rfl rfl rfl rfl rfl ⟨rfl, rfl⟩ (fun x h => c_224 h) (S_224 (d + 4) a0 s5) (fun th12 hth12 => ?_)
          refine x_P 48 rfl rfl rfl ?_
          refine x_callV rfl rfl rfl rfl rfl ⟨rfl, rfl⟩ (fun x h => c_232 h) (S_232 d a0 th12) (fun q13 hq13 => ?_)
          refine x_if_ne rfl rfl (fun h17 => ?_) (fun h17 => ?_)
          · refine x_P 55 rfl rfl rfl ?_
            exact x_rBw rfl
          · refine x_P 57 rfl rfl rfl ?_
            refine x_P 58 rfl rfl rfl ?_
            refine x_gI rfl (fun x14 hx14 => ?_)
            refine x_P 62 rfl rfl rfl ?_
            refine x_P 63 rfl rfl rfl ?_
            refine x_pI rfl (fun th15 hth15 => ?_)
            refine x_P 23 rfl rfl rfl ?_
            exact x_lv (hnx6 th15) ⟨rfl, trivial⟩
        · refine x_P 39 rfl rfl rfl ?_
          refine x_callV rfl rfl rfl rfl rfl ⟨rfl, rfl⟩ (fun x h => c_225 h) (S_225 (d + 4) a0 s5) (fun q18 hq18 => ?_)
          exact x_rBw rfl
    · refine x_P 70 rfl rfl rfl ?_
      exact x_rBw rfl
-- 243 NineTreesModel.threesNow()I
noncomputable def m_243 (a0 : Nat) (th : tH) : Option (Int32 × tH) :=
  (gC th 8 a0).bind fun _ =>
  (m_240 a0 th).bind fun th1 =>
  lp (fun (s2 : Int32 × Int32) nx3 ex4 =>
      (gI th1 8 a0 27).bind fun x6 =>
      if x6 ≤ s2.2 then
        ex4 s2.1
      else
        (gN th1 8 a0 26).bind fun o7 =>
        (aI th1 o7 s2.2).bind fun x8 =>
        (m_196 x8 th1).bind fun x9 =>
        jn (fun (v10 : Int32 × Int32) =>
            nx3 ((v10.2 + v10.1), (s2.2 + Int32.ofInt 1))
          ) (fun j11 =>
            if x9 < (Int32.ofInt 3) then
              j11 ((Int32.ofInt 0), s2.1)
            else
              j11 ((Int32.ofInt 1), s2.1)
          )
    ) 4096 ((Int32.ofInt 0), (Int32.ofInt 0)) (fun (x5 : Int32) =>
      some (x5, th1)
    )
theorem c_243 {a0 : Nat} {th : tH} {x : (Int32 × tH)} (h : m_243 a0 th = some x) : ∃ fs, th[a0]? = some (.inr (8, fs)) := gC_of h
theorem S_243 {L : Nat} (d : Nat) (a0 : Nat) (th : tH) : Wx L (fun x => (some (.int x.1), x.2)) (d + 4) 243 3 0 [(0, .ref a0)] [] th (m_243 a0 th) := by
  unfold m_243
  refine x_gC ?_
  refine x_P 1 rfl rfl rfl ?_
  refine x_callW rfl rfl rfl rfl rfl ⟨rfl, rfl⟩ (fun x h => c_240 h) (S_240 d a0 th) (fun th1 hth1 => ?_)
  refine x_P 5 rfl rfl rfl ?_
  refine x_P (lv' := [(1, .int (Int32.ofInt 0)), (0, .ref a0)]) 6 rfl rfl rfl ?_
  refine x_P 7 rfl rfl rfl ?_
  refine x_P (lv' := [(2, .int (Int32.ofInt 0)), (1, .int (Int32.ofInt 0)), (0, .ref a0)]) 8 rfl rfl rfl ?_
  refine x_lv (lv := [(0, .ref a0), (1, .int (Int32.ofInt 0)), (2, .int (Int32.ofInt 0))]) (x_lp 43 (fun s2 => [(0, .ref a0), (1, .int s2.1), (2, .int s2.2)]) (fun s2 => th1) (fun x5 => [(1, .int x5)]) (fun x5 => th1) (fun s2 nx3 hnx3 ex4 hex4 => ?_) (fun x5 => ?_) 4096 ((Int32.ofInt 0), (Int32.ofInt 0))) ⟨rfl, rfl, rfl, trivial⟩
  · refine x_P 9 rfl rfl rfl ?_
    refine x_P 10 rfl rfl rfl ?_
    refine x_gI rfl (fun x6 hx6 => ?_)
    refine x_ic_ge rfl rfl (fun h13 => ?_) (fun h13 => ?_)
    · exact x_lv (hex4 s2.1) ⟨rfl, trivial⟩
    · refine x_P 17 rfl rfl rfl ?_
      refine x_P 18 rfl rfl rfl ?_
      refine x_gN rfl (fun o7 ho7 => ?_)
      refine x_P 22 rfl rfl rfl ?_
      refine x_aI rfl ⟨rfl, rfl⟩ (fun x8 hx8 => ?_)
      refine x_callS rfl rfl rfl rfl rfl rfl ⟨rfl, rfl⟩ (S_196 (d + 3) x8 th1) (fun x9 hx9 => ?_)
      refine x_P 27 rfl rfl rfl ?_
      refine x_jn 35 (fun v10 => [(0, .ref a0), (2, .int s2.2)]) (fun v10 => [.int v10.1, .int v10.2]) (fun v10 => th1) (fun v10 => ?_) (fun j11 hj11 => ?_)
      · refine x_P 36 rfl rfl rfl ?_
        refine x_P (lv' := [(1, .int (v10.2 + v10.1)), (0, .ref a0), (2, .int s2.2)]) 37 rfl rfl rfl ?_
        refine x_P (lv' := [(2, .int (s2.2 + Int32.ofInt 1)), (1, .int (v10.2 + v10.1)), (0, .ref a0)]) 40 rfl rfl rfl ?_
        refine x_P 8 rfl rfl rfl ?_
        exact x_lv (hnx3 ((v10.2 + v10.1), (s2.2 + Int32.ofInt 1))) ⟨rfl, rfl, rfl, trivial⟩
      · refine x_ic_lt rfl rfl (fun h12 => ?_) (fun h12 => ?_)
        · refine x_P 35 rfl rfl rfl ?_
          exact x_lv (hj11 ((Int32.ofInt 0), s2.1)) ⟨rfl, rfl, trivial⟩
        · refine x_P 31 rfl rfl rfl ?_
          refine x_P 35 rfl rfl rfl ?_
          exact x_lv (hj11 ((Int32.ofInt 1), s2.1)) ⟨rfl, rfl, trivial⟩
  · refine x_P 44 rfl rfl rfl ?_
    exact x_retI (x := (x5, th1)) rfl
-- 244 NineTreesModel.treeOf(II)I
noncomputable def m_244 (a0 : Nat) (a1 : Int32) (a2 : Int32) (th : tH) : Option (Int32 × tH) :=
  (gC th 8 a0).bind fun _ =>
  (m_191 a0 a1 th).bind fun x1 =>
  if x1 = 0 then
    (m_189 a0 (Int8.ofInt (-2)).toInt32 th).bind fun q17 =>
    some (q17.1, q17.2)
  else
    if a2 < 0 ∨ 4 < a2 then
      (m_189 a0 (Int8.ofInt (-2)).toInt32 th).bind fun q3 =>
      some (q3.1, q3.2)
    else if a2 = 0 then
      (gN th 8 a0 11).bind fun o5 =>
      (aI th o5 a1).bind fun x6 =>
      some (x6, th)
    else if a2 = 1 then
      (gN th 8 a0 12).bind fun o8 =>
      (aI th o8 a1).bind fun x9 =>
      some (x9, th)
    else if a2 = 2 then
      (gN th 8 a0 13).bind fun o11 =>
      (aI th o11 a1).bind fun x12 =>
      some (x12, th)
    else if a2 = 3 then
      (m_242 a0 a1 (Int32.ofInt 2) th).bind fun q14 =>
      some (q14.1, q14.2)
    else if a2 = 4 then
      (m_242 a0 a1 (Int32.ofInt 3) th).bind fun q16 =>
      some (q16.1, q16.2)
    else
      none
theorem c_244 {a0 : Nat} {a1 : Int32} {a2 : Int32} {th : tH} {x : (Int32 × tH)} (h : m_244 a0 a1 a2 th = some x) : ∃ fs, th[a0]? = some (.inr (8, fs)) := gC_of h
theorem S_244 {L : Nat} (d : Nat) (a0 : Nat) (a1 : Int32) (a2 : Int32) (th : tH) : Wx L (fun x => (some (.int x.1), x.2)) (d + 5) 244 3 0 [(0, .ref a0), (1, .int a1), (2, .int a2)] [] th (m_244 a0 a1 a2 th) := by
  unfold m_244
  refine x_gC ?_
  refine x_P 1 rfl rfl rfl ?_
  refine x_P 2 rfl rfl rfl ?_
  refine x_callV rfl rfl rfl rfl rfl ⟨rfl, rfl⟩ (fun x h => c_191 h) (S_191 (d + 3) a0 a1 th) (fun x1 hx1 => ?_)
  refine x_if_ne rfl rfl (fun h18 => ?_) (fun h18 => ?_)
  · refine x_P 9 rfl rfl rfl ?_
    refine x_P 11 rfl rfl rfl ?_
    refine x_callV rfl rfl rfl rfl rfl ⟨rfl, rfl⟩ (fun x h => c_189 h) (S_189 (d + 3) a0 (Int8.ofInt (-2)).toInt32 th) (fun q17 hq17 => ?_)
    exact x_retI (x := (q17.1, q17.2)) rfl
  · refine x_P 16 rfl rfl rfl ?_
    refine x_ite (fun h2 => ?_) (fun h2 => ?_)
    · refine x_P 87 rfl rfl (x_td h2 (by decide +kernel)) ?_
      refine x_P 88 rfl rfl rfl ?_
      refine x_P 90 rfl rfl rfl ?_
      refine x_callV rfl rfl rfl rfl rfl ⟨rfl, rfl⟩ (fun x h => c_189 h) (S_189 (d + 3) a0 (Int8.ofInt (-2)).toInt32 th) (fun q3 hq3 => ?_)
      exact x_retI (x := (q3.1, q3.2)) rfl
    · skip
      refine x_ite (fun h4 => ?_) (fun h4 => ?_)
      · refine x_P 52 rfl rfl (x_ts h4 (by decide +kernel)) ?_
        refine x_P 53 rfl rfl rfl ?_
        refine x_gN rfl (fun o5 ho5 => ?_)
        refine x_P 57 rfl rfl rfl ?_
        refine x_aI rfl ⟨rfl, rfl⟩ (fun x6 hx6 => ?_)
        exact x_retI (x := (x6, th)) rfl
      · skip
        refine x_ite (fun h7 => ?_) (fun h7 => ?_)
        · refine x_P 59 rfl rfl (x_ts h7 (by decide +kernel)) ?_
          refine x_P 60 rfl rfl rfl ?_
          refine x_gN rfl (fun o8 ho8 => ?_)
          refine x_P 64 rfl rfl rfl ?_
          refine x_aI rfl ⟨rfl, rfl⟩ (fun x9 hx9 => ?_)
          exact x_retI (x := (x9, th)) rfl
        · skip
          refine x_ite (fun h10 => ?_) (fun h10 => ?_)
          · refine x_P 66 rfl rfl (x_ts h10 (by decide +kernel)) ?_
            refine x_P 67 rfl rfl rfl ?_
            refine x_gN rfl (fun o11 ho11 => ?_)
            refine x_P 71 rfl rfl rfl ?_
            refine x_aI rfl ⟨rfl, rfl⟩ (fun x12 hx12 => ?_)
            exact x_retI (x := (x12, th)) rfl
          · skip
            refine x_ite (fun h13 => ?_) (fun h13 => ?_)
            · refine x_P 73 rfl rfl (x_ts h13 (by decide +kernel)) ?_
              refine x_P 74 rfl rfl rfl ?_
              refine x_P 75 rfl rfl rfl ?_
              refine x_P 76 rfl rfl rfl ?_
              refine x_callV rfl rfl rfl rfl rfl ⟨rfl, rfl⟩ (fun x h => c_242 h) (S_242 d a0 a1 (Int32.ofInt 2) th) (fun q14 hq14 => ?_)
              exact x_retI (x := (q14.1, q14.2)) rfl
            · skip
              refine x_ite (fun h15 => ?_) (fun h15 => ?_)
              · refine x_P 80 rfl rfl (x_ts h15 (by decide +kernel)) ?_
                refine x_P 81 rfl rfl rfl ?_
                refine x_P 82 rfl rfl rfl ?_
                refine x_P 83 rfl rfl rfl ?_
                refine x_callV rfl rfl rfl rfl rfl ⟨rfl, rfl⟩ (fun x h => c_242 h) (S_242 d a0 a1 (Int32.ofInt 3) th) (fun q16 hq16 => ?_)
                exact x_retI (x := (q16.1, q16.2)) rfl
              · skip
                exact x_none
-- 245 NineTreesModel.treeAt(I)I
noncomputable def m_245 (a0 : Nat) (a1 : Int32) (th : tH) : Option (Int32 × tH) :=
  (gC th 8 a0).bind fun _ =>
  (m_193 a0 a1 th).bind fun x1 =>
  jn (fun (v2 : Int32 × tH) =>
      some (v2.1, v2.2)
    ) (fun j3 =>
      if x1 = 0 then
        (m_189 a0 (Int8.ofInt (-2)).toInt32 th).bind fun q4 =>
        j3 (q4.1, q4.2)
      else
        (m_194 a0 a1 th).bind fun x5 =>
        j3 (x5, th)
    )
theorem c_245 {a0 : Nat} {a1 : Int32} {th : tH} {x : (Int32 × tH)} (h : m_245 a0 a1 th = some x) : ∃ fs, th[a0]? = some (.inr (8, fs)) := gC_of h
theorem S_245 {L : Nat} (d : Nat) (a0 : Nat) (a1 : Int32) (th : tH) : Wx L (fun x => (some (.int x.1), x.2)) (d + 2) 245 2 0 [(0, .ref a0), (1, .int a1)] [] th (m_245 a0 a1 th) := by
  unfold m_245
  refine x_gC ?_
  refine x_P 1 rfl rfl rfl ?_
  refine x_P 2 rfl rfl rfl ?_
  refine x_callV rfl rfl rfl rfl rfl ⟨rfl, rfl⟩ (fun x h => c_193 h) (S_193 d a0 a1 th) (fun x1 hx1 => ?_)
  refine x_jn 22 (fun v2 => []) (fun v2 => [.int v2.1]) (fun v2 => v2.2) (fun v2 => ?_) (fun j3 hj3 => ?_)
  · exact x_retI (x := (v2.1, v2.2)) rfl
  · refine x_if_eq rfl rfl (fun h6 => ?_) (fun h6 => ?_)
    · refine x_P 17 rfl rfl rfl ?_
      refine x_P 19 rfl rfl rfl ?_
      refine x_callV rfl rfl rfl rfl rfl ⟨rfl, rfl⟩ (fun x h => c_189 h) (S_189 d a0 (Int8.ofInt (-2)).toInt32 th) (fun q4 hq4 => ?_)
      exact x_lv (hj3 (q4.1, q4.2)) trivial
    · refine x_P 9 rfl rfl rfl ?_
      refine x_P 10 rfl rfl rfl ?_
      refine x_callV rfl rfl rfl rfl rfl ⟨rfl, rfl⟩ (fun x h => c_194 h) (S_194 (d + 1) a0 a1 th) (fun x5 hx5 => ?_)
      refine x_P 22 rfl rfl rfl ?_
      exact x_lv (hj3 (x5, th)) trivial
-- 246 NineTreesModel.many(I)I
noncomputable def m_246 (a0 : Nat) (a1 : Int32) (th : tH) : Option (Int32 × tH) :=
  (gC th 8 a0).bind fun _ =>
  (m_190 (Int32.toInt64 a1) (Int64.ofNat 2) (Int64.ofNat 12) th).bind fun x1 =>
  if x1 = 0 then
    (m_189 a0 (Int8.ofInt (-2)).toInt32 th).bind fun q15 =>
    some (q15.1, q15.2)
  else
    (m_240 a0 th).bind fun th2 =>
    lp (fun (s3 : Int32 × Int32) nx4 ex5 =>
        (gI th2 8 a0 27).bind fun x7 =>
        if x7 ≤ s3.2 then
          ex5 s3.1
        else
          (gN th2 8 a0 26).bind fun o8 =>
          (aI th2 o8 s3.2).bind fun x9 =>
          (m_196 x9 th2).bind fun x10 =>
          jn (fun (v11 : Int32 × Int32) =>
              nx4 ((v11.2 + v11.1), (s3.2 + Int32.ofInt 1))
            ) (fun j12 =>
              if x10 = a1 then
                j12 ((Int32.ofInt 1), s3.1)
              else
                j12 ((Int32.ofInt 0), s3.1)
            )
      ) 4096 ((Int32.ofInt 0), (Int32.ofInt 0)) (fun (x6 : Int32) =>
        some (x6, th2)
      )
theorem c_246 {a0 : Nat} {a1 : Int32} {th : tH} {x : (Int32 × tH)} (h : m_246 a0 a1 th = some x) : ∃ fs, th[a0]? = some (.inr (8, fs)) := gC_of h
theorem S_246 {L : Nat} (d : Nat) (a0 : Nat) (a1 : Int32) (th : tH) : Wx L (fun x => (some (.int x.1), x.2)) (d + 4) 246 4 0 [(0, .ref a0), (1, .int a1)] [] th (m_246 a0 a1 th) := by
  unfold m_246
  refine x_gC ?_
  refine x_P 1 rfl rfl rfl ?_
  refine x_P 2 rfl rfl rfl ?_
  refine x_P 5 rfl rfl rfl ?_
  refine x_P 8 rfl rfl rfl ?_
  refine x_callS rfl rfl rfl rfl rfl rfl ⟨rfl, rfl⟩ (S_190 (d + 3) (Int32.toInt64 a1) (Int64.ofNat 2) (Int64.ofNat 12) th) (fun x1 hx1 => ?_)
  refine x_if_ne rfl rfl (fun h16 => ?_) (fun h16 => ?_)
  · refine x_P 15 rfl rfl rfl ?_
    refine x_P 17 rfl rfl rfl ?_
    refine x_callV rfl rfl rfl rfl rfl ⟨rfl, rfl⟩ (fun x h => c_189 h) (S_189 (d + 2) a0 (Int8.ofInt (-2)).toInt32 th) (fun q15 hq15 => ?_)
    exact x_retI (x := (q15.1, q15.2)) rfl
  · refine x_P 22 rfl rfl rfl ?_
    refine x_callW rfl rfl rfl rfl rfl ⟨rfl, rfl⟩ (fun x h => c_240 h) (S_240 d a0 th) (fun th2 hth2 => ?_)
    refine x_P 26 rfl rfl rfl ?_
    refine x_P (lv' := [(2, .int (Int32.ofInt 0)), (0, .ref a0), (1, .int a1)]) 27 rfl rfl rfl ?_
    refine x_P 28 rfl rfl rfl ?_
    refine x_P (lv' := [(3, .int (Int32.ofInt 0)), (2, .int (Int32.ofInt 0)), (0, .ref a0), (1, .int a1)]) 29 rfl rfl rfl ?_
    refine x_lv (lv := [(0, .ref a0), (1, .int a1), (2, .int (Int32.ofInt 0)), (3, .int (Int32.ofInt 0))]) (x_lp 64 (fun s3 => [(0, .ref a0), (1, .int a1), (2, .int s3.1), (3, .int s3.2)]) (fun s3 => th2) (fun x6 => [(2, .int x6)]) (fun x6 => th2) (fun s3 nx4 hnx4 ex5 hex5 => ?_) (fun x6 => ?_) 4096 ((Int32.ofInt 0), (Int32.ofInt 0))) ⟨rfl, rfl, rfl, rfl, trivial⟩
    · refine x_P 30 rfl rfl rfl ?_
      refine x_P 31 rfl rfl rfl ?_
      refine x_gI rfl (fun x7 hx7 => ?_)
      refine x_ic_ge rfl rfl (fun h14 => ?_) (fun h14 => ?_)
      · exact x_lv (hex5 s3.1) ⟨rfl, trivial⟩
      · refine x_P 38 rfl rfl rfl ?_
        refine x_P 39 rfl rfl rfl ?_
        refine x_gN rfl (fun o8 ho8 => ?_)
        refine x_P 43 rfl rfl rfl ?_
        refine x_aI rfl ⟨rfl, rfl⟩ (fun x9 hx9 => ?_)
        refine x_callS rfl rfl rfl rfl rfl rfl ⟨rfl, rfl⟩ (S_196 (d + 3) x9 th2) (fun x10 hx10 => ?_)
        refine x_P 48 rfl rfl rfl ?_
        refine x_jn 56 (fun v11 => [(0, .ref a0), (1, .int a1), (3, .int s3.2)]) (fun v11 => [.int v11.1, .int v11.2]) (fun v11 => th2) (fun v11 => ?_) (fun j12 hj12 => ?_)
        · refine x_P 57 rfl rfl rfl ?_
          refine x_P (lv' := [(2, .int (v11.2 + v11.1)), (0, .ref a0), (1, .int a1), (3, .int s3.2)]) 58 rfl rfl rfl ?_
          refine x_P (lv' := [(3, .int (s3.2 + Int32.ofInt 1)), (2, .int (v11.2 + v11.1)), (0, .ref a0), (1, .int a1)]) 61 rfl rfl rfl ?_
          refine x_P 29 rfl rfl rfl ?_
          exact x_lv (hnx4 ((v11.2 + v11.1), (s3.2 + Int32.ofInt 1))) ⟨rfl, rfl, rfl, rfl, trivial⟩
        · refine x_ic_ne rfl rfl (fun h13 => ?_) (fun h13 => ?_)
          · refine x_P 52 rfl rfl rfl ?_
            refine x_P 56 rfl rfl rfl ?_
            exact x_lv (hj12 ((Int32.ofInt 1), s3.1)) ⟨rfl, rfl, rfl, trivial⟩
          · refine x_P 56 rfl rfl rfl ?_
            exact x_lv (hj12 ((Int32.ofInt 0), s3.1)) ⟨rfl, rfl, rfl, trivial⟩
    · refine x_P 65 rfl rfl rfl ?_
      exact x_retI (x := (x6, th2)) rfl
-- 247 NineTreesModel.threes()I
noncomputable def m_247 (a0 : Nat) (th : tH) : Option (Int32 × tH) :=
  (gC th 8 a0).bind fun _ =>
  (m_243 a0 th).bind fun q1 =>
  some (q1.1, q1.2)
theorem c_247 {a0 : Nat} {th : tH} {x : (Int32 × tH)} (h : m_247 a0 th = some x) : ∃ fs, th[a0]? = some (.inr (8, fs)) := gC_of h
theorem S_247 {L : Nat} (d : Nat) (a0 : Nat) (th : tH) : Wx L (fun x => (some (.int x.1), x.2)) (d + 5) 247 1 0 [(0, .ref a0)] [] th (m_247 a0 th) := by
  unfold m_247
  refine x_gC ?_
  refine x_P 1 rfl rfl rfl ?_
  refine x_callV rfl rfl rfl rfl rfl ⟨rfl, rfl⟩ (fun x h => c_243 h) (S_243 d a0 th) (fun q1 hq1 => ?_)
  exact x_retI (x := (q1.1, q1.2)) rfl
-- 248 NineTreesModel.rowAt(II)I
noncomputable def m_248 (a0 : Nat) (a1 : Int32) (a2 : Int32) (th : tH) : Option (Int32 × tH) :=
  (gC th 8 a0).bind fun _ =>
  (m_190 (Int32.toInt64 a1) (Int64.ofNat 2) (Int64.ofNat 12) th).bind fun x1 =>
  jn (fun (v2 : Unit) =>
      (m_189 a0 (Int8.ofInt (-2)).toInt32 th).bind fun q4 =>
      some (q4.1, q4.2)
    ) (fun j3 =>
      if x1 = 0 then
        j3 ()
      else
        if 0 ≤ a2 then
          (m_240 a0 th).bind fun th5 =>
          lp (fun (s6 : Int32 × Int32) nx7 ex8 =>
              (gI th5 8 a0 27).bind fun x11 =>
              if x11 ≤ s6.2 then
                ex8 ()
              else
                (gN th5 8 a0 26).bind fun o12 =>
                (aI th5 o12 s6.2).bind fun x13 =>
                (m_196 x13 th5).bind fun x14 =>
                jn (fun (v15 : Int32) =>
                    nx7 (v15, (s6.2 + Int32.ofInt 1))
                  ) (fun j16 =>
                    if x14 = a1 then
                      if s6.1 = 0 then
                        (gN th5 8 a0 26).bind fun o17 =>
                        (aI th5 o17 s6.2).bind fun x18 =>
                        some (x18, th5)
                      else
                        j16 (s6.1 + Int32.ofInt (-1))
                    else
                      j16 s6.1
                  )
            ) 4096 (a2, (Int32.ofInt 0)) (fun (x9 : Unit) =>
              (m_189 a0 (Int8.ofInt (-5)).toInt32 th5).bind fun q10 =>
              some (q10.1, q10.2)
            )
        else
          j3 ()
    )
theorem c_248 {a0 : Nat} {a1 : Int32} {a2 : Int32} {th : tH} {x : (Int32 × tH)} (h : m_248 a0 a1 a2 th = some x) : ∃ fs, th[a0]? = some (.inr (8, fs)) := gC_of h
theorem S_248 {L : Nat} (d : Nat) (a0 : Nat) (a1 : Int32) (a2 : Int32) (th : tH) : Wx L (fun x => (some (.int x.1), x.2)) (d + 4) 248 5 0 [(0, .ref a0), (1, .int a1), (2, .int a2)] [] th (m_248 a0 a1 a2 th) := by
  unfold m_248
  refine x_gC ?_
  refine x_P 1 rfl rfl rfl ?_
  refine x_P 2 rfl rfl rfl ?_
  refine x_P 5 rfl rfl rfl ?_
  refine x_P 8 rfl rfl rfl ?_
  refine x_callS rfl rfl rfl rfl rfl rfl ⟨rfl, rfl⟩ (S_190 (d + 3) (Int32.toInt64 a1) (Int64.ofNat 2) (Int64.ofNat 12) th) (fun x1 hx1 => ?_)
  refine x_jn 18 (fun v2 => [(0, .ref a0)]) (fun v2 => []) (fun v2 => th) (fun v2 => ?_) (fun j3 hj3 => ?_)
  · refine x_P 19 rfl rfl rfl ?_
    refine x_P 21 rfl rfl rfl ?_
    refine x_callV rfl rfl rfl rfl rfl ⟨rfl, rfl⟩ (fun x h => c_189 h) (S_189 (d + 2) a0 (Int8.ofInt (-2)).toInt32 th) (fun q4 hq4 => ?_)
    exact x_retI (x := (q4.1, q4.2)) rfl
  · refine x_if_eq rfl rfl (fun h23 => ?_) (fun h23 => ?_)
    · exact x_lv (hj3 ()) ⟨rfl, trivial⟩
    · refine x_P 15 rfl rfl rfl ?_
      refine x_if_ge rfl rfl (fun h22 => ?_) (fun h22 => ?_)
      · refine x_P 26 rfl rfl rfl ?_
        refine x_callW rfl rfl rfl rfl rfl ⟨rfl, rfl⟩ (fun x h => c_240 h) (S_240 d a0 th) (fun th5 hth5 => ?_)
        refine x_P 30 rfl rfl rfl ?_
        refine x_P (lv' := [(3, .int a2), (0, .ref a0), (1, .int a1), (2, .int a2)]) 31 rfl rfl rfl ?_
        refine x_P 32 rfl rfl rfl ?_
        refine x_P (lv' := [(4, .int (Int32.ofInt 0)), (3, .int a2), (0, .ref a0), (1, .int a1), (2, .int a2)]) 34 rfl rfl rfl ?_
        refine x_lv (lv := [(0, .ref a0), (1, .int a1), (3, .int a2), (4, .int (Int32.ofInt 0))]) (x_lp 78 (fun s6 => [(0, .ref a0), (1, .int a1), (3, .int s6.1), (4, .int s6.2)]) (fun s6 => th5) (fun x9 => [(0, .ref a0)]) (fun x9 => th5) (fun s6 nx7 hnx7 ex8 hex8 => ?_) (fun x9 => ?_) 4096 (a2, (Int32.ofInt 0))) ⟨rfl, rfl, rfl, rfl, trivial⟩
        · refine x_P 36 rfl rfl rfl ?_
          refine x_P 37 rfl rfl rfl ?_
          refine x_gI rfl (fun x11 hx11 => ?_)
          refine x_ic_ge rfl rfl (fun h21 => ?_) (fun h21 => ?_)
          · exact x_lv (hex8 ()) ⟨rfl, trivial⟩
          · refine x_P 44 rfl rfl rfl ?_
            refine x_gN rfl (fun o12 ho12 => ?_)
            refine x_P 49 rfl rfl rfl ?_
            refine x_aI rfl ⟨rfl, rfl⟩ (fun x13 hx13 => ?_)
            refine x_callS rfl rfl rfl rfl rfl rfl ⟨rfl, rfl⟩ (S_196 (d + 3) x13 th5) (fun x14 hx14 => ?_)
            refine x_P 54 rfl rfl rfl ?_
            refine x_jn 72 (fun v15 => [(0, .ref a0), (1, .int a1), (3, .int v15), (4, .int s6.2)]) (fun v15 => []) (fun v15 => th5) (fun v15 => ?_) (fun j16 hj16 => ?_)
            · refine x_P (lv' := [(4, .int (s6.2 + Int32.ofInt 1)), (0, .ref a0), (1, .int a1), (3, .int v15)]) 75 rfl rfl rfl ?_
              refine x_P 34 rfl rfl rfl ?_
              exact x_lv (hnx7 (v15, (s6.2 + Int32.ofInt 1))) ⟨rfl, rfl, rfl, rfl, trivial⟩
            · refine x_ic_ne rfl rfl (fun h20 => ?_) (fun h20 => ?_)
              · refine x_P 58 rfl rfl rfl ?_
                refine x_P (lv' := [(3, .int (s6.1 + Int32.ofInt (-1))), (0, .ref a0), (1, .int a1), (4, .int s6.2)]) 61 rfl rfl rfl ?_
                refine x_if_ne rfl rfl (fun h19 => ?_) (fun h19 => ?_)
                · refine x_P 65 rfl rfl rfl ?_
                  refine x_gN rfl (fun o17 ho17 => ?_)
                  refine x_P 70 rfl rfl rfl ?_
                  refine x_aI rfl ⟨rfl, rfl⟩ (fun x18 hx18 => ?_)
                  exact x_retI (x := (x18, th5)) rfl
                · exact x_lv (hj16 (s6.1 + Int32.ofInt (-1))) ⟨rfl, rfl, rfl, rfl, trivial⟩
              · exact x_lv (hj16 s6.1) ⟨rfl, rfl, rfl, rfl, trivial⟩
        · refine x_P 79 rfl rfl rfl ?_
          refine x_P 81 rfl rfl rfl ?_
          refine x_callV rfl rfl rfl rfl rfl ⟨rfl, rfl⟩ (fun x h => c_189 h) (S_189 (d + 2) a0 (Int8.ofInt (-5)).toInt32 th5) (fun q10 hq10 => ?_)
          exact x_retI (x := (q10.1, q10.2)) rfl
      · exact x_lv (hj3 ()) ⟨rfl, trivial⟩
-- 249 NineTreesModel.longest()I
noncomputable def m_249 (a0 : Nat) (th : tH) : Option (Int32 × tH) :=
  (gC th 8 a0).bind fun _ =>
  (m_240 a0 th).bind fun th1 =>
  (gI th1 8 a0 27).bind fun x2 =>
  if x2 = 0 then
    (m_189 a0 (Int8.ofInt (-5)).toInt32 th1).bind fun q20 =>
    some (q20.1, q20.2)
  else
    lp (fun (s3 : Int32 × Int32) nx4 ex5 =>
        (gI th1 8 a0 27).bind fun x9 =>
        if x9 ≤ s3.2 then
          ex5 s3.1
        else
          (gN th1 8 a0 26).bind fun o10 =>
          (aI th1 o10 s3.2).bind fun x11 =>
          (m_196 x11 th1).bind fun x12 =>
          (gN th1 8 a0 26).bind fun o13 =>
          (aI th1 o13 s3.1).bind fun x14 =>
          (m_196 x14 th1).bind fun x15 =>
          jn (fun (v16 : Int32) =>
              nx4 (v16, (s3.2 + Int32.ofInt 1))
            ) (fun j17 =>
              if x12 ≤ x15 then
                j17 s3.1
              else
                j17 s3.2
            )
      ) 4096 ((Int32.ofInt 0), (Int32.ofInt 1)) (fun (x6 : Int32) =>
        (gN th1 8 a0 26).bind fun o7 =>
        (aI th1 o7 x6).bind fun x8 =>
        some (x8, th1)
      )
theorem c_249 {a0 : Nat} {th : tH} {x : (Int32 × tH)} (h : m_249 a0 th = some x) : ∃ fs, th[a0]? = some (.inr (8, fs)) := gC_of h
theorem S_249 {L : Nat} (d : Nat) (a0 : Nat) (th : tH) : Wx L (fun x => (some (.int x.1), x.2)) (d + 4) 249 3 0 [(0, .ref a0)] [] th (m_249 a0 th) := by
  unfold m_249
  refine x_gC ?_
  refine x_P 1 rfl rfl rfl ?_
  refine x_callW rfl rfl rfl rfl rfl ⟨rfl, rfl⟩ (fun x h => c_240 h) (S_240 d a0 th) (fun th1 hth1 => ?_)
  refine x_P 5 rfl rfl rfl ?_
  refine x_gI rfl (fun x2 hx2 => ?_)
  refine x_if_ne rfl rfl (fun h21 => ?_) (fun h21 => ?_)
  · refine x_P 12 rfl rfl rfl ?_
    refine x_P 14 rfl rfl rfl ?_
    refine x_callV rfl rfl rfl rfl rfl ⟨rfl, rfl⟩ (fun x h => c_189 h) (S_189 (d + 2) a0 (Int8.ofInt (-5)).toInt32 th1) (fun q20 hq20 => ?_)
    exact x_retI (x := (q20.1, q20.2)) rfl
  · refine x_P 19 rfl rfl rfl ?_
    refine x_P (lv' := [(1, .int (Int32.ofInt 0)), (0, .ref a0)]) 20 rfl rfl rfl ?_
    refine x_P 21 rfl rfl rfl ?_
    refine x_P (lv' := [(2, .int (Int32.ofInt 1)), (1, .int (Int32.ofInt 0)), (0, .ref a0)]) 22 rfl rfl rfl ?_
    refine x_lv (lv := [(0, .ref a0), (1, .int (Int32.ofInt 0)), (2, .int (Int32.ofInt 1))]) (x_lp 63 (fun s3 => [(0, .ref a0), (1, .int s3.1), (2, .int s3.2)]) (fun s3 => th1) (fun x6 => [(0, .ref a0), (1, .int x6)]) (fun x6 => th1) (fun s3 nx4 hnx4 ex5 hex5 => ?_) (fun x6 => ?_) 4096 ((Int32.ofInt 0), (Int32.ofInt 1))) ⟨rfl, rfl, rfl, trivial⟩
    · refine x_P 23 rfl rfl rfl ?_
      refine x_P 24 rfl rfl rfl ?_
      refine x_gI rfl (fun x9 hx9 => ?_)
      refine x_ic_ge rfl rfl (fun h19 => ?_) (fun h19 => ?_)
      · exact x_lv (hex5 s3.1) ⟨rfl, rfl, trivial⟩
      · refine x_P 31 rfl rfl rfl ?_
        refine x_gN rfl (fun o10 ho10 => ?_)
        refine x_P 35 rfl rfl rfl ?_
        refine x_aI rfl ⟨rfl, rfl⟩ (fun x11 hx11 => ?_)
        refine x_callS rfl rfl rfl rfl rfl rfl ⟨rfl, rfl⟩ (S_196 (d + 3) x11 th1) (fun x12 hx12 => ?_)
        refine x_P 40 rfl rfl rfl ?_
        refine x_gN rfl (fun o13 ho13 => ?_)
        refine x_P 44 rfl rfl rfl ?_
        refine x_aI rfl ⟨rfl, rfl⟩ (fun x14 hx14 => ?_)
        refine x_callS rfl rfl rfl rfl rfl rfl ⟨rfl, rfl⟩ (S_196 (d + 3) x14 th1) (fun x15 hx15 => ?_)
        refine x_jn 56 (fun v16 => [(0, .ref a0), (2, .int s3.2)]) (fun v16 => [.int v16]) (fun v16 => th1) (fun v16 => ?_) (fun j17 hj17 => ?_)
        · refine x_P (lv' := [(1, .int v16), (0, .ref a0), (2, .int s3.2)]) 57 rfl rfl rfl ?_
          refine x_P (lv' := [(2, .int (s3.2 + Int32.ofInt 1)), (1, .int v16), (0, .ref a0)]) 60 rfl rfl rfl ?_
          refine x_P 22 rfl rfl rfl ?_
          exact x_lv (hnx4 (v16, (s3.2 + Int32.ofInt 1))) ⟨rfl, rfl, rfl, trivial⟩
        · refine x_ic_le rfl rfl (fun h18 => ?_) (fun h18 => ?_)
          · refine x_P 56 rfl rfl rfl ?_
            exact x_lv (hj17 s3.1) ⟨rfl, rfl, trivial⟩
          · refine x_P 52 rfl rfl rfl ?_
            refine x_P 56 rfl rfl rfl ?_
            exact x_lv (hj17 s3.2) ⟨rfl, rfl, trivial⟩
    · refine x_P 64 rfl rfl rfl ?_
      refine x_gN rfl (fun o7 ho7 => ?_)
      refine x_P 68 rfl rfl rfl ?_
      refine x_aI rfl ⟨rfl, rfl⟩ (fun x8 hx8 => ?_)
      exact x_retI (x := (x8, th1)) rfl
-- 250 NineTreesModel.alone()I
noncomputable def m_250 (a0 : Nat) (th : tH) : Option (Int32 × tH) :=
  (gC th 8 a0).bind fun _ =>
  lp (fun (s1 : Int32 × Int32 × tH) nx2 ex3 =>
      (gI s1.2.2 8 a0 10).bind fun x5 =>
      if x5 ≤ s1.2.1 then
        ex3 (s1.1, s1.2.2)
      else
        (m_242 a0 s1.2.1 (Int32.ofInt 3) s1.2.2).bind fun q6 =>
        jn (fun (v7 : Int32 × Int32) =>
            nx2 ((v7.2 ||| v7.1), (s1.2.1 + Int32.ofInt 1), q6.2)
          ) (fun j8 =>
            if q6.1 = 0 then
              j8 (((Int32.ofInt 1) <<< (s1.2.1 &&& 31)), s1.1)
            else
              j8 ((Int32.ofInt 0), s1.1)
          )
    ) 4096 ((Int32.ofInt 0), (Int32.ofInt 0), th) (fun (x4 : Int32 × tH) =>
      some (x4.1, x4.2)
    )
theorem c_250 {a0 : Nat} {th : tH} {x : (Int32 × tH)} (h : m_250 a0 th = some x) : ∃ fs, th[a0]? = some (.inr (8, fs)) := gC_of h
theorem S_250 {L : Nat} (d : Nat) (a0 : Nat) (th : tH) : Wx L (fun x => (some (.int x.1), x.2)) (d + 5) 250 3 0 [(0, .ref a0)] [] th (m_250 a0 th) := by
  unfold m_250
  refine x_gC ?_
  refine x_P 1 rfl rfl rfl ?_
  refine x_P (lv' := [(1, .int (Int32.ofInt 0)), (0, .ref a0)]) 2 rfl rfl rfl ?_
  refine x_P 3 rfl rfl rfl ?_
  refine x_P (lv' := [(2, .int (Int32.ofInt 0)), (1, .int (Int32.ofInt 0)), (0, .ref a0)]) 4 rfl rfl rfl ?_
  refine x_lv (lv := [(0, .ref a0), (1, .int (Int32.ofInt 0)), (2, .int (Int32.ofInt 0))]) (x_lp 37 (fun s1 => [(0, .ref a0), (1, .int s1.1), (2, .int s1.2.1)]) (fun s1 => s1.2.2) (fun x4 => [(1, .int x4.1)]) (fun x4 => x4.2) (fun s1 nx2 hnx2 ex3 hex3 => ?_) (fun x4 => ?_) 4096 ((Int32.ofInt 0), (Int32.ofInt 0), th)) ⟨rfl, rfl, rfl, trivial⟩
  · refine x_P 5 rfl rfl rfl ?_
    refine x_P 6 rfl rfl rfl ?_
    refine x_gI rfl (fun x5 hx5 => ?_)
    refine x_ic_ge rfl rfl (fun h10 => ?_) (fun h10 => ?_)
    · exact x_lv (hex3 (s1.1, s1.2.2)) ⟨rfl, trivial⟩
    · refine x_P 13 rfl rfl rfl ?_
      refine x_P 14 rfl rfl rfl ?_
      refine x_P 15 rfl rfl rfl ?_
      refine x_P 16 rfl rfl rfl ?_
      refine x_callV rfl rfl rfl rfl rfl ⟨rfl, rfl⟩ (fun x h => c_242 h) (S_242 d a0 s1.2.1 (Int32.ofInt 3) s1.2.2) (fun q6 hq6 => ?_)
      refine x_jn 29 (fun v7 => [(0, .ref a0), (2, .int s1.2.1)]) (fun v7 => [.int v7.1, .int v7.2]) (fun v7 => q6.2) (fun v7 => ?_) (fun j8 hj8 => ?_)
      · refine x_P 30 rfl rfl rfl ?_
        refine x_P (lv' := [(1, .int (v7.2 ||| v7.1)), (0, .ref a0), (2, .int s1.2.1)]) 31 rfl rfl rfl ?_
        refine x_P (lv' := [(2, .int (s1.2.1 + Int32.ofInt 1)), (1, .int (v7.2 ||| v7.1)), (0, .ref a0)]) 34 rfl rfl rfl ?_
        refine x_P 4 rfl rfl rfl ?_
        exact x_lv (hnx2 ((v7.2 ||| v7.1), (s1.2.1 + Int32.ofInt 1), q6.2)) ⟨rfl, rfl, rfl, trivial⟩
      · refine x_if_ne rfl rfl (fun h9 => ?_) (fun h9 => ?_)
        · refine x_P 23 rfl rfl rfl ?_
          refine x_P 24 rfl rfl rfl ?_
          refine x_P 25 rfl rfl rfl ?_
          refine x_P 29 rfl rfl rfl ?_
          exact x_lv (hj8 (((Int32.ofInt 1) <<< (s1.2.1 &&& 31)), s1.1)) ⟨rfl, rfl, trivial⟩
        · refine x_P 29 rfl rfl rfl ?_
          exact x_lv (hj8 ((Int32.ofInt 0), s1.1)) ⟨rfl, rfl, trivial⟩
  · refine x_P 38 rfl rfl rfl ?_
    exact x_retI (x := (x4.1, x4.2)) rfl
-- 251 NineTreesModel.through(II)I
noncomputable def m_251 (a0 : Nat) (a1 : Int32) (a2 : Int32) (th : tH) : Option (Int32 × tH) :=
  (gC th 8 a0).bind fun _ =>
  (m_191 a0 a1 th).bind fun x1 =>
  jn (fun (v2 : Unit) =>
      (m_189 a0 (Int8.ofInt (-2)).toInt32 th).bind fun q4 =>
      some (q4.1, q4.2)
    ) (fun j3 =>
      if x1 = 0 then
        j3 ()
      else
        (m_191 a0 a2 th).bind fun x5 =>
        if x5 = 0 then
          j3 ()
        else
          if a1 = a2 then
            j3 ()
          else
            (gN th 8 a0 11).bind fun o6 =>
            (aI th o6 a1).bind fun x7 =>
            jn (fun (v8 : Int32 × tH) =>
                some (v8.1, v8.2)
              ) (fun j9 =>
                jn (fun (v10 : Unit) =>
                    (m_189 a0 (Int8.ofInt (-5)).toInt32 th).bind fun q12 =>
                    j9 (q12.1, q12.2)
                  ) (fun j11 =>
                    if x7 = (Int32.ofInt 4) then
                      j11 ()
                    else
                      (gN th 8 a0 11).bind fun o13 =>
                      (aI th o13 a2).bind fun x14 =>
                      if x14 = (Int32.ofInt 4) then
                        j11 ()
                      else
                        (m_239 a0 a1 a2 th).bind fun x15 =>
                        j9 (x15, th)
                  )
              )
    )
theorem c_251 {a0 : Nat} {a1 : Int32} {a2 : Int32} {th : tH} {x : (Int32 × tH)} (h : m_251 a0 a1 a2 th = some x) : ∃ fs, th[a0]? = some (.inr (8, fs)) := gC_of h
theorem S_251 {L : Nat} (d : Nat) (a0 : Nat) (a1 : Int32) (a2 : Int32) (th : tH) : Wx L (fun x => (some (.int x.1), x.2)) (d + 3) 251 3 0 [(0, .ref a0), (1, .int a1), (2, .int a2)] [] th (m_251 a0 a1 a2 th) := by
  unfold m_251
  refine x_gC ?_
  refine x_P 1 rfl rfl rfl ?_
  refine x_P 2 rfl rfl rfl ?_
  refine x_callV rfl rfl rfl rfl rfl ⟨rfl, rfl⟩ (fun x h => c_191 h) (S_191 (d + 1) a0 a1 th) (fun x1 hx1 => ?_)
  refine x_jn 21 (fun v2 => [(0, .ref a0)]) (fun v2 => []) (fun v2 => th) (fun v2 => ?_) (fun j3 hj3 => ?_)
  · refine x_P 22 rfl rfl rfl ?_
    refine x_P 24 rfl rfl rfl ?_
    refine x_callV rfl rfl rfl rfl rfl ⟨rfl, rfl⟩ (fun x h => c_189 h) (S_189 (d + 1) a0 (Int8.ofInt (-2)).toInt32 th) (fun q4 hq4 => ?_)
    exact x_retI (x := (q4.1, q4.2)) rfl
  · refine x_if_eq rfl rfl (fun h20 => ?_) (fun h20 => ?_)
    · exact x_lv (hj3 ()) ⟨rfl, trivial⟩
    · refine x_P 9 rfl rfl rfl ?_
      refine x_P 10 rfl rfl rfl ?_
      refine x_callV rfl rfl rfl rfl rfl ⟨rfl, rfl⟩ (fun x h => c_191 h) (S_191 (d + 1) a0 a2 th) (fun x5 hx5 => ?_)
      refine x_if_eq rfl rfl (fun h19 => ?_) (fun h19 => ?_)
      · exact x_lv (hj3 ()) ⟨rfl, trivial⟩
      · refine x_P 17 rfl rfl rfl ?_
        refine x_P 18 rfl rfl rfl ?_
        refine x_ic_ne rfl rfl (fun h18 => ?_) (fun h18 => ?_)
        · exact x_lv (hj3 ()) ⟨rfl, trivial⟩
        · refine x_P 29 rfl rfl rfl ?_
          refine x_gN rfl (fun o6 ho6 => ?_)
          refine x_P 33 rfl rfl rfl ?_
          refine x_aI rfl ⟨rfl, rfl⟩ (fun x7 hx7 => ?_)
          refine x_P 35 rfl rfl rfl ?_
          refine x_jn 63 (fun v8 => []) (fun v8 => [.int v8.1]) (fun v8 => v8.2) (fun v8 => ?_) (fun j9 hj9 => ?_)
          · exact x_retI (x := (v8.1, v8.2)) rfl
          · refine x_jn 48 (fun v10 => [(0, .ref a0)]) (fun v10 => []) (fun v10 => th) (fun v10 => ?_) (fun j11 hj11 => ?_)
            · refine x_P 49 rfl rfl rfl ?_
              refine x_P 51 rfl rfl rfl ?_
              refine x_callV rfl rfl rfl rfl rfl ⟨rfl, rfl⟩ (fun x h => c_189 h) (S_189 (d + 1) a0 (Int8.ofInt (-5)).toInt32 th) (fun q12 hq12 => ?_)
              refine x_P 63 rfl rfl rfl ?_
              exact x_lv (hj9 (q12.1, q12.2)) trivial
            · refine x_ic_eq rfl rfl (fun h17 => ?_) (fun h17 => ?_)
              · exact x_lv (hj11 ()) ⟨rfl, trivial⟩
              · refine x_P 39 rfl rfl rfl ?_
                refine x_gN rfl (fun o13 ho13 => ?_)
                refine x_P 43 rfl rfl rfl ?_
                refine x_aI rfl ⟨rfl, rfl⟩ (fun x14 hx14 => ?_)
                refine x_P 45 rfl rfl rfl ?_
                refine x_ic_ne rfl rfl (fun h16 => ?_) (fun h16 => ?_)
                · exact x_lv (hj11 ()) ⟨rfl, trivial⟩
                · refine x_P 58 rfl rfl rfl ?_
                  refine x_P 59 rfl rfl rfl ?_
                  refine x_P 60 rfl rfl rfl ?_
                  refine x_callV rfl rfl rfl rfl rfl ⟨rfl, rfl⟩ (fun x h => c_239 h) (S_239 d a0 a1 a2 th) (fun x15 hx15 => ?_)
                  exact x_lv (hj9 (x15, th)) trivial
-- 252 NineTreesModel.standInLine(I)Z
noncomputable def m_252 (a0 : Nat) (a1 : Int32) (th : tH) : Option (Int32 × tH) :=
  (gC th 8 a0).bind fun _ =>
  (m_240 a0 th).bind fun th1 =>
  lp (fun (s2 : Int32) nx3 ex4 =>
      (gI th1 8 a0 27).bind fun x7 =>
      if x7 ≤ s2 then
        ex4 ()
      else
        (gN th1 8 a0 26).bind fun o8 =>
        (aI th1 o8 s2).bind fun x9 =>
        if (a1 &&& (x9 ^^^ (Int32.ofInt (-1)))) = 0 then
          (rB (Int32.ofInt 1)).bind fun y10 => some (y10, th1)
        else
          nx3 (s2 + Int32.ofInt 1)
    ) 4096 (Int32.ofInt 0) (fun (x5 : Unit) =>
      (rB (Int32.ofInt 0)).bind fun y6 => some (y6, th1)
    )
theorem c_252 {a0 : Nat} {a1 : Int32} {th : tH} {x : (Int32 × tH)} (h : m_252 a0 a1 th = some x) : ∃ fs, th[a0]? = some (.inr (8, fs)) := gC_of h
theorem S_252 {L : Nat} (d : Nat) (a0 : Nat) (a1 : Int32) (th : tH) : Wx L (fun x => (some (.int x.1), x.2)) (d + 4) 252 3 0 [(0, .ref a0), (1, .int a1)] [] th (m_252 a0 a1 th) := by
  unfold m_252
  refine x_gC ?_
  refine x_P 1 rfl rfl rfl ?_
  refine x_callW rfl rfl rfl rfl rfl ⟨rfl, rfl⟩ (fun x h => c_240 h) (S_240 d a0 th) (fun th1 hth1 => ?_)
  refine x_P 5 rfl rfl rfl ?_
  refine x_P (lv' := [(2, .int (Int32.ofInt 0)), (0, .ref a0), (1, .int a1)]) 6 rfl rfl rfl ?_
  refine x_lv (lv := [(0, .ref a0), (1, .int a1), (2, .int (Int32.ofInt 0))]) (x_lp 35 (fun s2 => [(0, .ref a0), (1, .int a1), (2, .int s2)]) (fun s2 => th1) (fun x5 => []) (fun x5 => th1) (fun s2 nx3 hnx3 ex4 hex4 => ?_) (fun x5 => ?_) 4096 (Int32.ofInt 0)) ⟨rfl, rfl, rfl, trivial⟩
  · refine x_P 7 rfl rfl rfl ?_
    refine x_P 8 rfl rfl rfl ?_
    refine x_gI rfl (fun x7 hx7 => ?_)
    refine x_ic_ge rfl rfl (fun h12 => ?_) (fun h12 => ?_)
    · exact x_lv (hex4 ()) trivial
    · refine x_P 15 rfl rfl rfl ?_
      refine x_P 16 rfl rfl rfl ?_
      refine x_gN rfl (fun o8 ho8 => ?_)
      refine x_P 20 rfl rfl rfl ?_
      refine x_aI rfl ⟨rfl, rfl⟩ (fun x9 hx9 => ?_)
      refine x_P 22 rfl rfl rfl ?_
      refine x_P 23 rfl rfl rfl ?_
      refine x_P 24 rfl rfl rfl ?_
      refine x_if_ne rfl rfl (fun h11 => ?_) (fun h11 => ?_)
      · refine x_P 28 rfl rfl rfl ?_
        exact x_rBw rfl
      · refine x_P (lv' := [(2, .int (s2 + Int32.ofInt 1)), (0, .ref a0), (1, .int a1)]) 32 rfl rfl rfl ?_
        refine x_P 6 rfl rfl rfl ?_
        exact x_lv (hnx3 (s2 + Int32.ofInt 1)) ⟨rfl, rfl, rfl, trivial⟩
  · refine x_P 36 rfl rfl rfl ?_
    exact x_rBw rfl
-- 253 NineTreesModel.inLine(I)I
noncomputable def m_253 (a0 : Nat) (a1 : Int32) (th : tH) : Option (Int32 × tH) :=
  (gC th 8 a0).bind fun _ =>
  jn (fun (v1 : Unit) =>
      (m_189 a0 (Int8.ofInt (-2)).toInt32 th).bind fun q3 =>
      some (q3.1, q3.2)
    ) (fun j2 =>
      if a1 < 0 then
        j2 ()
      else
        (gI th 8 a0 10).bind fun x4 =>
        if (a1 >>> (x4 &&& 31)) = 0 then
          (m_196 a1 th).bind fun x5 =>
          if (Int32.ofInt 3) ≤ x5 then
            (m_252 a0 a1 th).bind fun q6 =>
            jn (fun (v7 : Int32) =>
                some (v7, q6.2)
              ) (fun j8 =>
                if q6.1 = 0 then
                  j8 (Int32.ofInt 0)
                else
                  j8 (Int32.ofInt 1)
              )
          else
            j2 ()
        else
          j2 ()
    )
theorem c_253 {a0 : Nat} {a1 : Int32} {th : tH} {x : (Int32 × tH)} (h : m_253 a0 a1 th = some x) : ∃ fs, th[a0]? = some (.inr (8, fs)) := gC_of h
theorem S_253 {L : Nat} (d : Nat) (a0 : Nat) (a1 : Int32) (th : tH) : Wx L (fun x => (some (.int x.1), x.2)) (d + 5) 253 2 0 [(0, .ref a0), (1, .int a1)] [] th (m_253 a0 a1 th) := by
  unfold m_253
  refine x_gC ?_
  refine x_P 1 rfl rfl rfl ?_
  refine x_jn 21 (fun v1 => [(0, .ref a0)]) (fun v1 => []) (fun v1 => th) (fun v1 => ?_) (fun j2 hj2 => ?_)
  · refine x_P 22 rfl rfl rfl ?_
    refine x_P 24 rfl rfl rfl ?_
    refine x_callV rfl rfl rfl rfl rfl ⟨rfl, rfl⟩ (fun x h => c_189 h) (S_189 (d + 3) a0 (Int8.ofInt (-2)).toInt32 th) (fun q3 hq3 => ?_)
    exact x_retI (x := (q3.1, q3.2)) rfl
  · refine x_if_lt rfl rfl (fun h12 => ?_) (fun h12 => ?_)
    · exact x_lv (hj2 ()) ⟨rfl, trivial⟩
    · refine x_P 5 rfl rfl rfl ?_
      refine x_P 6 rfl rfl rfl ?_
      refine x_gI rfl (fun x4 hx4 => ?_)
      refine x_P 10 rfl rfl rfl ?_
      refine x_if_ne rfl rfl (fun h11 => ?_) (fun h11 => ?_)
      · refine x_P 14 rfl rfl rfl ?_
        refine x_callS rfl rfl rfl rfl rfl rfl ⟨rfl, rfl⟩ (S_196 (d + 4) a1 th) (fun x5 hx5 => ?_)
        refine x_P 18 rfl rfl rfl ?_
        refine x_ic_ge rfl rfl (fun h10 => ?_) (fun h10 => ?_)
        · refine x_P 29 rfl rfl rfl ?_
          refine x_P 30 rfl rfl rfl ?_
          refine x_callV rfl rfl rfl rfl rfl ⟨rfl, rfl⟩ (fun x h => c_252 h) (S_252 d a0 a1 th) (fun q6 hq6 => ?_)
          refine x_jn 41 (fun v7 => []) (fun v7 => [.int v7]) (fun v7 => q6.2) (fun v7 => ?_) (fun j8 hj8 => ?_)
          · exact x_retI (x := (v7, q6.2)) rfl
          · refine x_if_eq rfl rfl (fun h9 => ?_) (fun h9 => ?_)
            · refine x_P 41 rfl rfl rfl ?_
              exact x_lv (hj8 (Int32.ofInt 0)) trivial
            · refine x_P 37 rfl rfl rfl ?_
              refine x_P 41 rfl rfl rfl ?_
              exact x_lv (hj8 (Int32.ofInt 1)) trivial
        · exact x_lv (hj2 ()) ⟨rfl, trivial⟩
      · exact x_lv (hj2 ()) ⟨rfl, trivial⟩
end
section
/-! ===== programs ===== -/
-- 254 NineTreesModel.judge(II)I
noncomputable def m_254 (a0 : Nat) (a1 : Int32) (a2 : Int32) (th : tH) : Option (Int32 × tH) :=
  (gC th 8 a0).bind fun _ =>
  (m_190 (Int32.toInt64 a1) (Int64.ofNat 0) (Int64.ofNat 7) th).bind fun x1 =>
  jn (fun (v2 : Unit) =>
      (m_189 a0 (Int8.ofInt (-2)).toInt32 th).bind fun q4 =>
      some (q4.1, q4.2)
    ) (fun j3 =>
      if x1 = 0 then
        j3 ()
      else
        (m_190 (Int32.toInt64 a2) (Int64.ofNat 0) (Int64.ofNat 12) th).bind fun x5 =>
        if x5 = 0 then
          j3 ()
        else
          (m_201 a0 a1 th).bind fun q6 =>
          if q6.1 = 0 then
            (gN q6.2 8 a0 2).bind fun o7 =>
            (aI q6.2 o7 a1).bind fun x8 =>
            if a2 ≤ x8 then
              lp (fun (s9 : Int32 × Int32) nx10 ex11 =>
                  if a2 ≤ s9.2 then
                    ex11 ()
                  else
                    (gN q6.2 8 a0 3).bind fun o13 =>
                    (aN q6.2 o13 a1).bind fun o14 =>
                    (aJ q6.2 o14 s9.2).bind fun x15 =>
                    (gI q6.2 8 a0 10).bind fun x16 =>
                    (m_190 x15 (Int64.ofNat 0) (Int32.toInt64 (x16 - (Int32.ofInt 1))) q6.2).bind fun x17 =>
                    jn (fun (v18 : Unit) =>
                        some (s9.2, q6.2)
                      ) (fun j19 =>
                        if x17 = 0 then
                          j19 ()
                        else
                          (m_195 s9.1 (Int64.toInt32 x15) q6.2).bind fun x20 =>
                          if x20 = 0 then
                            (gN q6.2 8 a0 11).bind fun o21 =>
                            (aI q6.2 o21 (Int64.toInt32 x15)).bind fun x22 =>
                            if x22 = (Int32.ofInt 4) then
                              j19 ()
                            else
                              jn (fun (v23 : Unit) =>
                                  nx10 ((s9.1 ||| ((Int32.ofInt 1) <<< ((Int64.toInt32 x15) &&& 31))), (s9.2 + Int32.ofInt 1))
                                ) (fun j24 =>
                                  if s9.2 ≤ (Int32.ofInt 1) then
                                    j24 ()
                                  else
                                    (gN q6.2 8 a0 12).bind fun o25 =>
                                    (gN q6.2 8 a0 3).bind fun o26 =>
                                    (aN q6.2 o26 a1).bind fun o27 =>
                                    (aJ q6.2 o27 (Int32.ofInt 0)).bind fun x28 =>
                                    (aI q6.2 o25 (Int64.toInt32 x28)).bind fun x29 =>
                                    (gN q6.2 8 a0 12).bind fun o30 =>
                                    (gN q6.2 8 a0 3).bind fun o31 =>
                                    (aN q6.2 o31 a1).bind fun o32 =>
                                    (aJ q6.2 o32 (Int32.ofInt 1)).bind fun x33 =>
                                    (aI q6.2 o30 (Int64.toInt32 x33)).bind fun x34 =>
                                    (gN q6.2 8 a0 12).bind fun o35 =>
                                    (aI q6.2 o35 (Int64.toInt32 x15)).bind fun x36 =>
                                    (m_236 a0 x29 x34 x36 q6.2).bind fun x37 =>
                                    if x37 = 0 then
                                      some (s9.2, q6.2)
                                    else
                                      j24 ()
                                )
                          else
                            j19 ()
                      )
                ) 4096 ((Int32.ofInt 0), (Int32.ofInt 0)) (fun (x12 : Unit) =>
                  some ((Int32.ofInt (-1)), q6.2)
                )
            else
              (m_189 a0 (Int8.ofInt (-2)).toInt32 q6.2).bind fun q44 =>
              some (q44.1, q44.2)
          else
            some (q6.1, q6.2)
    )
theorem c_254 {a0 : Nat} {a1 : Int32} {a2 : Int32} {th : tH} {x : (Int32 × tH)} (h : m_254 a0 a1 a2 th = some x) : ∃ fs, th[a0]? = some (.inr (8, fs)) := gC_of h
theorem S_254 {L : Nat} (d : Nat) (a0 : Nat) (a1 : Int32) (a2 : Int32) (th : tH) : Wx L (fun x => (some (.int x.1), x.2)) (d + 3) 254 8 0 [(0, .ref a0), (1, .int a1), (2, .int a2)] [] th (m_254 a0 a1 a2 th) := by
  unfold m_254
  refine x_gC ?_
  refine x_P 1 rfl rfl rfl ?_
  refine x_P 2 rfl rfl rfl ?_
  refine x_P 3 rfl rfl rfl ?_
  refine x_P 6 rfl rfl rfl ?_
  refine x_callS rfl rfl rfl rfl rfl rfl ⟨rfl, rfl⟩ (S_190 (d + 2) (Int32.toInt64 a1) (Int64.ofNat 0) (Int64.ofNat 7) th) (fun x1 hx1 => ?_)
  refine x_jn 24 (fun v2 => [(0, .ref a0)]) (fun v2 => []) (fun v2 => th) (fun v2 => ?_) (fun j3 hj3 => ?_)
  · refine x_P 25 rfl rfl rfl ?_
    refine x_P 27 rfl rfl rfl ?_
    refine x_callV rfl rfl rfl rfl rfl ⟨rfl, rfl⟩ (fun x h => c_189 h) (S_189 (d + 1) a0 (Int8.ofInt (-2)).toInt32 th) (fun q4 hq4 => ?_)
    exact x_retI (x := (q4.1, q4.2)) rfl
  · refine x_if_eq rfl rfl (fun h48 => ?_) (fun h48 => ?_)
    · exact x_lv (hj3 ()) ⟨rfl, trivial⟩
    · refine x_P 13 rfl rfl rfl ?_
      refine x_P 14 rfl rfl rfl ?_
      refine x_P 15 rfl rfl rfl ?_
      refine x_P 18 rfl rfl rfl ?_
      refine x_callS rfl rfl rfl rfl rfl rfl ⟨rfl, rfl⟩ (S_190 (d + 2) (Int32.toInt64 a2) (Int64.ofNat 0) (Int64.ofNat 12) th) (fun x5 hx5 => ?_)
      refine x_if_ne rfl rfl (fun h47 => ?_) (fun h47 => ?_)
      · exact x_lv (hj3 ()) ⟨rfl, trivial⟩
      · refine x_P 32 rfl rfl rfl ?_
        refine x_P 33 rfl rfl rfl ?_
        refine x_callV rfl rfl rfl rfl rfl ⟨rfl, rfl⟩ (fun x h => c_201 h) (S_201 d a0 a1 th) (fun q6 hq6 => ?_)
        refine x_P (lv' := [(3, .int q6.1), (0, .ref a0), (1, .int a1), (2, .int a2)]) 37 rfl rfl rfl ?_
        refine x_P 38 rfl rfl rfl ?_
        refine x_if_eq rfl rfl (fun h46 => ?_) (fun h46 => ?_)
        · refine x_P 44 rfl rfl rfl ?_
          refine x_gN rfl (fun o7 ho7 => ?_)
          refine x_P 48 rfl rfl rfl ?_
          refine x_aI rfl ⟨rfl, rfl⟩ (fun x8 hx8 => ?_)
          refine x_P 50 rfl rfl rfl ?_
          refine x_ic_ge rfl rfl (fun h45 => ?_) (fun h45 => ?_)
          · refine x_P 61 rfl rfl rfl ?_
            refine x_P (lv' := [(4, .int (Int32.ofInt 0)), (3, .int q6.1), (0, .ref a0), (1, .int a1), (2, .int a2)]) 63 rfl rfl rfl ?_
            refine x_P 64 rfl rfl rfl ?_
            refine x_P (lv' := [(5, .int (Int32.ofInt 0)), (4, .int (Int32.ofInt 0)), (3, .int q6.1), (0, .ref a0), (1, .int a1), (2, .int a2)]) 66 rfl rfl rfl ?_
            refine x_lv (lv := [(0, .ref a0), (1, .int a1), (2, .int a2), (4, .int (Int32.ofInt 0)), (5, .int (Int32.ofInt 0))]) (x_lp 193 (fun s9 => [(0, .ref a0), (1, .int a1), (2, .int a2), (4, .int s9.1), (5, .int s9.2)]) (fun s9 => q6.2) (fun x12 => []) (fun x12 => q6.2) (fun s9 nx10 hnx10 ex11 hex11 => ?_) (fun x12 => ?_) 4096 ((Int32.ofInt 0), (Int32.ofInt 0))) ⟨rfl, rfl, rfl, rfl, rfl, trivial⟩
            · refine x_P 68 rfl rfl rfl ?_
              refine x_P 69 rfl rfl rfl ?_
              refine x_ic_ge rfl rfl (fun h43 => ?_) (fun h43 => ?_)
              · exact x_lv (hex11 ()) trivial
              · refine x_P 73 rfl rfl rfl ?_
                refine x_gN rfl (fun o13 ho13 => ?_)
                refine x_P 77 rfl rfl rfl ?_
                refine x_aN rfl ⟨rfl, rfl⟩ (fun o14 ho14 => ?_)
                refine x_P 80 rfl rfl rfl ?_
                refine x_aJ rfl ⟨rfl, rfl⟩ (fun x15 hx15 => ?_)
                refine x_P (lv' := [(6, .long x15), (0, .ref a0), (1, .int a1), (2, .int a2), (4, .int s9.1), (5, .int s9.2)]) 83 rfl rfl rfl ?_
                refine x_P 85 rfl rfl rfl ?_
                refine x_P 86 rfl rfl rfl ?_
                refine x_P 87 rfl rfl rfl ?_
                refine x_gI rfl (fun x16 hx16 => ?_)
                refine x_P 91 rfl rfl rfl ?_
                refine x_P 92 rfl rfl rfl ?_
                refine x_P 93 rfl rfl rfl ?_
                refine x_callS rfl rfl rfl rfl rfl rfl ⟨rfl, rfl⟩ (S_190 (d + 2) x15 (Int64.ofNat 0) (Int32.toInt64 (x16 - (Int32.ofInt 1))) q6.2) (fun x17 hx17 => ?_)
                refine x_jn 122 (fun v18 => [(5, .int s9.2)]) (fun v18 => []) (fun v18 => q6.2) (fun v18 => ?_) (fun j19 hj19 => ?_)
                · refine x_P 124 rfl rfl rfl ?_
                  exact x_retI (x := (s9.2, q6.2)) rfl
                · refine x_if_eq rfl rfl (fun h42 => ?_) (fun h42 => ?_)
                  · exact x_lv (hj19 ()) ⟨rfl, trivial⟩
                  · refine x_P 101 rfl rfl rfl ?_
                    refine x_P 103 rfl rfl rfl ?_
                    refine x_P 104 rfl rfl rfl ?_
                    refine x_callS rfl rfl rfl rfl rfl rfl ⟨rfl, rfl⟩ (S_195 (d + 2) s9.1 (Int64.toInt32 x15) q6.2) (fun x20 hx20 => ?_)
                    refine x_if_ne rfl rfl (fun h41 => ?_) (fun h41 => ?_)
                    · refine x_P 111 rfl rfl rfl ?_
                      refine x_gN rfl (fun o21 ho21 => ?_)
                      refine x_P 116 rfl rfl rfl ?_
                      refine x_P 117 rfl rfl rfl ?_
                      refine x_aI rfl ⟨rfl, rfl⟩ (fun x22 hx22 => ?_)
                      refine x_P 119 rfl rfl rfl ?_
                      refine x_ic_ne rfl rfl (fun h40 => ?_) (fun h40 => ?_)
                      · exact x_lv (hj19 ()) ⟨rfl, trivial⟩
                      · refine x_P 127 rfl rfl rfl ?_
                        refine x_P 128 rfl rfl rfl ?_
                        refine x_jn 177 (fun v23 => [(0, .ref a0), (1, .int a1), (2, .int a2), (4, .int s9.1), (5, .int s9.2), (6, .long x15)]) (fun v23 => []) (fun v23 => q6.2) (fun v23 => ?_) (fun j24 hj24 => ?_)
                        · refine x_P 179 rfl rfl rfl ?_
                          refine x_P 180 rfl rfl rfl ?_
                          refine x_P 182 rfl rfl rfl ?_
                          refine x_P 183 rfl rfl rfl ?_
                          refine x_P 184 rfl rfl rfl ?_
                          refine x_P 185 rfl rfl rfl ?_
                          refine x_P (lv' := [(4, .int (s9.1 ||| ((Int32.ofInt 1) <<< ((Int64.toInt32 x15) &&& 31)))), (0, .ref a0), (1, .int a1), (2, .int a2), (5, .int s9.2), (6, .long x15)]) 187 rfl rfl rfl ?_
                          refine x_P (lv' := [(5, .int (s9.2 + Int32.ofInt 1)), (4, .int (s9.1 ||| ((Int32.ofInt 1) <<< ((Int64.toInt32 x15) &&& 31)))), (0, .ref a0), (1, .int a1), (2, .int a2), (6, .long x15)]) 190 rfl rfl rfl ?_
                          refine x_P 66 rfl rfl rfl ?_
                          exact x_lv (hnx10 ((s9.1 ||| ((Int32.ofInt 1) <<< ((Int64.toInt32 x15) &&& 31))), (s9.2 + Int32.ofInt 1))) ⟨rfl, rfl, rfl, rfl, rfl, trivial⟩
                        · refine x_ic_le rfl rfl (fun h39 => ?_) (fun h39 => ?_)
                          · exact x_lv (hj24 ()) ⟨rfl, rfl, rfl, rfl, rfl, rfl, trivial⟩
                          · refine x_P 132 rfl rfl rfl ?_
                            refine x_P 133 rfl rfl rfl ?_
                            refine x_gN rfl (fun o25 ho25 => ?_)
                            refine x_P 137 rfl rfl rfl ?_
                            refine x_gN rfl (fun o26 ho26 => ?_)
                            refine x_P 141 rfl rfl rfl ?_
                            refine x_aN rfl ⟨rfl, rfl⟩ (fun o27 ho27 => ?_)
                            refine x_P 143 rfl rfl rfl ?_
                            refine x_aJ rfl ⟨rfl, rfl⟩ (fun x28 hx28 => ?_)
                            refine x_P 145 rfl rfl rfl ?_
                            refine x_aI rfl ⟨rfl, rfl⟩ (fun x29 hx29 => ?_)
                            refine x_P 147 rfl rfl rfl ?_
                            refine x_gN rfl (fun o30 ho30 => ?_)
                            refine x_P 151 rfl rfl rfl ?_
                            refine x_gN rfl (fun o31 ho31 => ?_)
                            refine x_P 155 rfl rfl rfl ?_
                            refine x_aN rfl ⟨rfl, rfl⟩ (fun o32 ho32 => ?_)
                            refine x_P 157 rfl rfl rfl ?_
                            refine x_aJ rfl ⟨rfl, rfl⟩ (fun x33 hx33 => ?_)
                            refine x_P 159 rfl rfl rfl ?_
                            refine x_aI rfl ⟨rfl, rfl⟩ (fun x34 hx34 => ?_)
                            refine x_P 161 rfl rfl rfl ?_
                            refine x_gN rfl (fun o35 ho35 => ?_)
                            refine x_P 166 rfl rfl rfl ?_
                            refine x_P 167 rfl rfl rfl ?_
                            refine x_aI rfl ⟨rfl, rfl⟩ (fun x36 hx36 => ?_)
                            refine x_callV rfl rfl rfl rfl rfl ⟨rfl, rfl⟩ (fun x h => c_236 h) (S_236 (d + 1) a0 x29 x34 x36 q6.2) (fun x37 hx37 => ?_)
                            refine x_if_ne rfl rfl (fun h38 => ?_) (fun h38 => ?_)
                            · refine x_P 176 rfl rfl rfl ?_
                              exact x_retI (x := (s9.2, q6.2)) rfl
                            · exact x_lv (hj24 ()) ⟨rfl, rfl, rfl, rfl, rfl, rfl, trivial⟩
                    · exact x_lv (hj19 ()) ⟨rfl, trivial⟩
            · refine x_P 194 rfl rfl rfl ?_
              exact x_retI (x := ((Int32.ofInt (-1)), q6.2)) rfl
          · refine x_P 54 rfl rfl rfl ?_
            refine x_P 56 rfl rfl rfl ?_
            refine x_callV rfl rfl rfl rfl rfl ⟨rfl, rfl⟩ (fun x h => c_189 h) (S_189 (d + 1) a0 (Int8.ofInt (-2)).toInt32 q6.2) (fun q44 hq44 => ?_)
            exact x_retI (x := (q44.1, q44.2)) rfl
        · refine x_P 42 rfl rfl rfl ?_
          exact x_retI (x := (q6.1, q6.2)) rfl
-- 255 NineTreesModel.first(II)I
noncomputable def m_255 (a0 : Int32) (a1 : Int32) (th : tH) : Option (Int32) :=
  lp (fun (s1 : Int32) nx2 ex3 =>
      (m_195 a0 s1 th).bind fun x5 =>
      if x5 = 0 then
        nx2 (s1 + Int32.ofInt 1)
      else
        ex3 s1
    ) 4096 a1 (fun (x4 : Int32) =>
      some x4
    )
theorem S_255 {L : Nat} (d : Nat) (a0 : Int32) (a1 : Int32) (th : tH) : Wx L (fun x => (some (.int x), th)) (d + 1) 255 3 0 [(0, .int a0), (1, .int a1)] [] th (m_255 a0 a1 th) := by
  unfold m_255
  refine x_P 1 rfl rfl rfl ?_
  refine x_P (lv' := [(2, .int a1), (0, .int a0), (1, .int a1)]) 2 rfl rfl rfl ?_
  refine x_lv (lv := [(0, .int a0), (2, .int a1)]) (x_lp 16 (fun s1 => [(0, .int a0), (2, .int s1)]) (fun s1 => th) (fun x4 => [(2, .int x4)]) (fun x4 => th) (fun s1 nx2 hnx2 ex3 hex3 => ?_) (fun x4 => ?_) 4096 a1) ⟨rfl, rfl, trivial⟩
  · refine x_P 3 rfl rfl rfl ?_
    refine x_P 4 rfl rfl rfl ?_
    refine x_callS rfl rfl rfl rfl rfl rfl ⟨rfl, rfl⟩ (S_195 d a0 s1 th) (fun x5 hx5 => ?_)
    refine x_if_ne rfl rfl (fun h6 => ?_) (fun h6 => ?_)
    · refine x_P (lv' := [(2, .int (s1 + Int32.ofInt 1)), (0, .int a0)]) 13 rfl rfl rfl ?_
      refine x_P 2 rfl rfl rfl ?_
      exact x_lv (hnx2 (s1 + Int32.ofInt 1)) ⟨rfl, rfl, trivial⟩
    · exact x_lv (hex3 s1) ⟨rfl, trivial⟩
  · refine x_P 17 rfl rfl rfl ?_
    exact x_retI (x := x4) rfl
-- 256 NineTreesModel.gap(I)I
noncomputable def m_256 (a0 : Nat) (a1 : Int32) (th : tH) : Option (Int32 × tH) :=
  (gC th 8 a0).bind fun _ =>
  (m_190 (Int32.toInt64 a1) (Int64.ofNat 0) (Int64.ofNat 1) th).bind fun x1 =>
  if x1 = 0 then
    (m_189 a0 (Int8.ofInt (-2)).toInt32 th).bind fun q58 =>
    some (q58.1, q58.2)
  else
    (m_240 a0 th).bind fun th2 =>
    lp (fun (s3 : Int32 × Int32 × Int64 × Int64 × Int32) nx4 ex5 =>
        (gI th2 8 a0 27).bind fun x12 =>
        if x12 ≤ s3.2.2.2.2 then
          ex5 (s3.1, s3.2.1)
        else
          (gN th2 8 a0 26).bind fun o13 =>
          (aI th2 o13 s3.2.2.2.2).bind fun x14 =>
          (m_255 x14 (Int32.ofInt 0) th2).bind fun x15 =>
          (gN th2 8 a0 26).bind fun o16 =>
          (aI th2 o16 s3.2.2.2.2).bind fun x17 =>
          (m_255 x17 (x15 + (Int32.ofInt 1)) th2).bind fun x18 =>
          (gN th2 8 a0 12).bind fun o19 =>
          (aI th2 o19 x15).bind fun x20 =>
          (gN th2 8 a0 12).bind fun o21 =>
          (aI th2 o21 x18).bind fun x22 =>
          (m_238 a0 x20 x22 th2).bind fun x23 =>
          lp (fun (s24 : Int32 × Int32 × Int64 × Int64 × Int32) nx25 ex26 =>
              (gI th2 8 a0 10).bind fun x28 =>
              if x28 ≤ s24.2.2.2.2 then
                ex26 (s24.1, s24.2.1, s24.2.2.1, s24.2.2.2.1)
              else
                (gN th2 8 a0 12).bind fun o29 =>
                (aI th2 o29 x15).bind fun x30 =>
                (gN th2 8 a0 12).bind fun o31 =>
                (aI th2 o31 x18).bind fun x32 =>
                (gN th2 8 a0 12).bind fun o33 =>
                (aI th2 o33 s24.2.2.2.2).bind fun x34 =>
                (m_235 a0 x30 x32 x34 th2).bind fun x35 =>
                (gN th2 8 a0 11).bind fun o36 =>
                (aI th2 o36 s24.2.2.2.2).bind fun x37 =>
                jn (fun (v38 : Int32) =>
                    jn (fun (v40 : Int32 × Int32 × Int64 × Int64) =>
                        nx25 (v40.1, v40.2.1, v40.2.2.1, v40.2.2.2, (s24.2.2.2.2 + Int32.ofInt 1))
                      ) (fun j41 =>
                        if v38 = 0 then
                          j41 (s24.1, s24.2.1, s24.2.2.1, s24.2.2.2.1)
                        else
                          jn (fun (v42 : Unit) =>
                              (gN th2 8 a0 26).bind fun o44 =>
                              (aI th2 o44 s3.2.2.2.2).bind fun x45 =>
                              j41 (x45, s24.2.2.2.2, ((Int32.toInt64 x35) * (Int32.toInt64 x35)), (Int32.toInt64 x23))
                            ) (fun j43 =>
                              if s24.1 = (Int32.ofInt (-1)) then
                                j43 ()
                              else
                                if 0 ≤ (lg_cmp (((Int32.toInt64 x35) * (Int32.toInt64 x35)) * s24.2.2.2.1) (s24.2.2.1 * (Int32.toInt64 x23))) then
                                  j41 (s24.1, s24.2.1, s24.2.2.1, s24.2.2.2.1)
                                else
                                  j43 ()
                            )
                      )
                  ) (fun j39 =>
                    jn (fun (v49 : Unit) =>
                        j39 (Int32.ofInt 0)
                      ) (fun j50 =>
                        if x37 = (Int32.ofInt 4) then
                          j50 ()
                        else
                          (gN th2 8 a0 26).bind fun o51 =>
                          (aI th2 o51 s3.2.2.2.2).bind fun x52 =>
                          (m_195 x52 s24.2.2.2.2 th2).bind fun x53 =>
                          if x53 = 0 then
                            j39 (Int32.ofInt 1)
                          else
                            j50 ()
                      )
                  )
            ) 4096 (s3.1, s3.2.1, s3.2.2.1, s3.2.2.2.1, (Int32.ofInt 0)) (fun (x27 : Int32 × Int32 × Int64 × Int64) =>
              nx4 (x27.1, x27.2.1, x27.2.2.1, x27.2.2.2, (s3.2.2.2.2 + Int32.ofInt 1))
            )
      ) 4096 ((Int32.ofInt (-1)), (Int32.ofInt (-1)), (Int64.ofNat 0), (Int64.ofNat 1), (Int32.ofInt 0)) (fun (x6 : Int32 × Int32) =>
        if x6.1 = (Int32.ofInt (-1)) then
          (m_189 a0 (Int8.ofInt (-5)).toInt32 th2).bind fun q10 =>
          some (q10.1, q10.2)
        else
          jn (fun (v7 : Int32) =>
              some (v7, th2)
            ) (fun j8 =>
              if a1 = 0 then
                j8 x6.1
              else
                j8 x6.2
            )
      )
theorem c_256 {a0 : Nat} {a1 : Int32} {th : tH} {x : (Int32 × tH)} (h : m_256 a0 a1 th = some x) : ∃ fs, th[a0]? = some (.inr (8, fs)) := gC_of h
theorem S_256 {L : Nat} (d : Nat) (a0 : Nat) (a1 : Int32) (th : tH) : Wx L (fun x => (some (.int x.1), x.2)) (d + 4) 256 17 0 [(0, .ref a0), (1, .int a1)] [] th (m_256 a0 a1 th) := by
  unfold m_256
  refine x_gC ?_
  refine x_P 1 rfl rfl rfl ?_
  refine x_P 2 rfl rfl rfl ?_
  refine x_P 3 rfl rfl rfl ?_
  refine x_P 4 rfl rfl rfl ?_
  refine x_callS rfl rfl rfl rfl rfl rfl ⟨rfl, rfl⟩ (S_190 (d + 3) (Int32.toInt64 a1) (Int64.ofNat 0) (Int64.ofNat 1) th) (fun x1 hx1 => ?_)
  refine x_if_ne rfl rfl (fun h59 => ?_) (fun h59 => ?_)
  · refine x_P 11 rfl rfl rfl ?_
    refine x_P 13 rfl rfl rfl ?_
    refine x_callV rfl rfl rfl rfl rfl ⟨rfl, rfl⟩ (fun x h => c_189 h) (S_189 (d + 2) a0 (Int8.ofInt (-2)).toInt32 th) (fun q58 hq58 => ?_)
    exact x_retI (x := (q58.1, q58.2)) rfl
  · refine x_P 18 rfl rfl rfl ?_
    refine x_callW rfl rfl rfl rfl rfl ⟨rfl, rfl⟩ (fun x h => c_240 h) (S_240 d a0 th) (fun th2 hth2 => ?_)
    refine x_P 22 rfl rfl rfl ?_
    refine x_P (lv' := [(2, .int (Int32.ofInt (-1))), (0, .ref a0), (1, .int a1)]) 23 rfl rfl rfl ?_
    refine x_P 24 rfl rfl rfl ?_
    refine x_P (lv' := [(3, .int (Int32.ofInt (-1))), (2, .int (Int32.ofInt (-1))), (0, .ref a0), (1, .int a1)]) 25 rfl rfl rfl ?_
    refine x_P 26 rfl rfl rfl ?_
    refine x_P (lv' := [(4, .long (Int64.ofNat 0)), (3, .int (Int32.ofInt (-1))), (2, .int (Int32.ofInt (-1))), (0, .ref a0), (1, .int a1)]) 28 rfl rfl rfl ?_
    refine x_P 29 rfl rfl rfl ?_
    refine x_P (lv' := [(6, .long (Int64.ofNat 1)), (4, .long (Int64.ofNat 0)), (3, .int (Int32.ofInt (-1))), (2, .int (Int32.ofInt (-1))), (0, .ref a0), (1, .int a1)]) 31 rfl rfl rfl ?_
    refine x_P 32 rfl rfl rfl ?_
    refine x_P (lv' := [(8, .int (Int32.ofInt 0)), (6, .long (Int64.ofNat 1)), (4, .long (Int64.ofNat 0)), (3, .int (Int32.ofInt (-1))), (2, .int (Int32.ofInt (-1))), (0, .ref a0), (1, .int a1)]) 34 rfl rfl rfl ?_
    refine x_lv (lv := [(0, .ref a0), (1, .int a1), (2, .int (Int32.ofInt (-1))), (3, .int (Int32.ofInt (-1))), (4, .long (Int64.ofNat 0)), (6, .long (Int64.ofNat 1)), (8, .int (Int32.ofInt 0))]) (x_lp 227 (fun s3 => [(0, .ref a0), (1, .int a1), (2, .int s3.1), (3, .int s3.2.1), (4, .long s3.2.2.1), (6, .long s3.2.2.2.1), (8, .int s3.2.2.2.2)]) (fun s3 => th2) (fun x6 => [(0, .ref a0), (1, .int a1), (2, .int x6.1), (3, .int x6.2)]) (fun x6 => th2) (fun s3 nx4 hnx4 ex5 hex5 => ?_) (fun x6 => ?_) 4096 ((Int32.ofInt (-1)), (Int32.ofInt (-1)), (Int64.ofNat 0), (Int64.ofNat 1), (Int32.ofInt 0))) ⟨rfl, rfl, rfl, rfl, rfl, rfl, rfl, trivial⟩
    · refine x_P 36 rfl rfl rfl ?_
      refine x_P 37 rfl rfl rfl ?_
      refine x_gI rfl (fun x12 hx12 => ?_)
      refine x_ic_ge rfl rfl (fun h57 => ?_) (fun h57 => ?_)
      · exact x_lv (hex5 (s3.1, s3.2.1)) ⟨rfl, rfl, rfl, rfl, trivial⟩
      · refine x_P 44 rfl rfl rfl ?_
        refine x_gN rfl (fun o13 ho13 => ?_)
        refine x_P 49 rfl rfl rfl ?_
        refine x_aI rfl ⟨rfl, rfl⟩ (fun x14 hx14 => ?_)
        refine x_P 51 rfl rfl rfl ?_
        refine x_callS rfl rfl rfl rfl rfl rfl ⟨rfl, rfl⟩ (S_255 (d + 2) x14 (Int32.ofInt 0) th2) (fun x15 hx15 => ?_)
        refine x_P (lv' := [(9, .int x15), (0, .ref a0), (1, .int a1), (2, .int s3.1), (3, .int s3.2.1), (4, .long s3.2.2.1), (6, .long s3.2.2.2.1), (8, .int s3.2.2.2.2)]) 56 rfl rfl rfl ?_
        refine x_P 57 rfl rfl rfl ?_
        refine x_gN rfl (fun o16 ho16 => ?_)
        refine x_P 62 rfl rfl rfl ?_
        refine x_aI rfl ⟨rfl, rfl⟩ (fun x17 hx17 => ?_)
        refine x_P 65 rfl rfl rfl ?_
        refine x_P 66 rfl rfl rfl ?_
        refine x_P 67 rfl rfl rfl ?_
        refine x_callS rfl rfl rfl rfl rfl rfl ⟨rfl, rfl⟩ (S_255 (d + 2) x17 (x15 + (Int32.ofInt 1)) th2) (fun x18 hx18 => ?_)
        refine x_P (lv' := [(10, .int x18), (9, .int x15), (0, .ref a0), (1, .int a1), (2, .int s3.1), (3, .int s3.2.1), (4, .long s3.2.2.1), (6, .long s3.2.2.2.1), (8, .int s3.2.2.2.2)]) 72 rfl rfl rfl ?_
        refine x_P 73 rfl rfl rfl ?_
        refine x_P 74 rfl rfl rfl ?_
        refine x_gN rfl (fun o19 ho19 => ?_)
        refine x_P 79 rfl rfl rfl ?_
        refine x_aI rfl ⟨rfl, rfl⟩ (fun x20 hx20 => ?_)
        refine x_P 81 rfl rfl rfl ?_
        refine x_gN rfl (fun o21 ho21 => ?_)
        refine x_P 86 rfl rfl rfl ?_
        refine x_aI rfl ⟨rfl, rfl⟩ (fun x22 hx22 => ?_)
        refine x_callV rfl rfl rfl rfl rfl ⟨rfl, rfl⟩ (fun x h => c_238 h) (S_238 (d + 3) a0 x20 x22 th2) (fun x23 hx23 => ?_)
        refine x_P 91 rfl rfl rfl ?_
        refine x_P (lv' := [(11, .long (Int32.toInt64 x23)), (10, .int x18), (9, .int x15), (0, .ref a0), (1, .int a1), (2, .int s3.1), (3, .int s3.2.1), (4, .long s3.2.2.1), (6, .long s3.2.2.2.1), (8, .int s3.2.2.2.2)]) 93 rfl rfl rfl ?_
        refine x_P 94 rfl rfl rfl ?_
        refine x_P (lv' := [(13, .int (Int32.ofInt 0)), (11, .long (Int32.toInt64 x23)), (10, .int x18), (9, .int x15), (0, .ref a0), (1, .int a1), (2, .int s3.1), (3, .int s3.2.1), (4, .long s3.2.2.1), (6, .long s3.2.2.2.1), (8, .int s3.2.2.2.2)]) 96 rfl rfl rfl ?_
        refine x_lv (lv := [(0, .ref a0), (1, .int a1), (2, .int s3.1), (3, .int s3.2.1), (4, .long s3.2.2.1), (6, .long s3.2.2.2.1), (8, .int s3.2.2.2.2), (9, .int x15), (10, .int x18), (11, .long (Int32.toInt64 x23)), (13, .int (Int32.ofInt 0))]) (x_lp 221 (fun s24 => [(0, .ref a0), (1, .int a1), (2, .int s24.1), (3, .int s24.2.1), (4, .long s24.2.2.1), (6, .long s24.2.2.2.1), (8, .int s3.2.2.2.2), (9, .int x15), (10, .int x18), (11, .long (Int32.toInt64 x23)), (13, .int s24.2.2.2.2)]) (fun s24 => th2) (fun x27 => [(0, .ref a0), (1, .int a1), (2, .int x27.1), (3, .int x27.2.1), (4, .long x27.2.2.1), (6, .long x27.2.2.2), (8, .int s3.2.2.2.2)]) (fun x27 => th2) (fun s24 nx25 hnx25 ex26 hex26 => ?_) (fun x27 => ?_) 4096 (s3.1, s3.2.1, s3.2.2.1, s3.2.2.2.1, (Int32.ofInt 0))) ⟨rfl, rfl, rfl, rfl, rfl, rfl, rfl, rfl, rfl, rfl, rfl, trivial⟩
        · refine x_P 98 rfl rfl rfl ?_
          refine x_P 99 rfl rfl rfl ?_
          refine x_gI rfl (fun x28 hx28 => ?_)
          refine x_ic_ge rfl rfl (fun h56 => ?_) (fun h56 => ?_)
          · exact x_lv (hex26 (s24.1, s24.2.1, s24.2.2.1, s24.2.2.2.1)) ⟨rfl, rfl, rfl, rfl, rfl, rfl, rfl, trivial⟩
          · refine x_P 106 rfl rfl rfl ?_
            refine x_P 107 rfl rfl rfl ?_
            refine x_gN rfl (fun o29 ho29 => ?_)
            refine x_P 112 rfl rfl rfl ?_
            refine x_aI rfl ⟨rfl, rfl⟩ (fun x30 hx30 => ?_)
            refine x_P 114 rfl rfl rfl ?_
            refine x_gN rfl (fun o31 ho31 => ?_)
            refine x_P 119 rfl rfl rfl ?_
            refine x_aI rfl ⟨rfl, rfl⟩ (fun x32 hx32 => ?_)
            refine x_P 121 rfl rfl rfl ?_
            refine x_gN rfl (fun o33 ho33 => ?_)
            refine x_P 126 rfl rfl rfl ?_
            refine x_aI rfl ⟨rfl, rfl⟩ (fun x34 hx34 => ?_)
            refine x_callV rfl rfl rfl rfl rfl ⟨rfl, rfl⟩ (fun x h => c_235 h) (S_235 (d + 3) a0 x30 x32 x34 th2) (fun x35 hx35 => ?_)
            refine x_P 131 rfl rfl rfl ?_
            refine x_P (lv' := [(14, .long (Int32.toInt64 x35)), (0, .ref a0), (1, .int a1), (2, .int s24.1), (3, .int s24.2.1), (4, .long s24.2.2.1), (6, .long s24.2.2.2.1), (8, .int s3.2.2.2.2), (9, .int x15), (10, .int x18), (11, .long (Int32.toInt64 x23)), (13, .int s24.2.2.2.2)]) 133 rfl rfl rfl ?_
            refine x_P 134 rfl rfl rfl ?_
            refine x_gN rfl (fun o36 ho36 => ?_)
            refine x_P 139 rfl rfl rfl ?_
            refine x_aI rfl ⟨rfl, rfl⟩ (fun x37 hx37 => ?_)
            refine x_P 141 rfl rfl rfl ?_
            refine x_jn 164 (fun v38 => [(0, .ref a0), (1, .int a1), (2, .int s24.1), (3, .int s24.2.1), (4, .long s24.2.2.1), (6, .long s24.2.2.2.1), (8, .int s3.2.2.2.2), (9, .int x15), (10, .int x18), (11, .long (Int32.toInt64 x23)), (13, .int s24.2.2.2.2), (14, .long (Int32.toInt64 x35))]) (fun v38 => [.int v38]) (fun v38 => th2) (fun v38 => ?_) (fun j39 hj39 => ?_)
            · refine x_P (lv' := [(16, .int v38), (0, .ref a0), (1, .int a1), (2, .int s24.1), (3, .int s24.2.1), (4, .long s24.2.2.1), (6, .long s24.2.2.2.1), (8, .int s3.2.2.2.2), (9, .int x15), (10, .int x18), (11, .long (Int32.toInt64 x23)), (13, .int s24.2.2.2.2), (14, .long (Int32.toInt64 x35))]) 166 rfl rfl rfl ?_
              refine x_P 168 rfl rfl rfl ?_
              refine x_jn 215 (fun v40 => [(0, .ref a0), (1, .int a1), (2, .int v40.1), (3, .int v40.2.1), (4, .long v40.2.2.1), (6, .long v40.2.2.2), (8, .int s3.2.2.2.2), (9, .int x15), (10, .int x18), (11, .long (Int32.toInt64 x23)), (13, .int s24.2.2.2.2)]) (fun v40 => []) (fun v40 => th2) (fun v40 => ?_) (fun j41 hj41 => ?_)
              · refine x_P (lv' := [(13, .int (s24.2.2.2.2 + Int32.ofInt 1)), (0, .ref a0), (1, .int a1), (2, .int v40.1), (3, .int v40.2.1), (4, .long v40.2.2.1), (6, .long v40.2.2.2), (8, .int s3.2.2.2.2), (9, .int x15), (10, .int x18), (11, .long (Int32.toInt64 x23))]) 218 rfl rfl rfl ?_
                refine x_P 96 rfl rfl rfl ?_
                exact x_lv (hnx25 (v40.1, v40.2.1, v40.2.2.1, v40.2.2.2, (s24.2.2.2.2 + Int32.ofInt 1))) ⟨rfl, rfl, rfl, rfl, rfl, rfl, rfl, rfl, rfl, rfl, rfl, trivial⟩
              · refine x_if_eq rfl rfl (fun h48 => ?_) (fun h48 => ?_)
                · exact x_lv (hj41 (s24.1, s24.2.1, s24.2.2.1, s24.2.2.2.1)) ⟨rfl, rfl, rfl, rfl, rfl, rfl, rfl, rfl, rfl, rfl, rfl, trivial⟩
                · refine x_P 172 rfl rfl rfl ?_
                  refine x_P 173 rfl rfl rfl ?_
                  refine x_jn 193 (fun v42 => [(0, .ref a0), (1, .int a1), (8, .int s3.2.2.2.2), (9, .int x15), (10, .int x18), (11, .long (Int32.toInt64 x23)), (13, .int s24.2.2.2.2), (14, .long (Int32.toInt64 x35))]) (fun v42 => []) (fun v42 => th2) (fun v42 => ?_) (fun j43 hj43 => ?_)
                  · refine x_P 194 rfl rfl rfl ?_
                    refine x_gN rfl (fun o44 ho44 => ?_)
                    refine x_P 199 rfl rfl rfl ?_
                    refine x_aI rfl ⟨rfl, rfl⟩ (fun x45 hx45 => ?_)
                    refine x_P (lv' := [(2, .int x45), (0, .ref a0), (1, .int a1), (8, .int s3.2.2.2.2), (9, .int x15), (10, .int x18), (11, .long (Int32.toInt64 x23)), (13, .int s24.2.2.2.2), (14, .long (Int32.toInt64 x35))]) 201 rfl rfl rfl ?_
                    refine x_P 203 rfl rfl rfl ?_
                    refine x_P (lv' := [(3, .int s24.2.2.2.2), (2, .int x45), (0, .ref a0), (1, .int a1), (8, .int s3.2.2.2.2), (9, .int x15), (10, .int x18), (11, .long (Int32.toInt64 x23)), (13, .int s24.2.2.2.2), (14, .long (Int32.toInt64 x35))]) 204 rfl rfl rfl ?_
                    refine x_P 206 rfl rfl rfl ?_
                    refine x_P 208 rfl rfl rfl ?_
                    refine x_P 209 rfl rfl rfl ?_
                    refine x_P (lv' := [(4, .long ((Int32.toInt64 x35) * (Int32.toInt64 x35))), (3, .int s24.2.2.2.2), (2, .int x45), (0, .ref a0), (1, .int a1), (8, .int s3.2.2.2.2), (9, .int x15), (10, .int x18), (11, .long (Int32.toInt64 x23)), (13, .int s24.2.2.2.2), (14, .long (Int32.toInt64 x35))]) 211 rfl rfl rfl ?_
                    refine x_P 213 rfl rfl rfl ?_
                    refine x_P (lv' := [(6, .long (Int32.toInt64 x23)), (4, .long ((Int32.toInt64 x35) * (Int32.toInt64 x35))), (3, .int s24.2.2.2.2), (2, .int x45), (0, .ref a0), (1, .int a1), (8, .int s3.2.2.2.2), (9, .int x15), (10, .int x18), (11, .long (Int32.toInt64 x23)), (13, .int s24.2.2.2.2), (14, .long (Int32.toInt64 x35))]) 215 rfl rfl rfl ?_
                    exact x_lv (hj41 (x45, s24.2.2.2.2, ((Int32.toInt64 x35) * (Int32.toInt64 x35)), (Int32.toInt64 x23))) ⟨rfl, rfl, rfl, rfl, rfl, rfl, rfl, rfl, rfl, rfl, rfl, trivial⟩
                  · refine x_ic_eq rfl rfl (fun h47 => ?_) (fun h47 => ?_)
                    · exact x_lv (hj43 ()) ⟨rfl, rfl, rfl, rfl, rfl, rfl, rfl, rfl, trivial⟩
                    · refine x_P 178 rfl rfl rfl ?_
                      refine x_P 180 rfl rfl rfl ?_
                      refine x_P 181 rfl rfl rfl ?_
                      refine x_P 183 rfl rfl rfl ?_
                      refine x_P 184 rfl rfl rfl ?_
                      refine x_P 186 rfl rfl rfl ?_
                      refine x_P 188 rfl rfl rfl ?_
                      refine x_P 189 rfl rfl rfl ?_
                      refine x_P 190 rfl rfl rfl ?_
                      refine x_if_ge rfl rfl (fun h46 => ?_) (fun h46 => ?_)
                      · exact x_lv (hj41 (s24.1, s24.2.1, s24.2.2.1, s24.2.2.2.1)) ⟨rfl, rfl, rfl, rfl, rfl, rfl, rfl, rfl, rfl, rfl, rfl, trivial⟩
                      · exact x_lv (hj43 ()) ⟨rfl, rfl, rfl, rfl, rfl, rfl, rfl, rfl, trivial⟩
            · refine x_jn 163 (fun v49 => [(0, .ref a0), (1, .int a1), (2, .int s24.1), (3, .int s24.2.1), (4, .long s24.2.2.1), (6, .long s24.2.2.2.1), (8, .int s3.2.2.2.2), (9, .int x15), (10, .int x18), (11, .long (Int32.toInt64 x23)), (13, .int s24.2.2.2.2), (14, .long (Int32.toInt64 x35))]) (fun v49 => []) (fun v49 => th2) (fun v49 => ?_) (fun j50 hj50 => ?_)
              · refine x_P 164 rfl rfl rfl ?_
                exact x_lv (hj39 (Int32.ofInt 0)) ⟨rfl, rfl, rfl, rfl, rfl, rfl, rfl, rfl, rfl, rfl, rfl, rfl, trivial⟩
              · refine x_ic_eq rfl rfl (fun h55 => ?_) (fun h55 => ?_)
                · exact x_lv (hj50 ()) ⟨rfl, rfl, rfl, rfl, rfl, rfl, rfl, rfl, rfl, rfl, rfl, rfl, trivial⟩
                · refine x_P 145 rfl rfl rfl ?_
                  refine x_gN rfl (fun o51 ho51 => ?_)
                  refine x_P 150 rfl rfl rfl ?_
                  refine x_aI rfl ⟨rfl, rfl⟩ (fun x52 hx52 => ?_)
                  refine x_P 153 rfl rfl rfl ?_
                  refine x_callS rfl rfl rfl rfl rfl rfl ⟨rfl, rfl⟩ (S_195 (d + 3) x52 s24.2.2.2.2 th2) (fun x53 hx53 => ?_)
                  refine x_if_ne rfl rfl (fun h54 => ?_) (fun h54 => ?_)
                  · refine x_P 160 rfl rfl rfl ?_
                    refine x_P 164 rfl rfl rfl ?_
                    exact x_lv (hj39 (Int32.ofInt 1)) ⟨rfl, rfl, rfl, rfl, rfl, rfl, rfl, rfl, rfl, rfl, rfl, rfl, trivial⟩
                  · exact x_lv (hj50 ()) ⟨rfl, rfl, rfl, rfl, rfl, rfl, rfl, rfl, rfl, rfl, rfl, rfl, trivial⟩
        · refine x_P (lv' := [(8, .int (s3.2.2.2.2 + Int32.ofInt 1)), (0, .ref a0), (1, .int a1), (2, .int x27.1), (3, .int x27.2.1), (4, .long x27.2.2.1), (6, .long x27.2.2.2)]) 224 rfl rfl rfl ?_
          refine x_P 34 rfl rfl rfl ?_
          exact x_lv (hnx4 (x27.1, x27.2.1, x27.2.2.1, x27.2.2.2, (s3.2.2.2.2 + Int32.ofInt 1))) ⟨rfl, rfl, rfl, rfl, rfl, rfl, rfl, trivial⟩
    · refine x_P 228 rfl rfl rfl ?_
      refine x_P 229 rfl rfl rfl ?_
      refine x_ic_ne rfl rfl (fun h11 => ?_) (fun h11 => ?_)
      · refine x_P 233 rfl rfl rfl ?_
        refine x_P 235 rfl rfl rfl ?_
        refine x_callV rfl rfl rfl rfl rfl ⟨rfl, rfl⟩ (fun x h => c_189 h) (S_189 (d + 2) a0 (Int8.ofInt (-5)).toInt32 th2) (fun q10 hq10 => ?_)
        exact x_retI (x := (q10.1, q10.2)) rfl
      · refine x_P 240 rfl rfl rfl ?_
        refine x_jn 248 (fun v7 => []) (fun v7 => [.int v7]) (fun v7 => th2) (fun v7 => ?_) (fun j8 hj8 => ?_)
        · exact x_retI (x := (v7, th2)) rfl
        · refine x_if_ne rfl rfl (fun h9 => ?_) (fun h9 => ?_)
          · refine x_P 244 rfl rfl rfl ?_
            refine x_P 248 rfl rfl rfl ?_
            exact x_lv (hj8 x6.1) trivial
          · refine x_P 248 rfl rfl rfl ?_
            exact x_lv (hj8 x6.2) trivial
-- 257 NineTreesModel.threesWithout(I)I
noncomputable def m_257 (a0 : Nat) (a1 : Int32) (th : tH) : Option (Int32 × tH) :=
  (gC th 8 a0).bind fun _ =>
  (gN th 8 a0 11).bind fun o1 =>
  (aI th o1 a1).bind fun x2 =>
  (gN th 8 a0 11).bind fun o3 =>
  (sI th o3 a1 (Int32.ofInt 4)).bind fun th4 =>
  (m_243 a0 th4).bind fun q5 =>
  (gN q5.2 8 a0 11).bind fun o6 =>
  (sI q5.2 o6 a1 x2).bind fun th7 =>
  some (q5.1, th7)
theorem c_257 {a0 : Nat} {a1 : Int32} {th : tH} {x : (Int32 × tH)} (h : m_257 a0 a1 th = some x) : ∃ fs, th[a0]? = some (.inr (8, fs)) := gC_of h
theorem S_257 {L : Nat} (d : Nat) (a0 : Nat) (a1 : Int32) (th : tH) : Wx L (fun x => (some (.int x.1), x.2)) (d + 5) 257 4 0 [(0, .ref a0), (1, .int a1)] [] th (m_257 a0 a1 th) := by
  unfold m_257
  refine x_gC ?_
  refine x_P 1 rfl rfl rfl ?_
  refine x_gN rfl (fun o1 ho1 => ?_)
  refine x_P 5 rfl rfl rfl ?_
  refine x_aI rfl ⟨rfl, rfl⟩ (fun x2 hx2 => ?_)
  refine x_P (lv' := [(2, .int x2), (0, .ref a0), (1, .int a1)]) 7 rfl rfl rfl ?_
  refine x_P 8 rfl rfl rfl ?_
  refine x_gN rfl (fun o3 ho3 => ?_)
  refine x_P 12 rfl rfl rfl ?_
  refine x_P 13 rfl rfl rfl ?_
  refine x_sI rfl ⟨rfl, rfl⟩ (fun th4 hth4 => ?_)
  refine x_P 15 rfl rfl rfl ?_
  refine x_callV rfl rfl rfl rfl rfl ⟨rfl, rfl⟩ (fun x h => c_243 h) (S_243 d a0 th4) (fun q5 hq5 => ?_)
  refine x_P (lv' := [(3, .int q5.1), (2, .int x2), (0, .ref a0), (1, .int a1)]) 19 rfl rfl rfl ?_
  refine x_P 20 rfl rfl rfl ?_
  refine x_gN rfl (fun o6 ho6 => ?_)
  refine x_P 24 rfl rfl rfl ?_
  refine x_P 25 rfl rfl rfl ?_
  refine x_sI rfl ⟨rfl, rfl⟩ (fun th7 hth7 => ?_)
  refine x_P 27 rfl rfl rfl ?_
  exact x_retI (x := (q5.1, th7)) rfl
-- 258 NineTreesModel.missedOf(I)I
noncomputable def m_258 (a0 : Nat) (a1 : Int32) (th : tH) : Option (Int32 × tH) :=
  (gC th 8 a0).bind fun _ =>
  (m_243 a0 th).bind fun q1 =>
  (m_257 a0 a1 q1.2).bind fun q2 =>
  some ((q1.1 - q2.1), q2.2)
theorem c_258 {a0 : Nat} {a1 : Int32} {th : tH} {x : (Int32 × tH)} (h : m_258 a0 a1 th = some x) : ∃ fs, th[a0]? = some (.inr (8, fs)) := gC_of h
theorem S_258 {L : Nat} (d : Nat) (a0 : Nat) (a1 : Int32) (th : tH) : Wx L (fun x => (some (.int x.1), x.2)) (d + 6) 258 2 0 [(0, .ref a0), (1, .int a1)] [] th (m_258 a0 a1 th) := by
  unfold m_258
  refine x_gC ?_
  refine x_P 1 rfl rfl rfl ?_
  refine x_callV rfl rfl rfl rfl rfl ⟨rfl, rfl⟩ (fun x h => c_243 h) (S_243 (d + 1) a0 th) (fun q1 hq1 => ?_)
  refine x_P 5 rfl rfl rfl ?_
  refine x_P 6 rfl rfl rfl ?_
  refine x_callV rfl rfl rfl rfl rfl ⟨rfl, rfl⟩ (fun x h => c_257 h) (S_257 d a0 a1 q1.2) (fun q2 hq2 => ?_)
  refine x_P 10 rfl rfl rfl ?_
  exact x_retI (x := ((q1.1 - q2.1), q2.2)) rfl
-- 259 NineTreesModel.missed(I)I
noncomputable def m_259 (a0 : Nat) (a1 : Int32) (th : tH) : Option (Int32 × tH) :=
  (gC th 8 a0).bind fun _ =>
  (m_191 a0 a1 th).bind fun x1 =>
  jn (fun (v2 : Int32 × tH) =>
      some (v2.1, v2.2)
    ) (fun j3 =>
      if x1 = 0 then
        (m_189 a0 (Int8.ofInt (-2)).toInt32 th).bind fun q4 =>
        j3 (q4.1, q4.2)
      else
        (m_258 a0 a1 th).bind fun q5 =>
        j3 (q5.1, q5.2)
    )
theorem c_259 {a0 : Nat} {a1 : Int32} {th : tH} {x : (Int32 × tH)} (h : m_259 a0 a1 th = some x) : ∃ fs, th[a0]? = some (.inr (8, fs)) := gC_of h
theorem S_259 {L : Nat} (d : Nat) (a0 : Nat) (a1 : Int32) (th : tH) : Wx L (fun x => (some (.int x.1), x.2)) (d + 7) 259 2 0 [(0, .ref a0), (1, .int a1)] [] th (m_259 a0 a1 th) := by
  unfold m_259
  refine x_gC ?_
  refine x_P 1 rfl rfl rfl ?_
  refine x_P 2 rfl rfl rfl ?_
  refine x_callV rfl rfl rfl rfl rfl ⟨rfl, rfl⟩ (fun x h => c_191 h) (S_191 (d + 5) a0 a1 th) (fun x1 hx1 => ?_)
  refine x_jn 22 (fun v2 => []) (fun v2 => [.int v2.1]) (fun v2 => v2.2) (fun v2 => ?_) (fun j3 hj3 => ?_)
  · exact x_retI (x := (v2.1, v2.2)) rfl
  · refine x_if_eq rfl rfl (fun h6 => ?_) (fun h6 => ?_)
    · refine x_P 17 rfl rfl rfl ?_
      refine x_P 19 rfl rfl rfl ?_
      refine x_callV rfl rfl rfl rfl rfl ⟨rfl, rfl⟩ (fun x h => c_189 h) (S_189 (d + 5) a0 (Int8.ofInt (-2)).toInt32 th) (fun q4 hq4 => ?_)
      exact x_lv (hj3 (q4.1, q4.2)) trivial
    · refine x_P 9 rfl rfl rfl ?_
      refine x_P 10 rfl rfl rfl ?_
      refine x_callV rfl rfl rfl rfl rfl ⟨rfl, rfl⟩ (fun x h => c_258 h) (S_258 d a0 a1 th) (fun q5 hq5 => ?_)
      refine x_P 22 rfl rfl rfl ?_
      exact x_lv (hj3 (q5.1, q5.2)) trivial
-- 260 NineTreesModel.least()I
noncomputable def m_260 (a0 : Nat) (th : tH) : Option (Int32 × tH) :=
  (gC th 8 a0).bind fun _ =>
  (gI th 8 a0 10).bind fun x1 =>
  if x1 = 0 then
    (m_189 a0 (Int8.ofInt (-5)).toInt32 th).bind fun q13 =>
    some (q13.1, q13.2)
  else
    lp (fun (s2 : Int32 × Int32 × tH) nx3 ex4 =>
        (gI s2.2.2 8 a0 10).bind fun x6 =>
        if x6 ≤ s2.2.1 then
          ex4 (s2.1, s2.2.2)
        else
          (m_258 a0 s2.2.1 s2.2.2).bind fun q7 =>
          (m_258 a0 s2.1 q7.2).bind fun q8 =>
          jn (fun (v9 : Int32) =>
              nx3 (v9, (s2.2.1 + Int32.ofInt 1), q8.2)
            ) (fun j10 =>
              if q8.1 ≤ q7.1 then
                j10 s2.1
              else
                j10 s2.2.1
            )
      ) 4096 ((Int32.ofInt 0), (Int32.ofInt 1), th) (fun (x5 : Int32 × tH) =>
        some (x5.1, x5.2)
      )
theorem c_260 {a0 : Nat} {th : tH} {x : (Int32 × tH)} (h : m_260 a0 th = some x) : ∃ fs, th[a0]? = some (.inr (8, fs)) := gC_of h
theorem S_260 {L : Nat} (d : Nat) (a0 : Nat) (th : tH) : Wx L (fun x => (some (.int x.1), x.2)) (d + 7) 260 3 0 [(0, .ref a0)] [] th (m_260 a0 th) := by
  unfold m_260
  refine x_gC ?_
  refine x_P 1 rfl rfl rfl ?_
  refine x_gI rfl (fun x1 hx1 => ?_)
  refine x_if_ne rfl rfl (fun h14 => ?_) (fun h14 => ?_)
  · refine x_P 8 rfl rfl rfl ?_
    refine x_P 10 rfl rfl rfl ?_
    refine x_callV rfl rfl rfl rfl rfl ⟨rfl, rfl⟩ (fun x h => c_189 h) (S_189 (d + 5) a0 (Int8.ofInt (-5)).toInt32 th) (fun q13 hq13 => ?_)
    exact x_retI (x := (q13.1, q13.2)) rfl
  · refine x_P 15 rfl rfl rfl ?_
    refine x_P (lv' := [(1, .int (Int32.ofInt 0)), (0, .ref a0)]) 16 rfl rfl rfl ?_
    refine x_P 17 rfl rfl rfl ?_
    refine x_P (lv' := [(2, .int (Int32.ofInt 1)), (1, .int (Int32.ofInt 0)), (0, .ref a0)]) 18 rfl rfl rfl ?_
    refine x_lv (lv := [(0, .ref a0), (1, .int (Int32.ofInt 0)), (2, .int (Int32.ofInt 1))]) (x_lp 51 (fun s2 => [(0, .ref a0), (1, .int s2.1), (2, .int s2.2.1)]) (fun s2 => s2.2.2) (fun x5 => [(1, .int x5.1)]) (fun x5 => x5.2) (fun s2 nx3 hnx3 ex4 hex4 => ?_) (fun x5 => ?_) 4096 ((Int32.ofInt 0), (Int32.ofInt 1), th)) ⟨rfl, rfl, rfl, trivial⟩
    · refine x_P 19 rfl rfl rfl ?_
      refine x_P 20 rfl rfl rfl ?_
      refine x_gI rfl (fun x6 hx6 => ?_)
      refine x_ic_ge rfl rfl (fun h12 => ?_) (fun h12 => ?_)
      · exact x_lv (hex4 (s2.1, s2.2.2)) ⟨rfl, trivial⟩
      · refine x_P 27 rfl rfl rfl ?_
        refine x_P 28 rfl rfl rfl ?_
        refine x_callV rfl rfl rfl rfl rfl ⟨rfl, rfl⟩ (fun x h => c_258 h) (S_258 d a0 s2.2.1 s2.2.2) (fun q7 hq7 => ?_)
        refine x_P 32 rfl rfl rfl ?_
        refine x_P 33 rfl rfl rfl ?_
        refine x_callV rfl rfl rfl rfl rfl ⟨rfl, rfl⟩ (fun x h => c_258 h) (S_258 d a0 s2.1 q7.2) (fun q8 hq8 => ?_)
        refine x_jn 44 (fun v9 => [(0, .ref a0), (2, .int s2.2.1)]) (fun v9 => [.int v9]) (fun v9 => q8.2) (fun v9 => ?_) (fun j10 hj10 => ?_)
        · refine x_P (lv' := [(1, .int v9), (0, .ref a0), (2, .int s2.2.1)]) 45 rfl rfl rfl ?_
          refine x_P (lv' := [(2, .int (s2.2.1 + Int32.ofInt 1)), (1, .int v9), (0, .ref a0)]) 48 rfl rfl rfl ?_
          refine x_P 18 rfl rfl rfl ?_
          exact x_lv (hnx3 (v9, (s2.2.1 + Int32.ofInt 1), q8.2)) ⟨rfl, rfl, rfl, trivial⟩
        · refine x_ic_ge rfl rfl (fun h11 => ?_) (fun h11 => ?_)
          · refine x_P 44 rfl rfl rfl ?_
            exact x_lv (hj10 s2.1) ⟨rfl, rfl, trivial⟩
          · refine x_P 40 rfl rfl rfl ?_
            refine x_P 44 rfl rfl rfl ?_
            exact x_lv (hj10 s2.2.1) ⟨rfl, rfl, trivial⟩
    · refine x_P 52 rfl rfl rfl ?_
      exact x_retI (x := (x5.1, x5.2)) rfl
-- 261 NineTreesModel.metMany()I
noncomputable def m_261 (a0 : Nat) (th : tH) : Option (Int32 × tH) :=
  (gC th 8 a0).bind fun _ =>
  lp (fun (s1 : Int32 × Int32 × tH) nx2 ex3 =>
      (gI s1.2.2 8 a0 14).bind fun x5 =>
      if x5 ≤ s1.2.1 then
        ex3 (s1.1, s1.2.2)
      else
        (gN s1.2.2 8 a0 15).bind fun o6 =>
        (aI s1.2.2 o6 s1.2.1).bind fun x7 =>
        (m_252 a0 x7 s1.2.2).bind fun q8 =>
        jn (fun (v9 : Int32 × Int32) =>
            nx2 ((v9.2 + v9.1), (s1.2.1 + Int32.ofInt 1), q8.2)
          ) (fun j10 =>
            if q8.1 = 0 then
              j10 ((Int32.ofInt 0), s1.1)
            else
              j10 ((Int32.ofInt 1), s1.1)
          )
    ) 4096 ((Int32.ofInt 0), (Int32.ofInt 0), th) (fun (x4 : Int32 × tH) =>
      some (x4.1, x4.2)
    )
theorem c_261 {a0 : Nat} {th : tH} {x : (Int32 × tH)} (h : m_261 a0 th = some x) : ∃ fs, th[a0]? = some (.inr (8, fs)) := gC_of h
theorem S_261 {L : Nat} (d : Nat) (a0 : Nat) (th : tH) : Wx L (fun x => (some (.int x.1), x.2)) (d + 5) 261 3 0 [(0, .ref a0)] [] th (m_261 a0 th) := by
  unfold m_261
  refine x_gC ?_
  refine x_P 1 rfl rfl rfl ?_
  refine x_P (lv' := [(1, .int (Int32.ofInt 0)), (0, .ref a0)]) 2 rfl rfl rfl ?_
  refine x_P 3 rfl rfl rfl ?_
  refine x_P (lv' := [(2, .int (Int32.ofInt 0)), (1, .int (Int32.ofInt 0)), (0, .ref a0)]) 4 rfl rfl rfl ?_
  refine x_lv (lv := [(0, .ref a0), (1, .int (Int32.ofInt 0)), (2, .int (Int32.ofInt 0))]) (x_lp 39 (fun s1 => [(0, .ref a0), (1, .int s1.1), (2, .int s1.2.1)]) (fun s1 => s1.2.2) (fun x4 => [(1, .int x4.1)]) (fun x4 => x4.2) (fun s1 nx2 hnx2 ex3 hex3 => ?_) (fun x4 => ?_) 4096 ((Int32.ofInt 0), (Int32.ofInt 0), th)) ⟨rfl, rfl, rfl, trivial⟩
  · refine x_P 5 rfl rfl rfl ?_
    refine x_P 6 rfl rfl rfl ?_
    refine x_gI rfl (fun x5 hx5 => ?_)
    refine x_ic_ge rfl rfl (fun h12 => ?_) (fun h12 => ?_)
    · exact x_lv (hex3 (s1.1, s1.2.2)) ⟨rfl, trivial⟩
    · refine x_P 13 rfl rfl rfl ?_
      refine x_P 14 rfl rfl rfl ?_
      refine x_P 15 rfl rfl rfl ?_
      refine x_gN rfl (fun o6 ho6 => ?_)
      refine x_P 19 rfl rfl rfl ?_
      refine x_aI rfl ⟨rfl, rfl⟩ (fun x7 hx7 => ?_)
      refine x_callV rfl rfl rfl rfl rfl ⟨rfl, rfl⟩ (fun x h => c_252 h) (S_252 d a0 x7 s1.2.2) (fun q8 hq8 => ?_)
      refine x_jn 31 (fun v9 => [(0, .ref a0), (2, .int s1.2.1)]) (fun v9 => [.int v9.1, .int v9.2]) (fun v9 => q8.2) (fun v9 => ?_) (fun j10 hj10 => ?_)
      · refine x_P 32 rfl rfl rfl ?_
        refine x_P (lv' := [(1, .int (v9.2 + v9.1)), (0, .ref a0), (2, .int s1.2.1)]) 33 rfl rfl rfl ?_
        refine x_P (lv' := [(2, .int (s1.2.1 + Int32.ofInt 1)), (1, .int (v9.2 + v9.1)), (0, .ref a0)]) 36 rfl rfl rfl ?_
        refine x_P 4 rfl rfl rfl ?_
        exact x_lv (hnx2 ((v9.2 + v9.1), (s1.2.1 + Int32.ofInt 1), q8.2)) ⟨rfl, rfl, rfl, trivial⟩
      · refine x_if_eq rfl rfl (fun h11 => ?_) (fun h11 => ?_)
        · refine x_P 31 rfl rfl rfl ?_
          exact x_lv (hj10 ((Int32.ofInt 0), s1.1)) ⟨rfl, rfl, trivial⟩
        · refine x_P 27 rfl rfl rfl ?_
          refine x_P 31 rfl rfl rfl ?_
          exact x_lv (hj10 ((Int32.ofInt 1), s1.1)) ⟨rfl, rfl, trivial⟩
  · refine x_P 40 rfl rfl rfl ?_
    exact x_retI (x := (x4.1, x4.2)) rfl
-- 262 NineTreesModel.findBest(Z)V
noncomputable def m_262 (a0 : Nat) (a1 : Int32) (th : tH) : Option tH :=
  (gC th 8 a0).bind fun _ =>
  (pI th 8 a0 28 (Int32.ofInt (-1))).bind fun th1 =>
  (pI th1 8 a0 29 (Int32.ofInt (-1))).bind fun th2 =>
  (pI th2 8 a0 30 (Int32.ofInt (-1))).bind fun th3 =>
  lp (fun (s4 : Int32 × tH) nx5 ex6 =>
      (gI s4.2 8 a0 10).bind fun x8 =>
      if x8 ≤ s4.1 then
        ex6 s4.2
      else
        lp (fun (s9 : Int32 × tH) nx10 ex11 =>
            (m_192 a0 s9.2).bind fun x13 =>
            if x13 ≤ s9.1 then
              ex11 s9.2
            else
              (m_197 a0 s4.1 s9.2).bind fun x14 =>
              if x14 = 0 then
                (m_194 a0 s9.1 s9.2).bind fun x15 =>
                jn (fun (v16 : tH) =>
                    nx10 ((s9.1 + Int32.ofInt 1), v16)
                  ) (fun j17 =>
                    if x15 = (Int32.ofInt (-1)) then
                      (gN s9.2 8 a0 12).bind fun o18 =>
                      (aI s9.2 o18 s4.1).bind fun x19 =>
                      (gN s9.2 8 a0 12).bind fun o20 =>
                      (sI s9.2 o20 s4.1 s9.1).bind fun th21 =>
                      jn (fun (v22 : Int32 × tH) =>
                          (gN v22.2 8 a0 12).bind fun o24 =>
                          (sI v22.2 o24 s4.1 x19).bind fun th25 =>
                          (gI th25 8 a0 30).bind fun x26 =>
                          if v22.1 ≤ x26 then
                            j17 th25
                          else
                            (pI th25 8 a0 28 s4.1).bind fun th27 =>
                            (pI th27 8 a0 29 s9.1).bind fun th28 =>
                            (pI th28 8 a0 30 v22.1).bind fun th29 =>
                            j17 th29
                        ) (fun j23 =>
                          if a1 = 0 then
                            (m_243 a0 th21).bind fun q31 =>
                            j23 (q31.1, q31.2)
                          else
                            (m_261 a0 th21).bind fun q32 =>
                            j23 (q32.1, q32.2)
                        )
                    else
                      j17 s9.2
                  )
              else
                ex11 s9.2
          ) 4096 ((Int32.ofInt 0), s4.2) (fun (x12 : tH) =>
            nx5 ((s4.1 + Int32.ofInt 1), x12)
          )
    ) 4096 ((Int32.ofInt 0), th3) (fun (x7 : tH) =>
      some x7
    )
theorem c_262 {a0 : Nat} {a1 : Int32} {th : tH} {x : tH} (h : m_262 a0 a1 th = some x) : ∃ fs, th[a0]? = some (.inr (8, fs)) := gC_of h
theorem S_262 {L : Nat} (d : Nat) (a0 : Nat) (a1 : Int32) (th : tH) : Wx L (fun x => (none, x)) (d + 6) 262 6 0 [(0, .ref a0), (1, .int a1)] [] th (m_262 a0 a1 th) := by
  unfold m_262
  refine x_gC ?_
  refine x_P 1 rfl rfl rfl ?_
  refine x_P 2 rfl rfl rfl ?_
  refine x_pI rfl (fun th1 hth1 => ?_)
  refine x_P 6 rfl rfl rfl ?_
  refine x_P 7 rfl rfl rfl ?_
  refine x_pI rfl (fun th2 hth2 => ?_)
  refine x_P 11 rfl rfl rfl ?_
  refine x_P 12 rfl rfl rfl ?_
  refine x_pI rfl (fun th3 hth3 => ?_)
  refine x_P 16 rfl rfl rfl ?_
  refine x_P (lv' := [(2, .int (Int32.ofInt 0)), (0, .ref a0), (1, .int a1)]) 17 rfl rfl rfl ?_
  refine x_lv (lv := [(0, .ref a0), (1, .int a1), (2, .int (Int32.ofInt 0))]) (x_lp 129 (fun s4 => [(0, .ref a0), (1, .int a1), (2, .int s4.1)]) (fun s4 => s4.2) (fun x7 => []) (fun x7 => x7) (fun s4 nx5 hnx5 ex6 hex6 => ?_) (fun x7 => ?_) 4096 ((Int32.ofInt 0), th3)) ⟨rfl, rfl, rfl, trivial⟩
  · refine x_P 18 rfl rfl rfl ?_
    refine x_P 19 rfl rfl rfl ?_
    refine x_gI rfl (fun x8 hx8 => ?_)
    refine x_ic_ge rfl rfl (fun h37 => ?_) (fun h37 => ?_)
    · exact x_lv (hex6 s4.2) trivial
    · refine x_P 26 rfl rfl rfl ?_
      refine x_P (lv' := [(3, .int (Int32.ofInt 0)), (0, .ref a0), (1, .int a1), (2, .int s4.1)]) 27 rfl rfl rfl ?_
      refine x_lv (lv := [(0, .ref a0), (1, .int a1), (2, .int s4.1), (3, .int (Int32.ofInt 0))]) (x_lp 123 (fun s9 => [(0, .ref a0), (1, .int a1), (2, .int s4.1), (3, .int s9.1)]) (fun s9 => s9.2) (fun x12 => [(0, .ref a0), (1, .int a1), (2, .int s4.1)]) (fun x12 => x12) (fun s9 nx10 hnx10 ex11 hex11 => ?_) (fun x12 => ?_) 4096 ((Int32.ofInt 0), s4.2)) ⟨rfl, rfl, rfl, rfl, trivial⟩
      · refine x_P 28 rfl rfl rfl ?_
        refine x_P 29 rfl rfl rfl ?_
        refine x_callV rfl rfl rfl rfl rfl ⟨rfl, rfl⟩ (fun x h => c_192 h) (S_192 (d + 5) a0 s9.2) (fun x13 hx13 => ?_)
        refine x_ic_ge rfl rfl (fun h36 => ?_) (fun h36 => ?_)
        · exact x_lv (hex11 s9.2) ⟨rfl, rfl, rfl, trivial⟩
        · refine x_P 36 rfl rfl rfl ?_
          refine x_P 37 rfl rfl rfl ?_
          refine x_callV rfl rfl rfl rfl rfl ⟨rfl, rfl⟩ (fun x h => c_197 h) (S_197 (d + 5) a0 s4.1 s9.2) (fun x14 hx14 => ?_)
          refine x_if_ne rfl rfl (fun h35 => ?_) (fun h35 => ?_)
          · refine x_P 44 rfl rfl rfl ?_
            refine x_P 45 rfl rfl rfl ?_
            refine x_callV rfl rfl rfl rfl rfl ⟨rfl, rfl⟩ (fun x h => c_194 h) (S_194 (d + 5) a0 s9.1 s9.2) (fun x15 hx15 => ?_)
            refine x_P 49 rfl rfl rfl ?_
            refine x_jn 117 (fun v16 => [(0, .ref a0), (1, .int a1), (2, .int s4.1), (3, .int s9.1)]) (fun v16 => []) (fun v16 => v16) (fun v16 => ?_) (fun j17 hj17 => ?_)
            · refine x_P (lv' := [(3, .int (s9.1 + Int32.ofInt 1)), (0, .ref a0), (1, .int a1), (2, .int s4.1)]) 120 rfl rfl rfl ?_
              refine x_P 27 rfl rfl rfl ?_
              exact x_lv (hnx10 ((s9.1 + Int32.ofInt 1), v16)) ⟨rfl, rfl, rfl, rfl, trivial⟩
            · refine x_ic_ne rfl rfl (fun h34 => ?_) (fun h34 => ?_)
              · refine x_P 53 rfl rfl rfl ?_
                refine x_gN rfl (fun o18 ho18 => ?_)
                refine x_P 57 rfl rfl rfl ?_
                refine x_aI rfl ⟨rfl, rfl⟩ (fun x19 hx19 => ?_)
                refine x_P (lv' := [(4, .int x19), (0, .ref a0), (1, .int a1), (2, .int s4.1), (3, .int s9.1)]) 60 rfl rfl rfl ?_
                refine x_P 61 rfl rfl rfl ?_
                refine x_gN rfl (fun o20 ho20 => ?_)
                refine x_P 65 rfl rfl rfl ?_
                refine x_P 66 rfl rfl rfl ?_
                refine x_sI rfl ⟨rfl, rfl⟩ (fun th21 hth21 => ?_)
                refine x_P 68 rfl rfl rfl ?_
                refine x_jn 82 (fun v22 => [(0, .ref a0), (1, .int a1), (2, .int s4.1), (3, .int s9.1), (4, .int x19)]) (fun v22 => [.int v22.1]) (fun v22 => v22.2) (fun v22 => ?_) (fun j23 hj23 => ?_)
                · refine x_P (lv' := [(5, .int v22.1), (0, .ref a0), (1, .int a1), (2, .int s4.1), (3, .int s9.1), (4, .int x19)]) 84 rfl rfl rfl ?_
                  refine x_P 85 rfl rfl rfl ?_
                  refine x_gN rfl (fun o24 ho24 => ?_)
                  refine x_P 89 rfl rfl rfl ?_
                  refine x_P 91 rfl rfl rfl ?_
                  refine x_sI rfl ⟨rfl, rfl⟩ (fun th25 hth25 => ?_)
                  refine x_P 94 rfl rfl rfl ?_
                  refine x_P 95 rfl rfl rfl ?_
                  refine x_gI rfl (fun x26 hx26 => ?_)
                  refine x_ic_le rfl rfl (fun h30 => ?_) (fun h30 => ?_)
                  · exact x_lv (hj17 th25) ⟨rfl, rfl, rfl, rfl, trivial⟩
                  · refine x_P 102 rfl rfl rfl ?_
                    refine x_P 103 rfl rfl rfl ?_
                    refine x_pI rfl (fun th27 hth27 => ?_)
                    refine x_P 107 rfl rfl rfl ?_
                    refine x_P 108 rfl rfl rfl ?_
                    refine x_pI rfl (fun th28 hth28 => ?_)
                    refine x_P 112 rfl rfl rfl ?_
                    refine x_P 114 rfl rfl rfl ?_
                    refine x_pI rfl (fun th29 hth29 => ?_)
                    exact x_lv (hj17 th29) ⟨rfl, rfl, rfl, rfl, trivial⟩
                · refine x_if_eq rfl rfl (fun h33 => ?_) (fun h33 => ?_)
                  · refine x_P 79 rfl rfl rfl ?_
                    refine x_callV rfl rfl rfl rfl rfl ⟨rfl, rfl⟩ (fun x h => c_243 h) (S_243 (d + 1) a0 th21) (fun q31 hq31 => ?_)
                    exact x_lv (hj23 (q31.1, q31.2)) ⟨rfl, rfl, rfl, rfl, rfl, trivial⟩
                  · refine x_P 72 rfl rfl rfl ?_
                    refine x_callV rfl rfl rfl rfl rfl ⟨rfl, rfl⟩ (fun x h => c_261 h) (S_261 d a0 th21) (fun q32 hq32 => ?_)
                    refine x_P 82 rfl rfl rfl ?_
                    exact x_lv (hj23 (q32.1, q32.2)) ⟨rfl, rfl, rfl, rfl, rfl, trivial⟩
              · exact x_lv (hj17 s9.2) ⟨rfl, rfl, rfl, rfl, trivial⟩
          · exact x_lv (hex11 s9.2) ⟨rfl, rfl, rfl, trivial⟩
      · refine x_P (lv' := [(2, .int (s4.1 + Int32.ofInt 1)), (0, .ref a0), (1, .int a1)]) 126 rfl rfl rfl ?_
        refine x_P 17 rfl rfl rfl ?_
        exact x_lv (hnx5 ((s4.1 + Int32.ofInt 1), x12)) ⟨rfl, rfl, rfl, trivial⟩
  · exact x_retV (x := x7) rfl
-- 263 NineTreesModel.bestBy(ZI)I
noncomputable def m_263 (a0 : Nat) (a1 : Int32) (a2 : Int32) (th : tH) : Option (Int32 × tH) :=
  (gC th 8 a0).bind fun _ =>
  (m_190 (Int32.toInt64 a2) (Int64.ofNat 0) (Int64.ofNat 2) th).bind fun x1 =>
  if x1 = 0 then
    (m_189 a0 (Int8.ofInt (-2)).toInt32 th).bind fun q10 =>
    some (q10.1, q10.2)
  else
    (m_262 a0 a1 th).bind fun th2 =>
    jn (fun (v3 : Int32) =>
        some (v3, th2)
      ) (fun j4 =>
        if a2 = 0 then
          (gI th2 8 a0 28).bind fun x8 =>
          j4 x8
        else
          if a2 = (Int32.ofInt 1) then
            (gI th2 8 a0 29).bind fun x6 =>
            j4 x6
          else
            (gI th2 8 a0 30).bind fun x5 =>
            j4 x5
      )
theorem c_263 {a0 : Nat} {a1 : Int32} {a2 : Int32} {th : tH} {x : (Int32 × tH)} (h : m_263 a0 a1 a2 th = some x) : ∃ fs, th[a0]? = some (.inr (8, fs)) := gC_of h
theorem S_263 {L : Nat} (d : Nat) (a0 : Nat) (a1 : Int32) (a2 : Int32) (th : tH) : Wx L (fun x => (some (.int x.1), x.2)) (d + 7) 263 3 0 [(0, .ref a0), (1, .int a1), (2, .int a2)] [] th (m_263 a0 a1 a2 th) := by
  unfold m_263
  refine x_gC ?_
  refine x_P 1 rfl rfl rfl ?_
  refine x_P 2 rfl rfl rfl ?_
  refine x_P 3 rfl rfl rfl ?_
  refine x_P 6 rfl rfl rfl ?_
  refine x_callS rfl rfl rfl rfl rfl rfl ⟨rfl, rfl⟩ (S_190 (d + 6) (Int32.toInt64 a2) (Int64.ofNat 0) (Int64.ofNat 2) th) (fun x1 hx1 => ?_)
  refine x_if_ne rfl rfl (fun h11 => ?_) (fun h11 => ?_)
  · refine x_P 13 rfl rfl rfl ?_
    refine x_P 15 rfl rfl rfl ?_
    refine x_callV rfl rfl rfl rfl rfl ⟨rfl, rfl⟩ (fun x h => c_189 h) (S_189 (d + 5) a0 (Int8.ofInt (-2)).toInt32 th) (fun q10 hq10 => ?_)
    exact x_retI (x := (q10.1, q10.2)) rfl
  · refine x_P 20 rfl rfl rfl ?_
    refine x_P 21 rfl rfl rfl ?_
    refine x_callW rfl rfl rfl rfl rfl ⟨rfl, rfl⟩ (fun x h => c_262 h) (S_262 d a0 a1 th) (fun th2 hth2 => ?_)
    refine x_P 25 rfl rfl rfl ?_
    refine x_jn 51 (fun v3 => []) (fun v3 => [.int v3]) (fun v3 => th2) (fun v3 => ?_) (fun j4 hj4 => ?_)
    · exact x_retI (x := (v3, th2)) rfl
    · refine x_if_ne rfl rfl (fun h9 => ?_) (fun h9 => ?_)
      · refine x_P 29 rfl rfl rfl ?_
        refine x_gI rfl (fun x8 hx8 => ?_)
        refine x_P 51 rfl rfl rfl ?_
        exact x_lv (hj4 x8) trivial
      · refine x_P 36 rfl rfl rfl ?_
        refine x_P 37 rfl rfl rfl ?_
        refine x_ic_ne rfl rfl (fun h7 => ?_) (fun h7 => ?_)
        · refine x_P 41 rfl rfl rfl ?_
          refine x_gI rfl (fun x6 hx6 => ?_)
          refine x_P 51 rfl rfl rfl ?_
          exact x_lv (hj4 x6) trivial
        · refine x_P 48 rfl rfl rfl ?_
          refine x_gI rfl (fun x5 hx5 => ?_)
          exact x_lv (hj4 x5) trivial
-- 264 NineTreesModel.best(I)I
noncomputable def m_264 (a0 : Nat) (a1 : Int32) (th : tH) : Option (Int32 × tH) :=
  (gC th 8 a0).bind fun _ =>
  (m_263 a0 (Int32.ofInt 0) a1 th).bind fun q1 =>
  some (q1.1, q1.2)
theorem c_264 {a0 : Nat} {a1 : Int32} {th : tH} {x : (Int32 × tH)} (h : m_264 a0 a1 th = some x) : ∃ fs, th[a0]? = some (.inr (8, fs)) := gC_of h
theorem S_264 {L : Nat} (d : Nat) (a0 : Nat) (a1 : Int32) (th : tH) : Wx L (fun x => (some (.int x.1), x.2)) (d + 8) 264 2 0 [(0, .ref a0), (1, .int a1)] [] th (m_264 a0 a1 th) := by
  unfold m_264
  refine x_gC ?_
  refine x_P 1 rfl rfl rfl ?_
  refine x_P 2 rfl rfl rfl ?_
  refine x_P 3 rfl rfl rfl ?_
  refine x_callV rfl rfl rfl rfl rfl ⟨rfl, rfl⟩ (fun x h => c_263 h) (S_263 d a0 (Int32.ofInt 0) a1 th) (fun q1 hq1 => ?_)
  exact x_retI (x := (q1.1, q1.2)) rfl
-- 265 NineTreesModel.bestFor(I)I
noncomputable def m_265 (a0 : Nat) (a1 : Int32) (th : tH) : Option (Int32 × tH) :=
  (gC th 8 a0).bind fun _ =>
  (m_263 a0 (Int32.ofInt 1) a1 th).bind fun q1 =>
  some (q1.1, q1.2)
theorem c_265 {a0 : Nat} {a1 : Int32} {th : tH} {x : (Int32 × tH)} (h : m_265 a0 a1 th = some x) : ∃ fs, th[a0]? = some (.inr (8, fs)) := gC_of h
theorem S_265 {L : Nat} (d : Nat) (a0 : Nat) (a1 : Int32) (th : tH) : Wx L (fun x => (some (.int x.1), x.2)) (d + 8) 265 2 0 [(0, .ref a0), (1, .int a1)] [] th (m_265 a0 a1 th) := by
  unfold m_265
  refine x_gC ?_
  refine x_P 1 rfl rfl rfl ?_
  refine x_P 2 rfl rfl rfl ?_
  refine x_P 3 rfl rfl rfl ?_
  refine x_callV rfl rfl rfl rfl rfl ⟨rfl, rfl⟩ (fun x h => c_263 h) (S_263 d a0 (Int32.ofInt 1) a1 th) (fun q1 hq1 => ?_)
  exact x_retI (x := (q1.1, q1.2)) rfl
-- 266 NineTreesModel.moved(II)I
noncomputable def m_266 (a0 : Nat) (a1 : Int32) (a2 : Int32) (th : tH) : Option (Int32 × tH) :=
  (gC th 8 a0).bind fun _ =>
  (m_216 a0 a1 a2 th).bind fun q1 =>
  if q1.1 = 0 then
    (gN q1.2 8 a0 12).bind fun o2 =>
    (aI q1.2 o2 a1).bind fun x3 =>
    (gN q1.2 8 a0 12).bind fun o4 =>
    (sI q1.2 o4 a1 a2).bind fun th5 =>
    (m_243 a0 th5).bind fun q6 =>
    (gN q6.2 8 a0 12).bind fun o7 =>
    (sI q6.2 o7 a1 x3).bind fun th8 =>
    some (q6.1, th8)
  else
    some (q1.1, q1.2)
theorem c_266 {a0 : Nat} {a1 : Int32} {a2 : Int32} {th : tH} {x : (Int32 × tH)} (h : m_266 a0 a1 a2 th = some x) : ∃ fs, th[a0]? = some (.inr (8, fs)) := gC_of h
theorem S_266 {L : Nat} (d : Nat) (a0 : Nat) (a1 : Int32) (a2 : Int32) (th : tH) : Wx L (fun x => (some (.int x.1), x.2)) (d + 5) 266 6 0 [(0, .ref a0), (1, .int a1), (2, .int a2)] [] th (m_266 a0 a1 a2 th) := by
  unfold m_266
  refine x_gC ?_
  refine x_P 1 rfl rfl rfl ?_
  refine x_P 2 rfl rfl rfl ?_
  refine x_P 3 rfl rfl rfl ?_
  refine x_callV rfl rfl rfl rfl rfl ⟨rfl, rfl⟩ (fun x h => c_216 h) (S_216 (d + 2) a0 a1 a2 th) (fun q1 hq1 => ?_)
  refine x_P (lv' := [(3, .int q1.1), (0, .ref a0), (1, .int a1), (2, .int a2)]) 7 rfl rfl rfl ?_
  refine x_P 8 rfl rfl rfl ?_
  refine x_if_eq rfl rfl (fun h9 => ?_) (fun h9 => ?_)
  · refine x_P 14 rfl rfl rfl ?_
    refine x_gN rfl (fun o2 ho2 => ?_)
    refine x_P 18 rfl rfl rfl ?_
    refine x_aI rfl ⟨rfl, rfl⟩ (fun x3 hx3 => ?_)
    refine x_P (lv' := [(4, .int x3), (3, .int q1.1), (0, .ref a0), (1, .int a1), (2, .int a2)]) 21 rfl rfl rfl ?_
    refine x_P 22 rfl rfl rfl ?_
    refine x_gN rfl (fun o4 ho4 => ?_)
    refine x_P 26 rfl rfl rfl ?_
    refine x_P 27 rfl rfl rfl ?_
    refine x_sI rfl ⟨rfl, rfl⟩ (fun th5 hth5 => ?_)
    refine x_P 29 rfl rfl rfl ?_
    refine x_callV rfl rfl rfl rfl rfl ⟨rfl, rfl⟩ (fun x h => c_243 h) (S_243 d a0 th5) (fun q6 hq6 => ?_)
    refine x_P (lv' := [(5, .int q6.1), (4, .int x3), (3, .int q1.1), (0, .ref a0), (1, .int a1), (2, .int a2)]) 34 rfl rfl rfl ?_
    refine x_P 35 rfl rfl rfl ?_
    refine x_gN rfl (fun o7 ho7 => ?_)
    refine x_P 39 rfl rfl rfl ?_
    refine x_P 41 rfl rfl rfl ?_
    refine x_sI rfl ⟨rfl, rfl⟩ (fun th8 hth8 => ?_)
    refine x_P 44 rfl rfl rfl ?_
    exact x_retI (x := (q6.1, th8)) rfl
  · refine x_P 12 rfl rfl rfl ?_
    exact x_retI (x := (q1.1, q1.2)) rfl
-- 267 NineTreesModel.improve()I
noncomputable def m_267 (a0 : Nat) (th : tH) : Option (Int32 × tH) :=
  (gC th 8 a0).bind fun _ =>
  (m_243 a0 th).bind fun q1 =>
  (m_262 a0 (Int32.ofInt 0) q1.2).bind fun th2 =>
  (gI th2 8 a0 30).bind fun x3 =>
  if q1.1 < x3 then
    (gN th2 8 a0 12).bind fun o4 =>
    (gI th2 8 a0 28).bind fun x5 =>
    (gI th2 8 a0 29).bind fun x6 =>
    (sI th2 o4 x5 x6).bind fun th7 =>
    (gI th7 8 a0 30).bind fun x8 =>
    some (x8, th7)
  else
    some (q1.1, th2)
theorem c_267 {a0 : Nat} {th : tH} {x : (Int32 × tH)} (h : m_267 a0 th = some x) : ∃ fs, th[a0]? = some (.inr (8, fs)) := gC_of h
theorem S_267 {L : Nat} (d : Nat) (a0 : Nat) (th : tH) : Wx L (fun x => (some (.int x.1), x.2)) (d + 7) 267 2 0 [(0, .ref a0)] [] th (m_267 a0 th) := by
  unfold m_267
  refine x_gC ?_
  refine x_P 1 rfl rfl rfl ?_
  refine x_callV rfl rfl rfl rfl rfl ⟨rfl, rfl⟩ (fun x h => c_243 h) (S_243 (d + 2) a0 th) (fun q1 hq1 => ?_)
  refine x_P (lv' := [(1, .int q1.1), (0, .ref a0)]) 5 rfl rfl rfl ?_
  refine x_P 6 rfl rfl rfl ?_
  refine x_P 7 rfl rfl rfl ?_
  refine x_callW rfl rfl rfl rfl rfl ⟨rfl, rfl⟩ (fun x h => c_262 h) (S_262 d a0 (Int32.ofInt 0) q1.2) (fun th2 hth2 => ?_)
  refine x_P 11 rfl rfl rfl ?_
  refine x_gI rfl (fun x3 hx3 => ?_)
  refine x_P 15 rfl rfl rfl ?_
  refine x_ic_gt rfl rfl (fun h9 => ?_) (fun h9 => ?_)
  · refine x_P 21 rfl rfl rfl ?_
    refine x_gN rfl (fun o4 ho4 => ?_)
    refine x_P 25 rfl rfl rfl ?_
    refine x_gI rfl (fun x5 hx5 => ?_)
    refine x_P 29 rfl rfl rfl ?_
    refine x_gI rfl (fun x6 hx6 => ?_)
    refine x_sI rfl ⟨rfl, rfl⟩ (fun th7 hth7 => ?_)
    refine x_P 34 rfl rfl rfl ?_
    refine x_gI rfl (fun x8 hx8 => ?_)
    exact x_retI (x := (x8, th7)) rfl
  · refine x_P 19 rfl rfl rfl ?_
    exact x_retI (x := (q1.1, th2)) rfl
-- 268 NineTreesModel.mayStand(I)Z
noncomputable def m_268 (a0 : Nat) (a1 : Int32) (th : tH) : Option (Int32) :=
  (gC th 8 a0).bind fun _ =>
  (m_194 a0 a1 th).bind fun x1 =>
  if x1 = (Int32.ofInt (-1)) then
    lp (fun (s2 : Int32) nx3 ex4 =>
        (gI th 8 a0 10).bind fun x6 =>
        if x6 ≤ s2 then
          ex4 ()
        else
          lp (fun (s7 : Int32) nx8 ex9 =>
              if s2 ≤ s7 then
                ex9 ()
              else
                (gN th 8 a0 11).bind fun o11 =>
                (aI th o11 s2).bind fun x12 =>
                jn (fun (v13 : Unit) =>
                    nx8 (s7 + Int32.ofInt 1)
                  ) (fun j14 =>
                    if x12 = (Int32.ofInt 4) then
                      j14 ()
                    else
                      (gN th 8 a0 11).bind fun o15 =>
                      (aI th o15 s7).bind fun x16 =>
                      if x16 = (Int32.ofInt 4) then
                        j14 ()
                      else
                        (gN th 8 a0 12).bind fun o17 =>
                        (aI th o17 s2).bind fun x18 =>
                        (gN th 8 a0 12).bind fun o19 =>
                        (aI th o19 s7).bind fun x20 =>
                        (m_236 a0 x18 x20 a1 th).bind fun x21 =>
                        if x21 = 0 then
                          j14 ()
                        else
                          rB (Int32.ofInt 0)
                  )
            ) 4096 (Int32.ofInt 0) (fun (x10 : Unit) =>
              nx3 (s2 + Int32.ofInt 1)
            )
      ) 4096 (Int32.ofInt 0) (fun (x5 : Unit) =>
        rB (Int32.ofInt 1)
      )
  else
    rB (Int32.ofInt 0)
theorem c_268 {a0 : Nat} {a1 : Int32} {th : tH} {x : (Int32)} (h : m_268 a0 a1 th = some x) : ∃ fs, th[a0]? = some (.inr (8, fs)) := gC_of h
theorem S_268 {L : Nat} (d : Nat) (a0 : Nat) (a1 : Int32) (th : tH) : Wx L (fun x => (some (.int x), th)) (d + 2) 268 4 0 [(0, .ref a0), (1, .int a1)] [] th (m_268 a0 a1 th) := by
  unfold m_268
  refine x_gC ?_
  refine x_P 1 rfl rfl rfl ?_
  refine x_P 2 rfl rfl rfl ?_
  refine x_callV rfl rfl rfl rfl rfl ⟨rfl, rfl⟩ (fun x h => c_194 h) (S_194 (d + 1) a0 a1 th) (fun x1 hx1 => ?_)
  refine x_P 6 rfl rfl rfl ?_
  refine x_ic_eq rfl rfl (fun h27 => ?_) (fun h27 => ?_)
  · refine x_P 12 rfl rfl rfl ?_
    refine x_P (lv' := [(2, .int (Int32.ofInt 0)), (0, .ref a0), (1, .int a1)]) 13 rfl rfl rfl ?_
    refine x_lv (lv := [(0, .ref a0), (1, .int a1), (2, .int (Int32.ofInt 0))]) (x_lp 82 (fun s2 => [(0, .ref a0), (1, .int a1), (2, .int s2)]) (fun s2 => th) (fun x5 => []) (fun x5 => th) (fun s2 nx3 hnx3 ex4 hex4 => ?_) (fun x5 => ?_) 4096 (Int32.ofInt 0)) ⟨rfl, rfl, rfl, trivial⟩
    · refine x_P 14 rfl rfl rfl ?_
      refine x_P 15 rfl rfl rfl ?_
      refine x_gI rfl (fun x6 hx6 => ?_)
      refine x_ic_ge rfl rfl (fun h26 => ?_) (fun h26 => ?_)
      · exact x_lv (hex4 ()) trivial
      · refine x_P 22 rfl rfl rfl ?_
        refine x_P (lv' := [(3, .int (Int32.ofInt 0)), (0, .ref a0), (1, .int a1), (2, .int s2)]) 23 rfl rfl rfl ?_
        refine x_lv (lv := [(0, .ref a0), (1, .int a1), (2, .int s2), (3, .int (Int32.ofInt 0))]) (x_lp 76 (fun s7 => [(0, .ref a0), (1, .int a1), (2, .int s2), (3, .int s7)]) (fun s7 => th) (fun x10 => [(0, .ref a0), (1, .int a1), (2, .int s2)]) (fun x10 => th) (fun s7 nx8 hnx8 ex9 hex9 => ?_) (fun x10 => ?_) 4096 (Int32.ofInt 0)) ⟨rfl, rfl, rfl, rfl, trivial⟩
        · refine x_P 24 rfl rfl rfl ?_
          refine x_P 25 rfl rfl rfl ?_
          refine x_ic_ge rfl rfl (fun h25 => ?_) (fun h25 => ?_)
          · exact x_lv (hex9 ()) ⟨rfl, rfl, rfl, trivial⟩
          · refine x_P 29 rfl rfl rfl ?_
            refine x_gN rfl (fun o11 ho11 => ?_)
            refine x_P 33 rfl rfl rfl ?_
            refine x_aI rfl ⟨rfl, rfl⟩ (fun x12 hx12 => ?_)
            refine x_P 35 rfl rfl rfl ?_
            refine x_jn 70 (fun v13 => [(0, .ref a0), (1, .int a1), (2, .int s2), (3, .int s7)]) (fun v13 => []) (fun v13 => th) (fun v13 => ?_) (fun j14 hj14 => ?_)
            · refine x_P (lv' := [(3, .int (s7 + Int32.ofInt 1)), (0, .ref a0), (1, .int a1), (2, .int s2)]) 73 rfl rfl rfl ?_
              refine x_P 23 rfl rfl rfl ?_
              exact x_lv (hnx8 (s7 + Int32.ofInt 1)) ⟨rfl, rfl, rfl, rfl, trivial⟩
            · refine x_ic_eq rfl rfl (fun h24 => ?_) (fun h24 => ?_)
              · exact x_lv (hj14 ()) ⟨rfl, rfl, rfl, rfl, trivial⟩
              · refine x_P 39 rfl rfl rfl ?_
                refine x_gN rfl (fun o15 ho15 => ?_)
                refine x_P 43 rfl rfl rfl ?_
                refine x_aI rfl ⟨rfl, rfl⟩ (fun x16 hx16 => ?_)
                refine x_P 45 rfl rfl rfl ?_
                refine x_ic_eq rfl rfl (fun h23 => ?_) (fun h23 => ?_)
                · exact x_lv (hj14 ()) ⟨rfl, rfl, rfl, rfl, trivial⟩
                · refine x_P 49 rfl rfl rfl ?_
                  refine x_P 50 rfl rfl rfl ?_
                  refine x_gN rfl (fun o17 ho17 => ?_)
                  refine x_P 54 rfl rfl rfl ?_
                  refine x_aI rfl ⟨rfl, rfl⟩ (fun x18 hx18 => ?_)
                  refine x_P 56 rfl rfl rfl ?_
                  refine x_gN rfl (fun o19 ho19 => ?_)
                  refine x_P 60 rfl rfl rfl ?_
                  refine x_aI rfl ⟨rfl, rfl⟩ (fun x20 hx20 => ?_)
                  refine x_P 62 rfl rfl rfl ?_
                  refine x_callV rfl rfl rfl rfl rfl ⟨rfl, rfl⟩ (fun x h => c_236 h) (S_236 d a0 x18 x20 a1 th) (fun x21 hx21 => ?_)
                  refine x_if_eq rfl rfl (fun h22 => ?_) (fun h22 => ?_)
                  · exact x_lv (hj14 ()) ⟨rfl, rfl, rfl, rfl, trivial⟩
                  · refine x_P 69 rfl rfl rfl ?_
                    exact x_rB rfl
        · refine x_P (lv' := [(2, .int (s2 + Int32.ofInt 1)), (0, .ref a0), (1, .int a1)]) 79 rfl rfl rfl ?_
          refine x_P 13 rfl rfl rfl ?_
          exact x_lv (hnx3 (s2 + Int32.ofInt 1)) ⟨rfl, rfl, rfl, trivial⟩
    · refine x_P 83 rfl rfl rfl ?_
      exact x_rB rfl
  · refine x_P 10 rfl rfl rfl ?_
    exact x_rB rfl
-- 269 NineTreesModel.may()J
noncomputable def m_269 (a0 : Nat) (th : tH) : Option (Int64) :=
  (gC th 8 a0).bind fun _ =>
  lp (fun (s1 : Int64 × Int32) nx2 ex3 =>
      (m_192 a0 th).bind fun x5 =>
      if x5 ≤ s1.2 then
        ex3 s1.1
      else
        (m_268 a0 s1.2 th).bind fun x6 =>
        jn (fun (v7 : Int64 × Int64) =>
            nx2 ((v7.2 ||| v7.1), (s1.2 + Int32.ofInt 1))
          ) (fun j8 =>
            if x6 = 0 then
              j8 ((Int64.ofNat 0), s1.1)
            else
              j8 (((Int64.ofNat 1) <<< ((Int32.toInt64 s1.2) &&& 63)), s1.1)
          )
    ) 4096 ((Int64.ofNat 0), (Int32.ofInt 0)) (fun (x4 : Int64) =>
      some x4
    )
theorem c_269 {a0 : Nat} {th : tH} {x : (Int64)} (h : m_269 a0 th = some x) : ∃ fs, th[a0]? = some (.inr (8, fs)) := gC_of h
theorem S_269 {L : Nat} (d : Nat) (a0 : Nat) (th : tH) : Wx L (fun x => (some (.long x), th)) (d + 3) 269 4 0 [(0, .ref a0)] [] th (m_269 a0 th) := by
  unfold m_269
  refine x_gC ?_
  refine x_P 1 rfl rfl rfl ?_
  refine x_P (lv' := [(1, .long (Int64.ofNat 0)), (0, .ref a0)]) 2 rfl rfl rfl ?_
  refine x_P 3 rfl rfl rfl ?_
  refine x_P (lv' := [(3, .int (Int32.ofInt 0)), (1, .long (Int64.ofNat 0)), (0, .ref a0)]) 4 rfl rfl rfl ?_
  refine x_lv (lv := [(0, .ref a0), (1, .long (Int64.ofNat 0)), (3, .int (Int32.ofInt 0))]) (x_lp 36 (fun s1 => [(0, .ref a0), (1, .long s1.1), (3, .int s1.2)]) (fun s1 => th) (fun x4 => [(1, .long x4)]) (fun x4 => th) (fun s1 nx2 hnx2 ex3 hex3 => ?_) (fun x4 => ?_) 4096 ((Int64.ofNat 0), (Int32.ofInt 0))) ⟨rfl, rfl, rfl, trivial⟩
  · refine x_P 5 rfl rfl rfl ?_
    refine x_P 6 rfl rfl rfl ?_
    refine x_callV rfl rfl rfl rfl rfl ⟨rfl, rfl⟩ (fun x h => c_192 h) (S_192 (d + 2) a0 th) (fun x5 hx5 => ?_)
    refine x_ic_ge rfl rfl (fun h10 => ?_) (fun h10 => ?_)
    · exact x_lv (hex3 s1.1) ⟨rfl, trivial⟩
    · refine x_P 13 rfl rfl rfl ?_
      refine x_P 14 rfl rfl rfl ?_
      refine x_P 15 rfl rfl rfl ?_
      refine x_callV rfl rfl rfl rfl rfl ⟨rfl, rfl⟩ (fun x h => c_268 h) (S_268 d a0 s1.2 th) (fun x6 hx6 => ?_)
      refine x_jn 28 (fun v7 => [(0, .ref a0), (3, .int s1.2)]) (fun v7 => [.long v7.1, .long v7.2]) (fun v7 => th) (fun v7 => ?_) (fun j8 hj8 => ?_)
      · refine x_P 29 rfl rfl rfl ?_
        refine x_P (lv' := [(1, .long (v7.2 ||| v7.1)), (0, .ref a0), (3, .int s1.2)]) 30 rfl rfl rfl ?_
        refine x_P (lv' := [(3, .int (s1.2 + Int32.ofInt 1)), (1, .long (v7.2 ||| v7.1)), (0, .ref a0)]) 33 rfl rfl rfl ?_
        refine x_P 4 rfl rfl rfl ?_
        exact x_lv (hnx2 ((v7.2 ||| v7.1), (s1.2 + Int32.ofInt 1))) ⟨rfl, rfl, rfl, trivial⟩
      · refine x_if_eq rfl rfl (fun h9 => ?_) (fun h9 => ?_)
        · refine x_P 28 rfl rfl rfl ?_
          exact x_lv (hj8 ((Int64.ofNat 0), s1.1)) ⟨rfl, rfl, trivial⟩
        · refine x_P 22 rfl rfl rfl ?_
          refine x_P 23 rfl rfl rfl ?_
          refine x_P 24 rfl rfl rfl ?_
          refine x_P 28 rfl rfl rfl ?_
          exact x_lv (hj8 (((Int64.ofNat 1) <<< ((Int32.toInt64 s1.2) &&& 63)), s1.1)) ⟨rfl, rfl, trivial⟩
  · refine x_P 37 rfl rfl rfl ?_
    exact x_retJ (x := x4) rfl
-- 270 NineTreesModel.most(I)I
noncomputable def m_270 (a0 : Nat) (a1 : Int32) (th : tH) : Option (Int32 × tH) :=
  (gC th 8 a0).bind fun _ =>
  (m_190 (Int32.toInt64 a1) (Int64.ofNat 1) (Int64.ofNat 5) th).bind fun x1 =>
  if x1 = 0 then
    (m_189 a0 (Int8.ofInt (-2)).toInt32 th).bind fun q5 =>
    some (q5.1, q5.2)
  else
    jn (fun (v2 : Int32) =>
        some (v2, th)
      ) (fun j3 =>
        if a1 = (Int32.ofInt 1) then
          j3 (Int32.ofInt 1)
        else
          j3 ((Int32.ofInt 2) * a1)
      )
theorem c_270 {a0 : Nat} {a1 : Int32} {th : tH} {x : (Int32 × tH)} (h : m_270 a0 a1 th = some x) : ∃ fs, th[a0]? = some (.inr (8, fs)) := gC_of h
theorem S_270 {L : Nat} (d : Nat) (a0 : Nat) (a1 : Int32) (th : tH) : Wx L (fun x => (some (.int x.1), x.2)) (d + 2) 270 2 0 [(0, .ref a0), (1, .int a1)] [] th (m_270 a0 a1 th) := by
  unfold m_270
  refine x_gC ?_
  refine x_P 1 rfl rfl rfl ?_
  refine x_P 2 rfl rfl rfl ?_
  refine x_P 3 rfl rfl rfl ?_
  refine x_P 6 rfl rfl rfl ?_
  refine x_callS rfl rfl rfl rfl rfl rfl ⟨rfl, rfl⟩ (S_190 (d + 1) (Int32.toInt64 a1) (Int64.ofNat 1) (Int64.ofNat 5) th) (fun x1 hx1 => ?_)
  refine x_if_ne rfl rfl (fun h6 => ?_) (fun h6 => ?_)
  · refine x_P 13 rfl rfl rfl ?_
    refine x_P 15 rfl rfl rfl ?_
    refine x_callV rfl rfl rfl rfl rfl ⟨rfl, rfl⟩ (fun x h => c_189 h) (S_189 d a0 (Int8.ofInt (-2)).toInt32 th) (fun q5 hq5 => ?_)
    exact x_retI (x := (q5.1, q5.2)) rfl
  · refine x_P 20 rfl rfl rfl ?_
    refine x_P 21 rfl rfl rfl ?_
    refine x_jn 31 (fun v2 => []) (fun v2 => [.int v2]) (fun v2 => th) (fun v2 => ?_) (fun j3 hj3 => ?_)
    · exact x_retI (x := (v2, th)) rfl
    · refine x_ic_ne rfl rfl (fun h4 => ?_) (fun h4 => ?_)
      · refine x_P 25 rfl rfl rfl ?_
        refine x_P 31 rfl rfl rfl ?_
        exact x_lv (hj3 (Int32.ofInt 1)) trivial
      · refine x_P 29 rfl rfl rfl ?_
        refine x_P 30 rfl rfl rfl ?_
        refine x_P 31 rfl rfl rfl ?_
        exact x_lv (hj3 ((Int32.ofInt 2) * a1)) trivial
-- 271 NineTreesModel.pointed(I)I
noncomputable def m_271 (a0 : Nat) (a1 : Int32) (th : tH) : Option (Int32 × tH) :=
  (gC th 8 a0).bind fun _ =>
  (m_193 a0 a1 th).bind fun x1 =>
  if x1 = 0 then
    (m_189 a0 (Int8.ofInt (-2)).toInt32 th).bind fun q29 =>
    some (q29.1, q29.2)
  else
    (m_240 a0 th).bind fun th2 =>
    lp (fun (s3 : Int32 × Int32) nx4 ex5 =>
        (gI th2 8 a0 27).bind fun x7 =>
        if x7 ≤ s3.2 then
          ex5 s3.1
        else
          (gN th2 8 a0 26).bind fun o8 =>
          (aI th2 o8 s3.2).bind fun x9 =>
          (m_255 x9 (Int32.ofInt 0) th2).bind fun x10 =>
          (gN th2 8 a0 26).bind fun o11 =>
          (aI th2 o11 s3.2).bind fun x12 =>
          (m_255 x12 (x10 + (Int32.ofInt 1)) th2).bind fun x13 =>
          (gN th2 8 a0 26).bind fun o14 =>
          (aI th2 o14 s3.2).bind fun x15 =>
          (m_196 x15 th2).bind fun x16 =>
          jn (fun (v17 : Int32 × Int32) =>
              nx4 ((v17.2 + v17.1), (s3.2 + Int32.ofInt 1))
            ) (fun j18 =>
              jn (fun (v19 : Int32) =>
                  j18 ((Int32.ofInt 0), v19)
                ) (fun j20 =>
                  if x16 < (Int32.ofInt 3) then
                    j20 s3.1
                  else
                    (gN th2 8 a0 12).bind fun o21 =>
                    (aI th2 o21 x10).bind fun x22 =>
                    (gN th2 8 a0 12).bind fun o23 =>
                    (aI th2 o23 x13).bind fun x24 =>
                    (m_236 a0 x22 x24 a1 th2).bind fun x25 =>
                    if x25 = 0 then
                      j20 s3.1
                    else
                      j18 ((Int32.ofInt 1), s3.1)
                )
            )
      ) 4096 ((Int32.ofInt 0), (Int32.ofInt 0)) (fun (x6 : Int32) =>
        some (x6, th2)
      )
theorem c_271 {a0 : Nat} {a1 : Int32} {th : tH} {x : (Int32 × tH)} (h : m_271 a0 a1 th = some x) : ∃ fs, th[a0]? = some (.inr (8, fs)) := gC_of h
theorem S_271 {L : Nat} (d : Nat) (a0 : Nat) (a1 : Int32) (th : tH) : Wx L (fun x => (some (.int x.1), x.2)) (d + 4) 271 6 0 [(0, .ref a0), (1, .int a1)] [] th (m_271 a0 a1 th) := by
  unfold m_271
  refine x_gC ?_
  refine x_P 1 rfl rfl rfl ?_
  refine x_P 2 rfl rfl rfl ?_
  refine x_callV rfl rfl rfl rfl rfl ⟨rfl, rfl⟩ (fun x h => c_193 h) (S_193 (d + 2) a0 a1 th) (fun x1 hx1 => ?_)
  refine x_if_ne rfl rfl (fun h30 => ?_) (fun h30 => ?_)
  · refine x_P 9 rfl rfl rfl ?_
    refine x_P 11 rfl rfl rfl ?_
    refine x_callV rfl rfl rfl rfl rfl ⟨rfl, rfl⟩ (fun x h => c_189 h) (S_189 (d + 2) a0 (Int8.ofInt (-2)).toInt32 th) (fun q29 hq29 => ?_)
    exact x_retI (x := (q29.1, q29.2)) rfl
  · refine x_P 16 rfl rfl rfl ?_
    refine x_callW rfl rfl rfl rfl rfl ⟨rfl, rfl⟩ (fun x h => c_240 h) (S_240 d a0 th) (fun th2 hth2 => ?_)
    refine x_P 20 rfl rfl rfl ?_
    refine x_P (lv' := [(2, .int (Int32.ofInt 0)), (0, .ref a0), (1, .int a1)]) 21 rfl rfl rfl ?_
    refine x_P 22 rfl rfl rfl ?_
    refine x_P (lv' := [(3, .int (Int32.ofInt 0)), (2, .int (Int32.ofInt 0)), (0, .ref a0), (1, .int a1)]) 23 rfl rfl rfl ?_
    refine x_lv (lv := [(0, .ref a0), (1, .int a1), (2, .int (Int32.ofInt 0)), (3, .int (Int32.ofInt 0))]) (x_lp 107 (fun s3 => [(0, .ref a0), (1, .int a1), (2, .int s3.1), (3, .int s3.2)]) (fun s3 => th2) (fun x6 => [(2, .int x6)]) (fun x6 => th2) (fun s3 nx4 hnx4 ex5 hex5 => ?_) (fun x6 => ?_) 4096 ((Int32.ofInt 0), (Int32.ofInt 0))) ⟨rfl, rfl, rfl, rfl, trivial⟩
    · refine x_P 24 rfl rfl rfl ?_
      refine x_P 25 rfl rfl rfl ?_
      refine x_gI rfl (fun x7 hx7 => ?_)
      refine x_ic_ge rfl rfl (fun h28 => ?_) (fun h28 => ?_)
      · exact x_lv (hex5 s3.1) ⟨rfl, trivial⟩
      · refine x_P 32 rfl rfl rfl ?_
        refine x_gN rfl (fun o8 ho8 => ?_)
        refine x_P 36 rfl rfl rfl ?_
        refine x_aI rfl ⟨rfl, rfl⟩ (fun x9 hx9 => ?_)
        refine x_P 38 rfl rfl rfl ?_
        refine x_callS rfl rfl rfl rfl rfl rfl ⟨rfl, rfl⟩ (S_255 (d + 2) x9 (Int32.ofInt 0) th2) (fun x10 hx10 => ?_)
        refine x_P (lv' := [(4, .int x10), (0, .ref a0), (1, .int a1), (2, .int s3.1), (3, .int s3.2)]) 43 rfl rfl rfl ?_
        refine x_P 44 rfl rfl rfl ?_
        refine x_gN rfl (fun o11 ho11 => ?_)
        refine x_P 48 rfl rfl rfl ?_
        refine x_aI rfl ⟨rfl, rfl⟩ (fun x12 hx12 => ?_)
        refine x_P 51 rfl rfl rfl ?_
        refine x_P 52 rfl rfl rfl ?_
        refine x_P 53 rfl rfl rfl ?_
        refine x_callS rfl rfl rfl rfl rfl rfl ⟨rfl, rfl⟩ (S_255 (d + 2) x12 (x10 + (Int32.ofInt 1)) th2) (fun x13 hx13 => ?_)
        refine x_P (lv' := [(5, .int x13), (4, .int x10), (0, .ref a0), (1, .int a1), (2, .int s3.1), (3, .int s3.2)]) 58 rfl rfl rfl ?_
        refine x_P 59 rfl rfl rfl ?_
        refine x_P 60 rfl rfl rfl ?_
        refine x_gN rfl (fun o14 ho14 => ?_)
        refine x_P 64 rfl rfl rfl ?_
        refine x_aI rfl ⟨rfl, rfl⟩ (fun x15 hx15 => ?_)
        refine x_callS rfl rfl rfl rfl rfl rfl ⟨rfl, rfl⟩ (S_196 (d + 3) x15 th2) (fun x16 hx16 => ?_)
        refine x_P 69 rfl rfl rfl ?_
        refine x_jn 99 (fun v17 => [(0, .ref a0), (1, .int a1), (3, .int s3.2)]) (fun v17 => [.int v17.1, .int v17.2]) (fun v17 => th2) (fun v17 => ?_) (fun j18 hj18 => ?_)
        · refine x_P 100 rfl rfl rfl ?_
          refine x_P (lv' := [(2, .int (v17.2 + v17.1)), (0, .ref a0), (1, .int a1), (3, .int s3.2)]) 101 rfl rfl rfl ?_
          refine x_P (lv' := [(3, .int (s3.2 + Int32.ofInt 1)), (2, .int (v17.2 + v17.1)), (0, .ref a0), (1, .int a1)]) 104 rfl rfl rfl ?_
          refine x_P 23 rfl rfl rfl ?_
          exact x_lv (hnx4 ((v17.2 + v17.1), (s3.2 + Int32.ofInt 1))) ⟨rfl, rfl, rfl, rfl, trivial⟩
        · refine x_jn 98 (fun v19 => [(0, .ref a0), (1, .int a1), (3, .int s3.2)]) (fun v19 => [.int v19]) (fun v19 => th2) (fun v19 => ?_) (fun j20 hj20 => ?_)
          · refine x_P 99 rfl rfl rfl ?_
            exact x_lv (hj18 ((Int32.ofInt 0), v19)) ⟨rfl, rfl, rfl, trivial⟩
          · refine x_ic_lt rfl rfl (fun h27 => ?_) (fun h27 => ?_)
            · exact x_lv (hj20 s3.1) ⟨rfl, rfl, rfl, trivial⟩
            · refine x_P 73 rfl rfl rfl ?_
              refine x_P 74 rfl rfl rfl ?_
              refine x_gN rfl (fun o21 ho21 => ?_)
              refine x_P 79 rfl rfl rfl ?_
              refine x_aI rfl ⟨rfl, rfl⟩ (fun x22 hx22 => ?_)
              refine x_P 81 rfl rfl rfl ?_
              refine x_gN rfl (fun o23 ho23 => ?_)
              refine x_P 86 rfl rfl rfl ?_
              refine x_aI rfl ⟨rfl, rfl⟩ (fun x24 hx24 => ?_)
              refine x_P 88 rfl rfl rfl ?_
              refine x_callV rfl rfl rfl rfl rfl ⟨rfl, rfl⟩ (fun x h => c_236 h) (S_236 (d + 2) a0 x22 x24 a1 th2) (fun x25 hx25 => ?_)
              refine x_if_eq rfl rfl (fun h26 => ?_) (fun h26 => ?_)
              · exact x_lv (hj20 s3.1) ⟨rfl, rfl, rfl, trivial⟩
              · refine x_P 95 rfl rfl rfl ?_
                refine x_P 99 rfl rfl rfl ?_
                exact x_lv (hj18 ((Int32.ofInt 1), s3.1)) ⟨rfl, rfl, rfl, trivial⟩
    · refine x_P 108 rfl rfl rfl ?_
      exact x_retI (x := (x6, th2)) rfl
-- 273 NineTreesModel.viewFrom(I)I
noncomputable def m_273 (a0 : Nat) (a1 : Int32) (th : tH) : Option (Int32) :=
  (gC th 8 a0).bind fun _ =>
  lp (fun (s1 : Int32 × Int32) nx2 ex3 =>
      (gI th 8 a0 10).bind fun x5 =>
      if x5 ≤ s1.2 then
        ex3 s1.1
      else
        (gN th 8 a0 12).bind fun o6 =>
        (aI th o6 s1.2).bind fun x7 =>
        jn (fun (v8 : Int32 × Int32) =>
            nx2 ((v8.2 ||| v8.1), (s1.2 + Int32.ofInt 1))
          ) (fun j9 =>
            jn (fun (v10 : Int32) =>
                j9 ((Int32.ofInt 0), v10)
              ) (fun j11 =>
                if x7 = a1 then
                  j11 s1.1
                else
                  (m_272 a0 s1.2 a1 th).bind fun x12 =>
                  if x12 = (Int32.ofInt (-1)) then
                    j9 (((Int32.ofInt 1) <<< (s1.2 &&& 31)), s1.1)
                  else
                    j11 s1.1
              )
          )
    ) 4096 ((Int32.ofInt 0), (Int32.ofInt 0)) (fun (x4 : Int32) =>
      some x4
    )
theorem c_273 {a0 : Nat} {a1 : Int32} {th : tH} {x : (Int32)} (h : m_273 a0 a1 th = some x) : ∃ fs, th[a0]? = some (.inr (8, fs)) := gC_of h
theorem S_273 {L : Nat} (d : Nat) (a0 : Nat) (a1 : Int32) (th : tH) : Wx L (fun x => (some (.int x), th)) (d + 3) 273 4 0 [(0, .ref a0), (1, .int a1)] [] th (m_273 a0 a1 th) := by
  unfold m_273
  refine x_gC ?_
  refine x_P 1 rfl rfl rfl ?_
  refine x_P (lv' := [(2, .int (Int32.ofInt 0)), (0, .ref a0), (1, .int a1)]) 2 rfl rfl rfl ?_
  refine x_P 3 rfl rfl rfl ?_
  refine x_P (lv' := [(3, .int (Int32.ofInt 0)), (2, .int (Int32.ofInt 0)), (0, .ref a0), (1, .int a1)]) 4 rfl rfl rfl ?_
  refine x_lv (lv := [(0, .ref a0), (1, .int a1), (2, .int (Int32.ofInt 0)), (3, .int (Int32.ofInt 0))]) (x_lp 48 (fun s1 => [(0, .ref a0), (1, .int a1), (2, .int s1.1), (3, .int s1.2)]) (fun s1 => th) (fun x4 => [(2, .int x4)]) (fun x4 => th) (fun s1 nx2 hnx2 ex3 hex3 => ?_) (fun x4 => ?_) 4096 ((Int32.ofInt 0), (Int32.ofInt 0))) ⟨rfl, rfl, rfl, rfl, trivial⟩
  · refine x_P 5 rfl rfl rfl ?_
    refine x_P 6 rfl rfl rfl ?_
    refine x_gI rfl (fun x5 hx5 => ?_)
    refine x_ic_ge rfl rfl (fun h15 => ?_) (fun h15 => ?_)
    · exact x_lv (hex3 s1.1) ⟨rfl, trivial⟩
    · refine x_P 13 rfl rfl rfl ?_
      refine x_P 14 rfl rfl rfl ?_
      refine x_gN rfl (fun o6 ho6 => ?_)
      refine x_P 18 rfl rfl rfl ?_
      refine x_aI rfl ⟨rfl, rfl⟩ (fun x7 hx7 => ?_)
      refine x_P 20 rfl rfl rfl ?_
      refine x_jn 40 (fun v8 => [(0, .ref a0), (1, .int a1), (3, .int s1.2)]) (fun v8 => [.int v8.1, .int v8.2]) (fun v8 => th) (fun v8 => ?_) (fun j9 hj9 => ?_)
      · refine x_P 41 rfl rfl rfl ?_
        refine x_P (lv' := [(2, .int (v8.2 ||| v8.1)), (0, .ref a0), (1, .int a1), (3, .int s1.2)]) 42 rfl rfl rfl ?_
        refine x_P (lv' := [(3, .int (s1.2 + Int32.ofInt 1)), (2, .int (v8.2 ||| v8.1)), (0, .ref a0), (1, .int a1)]) 45 rfl rfl rfl ?_
        refine x_P 4 rfl rfl rfl ?_
        exact x_lv (hnx2 ((v8.2 ||| v8.1), (s1.2 + Int32.ofInt 1))) ⟨rfl, rfl, rfl, rfl, trivial⟩
      · refine x_jn 39 (fun v10 => [(0, .ref a0), (1, .int a1), (3, .int s1.2)]) (fun v10 => [.int v10]) (fun v10 => th) (fun v10 => ?_) (fun j11 hj11 => ?_)
        · refine x_P 40 rfl rfl rfl ?_
          exact x_lv (hj9 ((Int32.ofInt 0), v10)) ⟨rfl, rfl, rfl, trivial⟩
        · refine x_ic_eq rfl rfl (fun h14 => ?_) (fun h14 => ?_)
          · exact x_lv (hj11 s1.1) ⟨rfl, rfl, rfl, trivial⟩
          · refine x_P 24 rfl rfl rfl ?_
            refine x_P 25 rfl rfl rfl ?_
            refine x_P 26 rfl rfl rfl ?_
            refine x_callV rfl rfl rfl rfl rfl ⟨rfl, rfl⟩ (fun x h => c_272 h) (S_272 d a0 s1.2 a1 th) (fun x12 hx12 => ?_)
            refine x_P 30 rfl rfl rfl ?_
            refine x_ic_ne rfl rfl (fun h13 => ?_) (fun h13 => ?_)
            · refine x_P 34 rfl rfl rfl ?_
              refine x_P 35 rfl rfl rfl ?_
              refine x_P 36 rfl rfl rfl ?_
              refine x_P 40 rfl rfl rfl ?_
              exact x_lv (hj9 (((Int32.ofInt 1) <<< (s1.2 &&& 31)), s1.1)) ⟨rfl, rfl, rfl, trivial⟩
            · exact x_lv (hj11 s1.1) ⟨rfl, rfl, rfl, trivial⟩
  · refine x_P 49 rfl rfl rfl ?_
    exact x_retI (x := x4) rfl
-- 274 NineTreesModel.view(I)I
noncomputable def m_274 (a0 : Nat) (a1 : Int32) (th : tH) : Option (Int32 × tH) :=
  (gC th 8 a0).bind fun _ =>
  (m_193 a0 a1 th).bind fun x1 =>
  jn (fun (v2 : Int32 × tH) =>
      some (v2.1, v2.2)
    ) (fun j3 =>
      if x1 = 0 then
        (m_189 a0 (Int8.ofInt (-2)).toInt32 th).bind fun q4 =>
        j3 (q4.1, q4.2)
      else
        (m_273 a0 a1 th).bind fun x5 =>
        j3 (x5, th)
    )
theorem c_274 {a0 : Nat} {a1 : Int32} {th : tH} {x : (Int32 × tH)} (h : m_274 a0 a1 th = some x) : ∃ fs, th[a0]? = some (.inr (8, fs)) := gC_of h
theorem S_274 {L : Nat} (d : Nat) (a0 : Nat) (a1 : Int32) (th : tH) : Wx L (fun x => (some (.int x.1), x.2)) (d + 4) 274 2 0 [(0, .ref a0), (1, .int a1)] [] th (m_274 a0 a1 th) := by
  unfold m_274
  refine x_gC ?_
  refine x_P 1 rfl rfl rfl ?_
  refine x_P 2 rfl rfl rfl ?_
  refine x_callV rfl rfl rfl rfl rfl ⟨rfl, rfl⟩ (fun x h => c_193 h) (S_193 (d + 2) a0 a1 th) (fun x1 hx1 => ?_)
  refine x_jn 22 (fun v2 => []) (fun v2 => [.int v2.1]) (fun v2 => v2.2) (fun v2 => ?_) (fun j3 hj3 => ?_)
  · exact x_retI (x := (v2.1, v2.2)) rfl
  · refine x_if_eq rfl rfl (fun h6 => ?_) (fun h6 => ?_)
    · refine x_P 17 rfl rfl rfl ?_
      refine x_P 19 rfl rfl rfl ?_
      refine x_callV rfl rfl rfl rfl rfl ⟨rfl, rfl⟩ (fun x h => c_189 h) (S_189 (d + 2) a0 (Int8.ofInt (-2)).toInt32 th) (fun q4 hq4 => ?_)
      exact x_lv (hj3 (q4.1, q4.2)) trivial
    · refine x_P 9 rfl rfl rfl ?_
      refine x_P 10 rfl rfl rfl ?_
      refine x_callV rfl rfl rfl rfl rfl ⟨rfl, rfl⟩ (fun x h => c_273 h) (S_273 d a0 a1 th) (fun x5 hx5 => ?_)
      refine x_P 22 rfl rfl rfl ?_
      exact x_lv (hj3 (x5, th)) trivial
end
section
/-! ===== programs ===== -/
-- 275 NineTreesModel.overlooks()J
noncomputable def m_275 (a0 : Nat) (th : tH) : Option (Int64) :=
  (gC th 8 a0).bind fun _ =>
  lp (fun (s1 : Int64 × Int32) nx2 ex3 =>
      (m_192 a0 th).bind fun x5 =>
      if x5 ≤ s1.2 then
        ex3 s1.1
      else
        (m_194 a0 s1.2 th).bind fun x6 =>
        jn (fun (v7 : Int64 × Int64) =>
            nx2 ((v7.2 ||| v7.1), (s1.2 + Int32.ofInt 1))
          ) (fun j8 =>
            jn (fun (v9 : Int64) =>
                j8 ((Int64.ofNat 0), v9)
              ) (fun j10 =>
                if x6 = (Int32.ofInt (-1)) then
                  (m_273 a0 s1.2 th).bind fun x11 =>
                  (gI th 8 a0 10).bind fun x12 =>
                  if x11 = (((Int32.ofInt 1) <<< (x12 &&& 31)) - (Int32.ofInt 1)) then
                    j8 (((Int64.ofNat 1) <<< ((Int32.toInt64 s1.2) &&& 63)), s1.1)
                  else
                    j10 s1.1
                else
                  j10 s1.1
              )
          )
    ) 4096 ((Int64.ofNat 0), (Int32.ofInt 0)) (fun (x4 : Int64) =>
      some x4
    )
theorem c_275 {a0 : Nat} {th : tH} {x : (Int64)} (h : m_275 a0 th = some x) : ∃ fs, th[a0]? = some (.inr (8, fs)) := gC_of h
theorem S_275 {L : Nat} (d : Nat) (a0 : Nat) (th : tH) : Wx L (fun x => (some (.long x), th)) (d + 4) 275 4 0 [(0, .ref a0)] [] th (m_275 a0 th) := by
  unfold m_275
  refine x_gC ?_
  refine x_P 1 rfl rfl rfl ?_
  refine x_P (lv' := [(1, .long (Int64.ofNat 0)), (0, .ref a0)]) 2 rfl rfl rfl ?_
  refine x_P 3 rfl rfl rfl ?_
  refine x_P (lv' := [(3, .int (Int32.ofInt 0)), (1, .long (Int64.ofNat 0)), (0, .ref a0)]) 4 rfl rfl rfl ?_
  refine x_lv (lv := [(0, .ref a0), (1, .long (Int64.ofNat 0)), (3, .int (Int32.ofInt 0))]) (x_lp 53 (fun s1 => [(0, .ref a0), (1, .long s1.1), (3, .int s1.2)]) (fun s1 => th) (fun x4 => [(1, .long x4)]) (fun x4 => th) (fun s1 nx2 hnx2 ex3 hex3 => ?_) (fun x4 => ?_) 4096 ((Int64.ofNat 0), (Int32.ofInt 0))) ⟨rfl, rfl, rfl, trivial⟩
  · refine x_P 5 rfl rfl rfl ?_
    refine x_P 6 rfl rfl rfl ?_
    refine x_callV rfl rfl rfl rfl rfl ⟨rfl, rfl⟩ (fun x h => c_192 h) (S_192 (d + 3) a0 th) (fun x5 hx5 => ?_)
    refine x_ic_ge rfl rfl (fun h15 => ?_) (fun h15 => ?_)
    · exact x_lv (hex3 s1.1) ⟨rfl, trivial⟩
    · refine x_P 13 rfl rfl rfl ?_
      refine x_P 14 rfl rfl rfl ?_
      refine x_P 15 rfl rfl rfl ?_
      refine x_callV rfl rfl rfl rfl rfl ⟨rfl, rfl⟩ (fun x h => c_194 h) (S_194 (d + 3) a0 s1.2 th) (fun x6 hx6 => ?_)
      refine x_P 19 rfl rfl rfl ?_
      refine x_jn 45 (fun v7 => [(0, .ref a0), (3, .int s1.2)]) (fun v7 => [.long v7.1, .long v7.2]) (fun v7 => th) (fun v7 => ?_) (fun j8 hj8 => ?_)
      · refine x_P 46 rfl rfl rfl ?_
        refine x_P (lv' := [(1, .long (v7.2 ||| v7.1)), (0, .ref a0), (3, .int s1.2)]) 47 rfl rfl rfl ?_
        refine x_P (lv' := [(3, .int (s1.2 + Int32.ofInt 1)), (1, .long (v7.2 ||| v7.1)), (0, .ref a0)]) 50 rfl rfl rfl ?_
        refine x_P 4 rfl rfl rfl ?_
        exact x_lv (hnx2 ((v7.2 ||| v7.1), (s1.2 + Int32.ofInt 1))) ⟨rfl, rfl, rfl, trivial⟩
      · refine x_jn 44 (fun v9 => [(0, .ref a0), (3, .int s1.2)]) (fun v9 => [.long v9]) (fun v9 => th) (fun v9 => ?_) (fun j10 hj10 => ?_)
        · refine x_P 45 rfl rfl rfl ?_
          exact x_lv (hj8 ((Int64.ofNat 0), v9)) ⟨rfl, rfl, trivial⟩
        · refine x_ic_ne rfl rfl (fun h14 => ?_) (fun h14 => ?_)
          · refine x_P 23 rfl rfl rfl ?_
            refine x_P 24 rfl rfl rfl ?_
            refine x_callV rfl rfl rfl rfl rfl ⟨rfl, rfl⟩ (fun x h => c_273 h) (S_273 d a0 s1.2 th) (fun x11 hx11 => ?_)
            refine x_P 28 rfl rfl rfl ?_
            refine x_P 29 rfl rfl rfl ?_
            refine x_gI rfl (fun x12 hx12 => ?_)
            refine x_P 33 rfl rfl rfl ?_
            refine x_P 34 rfl rfl rfl ?_
            refine x_P 35 rfl rfl rfl ?_
            refine x_ic_ne rfl rfl (fun h13 => ?_) (fun h13 => ?_)
            · refine x_P 39 rfl rfl rfl ?_
              refine x_P 40 rfl rfl rfl ?_
              refine x_P 41 rfl rfl rfl ?_
              refine x_P 45 rfl rfl rfl ?_
              exact x_lv (hj8 (((Int64.ofNat 1) <<< ((Int32.toInt64 s1.2) &&& 63)), s1.1)) ⟨rfl, rfl, trivial⟩
            · exact x_lv (hj10 s1.1) ⟨rfl, rfl, trivial⟩
          · exact x_lv (hj10 s1.1) ⟨rfl, rfl, trivial⟩
  · refine x_P 54 rfl rfl rfl ?_
    exact x_retJ (x := x4) rfl
-- 276 NineTreesModel.behind(II)I
noncomputable def m_276 (a0 : Nat) (a1 : Int32) (a2 : Int32) (th : tH) : Option (Int32 × tH) :=
  (gC th 8 a0).bind fun _ =>
  (m_191 a0 a1 th).bind fun x1 =>
  jn (fun (v2 : Int32 × tH) =>
      some (v2.1, v2.2)
    ) (fun j3 =>
      jn (fun (v4 : Unit) =>
          (m_189 a0 (Int8.ofInt (-2)).toInt32 th).bind fun q6 =>
          j3 (q6.1, q6.2)
        ) (fun j5 =>
          if x1 = 0 then
            j5 ()
          else
            (m_193 a0 a2 th).bind fun x7 =>
            if x7 = 0 then
              j5 ()
            else
              (gN th 8 a0 12).bind fun o8 =>
              (aI th o8 a1).bind fun x9 =>
              if x9 = a2 then
                j5 ()
              else
                (m_272 a0 a1 a2 th).bind fun x10 =>
                j3 (x10, th)
        )
    )
theorem c_276 {a0 : Nat} {a1 : Int32} {a2 : Int32} {th : tH} {x : (Int32 × tH)} (h : m_276 a0 a1 a2 th = some x) : ∃ fs, th[a0]? = some (.inr (8, fs)) := gC_of h
theorem S_276 {L : Nat} (d : Nat) (a0 : Nat) (a1 : Int32) (a2 : Int32) (th : tH) : Wx L (fun x => (some (.int x.1), x.2)) (d + 3) 276 3 0 [(0, .ref a0), (1, .int a1), (2, .int a2)] [] th (m_276 a0 a1 a2 th) := by
  unfold m_276
  refine x_gC ?_
  refine x_P 1 rfl rfl rfl ?_
  refine x_P 2 rfl rfl rfl ?_
  refine x_callV rfl rfl rfl rfl rfl ⟨rfl, rfl⟩ (fun x h => c_191 h) (S_191 (d + 1) a0 a1 th) (fun x1 hx1 => ?_)
  refine x_jn 41 (fun v2 => []) (fun v2 => [.int v2.1]) (fun v2 => v2.2) (fun v2 => ?_) (fun j3 hj3 => ?_)
  · exact x_retI (x := (v2.1, v2.2)) rfl
  · refine x_jn 35 (fun v4 => [(0, .ref a0)]) (fun v4 => []) (fun v4 => th) (fun v4 => ?_) (fun j5 hj5 => ?_)
    · refine x_P 36 rfl rfl rfl ?_
      refine x_P 38 rfl rfl rfl ?_
      refine x_callV rfl rfl rfl rfl rfl ⟨rfl, rfl⟩ (fun x h => c_189 h) (S_189 (d + 1) a0 (Int8.ofInt (-2)).toInt32 th) (fun q6 hq6 => ?_)
      exact x_lv (hj3 (q6.1, q6.2)) trivial
    · refine x_if_eq rfl rfl (fun h13 => ?_) (fun h13 => ?_)
      · exact x_lv (hj5 ()) ⟨rfl, trivial⟩
      · refine x_P 9 rfl rfl rfl ?_
        refine x_P 10 rfl rfl rfl ?_
        refine x_callV rfl rfl rfl rfl rfl ⟨rfl, rfl⟩ (fun x h => c_193 h) (S_193 (d + 1) a0 a2 th) (fun x7 hx7 => ?_)
        refine x_if_eq rfl rfl (fun h12 => ?_) (fun h12 => ?_)
        · exact x_lv (hj5 ()) ⟨rfl, trivial⟩
        · refine x_P 17 rfl rfl rfl ?_
          refine x_gN rfl (fun o8 ho8 => ?_)
          refine x_P 21 rfl rfl rfl ?_
          refine x_aI rfl ⟨rfl, rfl⟩ (fun x9 hx9 => ?_)
          refine x_P 23 rfl rfl rfl ?_
          refine x_ic_eq rfl rfl (fun h11 => ?_) (fun h11 => ?_)
          · exact x_lv (hj5 ()) ⟨rfl, trivial⟩
          · refine x_P 27 rfl rfl rfl ?_
            refine x_P 28 rfl rfl rfl ?_
            refine x_P 29 rfl rfl rfl ?_
            refine x_callV rfl rfl rfl rfl rfl ⟨rfl, rfl⟩ (fun x h => c_272 h) (S_272 d a0 a1 a2 th) (fun x10 hx10 => ?_)
            refine x_P 41 rfl rfl rfl ?_
            exact x_lv (hj3 (x10, th)) trivial
-- 277 NineTreesModel.pathOf(II)I
noncomputable def m_277 (a0 : Nat) (a1 : Int32) (a2 : Int32) (th : tH) : Option (Int32) :=
  (gC th 8 a0).bind fun _ =>
  (gI th 8 a0 9).bind fun x1 =>
  (dvI a2 x1).bind fun x2 =>
  (gI th 8 a0 9).bind fun x3 =>
  (rmI a2 x3).bind fun x4 =>
  jn (fun (v5 : Int32) =>
      some v5
    ) (fun j6 =>
      if a1 = 0 then
        j6 x2
      else
        if a1 = (Int32.ofInt 1) then
          j6 x4
        else
          if a1 = (Int32.ofInt 2) then
            (gI th 8 a0 9).bind fun x7 =>
            j6 (((x2 - x4) + x7) - (Int32.ofInt 1))
          else
            j6 (x2 + x4)
    )
theorem c_277 {a0 : Nat} {a1 : Int32} {a2 : Int32} {th : tH} {x : (Int32)} (h : m_277 a0 a1 a2 th = some x) : ∃ fs, th[a0]? = some (.inr (8, fs)) := gC_of h
theorem S_277 {L : Nat} (d : Nat) (a0 : Nat) (a1 : Int32) (a2 : Int32) (th : tH) : Wx L (fun x => (some (.int x), th)) d 277 5 0 [(0, .ref a0), (1, .int a1), (2, .int a2)] [] th (m_277 a0 a1 a2 th) := by
  unfold m_277
  refine x_gC ?_
  refine x_P 1 rfl rfl rfl ?_
  refine x_P 2 rfl rfl rfl ?_
  refine x_gI rfl (fun x1 hx1 => ?_)
  refine x_dv rfl rfl (fun x2 hx2 => ?_)
  refine x_P (lv' := [(3, .int x2), (0, .ref a0), (1, .int a1), (2, .int a2)]) 7 rfl rfl rfl ?_
  refine x_P 8 rfl rfl rfl ?_
  refine x_P 9 rfl rfl rfl ?_
  refine x_gI rfl (fun x3 hx3 => ?_)
  refine x_rm rfl rfl (fun x4 hx4 => ?_)
  refine x_P (lv' := [(4, .int x4), (3, .int x2), (0, .ref a0), (1, .int a1), (2, .int a2)]) 15 rfl rfl rfl ?_
  refine x_P 16 rfl rfl rfl ?_
  refine x_jn 56 (fun v5 => []) (fun v5 => [.int v5]) (fun v5 => th) (fun v5 => ?_) (fun j6 hj6 => ?_)
  · exact x_retI (x := v5) rfl
  · refine x_if_ne rfl rfl (fun h10 => ?_) (fun h10 => ?_)
    · refine x_P 20 rfl rfl rfl ?_
      refine x_P 56 rfl rfl rfl ?_
      exact x_lv (hj6 x2) trivial
    · refine x_P 24 rfl rfl rfl ?_
      refine x_P 25 rfl rfl rfl ?_
      refine x_ic_ne rfl rfl (fun h9 => ?_) (fun h9 => ?_)
      · refine x_P 30 rfl rfl rfl ?_
        refine x_P 56 rfl rfl rfl ?_
        exact x_lv (hj6 x4) trivial
      · refine x_P 34 rfl rfl rfl ?_
        refine x_P 35 rfl rfl rfl ?_
        refine x_ic_ne rfl rfl (fun h8 => ?_) (fun h8 => ?_)
        · refine x_P 39 rfl rfl rfl ?_
          refine x_P 41 rfl rfl rfl ?_
          refine x_P 42 rfl rfl rfl ?_
          refine x_P 43 rfl rfl rfl ?_
          refine x_gI rfl (fun x7 hx7 => ?_)
          refine x_P 47 rfl rfl rfl ?_
          refine x_P 48 rfl rfl rfl ?_
          refine x_P 49 rfl rfl rfl ?_
          refine x_P 56 rfl rfl rfl ?_
          exact x_lv (hj6 (((x2 - x4) + x7) - (Int32.ofInt 1))) trivial
        · refine x_P 53 rfl rfl rfl ?_
          refine x_P 55 rfl rfl rfl ?_
          refine x_P 56 rfl rfl rfl ?_
          exact x_lv (hj6 (x2 + x4)) trivial
-- 278 NineTreesModel.paths(I)I
noncomputable def m_278 (a0 : Nat) (a1 : Int32) (th : tH) : Option (Int32 × tH) :=
  (gC th 8 a0).bind fun _ =>
  (m_190 (Int32.toInt64 a1) (Int64.ofNat 0) (Int64.ofNat 3) th).bind fun x1 =>
  if x1 = 0 then
    (m_189 a0 (Int8.ofInt (-2)).toInt32 th).bind fun q27 =>
    some (q27.1, q27.2)
  else
    jn (fun (v2 : Int32) =>
        lp (fun (s4 : Int32 × Int32) nx5 ex6 =>
            if v2 ≤ s4.2 then
              ex6 s4.1
            else
              lp (fun (s8 : Int32 × Int32) nx9 ex10 =>
                  (gI th 8 a0 10).bind fun x15 =>
                  if x15 ≤ s8.2 then
                    ex10 s8.1
                  else
                    (gN th 8 a0 12).bind fun o16 =>
                    (aI th o16 s8.2).bind fun x17 =>
                    (m_277 a0 a1 x17 th).bind fun x18 =>
                    jn (fun (v19 : Int32 × Int32) =>
                        nx9 ((v19.2 &&& v19.1), (s8.2 + Int32.ofInt 1))
                      ) (fun j20 =>
                        if x18 = s4.2 then
                          j20 ((Int32.ofInt 0), s8.1)
                        else
                          j20 ((Int32.ofInt 1), s8.1)
                      )
                ) 4096 ((Int32.ofInt 1), (Int32.ofInt 0)) (fun (x11 : Int32) =>
                  jn (fun (v12 : Int32 × Int32) =>
                      nx5 ((v12.2 + v12.1), (s4.2 + Int32.ofInt 1))
                    ) (fun j13 =>
                      if x11 = 0 then
                        j13 ((Int32.ofInt 0), s4.1)
                      else
                        j13 ((Int32.ofInt 1), s4.1)
                    )
                )
          ) 4096 ((Int32.ofInt 0), (Int32.ofInt 0)) (fun (x7 : Int32) =>
            some (x7, th)
          )
      ) (fun j3 =>
        if (Int32.ofInt 2) ≤ a1 then
          (gI th 8 a0 9).bind fun x24 =>
          j3 (((Int32.ofInt 2) * x24) - (Int32.ofInt 1))
        else
          (gI th 8 a0 9).bind fun x25 =>
          j3 x25
      )
theorem c_278 {a0 : Nat} {a1 : Int32} {th : tH} {x : (Int32 × tH)} (h : m_278 a0 a1 th = some x) : ∃ fs, th[a0]? = some (.inr (8, fs)) := gC_of h
theorem S_278 {L : Nat} (d : Nat) (a0 : Nat) (a1 : Int32) (th : tH) : Wx L (fun x => (some (.int x.1), x.2)) (d + 2) 278 7 0 [(0, .ref a0), (1, .int a1)] [] th (m_278 a0 a1 th) := by
  unfold m_278
  refine x_gC ?_
  refine x_P 1 rfl rfl rfl ?_
  refine x_P 2 rfl rfl rfl ?_
  refine x_P 3 rfl rfl rfl ?_
  refine x_P 6 rfl rfl rfl ?_
  refine x_callS rfl rfl rfl rfl rfl rfl ⟨rfl, rfl⟩ (S_190 (d + 1) (Int32.toInt64 a1) (Int64.ofNat 0) (Int64.ofNat 3) th) (fun x1 hx1 => ?_)
  refine x_if_ne rfl rfl (fun h28 => ?_) (fun h28 => ?_)
  · refine x_P 13 rfl rfl rfl ?_
    refine x_P 15 rfl rfl rfl ?_
    refine x_callV rfl rfl rfl rfl rfl ⟨rfl, rfl⟩ (fun x h => c_189 h) (S_189 d a0 (Int8.ofInt (-2)).toInt32 th) (fun q27 hq27 => ?_)
    exact x_retI (x := (q27.1, q27.2)) rfl
  · refine x_P 20 rfl rfl rfl ?_
    refine x_P 21 rfl rfl rfl ?_
    refine x_jn 39 (fun v2 => [(0, .ref a0), (1, .int a1)]) (fun v2 => [.int v2]) (fun v2 => th) (fun v2 => ?_) (fun j3 hj3 => ?_)
    · refine x_P (lv' := [(2, .int v2), (0, .ref a0), (1, .int a1)]) 40 rfl rfl rfl ?_
      refine x_P 41 rfl rfl rfl ?_
      refine x_P (lv' := [(3, .int (Int32.ofInt 0)), (2, .int v2), (0, .ref a0), (1, .int a1)]) 42 rfl rfl rfl ?_
      refine x_P 43 rfl rfl rfl ?_
      refine x_P (lv' := [(4, .int (Int32.ofInt 0)), (3, .int (Int32.ofInt 0)), (2, .int v2), (0, .ref a0), (1, .int a1)]) 45 rfl rfl rfl ?_
      refine x_lv (lv := [(0, .ref a0), (1, .int a1), (2, .int v2), (3, .int (Int32.ofInt 0)), (4, .int (Int32.ofInt 0))]) (x_lp 118 (fun s4 => [(0, .ref a0), (1, .int a1), (2, .int v2), (3, .int s4.1), (4, .int s4.2)]) (fun s4 => th) (fun x7 => [(3, .int x7)]) (fun x7 => th) (fun s4 nx5 hnx5 ex6 hex6 => ?_) (fun x7 => ?_) 4096 ((Int32.ofInt 0), (Int32.ofInt 0))) ⟨rfl, rfl, rfl, rfl, rfl, trivial⟩
      · refine x_P 47 rfl rfl rfl ?_
        refine x_P 48 rfl rfl rfl ?_
        refine x_ic_ge rfl rfl (fun h23 => ?_) (fun h23 => ?_)
        · exact x_lv (hex6 s4.1) ⟨rfl, trivial⟩
        · refine x_P 52 rfl rfl rfl ?_
          refine x_P (lv' := [(5, .int (Int32.ofInt 1)), (0, .ref a0), (1, .int a1), (2, .int v2), (3, .int s4.1), (4, .int s4.2)]) 54 rfl rfl rfl ?_
          refine x_P 55 rfl rfl rfl ?_
          refine x_P (lv' := [(6, .int (Int32.ofInt 0)), (5, .int (Int32.ofInt 1)), (0, .ref a0), (1, .int a1), (2, .int v2), (3, .int s4.1), (4, .int s4.2)]) 57 rfl rfl rfl ?_
          refine x_lv (lv := [(0, .ref a0), (1, .int a1), (2, .int v2), (3, .int s4.1), (4, .int s4.2), (5, .int (Int32.ofInt 1)), (6, .int (Int32.ofInt 0))]) (x_lp 99 (fun s8 => [(0, .ref a0), (1, .int a1), (2, .int v2), (3, .int s4.1), (4, .int s4.2), (5, .int s8.1), (6, .int s8.2)]) (fun s8 => th) (fun x11 => [(0, .ref a0), (1, .int a1), (2, .int v2), (3, .int s4.1), (4, .int s4.2), (5, .int x11)]) (fun x11 => th) (fun s8 nx9 hnx9 ex10 hex10 => ?_) (fun x11 => ?_) 4096 ((Int32.ofInt 1), (Int32.ofInt 0))) ⟨rfl, rfl, rfl, rfl, rfl, rfl, rfl, trivial⟩
          · refine x_P 59 rfl rfl rfl ?_
            refine x_P 60 rfl rfl rfl ?_
            refine x_gI rfl (fun x15 hx15 => ?_)
            refine x_ic_ge rfl rfl (fun h22 => ?_) (fun h22 => ?_)
            · exact x_lv (hex10 s8.1) ⟨rfl, rfl, rfl, rfl, rfl, rfl, trivial⟩
            · refine x_P 68 rfl rfl rfl ?_
              refine x_P 69 rfl rfl rfl ?_
              refine x_P 70 rfl rfl rfl ?_
              refine x_P 71 rfl rfl rfl ?_
              refine x_gN rfl (fun o16 ho16 => ?_)
              refine x_P 76 rfl rfl rfl ?_
              refine x_aI rfl ⟨rfl, rfl⟩ (fun x17 hx17 => ?_)
              refine x_callV rfl rfl rfl rfl rfl ⟨rfl, rfl⟩ (fun x h => c_277 h) (S_277 (d + 1) a0 a1 x17 th) (fun x18 hx18 => ?_)
              refine x_P 82 rfl rfl rfl ?_
              refine x_jn 90 (fun v19 => [(0, .ref a0), (1, .int a1), (2, .int v2), (3, .int s4.1), (4, .int s4.2), (6, .int s8.2)]) (fun v19 => [.int v19.1, .int v19.2]) (fun v19 => th) (fun v19 => ?_) (fun j20 hj20 => ?_)
              · refine x_P 91 rfl rfl rfl ?_
                refine x_P (lv' := [(5, .int (v19.2 &&& v19.1)), (0, .ref a0), (1, .int a1), (2, .int v2), (3, .int s4.1), (4, .int s4.2), (6, .int s8.2)]) 93 rfl rfl rfl ?_
                refine x_P (lv' := [(6, .int (s8.2 + Int32.ofInt 1)), (5, .int (v19.2 &&& v19.1)), (0, .ref a0), (1, .int a1), (2, .int v2), (3, .int s4.1), (4, .int s4.2)]) 96 rfl rfl rfl ?_
                refine x_P 57 rfl rfl rfl ?_
                exact x_lv (hnx9 ((v19.2 &&& v19.1), (s8.2 + Int32.ofInt 1))) ⟨rfl, rfl, rfl, rfl, rfl, rfl, rfl, trivial⟩
              · refine x_ic_eq rfl rfl (fun h21 => ?_) (fun h21 => ?_)
                · refine x_P 90 rfl rfl rfl ?_
                  exact x_lv (hj20 ((Int32.ofInt 0), s8.1)) ⟨rfl, rfl, rfl, rfl, rfl, rfl, trivial⟩
                · refine x_P 86 rfl rfl rfl ?_
                  refine x_P 90 rfl rfl rfl ?_
                  exact x_lv (hj20 ((Int32.ofInt 1), s8.1)) ⟨rfl, rfl, rfl, rfl, rfl, rfl, trivial⟩
          · refine x_P 100 rfl rfl rfl ?_
            refine x_P 102 rfl rfl rfl ?_
            refine x_jn 110 (fun v12 => [(0, .ref a0), (1, .int a1), (2, .int v2), (4, .int s4.2)]) (fun v12 => [.int v12.1, .int v12.2]) (fun v12 => th) (fun v12 => ?_) (fun j13 hj13 => ?_)
            · refine x_P 111 rfl rfl rfl ?_
              refine x_P (lv' := [(3, .int (v12.2 + v12.1)), (0, .ref a0), (1, .int a1), (2, .int v2), (4, .int s4.2)]) 112 rfl rfl rfl ?_
              refine x_P (lv' := [(4, .int (s4.2 + Int32.ofInt 1)), (3, .int (v12.2 + v12.1)), (0, .ref a0), (1, .int a1), (2, .int v2)]) 115 rfl rfl rfl ?_
              refine x_P 45 rfl rfl rfl ?_
              exact x_lv (hnx5 ((v12.2 + v12.1), (s4.2 + Int32.ofInt 1))) ⟨rfl, rfl, rfl, rfl, rfl, trivial⟩
            · refine x_if_eq rfl rfl (fun h14 => ?_) (fun h14 => ?_)
              · refine x_P 110 rfl rfl rfl ?_
                exact x_lv (hj13 ((Int32.ofInt 0), s4.1)) ⟨rfl, rfl, rfl, rfl, trivial⟩
              · refine x_P 106 rfl rfl rfl ?_
                refine x_P 110 rfl rfl rfl ?_
                exact x_lv (hj13 ((Int32.ofInt 1), s4.1)) ⟨rfl, rfl, rfl, rfl, trivial⟩
      · refine x_P 119 rfl rfl rfl ?_
        exact x_retI (x := (x7, th)) rfl
    · refine x_ic_ge rfl rfl (fun h26 => ?_) (fun h26 => ?_)
      · refine x_P 32 rfl rfl rfl ?_
        refine x_P 33 rfl rfl rfl ?_
        refine x_gI rfl (fun x24 hx24 => ?_)
        refine x_P 37 rfl rfl rfl ?_
        refine x_P 38 rfl rfl rfl ?_
        refine x_P 39 rfl rfl rfl ?_
        exact x_lv (hj3 (((Int32.ofInt 2) * x24) - (Int32.ofInt 1))) ⟨rfl, rfl, trivial⟩
      · refine x_P 25 rfl rfl rfl ?_
        refine x_gI rfl (fun x25 hx25 => ?_)
        refine x_P 39 rfl rfl rfl ?_
        exact x_lv (hj3 x25) ⟨rfl, rfl, trivial⟩
-- 279 NineTreesModel.wishOf(I)I
noncomputable def m_279 (a0 : Nat) (a1 : Int32) (th : tH) : Option (Int32 × tH) :=
  (gC th 8 a0).bind fun _ =>
  (gI th 8 a0 14).bind fun x1 =>
  (m_190 (Int32.toInt64 a1) (Int64.ofNat 0) (Int32.toInt64 (x1 - (Int32.ofInt 1))) th).bind fun x2 =>
  jn (fun (v3 : Int32 × tH) =>
      some (v3.1, v3.2)
    ) (fun j4 =>
      if x2 = 0 then
        (m_189 a0 (Int8.ofInt (-2)).toInt32 th).bind fun q5 =>
        j4 (q5.1, q5.2)
      else
        (gN th 8 a0 15).bind fun o6 =>
        (aI th o6 a1).bind fun x7 =>
        j4 (x7, th)
    )
theorem c_279 {a0 : Nat} {a1 : Int32} {th : tH} {x : (Int32 × tH)} (h : m_279 a0 a1 th = some x) : ∃ fs, th[a0]? = some (.inr (8, fs)) := gC_of h
theorem S_279 {L : Nat} (d : Nat) (a0 : Nat) (a1 : Int32) (th : tH) : Wx L (fun x => (some (.int x.1), x.2)) (d + 2) 279 2 0 [(0, .ref a0), (1, .int a1)] [] th (m_279 a0 a1 th) := by
  unfold m_279
  refine x_gC ?_
  refine x_P 1 rfl rfl rfl ?_
  refine x_P 2 rfl rfl rfl ?_
  refine x_P 3 rfl rfl rfl ?_
  refine x_P 4 rfl rfl rfl ?_
  refine x_gI rfl (fun x1 hx1 => ?_)
  refine x_P 8 rfl rfl rfl ?_
  refine x_P 9 rfl rfl rfl ?_
  refine x_P 10 rfl rfl rfl ?_
  refine x_callS rfl rfl rfl rfl rfl rfl ⟨rfl, rfl⟩ (S_190 (d + 1) (Int32.toInt64 a1) (Int64.ofNat 0) (Int32.toInt64 (x1 - (Int32.ofInt 1))) th) (fun x2 hx2 => ?_)
  refine x_jn 31 (fun v3 => []) (fun v3 => [.int v3.1]) (fun v3 => v3.2) (fun v3 => ?_) (fun j4 hj4 => ?_)
  · exact x_retI (x := (v3.1, v3.2)) rfl
  · refine x_if_eq rfl rfl (fun h8 => ?_) (fun h8 => ?_)
    · refine x_P 26 rfl rfl rfl ?_
      refine x_P 28 rfl rfl rfl ?_
      refine x_callV rfl rfl rfl rfl rfl ⟨rfl, rfl⟩ (fun x h => c_189 h) (S_189 d a0 (Int8.ofInt (-2)).toInt32 th) (fun q5 hq5 => ?_)
      exact x_lv (hj4 (q5.1, q5.2)) trivial
    · refine x_P 17 rfl rfl rfl ?_
      refine x_gN rfl (fun o6 ho6 => ?_)
      refine x_P 21 rfl rfl rfl ?_
      refine x_aI rfl ⟨rfl, rfl⟩ (fun x7 hx7 => ?_)
      refine x_P 31 rfl rfl rfl ?_
      exact x_lv (hj4 (x7, th)) trivial
-- 280 NineTreesModel.met(I)I
noncomputable def m_280 (a0 : Nat) (a1 : Int32) (th : tH) : Option (Int32 × tH) :=
  (gC th 8 a0).bind fun _ =>
  (gI th 8 a0 14).bind fun x1 =>
  (m_190 (Int32.toInt64 a1) (Int64.ofNat 18446744073709551615) (Int32.toInt64 (x1 - (Int32.ofInt 1))) th).bind fun x2 =>
  if x2 = 0 then
    (m_189 a0 (Int8.ofInt (-2)).toInt32 th).bind fun q11 =>
    some (q11.1, q11.2)
  else
    jn (fun (v3 : Int32 × tH) =>
        some (v3.1, v3.2)
      ) (fun j4 =>
        if a1 = (Int32.ofInt (-1)) then
          (m_261 a0 th).bind fun q9 =>
          j4 (q9.1, q9.2)
        else
          (gN th 8 a0 15).bind fun o5 =>
          (aI th o5 a1).bind fun x6 =>
          (m_252 a0 x6 th).bind fun q7 =>
          if q7.1 = 0 then
            j4 ((Int32.ofInt 0), q7.2)
          else
            j4 ((Int32.ofInt 1), q7.2)
      )
theorem c_280 {a0 : Nat} {a1 : Int32} {th : tH} {x : (Int32 × tH)} (h : m_280 a0 a1 th = some x) : ∃ fs, th[a0]? = some (.inr (8, fs)) := gC_of h
theorem S_280 {L : Nat} (d : Nat) (a0 : Nat) (a1 : Int32) (th : tH) : Wx L (fun x => (some (.int x.1), x.2)) (d + 6) 280 2 0 [(0, .ref a0), (1, .int a1)] [] th (m_280 a0 a1 th) := by
  unfold m_280
  refine x_gC ?_
  refine x_P 1 rfl rfl rfl ?_
  refine x_P 2 rfl rfl rfl ?_
  refine x_P 5 rfl rfl rfl ?_
  refine x_P 6 rfl rfl rfl ?_
  refine x_gI rfl (fun x1 hx1 => ?_)
  refine x_P 10 rfl rfl rfl ?_
  refine x_P 11 rfl rfl rfl ?_
  refine x_P 12 rfl rfl rfl ?_
  refine x_callS rfl rfl rfl rfl rfl rfl ⟨rfl, rfl⟩ (S_190 (d + 5) (Int32.toInt64 a1) (Int64.ofNat 18446744073709551615) (Int32.toInt64 (x1 - (Int32.ofInt 1))) th) (fun x2 hx2 => ?_)
  refine x_if_ne rfl rfl (fun h12 => ?_) (fun h12 => ?_)
  · refine x_P 19 rfl rfl rfl ?_
    refine x_P 21 rfl rfl rfl ?_
    refine x_callV rfl rfl rfl rfl rfl ⟨rfl, rfl⟩ (fun x h => c_189 h) (S_189 (d + 4) a0 (Int8.ofInt (-2)).toInt32 th) (fun q11 hq11 => ?_)
    exact x_retI (x := (q11.1, q11.2)) rfl
  · refine x_P 26 rfl rfl rfl ?_
    refine x_P 27 rfl rfl rfl ?_
    refine x_jn 55 (fun v3 => []) (fun v3 => [.int v3.1]) (fun v3 => v3.2) (fun v3 => ?_) (fun j4 hj4 => ?_)
    · exact x_retI (x := (v3.1, v3.2)) rfl
    · refine x_ic_ne rfl rfl (fun h10 => ?_) (fun h10 => ?_)
      · refine x_P 31 rfl rfl rfl ?_
        refine x_callV rfl rfl rfl rfl rfl ⟨rfl, rfl⟩ (fun x h => c_261 h) (S_261 d a0 th) (fun q9 hq9 => ?_)
        refine x_P 55 rfl rfl rfl ?_
        exact x_lv (hj4 (q9.1, q9.2)) trivial
      · refine x_P 38 rfl rfl rfl ?_
        refine x_P 39 rfl rfl rfl ?_
        refine x_gN rfl (fun o5 ho5 => ?_)
        refine x_P 43 rfl rfl rfl ?_
        refine x_aI rfl ⟨rfl, rfl⟩ (fun x6 hx6 => ?_)
        refine x_callV rfl rfl rfl rfl rfl ⟨rfl, rfl⟩ (fun x h => c_252 h) (S_252 (d + 1) a0 x6 th) (fun q7 hq7 => ?_)
        refine x_if_eq rfl rfl (fun h8 => ?_) (fun h8 => ?_)
        · refine x_P 55 rfl rfl rfl ?_
          exact x_lv (hj4 ((Int32.ofInt 0), q7.2)) trivial
        · refine x_P 51 rfl rfl rfl ?_
          refine x_P 55 rfl rfl rfl ?_
          exact x_lv (hj4 ((Int32.ofInt 1), q7.2)) trivial
-- 281 NineTreesModel.turned(I)I
noncomputable def m_281 (a0 : Nat) (a1 : Int32) (th : tH) : Option (Int32) :=
  (gC th 8 a0).bind fun _ =>
  (gI th 8 a0 9).bind fun x1 =>
  (rmI a1 x1).bind fun x2 =>
  (gI th 8 a0 9).bind fun x3 =>
  (gI th 8 a0 9).bind fun x4 =>
  (gI th 8 a0 9).bind fun x5 =>
  (dvI a1 x5).bind fun x6 =>
  some ((((x2 * x3) + x4) - (Int32.ofInt 1)) - x6)
theorem c_281 {a0 : Nat} {a1 : Int32} {th : tH} {x : (Int32)} (h : m_281 a0 a1 th = some x) : ∃ fs, th[a0]? = some (.inr (8, fs)) := gC_of h
theorem S_281 {L : Nat} (d : Nat) (a0 : Nat) (a1 : Int32) (th : tH) : Wx L (fun x => (some (.int x), th)) d 281 2 0 [(0, .ref a0), (1, .int a1)] [] th (m_281 a0 a1 th) := by
  unfold m_281
  refine x_gC ?_
  refine x_P 1 rfl rfl rfl ?_
  refine x_P 2 rfl rfl rfl ?_
  refine x_gI rfl (fun x1 hx1 => ?_)
  refine x_rm rfl rfl (fun x2 hx2 => ?_)
  refine x_P 7 rfl rfl rfl ?_
  refine x_gI rfl (fun x3 hx3 => ?_)
  refine x_P 11 rfl rfl rfl ?_
  refine x_P 12 rfl rfl rfl ?_
  refine x_gI rfl (fun x4 hx4 => ?_)
  refine x_P 16 rfl rfl rfl ?_
  refine x_P 17 rfl rfl rfl ?_
  refine x_P 18 rfl rfl rfl ?_
  refine x_P 19 rfl rfl rfl ?_
  refine x_P 20 rfl rfl rfl ?_
  refine x_gI rfl (fun x5 hx5 => ?_)
  refine x_dv rfl rfl (fun x6 hx6 => ?_)
  refine x_P 25 rfl rfl rfl ?_
  exact x_retI (x := ((((x2 * x3) + x4) - (Int32.ofInt 1)) - x6)) rfl
-- 282 NineTreesModel.mirrored(I)I
noncomputable def m_282 (a0 : Nat) (a1 : Int32) (th : tH) : Option (Int32) :=
  (gC th 8 a0).bind fun _ =>
  (gI th 8 a0 9).bind fun x1 =>
  (dvI a1 x1).bind fun x2 =>
  (gI th 8 a0 9).bind fun x3 =>
  (gI th 8 a0 9).bind fun x4 =>
  (gI th 8 a0 9).bind fun x5 =>
  (rmI a1 x5).bind fun x6 =>
  some ((((x2 * x3) + x4) - (Int32.ofInt 1)) - x6)
theorem c_282 {a0 : Nat} {a1 : Int32} {th : tH} {x : (Int32)} (h : m_282 a0 a1 th = some x) : ∃ fs, th[a0]? = some (.inr (8, fs)) := gC_of h
theorem S_282 {L : Nat} (d : Nat) (a0 : Nat) (a1 : Int32) (th : tH) : Wx L (fun x => (some (.int x), th)) d 282 2 0 [(0, .ref a0), (1, .int a1)] [] th (m_282 a0 a1 th) := by
  unfold m_282
  refine x_gC ?_
  refine x_P 1 rfl rfl rfl ?_
  refine x_P 2 rfl rfl rfl ?_
  refine x_gI rfl (fun x1 hx1 => ?_)
  refine x_dv rfl rfl (fun x2 hx2 => ?_)
  refine x_P 7 rfl rfl rfl ?_
  refine x_gI rfl (fun x3 hx3 => ?_)
  refine x_P 11 rfl rfl rfl ?_
  refine x_P 12 rfl rfl rfl ?_
  refine x_gI rfl (fun x4 hx4 => ?_)
  refine x_P 16 rfl rfl rfl ?_
  refine x_P 17 rfl rfl rfl ?_
  refine x_P 18 rfl rfl rfl ?_
  refine x_P 19 rfl rfl rfl ?_
  refine x_P 20 rfl rfl rfl ?_
  refine x_gI rfl (fun x5 hx5 => ?_)
  refine x_rm rfl rfl (fun x6 hx6 => ?_)
  refine x_P 25 rfl rfl rfl ?_
  exact x_retI (x := ((((x2 * x3) + x4) - (Int32.ofInt 1)) - x6)) rfl
-- 283 NineTreesModel.alike()I
noncomputable def m_283 (a0 : Nat) (th : tH) : Option (Int32) :=
  (gC th 8 a0).bind fun _ =>
  lp (fun (s1 : Int32 × Int32) nx2 ex3 =>
      if (Int8.ofInt 8).toInt32 ≤ s1.2 then
        ex3 s1.1
      else
        lp (fun (s5 : Int32 × Int32) nx6 ex7 =>
            (gI th 8 a0 10).bind fun x12 =>
            if x12 ≤ s5.2 then
              ex7 s5.1
            else
              jn (fun (v13 : Int32) =>
                  lp (fun (s15 : Int32 × Int32) nx16 ex17 =>
                      (rmI s1.2 (Int32.ofInt 4)).bind fun x23 =>
                      if x23 ≤ s15.2 then
                        ex17 s15.1
                      else
                        (m_281 a0 s15.1 th).bind fun x24 =>
                        nx16 (x24, (s15.2 + Int32.ofInt 1))
                    ) 4096 (v13, (Int32.ofInt 0)) (fun (x18 : Int32) =>
                      (m_194 a0 x18 th).bind fun x19 =>
                      jn (fun (v20 : Int32 × Int32) =>
                          nx6 ((v20.2 &&& v20.1), (s5.2 + Int32.ofInt 1))
                        ) (fun j21 =>
                          if x19 = (Int32.ofInt (-1)) then
                            j21 ((Int32.ofInt 0), s5.1)
                          else
                            j21 ((Int32.ofInt 1), s5.1)
                        )
                    )
                ) (fun j14 =>
                  if (Int32.ofInt 4) ≤ s1.2 then
                    (gN th 8 a0 12).bind fun o26 =>
                    (aI th o26 s5.2).bind fun x27 =>
                    (m_282 a0 x27 th).bind fun x28 =>
                    j14 x28
                  else
                    (gN th 8 a0 12).bind fun o29 =>
                    (aI th o29 s5.2).bind fun x30 =>
                    j14 x30
                )
          ) 4096 ((Int32.ofInt 1), (Int32.ofInt 0)) (fun (x8 : Int32) =>
            jn (fun (v9 : Int32 × Int32) =>
                nx2 ((v9.2 + v9.1), (s1.2 + Int32.ofInt 1))
              ) (fun j10 =>
                if x8 = 0 then
                  j10 ((Int32.ofInt 0), s1.1)
                else
                  j10 ((Int32.ofInt 1), s1.1)
              )
          )
    ) 4096 ((Int32.ofInt 0), (Int32.ofInt 0)) (fun (x4 : Int32) =>
      some x4
    )
theorem c_283 {a0 : Nat} {th : tH} {x : (Int32)} (h : m_283 a0 th = some x) : ∃ fs, th[a0]? = some (.inr (8, fs)) := gC_of h
theorem S_283 {L : Nat} (d : Nat) (a0 : Nat) (th : tH) : Wx L (fun x => (some (.int x), th)) (d + 1) 283 7 0 [(0, .ref a0)] [] th (m_283 a0 th) := by
  unfold m_283
  refine x_gC ?_
  refine x_P 1 rfl rfl rfl ?_
  refine x_P (lv' := [(1, .int (Int32.ofInt 0)), (0, .ref a0)]) 2 rfl rfl rfl ?_
  refine x_P 3 rfl rfl rfl ?_
  refine x_P (lv' := [(2, .int (Int32.ofInt 0)), (1, .int (Int32.ofInt 0)), (0, .ref a0)]) 4 rfl rfl rfl ?_
  refine x_lv (lv := [(0, .ref a0), (1, .int (Int32.ofInt 0)), (2, .int (Int32.ofInt 0))]) (x_lp 119 (fun s1 => [(0, .ref a0), (1, .int s1.1), (2, .int s1.2)]) (fun s1 => th) (fun x4 => [(1, .int x4)]) (fun x4 => th) (fun s1 nx2 hnx2 ex3 hex3 => ?_) (fun x4 => ?_) 4096 ((Int32.ofInt 0), (Int32.ofInt 0))) ⟨rfl, rfl, rfl, trivial⟩
  · refine x_P 5 rfl rfl rfl ?_
    refine x_P 7 rfl rfl rfl ?_
    refine x_ic_ge rfl rfl (fun h33 => ?_) (fun h33 => ?_)
    · exact x_lv (hex3 s1.1) ⟨rfl, trivial⟩
    · refine x_P 11 rfl rfl rfl ?_
      refine x_P (lv' := [(3, .int (Int32.ofInt 1)), (0, .ref a0), (1, .int s1.1), (2, .int s1.2)]) 12 rfl rfl rfl ?_
      refine x_P 13 rfl rfl rfl ?_
      refine x_P (lv' := [(4, .int (Int32.ofInt 0)), (3, .int (Int32.ofInt 1)), (0, .ref a0), (1, .int s1.1), (2, .int s1.2)]) 15 rfl rfl rfl ?_
      refine x_lv (lv := [(0, .ref a0), (1, .int s1.1), (2, .int s1.2), (3, .int (Int32.ofInt 1)), (4, .int (Int32.ofInt 0))]) (x_lp 101 (fun s5 => [(0, .ref a0), (1, .int s1.1), (2, .int s1.2), (3, .int s5.1), (4, .int s5.2)]) (fun s5 => th) (fun x8 => [(0, .ref a0), (1, .int s1.1), (2, .int s1.2), (3, .int x8)]) (fun x8 => th) (fun s5 nx6 hnx6 ex7 hex7 => ?_) (fun x8 => ?_) 4096 ((Int32.ofInt 1), (Int32.ofInt 0))) ⟨rfl, rfl, rfl, rfl, rfl, trivial⟩
      · refine x_P 17 rfl rfl rfl ?_
        refine x_P 18 rfl rfl rfl ?_
        refine x_gI rfl (fun x12 hx12 => ?_)
        refine x_ic_ge rfl rfl (fun h32 => ?_) (fun h32 => ?_)
        · exact x_lv (hex7 s5.1) ⟨rfl, rfl, rfl, rfl, trivial⟩
        · refine x_P 25 rfl rfl rfl ?_
          refine x_P 26 rfl rfl rfl ?_
          refine x_jn 50 (fun v13 => [(0, .ref a0), (1, .int s1.1), (2, .int s1.2), (3, .int s5.1), (4, .int s5.2)]) (fun v13 => [.int v13]) (fun v13 => th) (fun v13 => ?_) (fun j14 hj14 => ?_)
          · refine x_P (lv' := [(5, .int v13), (0, .ref a0), (1, .int s1.1), (2, .int s1.2), (3, .int s5.1), (4, .int s5.2)]) 52 rfl rfl rfl ?_
            refine x_P 53 rfl rfl rfl ?_
            refine x_P (lv' := [(6, .int (Int32.ofInt 0)), (5, .int v13), (0, .ref a0), (1, .int s1.1), (2, .int s1.2), (3, .int s5.1), (4, .int s5.2)]) 55 rfl rfl rfl ?_
            refine x_lv (lv := [(0, .ref a0), (1, .int s1.1), (2, .int s1.2), (3, .int s5.1), (4, .int s5.2), (5, .int v13), (6, .int (Int32.ofInt 0))]) (x_lp 77 (fun s15 => [(0, .ref a0), (1, .int s1.1), (2, .int s1.2), (3, .int s5.1), (4, .int s5.2), (5, .int s15.1), (6, .int s15.2)]) (fun s15 => th) (fun x18 => [(0, .ref a0), (1, .int s1.1), (2, .int s1.2), (3, .int s5.1), (4, .int s5.2), (5, .int x18)]) (fun x18 => th) (fun s15 nx16 hnx16 ex17 hex17 => ?_) (fun x18 => ?_) 4096 (v13, (Int32.ofInt 0))) ⟨rfl, rfl, rfl, rfl, rfl, rfl, rfl, trivial⟩
            · refine x_P 57 rfl rfl rfl ?_
              refine x_P 58 rfl rfl rfl ?_
              refine x_P 59 rfl rfl rfl ?_
              refine x_rm rfl rfl (fun x23 hx23 => ?_)
              refine x_ic_ge rfl rfl (fun h25 => ?_) (fun h25 => ?_)
              · exact x_lv (hex17 s15.1) ⟨rfl, rfl, rfl, rfl, rfl, rfl, trivial⟩
              · refine x_P 64 rfl rfl rfl ?_
                refine x_P 66 rfl rfl rfl ?_
                refine x_callV rfl rfl rfl rfl rfl ⟨rfl, rfl⟩ (fun x h => c_281 h) (S_281 d a0 s15.1 th) (fun x24 hx24 => ?_)
                refine x_P (lv' := [(5, .int x24), (0, .ref a0), (1, .int s1.1), (2, .int s1.2), (3, .int s5.1), (4, .int s5.2), (6, .int s15.2)]) 71 rfl rfl rfl ?_
                refine x_P (lv' := [(6, .int (s15.2 + Int32.ofInt 1)), (5, .int x24), (0, .ref a0), (1, .int s1.1), (2, .int s1.2), (3, .int s5.1), (4, .int s5.2)]) 74 rfl rfl rfl ?_
                refine x_P 55 rfl rfl rfl ?_
                exact x_lv (hnx16 (x24, (s15.2 + Int32.ofInt 1))) ⟨rfl, rfl, rfl, rfl, rfl, rfl, rfl, trivial⟩
            · refine x_P 78 rfl rfl rfl ?_
              refine x_P 79 rfl rfl rfl ?_
              refine x_P 81 rfl rfl rfl ?_
              refine x_callV rfl rfl rfl rfl rfl ⟨rfl, rfl⟩ (fun x h => c_194 h) (S_194 d a0 x18 th) (fun x19 hx19 => ?_)
              refine x_P 85 rfl rfl rfl ?_
              refine x_jn 93 (fun v20 => [(0, .ref a0), (1, .int s1.1), (2, .int s1.2), (4, .int s5.2)]) (fun v20 => [.int v20.1, .int v20.2]) (fun v20 => th) (fun v20 => ?_) (fun j21 hj21 => ?_)
              · refine x_P 94 rfl rfl rfl ?_
                refine x_P (lv' := [(3, .int (v20.2 &&& v20.1)), (0, .ref a0), (1, .int s1.1), (2, .int s1.2), (4, .int s5.2)]) 95 rfl rfl rfl ?_
                refine x_P (lv' := [(4, .int (s5.2 + Int32.ofInt 1)), (3, .int (v20.2 &&& v20.1)), (0, .ref a0), (1, .int s1.1), (2, .int s1.2)]) 98 rfl rfl rfl ?_
                refine x_P 15 rfl rfl rfl ?_
                exact x_lv (hnx6 ((v20.2 &&& v20.1), (s5.2 + Int32.ofInt 1))) ⟨rfl, rfl, rfl, rfl, rfl, trivial⟩
              · refine x_ic_eq rfl rfl (fun h22 => ?_) (fun h22 => ?_)
                · refine x_P 93 rfl rfl rfl ?_
                  exact x_lv (hj21 ((Int32.ofInt 0), s5.1)) ⟨rfl, rfl, rfl, rfl, trivial⟩
                · refine x_P 89 rfl rfl rfl ?_
                  refine x_P 93 rfl rfl rfl ?_
                  exact x_lv (hj21 ((Int32.ofInt 1), s5.1)) ⟨rfl, rfl, rfl, rfl, trivial⟩
          · refine x_ic_ge rfl rfl (fun h31 => ?_) (fun h31 => ?_)
            · refine x_P 40 rfl rfl rfl ?_
              refine x_P 41 rfl rfl rfl ?_
              refine x_gN rfl (fun o26 ho26 => ?_)
              refine x_P 46 rfl rfl rfl ?_
              refine x_aI rfl ⟨rfl, rfl⟩ (fun x27 hx27 => ?_)
              refine x_callV rfl rfl rfl rfl rfl ⟨rfl, rfl⟩ (fun x h => c_282 h) (S_282 d a0 x27 th) (fun x28 hx28 => ?_)
              exact x_lv (hj14 x28) ⟨rfl, rfl, rfl, rfl, rfl, trivial⟩
            · refine x_P 30 rfl rfl rfl ?_
              refine x_gN rfl (fun o29 ho29 => ?_)
              refine x_P 35 rfl rfl rfl ?_
              refine x_aI rfl ⟨rfl, rfl⟩ (fun x30 hx30 => ?_)
              refine x_P 50 rfl rfl rfl ?_
              exact x_lv (hj14 x30) ⟨rfl, rfl, rfl, rfl, rfl, trivial⟩
      · refine x_P 102 rfl rfl rfl ?_
        refine x_P 103 rfl rfl rfl ?_
        refine x_jn 111 (fun v9 => [(0, .ref a0), (2, .int s1.2)]) (fun v9 => [.int v9.1, .int v9.2]) (fun v9 => th) (fun v9 => ?_) (fun j10 hj10 => ?_)
        · refine x_P 112 rfl rfl rfl ?_
          refine x_P (lv' := [(1, .int (v9.2 + v9.1)), (0, .ref a0), (2, .int s1.2)]) 113 rfl rfl rfl ?_
          refine x_P (lv' := [(2, .int (s1.2 + Int32.ofInt 1)), (1, .int (v9.2 + v9.1)), (0, .ref a0)]) 116 rfl rfl rfl ?_
          refine x_P 4 rfl rfl rfl ?_
          exact x_lv (hnx2 ((v9.2 + v9.1), (s1.2 + Int32.ofInt 1))) ⟨rfl, rfl, rfl, trivial⟩
        · refine x_if_eq rfl rfl (fun h11 => ?_) (fun h11 => ?_)
          · refine x_P 111 rfl rfl rfl ?_
            exact x_lv (hj10 ((Int32.ofInt 0), s1.1)) ⟨rfl, rfl, trivial⟩
          · refine x_P 107 rfl rfl rfl ?_
            refine x_P 111 rfl rfl rfl ?_
            exact x_lv (hj10 ((Int32.ofInt 1), s1.1)) ⟨rfl, rfl, trivial⟩
  · refine x_P 120 rfl rfl rfl ?_
    exact x_retI (x := x4) rfl
-- 284 NineTreesModel.middle()I
noncomputable def m_284 (a0 : Nat) (th : tH) : Option (Int32 × tH) :=
  (gC th 8 a0).bind fun _ =>
  (gI th 8 a0 10).bind fun x1 =>
  if x1 = 0 then
    (m_189 a0 (Int8.ofInt (-5)).toInt32 th).bind fun q23 =>
    some (q23.1, q23.2)
  else
    lp (fun (s2 : Int32 × Int32 × Int32) nx3 ex4 =>
        (m_192 a0 th).bind fun x6 =>
        if x6 ≤ s2.2.2 then
          ex4 s2.1
        else
          lp (fun (s7 : Int32 × Int32) nx8 ex9 =>
              (gI th 8 a0 10).bind fun x17 =>
              if x17 ≤ s7.2 then
                ex9 s7.1
              else
                (gN th 8 a0 12).bind fun o18 =>
                (aI th o18 s7.2).bind fun x19 =>
                (m_237 a0 s2.2.2 x19 th).bind fun x20 =>
                nx8 ((s7.1 + x20), (s7.2 + Int32.ofInt 1))
            ) 4096 ((Int32.ofInt 0), (Int32.ofInt 0)) (fun (x10 : Int32) =>
              jn (fun (v11 : Int32 × Int32) =>
                  nx3 (v11.1, v11.2, (s2.2.2 + Int32.ofInt 1))
                ) (fun j12 =>
                  jn (fun (v13 : Unit) =>
                      j12 (s2.2.2, x10)
                    ) (fun j14 =>
                      if s2.1 = (Int32.ofInt (-1)) then
                        j14 ()
                      else
                        if s2.2.1 ≤ x10 then
                          j12 (s2.1, s2.2.1)
                        else
                          j14 ()
                    )
                )
            )
      ) 4096 ((Int32.ofInt (-1)), (Int32.ofInt 0), (Int32.ofInt 0)) (fun (x5 : Int32) =>
        some (x5, th)
      )
theorem c_284 {a0 : Nat} {th : tH} {x : (Int32 × tH)} (h : m_284 a0 th = some x) : ∃ fs, th[a0]? = some (.inr (8, fs)) := gC_of h
theorem S_284 {L : Nat} (d : Nat) (a0 : Nat) (th : tH) : Wx L (fun x => (some (.int x.1), x.2)) (d + 2) 284 6 0 [(0, .ref a0)] [] th (m_284 a0 th) := by
  unfold m_284
  refine x_gC ?_
  refine x_P 1 rfl rfl rfl ?_
  refine x_gI rfl (fun x1 hx1 => ?_)
  refine x_if_ne rfl rfl (fun h24 => ?_) (fun h24 => ?_)
  · refine x_P 8 rfl rfl rfl ?_
    refine x_P 10 rfl rfl rfl ?_
    refine x_callV rfl rfl rfl rfl rfl ⟨rfl, rfl⟩ (fun x h => c_189 h) (S_189 d a0 (Int8.ofInt (-5)).toInt32 th) (fun q23 hq23 => ?_)
    exact x_retI (x := (q23.1, q23.2)) rfl
  · refine x_P 15 rfl rfl rfl ?_
    refine x_P (lv' := [(1, .int (Int32.ofInt (-1))), (0, .ref a0)]) 16 rfl rfl rfl ?_
    refine x_P 17 rfl rfl rfl ?_
    refine x_P (lv' := [(2, .int (Int32.ofInt 0)), (1, .int (Int32.ofInt (-1))), (0, .ref a0)]) 18 rfl rfl rfl ?_
    refine x_P 19 rfl rfl rfl ?_
    refine x_P (lv' := [(3, .int (Int32.ofInt 0)), (2, .int (Int32.ofInt 0)), (1, .int (Int32.ofInt (-1))), (0, .ref a0)]) 20 rfl rfl rfl ?_
    refine x_lv (lv := [(0, .ref a0), (1, .int (Int32.ofInt (-1))), (2, .int (Int32.ofInt 0)), (3, .int (Int32.ofInt 0))]) (x_lp 88 (fun s2 => [(0, .ref a0), (1, .int s2.1), (2, .int s2.2.1), (3, .int s2.2.2)]) (fun s2 => th) (fun x5 => [(1, .int x5)]) (fun x5 => th) (fun s2 nx3 hnx3 ex4 hex4 => ?_) (fun x5 => ?_) 4096 ((Int32.ofInt (-1)), (Int32.ofInt 0), (Int32.ofInt 0))) ⟨rfl, rfl, rfl, rfl, trivial⟩
    · refine x_P 21 rfl rfl rfl ?_
      refine x_P 22 rfl rfl rfl ?_
      refine x_callV rfl rfl rfl rfl rfl ⟨rfl, rfl⟩ (fun x h => c_192 h) (S_192 (d + 1) a0 th) (fun x6 hx6 => ?_)
      refine x_ic_ge rfl rfl (fun h22 => ?_) (fun h22 => ?_)
      · exact x_lv (hex4 s2.1) ⟨rfl, trivial⟩
      · refine x_P 29 rfl rfl rfl ?_
        refine x_P (lv' := [(4, .int (Int32.ofInt 0)), (0, .ref a0), (1, .int s2.1), (2, .int s2.2.1), (3, .int s2.2.2)]) 31 rfl rfl rfl ?_
        refine x_P 32 rfl rfl rfl ?_
        refine x_P (lv' := [(5, .int (Int32.ofInt 0)), (4, .int (Int32.ofInt 0)), (0, .ref a0), (1, .int s2.1), (2, .int s2.2.1), (3, .int s2.2.2)]) 34 rfl rfl rfl ?_
        refine x_lv (lv := [(0, .ref a0), (1, .int s2.1), (2, .int s2.2.1), (3, .int s2.2.2), (4, .int (Int32.ofInt 0)), (5, .int (Int32.ofInt 0))]) (x_lp 66 (fun s7 => [(0, .ref a0), (1, .int s2.1), (2, .int s2.2.1), (3, .int s2.2.2), (4, .int s7.1), (5, .int s7.2)]) (fun s7 => th) (fun x10 => [(0, .ref a0), (1, .int s2.1), (2, .int s2.2.1), (3, .int s2.2.2), (4, .int x10)]) (fun x10 => th) (fun s7 nx8 hnx8 ex9 hex9 => ?_) (fun x10 => ?_) 4096 ((Int32.ofInt 0), (Int32.ofInt 0))) ⟨rfl, rfl, rfl, rfl, rfl, rfl, trivial⟩
        · refine x_P 36 rfl rfl rfl ?_
          refine x_P 37 rfl rfl rfl ?_
          refine x_gI rfl (fun x17 hx17 => ?_)
          refine x_ic_ge rfl rfl (fun h21 => ?_) (fun h21 => ?_)
          · exact x_lv (hex9 s7.1) ⟨rfl, rfl, rfl, rfl, rfl, trivial⟩
          · refine x_P 45 rfl rfl rfl ?_
            refine x_P 46 rfl rfl rfl ?_
            refine x_P 47 rfl rfl rfl ?_
            refine x_P 48 rfl rfl rfl ?_
            refine x_gN rfl (fun o18 ho18 => ?_)
            refine x_P 53 rfl rfl rfl ?_
            refine x_aI rfl ⟨rfl, rfl⟩ (fun x19 hx19 => ?_)
            refine x_callV rfl rfl rfl rfl rfl ⟨rfl, rfl⟩ (fun x h => c_237 h) (S_237 (d + 1) a0 s2.2.2 x19 th) (fun x20 hx20 => ?_)
            refine x_P 58 rfl rfl rfl ?_
            refine x_P (lv' := [(4, .int (s7.1 + x20)), (0, .ref a0), (1, .int s2.1), (2, .int s2.2.1), (3, .int s2.2.2), (5, .int s7.2)]) 60 rfl rfl rfl ?_
            refine x_P (lv' := [(5, .int (s7.2 + Int32.ofInt 1)), (4, .int (s7.1 + x20)), (0, .ref a0), (1, .int s2.1), (2, .int s2.2.1), (3, .int s2.2.2)]) 63 rfl rfl rfl ?_
            refine x_P 34 rfl rfl rfl ?_
            exact x_lv (hnx8 ((s7.1 + x20), (s7.2 + Int32.ofInt 1))) ⟨rfl, rfl, rfl, rfl, rfl, rfl, trivial⟩
        · refine x_P 67 rfl rfl rfl ?_
          refine x_P 68 rfl rfl rfl ?_
          refine x_jn 82 (fun v11 => [(0, .ref a0), (1, .int v11.1), (2, .int v11.2), (3, .int s2.2.2)]) (fun v11 => []) (fun v11 => th) (fun v11 => ?_) (fun j12 hj12 => ?_)
          · refine x_P (lv' := [(3, .int (s2.2.2 + Int32.ofInt 1)), (0, .ref a0), (1, .int v11.1), (2, .int v11.2)]) 85 rfl rfl rfl ?_
            refine x_P 20 rfl rfl rfl ?_
            exact x_lv (hnx3 (v11.1, v11.2, (s2.2.2 + Int32.ofInt 1))) ⟨rfl, rfl, rfl, rfl, trivial⟩
          · refine x_jn 77 (fun v13 => [(0, .ref a0), (3, .int s2.2.2), (4, .int x10)]) (fun v13 => []) (fun v13 => th) (fun v13 => ?_) (fun j14 hj14 => ?_)
            · refine x_P 78 rfl rfl rfl ?_
              refine x_P (lv' := [(1, .int s2.2.2), (0, .ref a0), (3, .int s2.2.2), (4, .int x10)]) 79 rfl rfl rfl ?_
              refine x_P 81 rfl rfl rfl ?_
              refine x_P (lv' := [(2, .int x10), (1, .int s2.2.2), (0, .ref a0), (3, .int s2.2.2), (4, .int x10)]) 82 rfl rfl rfl ?_
              exact x_lv (hj12 (s2.2.2, x10)) ⟨rfl, rfl, rfl, rfl, trivial⟩
            · refine x_ic_eq rfl rfl (fun h16 => ?_) (fun h16 => ?_)
              · exact x_lv (hj14 ()) ⟨rfl, rfl, rfl, trivial⟩
              · refine x_P 73 rfl rfl rfl ?_
                refine x_P 74 rfl rfl rfl ?_
                refine x_ic_ge rfl rfl (fun h15 => ?_) (fun h15 => ?_)
                · exact x_lv (hj12 (s2.1, s2.2.1)) ⟨rfl, rfl, rfl, rfl, trivial⟩
                · exact x_lv (hj14 ()) ⟨rfl, rfl, rfl, trivial⟩
    · refine x_P 89 rfl rfl rfl ?_
      exact x_retI (x := (x5, th)) rfl
-- 285 NineTreesModel.nearest()I
noncomputable def m_285 (a0 : Nat) (th : tH) : Option (Int32 × tH) :=
  (gC th 8 a0).bind fun _ =>
  (gI th 8 a0 10).bind fun x1 =>
  if (Int32.ofInt 2) ≤ x1 then
    lp (fun (s2 : Int32 × Int32) nx3 ex4 =>
        (gI th 8 a0 10).bind fun x6 =>
        if x6 ≤ s2.2 then
          ex4 s2.1
        else
          lp (fun (s7 : Int32 × Int32) nx8 ex9 =>
              (gI th 8 a0 10).bind fun x11 =>
              if x11 ≤ s7.2 then
                ex9 s7.1
              else
                (gN th 8 a0 12).bind fun o12 =>
                (aI th o12 s2.2).bind fun x13 =>
                (gN th 8 a0 12).bind fun o14 =>
                (aI th o14 s7.2).bind fun x15 =>
                (m_237 a0 x13 x15 th).bind fun x16 =>
                (gN th 8 a0 12).bind fun o17 =>
                (dvI s7.1 (Int8.ofInt 100).toInt32).bind fun x18 =>
                (aI th o17 x18).bind fun x19 =>
                (gN th 8 a0 12).bind fun o20 =>
                (rmI s7.1 (Int8.ofInt 100).toInt32).bind fun x21 =>
                (aI th o20 x21).bind fun x22 =>
                (m_237 a0 x19 x22 th).bind fun x23 =>
                jn (fun (v24 : Int32) =>
                    nx8 (v24, (s7.2 + Int32.ofInt 1))
                  ) (fun j25 =>
                    if x23 ≤ x16 then
                      j25 s7.1
                    else
                      j25 (((Int8.ofInt 100).toInt32 * s2.2) + s7.2)
                  )
            ) 4096 (s2.1, (s2.2 + (Int32.ofInt 1))) (fun (x10 : Int32) =>
              nx3 (x10, (s2.2 + Int32.ofInt 1))
            )
      ) 4096 ((Int32.ofInt 1), (Int32.ofInt 0)) (fun (x5 : Int32) =>
        some (x5, th)
      )
  else
    (m_189 a0 (Int8.ofInt (-5)).toInt32 th).bind fun q29 =>
    some (q29.1, q29.2)
theorem c_285 {a0 : Nat} {th : tH} {x : (Int32 × tH)} (h : m_285 a0 th = some x) : ∃ fs, th[a0]? = some (.inr (8, fs)) := gC_of h
theorem S_285 {L : Nat} (d : Nat) (a0 : Nat) (th : tH) : Wx L (fun x => (some (.int x.1), x.2)) (d + 2) 285 4 0 [(0, .ref a0)] [] th (m_285 a0 th) := by
  unfold m_285
  refine x_gC ?_
  refine x_P 1 rfl rfl rfl ?_
  refine x_gI rfl (fun x1 hx1 => ?_)
  refine x_P 5 rfl rfl rfl ?_
  refine x_ic_ge rfl rfl (fun h30 => ?_) (fun h30 => ?_)
  · refine x_P 16 rfl rfl rfl ?_
    refine x_P (lv' := [(1, .int (Int32.ofInt 1)), (0, .ref a0)]) 17 rfl rfl rfl ?_
    refine x_P 18 rfl rfl rfl ?_
    refine x_P (lv' := [(2, .int (Int32.ofInt 0)), (1, .int (Int32.ofInt 1)), (0, .ref a0)]) 19 rfl rfl rfl ?_
    refine x_lv (lv := [(0, .ref a0), (1, .int (Int32.ofInt 1)), (2, .int (Int32.ofInt 0))]) (x_lp 103 (fun s2 => [(0, .ref a0), (1, .int s2.1), (2, .int s2.2)]) (fun s2 => th) (fun x5 => [(1, .int x5)]) (fun x5 => th) (fun s2 nx3 hnx3 ex4 hex4 => ?_) (fun x5 => ?_) 4096 ((Int32.ofInt 1), (Int32.ofInt 0))) ⟨rfl, rfl, rfl, trivial⟩
    · refine x_P 20 rfl rfl rfl ?_
      refine x_P 21 rfl rfl rfl ?_
      refine x_gI rfl (fun x6 hx6 => ?_)
      refine x_ic_ge rfl rfl (fun h28 => ?_) (fun h28 => ?_)
      · exact x_lv (hex4 s2.1) ⟨rfl, trivial⟩
      · refine x_P 28 rfl rfl rfl ?_
        refine x_P 29 rfl rfl rfl ?_
        refine x_P 30 rfl rfl rfl ?_
        refine x_P (lv' := [(3, .int (s2.2 + (Int32.ofInt 1))), (0, .ref a0), (1, .int s2.1), (2, .int s2.2)]) 31 rfl rfl rfl ?_
        refine x_lv (lv := [(0, .ref a0), (1, .int s2.1), (2, .int s2.2), (3, .int (s2.2 + (Int32.ofInt 1)))]) (x_lp 97 (fun s7 => [(0, .ref a0), (1, .int s7.1), (2, .int s2.2), (3, .int s7.2)]) (fun s7 => th) (fun x10 => [(0, .ref a0), (1, .int x10), (2, .int s2.2)]) (fun x10 => th) (fun s7 nx8 hnx8 ex9 hex9 => ?_) (fun x10 => ?_) 4096 (s2.1, (s2.2 + (Int32.ofInt 1)))) ⟨rfl, rfl, rfl, rfl, trivial⟩
        · refine x_P 32 rfl rfl rfl ?_
          refine x_P 33 rfl rfl rfl ?_
          refine x_gI rfl (fun x11 hx11 => ?_)
          refine x_ic_ge rfl rfl (fun h27 => ?_) (fun h27 => ?_)
          · exact x_lv (hex9 s7.1) ⟨rfl, rfl, rfl, trivial⟩
          · refine x_P 40 rfl rfl rfl ?_
            refine x_P 41 rfl rfl rfl ?_
            refine x_gN rfl (fun o12 ho12 => ?_)
            refine x_P 45 rfl rfl rfl ?_
            refine x_aI rfl ⟨rfl, rfl⟩ (fun x13 hx13 => ?_)
            refine x_P 47 rfl rfl rfl ?_
            refine x_gN rfl (fun o14 ho14 => ?_)
            refine x_P 51 rfl rfl rfl ?_
            refine x_aI rfl ⟨rfl, rfl⟩ (fun x15 hx15 => ?_)
            refine x_callV rfl rfl rfl rfl rfl ⟨rfl, rfl⟩ (fun x h => c_237 h) (S_237 (d + 1) a0 x13 x15 th) (fun x16 hx16 => ?_)
            refine x_P 56 rfl rfl rfl ?_
            refine x_P 57 rfl rfl rfl ?_
            refine x_gN rfl (fun o17 ho17 => ?_)
            refine x_P 61 rfl rfl rfl ?_
            refine x_P 63 rfl rfl rfl ?_
            refine x_dv rfl rfl (fun x18 hx18 => ?_)
            refine x_aI rfl ⟨rfl, rfl⟩ (fun x19 hx19 => ?_)
            refine x_P 66 rfl rfl rfl ?_
            refine x_gN rfl (fun o20 ho20 => ?_)
            refine x_P 70 rfl rfl rfl ?_
            refine x_P 72 rfl rfl rfl ?_
            refine x_rm rfl rfl (fun x21 hx21 => ?_)
            refine x_aI rfl ⟨rfl, rfl⟩ (fun x22 hx22 => ?_)
            refine x_callV rfl rfl rfl rfl rfl ⟨rfl, rfl⟩ (fun x h => c_237 h) (S_237 (d + 1) a0 x19 x22 th) (fun x23 hx23 => ?_)
            refine x_jn 90 (fun v24 => [(0, .ref a0), (2, .int s2.2), (3, .int s7.2)]) (fun v24 => [.int v24]) (fun v24 => th) (fun v24 => ?_) (fun j25 hj25 => ?_)
            · refine x_P (lv' := [(1, .int v24), (0, .ref a0), (2, .int s2.2), (3, .int s7.2)]) 91 rfl rfl rfl ?_
              refine x_P (lv' := [(3, .int (s7.2 + Int32.ofInt 1)), (1, .int v24), (0, .ref a0), (2, .int s2.2)]) 94 rfl rfl rfl ?_
              refine x_P 31 rfl rfl rfl ?_
              exact x_lv (hnx8 (v24, (s7.2 + Int32.ofInt 1))) ⟨rfl, rfl, rfl, rfl, trivial⟩
            · refine x_ic_ge rfl rfl (fun h26 => ?_) (fun h26 => ?_)
              · refine x_P 90 rfl rfl rfl ?_
                exact x_lv (hj25 s7.1) ⟨rfl, rfl, rfl, trivial⟩
              · refine x_P 82 rfl rfl rfl ?_
                refine x_P 83 rfl rfl rfl ?_
                refine x_P 84 rfl rfl rfl ?_
                refine x_P 85 rfl rfl rfl ?_
                refine x_P 86 rfl rfl rfl ?_
                refine x_P 90 rfl rfl rfl ?_
                exact x_lv (hj25 (((Int8.ofInt 100).toInt32 * s2.2) + s7.2)) ⟨rfl, rfl, rfl, trivial⟩
        · refine x_P (lv' := [(2, .int (s2.2 + Int32.ofInt 1)), (0, .ref a0), (1, .int x10)]) 100 rfl rfl rfl ?_
          refine x_P 19 rfl rfl rfl ?_
          exact x_lv (hnx3 (x10, (s2.2 + Int32.ofInt 1))) ⟨rfl, rfl, rfl, trivial⟩
    · refine x_P 104 rfl rfl rfl ?_
      exact x_retI (x := (x5, th)) rfl
  · refine x_P 9 rfl rfl rfl ?_
    refine x_P 11 rfl rfl rfl ?_
    refine x_callV rfl rfl rfl rfl rfl ⟨rfl, rfl⟩ (fun x h => c_189 h) (S_189 d a0 (Int8.ofInt (-5)).toInt32 th) (fun q29 hq29 => ?_)
    exact x_retI (x := (q29.1, q29.2)) rfl
-- 286 NineTreesModel.largest()I
noncomputable def m_286 (a0 : Nat) (th : tH) : Option (Int32) :=
  (gC th 8 a0).bind fun _ =>
  lp (fun (s1 : Int32 × Int32) nx2 ex3 =>
      (gI th 8 a0 10).bind fun x5 =>
      if x5 ≤ s1.2 then
        ex3 s1.1
      else
        lp (fun (s6 : Int32 × Int32) nx7 ex8 =>
            if s1.2 ≤ s6.2 then
              ex8 s6.1
            else
              lp (fun (s10 : Int32 × Int32) nx11 ex12 =>
                  if s6.2 ≤ s10.2 then
                    ex12 s10.1
                  else
                    (gN th 8 a0 12).bind fun o14 =>
                    (aI th o14 s1.2).bind fun x15 =>
                    (gN th 8 a0 12).bind fun o16 =>
                    (aI th o16 s6.2).bind fun x17 =>
                    (gN th 8 a0 12).bind fun o18 =>
                    (aI th o18 s10.2).bind fun x19 =>
                    (m_235 a0 x15 x17 x19 th).bind fun x20 =>
                    jn (fun (v21 : Int32) =>
                        jn (fun (v23 : Int32) =>
                            nx11 (v23, (s10.2 + Int32.ofInt 1))
                          ) (fun j24 =>
                            if v21 ≤ s10.1 then
                              j24 s10.1
                            else
                              j24 v21
                          )
                      ) (fun j22 =>
                        if 0 ≤ x20 then
                          j22 x20
                        else
                          j22 (-x20)
                      )
                ) 4096 (s6.1, (Int32.ofInt 0)) (fun (x13 : Int32) =>
                  nx7 (x13, (s6.2 + Int32.ofInt 1))
                )
          ) 4096 (s1.1, (Int32.ofInt 0)) (fun (x9 : Int32) =>
            nx2 (x9, (s1.2 + Int32.ofInt 1))
          )
    ) 4096 ((Int32.ofInt 0), (Int32.ofInt 0)) (fun (x4 : Int32) =>
      some x4
    )
theorem c_286 {a0 : Nat} {th : tH} {x : (Int32)} (h : m_286 a0 th = some x) : ∃ fs, th[a0]? = some (.inr (8, fs)) := gC_of h
theorem S_286 {L : Nat} (d : Nat) (a0 : Nat) (th : tH) : Wx L (fun x => (some (.int x), th)) (d + 1) 286 6 0 [(0, .ref a0)] [] th (m_286 a0 th) := by
  unfold m_286
  refine x_gC ?_
  refine x_P 1 rfl rfl rfl ?_
  refine x_P (lv' := [(1, .int (Int32.ofInt 0)), (0, .ref a0)]) 2 rfl rfl rfl ?_
  refine x_P 3 rfl rfl rfl ?_
  refine x_P (lv' := [(2, .int (Int32.ofInt 0)), (1, .int (Int32.ofInt 0)), (0, .ref a0)]) 4 rfl rfl rfl ?_
  refine x_lv (lv := [(0, .ref a0), (1, .int (Int32.ofInt 0)), (2, .int (Int32.ofInt 0))]) (x_lp 99 (fun s1 => [(0, .ref a0), (1, .int s1.1), (2, .int s1.2)]) (fun s1 => th) (fun x4 => [(1, .int x4)]) (fun x4 => th) (fun s1 nx2 hnx2 ex3 hex3 => ?_) (fun x4 => ?_) 4096 ((Int32.ofInt 0), (Int32.ofInt 0))) ⟨rfl, rfl, rfl, trivial⟩
  · refine x_P 5 rfl rfl rfl ?_
    refine x_P 6 rfl rfl rfl ?_
    refine x_gI rfl (fun x5 hx5 => ?_)
    refine x_ic_ge rfl rfl (fun h29 => ?_) (fun h29 => ?_)
    · exact x_lv (hex3 s1.1) ⟨rfl, trivial⟩
    · refine x_P 13 rfl rfl rfl ?_
      refine x_P (lv' := [(3, .int (Int32.ofInt 0)), (0, .ref a0), (1, .int s1.1), (2, .int s1.2)]) 14 rfl rfl rfl ?_
      refine x_lv (lv := [(0, .ref a0), (1, .int s1.1), (2, .int s1.2), (3, .int (Int32.ofInt 0))]) (x_lp 93 (fun s6 => [(0, .ref a0), (1, .int s6.1), (2, .int s1.2), (3, .int s6.2)]) (fun s6 => th) (fun x9 => [(0, .ref a0), (1, .int x9), (2, .int s1.2)]) (fun x9 => th) (fun s6 nx7 hnx7 ex8 hex8 => ?_) (fun x9 => ?_) 4096 (s1.1, (Int32.ofInt 0))) ⟨rfl, rfl, rfl, rfl, trivial⟩
      · refine x_P 15 rfl rfl rfl ?_
        refine x_P 16 rfl rfl rfl ?_
        refine x_ic_ge rfl rfl (fun h28 => ?_) (fun h28 => ?_)
        · exact x_lv (hex8 s6.1) ⟨rfl, rfl, rfl, trivial⟩
        · refine x_P 20 rfl rfl rfl ?_
          refine x_P (lv' := [(4, .int (Int32.ofInt 0)), (0, .ref a0), (1, .int s6.1), (2, .int s1.2), (3, .int s6.2)]) 22 rfl rfl rfl ?_
          refine x_lv (lv := [(0, .ref a0), (1, .int s6.1), (2, .int s1.2), (3, .int s6.2), (4, .int (Int32.ofInt 0))]) (x_lp 87 (fun s10 => [(0, .ref a0), (1, .int s10.1), (2, .int s1.2), (3, .int s6.2), (4, .int s10.2)]) (fun s10 => th) (fun x13 => [(0, .ref a0), (1, .int x13), (2, .int s1.2), (3, .int s6.2)]) (fun x13 => th) (fun s10 nx11 hnx11 ex12 hex12 => ?_) (fun x13 => ?_) 4096 (s6.1, (Int32.ofInt 0))) ⟨rfl, rfl, rfl, rfl, rfl, trivial⟩
          · refine x_P 24 rfl rfl rfl ?_
            refine x_P 25 rfl rfl rfl ?_
            refine x_ic_ge rfl rfl (fun h27 => ?_) (fun h27 => ?_)
            · exact x_lv (hex12 s10.1) ⟨rfl, rfl, rfl, rfl, trivial⟩
            · refine x_P 29 rfl rfl rfl ?_
              refine x_P 30 rfl rfl rfl ?_
              refine x_gN rfl (fun o14 ho14 => ?_)
              refine x_P 34 rfl rfl rfl ?_
              refine x_aI rfl ⟨rfl, rfl⟩ (fun x15 hx15 => ?_)
              refine x_P 36 rfl rfl rfl ?_
              refine x_gN rfl (fun o16 ho16 => ?_)
              refine x_P 40 rfl rfl rfl ?_
              refine x_aI rfl ⟨rfl, rfl⟩ (fun x17 hx17 => ?_)
              refine x_P 42 rfl rfl rfl ?_
              refine x_gN rfl (fun o18 ho18 => ?_)
              refine x_P 47 rfl rfl rfl ?_
              refine x_aI rfl ⟨rfl, rfl⟩ (fun x19 hx19 => ?_)
              refine x_callV rfl rfl rfl rfl rfl ⟨rfl, rfl⟩ (fun x h => c_235 h) (S_235 d a0 x15 x17 x19 th) (fun x20 hx20 => ?_)
              refine x_P (lv' := [(5, .int x20), (0, .ref a0), (1, .int s10.1), (2, .int s1.2), (3, .int s6.2), (4, .int s10.2)]) 53 rfl rfl rfl ?_
              refine x_P 55 rfl rfl rfl ?_
              refine x_jn 66 (fun v21 => [(0, .ref a0), (1, .int s10.1), (2, .int s1.2), (3, .int s6.2), (4, .int s10.2)]) (fun v21 => [.int v21]) (fun v21 => th) (fun v21 => ?_) (fun j22 hj22 => ?_)
              · refine x_P (lv' := [(5, .int v21), (0, .ref a0), (1, .int s10.1), (2, .int s1.2), (3, .int s6.2), (4, .int s10.2)]) 68 rfl rfl rfl ?_
                refine x_P 70 rfl rfl rfl ?_
                refine x_P 71 rfl rfl rfl ?_
                refine x_jn 80 (fun v23 => [(0, .ref a0), (2, .int s1.2), (3, .int s6.2), (4, .int s10.2)]) (fun v23 => [.int v23]) (fun v23 => th) (fun v23 => ?_) (fun j24 hj24 => ?_)
                · refine x_P (lv' := [(1, .int v23), (0, .ref a0), (2, .int s1.2), (3, .int s6.2), (4, .int s10.2)]) 81 rfl rfl rfl ?_
                  refine x_P (lv' := [(4, .int (s10.2 + Int32.ofInt 1)), (1, .int v23), (0, .ref a0), (2, .int s1.2), (3, .int s6.2)]) 84 rfl rfl rfl ?_
                  refine x_P 22 rfl rfl rfl ?_
                  exact x_lv (hnx11 (v23, (s10.2 + Int32.ofInt 1))) ⟨rfl, rfl, rfl, rfl, rfl, trivial⟩
                · refine x_ic_le rfl rfl (fun h25 => ?_) (fun h25 => ?_)
                  · refine x_P 80 rfl rfl rfl ?_
                    exact x_lv (hj24 s10.1) ⟨rfl, rfl, rfl, rfl, trivial⟩
                  · refine x_P 76 rfl rfl rfl ?_
                    refine x_P 80 rfl rfl rfl ?_
                    exact x_lv (hj24 v21) ⟨rfl, rfl, rfl, rfl, trivial⟩
              · refine x_if_ge rfl rfl (fun h26 => ?_) (fun h26 => ?_)
                · refine x_P 66 rfl rfl rfl ?_
                  exact x_lv (hj22 x20) ⟨rfl, rfl, rfl, rfl, rfl, trivial⟩
                · refine x_P 60 rfl rfl rfl ?_
                  refine x_P 61 rfl rfl rfl ?_
                  refine x_P 66 rfl rfl rfl ?_
                  exact x_lv (hj22 (-x20)) ⟨rfl, rfl, rfl, rfl, rfl, trivial⟩
          · refine x_P (lv' := [(3, .int (s6.2 + Int32.ofInt 1)), (0, .ref a0), (1, .int x13), (2, .int s1.2)]) 90 rfl rfl rfl ?_
            refine x_P 14 rfl rfl rfl ?_
            exact x_lv (hnx7 (x13, (s6.2 + Int32.ofInt 1))) ⟨rfl, rfl, rfl, rfl, trivial⟩
      · refine x_P (lv' := [(2, .int (s1.2 + Int32.ofInt 1)), (0, .ref a0), (1, .int x9)]) 96 rfl rfl rfl ?_
        refine x_P 4 rfl rfl rfl ?_
        exact x_lv (hnx2 (x9, (s1.2 + Int32.ofInt 1))) ⟨rfl, rfl, rfl, trivial⟩
  · refine x_P 100 rfl rfl rfl ?_
    exact x_retI (x := x4) rfl
-- 287 NineTreesModel.at(II)I
noncomputable def m_287 (a0 : Nat) (a1 : Int32) (a2 : Int32) (th : tH) : Option (Int32) :=
  (gC th 8 a0).bind fun _ =>
  (gI th 8 a0 9).bind fun x1 =>
  (m_190 (Int32.toInt64 a1) (Int64.ofNat 0) (Int32.toInt64 (x1 - (Int32.ofInt 1))) th).bind fun x2 =>
  jn (fun (v3 : Int32) =>
      some v3
    ) (fun j4 =>
      jn (fun (v5 : Unit) =>
          j4 (Int32.ofInt (-1))
        ) (fun j6 =>
          if x2 = 0 then
            j6 ()
          else
            (gI th 8 a0 9).bind fun x7 =>
            (m_190 (Int32.toInt64 a2) (Int64.ofNat 0) (Int32.toInt64 (x7 - (Int32.ofInt 1))) th).bind fun x8 =>
            if x8 = 0 then
              j6 ()
            else
              (gI th 8 a0 9).bind fun x9 =>
              (m_194 a0 ((a1 * x9) + a2) th).bind fun x10 =>
              j4 x10
        )
    )
theorem c_287 {a0 : Nat} {a1 : Int32} {a2 : Int32} {th : tH} {x : (Int32)} (h : m_287 a0 a1 a2 th = some x) : ∃ fs, th[a0]? = some (.inr (8, fs)) := gC_of h
theorem S_287 {L : Nat} (d : Nat) (a0 : Nat) (a1 : Int32) (a2 : Int32) (th : tH) : Wx L (fun x => (some (.int x), th)) (d + 1) 287 3 0 [(0, .ref a0), (1, .int a1), (2, .int a2)] [] th (m_287 a0 a1 a2 th) := by
  unfold m_287
  refine x_gC ?_
  refine x_P 1 rfl rfl rfl ?_
  refine x_P 2 rfl rfl rfl ?_
  refine x_P 3 rfl rfl rfl ?_
  refine x_P 4 rfl rfl rfl ?_
  refine x_gI rfl (fun x1 hx1 => ?_)
  refine x_P 8 rfl rfl rfl ?_
  refine x_P 9 rfl rfl rfl ?_
  refine x_P 10 rfl rfl rfl ?_
  refine x_callS rfl rfl rfl rfl rfl rfl ⟨rfl, rfl⟩ (S_190 d (Int32.toInt64 a1) (Int64.ofNat 0) (Int32.toInt64 (x1 - (Int32.ofInt 1))) th) (fun x2 hx2 => ?_)
  refine x_jn 48 (fun v3 => []) (fun v3 => [.int v3]) (fun v3 => th) (fun v3 => ?_) (fun j4 hj4 => ?_)
  · exact x_retI (x := v3) rfl
  · refine x_jn 47 (fun v5 => []) (fun v5 => []) (fun v5 => th) (fun v5 => ?_) (fun j6 hj6 => ?_)
    · refine x_P 48 rfl rfl rfl ?_
      exact x_lv (hj4 (Int32.ofInt (-1))) trivial
    · refine x_if_eq rfl rfl (fun h12 => ?_) (fun h12 => ?_)
      · exact x_lv (hj6 ()) trivial
      · refine x_P 17 rfl rfl rfl ?_
        refine x_P 18 rfl rfl rfl ?_
        refine x_P 19 rfl rfl rfl ?_
        refine x_P 20 rfl rfl rfl ?_
        refine x_gI rfl (fun x7 hx7 => ?_)
        refine x_P 24 rfl rfl rfl ?_
        refine x_P 25 rfl rfl rfl ?_
        refine x_P 26 rfl rfl rfl ?_
        refine x_callS rfl rfl rfl rfl rfl rfl ⟨rfl, rfl⟩ (S_190 d (Int32.toInt64 a2) (Int64.ofNat 0) (Int32.toInt64 (x7 - (Int32.ofInt 1))) th) (fun x8 hx8 => ?_)
        refine x_if_eq rfl rfl (fun h11 => ?_) (fun h11 => ?_)
        · exact x_lv (hj6 ()) trivial
        · refine x_P 33 rfl rfl rfl ?_
          refine x_P 34 rfl rfl rfl ?_
          refine x_P 35 rfl rfl rfl ?_
          refine x_gI rfl (fun x9 hx9 => ?_)
          refine x_P 39 rfl rfl rfl ?_
          refine x_P 40 rfl rfl rfl ?_
          refine x_P 41 rfl rfl rfl ?_
          refine x_callV rfl rfl rfl rfl rfl ⟨rfl, rfl⟩ (fun x h => c_194 h) (S_194 d a0 ((a1 * x9) + a2) th) (fun x10 hx10 => ?_)
          refine x_P 48 rfl rfl rfl ?_
          exact x_lv (hj4 x10) trivial
-- 288 NineTreesModel.squares()I
noncomputable def m_288 (a0 : Nat) (th : tH) : Option (Int32) :=
  (gC th 8 a0).bind fun _ =>
  lp (fun (s1 : Int32 × Int32) nx2 ex3 =>
      (gI th 8 a0 10).bind fun x6 =>
      if x6 ≤ s1.2 then
        ex3 s1.1
      else
        lp (fun (s7 : Int32 × Int32) nx8 ex9 =>
            (gI th 8 a0 10).bind fun x11 =>
            if x11 ≤ s7.2 then
              ex9 s7.1
            else
              jn (fun (v12 : Int32) =>
                  nx8 (v12, (s7.2 + Int32.ofInt 1))
                ) (fun j13 =>
                  if s1.2 = s7.2 then
                    j13 s7.1
                  else
                    (gN th 8 a0 12).bind fun o14 =>
                    (aI th o14 s7.2).bind fun x15 =>
                    (gI th 8 a0 9).bind fun x16 =>
                    (dvI x15 x16).bind fun x17 =>
                    (gN th 8 a0 12).bind fun o18 =>
                    (aI th o18 s1.2).bind fun x19 =>
                    (gI th 8 a0 9).bind fun x20 =>
                    (dvI x19 x20).bind fun x21 =>
                    (gN th 8 a0 12).bind fun o22 =>
                    (aI th o22 s7.2).bind fun x23 =>
                    (gI th 8 a0 9).bind fun x24 =>
                    (rmI x23 x24).bind fun x25 =>
                    (gN th 8 a0 12).bind fun o26 =>
                    (aI th o26 s1.2).bind fun x27 =>
                    (gI th 8 a0 9).bind fun x28 =>
                    (rmI x27 x28).bind fun x29 =>
                    (gN th 8 a0 12).bind fun o30 =>
                    (aI th o30 s7.2).bind fun x31 =>
                    (gI th 8 a0 9).bind fun x32 =>
                    (dvI x31 x32).bind fun x33 =>
                    (gN th 8 a0 12).bind fun o34 =>
                    (aI th o34 s7.2).bind fun x35 =>
                    (gI th 8 a0 9).bind fun x36 =>
                    (rmI x35 x36).bind fun x37 =>
                    (m_287 a0 (x33 + (x25 - x29)) (x37 - (x17 - x21)) th).bind fun x38 =>
                    jn (fun (v39 : Int32) =>
                        jn (fun (v41 : Int32 × Int32) =>
                            j13 (v41.2 + v41.1)
                          ) (fun j42 =>
                            jn (fun (v43 : Int32) =>
                                j42 ((Int32.ofInt 0), v43)
                              ) (fun j44 =>
                                if v39 = 0 then
                                  j44 s7.1
                                else
                                  (gN th 8 a0 12).bind fun o45 =>
                                  (aI th o45 s1.2).bind fun x46 =>
                                  (gI th 8 a0 9).bind fun x47 =>
                                  (dvI x46 x47).bind fun x48 =>
                                  (gN th 8 a0 12).bind fun o49 =>
                                  (aI th o49 s1.2).bind fun x50 =>
                                  (gI th 8 a0 9).bind fun x51 =>
                                  (rmI x50 x51).bind fun x52 =>
                                  (m_287 a0 (x48 + (x25 - x29)) (x52 - (x17 - x21)) th).bind fun x53 =>
                                  if x53 = (Int32.ofInt (-1)) then
                                    j44 s7.1
                                  else
                                    j42 ((Int32.ofInt 1), s7.1)
                              )
                          )
                      ) (fun j40 =>
                        if x38 = (Int32.ofInt (-1)) then
                          j40 (Int32.ofInt 0)
                        else
                          j40 (Int32.ofInt 1)
                      )
                )
          ) 4096 (s1.1, (Int32.ofInt 0)) (fun (x10 : Int32) =>
            nx2 (x10, (s1.2 + Int32.ofInt 1))
          )
    ) 4096 ((Int32.ofInt 0), (Int32.ofInt 0)) (fun (x4 : Int32) =>
      (dvI x4 (Int32.ofInt 4)).bind fun x5 =>
      some x5
    )
theorem c_288 {a0 : Nat} {th : tH} {x : (Int32)} (h : m_288 a0 th = some x) : ∃ fs, th[a0]? = some (.inr (8, fs)) := gC_of h
theorem S_288 {L : Nat} (d : Nat) (a0 : Nat) (th : tH) : Wx L (fun x => (some (.int x), th)) (d + 2) 288 7 0 [(0, .ref a0)] [] th (m_288 a0 th) := by
  unfold m_288
  refine x_gC ?_
  refine x_P 1 rfl rfl rfl ?_
  refine x_P (lv' := [(1, .int (Int32.ofInt 0)), (0, .ref a0)]) 2 rfl rfl rfl ?_
  refine x_P 3 rfl rfl rfl ?_
  refine x_P (lv' := [(2, .int (Int32.ofInt 0)), (1, .int (Int32.ofInt 0)), (0, .ref a0)]) 4 rfl rfl rfl ?_
  refine x_lv (lv := [(0, .ref a0), (1, .int (Int32.ofInt 0)), (2, .int (Int32.ofInt 0))]) (x_lp 181 (fun s1 => [(0, .ref a0), (1, .int s1.1), (2, .int s1.2)]) (fun s1 => th) (fun x4 => [(1, .int x4)]) (fun x4 => th) (fun s1 nx2 hnx2 ex3 hex3 => ?_) (fun x4 => ?_) 4096 ((Int32.ofInt 0), (Int32.ofInt 0))) ⟨rfl, rfl, rfl, trivial⟩
  · refine x_P 5 rfl rfl rfl ?_
    refine x_P 6 rfl rfl rfl ?_
    refine x_gI rfl (fun x6 hx6 => ?_)
    refine x_ic_ge rfl rfl (fun h59 => ?_) (fun h59 => ?_)
    · exact x_lv (hex3 s1.1) ⟨rfl, trivial⟩
    · refine x_P 13 rfl rfl rfl ?_
      refine x_P (lv' := [(3, .int (Int32.ofInt 0)), (0, .ref a0), (1, .int s1.1), (2, .int s1.2)]) 14 rfl rfl rfl ?_
      refine x_lv (lv := [(0, .ref a0), (1, .int s1.1), (2, .int s1.2), (3, .int (Int32.ofInt 0))]) (x_lp 175 (fun s7 => [(0, .ref a0), (1, .int s7.1), (2, .int s1.2), (3, .int s7.2)]) (fun s7 => th) (fun x10 => [(0, .ref a0), (1, .int x10), (2, .int s1.2)]) (fun x10 => th) (fun s7 nx8 hnx8 ex9 hex9 => ?_) (fun x10 => ?_) 4096 (s1.1, (Int32.ofInt 0))) ⟨rfl, rfl, rfl, rfl, trivial⟩
      · refine x_P 15 rfl rfl rfl ?_
        refine x_P 16 rfl rfl rfl ?_
        refine x_gI rfl (fun x11 hx11 => ?_)
        refine x_ic_ge rfl rfl (fun h58 => ?_) (fun h58 => ?_)
        · exact x_lv (hex9 s7.1) ⟨rfl, rfl, rfl, trivial⟩
        · refine x_P 23 rfl rfl rfl ?_
          refine x_P 24 rfl rfl rfl ?_
          refine x_jn 169 (fun v12 => [(0, .ref a0), (1, .int v12), (2, .int s1.2), (3, .int s7.2)]) (fun v12 => []) (fun v12 => th) (fun v12 => ?_) (fun j13 hj13 => ?_)
          · refine x_P (lv' := [(3, .int (s7.2 + Int32.ofInt 1)), (0, .ref a0), (1, .int v12), (2, .int s1.2)]) 172 rfl rfl rfl ?_
            refine x_P 14 rfl rfl rfl ?_
            exact x_lv (hnx8 (v12, (s7.2 + Int32.ofInt 1))) ⟨rfl, rfl, rfl, rfl, trivial⟩
          · refine x_ic_eq rfl rfl (fun h57 => ?_) (fun h57 => ?_)
            · exact x_lv (hj13 s7.1) ⟨rfl, rfl, rfl, rfl, trivial⟩
            · refine x_P 28 rfl rfl rfl ?_
              refine x_gN rfl (fun o14 ho14 => ?_)
              refine x_P 32 rfl rfl rfl ?_
              refine x_aI rfl ⟨rfl, rfl⟩ (fun x15 hx15 => ?_)
              refine x_P 34 rfl rfl rfl ?_
              refine x_gI rfl (fun x16 hx16 => ?_)
              refine x_dv rfl rfl (fun x17 hx17 => ?_)
              refine x_P 39 rfl rfl rfl ?_
              refine x_gN rfl (fun o18 ho18 => ?_)
              refine x_P 43 rfl rfl rfl ?_
              refine x_aI rfl ⟨rfl, rfl⟩ (fun x19 hx19 => ?_)
              refine x_P 45 rfl rfl rfl ?_
              refine x_gI rfl (fun x20 hx20 => ?_)
              refine x_dv rfl rfl (fun x21 hx21 => ?_)
              refine x_P 50 rfl rfl rfl ?_
              refine x_P (lv' := [(4, .int (x17 - x21)), (0, .ref a0), (1, .int s7.1), (2, .int s1.2), (3, .int s7.2)]) 52 rfl rfl rfl ?_
              refine x_P 53 rfl rfl rfl ?_
              refine x_gN rfl (fun o22 ho22 => ?_)
              refine x_P 57 rfl rfl rfl ?_
              refine x_aI rfl ⟨rfl, rfl⟩ (fun x23 hx23 => ?_)
              refine x_P 59 rfl rfl rfl ?_
              refine x_gI rfl (fun x24 hx24 => ?_)
              refine x_rm rfl rfl (fun x25 hx25 => ?_)
              refine x_P 64 rfl rfl rfl ?_
              refine x_gN rfl (fun o26 ho26 => ?_)
              refine x_P 68 rfl rfl rfl ?_
              refine x_aI rfl ⟨rfl, rfl⟩ (fun x27 hx27 => ?_)
              refine x_P 70 rfl rfl rfl ?_
              refine x_gI rfl (fun x28 hx28 => ?_)
              refine x_rm rfl rfl (fun x29 hx29 => ?_)
              refine x_P 75 rfl rfl rfl ?_
              refine x_P (lv' := [(5, .int (x25 - x29)), (4, .int (x17 - x21)), (0, .ref a0), (1, .int s7.1), (2, .int s1.2), (3, .int s7.2)]) 77 rfl rfl rfl ?_
              refine x_P 78 rfl rfl rfl ?_
              refine x_P 79 rfl rfl rfl ?_
              refine x_gN rfl (fun o30 ho30 => ?_)
              refine x_P 83 rfl rfl rfl ?_
              refine x_aI rfl ⟨rfl, rfl⟩ (fun x31 hx31 => ?_)
              refine x_P 85 rfl rfl rfl ?_
              refine x_gI rfl (fun x32 hx32 => ?_)
              refine x_dv rfl rfl (fun x33 hx33 => ?_)
              refine x_P 91 rfl rfl rfl ?_
              refine x_P 92 rfl rfl rfl ?_
              refine x_P 93 rfl rfl rfl ?_
              refine x_gN rfl (fun o34 ho34 => ?_)
              refine x_P 97 rfl rfl rfl ?_
              refine x_aI rfl ⟨rfl, rfl⟩ (fun x35 hx35 => ?_)
              refine x_P 99 rfl rfl rfl ?_
              refine x_gI rfl (fun x36 hx36 => ?_)
              refine x_rm rfl rfl (fun x37 hx37 => ?_)
              refine x_P 105 rfl rfl rfl ?_
              refine x_P 106 rfl rfl rfl ?_
              refine x_callV rfl rfl rfl rfl rfl ⟨rfl, rfl⟩ (fun x h => c_287 h) (S_287 d a0 (x33 + (x25 - x29)) (x37 - (x17 - x21)) th) (fun x38 hx38 => ?_)
              refine x_P 110 rfl rfl rfl ?_
              refine x_jn 118 (fun v39 => [(0, .ref a0), (1, .int s7.1), (2, .int s1.2), (3, .int s7.2), (4, .int (x17 - x21)), (5, .int (x25 - x29))]) (fun v39 => [.int v39]) (fun v39 => th) (fun v39 => ?_) (fun j40 hj40 => ?_)
              · refine x_P (lv' := [(6, .int v39), (0, .ref a0), (1, .int s7.1), (2, .int s1.2), (3, .int s7.2), (4, .int (x17 - x21)), (5, .int (x25 - x29))]) 120 rfl rfl rfl ?_
                refine x_P 121 rfl rfl rfl ?_
                refine x_P 123 rfl rfl rfl ?_
                refine x_jn 167 (fun v41 => [(0, .ref a0), (2, .int s1.2), (3, .int s7.2)]) (fun v41 => [.int v41.1, .int v41.2]) (fun v41 => th) (fun v41 => ?_) (fun j42 hj42 => ?_)
                · refine x_P 168 rfl rfl rfl ?_
                  refine x_P (lv' := [(1, .int (v41.2 + v41.1)), (0, .ref a0), (2, .int s1.2), (3, .int s7.2)]) 169 rfl rfl rfl ?_
                  exact x_lv (hj13 (v41.2 + v41.1)) ⟨rfl, rfl, rfl, rfl, trivial⟩
                · refine x_jn 166 (fun v43 => [(0, .ref a0), (2, .int s1.2), (3, .int s7.2)]) (fun v43 => [.int v43]) (fun v43 => th) (fun v43 => ?_) (fun j44 hj44 => ?_)
                  · refine x_P 167 rfl rfl rfl ?_
                    exact x_lv (hj42 ((Int32.ofInt 0), v43)) ⟨rfl, rfl, rfl, trivial⟩
                  · refine x_if_eq rfl rfl (fun h55 => ?_) (fun h55 => ?_)
                    · exact x_lv (hj44 s7.1) ⟨rfl, rfl, rfl, trivial⟩
                    · refine x_P 127 rfl rfl rfl ?_
                      refine x_P 128 rfl rfl rfl ?_
                      refine x_gN rfl (fun o45 ho45 => ?_)
                      refine x_P 132 rfl rfl rfl ?_
                      refine x_aI rfl ⟨rfl, rfl⟩ (fun x46 hx46 => ?_)
                      refine x_P 134 rfl rfl rfl ?_
                      refine x_gI rfl (fun x47 hx47 => ?_)
                      refine x_dv rfl rfl (fun x48 hx48 => ?_)
                      refine x_P 140 rfl rfl rfl ?_
                      refine x_P 141 rfl rfl rfl ?_
                      refine x_P 142 rfl rfl rfl ?_
                      refine x_gN rfl (fun o49 ho49 => ?_)
                      refine x_P 146 rfl rfl rfl ?_
                      refine x_aI rfl ⟨rfl, rfl⟩ (fun x50 hx50 => ?_)
                      refine x_P 148 rfl rfl rfl ?_
                      refine x_gI rfl (fun x51 hx51 => ?_)
                      refine x_rm rfl rfl (fun x52 hx52 => ?_)
                      refine x_P 154 rfl rfl rfl ?_
                      refine x_P 155 rfl rfl rfl ?_
                      refine x_callV rfl rfl rfl rfl rfl ⟨rfl, rfl⟩ (fun x h => c_287 h) (S_287 d a0 (x48 + (x25 - x29)) (x52 - (x17 - x21)) th) (fun x53 hx53 => ?_)
                      refine x_P 159 rfl rfl rfl ?_
                      refine x_ic_eq rfl rfl (fun h54 => ?_) (fun h54 => ?_)
                      · exact x_lv (hj44 s7.1) ⟨rfl, rfl, rfl, trivial⟩
                      · refine x_P 163 rfl rfl rfl ?_
                        refine x_P 167 rfl rfl rfl ?_
                        exact x_lv (hj42 ((Int32.ofInt 1), s7.1)) ⟨rfl, rfl, rfl, trivial⟩
              · refine x_ic_eq rfl rfl (fun h56 => ?_) (fun h56 => ?_)
                · refine x_P 118 rfl rfl rfl ?_
                  exact x_lv (hj40 (Int32.ofInt 0)) ⟨rfl, rfl, rfl, rfl, rfl, rfl, trivial⟩
                · refine x_P 114 rfl rfl rfl ?_
                  refine x_P 118 rfl rfl rfl ?_
                  exact x_lv (hj40 (Int32.ofInt 1)) ⟨rfl, rfl, rfl, rfl, rfl, rfl, trivial⟩
      · refine x_P (lv' := [(2, .int (s1.2 + Int32.ofInt 1)), (0, .ref a0), (1, .int x10)]) 178 rfl rfl rfl ?_
        refine x_P 4 rfl rfl rfl ?_
        exact x_lv (hnx2 (x10, (s1.2 + Int32.ofInt 1))) ⟨rfl, rfl, rfl, trivial⟩
  · refine x_P 182 rfl rfl rfl ?_
    refine x_P 183 rfl rfl rfl ?_
    refine x_dv rfl rfl (fun x5 hx5 => ?_)
    exact x_retI (x := x5) rfl
-- 289 NineTreesModel.isIn(IIII)Z
noncomputable def m_289 (a0 : Nat) (a1 : Int32) (a2 : Int32) (a3 : Int32) (a4 : Int32) (th : tH) : Option (Int32) :=
  (gC th 8 a0).bind fun _ =>
  (m_235 a0 a1 a2 a4 th).bind fun x1 =>
  (m_235 a0 a2 a3 a4 th).bind fun x2 =>
  (m_235 a0 a3 a1 a4 th).bind fun x3 =>
  jn (fun (v4 : Int32) =>
      jn (fun (v6 : Int32) =>
          rB v6
        ) (fun j7 =>
          jn (fun (v8 : Unit) =>
              j7 (Int32.ofInt 1)
            ) (fun j9 =>
              if v4 = 0 then
                jn (fun (v10 : Unit) =>
                    j7 (Int32.ofInt 0)
                  ) (fun j11 =>
                    if 0 < x1 then
                      j11 ()
                    else
                      if 0 < x2 then
                        j11 ()
                      else
                        if 0 < x3 then
                          j11 ()
                        else
                          j9 ()
                  )
              else
                j9 ()
            )
        )
    ) (fun j5 =>
      jn (fun (v16 : Unit) =>
          j5 (Int32.ofInt 0)
        ) (fun j17 =>
          if x1 < 0 then
            j17 ()
          else
            if x2 < 0 then
              j17 ()
            else
              if x3 < 0 then
                j17 ()
              else
                j5 (Int32.ofInt 1)
        )
    )
theorem c_289 {a0 : Nat} {a1 : Int32} {a2 : Int32} {a3 : Int32} {a4 : Int32} {th : tH} {x : (Int32)} (h : m_289 a0 a1 a2 a3 a4 th = some x) : ∃ fs, th[a0]? = some (.inr (8, fs)) := gC_of h
theorem S_289 {L : Nat} (d : Nat) (a0 : Nat) (a1 : Int32) (a2 : Int32) (a3 : Int32) (a4 : Int32) (th : tH) : Wx L (fun x => (some (.int x), th)) (d + 1) 289 9 0 [(0, .ref a0), (1, .int a1), (2, .int a2), (3, .int a3), (4, .int a4)] [] th (m_289 a0 a1 a2 a3 a4 th) := by
  unfold m_289
  refine x_gC ?_
  refine x_P 1 rfl rfl rfl ?_
  refine x_P 2 rfl rfl rfl ?_
  refine x_P 3 rfl rfl rfl ?_
  refine x_P 5 rfl rfl rfl ?_
  refine x_callV rfl rfl rfl rfl rfl ⟨rfl, rfl⟩ (fun x h => c_235 h) (S_235 d a0 a1 a2 a4 th) (fun x1 hx1 => ?_)
  refine x_P (lv' := [(5, .int x1), (0, .ref a0), (1, .int a1), (2, .int a2), (3, .int a3), (4, .int a4)]) 10 rfl rfl rfl ?_
  refine x_P 11 rfl rfl rfl ?_
  refine x_P 12 rfl rfl rfl ?_
  refine x_P 13 rfl rfl rfl ?_
  refine x_P 15 rfl rfl rfl ?_
  refine x_callV rfl rfl rfl rfl rfl ⟨rfl, rfl⟩ (fun x h => c_235 h) (S_235 d a0 a2 a3 a4 th) (fun x2 hx2 => ?_)
  refine x_P (lv' := [(6, .int x2), (5, .int x1), (0, .ref a0), (1, .int a1), (2, .int a2), (3, .int a3), (4, .int a4)]) 20 rfl rfl rfl ?_
  refine x_P 21 rfl rfl rfl ?_
  refine x_P 22 rfl rfl rfl ?_
  refine x_P 23 rfl rfl rfl ?_
  refine x_P 25 rfl rfl rfl ?_
  refine x_callV rfl rfl rfl rfl rfl ⟨rfl, rfl⟩ (fun x h => c_235 h) (S_235 d a0 a3 a1 a4 th) (fun x3 hx3 => ?_)
  refine x_P (lv' := [(7, .int x3), (6, .int x2), (5, .int x1), (0, .ref a0), (1, .int a1), (2, .int a2), (3, .int a3), (4, .int a4)]) 30 rfl rfl rfl ?_
  refine x_P 32 rfl rfl rfl ?_
  refine x_jn 50 (fun v4 => [(5, .int x1), (6, .int x2), (7, .int x3)]) (fun v4 => [.int v4]) (fun v4 => th) (fun v4 => ?_) (fun j5 hj5 => ?_)
  · refine x_P (lv' := [(8, .int v4), (5, .int x1), (6, .int x2), (7, .int x3)]) 52 rfl rfl rfl ?_
    refine x_P 54 rfl rfl rfl ?_
    refine x_jn 77 (fun v6 => []) (fun v6 => [.int v6]) (fun v6 => th) (fun v6 => ?_) (fun j7 hj7 => ?_)
    · exact x_rB rfl
    · refine x_jn 72 (fun v8 => []) (fun v8 => []) (fun v8 => th) (fun v8 => ?_) (fun j9 hj9 => ?_)
      · refine x_P 73 rfl rfl rfl ?_
        refine x_P 77 rfl rfl rfl ?_
        exact x_lv (hj7 (Int32.ofInt 1)) trivial
      · refine x_if_ne rfl rfl (fun h15 => ?_) (fun h15 => ?_)
        · refine x_P 59 rfl rfl rfl ?_
          refine x_jn 76 (fun v10 => []) (fun v10 => []) (fun v10 => th) (fun v10 => ?_) (fun j11 hj11 => ?_)
          · refine x_P 77 rfl rfl rfl ?_
            exact x_lv (hj7 (Int32.ofInt 0)) trivial
          · refine x_if_gt rfl rfl (fun h14 => ?_) (fun h14 => ?_)
            · exact x_lv (hj11 ()) trivial
            · refine x_P 64 rfl rfl rfl ?_
              refine x_if_gt rfl rfl (fun h13 => ?_) (fun h13 => ?_)
              · exact x_lv (hj11 ()) trivial
              · refine x_P 69 rfl rfl rfl ?_
                refine x_if_gt rfl rfl (fun h12 => ?_) (fun h12 => ?_)
                · exact x_lv (hj11 ()) trivial
                · exact x_lv (hj9 ()) trivial
        · exact x_lv (hj9 ()) trivial
  · refine x_jn 49 (fun v16 => [(5, .int x1), (6, .int x2), (7, .int x3)]) (fun v16 => []) (fun v16 => th) (fun v16 => ?_) (fun j17 hj17 => ?_)
    · refine x_P 50 rfl rfl rfl ?_
      exact x_lv (hj5 (Int32.ofInt 0)) ⟨rfl, rfl, rfl, trivial⟩
    · refine x_if_lt rfl rfl (fun h20 => ?_) (fun h20 => ?_)
      · exact x_lv (hj17 ()) ⟨rfl, rfl, rfl, trivial⟩
      · refine x_P 37 rfl rfl rfl ?_
        refine x_if_lt rfl rfl (fun h19 => ?_) (fun h19 => ?_)
        · exact x_lv (hj17 ()) ⟨rfl, rfl, rfl, trivial⟩
        · refine x_P 42 rfl rfl rfl ?_
          refine x_if_lt rfl rfl (fun h18 => ?_) (fun h18 => ?_)
          · exact x_lv (hj17 ()) ⟨rfl, rfl, rfl, trivial⟩
          · refine x_P 46 rfl rfl rfl ?_
            refine x_P 50 rfl rfl rfl ?_
            exact x_lv (hj5 (Int32.ofInt 1)) ⟨rfl, rfl, rfl, trivial⟩
end
section
/-! ===== programs ===== -/
-- 290 NineTreesModel.isCorner(I)Z
noncomputable def m_290 (a0 : Nat) (a1 : Int32) (th : tH) : Option (Int32) :=
  (gC th 8 a0).bind fun _ =>
  lp (fun (s1 : Int32) nx2 ex3 =>
      (gI th 8 a0 10).bind fun x5 =>
      if x5 ≤ s1 then
        ex3 ()
      else
        lp (fun (s6 : Int32) nx7 ex8 =>
            if s1 ≤ s6 then
              ex8 ()
            else
              jn (fun (v10 : Unit) =>
                  nx7 (s6 + Int32.ofInt 1)
                ) (fun j11 =>
                  if s1 = a1 then
                    j11 ()
                  else
                    if s6 = a1 then
                      j11 ()
                    else
                      (gN th 8 a0 12).bind fun o12 =>
                      (aI th o12 s1).bind fun x13 =>
                      (gN th 8 a0 12).bind fun o14 =>
                      (aI th o14 s6).bind fun x15 =>
                      (m_238 a0 x13 x15 th).bind fun x16 =>
                      (gN th 8 a0 12).bind fun o17 =>
                      (aI th o17 s1).bind fun x18 =>
                      (gN th 8 a0 12).bind fun o19 =>
                      (aI th o19 s6).bind fun x20 =>
                      (gN th 8 a0 12).bind fun o21 =>
                      (aI th o21 a1).bind fun x22 =>
                      (m_236 a0 x18 x20 x22 th).bind fun x23 =>
                      jn (fun (v24 : Unit) =>
                          lp (fun (s26 : Int32) nx27 ex28 =>
                              if s6 ≤ s26 then
                                ex28 ()
                              else
                                jn (fun (v30 : Int32) =>
                                    jn (fun (v32 : Unit) =>
                                        nx27 (s26 + Int32.ofInt 1)
                                      ) (fun j33 =>
                                        if v30 = 0 then
                                          j33 ()
                                        else
                                          (gN th 8 a0 12).bind fun o34 =>
                                          (aI th o34 s1).bind fun x35 =>
                                          (gN th 8 a0 12).bind fun o36 =>
                                          (aI th o36 s6).bind fun x37 =>
                                          (gN th 8 a0 12).bind fun o38 =>
                                          (aI th o38 s26).bind fun x39 =>
                                          (gN th 8 a0 12).bind fun o40 =>
                                          (aI th o40 a1).bind fun x41 =>
                                          (m_289 a0 x35 x37 x39 x41 th).bind fun x42 =>
                                          if x42 = 0 then
                                            j33 ()
                                          else
                                            rB (Int32.ofInt 0)
                                      )
                                  ) (fun j31 =>
                                    jn (fun (v45 : Unit) =>
                                        j31 (Int32.ofInt 0)
                                      ) (fun j46 =>
                                        if s26 = a1 then
                                          j46 ()
                                        else
                                          (gN th 8 a0 12).bind fun o47 =>
                                          (aI th o47 s1).bind fun x48 =>
                                          (gN th 8 a0 12).bind fun o49 =>
                                          (aI th o49 s6).bind fun x50 =>
                                          (gN th 8 a0 12).bind fun o51 =>
                                          (aI th o51 s26).bind fun x52 =>
                                          (m_236 a0 x48 x50 x52 th).bind fun x53 =>
                                          if x53 = 0 then
                                            j31 (Int32.ofInt 1)
                                          else
                                            j46 ()
                                      )
                                  )
                            ) 4096 (Int32.ofInt 0) (fun (x29 : Unit) =>
                              j11 ()
                            )
                        ) (fun j25 =>
                          if x23 = 0 then
                            j25 ()
                          else
                            (gN th 8 a0 12).bind fun o57 =>
                            (aI th o57 s1).bind fun x58 =>
                            (gN th 8 a0 12).bind fun o59 =>
                            (aI th o59 a1).bind fun x60 =>
                            (m_238 a0 x58 x60 th).bind fun x61 =>
                            if x16 ≤ x61 then
                              j25 ()
                            else
                              (gN th 8 a0 12).bind fun o62 =>
                              (aI th o62 s6).bind fun x63 =>
                              (gN th 8 a0 12).bind fun o64 =>
                              (aI th o64 a1).bind fun x65 =>
                              (m_238 a0 x63 x65 th).bind fun x66 =>
                              if x16 ≤ x66 then
                                j25 ()
                              else
                                rB (Int32.ofInt 0)
                        )
                )
          ) 4096 (Int32.ofInt 0) (fun (x9 : Unit) =>
            nx2 (s1 + Int32.ofInt 1)
          )
    ) 4096 (Int32.ofInt 0) (fun (x4 : Unit) =>
      rB (Int32.ofInt 1)
    )
theorem c_290 {a0 : Nat} {a1 : Int32} {th : tH} {x : (Int32)} (h : m_290 a0 a1 th = some x) : ∃ fs, th[a0]? = some (.inr (8, fs)) := gC_of h
theorem S_290 {L : Nat} (d : Nat) (a0 : Nat) (a1 : Int32) (th : tH) : Wx L (fun x => (some (.int x), th)) (d + 2) 290 8 0 [(0, .ref a0), (1, .int a1)] [] th (m_290 a0 a1 th) := by
  unfold m_290
  refine x_gC ?_
  refine x_P 1 rfl rfl rfl ?_
  refine x_P (lv' := [(2, .int (Int32.ofInt 0)), (0, .ref a0), (1, .int a1)]) 2 rfl rfl rfl ?_
  refine x_lv (lv := [(0, .ref a0), (1, .int a1), (2, .int (Int32.ofInt 0))]) (x_lp 223 (fun s1 => [(0, .ref a0), (1, .int a1), (2, .int s1)]) (fun s1 => th) (fun x4 => []) (fun x4 => th) (fun s1 nx2 hnx2 ex3 hex3 => ?_) (fun x4 => ?_) 4096 (Int32.ofInt 0)) ⟨rfl, rfl, rfl, trivial⟩
  · refine x_P 3 rfl rfl rfl ?_
    refine x_P 4 rfl rfl rfl ?_
    refine x_gI rfl (fun x5 hx5 => ?_)
    refine x_ic_ge rfl rfl (fun h73 => ?_) (fun h73 => ?_)
    · exact x_lv (hex3 ()) trivial
    · refine x_P 11 rfl rfl rfl ?_
      refine x_P (lv' := [(3, .int (Int32.ofInt 0)), (0, .ref a0), (1, .int a1), (2, .int s1)]) 12 rfl rfl rfl ?_
      refine x_lv (lv := [(0, .ref a0), (1, .int a1), (2, .int s1), (3, .int (Int32.ofInt 0))]) (x_lp 217 (fun s6 => [(0, .ref a0), (1, .int a1), (2, .int s1), (3, .int s6)]) (fun s6 => th) (fun x9 => [(0, .ref a0), (1, .int a1), (2, .int s1)]) (fun x9 => th) (fun s6 nx7 hnx7 ex8 hex8 => ?_) (fun x9 => ?_) 4096 (Int32.ofInt 0)) ⟨rfl, rfl, rfl, rfl, trivial⟩
      · refine x_P 13 rfl rfl rfl ?_
        refine x_P 14 rfl rfl rfl ?_
        refine x_ic_ge rfl rfl (fun h72 => ?_) (fun h72 => ?_)
        · exact x_lv (hex8 ()) ⟨rfl, rfl, rfl, trivial⟩
        · refine x_P 18 rfl rfl rfl ?_
          refine x_P 19 rfl rfl rfl ?_
          refine x_jn 211 (fun v10 => [(0, .ref a0), (1, .int a1), (2, .int s1), (3, .int s6)]) (fun v10 => []) (fun v10 => th) (fun v10 => ?_) (fun j11 hj11 => ?_)
          · refine x_P (lv' := [(3, .int (s6 + Int32.ofInt 1)), (0, .ref a0), (1, .int a1), (2, .int s1)]) 214 rfl rfl rfl ?_
            refine x_P 12 rfl rfl rfl ?_
            exact x_lv (hnx7 (s6 + Int32.ofInt 1)) ⟨rfl, rfl, rfl, rfl, trivial⟩
          · refine x_ic_eq rfl rfl (fun h71 => ?_) (fun h71 => ?_)
            · exact x_lv (hj11 ()) ⟨rfl, rfl, rfl, rfl, trivial⟩
            · refine x_P 23 rfl rfl rfl ?_
              refine x_P 24 rfl rfl rfl ?_
              refine x_ic_eq rfl rfl (fun h70 => ?_) (fun h70 => ?_)
              · exact x_lv (hj11 ()) ⟨rfl, rfl, rfl, rfl, trivial⟩
              · refine x_P 28 rfl rfl rfl ?_
                refine x_P 29 rfl rfl rfl ?_
                refine x_gN rfl (fun o12 ho12 => ?_)
                refine x_P 33 rfl rfl rfl ?_
                refine x_aI rfl ⟨rfl, rfl⟩ (fun x13 hx13 => ?_)
                refine x_P 35 rfl rfl rfl ?_
                refine x_gN rfl (fun o14 ho14 => ?_)
                refine x_P 39 rfl rfl rfl ?_
                refine x_aI rfl ⟨rfl, rfl⟩ (fun x15 hx15 => ?_)
                refine x_callV rfl rfl rfl rfl rfl ⟨rfl, rfl⟩ (fun x h => c_238 h) (S_238 (d + 1) a0 x13 x15 th) (fun x16 hx16 => ?_)
                refine x_P (lv' := [(4, .int x16), (0, .ref a0), (1, .int a1), (2, .int s1), (3, .int s6)]) 45 rfl rfl rfl ?_
                refine x_P 46 rfl rfl rfl ?_
                refine x_P 47 rfl rfl rfl ?_
                refine x_gN rfl (fun o17 ho17 => ?_)
                refine x_P 51 rfl rfl rfl ?_
                refine x_aI rfl ⟨rfl, rfl⟩ (fun x18 hx18 => ?_)
                refine x_P 53 rfl rfl rfl ?_
                refine x_gN rfl (fun o19 ho19 => ?_)
                refine x_P 57 rfl rfl rfl ?_
                refine x_aI rfl ⟨rfl, rfl⟩ (fun x20 hx20 => ?_)
                refine x_P 59 rfl rfl rfl ?_
                refine x_gN rfl (fun o21 ho21 => ?_)
                refine x_P 63 rfl rfl rfl ?_
                refine x_aI rfl ⟨rfl, rfl⟩ (fun x22 hx22 => ?_)
                refine x_callV rfl rfl rfl rfl rfl ⟨rfl, rfl⟩ (fun x h => c_236 h) (S_236 d a0 x18 x20 x22 th) (fun x23 hx23 => ?_)
                refine x_P (lv' := [(5, .int x23), (4, .int x16), (0, .ref a0), (1, .int a1), (2, .int s1), (3, .int s6)]) 69 rfl rfl rfl ?_
                refine x_P 71 rfl rfl rfl ?_
                refine x_jn 118 (fun v24 => [(0, .ref a0), (1, .int a1), (2, .int s1), (3, .int s6)]) (fun v24 => []) (fun v24 => th) (fun v24 => ?_) (fun j25 hj25 => ?_)
                · refine x_P 119 rfl rfl rfl ?_
                  refine x_P (lv' := [(6, .int (Int32.ofInt 0)), (0, .ref a0), (1, .int a1), (2, .int s1), (3, .int s6)]) 121 rfl rfl rfl ?_
                  refine x_lv (lv := [(0, .ref a0), (1, .int a1), (2, .int s1), (3, .int s6), (6, .int (Int32.ofInt 0))]) (x_lp 211 (fun s26 => [(0, .ref a0), (1, .int a1), (2, .int s1), (3, .int s6), (6, .int s26)]) (fun s26 => th) (fun x29 => [(0, .ref a0), (1, .int a1), (2, .int s1), (3, .int s6)]) (fun x29 => th) (fun s26 nx27 hnx27 ex28 hex28 => ?_) (fun x29 => ?_) 4096 (Int32.ofInt 0)) ⟨rfl, rfl, rfl, rfl, rfl, trivial⟩
                  · refine x_P 123 rfl rfl rfl ?_
                    refine x_P 124 rfl rfl rfl ?_
                    refine x_ic_ge rfl rfl (fun h56 => ?_) (fun h56 => ?_)
                    · exact x_lv (hex28 ()) ⟨rfl, rfl, rfl, rfl, trivial⟩
                    · refine x_P 129 rfl rfl rfl ?_
                      refine x_P 130 rfl rfl rfl ?_
                      refine x_jn 164 (fun v30 => [(0, .ref a0), (1, .int a1), (2, .int s1), (3, .int s6), (6, .int s26)]) (fun v30 => [.int v30]) (fun v30 => th) (fun v30 => ?_) (fun j31 hj31 => ?_)
                      · refine x_P (lv' := [(7, .int v30), (0, .ref a0), (1, .int a1), (2, .int s1), (3, .int s6), (6, .int s26)]) 166 rfl rfl rfl ?_
                        refine x_P 168 rfl rfl rfl ?_
                        refine x_jn 205 (fun v32 => [(0, .ref a0), (1, .int a1), (2, .int s1), (3, .int s6), (6, .int s26)]) (fun v32 => []) (fun v32 => th) (fun v32 => ?_) (fun j33 hj33 => ?_)
                        · refine x_P (lv' := [(6, .int (s26 + Int32.ofInt 1)), (0, .ref a0), (1, .int a1), (2, .int s1), (3, .int s6)]) 208 rfl rfl rfl ?_
                          refine x_P 121 rfl rfl rfl ?_
                          exact x_lv (hnx27 (s26 + Int32.ofInt 1)) ⟨rfl, rfl, rfl, rfl, rfl, trivial⟩
                        · refine x_if_eq rfl rfl (fun h44 => ?_) (fun h44 => ?_)
                          · exact x_lv (hj33 ()) ⟨rfl, rfl, rfl, rfl, rfl, trivial⟩
                          · refine x_P 172 rfl rfl rfl ?_
                            refine x_P 173 rfl rfl rfl ?_
                            refine x_gN rfl (fun o34 ho34 => ?_)
                            refine x_P 177 rfl rfl rfl ?_
                            refine x_aI rfl ⟨rfl, rfl⟩ (fun x35 hx35 => ?_)
                            refine x_P 179 rfl rfl rfl ?_
                            refine x_gN rfl (fun o36 ho36 => ?_)
                            refine x_P 183 rfl rfl rfl ?_
                            refine x_aI rfl ⟨rfl, rfl⟩ (fun x37 hx37 => ?_)
                            refine x_P 185 rfl rfl rfl ?_
                            refine x_gN rfl (fun o38 ho38 => ?_)
                            refine x_P 190 rfl rfl rfl ?_
                            refine x_aI rfl ⟨rfl, rfl⟩ (fun x39 hx39 => ?_)
                            refine x_P 192 rfl rfl rfl ?_
                            refine x_gN rfl (fun o40 ho40 => ?_)
                            refine x_P 196 rfl rfl rfl ?_
                            refine x_aI rfl ⟨rfl, rfl⟩ (fun x41 hx41 => ?_)
                            refine x_callV rfl rfl rfl rfl rfl ⟨rfl, rfl⟩ (fun x h => c_289 h) (S_289 d a0 x35 x37 x39 x41 th) (fun x42 hx42 => ?_)
                            refine x_if_eq rfl rfl (fun h43 => ?_) (fun h43 => ?_)
                            · exact x_lv (hj33 ()) ⟨rfl, rfl, rfl, rfl, rfl, trivial⟩
                            · refine x_P 204 rfl rfl rfl ?_
                              exact x_rB rfl
                      · refine x_jn 163 (fun v45 => [(0, .ref a0), (1, .int a1), (2, .int s1), (3, .int s6), (6, .int s26)]) (fun v45 => []) (fun v45 => th) (fun v45 => ?_) (fun j46 hj46 => ?_)
                        · refine x_P 164 rfl rfl rfl ?_
                          exact x_lv (hj31 (Int32.ofInt 0)) ⟨rfl, rfl, rfl, rfl, rfl, trivial⟩
                        · refine x_ic_eq rfl rfl (fun h55 => ?_) (fun h55 => ?_)
                          · exact x_lv (hj46 ()) ⟨rfl, rfl, rfl, rfl, rfl, trivial⟩
                          · refine x_P 134 rfl rfl rfl ?_
                            refine x_P 135 rfl rfl rfl ?_
                            refine x_gN rfl (fun o47 ho47 => ?_)
                            refine x_P 139 rfl rfl rfl ?_
                            refine x_aI rfl ⟨rfl, rfl⟩ (fun x48 hx48 => ?_)
                            refine x_P 141 rfl rfl rfl ?_
                            refine x_gN rfl (fun o49 ho49 => ?_)
                            refine x_P 145 rfl rfl rfl ?_
                            refine x_aI rfl ⟨rfl, rfl⟩ (fun x50 hx50 => ?_)
                            refine x_P 147 rfl rfl rfl ?_
                            refine x_gN rfl (fun o51 ho51 => ?_)
                            refine x_P 152 rfl rfl rfl ?_
                            refine x_aI rfl ⟨rfl, rfl⟩ (fun x52 hx52 => ?_)
                            refine x_callV rfl rfl rfl rfl rfl ⟨rfl, rfl⟩ (fun x h => c_236 h) (S_236 d a0 x48 x50 x52 th) (fun x53 hx53 => ?_)
                            refine x_if_ne rfl rfl (fun h54 => ?_) (fun h54 => ?_)
                            · refine x_P 160 rfl rfl rfl ?_
                              refine x_P 164 rfl rfl rfl ?_
                              exact x_lv (hj31 (Int32.ofInt 1)) ⟨rfl, rfl, rfl, rfl, rfl, trivial⟩
                            · exact x_lv (hj46 ()) ⟨rfl, rfl, rfl, rfl, rfl, trivial⟩
                  · exact x_lv (hj11 ()) ⟨rfl, rfl, rfl, rfl, trivial⟩
                · refine x_if_eq rfl rfl (fun h69 => ?_) (fun h69 => ?_)
                  · exact x_lv (hj25 ()) ⟨rfl, rfl, rfl, rfl, trivial⟩
                  · refine x_P 75 rfl rfl rfl ?_
                    refine x_P 76 rfl rfl rfl ?_
                    refine x_gN rfl (fun o57 ho57 => ?_)
                    refine x_P 80 rfl rfl rfl ?_
                    refine x_aI rfl ⟨rfl, rfl⟩ (fun x58 hx58 => ?_)
                    refine x_P 82 rfl rfl rfl ?_
                    refine x_gN rfl (fun o59 ho59 => ?_)
                    refine x_P 86 rfl rfl rfl ?_
                    refine x_aI rfl ⟨rfl, rfl⟩ (fun x60 hx60 => ?_)
                    refine x_callV rfl rfl rfl rfl rfl ⟨rfl, rfl⟩ (fun x h => c_238 h) (S_238 (d + 1) a0 x58 x60 th) (fun x61 hx61 => ?_)
                    refine x_P 92 rfl rfl rfl ?_
                    refine x_ic_ge rfl rfl (fun h68 => ?_) (fun h68 => ?_)
                    · exact x_lv (hj25 ()) ⟨rfl, rfl, rfl, rfl, trivial⟩
                    · refine x_P 96 rfl rfl rfl ?_
                      refine x_P 97 rfl rfl rfl ?_
                      refine x_gN rfl (fun o62 ho62 => ?_)
                      refine x_P 101 rfl rfl rfl ?_
                      refine x_aI rfl ⟨rfl, rfl⟩ (fun x63 hx63 => ?_)
                      refine x_P 103 rfl rfl rfl ?_
                      refine x_gN rfl (fun o64 ho64 => ?_)
                      refine x_P 107 rfl rfl rfl ?_
                      refine x_aI rfl ⟨rfl, rfl⟩ (fun x65 hx65 => ?_)
                      refine x_callV rfl rfl rfl rfl rfl ⟨rfl, rfl⟩ (fun x h => c_238 h) (S_238 (d + 1) a0 x63 x65 th) (fun x66 hx66 => ?_)
                      refine x_P 113 rfl rfl rfl ?_
                      refine x_ic_ge rfl rfl (fun h67 => ?_) (fun h67 => ?_)
                      · exact x_lv (hj25 ()) ⟨rfl, rfl, rfl, rfl, trivial⟩
                      · refine x_P 117 rfl rfl rfl ?_
                        exact x_rB rfl
      · refine x_P (lv' := [(2, .int (s1 + Int32.ofInt 1)), (0, .ref a0), (1, .int a1)]) 220 rfl rfl rfl ?_
        refine x_P 2 rfl rfl rfl ?_
        exact x_lv (hnx2 (s1 + Int32.ofInt 1)) ⟨rfl, rfl, rfl, trivial⟩
  · refine x_P 224 rfl rfl rfl ?_
    exact x_rB rfl
-- 291 NineTreesModel.corners()I
noncomputable def m_291 (a0 : Nat) (th : tH) : Option (Int32) :=
  (gC th 8 a0).bind fun _ =>
  lp (fun (s1 : Int32 × Int32) nx2 ex3 =>
      (gI th 8 a0 10).bind fun x5 =>
      if x5 ≤ s1.2 then
        ex3 s1.1
      else
        (m_290 a0 s1.2 th).bind fun x6 =>
        jn (fun (v7 : Int32 × Int32) =>
            nx2 ((v7.2 ||| v7.1), (s1.2 + Int32.ofInt 1))
          ) (fun j8 =>
            if x6 = 0 then
              j8 ((Int32.ofInt 0), s1.1)
            else
              j8 (((Int32.ofInt 1) <<< (s1.2 &&& 31)), s1.1)
          )
    ) 4096 ((Int32.ofInt 0), (Int32.ofInt 0)) (fun (x4 : Int32) =>
      some x4
    )
theorem c_291 {a0 : Nat} {th : tH} {x : (Int32)} (h : m_291 a0 th = some x) : ∃ fs, th[a0]? = some (.inr (8, fs)) := gC_of h
theorem S_291 {L : Nat} (d : Nat) (a0 : Nat) (th : tH) : Wx L (fun x => (some (.int x), th)) (d + 3) 291 3 0 [(0, .ref a0)] [] th (m_291 a0 th) := by
  unfold m_291
  refine x_gC ?_
  refine x_P 1 rfl rfl rfl ?_
  refine x_P (lv' := [(1, .int (Int32.ofInt 0)), (0, .ref a0)]) 2 rfl rfl rfl ?_
  refine x_P 3 rfl rfl rfl ?_
  refine x_P (lv' := [(2, .int (Int32.ofInt 0)), (1, .int (Int32.ofInt 0)), (0, .ref a0)]) 4 rfl rfl rfl ?_
  refine x_lv (lv := [(0, .ref a0), (1, .int (Int32.ofInt 0)), (2, .int (Int32.ofInt 0))]) (x_lp 36 (fun s1 => [(0, .ref a0), (1, .int s1.1), (2, .int s1.2)]) (fun s1 => th) (fun x4 => [(1, .int x4)]) (fun x4 => th) (fun s1 nx2 hnx2 ex3 hex3 => ?_) (fun x4 => ?_) 4096 ((Int32.ofInt 0), (Int32.ofInt 0))) ⟨rfl, rfl, rfl, trivial⟩
  · refine x_P 5 rfl rfl rfl ?_
    refine x_P 6 rfl rfl rfl ?_
    refine x_gI rfl (fun x5 hx5 => ?_)
    refine x_ic_ge rfl rfl (fun h10 => ?_) (fun h10 => ?_)
    · exact x_lv (hex3 s1.1) ⟨rfl, trivial⟩
    · refine x_P 13 rfl rfl rfl ?_
      refine x_P 14 rfl rfl rfl ?_
      refine x_P 15 rfl rfl rfl ?_
      refine x_callV rfl rfl rfl rfl rfl ⟨rfl, rfl⟩ (fun x h => c_290 h) (S_290 d a0 s1.2 th) (fun x6 hx6 => ?_)
      refine x_jn 28 (fun v7 => [(0, .ref a0), (2, .int s1.2)]) (fun v7 => [.int v7.1, .int v7.2]) (fun v7 => th) (fun v7 => ?_) (fun j8 hj8 => ?_)
      · refine x_P 29 rfl rfl rfl ?_
        refine x_P (lv' := [(1, .int (v7.2 ||| v7.1)), (0, .ref a0), (2, .int s1.2)]) 30 rfl rfl rfl ?_
        refine x_P (lv' := [(2, .int (s1.2 + Int32.ofInt 1)), (1, .int (v7.2 ||| v7.1)), (0, .ref a0)]) 33 rfl rfl rfl ?_
        refine x_P 4 rfl rfl rfl ?_
        exact x_lv (hnx2 ((v7.2 ||| v7.1), (s1.2 + Int32.ofInt 1))) ⟨rfl, rfl, rfl, trivial⟩
      · refine x_if_eq rfl rfl (fun h9 => ?_) (fun h9 => ?_)
        · refine x_P 28 rfl rfl rfl ?_
          exact x_lv (hj8 ((Int32.ofInt 0), s1.1)) ⟨rfl, rfl, trivial⟩
        · refine x_P 22 rfl rfl rfl ?_
          refine x_P 23 rfl rfl rfl ?_
          refine x_P 24 rfl rfl rfl ?_
          refine x_P 28 rfl rfl rfl ?_
          exact x_lv (hj8 (((Int32.ofInt 1) <<< (s1.2 &&& 31)), s1.1)) ⟨rfl, rfl, trivial⟩
  · refine x_P 37 rfl rfl rfl ?_
    exact x_retI (x := x4) rfl
-- 292 NineTreesModel.firmMany()I
noncomputable def m_292 (a0 : Nat) (th : tH) : Option (Int32) :=
  (gC th 8 a0).bind fun _ =>
  lp (fun (s1 : Int32 × Int32) nx2 ex3 =>
      (gI th 8 a0 10).bind fun x5 =>
      if x5 ≤ s1.2 then
        ex3 s1.1
      else
        (m_197 a0 s1.2 th).bind fun x6 =>
        jn (fun (v7 : Int32 × Int32) =>
            nx2 ((v7.2 + v7.1), (s1.2 + Int32.ofInt 1))
          ) (fun j8 =>
            if x6 = 0 then
              j8 ((Int32.ofInt 0), s1.1)
            else
              j8 ((Int32.ofInt 1), s1.1)
          )
    ) 4096 ((Int32.ofInt 0), (Int32.ofInt 0)) (fun (x4 : Int32) =>
      some x4
    )
theorem c_292 {a0 : Nat} {th : tH} {x : (Int32)} (h : m_292 a0 th = some x) : ∃ fs, th[a0]? = some (.inr (8, fs)) := gC_of h
theorem S_292 {L : Nat} (d : Nat) (a0 : Nat) (th : tH) : Wx L (fun x => (some (.int x), th)) (d + 1) 292 3 0 [(0, .ref a0)] [] th (m_292 a0 th) := by
  unfold m_292
  refine x_gC ?_
  refine x_P 1 rfl rfl rfl ?_
  refine x_P (lv' := [(1, .int (Int32.ofInt 0)), (0, .ref a0)]) 2 rfl rfl rfl ?_
  refine x_P 3 rfl rfl rfl ?_
  refine x_P (lv' := [(2, .int (Int32.ofInt 0)), (1, .int (Int32.ofInt 0)), (0, .ref a0)]) 4 rfl rfl rfl ?_
  refine x_lv (lv := [(0, .ref a0), (1, .int (Int32.ofInt 0)), (2, .int (Int32.ofInt 0))]) (x_lp 34 (fun s1 => [(0, .ref a0), (1, .int s1.1), (2, .int s1.2)]) (fun s1 => th) (fun x4 => [(1, .int x4)]) (fun x4 => th) (fun s1 nx2 hnx2 ex3 hex3 => ?_) (fun x4 => ?_) 4096 ((Int32.ofInt 0), (Int32.ofInt 0))) ⟨rfl, rfl, rfl, trivial⟩
  · refine x_P 5 rfl rfl rfl ?_
    refine x_P 6 rfl rfl rfl ?_
    refine x_gI rfl (fun x5 hx5 => ?_)
    refine x_ic_ge rfl rfl (fun h10 => ?_) (fun h10 => ?_)
    · exact x_lv (hex3 s1.1) ⟨rfl, trivial⟩
    · refine x_P 13 rfl rfl rfl ?_
      refine x_P 14 rfl rfl rfl ?_
      refine x_P 15 rfl rfl rfl ?_
      refine x_callV rfl rfl rfl rfl rfl ⟨rfl, rfl⟩ (fun x h => c_197 h) (S_197 d a0 s1.2 th) (fun x6 hx6 => ?_)
      refine x_jn 26 (fun v7 => [(0, .ref a0), (2, .int s1.2)]) (fun v7 => [.int v7.1, .int v7.2]) (fun v7 => th) (fun v7 => ?_) (fun j8 hj8 => ?_)
      · refine x_P 27 rfl rfl rfl ?_
        refine x_P (lv' := [(1, .int (v7.2 + v7.1)), (0, .ref a0), (2, .int s1.2)]) 28 rfl rfl rfl ?_
        refine x_P (lv' := [(2, .int (s1.2 + Int32.ofInt 1)), (1, .int (v7.2 + v7.1)), (0, .ref a0)]) 31 rfl rfl rfl ?_
        refine x_P 4 rfl rfl rfl ?_
        exact x_lv (hnx2 ((v7.2 + v7.1), (s1.2 + Int32.ofInt 1))) ⟨rfl, rfl, rfl, trivial⟩
      · refine x_if_eq rfl rfl (fun h9 => ?_) (fun h9 => ?_)
        · refine x_P 26 rfl rfl rfl ?_
          exact x_lv (hj8 ((Int32.ofInt 0), s1.1)) ⟨rfl, rfl, trivial⟩
        · refine x_P 22 rfl rfl rfl ?_
          refine x_P 26 rfl rfl rfl ?_
          exact x_lv (hj8 ((Int32.ofInt 1), s1.1)) ⟨rfl, rfl, trivial⟩
  · refine x_P 35 rfl rfl rfl ?_
    exact x_retI (x := x4) rfl
-- 293 NineTreesModel.turn()I
noncomputable def m_293 (a0 : Nat) (th : tH) : Option (Int32 × tH) :=
  (gC th 8 a0).bind fun _ =>
  lp (fun (s1 : Int32 × tH) nx2 ex3 =>
      (gI s1.2 8 a0 10).bind fun x6 =>
      if x6 ≤ s1.1 then
        ex3 s1.2
      else
        (gN s1.2 8 a0 12).bind fun o7 =>
        (gN s1.2 8 a0 12).bind fun o8 =>
        (aI s1.2 o8 s1.1).bind fun x9 =>
        (m_281 a0 x9 s1.2).bind fun x10 =>
        (sI s1.2 o7 s1.1 x10).bind fun th11 =>
        nx2 ((s1.1 + Int32.ofInt 1), th11)
    ) 4096 ((Int32.ofInt 0), th) (fun (x4 : tH) =>
      (m_292 a0 x4).bind fun x5 =>
      some (x5, x4)
    )
theorem c_293 {a0 : Nat} {th : tH} {x : (Int32 × tH)} (h : m_293 a0 th = some x) : ∃ fs, th[a0]? = some (.inr (8, fs)) := gC_of h
theorem S_293 {L : Nat} (d : Nat) (a0 : Nat) (th : tH) : Wx L (fun x => (some (.int x.1), x.2)) (d + 2) 293 2 0 [(0, .ref a0)] [] th (m_293 a0 th) := by
  unfold m_293
  refine x_gC ?_
  refine x_P 1 rfl rfl rfl ?_
  refine x_P (lv' := [(1, .int (Int32.ofInt 0)), (0, .ref a0)]) 2 rfl rfl rfl ?_
  refine x_lv (lv := [(0, .ref a0), (1, .int (Int32.ofInt 0))]) (x_lp 32 (fun s1 => [(0, .ref a0), (1, .int s1.1)]) (fun s1 => s1.2) (fun x4 => [(0, .ref a0)]) (fun x4 => x4) (fun s1 nx2 hnx2 ex3 hex3 => ?_) (fun x4 => ?_) 4096 ((Int32.ofInt 0), th)) ⟨rfl, rfl, trivial⟩
  · refine x_P 3 rfl rfl rfl ?_
    refine x_P 4 rfl rfl rfl ?_
    refine x_gI rfl (fun x6 hx6 => ?_)
    refine x_ic_ge rfl rfl (fun h12 => ?_) (fun h12 => ?_)
    · exact x_lv (hex3 s1.2) ⟨rfl, trivial⟩
    · refine x_P 11 rfl rfl rfl ?_
      refine x_gN rfl (fun o7 ho7 => ?_)
      refine x_P 15 rfl rfl rfl ?_
      refine x_P 16 rfl rfl rfl ?_
      refine x_P 17 rfl rfl rfl ?_
      refine x_gN rfl (fun o8 ho8 => ?_)
      refine x_P 21 rfl rfl rfl ?_
      refine x_aI rfl ⟨rfl, rfl⟩ (fun x9 hx9 => ?_)
      refine x_callV rfl rfl rfl rfl rfl ⟨rfl, rfl⟩ (fun x h => c_281 h) (S_281 (d + 1) a0 x9 s1.2) (fun x10 hx10 => ?_)
      refine x_sI rfl ⟨rfl, rfl⟩ (fun th11 hth11 => ?_)
      refine x_P (lv' := [(1, .int (s1.1 + Int32.ofInt 1)), (0, .ref a0)]) 29 rfl rfl rfl ?_
      refine x_P 2 rfl rfl rfl ?_
      exact x_lv (hnx2 ((s1.1 + Int32.ofInt 1), th11)) ⟨rfl, rfl, trivial⟩
  · refine x_P 33 rfl rfl rfl ?_
    refine x_callV rfl rfl rfl rfl rfl ⟨rfl, rfl⟩ (fun x h => c_292 h) (S_292 d a0 x4) (fun x5 hx5 => ?_)
    exact x_retI (x := (x5, x4)) rfl
-- 294 NineTreesModel.mirror()I
noncomputable def m_294 (a0 : Nat) (th : tH) : Option (Int32 × tH) :=
  (gC th 8 a0).bind fun _ =>
  lp (fun (s1 : Int32 × tH) nx2 ex3 =>
      (gI s1.2 8 a0 10).bind fun x6 =>
      if x6 ≤ s1.1 then
        ex3 s1.2
      else
        (gN s1.2 8 a0 12).bind fun o7 =>
        (gN s1.2 8 a0 12).bind fun o8 =>
        (aI s1.2 o8 s1.1).bind fun x9 =>
        (m_282 a0 x9 s1.2).bind fun x10 =>
        (sI s1.2 o7 s1.1 x10).bind fun th11 =>
        nx2 ((s1.1 + Int32.ofInt 1), th11)
    ) 4096 ((Int32.ofInt 0), th) (fun (x4 : tH) =>
      (m_292 a0 x4).bind fun x5 =>
      some (x5, x4)
    )
theorem c_294 {a0 : Nat} {th : tH} {x : (Int32 × tH)} (h : m_294 a0 th = some x) : ∃ fs, th[a0]? = some (.inr (8, fs)) := gC_of h
theorem S_294 {L : Nat} (d : Nat) (a0 : Nat) (th : tH) : Wx L (fun x => (some (.int x.1), x.2)) (d + 2) 294 2 0 [(0, .ref a0)] [] th (m_294 a0 th) := by
  unfold m_294
  refine x_gC ?_
  refine x_P 1 rfl rfl rfl ?_
  refine x_P (lv' := [(1, .int (Int32.ofInt 0)), (0, .ref a0)]) 2 rfl rfl rfl ?_
  refine x_lv (lv := [(0, .ref a0), (1, .int (Int32.ofInt 0))]) (x_lp 32 (fun s1 => [(0, .ref a0), (1, .int s1.1)]) (fun s1 => s1.2) (fun x4 => [(0, .ref a0)]) (fun x4 => x4) (fun s1 nx2 hnx2 ex3 hex3 => ?_) (fun x4 => ?_) 4096 ((Int32.ofInt 0), th)) ⟨rfl, rfl, trivial⟩
  · refine x_P 3 rfl rfl rfl ?_
    refine x_P 4 rfl rfl rfl ?_
    refine x_gI rfl (fun x6 hx6 => ?_)
    refine x_ic_ge rfl rfl (fun h12 => ?_) (fun h12 => ?_)
    · exact x_lv (hex3 s1.2) ⟨rfl, trivial⟩
    · refine x_P 11 rfl rfl rfl ?_
      refine x_gN rfl (fun o7 ho7 => ?_)
      refine x_P 15 rfl rfl rfl ?_
      refine x_P 16 rfl rfl rfl ?_
      refine x_P 17 rfl rfl rfl ?_
      refine x_gN rfl (fun o8 ho8 => ?_)
      refine x_P 21 rfl rfl rfl ?_
      refine x_aI rfl ⟨rfl, rfl⟩ (fun x9 hx9 => ?_)
      refine x_callV rfl rfl rfl rfl rfl ⟨rfl, rfl⟩ (fun x h => c_282 h) (S_282 (d + 1) a0 x9 s1.2) (fun x10 hx10 => ?_)
      refine x_sI rfl ⟨rfl, rfl⟩ (fun th11 hth11 => ?_)
      refine x_P (lv' := [(1, .int (s1.1 + Int32.ofInt 1)), (0, .ref a0)]) 29 rfl rfl rfl ?_
      refine x_P 2 rfl rfl rfl ?_
      exact x_lv (hnx2 ((s1.1 + Int32.ofInt 1), th11)) ⟨rfl, rfl, trivial⟩
  · refine x_P 33 rfl rfl rfl ?_
    refine x_callV rfl rfl rfl rfl rfl ⟨rfl, rfl⟩ (fun x h => c_292 h) (S_292 d a0 x4) (fun x5 hx5 => ?_)
    exact x_retI (x := (x5, x4)) rfl
-- 295 NineTreesModel.below(I)I
noncomputable def m_295 (a0 : Nat) (a1 : Int32) (th : tH) : Option (Int32 × tH) :=
  (gC th 8 a0).bind fun _ =>
  (gI th 8 a0 16).bind fun x1 =>
  (pI th 8 a0 16 ((x1 * (Int32.ofNat 1103515245)) + (Int16.ofInt 12345).toInt32)).bind fun th2 =>
  (gI th2 8 a0 16).bind fun x3 =>
  (rmI (Int32.toUInt32 x3 >>> (Int32.toUInt32 (Int8.ofInt 16).toInt32 &&& Int32.toUInt32 31)).toInt32 a1).bind fun x4 =>
  some (x4, th2)
theorem c_295 {a0 : Nat} {a1 : Int32} {th : tH} {x : (Int32 × tH)} (h : m_295 a0 a1 th = some x) : ∃ fs, th[a0]? = some (.inr (8, fs)) := gC_of h
theorem S_295 {L : Nat} (d : Nat) (a0 : Nat) (a1 : Int32) (th : tH) : Wx L (fun x => (some (.int x.1), x.2)) (d + 1) 295 2 0 [(0, .ref a0), (1, .int a1)] [] th (m_295 a0 a1 th) := by
  unfold m_295
  refine x_gC ?_
  refine x_P 1 rfl rfl rfl ?_
  refine x_P 2 rfl rfl rfl ?_
  refine x_gI rfl (fun x1 hx1 => ?_)
  refine x_P 8 rfl rfl rfl ?_
  refine x_P 9 rfl rfl rfl ?_
  refine x_P 12 rfl rfl rfl ?_
  refine x_P 13 rfl rfl rfl ?_
  refine x_pI rfl (fun th2 hth2 => ?_)
  refine x_P 17 rfl rfl rfl ?_
  refine x_gI rfl (fun x3 hx3 => ?_)
  refine x_P 22 rfl rfl rfl ?_
  refine x_P 23 rfl rfl rfl ?_
  refine x_P 24 rfl rfl rfl ?_
  refine x_rm rfl rfl (fun x4 hx4 => ?_)
  exact x_retI (x := (x4, th2)) rfl
-- 296 NineTreesModel.plant(I)I
noncomputable def m_296 (a0 : Nat) (a1 : Int32) (th : tH) : Option (Int32 × tH) :=
  (gC th 8 a0).bind fun _ =>
  (m_190 (Int32.toInt64 a1) (Int64.ofNat 1) (Int64.ofNat 12) th).bind fun x1 =>
  if x1 = 0 then
    (m_189 a0 (Int8.ofInt (-2)).toInt32 th).bind fun q25 =>
    some (q25.1, q25.2)
  else
    lp (fun (s2 : Int32 × tH) nx3 ex4 =>
        if a1 ≤ s2.1 then
          ex4 (s2.1, s2.2)
        else
          (gI s2.2 8 a0 10).bind fun x6 =>
          if (Int8.ofInt 12).toInt32 ≤ x6 then
            ex4 (s2.1, s2.2)
          else
            (gI s2.2 8 a0 10).bind fun x7 =>
            (m_192 a0 s2.2).bind fun x8 =>
            if x8 ≤ x7 then
              ex4 (s2.1, s2.2)
            else
              (m_295 a0 (Int8.ofInt 6).toInt32 s2.2).bind fun q9 =>
              (m_192 a0 q9.2).bind fun x10 =>
              (m_295 a0 x10 q9.2).bind fun q11 =>
              lp (fun (s12 : Int32) nx13 ex14 =>
                  (m_194 a0 s12 q11.2).bind fun x18 =>
                  if x18 = (Int32.ofInt (-1)) then
                    ex14 s12
                  else
                    (m_192 a0 q11.2).bind fun x19 =>
                    (rmI (s12 + (Int32.ofInt 1)) x19).bind fun x20 =>
                    nx13 x20
                ) 4096 q11.1 (fun (x15 : Int32) =>
                  (m_295 a0 (Int8.ofInt 10).toInt32 q11.2).bind fun q16 =>
                  (m_212 a0 q9.1 x15 q16.1 q16.2).bind fun th17 =>
                  nx3 ((s2.1 + Int32.ofInt 1), th17)
                )
      ) 4096 ((Int32.ofInt 0), th) (fun (x5 : Int32 × tH) =>
        some (x5.1, x5.2)
      )
theorem c_296 {a0 : Nat} {a1 : Int32} {th : tH} {x : (Int32 × tH)} (h : m_296 a0 a1 th = some x) : ∃ fs, th[a0]? = some (.inr (8, fs)) := gC_of h
theorem S_296 {L : Nat} (d : Nat) (a0 : Nat) (a1 : Int32) (th : tH) : Wx L (fun x => (some (.int x.1), x.2)) (d + 2) 296 5 0 [(0, .ref a0), (1, .int a1)] [] th (m_296 a0 a1 th) := by
  unfold m_296
  refine x_gC ?_
  refine x_P 1 rfl rfl rfl ?_
  refine x_P 2 rfl rfl rfl ?_
  refine x_P 3 rfl rfl rfl ?_
  refine x_P 6 rfl rfl rfl ?_
  refine x_callS rfl rfl rfl rfl rfl rfl ⟨rfl, rfl⟩ (S_190 (d + 1) (Int32.toInt64 a1) (Int64.ofNat 1) (Int64.ofNat 12) th) (fun x1 hx1 => ?_)
  refine x_if_ne rfl rfl (fun h26 => ?_) (fun h26 => ?_)
  · refine x_P 13 rfl rfl rfl ?_
    refine x_P 15 rfl rfl rfl ?_
    refine x_callV rfl rfl rfl rfl rfl ⟨rfl, rfl⟩ (fun x h => c_189 h) (S_189 d a0 (Int8.ofInt (-2)).toInt32 th) (fun q25 hq25 => ?_)
    exact x_retI (x := (q25.1, q25.2)) rfl
  · refine x_P 20 rfl rfl rfl ?_
    refine x_P (lv' := [(2, .int (Int32.ofInt 0)), (0, .ref a0), (1, .int a1)]) 21 rfl rfl rfl ?_
    refine x_lv (lv := [(0, .ref a0), (1, .int a1), (2, .int (Int32.ofInt 0))]) (x_lp 106 (fun s2 => [(0, .ref a0), (1, .int a1), (2, .int s2.1)]) (fun s2 => s2.2) (fun x5 => [(2, .int x5.1)]) (fun x5 => x5.2) (fun s2 nx3 hnx3 ex4 hex4 => ?_) (fun x5 => ?_) 4096 ((Int32.ofInt 0), th)) ⟨rfl, rfl, rfl, trivial⟩
    · refine x_P 22 rfl rfl rfl ?_
      refine x_P 23 rfl rfl rfl ?_
      refine x_ic_ge rfl rfl (fun h24 => ?_) (fun h24 => ?_)
      · exact x_lv (hex4 (s2.1, s2.2)) ⟨rfl, trivial⟩
      · refine x_P 27 rfl rfl rfl ?_
        refine x_gI rfl (fun x6 hx6 => ?_)
        refine x_P 32 rfl rfl rfl ?_
        refine x_ic_ge rfl rfl (fun h23 => ?_) (fun h23 => ?_)
        · exact x_lv (hex4 (s2.1, s2.2)) ⟨rfl, trivial⟩
        · refine x_P 36 rfl rfl rfl ?_
          refine x_gI rfl (fun x7 hx7 => ?_)
          refine x_P 40 rfl rfl rfl ?_
          refine x_callV rfl rfl rfl rfl rfl ⟨rfl, rfl⟩ (fun x h => c_192 h) (S_192 (d + 1) a0 s2.2) (fun x8 hx8 => ?_)
          refine x_ic_ge rfl rfl (fun h22 => ?_) (fun h22 => ?_)
          · exact x_lv (hex4 (s2.1, s2.2)) ⟨rfl, trivial⟩
          · refine x_P 47 rfl rfl rfl ?_
            refine x_P 49 rfl rfl rfl ?_
            refine x_callV rfl rfl rfl rfl rfl ⟨rfl, rfl⟩ (fun x h => c_295 h) (S_295 d a0 (Int8.ofInt 6).toInt32 s2.2) (fun q9 hq9 => ?_)
            refine x_P (lv' := [(3, .int q9.1), (0, .ref a0), (1, .int a1), (2, .int s2.1)]) 53 rfl rfl rfl ?_
            refine x_P 54 rfl rfl rfl ?_
            refine x_P 55 rfl rfl rfl ?_
            refine x_callV rfl rfl rfl rfl rfl ⟨rfl, rfl⟩ (fun x h => c_192 h) (S_192 (d + 1) a0 q9.2) (fun x10 hx10 => ?_)
            refine x_callV rfl rfl rfl rfl rfl ⟨rfl, rfl⟩ (fun x h => c_295 h) (S_295 d a0 x10 q9.2) (fun q11 hq11 => ?_)
            refine x_P (lv' := [(4, .int q11.1), (3, .int q9.1), (0, .ref a0), (1, .int a1), (2, .int s2.1)]) 63 rfl rfl rfl ?_
            refine x_lv (lv := [(0, .ref a0), (1, .int a1), (2, .int s2.1), (3, .int q9.1), (4, .int q11.1)]) (x_lp 87 (fun s12 => [(0, .ref a0), (1, .int a1), (2, .int s2.1), (3, .int q9.1), (4, .int s12)]) (fun s12 => q11.2) (fun x15 => [(0, .ref a0), (1, .int a1), (2, .int s2.1), (3, .int q9.1), (4, .int x15)]) (fun x15 => q11.2) (fun s12 nx13 hnx13 ex14 hex14 => ?_) (fun x15 => ?_) 4096 q11.1) ⟨rfl, rfl, rfl, rfl, rfl, trivial⟩
            · refine x_P 64 rfl rfl rfl ?_
              refine x_P 66 rfl rfl rfl ?_
              refine x_callV rfl rfl rfl rfl rfl ⟨rfl, rfl⟩ (fun x h => c_194 h) (S_194 (d + 1) a0 s12 q11.2) (fun x18 hx18 => ?_)
              refine x_P 70 rfl rfl rfl ?_
              refine x_ic_eq rfl rfl (fun h21 => ?_) (fun h21 => ?_)
              · exact x_lv (hex14 s12) ⟨rfl, rfl, rfl, rfl, rfl, trivial⟩
              · refine x_P 75 rfl rfl rfl ?_
                refine x_P 76 rfl rfl rfl ?_
                refine x_P 77 rfl rfl rfl ?_
                refine x_P 78 rfl rfl rfl ?_
                refine x_callV rfl rfl rfl rfl rfl ⟨rfl, rfl⟩ (fun x h => c_192 h) (S_192 (d + 1) a0 q11.2) (fun x19 hx19 => ?_)
                refine x_rm rfl rfl (fun x20 hx20 => ?_)
                refine x_P (lv' := [(4, .int x20), (0, .ref a0), (1, .int a1), (2, .int s2.1), (3, .int q9.1)]) 84 rfl rfl rfl ?_
                refine x_P 63 rfl rfl rfl ?_
                exact x_lv (hnx13 x20) ⟨rfl, rfl, rfl, rfl, rfl, trivial⟩
            · refine x_P 88 rfl rfl rfl ?_
              refine x_P 89 rfl rfl rfl ?_
              refine x_P 91 rfl rfl rfl ?_
              refine x_P 92 rfl rfl rfl ?_
              refine x_P 94 rfl rfl rfl ?_
              refine x_callV rfl rfl rfl rfl rfl ⟨rfl, rfl⟩ (fun x h => c_295 h) (S_295 d a0 (Int8.ofInt 10).toInt32 q11.2) (fun q16 hq16 => ?_)
              refine x_callW rfl rfl rfl rfl rfl ⟨rfl, rfl⟩ (fun x h => c_212 h) (S_212 d a0 q9.1 x15 q16.1 q16.2) (fun th17 hth17 => ?_)
              refine x_P (lv' := [(2, .int (s2.1 + Int32.ofInt 1)), (0, .ref a0), (1, .int a1), (3, .int q9.1), (4, .int x15)]) 103 rfl rfl rfl ?_
              refine x_P 21 rfl rfl rfl ?_
              exact x_lv (hnx3 ((s2.1 + Int32.ofInt 1), th17)) ⟨rfl, rfl, rfl, trivial⟩
    · refine x_P 107 rfl rfl rfl ?_
      exact x_retI (x := (x5.1, x5.2)) rfl
-- 297 NineTreesModel.seed(I)I
noncomputable def m_297 (a0 : Nat) (a1 : Int32) (th : tH) : Option (Int32 × tH) :=
  (gC th 8 a0).bind fun _ =>
  (gI th 8 a0 16).bind fun x1 =>
  (pI th 8 a0 16 a1).bind fun th2 =>
  some (x1, th2)
theorem c_297 {a0 : Nat} {a1 : Int32} {th : tH} {x : (Int32 × tH)} (h : m_297 a0 a1 th = some x) : ∃ fs, th[a0]? = some (.inr (8, fs)) := gC_of h
theorem S_297 {L : Nat} (d : Nat) (a0 : Nat) (a1 : Int32) (th : tH) : Wx L (fun x => (some (.int x.1), x.2)) (d + 1) 297 3 0 [(0, .ref a0), (1, .int a1)] [] th (m_297 a0 a1 th) := by
  unfold m_297
  refine x_gC ?_
  refine x_P 1 rfl rfl rfl ?_
  refine x_gI rfl (fun x1 hx1 => ?_)
  refine x_P (lv' := [(2, .int x1), (0, .ref a0), (1, .int a1)]) 5 rfl rfl rfl ?_
  refine x_P 6 rfl rfl rfl ?_
  refine x_P 7 rfl rfl rfl ?_
  refine x_pI rfl (fun th2 hth2 => ?_)
  refine x_P 11 rfl rfl rfl ?_
  exact x_retI (x := (x1, th2)) rfl
-- 299 NineTreesModel.copied([I[I)V
noncomputable def m_299 (a0 : Nat) (a1 : Nat) (th : tH) : Option tH :=
  lp (fun (s1 : Int32 × tH) nx2 ex3 =>
      (aL s1.2 a0).bind fun x5 =>
      if x5 ≤ s1.1 then
        ex3 s1.2
      else
        (aI s1.2 a0 s1.1).bind fun x6 =>
        (sI s1.2 a1 s1.1 x6).bind fun th7 =>
        nx2 ((s1.1 + Int32.ofInt 1), th7)
    ) 4096 ((Int32.ofInt 0), th) (fun (x4 : tH) =>
      some x4
    )
theorem S_299 {L : Nat} (d : Nat) (a0 : Nat) (a1 : Nat) (th : tH) : Wx L (fun x => (none, x)) (d + 1) 299 3 0 [(0, .ref a0), (1, .ref a1)] [] th (m_299 a0 a1 th) := by
  unfold m_299
  refine x_P 1 rfl rfl rfl ?_
  refine x_P (lv' := [(2, .int (Int32.ofInt 0)), (0, .ref a0), (1, .ref a1)]) 2 rfl rfl rfl ?_
  refine x_lv (lv := [(0, .ref a0), (1, .ref a1), (2, .int (Int32.ofInt 0))]) (x_lp 20 (fun s1 => [(0, .ref a0), (1, .ref a1), (2, .int s1.1)]) (fun s1 => s1.2) (fun x4 => []) (fun x4 => x4) (fun s1 nx2 hnx2 ex3 hex3 => ?_) (fun x4 => ?_) 4096 ((Int32.ofInt 0), th)) ⟨rfl, rfl, rfl, trivial⟩
  · refine x_P 3 rfl rfl rfl ?_
    refine x_P 4 rfl rfl rfl ?_
    refine x_aL rfl ⟨rfl, rfl⟩ (fun x5 hx5 => ?_)
    refine x_ic_ge rfl rfl (fun h8 => ?_) (fun h8 => ?_)
    · exact x_lv (hex3 s1.2) trivial
    · refine x_P 9 rfl rfl rfl ?_
      refine x_P 10 rfl rfl rfl ?_
      refine x_P 11 rfl rfl rfl ?_
      refine x_P 12 rfl rfl rfl ?_
      refine x_aI rfl ⟨rfl, rfl⟩ (fun x6 hx6 => ?_)
      refine x_sI rfl ⟨rfl, rfl⟩ (fun th7 hth7 => ?_)
      refine x_P (lv' := [(2, .int (s1.1 + Int32.ofInt 1)), (0, .ref a0), (1, .ref a1)]) 17 rfl rfl rfl ?_
      refine x_P 2 rfl rfl rfl ?_
      exact x_lv (hnx2 ((s1.1 + Int32.ofInt 1), th7)) ⟨rfl, rfl, rfl, trivial⟩
  · exact x_retV (x := x4) rfl
-- 300 NineTreesModel.takeFrom(LNineTreesModel;)V
noncomputable def m_300 (a0 : Nat) (a1 : Nat) (th : tH) : Option tH :=
  (gC th 8 a0).bind fun _ =>
  (gI th 8 a1 9).bind fun x1 =>
  (pI th 8 a0 9 x1).bind fun th2 =>
  (gI th2 8 a1 10).bind fun x3 =>
  (pI th2 8 a0 10 x3).bind fun th4 =>
  (gN th4 8 a1 11).bind fun o5 =>
  (gN th4 8 a0 11).bind fun o6 =>
  (m_299 o5 o6 th4).bind fun th7 =>
  (gN th7 8 a1 12).bind fun o8 =>
  (gN th7 8 a0 12).bind fun o9 =>
  (m_299 o8 o9 th7).bind fun th10 =>
  (gN th10 8 a1 13).bind fun o11 =>
  (gN th10 8 a0 13).bind fun o12 =>
  (m_299 o11 o12 th10).bind fun th13 =>
  (gI th13 8 a1 14).bind fun x14 =>
  (pI th13 8 a0 14 x14).bind fun th15 =>
  (gN th15 8 a1 15).bind fun o16 =>
  (gN th15 8 a0 15).bind fun o17 =>
  (m_299 o16 o17 th15).bind fun th18 =>
  (gI th18 8 a1 16).bind fun x19 =>
  (pI th18 8 a0 16 x19).bind fun th20 =>
  some th20
theorem c_300 {a0 : Nat} {a1 : Nat} {th : tH} {x : tH} (h : m_300 a0 a1 th = some x) : ∃ fs, th[a0]? = some (.inr (8, fs)) := gC_of h
theorem S_300 {L : Nat} (d : Nat) (a0 : Nat) (a1 : Nat) (th : tH) : Wx L (fun x => (none, x)) (d + 2) 300 2 0 [(0, .ref a0), (1, .ref a1)] [] th (m_300 a0 a1 th) := by
  unfold m_300
  refine x_gC ?_
  refine x_P 1 rfl rfl rfl ?_
  refine x_P 2 rfl rfl rfl ?_
  refine x_gI rfl (fun x1 hx1 => ?_)
  refine x_pI rfl (fun th2 hth2 => ?_)
  refine x_P 9 rfl rfl rfl ?_
  refine x_P 10 rfl rfl rfl ?_
  refine x_gI rfl (fun x3 hx3 => ?_)
  refine x_pI rfl (fun th4 hth4 => ?_)
  refine x_P 17 rfl rfl rfl ?_
  refine x_gN rfl (fun o5 ho5 => ?_)
  refine x_P 21 rfl rfl rfl ?_
  refine x_gN rfl (fun o6 ho6 => ?_)
  refine x_callSW rfl rfl rfl rfl rfl rfl ⟨rfl, rfl⟩ (S_299 d o5 o6 th4) (fun th7 hth7 => ?_)
  refine x_P 28 rfl rfl rfl ?_
  refine x_gN rfl (fun o8 ho8 => ?_)
  refine x_P 32 rfl rfl rfl ?_
  refine x_gN rfl (fun o9 ho9 => ?_)
  refine x_callSW rfl rfl rfl rfl rfl rfl ⟨rfl, rfl⟩ (S_299 d o8 o9 th7) (fun th10 hth10 => ?_)
  refine x_P 39 rfl rfl rfl ?_
  refine x_gN rfl (fun o11 ho11 => ?_)
  refine x_P 43 rfl rfl rfl ?_
  refine x_gN rfl (fun o12 ho12 => ?_)
  refine x_callSW rfl rfl rfl rfl rfl rfl ⟨rfl, rfl⟩ (S_299 d o11 o12 th10) (fun th13 hth13 => ?_)
  refine x_P 50 rfl rfl rfl ?_
  refine x_P 51 rfl rfl rfl ?_
  refine x_gI rfl (fun x14 hx14 => ?_)
  refine x_pI rfl (fun th15 hth15 => ?_)
  refine x_P 58 rfl rfl rfl ?_
  refine x_gN rfl (fun o16 ho16 => ?_)
  refine x_P 62 rfl rfl rfl ?_
  refine x_gN rfl (fun o17 ho17 => ?_)
  refine x_callSW rfl rfl rfl rfl rfl rfl ⟨rfl, rfl⟩ (S_299 d o16 o17 th15) (fun th18 hth18 => ?_)
  refine x_P 69 rfl rfl rfl ?_
  refine x_P 70 rfl rfl rfl ?_
  refine x_gI rfl (fun x19 hx19 => ?_)
  refine x_pI rfl (fun th20 hth20 => ?_)
  exact x_retV (x := th20) rfl
-- 302 NineTreesModel.back()I
noncomputable def m_302 (a0 : Nat) (th : tH) : Option (Int32 × tH) :=
  (gC th 8 a0).bind fun _ =>
  (gR th 8 a0 17).bind fun r1 =>
  match r1 with
  | none =>
    (m_189 a0 (Int8.ofInt (-5)).toInt32 th).bind fun q3 =>
    some (q3.1, q3.2)
  | some o2 =>
    (gR th 8 a0 17).bind fun r4 =>
    r4.bind fun o5 =>
    (m_300 a0 o5 th).bind fun th6 =>
    (m_207 a0 th6).bind fun th7 =>
    some ((Int32.ofInt 1), th7)
theorem c_302 {a0 : Nat} {th : tH} {x : (Int32 × tH)} (h : m_302 a0 th = some x) : ∃ fs, th[a0]? = some (.inr (8, fs)) := gC_of h
theorem S_302 {L : Nat} (d : Nat) (a0 : Nat) (th : tH) : Wx L (fun x => (some (.int x.1), x.2)) (d + 3) 302 1 0 [(0, .ref a0)] [] th (m_302 a0 th) := by
  unfold m_302
  refine x_gC ?_
  refine x_P 1 rfl rfl rfl ?_
  refine x_gR rfl (fun r1 hr1 => ?_)
  rcases r1 with _ | o2
  · refine x_P 7 rfl rfl rfl ?_
    refine x_P 8 rfl rfl rfl ?_
    refine x_P 10 rfl rfl rfl ?_
    refine x_callV rfl rfl rfl rfl rfl ⟨rfl, rfl⟩ (fun x h => c_189 h) (S_189 (d + 1) a0 (Int8.ofInt (-5)).toInt32 th) (fun q3 hq3 => ?_)
    exact x_retI (x := (q3.1, q3.2)) rfl
  · refine x_P 14 rfl rfl rfl ?_
    refine x_P 15 rfl rfl rfl ?_
    refine x_P 16 rfl rfl rfl ?_
    refine x_gR rfl (fun r4 hr4 => ?_)
    rcases r4 with _ | o5
    · exact x_none
    · refine x_oS ?_
      refine x_callW rfl rfl rfl rfl rfl ⟨rfl, rfl⟩ (fun x h => c_300 h) (S_300 d a0 o5 th) (fun th6 hth6 => ?_)
      refine x_P 23 rfl rfl rfl ?_
      refine x_callW rfl rfl rfl rfl rfl ⟨rfl, rfl⟩ (fun x h => c_207 h) (S_207 (d + 1) a0 th6) (fun th7 hth7 => ?_)
      refine x_P 27 rfl rfl rfl ?_
      exact x_retI (x := ((Int32.ofInt 1), th7)) rfl
-- 303 NineTreesModel.status(I)I
noncomputable def m_303 (a0 : Nat) (a1 : Int32) (th : tH) : Option (Int32 × tH) :=
  (gC th 8 a0).bind fun _ =>
  if a1 < 0 ∨ 9 < a1 then
    (m_190 (Int32.toInt64 a1) (Int64.ofNat 12) (Int64.ofNat 16) th).bind fun x2 =>
    jn (fun (v3 : Int32) =>
        some (v3, th)
      ) (fun j4 =>
        if x2 = 0 then
          j4 (Int32.ofInt (-1))
        else
          (gN th 8 a0 8).bind fun o5 =>
          (aI th o5 (a1 - (Int8.ofInt 10).toInt32)).bind fun x6 =>
          j4 x6
      )
  else if a1 = 0 then
    (gI th 8 a0 9).bind fun x9 =>
    some (x9, th)
  else if a1 = 1 then
    (gI th 8 a0 10).bind fun x11 =>
    some (x11, th)
  else if a1 = 2 then
    (m_240 a0 th).bind fun th13 =>
    (gI th13 8 a0 27).bind fun x14 =>
    some (x14, th13)
  else if a1 = 3 then
    lp (fun (s16 : Int32 × Int32) nx17 ex18 =>
        (gI th 8 a0 10).bind fun x20 =>
        if x20 ≤ s16.2 then
          ex18 s16.1
        else
          (gN th 8 a0 11).bind fun o21 =>
          (aI th o21 s16.2).bind fun x22 =>
          jn (fun (v23 : Int32 × Int32) =>
              nx17 ((v23.2 + v23.1), (s16.2 + Int32.ofInt 1))
            ) (fun j24 =>
              if x22 = (Int32.ofInt 4) then
                j24 ((Int32.ofInt 1), s16.1)
              else
                j24 ((Int32.ofInt 0), s16.1)
            )
      ) 4096 ((Int32.ofInt 0), (Int32.ofInt 0)) (fun (x19 : Int32) =>
        some (x19, th)
      )
  else if a1 = 4 then
    (m_292 a0 th).bind fun x28 =>
    some (x28, th)
  else if a1 = 5 then
    (gI th 8 a0 14).bind fun x30 =>
    some (x30, th)
  else if a1 = 6 then
    (gI th 8 a0 7).bind fun x32 =>
    some (x32, th)
  else if a1 = 7 then
    (gI th 8 a0 16).bind fun x34 =>
    some (x34, th)
  else if a1 = 8 then
    lp (fun (s36 : Int32 × Int32) nx37 ex38 =>
        if (Int8.ofInt 8).toInt32 ≤ s36.2 then
          ex38 s36.1
        else
          (gN th 8 a0 0).bind fun o40 =>
          (aI th o40 s36.2).bind fun x41 =>
          jn (fun (v42 : Int32 × Int32) =>
              nx37 ((v42.2 + v42.1), (s36.2 + Int32.ofInt 1))
            ) (fun j43 =>
              if x41 = 0 then
                j43 ((Int32.ofInt 0), s36.1)
              else
                j43 ((Int32.ofInt 1), s36.1)
            )
      ) 4096 ((Int32.ofInt 0), (Int32.ofInt 0)) (fun (x39 : Int32) =>
        some (x39, th)
      )
  else if a1 = 9 then
    (m_243 a0 th).bind fun q47 =>
    some (q47.1, q47.2)
  else
    none
theorem c_303 {a0 : Nat} {a1 : Int32} {th : tH} {x : (Int32 × tH)} (h : m_303 a0 a1 th = some x) : ∃ fs, th[a0]? = some (.inr (8, fs)) := gC_of h
theorem S_303 {L : Nat} (d : Nat) (a0 : Nat) (a1 : Int32) (th : tH) : Wx L (fun x => (some (.int x.1), x.2)) (d + 5) 303 4 0 [(0, .ref a0), (1, .int a1)] [] th (m_303 a0 a1 th) := by
  unfold m_303
  refine x_gC ?_
  refine x_P 1 rfl rfl rfl ?_
  refine x_P (lv' := [(2, .int (Int32.ofInt 0)), (0, .ref a0), (1, .int a1)]) 2 rfl rfl rfl ?_
  refine x_P 3 rfl rfl rfl ?_
  refine x_ite (fun h1 => ?_) (fun h1 => ?_)
  · refine x_P 169 rfl rfl (x_td h1 (by decide +kernel)) ?_
    refine x_P 170 rfl rfl rfl ?_
    refine x_P 171 rfl rfl rfl ?_
    refine x_P 174 rfl rfl rfl ?_
    refine x_P 177 rfl rfl rfl ?_
    refine x_callS rfl rfl rfl rfl rfl rfl ⟨rfl, rfl⟩ (S_190 (d + 4) (Int32.toInt64 a1) (Int64.ofNat 12) (Int64.ofNat 16) th) (fun x2 hx2 => ?_)
    refine x_jn 196 (fun v3 => []) (fun v3 => [.int v3]) (fun v3 => th) (fun v3 => ?_) (fun j4 hj4 => ?_)
    · exact x_retI (x := (v3, th)) rfl
    · refine x_if_eq rfl rfl (fun h7 => ?_) (fun h7 => ?_)
      · refine x_P 196 rfl rfl rfl ?_
        exact x_lv (hj4 (Int32.ofInt (-1))) trivial
      · refine x_P 184 rfl rfl rfl ?_
        refine x_gN rfl (fun o5 ho5 => ?_)
        refine x_P 188 rfl rfl rfl ?_
        refine x_P 190 rfl rfl rfl ?_
        refine x_P 191 rfl rfl rfl ?_
        refine x_aI rfl ⟨rfl, rfl⟩ (fun x6 hx6 => ?_)
        refine x_P 196 rfl rfl rfl ?_
        exact x_lv (hj4 x6) trivial
  · skip
    refine x_ite (fun h8 => ?_) (fun h8 => ?_)
    · refine x_P 56 rfl rfl (x_ts h8 (by decide +kernel)) ?_
      refine x_P 57 rfl rfl rfl ?_
      refine x_gI rfl (fun x9 hx9 => ?_)
      exact x_retI (x := (x9, th)) rfl
    · skip
      refine x_ite (fun h10 => ?_) (fun h10 => ?_)
      · refine x_P 61 rfl rfl (x_ts h10 (by decide +kernel)) ?_
        refine x_P 62 rfl rfl rfl ?_
        refine x_gI rfl (fun x11 hx11 => ?_)
        exact x_retI (x := (x11, th)) rfl
      · skip
        refine x_ite (fun h12 => ?_) (fun h12 => ?_)
        · refine x_P 66 rfl rfl (x_ts h12 (by decide +kernel)) ?_
          refine x_P 67 rfl rfl rfl ?_
          refine x_callW rfl rfl rfl rfl rfl ⟨rfl, rfl⟩ (fun x h => c_240 h) (S_240 (d + 1) a0 th) (fun th13 hth13 => ?_)
          refine x_P 71 rfl rfl rfl ?_
          refine x_gI rfl (fun x14 hx14 => ?_)
          exact x_retI (x := (x14, th13)) rfl
        · skip
          refine x_ite (fun h15 => ?_) (fun h15 => ?_)
          · refine x_P 75 rfl rfl (x_ts h15 (by decide +kernel)) ?_
            refine x_P 76 rfl rfl rfl ?_
            refine x_P (lv' := [(3, .int (Int32.ofInt 0)), (2, .int (Int32.ofInt 0)), (0, .ref a0), (1, .int a1)]) 77 rfl rfl rfl ?_
            refine x_lv (lv := [(0, .ref a0), (2, .int (Int32.ofInt 0)), (3, .int (Int32.ofInt 0))]) (x_lp 109 (fun s16 => [(0, .ref a0), (2, .int s16.1), (3, .int s16.2)]) (fun s16 => th) (fun x19 => [(2, .int x19)]) (fun x19 => th) (fun s16 nx17 hnx17 ex18 hex18 => ?_) (fun x19 => ?_) 4096 ((Int32.ofInt 0), (Int32.ofInt 0))) ⟨rfl, rfl, rfl, trivial⟩
            · refine x_P 78 rfl rfl rfl ?_
              refine x_P 79 rfl rfl rfl ?_
              refine x_gI rfl (fun x20 hx20 => ?_)
              refine x_ic_ge rfl rfl (fun h26 => ?_) (fun h26 => ?_)
              · exact x_lv (hex18 s16.1) ⟨rfl, trivial⟩
              · refine x_P 86 rfl rfl rfl ?_
                refine x_P 87 rfl rfl rfl ?_
                refine x_gN rfl (fun o21 ho21 => ?_)
                refine x_P 91 rfl rfl rfl ?_
                refine x_aI rfl ⟨rfl, rfl⟩ (fun x22 hx22 => ?_)
                refine x_P 93 rfl rfl rfl ?_
                refine x_jn 101 (fun v23 => [(0, .ref a0), (3, .int s16.2)]) (fun v23 => [.int v23.1, .int v23.2]) (fun v23 => th) (fun v23 => ?_) (fun j24 hj24 => ?_)
                · refine x_P 102 rfl rfl rfl ?_
                  refine x_P (lv' := [(2, .int (v23.2 + v23.1)), (0, .ref a0), (3, .int s16.2)]) 103 rfl rfl rfl ?_
                  refine x_P (lv' := [(3, .int (s16.2 + Int32.ofInt 1)), (2, .int (v23.2 + v23.1)), (0, .ref a0)]) 106 rfl rfl rfl ?_
                  refine x_P 77 rfl rfl rfl ?_
                  exact x_lv (hnx17 ((v23.2 + v23.1), (s16.2 + Int32.ofInt 1))) ⟨rfl, rfl, rfl, trivial⟩
                · refine x_ic_ne rfl rfl (fun h25 => ?_) (fun h25 => ?_)
                  · refine x_P 97 rfl rfl rfl ?_
                    refine x_P 101 rfl rfl rfl ?_
                    exact x_lv (hj24 ((Int32.ofInt 1), s16.1)) ⟨rfl, rfl, trivial⟩
                  · refine x_P 101 rfl rfl rfl ?_
                    exact x_lv (hj24 ((Int32.ofInt 0), s16.1)) ⟨rfl, rfl, trivial⟩
            · refine x_P 110 rfl rfl rfl ?_
              exact x_retI (x := (x19, th)) rfl
          · skip
            refine x_ite (fun h27 => ?_) (fun h27 => ?_)
            · refine x_P 111 rfl rfl (x_ts h27 (by decide +kernel)) ?_
              refine x_P 112 rfl rfl rfl ?_
              refine x_callV rfl rfl rfl rfl rfl ⟨rfl, rfl⟩ (fun x h => c_292 h) (S_292 (d + 3) a0 th) (fun x28 hx28 => ?_)
              exact x_retI (x := (x28, th)) rfl
            · skip
              refine x_ite (fun h29 => ?_) (fun h29 => ?_)
              · refine x_P 116 rfl rfl (x_ts h29 (by decide +kernel)) ?_
                refine x_P 117 rfl rfl rfl ?_
                refine x_gI rfl (fun x30 hx30 => ?_)
                exact x_retI (x := (x30, th)) rfl
              · skip
                refine x_ite (fun h31 => ?_) (fun h31 => ?_)
                · refine x_P 121 rfl rfl (x_ts h31 (by decide +kernel)) ?_
                  refine x_P 122 rfl rfl rfl ?_
                  refine x_gI rfl (fun x32 hx32 => ?_)
                  exact x_retI (x := (x32, th)) rfl
                · skip
                  refine x_ite (fun h33 => ?_) (fun h33 => ?_)
                  · refine x_P 126 rfl rfl (x_ts h33 (by decide +kernel)) ?_
                    refine x_P 127 rfl rfl rfl ?_
                    refine x_gI rfl (fun x34 hx34 => ?_)
                    exact x_retI (x := (x34, th)) rfl
                  · skip
                    refine x_ite (fun h35 => ?_) (fun h35 => ?_)
                    · refine x_P 131 rfl rfl (x_ts h35 (by decide +kernel)) ?_
                      refine x_P 132 rfl rfl rfl ?_
                      refine x_P (lv' := [(3, .int (Int32.ofInt 0)), (2, .int (Int32.ofInt 0)), (0, .ref a0), (1, .int a1)]) 133 rfl rfl rfl ?_
                      refine x_lv (lv := [(0, .ref a0), (2, .int (Int32.ofInt 0)), (3, .int (Int32.ofInt 0))]) (x_lp 162 (fun s36 => [(0, .ref a0), (2, .int s36.1), (3, .int s36.2)]) (fun s36 => th) (fun x39 => [(2, .int x39)]) (fun x39 => th) (fun s36 nx37 hnx37 ex38 hex38 => ?_) (fun x39 => ?_) 4096 ((Int32.ofInt 0), (Int32.ofInt 0))) ⟨rfl, rfl, rfl, trivial⟩
                      · refine x_P 134 rfl rfl rfl ?_
                        refine x_P 136 rfl rfl rfl ?_
                        refine x_ic_ge rfl rfl (fun h45 => ?_) (fun h45 => ?_)
                        · exact x_lv (hex38 s36.1) ⟨rfl, trivial⟩
                        · refine x_P 140 rfl rfl rfl ?_
                          refine x_P 141 rfl rfl rfl ?_
                          refine x_gN rfl (fun o40 ho40 => ?_)
                          refine x_P 145 rfl rfl rfl ?_
                          refine x_aI rfl ⟨rfl, rfl⟩ (fun x41 hx41 => ?_)
                          refine x_jn 154 (fun v42 => [(0, .ref a0), (3, .int s36.2)]) (fun v42 => [.int v42.1, .int v42.2]) (fun v42 => th) (fun v42 => ?_) (fun j43 hj43 => ?_)
                          · refine x_P 155 rfl rfl rfl ?_
                            refine x_P (lv' := [(2, .int (v42.2 + v42.1)), (0, .ref a0), (3, .int s36.2)]) 156 rfl rfl rfl ?_
                            refine x_P (lv' := [(3, .int (s36.2 + Int32.ofInt 1)), (2, .int (v42.2 + v42.1)), (0, .ref a0)]) 159 rfl rfl rfl ?_
                            refine x_P 133 rfl rfl rfl ?_
                            exact x_lv (hnx37 ((v42.2 + v42.1), (s36.2 + Int32.ofInt 1))) ⟨rfl, rfl, rfl, trivial⟩
                          · refine x_if_eq rfl rfl (fun h44 => ?_) (fun h44 => ?_)
                            · refine x_P 154 rfl rfl rfl ?_
                              exact x_lv (hj43 ((Int32.ofInt 0), s36.1)) ⟨rfl, rfl, trivial⟩
                            · refine x_P 150 rfl rfl rfl ?_
                              refine x_P 154 rfl rfl rfl ?_
                              exact x_lv (hj43 ((Int32.ofInt 1), s36.1)) ⟨rfl, rfl, trivial⟩
                      · refine x_P 163 rfl rfl rfl ?_
                        exact x_retI (x := (x39, th)) rfl
                    · skip
                      refine x_ite (fun h46 => ?_) (fun h46 => ?_)
                      · refine x_P 164 rfl rfl (x_ts h46 (by decide +kernel)) ?_
                        refine x_P 165 rfl rfl rfl ?_
                        refine x_callV rfl rfl rfl rfl rfl ⟨rfl, rfl⟩ (fun x h => c_243 h) (S_243 d a0 th) (fun q47 hq47 => ?_)
                        exact x_retI (x := (q47.1, q47.2)) rfl
                      · skip
                        exact x_none
end
