/-! ===== programs ===== -/
-- 58 NineTrees.status(I)I
noncomputable def m_58 (a0 : Nat) (a1 : Int32) (th : tH) : Option (Int32 × tH) :=
  (gC th 7 a0).bind fun _ =>
  if a1 < 0 ∨ 9 < a1 then
    jn (fun (v2 : Int32) =>
        some (v2, th)
      ) (fun j3 =>
        jn (fun (v4 : Unit) =>
            j3 (Int32.ofInt (-1))
          ) (fun j5 =>
            if a1 < (Int8.ofInt 12).toInt32 then
              j5 ()
            else
              if (Int8.ofInt 16).toInt32 < a1 then
                j5 ()
              else
                (gN th 7 a0 9).bind fun o6 =>
                (aI th o6 (a1 - (Int8.ofInt 12).toInt32)).bind fun x7 =>
                j3 x7
          )
      )
  else if a1 = 0 then
    (gN th 7 a0 0).bind fun o11 =>
    (gI th 2 o11 4).bind fun x12 =>
    some (x12, th)
  else if a1 = 1 then
    (gN th 7 a0 0).bind fun o14 =>
    (gI th 2 o14 5).bind fun x15 =>
    some (x15, th)
  else if a1 = 2 then
    (m_63 a0 th).bind fun q17 =>
    (gI q17.2 4 q17.1 1).bind fun x18 =>
    some (x18, q17.2)
  else if a1 = 3 then
    (gN th 7 a0 0).bind fun o20 =>
    (m_86 o20 (Int32.ofInt 4) th).bind fun x21 =>
    some (x21, th)
  else if a1 = 4 then
    (gN th 7 a0 0).bind fun o23 =>
    (m_86 o23 (Int32.ofInt 1) th).bind fun x24 =>
    some (x24, th)
  else if a1 = 5 then
    (gN th 7 a0 0).bind fun o26 =>
    (gI th 2 o26 6).bind fun x27 =>
    some (x27, th)
  else if a1 = 6 then
    (gN th 7 a0 7).bind fun o29 =>
    (gI th 6 o29 1).bind fun x30 =>
    some (x30, th)
  else if a1 = 7 then
    (gN th 7 a0 0).bind fun o32 =>
    (gI th 2 o32 7).bind fun x33 =>
    some (x33, th)
  else if a1 = 8 then
    (m_61 a0 th).bind fun x35 =>
    some (x35, th)
  else if a1 = 9 then
    (m_63 a0 th).bind fun q37 =>
    (m_106 q37.1 q37.2).bind fun x38 =>
    some (x38, q37.2)
  else
    none
theorem c_58 {a0 : Nat} {a1 : Int32} {th : tH} {x : (Int32 × tH)} (h : m_58 a0 a1 th = some x) : ∃ fs, th[a0]? = some (.inr (7, fs)) := gC_of h
theorem S_58 {L : Nat} (d : Nat) (a0 : Nat) (a1 : Int32) (th : tH) : Wx L (fun x => (some (.int x.1), x.2)) (d + 5) 58 2 0 [(0, .ref a0), (1, .int a1)] [] th (m_58 a0 a1 th) := by
  unfold m_58
  refine x_gC ?_
  refine x_P 1 rfl rfl rfl ?_
  refine x_ite (fun h1 => ?_) (fun h1 => ?_)
  · refine x_P 135 rfl rfl (x_td h1 (by decide +kernel)) ?_
    refine x_P 136 rfl rfl rfl ?_
    refine x_P 138 rfl rfl rfl ?_
    refine x_jn 160 (fun v2 => []) (fun v2 => [.int v2]) (fun v2 => th) (fun v2 => ?_) (fun j3 hj3 => ?_)
    · exact x_retI (x := (v2, th)) rfl
    · refine x_jn 159 (fun v4 => []) (fun v4 => []) (fun v4 => th) (fun v4 => ?_) (fun j5 hj5 => ?_)
      · refine x_P 160 rfl rfl rfl ?_
        exact x_lv (hj3 (Int32.ofInt (-1))) trivial
      · refine x_ic_lt rfl rfl (fun h9 => ?_) (fun h9 => ?_)
        · exact x_lv (hj5 ()) trivial
        · refine x_P 142 rfl rfl rfl ?_
          refine x_P 144 rfl rfl rfl ?_
          refine x_ic_gt rfl rfl (fun h8 => ?_) (fun h8 => ?_)
          · exact x_lv (hj5 ()) trivial
          · refine x_P 148 rfl rfl rfl ?_
            refine x_gN rfl (fun o6 ho6 => ?_)
            refine x_P 152 rfl rfl rfl ?_
            refine x_P 154 rfl rfl rfl ?_
            refine x_P 155 rfl rfl rfl ?_
            refine x_aI rfl ⟨rfl, rfl⟩ (fun x7 hx7 => ?_)
            refine x_P 160 rfl rfl rfl ?_
            exact x_lv (hj3 x7) trivial
  · skip
    refine x_ite (fun h10 => ?_) (fun h10 => ?_)
    · refine x_P 56 rfl rfl (x_ts h10 (by decide +kernel)) ?_
      refine x_P 57 rfl rfl rfl ?_
      refine x_gN rfl (fun o11 ho11 => ?_)
      refine x_gI rfl (fun x12 hx12 => ?_)
      exact x_retI (x := (x12, th)) rfl
    · skip
      refine x_ite (fun h13 => ?_) (fun h13 => ?_)
      · refine x_P 64 rfl rfl (x_ts h13 (by decide +kernel)) ?_
        refine x_P 65 rfl rfl rfl ?_
        refine x_gN rfl (fun o14 ho14 => ?_)
        refine x_gI rfl (fun x15 hx15 => ?_)
        exact x_retI (x := (x15, th)) rfl
      · skip
        refine x_ite (fun h16 => ?_) (fun h16 => ?_)
        · refine x_P 72 rfl rfl (x_ts h16 (by decide +kernel)) ?_
          refine x_P 73 rfl rfl rfl ?_
          refine x_callV rfl rfl rfl rfl rfl ⟨rfl, rfl⟩ (fun x h => c_63 h) (S_63 d a0 th) (fun q17 hq17 => ?_)
          refine x_gI rfl (fun x18 hx18 => ?_)
          exact x_retI (x := (x18, q17.2)) rfl
        · skip
          refine x_ite (fun h19 => ?_) (fun h19 => ?_)
          · refine x_P 80 rfl rfl (x_ts h19 (by decide +kernel)) ?_
            refine x_P 81 rfl rfl rfl ?_
            refine x_gN rfl (fun o20 ho20 => ?_)
            refine x_P 85 rfl rfl rfl ?_
            refine x_callV rfl rfl rfl rfl rfl ⟨rfl, rfl⟩ (fun x h => c_86 h) (S_86 (d + 3) o20 (Int32.ofInt 4) th) (fun x21 hx21 => ?_)
            exact x_retI (x := (x21, th)) rfl
          · skip
            refine x_ite (fun h22 => ?_) (fun h22 => ?_)
            · refine x_P 89 rfl rfl (x_ts h22 (by decide +kernel)) ?_
              refine x_P 90 rfl rfl rfl ?_
              refine x_gN rfl (fun o23 ho23 => ?_)
              refine x_P 94 rfl rfl rfl ?_
              refine x_callV rfl rfl rfl rfl rfl ⟨rfl, rfl⟩ (fun x h => c_86 h) (S_86 (d + 3) o23 (Int32.ofInt 1) th) (fun x24 hx24 => ?_)
              exact x_retI (x := (x24, th)) rfl
            · skip
              refine x_ite (fun h25 => ?_) (fun h25 => ?_)
              · refine x_P 98 rfl rfl (x_ts h25 (by decide +kernel)) ?_
                refine x_P 99 rfl rfl rfl ?_
                refine x_gN rfl (fun o26 ho26 => ?_)
                refine x_gI rfl (fun x27 hx27 => ?_)
                exact x_retI (x := (x27, th)) rfl
              · skip
                refine x_ite (fun h28 => ?_) (fun h28 => ?_)
                · refine x_P 106 rfl rfl (x_ts h28 (by decide +kernel)) ?_
                  refine x_P 107 rfl rfl rfl ?_
                  refine x_gN rfl (fun o29 ho29 => ?_)
                  refine x_gI rfl (fun x30 hx30 => ?_)
                  exact x_retI (x := (x30, th)) rfl
                · skip
                  refine x_ite (fun h31 => ?_) (fun h31 => ?_)
                  · refine x_P 114 rfl rfl (x_ts h31 (by decide +kernel)) ?_
                    refine x_P 115 rfl rfl rfl ?_
                    refine x_gN rfl (fun o32 ho32 => ?_)
                    refine x_gI rfl (fun x33 hx33 => ?_)
                    exact x_retI (x := (x33, th)) rfl
                  · skip
                    refine x_ite (fun h34 => ?_) (fun h34 => ?_)
                    · refine x_P 122 rfl rfl (x_ts h34 (by decide +kernel)) ?_
                      refine x_P 123 rfl rfl rfl ?_
                      refine x_callV rfl rfl rfl rfl rfl ⟨rfl, rfl⟩ (fun x h => c_61 h) (S_61 (d + 3) a0 th) (fun x35 hx35 => ?_)
                      exact x_retI (x := (x35, th)) rfl
                    · skip
                      refine x_ite (fun h36 => ?_) (fun h36 => ?_)
                      · refine x_P 127 rfl rfl (x_ts h36 (by decide +kernel)) ?_
                        refine x_P 128 rfl rfl rfl ?_
                        refine x_callV rfl rfl rfl rfl rfl ⟨rfl, rfl⟩ (fun x h => c_63 h) (S_63 d a0 th) (fun q37 hq37 => ?_)
                        refine x_callV rfl rfl rfl rfl rfl ⟨rfl, rfl⟩ (fun x h => c_106 h) (S_106 (d + 2) q37.1 q37.2) (fun x38 hx38 => ?_)
                        exact x_retI (x := (x38, q37.2)) rfl
                      · skip
                        exact x_none
-- 184 java/lang/StringUTF16.getChar([BI)C
noncomputable def m_184 (a0 : Nat) (a1 : Int32) (th : tH) : Option (Int32) :=
  none
theorem S_184 {L : Nat} (d : Nat) (a0 : Nat) (a1 : Int32) (th : tH) : Wx L (fun x => (some (.int x), th)) d 184 2 0 [(0, .ref a0), (1, .int a1)] [] th (m_184 a0 a1 th) := by
  unfold m_184
  exact x_none
-- 185 java/lang/StringUTF16.length([B)I
noncomputable def m_185 (a0 : Nat) (th : tH) : Option (Int32) :=
  (aL th a0).bind fun x1 =>
  some (x1 >>> ((Int32.ofInt 1) &&& 31))
theorem S_185 {L : Nat} (d : Nat) (a0 : Nat) (th : tH) : Wx L (fun x => (some (.int x), th)) d 185 1 0 [(0, .ref a0)] [] th (m_185 a0 th) := by
  unfold m_185
  refine x_P 1 rfl rfl rfl ?_
  refine x_aL rfl ⟨rfl, rfl⟩ (fun x1 hx1 => ?_)
  refine x_P 3 rfl rfl rfl ?_
  refine x_P 4 rfl rfl rfl ?_
  exact x_retI (x := (x1 >>> ((Int32.ofInt 1) &&& 31))) rfl
-- 186 java/lang/StringUTF16.charAt([BI)C
noncomputable def m_186 (a0 : Nat) (a1 : Int32) (th : tH) : Option (Int32) :=
  none
theorem S_186 {L : Nat} (d : Nat) (a0 : Nat) (a1 : Int32) (th : tH) : Wx L (fun x => (some (.int x), th)) d 186 2 0 [(0, .ref a0), (1, .int a1)] [] th (m_186 a0 a1 th) := by
  unfold m_186
  refine x_P 1 rfl rfl rfl ?_
  refine x_P 2 rfl rfl rfl ?_
  exact x_none
-- 187 java/lang/StringUTF16.checkIndex(I[B)V
noncomputable def m_187 (a0 : Int32) (a1 : Nat) (th : tH) : Option Unit :=
  none
theorem S_187 {L : Nat} (d : Nat) (a0 : Int32) (a1 : Nat) (th : tH) : Wx L (fun _ => (none, th)) (d + 2) 187 2 0 [(0, .int a0), (1, .ref a1)] [] th (m_187 a0 a1 th) := by
  unfold m_187
  refine x_P 1 rfl rfl rfl ?_
  refine x_P 2 rfl rfl rfl ?_
  exact x_none
-- 189 NineTreesModel.refuse(I)I
noncomputable def m_189 (a0 : Nat) (a1 : Int32) (th : tH) : Option (Int32 × tH) :=
  (gC th 8 a0).bind fun _ =>
  (gN th 8 a0 8).bind fun o1 =>
  (aI th o1 (-a1)).bind fun x2 =>
  (sI th o1 (-a1) (x2 + (Int32.ofInt 1))).bind fun th3 =>
  some (a1, th3)
theorem c_189 {a0 : Nat} {a1 : Int32} {th : tH} {x : (Int32 × tH)} (h : m_189 a0 a1 th = some x) : ∃ fs, th[a0]? = some (.inr (8, fs)) := gC_of h
theorem S_189 {L : Nat} (d : Nat) (a0 : Nat) (a1 : Int32) (th : tH) : Wx L (fun x => (some (.int x.1), x.2)) (d + 1) 189 2 0 [(0, .ref a0), (1, .int a1)] [] th (m_189 a0 a1 th) := by
  unfold m_189
  refine x_gC ?_
  refine x_P 1 rfl rfl rfl ?_
  refine x_gN rfl (fun o1 ho1 => ?_)
  refine x_P 5 rfl rfl rfl ?_
  refine x_P 6 rfl rfl rfl ?_
  refine x_P 7 rfl rfl rfl ?_
  refine x_aI rfl ⟨rfl, rfl⟩ (fun x2 hx2 => ?_)
  refine x_P 9 rfl rfl rfl ?_
  refine x_P 10 rfl rfl rfl ?_
  refine x_sI rfl ⟨rfl, rfl⟩ (fun th3 hth3 => ?_)
  refine x_P 12 rfl rfl rfl ?_
  exact x_retI (x := (a1, th3)) rfl
-- 190 NineTreesModel.in(JJJ)Z
noncomputable def m_190 (a0 : Int64) (a1 : Int64) (a2 : Int64) (th : tH) : Option (Int32) :=
  jn (fun (v1 : Int32) =>
      rB v1
    ) (fun j2 =>
      jn (fun (v3 : Unit) =>
          j2 (Int32.ofInt 0)
        ) (fun j4 =>
          if (lg_cmp a0 a1) < 0 then
            j4 ()
          else
            if 0 < (lg_cmp a0 a2) then
              j4 ()
            else
              j2 (Int32.ofInt 1)
        )
    )
theorem S_190 {L : Nat} (d : Nat) (a0 : Int64) (a1 : Int64) (a2 : Int64) (th : tH) : Wx L (fun x => (some (.int x), th)) d 190 6 0 [(0, .long a0), (2, .long a1), (4, .long a2)] [] th (m_190 a0 a1 a2 th) := by
  unfold m_190
  refine x_P 1 rfl rfl rfl ?_
  refine x_P 2 rfl rfl rfl ?_
  refine x_P 3 rfl rfl rfl ?_
  refine x_jn 18 (fun v1 => []) (fun v1 => [.int v1]) (fun v1 => th) (fun v1 => ?_) (fun j2 hj2 => ?_)
  · exact x_rB rfl
  · refine x_jn 17 (fun v3 => []) (fun v3 => []) (fun v3 => th) (fun v3 => ?_) (fun j4 hj4 => ?_)
    · refine x_P 18 rfl rfl rfl ?_
      exact x_lv (hj2 (Int32.ofInt 0)) trivial
    · refine x_if_lt rfl rfl (fun h6 => ?_) (fun h6 => ?_)
      · exact x_lv (hj4 ()) trivial
      · refine x_P 7 rfl rfl rfl ?_
        refine x_P 9 rfl rfl rfl ?_
        refine x_P 10 rfl rfl rfl ?_
        refine x_if_gt rfl rfl (fun h5 => ?_) (fun h5 => ?_)
        · exact x_lv (hj4 ()) trivial
        · refine x_P 14 rfl rfl rfl ?_
          refine x_P 18 rfl rfl rfl ?_
          exact x_lv (hj2 (Int32.ofInt 1)) trivial
-- 191 NineTreesModel.isTree(I)Z
noncomputable def m_191 (a0 : Nat) (a1 : Int32) (th : tH) : Option (Int32) :=
  (gC th 8 a0).bind fun _ =>
  (gI th 8 a0 10).bind fun x1 =>
  (m_190 (Int32.toInt64 a1) (Int64.ofNat 0) (Int32.toInt64 (x1 - (Int32.ofInt 1))) th).bind fun x2 =>
  rB x2
theorem c_191 {a0 : Nat} {a1 : Int32} {th : tH} {x : (Int32)} (h : m_191 a0 a1 th = some x) : ∃ fs, th[a0]? = some (.inr (8, fs)) := gC_of h
theorem S_191 {L : Nat} (d : Nat) (a0 : Nat) (a1 : Int32) (th : tH) : Wx L (fun x => (some (.int x), th)) (d + 1) 191 2 0 [(0, .ref a0), (1, .int a1)] [] th (m_191 a0 a1 th) := by
  unfold m_191
  refine x_gC ?_
  refine x_P 1 rfl rfl rfl ?_
  refine x_P 2 rfl rfl rfl ?_
  refine x_P 3 rfl rfl rfl ?_
  refine x_P 4 rfl rfl rfl ?_
  refine x_gI rfl (fun x1 hx1 => ?_)
  refine x_P 8 rfl rfl rfl ?_
  refine x_P 9 rfl rfl rfl ?_
  refine x_P 10 rfl rfl rfl ?_
  refine x_callS rfl rfl rfl rfl rfl rfl ⟨rfl, rfl⟩ (S_190 d (Int32.toInt64 a1) (Int64.ofNat 0) (Int32.toInt64 (x1 - (Int32.ofInt 1))) th) (fun x2 hx2 => ?_)
  exact x_rB rfl
-- 192 NineTreesModel.cells()I
noncomputable def m_192 (a0 : Nat) (th : tH) : Option (Int32) :=
  (gC th 8 a0).bind fun _ =>
  (gI th 8 a0 9).bind fun x1 =>
  (gI th 8 a0 9).bind fun x2 =>
  some (x1 * x2)
theorem c_192 {a0 : Nat} {th : tH} {x : (Int32)} (h : m_192 a0 th = some x) : ∃ fs, th[a0]? = some (.inr (8, fs)) := gC_of h
theorem S_192 {L : Nat} (d : Nat) (a0 : Nat) (th : tH) : Wx L (fun x => (some (.int x), th)) d 192 1 0 [(0, .ref a0)] [] th (m_192 a0 th) := by
  unfold m_192
  refine x_gC ?_
  refine x_P 1 rfl rfl rfl ?_
  refine x_gI rfl (fun x1 hx1 => ?_)
  refine x_P 5 rfl rfl rfl ?_
  refine x_gI rfl (fun x2 hx2 => ?_)
  refine x_P 9 rfl rfl rfl ?_
  exact x_retI (x := (x1 * x2)) rfl
-- 193 NineTreesModel.isCell(I)Z
noncomputable def m_193 (a0 : Nat) (a1 : Int32) (th : tH) : Option (Int32) :=
  (gC th 8 a0).bind fun _ =>
  (m_192 a0 th).bind fun x1 =>
  (m_190 (Int32.toInt64 a1) (Int64.ofNat 0) (Int32.toInt64 (x1 - (Int32.ofInt 1))) th).bind fun x2 =>
  rB x2
theorem c_193 {a0 : Nat} {a1 : Int32} {th : tH} {x : (Int32)} (h : m_193 a0 a1 th = some x) : ∃ fs, th[a0]? = some (.inr (8, fs)) := gC_of h
theorem S_193 {L : Nat} (d : Nat) (a0 : Nat) (a1 : Int32) (th : tH) : Wx L (fun x => (some (.int x), th)) (d + 1) 193 2 0 [(0, .ref a0), (1, .int a1)] [] th (m_193 a0 a1 th) := by
  unfold m_193
  refine x_gC ?_
  refine x_P 1 rfl rfl rfl ?_
  refine x_P 2 rfl rfl rfl ?_
  refine x_P 3 rfl rfl rfl ?_
  refine x_P 4 rfl rfl rfl ?_
  refine x_callV rfl rfl rfl rfl rfl ⟨rfl, rfl⟩ (fun x h => c_192 h) (S_192 d a0 th) (fun x1 hx1 => ?_)
  refine x_P 8 rfl rfl rfl ?_
  refine x_P 9 rfl rfl rfl ?_
  refine x_P 10 rfl rfl rfl ?_
  refine x_callS rfl rfl rfl rfl rfl rfl ⟨rfl, rfl⟩ (S_190 d (Int32.toInt64 a1) (Int64.ofNat 0) (Int32.toInt64 (x1 - (Int32.ofInt 1))) th) (fun x2 hx2 => ?_)
  exact x_rB rfl
-- 194 NineTreesModel.inCell(I)I
noncomputable def m_194 (a0 : Nat) (a1 : Int32) (th : tH) : Option (Int32) :=
  (gC th 8 a0).bind fun _ =>
  lp (fun (s1 : Int32) nx2 ex3 =>
      (gI th 8 a0 10).bind fun x5 =>
      if x5 ≤ s1 then
        ex3 ()
      else
        (gN th 8 a0 12).bind fun o6 =>
        (aI th o6 s1).bind fun x7 =>
        if x7 = a1 then
          some s1
        else
          nx2 (s1 + Int32.ofInt 1)
    ) 4096 (Int32.ofInt 0) (fun (x4 : Unit) =>
      some (Int32.ofInt (-1))
    )
theorem c_194 {a0 : Nat} {a1 : Int32} {th : tH} {x : (Int32)} (h : m_194 a0 a1 th = some x) : ∃ fs, th[a0]? = some (.inr (8, fs)) := gC_of h
theorem S_194 {L : Nat} (d : Nat) (a0 : Nat) (a1 : Int32) (th : tH) : Wx L (fun x => (some (.int x), th)) d 194 3 0 [(0, .ref a0), (1, .int a1)] [] th (m_194 a0 a1 th) := by
  unfold m_194
  refine x_gC ?_
  refine x_P 1 rfl rfl rfl ?_
  refine x_P (lv' := [(2, .int (Int32.ofInt 0)), (0, .ref a0), (1, .int a1)]) 2 rfl rfl rfl ?_
  refine x_lv (lv := [(0, .ref a0), (1, .int a1), (2, .int (Int32.ofInt 0))]) (x_lp 28 (fun s1 => [(0, .ref a0), (1, .int a1), (2, .int s1)]) (fun s1 => th) (fun x4 => []) (fun x4 => th) (fun s1 nx2 hnx2 ex3 hex3 => ?_) (fun x4 => ?_) 4096 (Int32.ofInt 0)) ⟨rfl, rfl, rfl, trivial⟩
  · refine x_P 3 rfl rfl rfl ?_
    refine x_P 4 rfl rfl rfl ?_
    refine x_gI rfl (fun x5 hx5 => ?_)
    refine x_ic_ge rfl rfl (fun h9 => ?_) (fun h9 => ?_)
    · exact x_lv (hex3 ()) trivial
    · refine x_P 11 rfl rfl rfl ?_
      refine x_gN rfl (fun o6 ho6 => ?_)
      refine x_P 15 rfl rfl rfl ?_
      refine x_aI rfl ⟨rfl, rfl⟩ (fun x7 hx7 => ?_)
      refine x_P 17 rfl rfl rfl ?_
      refine x_ic_ne rfl rfl (fun h8 => ?_) (fun h8 => ?_)
      · refine x_P 21 rfl rfl rfl ?_
        exact x_retI (x := s1) rfl
      · refine x_P (lv' := [(2, .int (s1 + Int32.ofInt 1)), (0, .ref a0), (1, .int a1)]) 25 rfl rfl rfl ?_
        refine x_P 2 rfl rfl rfl ?_
        exact x_lv (hnx2 (s1 + Int32.ofInt 1)) ⟨rfl, rfl, rfl, trivial⟩
  · refine x_P 29 rfl rfl rfl ?_
    exact x_retI (x := (Int32.ofInt (-1))) rfl
-- 195 NineTreesModel.has(II)Z
noncomputable def m_195 (a0 : Int32) (a1 : Int32) (th : tH) : Option (Int32) :=
  jn (fun (v1 : Int32) =>
      rB v1
    ) (fun j2 =>
      if ((a0 >>> (a1 &&& 31)) &&& (Int32.ofInt 1)) = 0 then
        j2 (Int32.ofInt 0)
      else
        j2 (Int32.ofInt 1)
    )
theorem S_195 {L : Nat} (d : Nat) (a0 : Int32) (a1 : Int32) (th : tH) : Wx L (fun x => (some (.int x), th)) d 195 2 0 [(0, .int a0), (1, .int a1)] [] th (m_195 a0 a1 th) := by
  unfold m_195
  refine x_P 1 rfl rfl rfl ?_
  refine x_P 2 rfl rfl rfl ?_
  refine x_P 3 rfl rfl rfl ?_
  refine x_P 4 rfl rfl rfl ?_
  refine x_P 5 rfl rfl rfl ?_
  refine x_jn 13 (fun v1 => []) (fun v1 => [.int v1]) (fun v1 => th) (fun v1 => ?_) (fun j2 hj2 => ?_)
  · exact x_rB rfl
  · refine x_if_eq rfl rfl (fun h3 => ?_) (fun h3 => ?_)
    · refine x_P 13 rfl rfl rfl ?_
      exact x_lv (hj2 (Int32.ofInt 0)) trivial
    · refine x_P 9 rfl rfl rfl ?_
      refine x_P 13 rfl rfl rfl ?_
      exact x_lv (hj2 (Int32.ofInt 1)) trivial
-- 196 NineTreesModel.bits(I)I
noncomputable def m_196 (a0 : Int32) (th : tH) : Option (Int32) :=
  lp (fun (s1 : Int32 × Int32) nx2 ex3 =>
      if (Int8.ofInt 12).toInt32 ≤ s1.2 then
        ex3 s1.1
      else
        nx2 ((s1.1 + ((a0 >>> (s1.2 &&& 31)) &&& (Int32.ofInt 1))), (s1.2 + Int32.ofInt 1))
    ) 4096 ((Int32.ofInt 0), (Int32.ofInt 0)) (fun (x4 : Int32) =>
      some x4
    )
theorem S_196 {L : Nat} (d : Nat) (a0 : Int32) (th : tH) : Wx L (fun x => (some (.int x), th)) d 196 3 0 [(0, .int a0)] [] th (m_196 a0 th) := by
  unfold m_196
  refine x_P 1 rfl rfl rfl ?_
  refine x_P (lv' := [(1, .int (Int32.ofInt 0)), (0, .int a0)]) 2 rfl rfl rfl ?_
  refine x_P 3 rfl rfl rfl ?_
  refine x_P (lv' := [(2, .int (Int32.ofInt 0)), (1, .int (Int32.ofInt 0)), (0, .int a0)]) 4 rfl rfl rfl ?_
  refine x_lv (lv := [(0, .int a0), (1, .int (Int32.ofInt 0)), (2, .int (Int32.ofInt 0))]) (x_lp 24 (fun s1 => [(0, .int a0), (1, .int s1.1), (2, .int s1.2)]) (fun s1 => th) (fun x4 => [(1, .int x4)]) (fun x4 => th) (fun s1 nx2 hnx2 ex3 hex3 => ?_) (fun x4 => ?_) 4096 ((Int32.ofInt 0), (Int32.ofInt 0))) ⟨rfl, rfl, rfl, trivial⟩
  · refine x_P 5 rfl rfl rfl ?_
    refine x_P 7 rfl rfl rfl ?_
    refine x_ic_ge rfl rfl (fun h5 => ?_) (fun h5 => ?_)
    · exact x_lv (hex3 s1.1) ⟨rfl, trivial⟩
    · refine x_P 11 rfl rfl rfl ?_
      refine x_P 12 rfl rfl rfl ?_
      refine x_P 13 rfl rfl rfl ?_
      refine x_P 14 rfl rfl rfl ?_
      refine x_P 15 rfl rfl rfl ?_
      refine x_P 16 rfl rfl rfl ?_
      refine x_P 17 rfl rfl rfl ?_
      refine x_P (lv' := [(1, .int (s1.1 + ((a0 >>> (s1.2 &&& 31)) &&& (Int32.ofInt 1)))), (0, .int a0), (2, .int s1.2)]) 18 rfl rfl rfl ?_
      refine x_P (lv' := [(2, .int (s1.2 + Int32.ofInt 1)), (1, .int (s1.1 + ((a0 >>> (s1.2 &&& 31)) &&& (Int32.ofInt 1)))), (0, .int a0)]) 21 rfl rfl rfl ?_
      refine x_P 4 rfl rfl rfl ?_
      exact x_lv (hnx2 ((s1.1 + ((a0 >>> (s1.2 &&& 31)) &&& (Int32.ofInt 1))), (s1.2 + Int32.ofInt 1))) ⟨rfl, rfl, rfl, trivial⟩
  · refine x_P 25 rfl rfl rfl ?_
    exact x_retI (x := x4) rfl
-- 197 NineTreesModel.isFirm(I)Z
noncomputable def m_197 (a0 : Nat) (a1 : Int32) (th : tH) : Option (Int32) :=
  (gC th 8 a0).bind fun _ =>
  (gN th 8 a0 11).bind fun o1 =>
  (aI th o1 a1).bind fun x2 =>
  jn (fun (v3 : Int32) =>
      rB v3
    ) (fun j4 =>
      jn (fun (v5 : Unit) =>
          j4 (Int32.ofInt 1)
        ) (fun j6 =>
          if x2 = (Int32.ofInt 1) then
            j6 ()
          else
            (gN th 8 a0 11).bind fun o7 =>
            (aI th o7 a1).bind fun x8 =>
            if x8 = (Int32.ofInt 3) then
              j6 ()
            else
              j4 (Int32.ofInt 0)
        )
    )
theorem c_197 {a0 : Nat} {a1 : Int32} {th : tH} {x : (Int32)} (h : m_197 a0 a1 th = some x) : ∃ fs, th[a0]? = some (.inr (8, fs)) := gC_of h
theorem S_197 {L : Nat} (d : Nat) (a0 : Nat) (a1 : Int32) (th : tH) : Wx L (fun x => (some (.int x), th)) d 197 2 0 [(0, .ref a0), (1, .int a1)] [] th (m_197 a0 a1 th) := by
  unfold m_197
  refine x_gC ?_
  refine x_P 1 rfl rfl rfl ?_
  refine x_gN rfl (fun o1 ho1 => ?_)
  refine x_P 5 rfl rfl rfl ?_
  refine x_aI rfl ⟨rfl, rfl⟩ (fun x2 hx2 => ?_)
  refine x_P 7 rfl rfl rfl ?_
  refine x_jn 25 (fun v3 => []) (fun v3 => [.int v3]) (fun v3 => th) (fun v3 => ?_) (fun j4 hj4 => ?_)
  · exact x_rB rfl
  · refine x_jn 20 (fun v5 => []) (fun v5 => []) (fun v5 => th) (fun v5 => ?_) (fun j6 hj6 => ?_)
    · refine x_P 21 rfl rfl rfl ?_
      refine x_P 25 rfl rfl rfl ?_
      exact x_lv (hj4 (Int32.ofInt 1)) trivial
    · refine x_ic_eq rfl rfl (fun h10 => ?_) (fun h10 => ?_)
      · exact x_lv (hj6 ()) trivial
      · refine x_P 11 rfl rfl rfl ?_
        refine x_gN rfl (fun o7 ho7 => ?_)
        refine x_P 15 rfl rfl rfl ?_
        refine x_aI rfl ⟨rfl, rfl⟩ (fun x8 hx8 => ?_)
        refine x_P 17 rfl rfl rfl ?_
        refine x_ic_ne rfl rfl (fun h9 => ?_) (fun h9 => ?_)
        · exact x_lv (hj6 ()) trivial
        · refine x_P 25 rfl rfl rfl ?_
          exact x_lv (hj4 (Int32.ofInt 0)) trivial
-- 198 NineTreesModel.isLow(I)Z
noncomputable def m_198 (a0 : Nat) (a1 : Int32) (th : tH) : Option (Int32) :=
  (gC th 8 a0).bind fun _ =>
  (gN th 8 a0 11).bind fun o1 =>
  (aI th o1 a1).bind fun x2 =>
  jn (fun (v3 : Int32) =>
      rB v3
    ) (fun j4 =>
      jn (fun (v5 : Unit) =>
          j4 (Int32.ofInt 1)
        ) (fun j6 =>
          if x2 = (Int32.ofInt 2) then
            j6 ()
          else
            (gN th 8 a0 11).bind fun o7 =>
            (aI th o7 a1).bind fun x8 =>
            if x8 = (Int32.ofInt 5) then
              j6 ()
            else
              j4 (Int32.ofInt 0)
        )
    )
theorem c_198 {a0 : Nat} {a1 : Int32} {th : tH} {x : (Int32)} (h : m_198 a0 a1 th = some x) : ∃ fs, th[a0]? = some (.inr (8, fs)) := gC_of h
theorem S_198 {L : Nat} (d : Nat) (a0 : Nat) (a1 : Int32) (th : tH) : Wx L (fun x => (some (.int x), th)) d 198 2 0 [(0, .ref a0), (1, .int a1)] [] th (m_198 a0 a1 th) := by
  unfold m_198
  refine x_gC ?_
  refine x_P 1 rfl rfl rfl ?_
  refine x_gN rfl (fun o1 ho1 => ?_)
  refine x_P 5 rfl rfl rfl ?_
  refine x_aI rfl ⟨rfl, rfl⟩ (fun x2 hx2 => ?_)
  refine x_P 7 rfl rfl rfl ?_
  refine x_jn 25 (fun v3 => []) (fun v3 => [.int v3]) (fun v3 => th) (fun v3 => ?_) (fun j4 hj4 => ?_)
  · exact x_rB rfl
  · refine x_jn 20 (fun v5 => []) (fun v5 => []) (fun v5 => th) (fun v5 => ?_) (fun j6 hj6 => ?_)
    · refine x_P 21 rfl rfl rfl ?_
      refine x_P 25 rfl rfl rfl ?_
      exact x_lv (hj4 (Int32.ofInt 1)) trivial
    · refine x_ic_eq rfl rfl (fun h10 => ?_) (fun h10 => ?_)
      · exact x_lv (hj6 ()) trivial
      · refine x_P 11 rfl rfl rfl ?_
        refine x_gN rfl (fun o7 ho7 => ?_)
        refine x_P 15 rfl rfl rfl ?_
        refine x_aI rfl ⟨rfl, rfl⟩ (fun x8 hx8 => ?_)
        refine x_P 17 rfl rfl rfl ?_
        refine x_ic_ne rfl rfl (fun h9 => ?_) (fun h9 => ?_)
        · exact x_lv (hj6 ()) trivial
        · refine x_P 25 rfl rfl rfl ?_
          exact x_lv (hj4 (Int32.ofInt 0)) trivial
-- 199 NineTreesModel.row(III)I
noncomputable def m_199 (a0 : Nat) (a1 : Int32) (a2 : Int32) (a3 : Int32) (th : tH) : Option (Int32 × tH) :=
  (gC th 8 a0).bind fun _ =>
  (m_190 (Int32.toInt64 a1) (Int64.ofNat 0) (Int64.ofNat 7) th).bind fun x1 =>
  jn (fun (v2 : Unit) =>
      (m_189 a0 (Int8.ofInt (-2)).toInt32 th).bind fun q4 =>
      some (q4.1, q4.2)
    ) (fun j3 =>
      if x1 = 0 then
        j3 ()
      else
        (m_190 (Int32.toInt64 a2) (Int64.ofNat 0) (Int64.ofNat 4) th).bind fun x5 =>
        if x5 = 0 then
          j3 ()
        else
          (m_190 (Int32.toInt64 a3) (Int64.ofNat 0) (Int64.ofNat 40) th).bind fun x6 =>
          if x6 = 0 then
            j3 ()
          else
            (gN th 8 a0 0).bind fun o7 =>
            (sI th o7 a1 (Int32.ofInt 1)).bind fun th8 =>
            (gN th8 8 a0 1).bind fun o9 =>
            (sI th8 o9 a1 a2).bind fun th10 =>
            (gN th10 8 a0 2).bind fun o11 =>
            (sI th10 o11 a1 a3).bind fun th12 =>
            lp (fun (s13 : Int32 × tH) nx14 ex15 =>
                if (Int8.ofInt 40).toInt32 ≤ s13.1 then
                  ex15 s13.2
                else
                  (gN s13.2 8 a0 3).bind fun o17 =>
                  (aN s13.2 o17 a1).bind fun o18 =>
                  (sJ s13.2 o18 s13.1 (Int64.ofNat 0)).bind fun th19 =>
                  nx14 ((s13.1 + Int32.ofInt 1), th19)
              ) 4096 ((Int32.ofInt 0), th12) (fun (x16 : tH) =>
                some ((Int32.ofInt 1), x16)
              )
    )
theorem c_199 {a0 : Nat} {a1 : Int32} {a2 : Int32} {a3 : Int32} {th : tH} {x : (Int32 × tH)} (h : m_199 a0 a1 a2 a3 th = some x) : ∃ fs, th[a0]? = some (.inr (8, fs)) := gC_of h
theorem S_199 {L : Nat} (d : Nat) (a0 : Nat) (a1 : Int32) (a2 : Int32) (a3 : Int32) (th : tH) : Wx L (fun x => (some (.int x.1), x.2)) (d + 2) 199 5 0 [(0, .ref a0), (1, .int a1), (2, .int a2), (3, .int a3)] [] th (m_199 a0 a1 a2 a3 th) := by
  unfold m_199
  refine x_gC ?_
  refine x_P 1 rfl rfl rfl ?_
  refine x_P 2 rfl rfl rfl ?_
  refine x_P 3 rfl rfl rfl ?_
  refine x_P 6 rfl rfl rfl ?_
  refine x_callS rfl rfl rfl rfl rfl rfl ⟨rfl, rfl⟩ (S_190 (d + 1) (Int32.toInt64 a1) (Int64.ofNat 0) (Int64.ofNat 7) th) (fun x1 hx1 => ?_)
  refine x_jn 36 (fun v2 => [(0, .ref a0)]) (fun v2 => []) (fun v2 => th) (fun v2 => ?_) (fun j3 hj3 => ?_)
  · refine x_P 37 rfl rfl rfl ?_
    refine x_P 39 rfl rfl rfl ?_
    refine x_callV rfl rfl rfl rfl rfl ⟨rfl, rfl⟩ (fun x h => c_189 h) (S_189 d a0 (Int8.ofInt (-2)).toInt32 th) (fun q4 hq4 => ?_)
    exact x_retI (x := (q4.1, q4.2)) rfl
  · refine x_if_eq rfl rfl (fun h23 => ?_) (fun h23 => ?_)
    · exact x_lv (hj3 ()) ⟨rfl, trivial⟩
    · refine x_P 13 rfl rfl rfl ?_
      refine x_P 14 rfl rfl rfl ?_
      refine x_P 15 rfl rfl rfl ?_
      refine x_P 18 rfl rfl rfl ?_
      refine x_callS rfl rfl rfl rfl rfl rfl ⟨rfl, rfl⟩ (S_190 (d + 1) (Int32.toInt64 a2) (Int64.ofNat 0) (Int64.ofNat 4) th) (fun x5 hx5 => ?_)
      refine x_if_eq rfl rfl (fun h22 => ?_) (fun h22 => ?_)
      · exact x_lv (hj3 ()) ⟨rfl, trivial⟩
      · refine x_P 25 rfl rfl rfl ?_
        refine x_P 26 rfl rfl rfl ?_
        refine x_P 27 rfl rfl rfl ?_
        refine x_P 30 rfl rfl rfl ?_
        refine x_callS rfl rfl rfl rfl rfl rfl ⟨rfl, rfl⟩ (S_190 (d + 1) (Int32.toInt64 a3) (Int64.ofNat 0) (Int64.ofNat 40) th) (fun x6 hx6 => ?_)
        refine x_if_ne rfl rfl (fun h21 => ?_) (fun h21 => ?_)
        · exact x_lv (hj3 ()) ⟨rfl, trivial⟩
        · refine x_P 44 rfl rfl rfl ?_
          refine x_gN rfl (fun o7 ho7 => ?_)
          refine x_P 48 rfl rfl rfl ?_
          refine x_P 49 rfl rfl rfl ?_
          refine x_sI rfl ⟨rfl, rfl⟩ (fun th8 hth8 => ?_)
          refine x_P 51 rfl rfl rfl ?_
          refine x_gN rfl (fun o9 ho9 => ?_)
          refine x_P 55 rfl rfl rfl ?_
          refine x_P 56 rfl rfl rfl ?_
          refine x_sI rfl ⟨rfl, rfl⟩ (fun th10 hth10 => ?_)
          refine x_P 58 rfl rfl rfl ?_
          refine x_gN rfl (fun o11 ho11 => ?_)
          refine x_P 62 rfl rfl rfl ?_
          refine x_P 63 rfl rfl rfl ?_
          refine x_sI rfl ⟨rfl, rfl⟩ (fun th12 hth12 => ?_)
          refine x_P 65 rfl rfl rfl ?_
          refine x_P (lv' := [(4, .int (Int32.ofInt 0)), (0, .ref a0), (1, .int a1), (2, .int a2), (3, .int a3)]) 67 rfl rfl rfl ?_
          refine x_lv (lv := [(0, .ref a0), (1, .int a1), (4, .int (Int32.ofInt 0))]) (x_lp 90 (fun s13 => [(0, .ref a0), (1, .int a1), (4, .int s13.1)]) (fun s13 => s13.2) (fun x16 => []) (fun x16 => x16) (fun s13 nx14 hnx14 ex15 hex15 => ?_) (fun x16 => ?_) 4096 ((Int32.ofInt 0), th12)) ⟨rfl, rfl, rfl, trivial⟩
          · refine x_P 69 rfl rfl rfl ?_
            refine x_P 71 rfl rfl rfl ?_
            refine x_ic_ge rfl rfl (fun h20 => ?_) (fun h20 => ?_)
            · exact x_lv (hex15 s13.2) trivial
            · refine x_P 75 rfl rfl rfl ?_
              refine x_gN rfl (fun o17 ho17 => ?_)
              refine x_P 79 rfl rfl rfl ?_
              refine x_aN rfl ⟨rfl, rfl⟩ (fun o18 ho18 => ?_)
              refine x_P 82 rfl rfl rfl ?_
              refine x_P 83 rfl rfl rfl ?_
              refine x_sJ rfl ⟨rfl, rfl⟩ (fun th19 hth19 => ?_)
              refine x_P (lv' := [(4, .int (s13.1 + Int32.ofInt 1)), (0, .ref a0), (1, .int a1)]) 87 rfl rfl rfl ?_
              refine x_P 67 rfl rfl rfl ?_
              exact x_lv (hnx14 ((s13.1 + Int32.ofInt 1), th19)) ⟨rfl, rfl, rfl, trivial⟩
          · refine x_P 91 rfl rfl rfl ?_
            exact x_retI (x := ((Int32.ofInt 1), x16)) rfl
-- 200 NineTreesModel.fit(IJ)J
noncomputable def m_200 (a0 : Int32) (a1 : Int64) (th : tH) : Option (Int64) :=
  if a0 < 0 ∨ 3 < a0 then
    jn (fun (v2 : Int64) =>
        some v2
      ) (fun j3 =>
        if (lg_cmp a1 (Int64.ofNat 0)) = 0 then
          j3 (Int64.ofNat 0)
        else
          j3 (Int64.ofNat 1)
      )
  else if a0 = 0 then
    some (Int32.toInt64 (Int32.toInt8 (Int64.toInt32 a1)).toInt32)
  else if a0 = 1 then
    some (Int32.toInt64 (Int32.toInt16 (Int64.toInt32 a1)).toInt32)
  else if a0 = 2 then
    some (Int32.toInt64 (Int64.toInt32 a1))
  else if a0 = 3 then
    some a1
  else
    none
theorem S_200 {L : Nat} (d : Nat) (a0 : Int32) (a1 : Int64) (th : tH) : Wx L (fun x => (some (.long x), th)) d 200 3 0 [(0, .int a0), (1, .long a1)] [] th (m_200 a0 a1 th) := by
  unfold m_200
  refine x_P 1 rfl rfl rfl ?_
  refine x_ite (fun h1 => ?_) (fun h1 => ?_)
  · refine x_P 48 rfl rfl (x_td h1 (by decide +kernel)) ?_
    refine x_P 49 rfl rfl rfl ?_
    refine x_P 50 rfl rfl rfl ?_
    refine x_P 51 rfl rfl rfl ?_
    refine x_jn 59 (fun v2 => []) (fun v2 => [.long v2]) (fun v2 => th) (fun v2 => ?_) (fun j3 hj3 => ?_)
    · exact x_retJ (x := v2) rfl
    · refine x_if_eq rfl rfl (fun h4 => ?_) (fun h4 => ?_)
      · refine x_P 59 rfl rfl rfl ?_
        exact x_lv (hj3 (Int64.ofNat 0)) trivial
      · refine x_P 55 rfl rfl rfl ?_
        refine x_P 59 rfl rfl rfl ?_
        exact x_lv (hj3 (Int64.ofNat 1)) trivial
  · skip
    refine x_ite (fun h5 => ?_) (fun h5 => ?_)
    · refine x_P 32 rfl rfl (x_ts h5 (by decide +kernel)) ?_
      refine x_P 33 rfl rfl rfl ?_
      refine x_P 34 rfl rfl rfl ?_
      refine x_P 35 rfl rfl rfl ?_
      refine x_P 36 rfl rfl rfl ?_
      exact x_retJ (x := (Int32.toInt64 (Int32.toInt8 (Int64.toInt32 a1)).toInt32)) rfl
    · skip
      refine x_ite (fun h6 => ?_) (fun h6 => ?_)
      · refine x_P 37 rfl rfl (x_ts h6 (by decide +kernel)) ?_
        refine x_P 38 rfl rfl rfl ?_
        refine x_P 39 rfl rfl rfl ?_
        refine x_P 40 rfl rfl rfl ?_
        refine x_P 41 rfl rfl rfl ?_
        exact x_retJ (x := (Int32.toInt64 (Int32.toInt16 (Int64.toInt32 a1)).toInt32)) rfl
      · skip
        refine x_ite (fun h7 => ?_) (fun h7 => ?_)
        · refine x_P 42 rfl rfl (x_ts h7 (by decide +kernel)) ?_
          refine x_P 43 rfl rfl rfl ?_
          refine x_P 44 rfl rfl rfl ?_
          refine x_P 45 rfl rfl rfl ?_
          exact x_retJ (x := (Int32.toInt64 (Int64.toInt32 a1))) rfl
        · skip
          refine x_ite (fun h8 => ?_) (fun h8 => ?_)
          · refine x_P 46 rfl rfl (x_ts h8 (by decide +kernel)) ?_
            refine x_P 47 rfl rfl rfl ?_
            exact x_retJ (x := a1) rfl
          · skip
            exact x_none
-- 201 NineTreesModel.noRow(I)I
noncomputable def m_201 (a0 : Nat) (a1 : Int32) (th : tH) : Option (Int32 × tH) :=
  (gC th 8 a0).bind fun _ =>
  (m_190 (Int32.toInt64 a1) (Int64.ofNat 0) (Int64.ofNat 7) th).bind fun x1 =>
  if x1 = 0 then
    (m_189 a0 (Int8.ofInt (-2)).toInt32 th).bind fun q12 =>
    some (q12.1, q12.2)
  else
    (gN th 8 a0 0).bind fun o2 =>
    (aI th o2 a1).bind fun x3 =>
    if x3 = (Int32.ofInt 2) then
      (m_189 a0 (Int8.ofInt (-3)).toInt32 th).bind fun q10 =>
      some (q10.1, q10.2)
    else
      (gN th 8 a0 0).bind fun o4 =>
      (aI th o4 a1).bind fun x5 =>
      jn (fun (v6 : Int32 × tH) =>
          some (v6.1, v6.2)
        ) (fun j7 =>
          if x5 = 0 then
            (m_189 a0 (Int8.ofInt (-4)).toInt32 th).bind fun q8 =>
            j7 (q8.1, q8.2)
          else
            j7 ((Int32.ofInt 0), th)
        )
theorem c_201 {a0 : Nat} {a1 : Int32} {th : tH} {x : (Int32 × tH)} (h : m_201 a0 a1 th = some x) : ∃ fs, th[a0]? = some (.inr (8, fs)) := gC_of h
theorem S_201 {L : Nat} (d : Nat) (a0 : Nat) (a1 : Int32) (th : tH) : Wx L (fun x => (some (.int x.1), x.2)) (d + 2) 201 2 0 [(0, .ref a0), (1, .int a1)] [] th (m_201 a0 a1 th) := by
  unfold m_201
  refine x_gC ?_
  refine x_P 1 rfl rfl rfl ?_
  refine x_P 2 rfl rfl rfl ?_
  refine x_P 3 rfl rfl rfl ?_
  refine x_P 6 rfl rfl rfl ?_
  refine x_callS rfl rfl rfl rfl rfl rfl ⟨rfl, rfl⟩ (S_190 (d + 1) (Int32.toInt64 a1) (Int64.ofNat 0) (Int64.ofNat 7) th) (fun x1 hx1 => ?_)
  refine x_if_ne rfl rfl (fun h13 => ?_) (fun h13 => ?_)
  · refine x_P 13 rfl rfl rfl ?_
    refine x_P 15 rfl rfl rfl ?_
    refine x_callV rfl rfl rfl rfl rfl ⟨rfl, rfl⟩ (fun x h => c_189 h) (S_189 d a0 (Int8.ofInt (-2)).toInt32 th) (fun q12 hq12 => ?_)
    exact x_retI (x := (q12.1, q12.2)) rfl
  · refine x_P 20 rfl rfl rfl ?_
    refine x_gN rfl (fun o2 ho2 => ?_)
    refine x_P 24 rfl rfl rfl ?_
    refine x_aI rfl ⟨rfl, rfl⟩ (fun x3 hx3 => ?_)
    refine x_P 26 rfl rfl rfl ?_
    refine x_ic_ne rfl rfl (fun h11 => ?_) (fun h11 => ?_)
    · refine x_P 30 rfl rfl rfl ?_
      refine x_P 32 rfl rfl rfl ?_
      refine x_callV rfl rfl rfl rfl rfl ⟨rfl, rfl⟩ (fun x h => c_189 h) (S_189 d a0 (Int8.ofInt (-3)).toInt32 th) (fun q10 hq10 => ?_)
      exact x_retI (x := (q10.1, q10.2)) rfl
    · refine x_P 37 rfl rfl rfl ?_
      refine x_gN rfl (fun o4 ho4 => ?_)
      refine x_P 41 rfl rfl rfl ?_
      refine x_aI rfl ⟨rfl, rfl⟩ (fun x5 hx5 => ?_)
      refine x_jn 55 (fun v6 => []) (fun v6 => [.int v6.1]) (fun v6 => v6.2) (fun v6 => ?_) (fun j7 hj7 => ?_)
      · exact x_retI (x := (v6.1, v6.2)) rfl
      · refine x_if_ne rfl rfl (fun h9 => ?_) (fun h9 => ?_)
        · refine x_P 46 rfl rfl rfl ?_
          refine x_P 48 rfl rfl rfl ?_
          refine x_callV rfl rfl rfl rfl rfl ⟨rfl, rfl⟩ (fun x h => c_189 h) (S_189 d a0 (Int8.ofInt (-4)).toInt32 th) (fun q8 hq8 => ?_)
          refine x_P 55 rfl rfl rfl ?_
          exact x_lv (hj7 (q8.1, q8.2)) trivial
        · refine x_P 55 rfl rfl rfl ?_
          exact x_lv (hj7 ((Int32.ofInt 0), th)) trivial
-- 202 NineTreesModel.set(IIJ)I
noncomputable def m_202 (a0 : Nat) (a1 : Int32) (a2 : Int32) (a3 : Int64) (th : tH) : Option (Int32 × tH) :=
  (gC th 8 a0).bind fun _ =>
  (m_201 a0 a1 th).bind fun q1 =>
  if q1.1 = 0 then
    (gN q1.2 8 a0 2).bind fun o2 =>
    (aI q1.2 o2 a1).bind fun x3 =>
    (m_190 (Int32.toInt64 a2) (Int64.ofNat 0) (Int32.toInt64 (x3 - (Int32.ofInt 1))) q1.2).bind fun x4 =>
    if x4 = 0 then
      (m_189 a0 (Int8.ofInt (-2)).toInt32 q1.2).bind fun q11 =>
      some (q11.1, q11.2)
    else
      (gN q1.2 8 a0 3).bind fun o5 =>
      (aN q1.2 o5 a1).bind fun o6 =>
      (gN q1.2 8 a0 1).bind fun o7 =>
      (aI q1.2 o7 a1).bind fun x8 =>
      (m_200 x8 a3 q1.2).bind fun x9 =>
      (sJ q1.2 o6 a2 x9).bind fun th10 =>
      some ((Int32.ofInt 1), th10)
  else
    some (q1.1, q1.2)
theorem c_202 {a0 : Nat} {a1 : Int32} {a2 : Int32} {a3 : Int64} {th : tH} {x : (Int32 × tH)} (h : m_202 a0 a1 a2 a3 th = some x) : ∃ fs, th[a0]? = some (.inr (8, fs)) := gC_of h
theorem S_202 {L : Nat} (d : Nat) (a0 : Nat) (a1 : Int32) (a2 : Int32) (a3 : Int64) (th : tH) : Wx L (fun x => (some (.int x.1), x.2)) (d + 3) 202 6 0 [(0, .ref a0), (1, .int a1), (2, .int a2), (3, .long a3)] [] th (m_202 a0 a1 a2 a3 th) := by
  unfold m_202
  refine x_gC ?_
  refine x_P 1 rfl rfl rfl ?_
  refine x_P 2 rfl rfl rfl ?_
  refine x_callV rfl rfl rfl rfl rfl ⟨rfl, rfl⟩ (fun x h => c_201 h) (S_201 d a0 a1 th) (fun q1 hq1 => ?_)
  refine x_P (lv' := [(5, .int q1.1), (0, .ref a0), (1, .int a1), (2, .int a2), (3, .long a3)]) 7 rfl rfl rfl ?_
  refine x_P 9 rfl rfl rfl ?_
  refine x_if_eq rfl rfl (fun h13 => ?_) (fun h13 => ?_)
  · refine x_P 16 rfl rfl rfl ?_
    refine x_P 17 rfl rfl rfl ?_
    refine x_P 18 rfl rfl rfl ?_
    refine x_P 19 rfl rfl rfl ?_
    refine x_gN rfl (fun o2 ho2 => ?_)
    refine x_P 23 rfl rfl rfl ?_
    refine x_aI rfl ⟨rfl, rfl⟩ (fun x3 hx3 => ?_)
    refine x_P 25 rfl rfl rfl ?_
    refine x_P 26 rfl rfl rfl ?_
    refine x_P 27 rfl rfl rfl ?_
    refine x_callS rfl rfl rfl rfl rfl rfl ⟨rfl, rfl⟩ (S_190 (d + 2) (Int32.toInt64 a2) (Int64.ofNat 0) (Int32.toInt64 (x3 - (Int32.ofInt 1))) q1.2) (fun x4 hx4 => ?_)
    refine x_if_ne rfl rfl (fun h12 => ?_) (fun h12 => ?_)
    · refine x_P 34 rfl rfl rfl ?_
      refine x_P 36 rfl rfl rfl ?_
      refine x_callV rfl rfl rfl rfl rfl ⟨rfl, rfl⟩ (fun x h => c_189 h) (S_189 (d + 1) a0 (Int8.ofInt (-2)).toInt32 q1.2) (fun q11 hq11 => ?_)
      exact x_retI (x := (q11.1, q11.2)) rfl
    · refine x_P 41 rfl rfl rfl ?_
      refine x_gN rfl (fun o5 ho5 => ?_)
      refine x_P 45 rfl rfl rfl ?_
      refine x_aN rfl ⟨rfl, rfl⟩ (fun o6 ho6 => ?_)
      refine x_P 47 rfl rfl rfl ?_
      refine x_P 48 rfl rfl rfl ?_
      refine x_gN rfl (fun o7 ho7 => ?_)
      refine x_P 52 rfl rfl rfl ?_
      refine x_aI rfl ⟨rfl, rfl⟩ (fun x8 hx8 => ?_)
      refine x_P 54 rfl rfl rfl ?_
      refine x_callS rfl rfl rfl rfl rfl rfl ⟨rfl, rfl⟩ (S_200 (d + 2) x8 a3 q1.2) (fun x9 hx9 => ?_)
      refine x_sJ rfl ⟨rfl, rfl⟩ (fun th10 hth10 => ?_)
      refine x_P 59 rfl rfl rfl ?_
      exact x_retI (x := ((Int32.ofInt 1), th10)) rfl
  · refine x_P 14 rfl rfl rfl ?_
    exact x_retI (x := (q1.1, q1.2)) rfl
-- 203 NineTreesModel.copy(IIIII)I
noncomputable def m_203 (a0 : Nat) (a1 : Int32) (a2 : Int32) (a3 : Int32) (a4 : Int32) (a5 : Int32) (th : tH) : Option (Int32 × tH) :=
  (gC th 8 a0).bind fun _ =>
  (m_190 (Int32.toInt64 a1) (Int64.ofNat 0) (Int64.ofNat 7) th).bind fun x1 =>
  jn (fun (v2 : Unit) =>
      (m_189 a0 (Int8.ofInt (-2)).toInt32 th).bind fun q4 =>
      some (q4.1, q4.2)
    ) (fun j3 =>
      if x1 = 0 then
        j3 ()
      else
        (m_190 (Int32.toInt64 a2) (Int64.ofNat 0) (Int64.ofNat 7) th).bind fun x5 =>
        if x5 = 0 then
          j3 ()
        else
          (gN th 8 a0 0).bind fun o6 =>
          (aI th o6 a1).bind fun x7 =>
          jn (fun (v8 : Unit) =>
              (m_189 a0 (Int8.ofInt (-3)).toInt32 th).bind fun q10 =>
              some (q10.1, q10.2)
            ) (fun j9 =>
              if x7 = (Int32.ofInt 2) then
                j9 ()
              else
                (gN th 8 a0 0).bind fun o11 =>
                (aI th o11 a2).bind fun x12 =>
                if x12 = (Int32.ofInt 2) then
                  j9 ()
                else
                  (gN th 8 a0 0).bind fun o13 =>
                  (aI th o13 a1).bind fun x14 =>
                  jn (fun (v15 : Unit) =>
                      (gN th 8 a0 0).bind fun o17 =>
                      (aI th o17 a1).bind fun x18 =>
                      jn (fun (v19 : Unit) =>
                          (m_189 a0 (Int8.ofInt (-4)).toInt32 th).bind fun q21 =>
                          some (q21.1, q21.2)
                        ) (fun j20 =>
                          if x18 = 0 then
                            j20 ()
                          else
                            (gN th 8 a0 0).bind fun o22 =>
                            (aI th o22 a2).bind fun x23 =>
                            if x23 = 0 then
                              j20 ()
                            else
                              jn (fun (v24 : Unit) =>
                                  (m_189 a0 (Int8.ofInt (-2)).toInt32 th).bind fun q26 =>
                                  some (q26.1, q26.2)
                                ) (fun j25 =>
                                  if a5 < 0 then
                                    j25 ()
                                  else
                                    if a3 < 0 then
                                      j25 ()
                                    else
                                      if a4 < 0 then
                                        j25 ()
                                      else
                                        (gN th 8 a0 2).bind fun o27 =>
                                        (aI th o27 a1).bind fun x28 =>
                                        if x28 < a5 then
                                          j25 ()
                                        else
                                          (gN th 8 a0 2).bind fun o29 =>
                                          (aI th o29 a2).bind fun x30 =>
                                          if x30 < a5 then
                                            j25 ()
                                          else
                                            (gN th 8 a0 2).bind fun o31 =>
                                            (aI th o31 a1).bind fun x32 =>
                                            if (x32 - a5) < a3 then
                                              j25 ()
                                            else
                                              (gN th 8 a0 2).bind fun o33 =>
                                              (aI th o33 a2).bind fun x34 =>
                                              if a4 ≤ (x34 - a5) then
                                                lp (fun (s35 : Int32 × tH) nx36 ex37 =>
                                                    if a5 ≤ s35.1 then
                                                      ex37 s35.2
                                                    else
                                                      (gN s35.2 8 a0 4).bind fun o49 =>
                                                      (gN s35.2 8 a0 3).bind fun o50 =>
                                                      (aN s35.2 o50 a1).bind fun o51 =>
                                                      (aJ s35.2 o51 (a3 + s35.1)).bind fun x52 =>
                                                      (sJ s35.2 o49 s35.1 x52).bind fun th53 =>
                                                      nx36 ((s35.1 + Int32.ofInt 1), th53)
                                                  ) 4096 ((Int32.ofInt 0), th) (fun (x38 : tH) =>
                                                    lp (fun (s39 : Int32 × tH) nx40 ex41 =>
                                                        if a5 ≤ s39.1 then
                                                          ex41 s39.2
                                                        else
                                                          (gN s39.2 8 a0 3).bind fun o43 =>
                                                          (aN s39.2 o43 a2).bind fun o44 =>
                                                          (gN s39.2 8 a0 4).bind fun o45 =>
                                                          (aJ s39.2 o45 s39.1).bind fun x46 =>
                                                          (sJ s39.2 o44 (a4 + s39.1) x46).bind fun th47 =>
                                                          nx40 ((s39.1 + Int32.ofInt 1), th47)
                                                      ) 4096 ((Int32.ofInt 0), x38) (fun (x42 : tH) =>
                                                        some (a5, x42)
                                                      )
                                                  )
                                              else
                                                j25 ()
                                )
                        )
                    ) (fun j16 =>
                      if x14 = (Int32.ofInt 1) then
                        (gN th 8 a0 0).bind fun o64 =>
                        (aI th o64 a2).bind fun x65 =>
                        if x65 = (Int32.ofInt 1) then
                          (gN th 8 a0 1).bind fun o66 =>
                          (aI th o66 a1).bind fun x67 =>
                          (gN th 8 a0 1).bind fun o68 =>
                          (aI th o68 a2).bind fun x69 =>
                          if x67 = x69 then
                            j16 ()
                          else
                            j9 ()
                        else
                          j16 ()
                      else
                        j16 ()
                    )
            )
    )
theorem c_203 {a0 : Nat} {a1 : Int32} {a2 : Int32} {a3 : Int32} {a4 : Int32} {a5 : Int32} {th : tH} {x : (Int32 × tH)} (h : m_203 a0 a1 a2 a3 a4 a5 th = some x) : ∃ fs, th[a0]? = some (.inr (8, fs)) := gC_of h
theorem S_203 {L : Nat} (d : Nat) (a0 : Nat) (a1 : Int32) (a2 : Int32) (a3 : Int32) (a4 : Int32) (a5 : Int32) (th : tH) : Wx L (fun x => (some (.int x.1), x.2)) (d + 2) 203 7 0 [(0, .ref a0), (1, .int a1), (2, .int a2), (3, .int a3), (4, .int a4), (5, .int a5)] [] th (m_203 a0 a1 a2 a3 a4 a5 th) := by
  unfold m_203
  refine x_gC ?_
  refine x_P 1 rfl rfl rfl ?_
  refine x_P 2 rfl rfl rfl ?_
  refine x_P 3 rfl rfl rfl ?_
  refine x_P 6 rfl rfl rfl ?_
  refine x_callS rfl rfl rfl rfl rfl rfl ⟨rfl, rfl⟩ (S_190 (d + 1) (Int32.toInt64 a1) (Int64.ofNat 0) (Int64.ofNat 7) th) (fun x1 hx1 => ?_)
  refine x_jn 24 (fun v2 => [(0, .ref a0)]) (fun v2 => []) (fun v2 => th) (fun v2 => ?_) (fun j3 hj3 => ?_)
  · refine x_P 25 rfl rfl rfl ?_
    refine x_P 27 rfl rfl rfl ?_
    refine x_callV rfl rfl rfl rfl rfl ⟨rfl, rfl⟩ (fun x h => c_189 h) (S_189 d a0 (Int8.ofInt (-2)).toInt32 th) (fun q4 hq4 => ?_)
    exact x_retI (x := (q4.1, q4.2)) rfl
  · refine x_if_eq rfl rfl (fun h76 => ?_) (fun h76 => ?_)
    · exact x_lv (hj3 ()) ⟨rfl, trivial⟩
    · refine x_P 13 rfl rfl rfl ?_
      refine x_P 14 rfl rfl rfl ?_
      refine x_P 15 rfl rfl rfl ?_
      refine x_P 18 rfl rfl rfl ?_
      refine x_callS rfl rfl rfl rfl rfl rfl ⟨rfl, rfl⟩ (S_190 (d + 1) (Int32.toInt64 a2) (Int64.ofNat 0) (Int64.ofNat 7) th) (fun x5 hx5 => ?_)
      refine x_if_ne rfl rfl (fun h75 => ?_) (fun h75 => ?_)
      · exact x_lv (hj3 ()) ⟨rfl, trivial⟩
      · refine x_P 32 rfl rfl rfl ?_
        refine x_gN rfl (fun o6 ho6 => ?_)
        refine x_P 36 rfl rfl rfl ?_
        refine x_aI rfl ⟨rfl, rfl⟩ (fun x7 hx7 => ?_)
        refine x_P 38 rfl rfl rfl ?_
        refine x_jn 86 (fun v8 => [(0, .ref a0)]) (fun v8 => []) (fun v8 => th) (fun v8 => ?_) (fun j9 hj9 => ?_)
        · refine x_P 87 rfl rfl rfl ?_
          refine x_P 89 rfl rfl rfl ?_
          refine x_callV rfl rfl rfl rfl rfl ⟨rfl, rfl⟩ (fun x h => c_189 h) (S_189 d a0 (Int8.ofInt (-3)).toInt32 th) (fun q10 hq10 => ?_)
          exact x_retI (x := (q10.1, q10.2)) rfl
        · refine x_ic_eq rfl rfl (fun h74 => ?_) (fun h74 => ?_)
          · exact x_lv (hj9 ()) ⟨rfl, trivial⟩
          · refine x_P 42 rfl rfl rfl ?_
            refine x_gN rfl (fun o11 ho11 => ?_)
            refine x_P 46 rfl rfl rfl ?_
            refine x_aI rfl ⟨rfl, rfl⟩ (fun x12 hx12 => ?_)
            refine x_P 48 rfl rfl rfl ?_
            refine x_ic_eq rfl rfl (fun h73 => ?_) (fun h73 => ?_)
            · exact x_lv (hj9 ()) ⟨rfl, trivial⟩
            · refine x_P 52 rfl rfl rfl ?_
              refine x_gN rfl (fun o13 ho13 => ?_)
              refine x_P 56 rfl rfl rfl ?_
              refine x_aI rfl ⟨rfl, rfl⟩ (fun x14 hx14 => ?_)
              refine x_P 58 rfl rfl rfl ?_
              refine x_jn 93 (fun v15 => [(0, .ref a0), (1, .int a1), (2, .int a2), (3, .int a3), (4, .int a4), (5, .int a5)]) (fun v15 => []) (fun v15 => th) (fun v15 => ?_) (fun j16 hj16 => ?_)
              · refine x_P 94 rfl rfl rfl ?_
                refine x_gN rfl (fun o17 ho17 => ?_)
                refine x_P 98 rfl rfl rfl ?_
                refine x_aI rfl ⟨rfl, rfl⟩ (fun x18 hx18 => ?_)
                refine x_jn 111 (fun v19 => [(0, .ref a0)]) (fun v19 => []) (fun v19 => th) (fun v19 => ?_) (fun j20 hj20 => ?_)
                · refine x_P 112 rfl rfl rfl ?_
                  refine x_P 114 rfl rfl rfl ?_
                  refine x_callV rfl rfl rfl rfl rfl ⟨rfl, rfl⟩ (fun x h => c_189 h) (S_189 d a0 (Int8.ofInt (-4)).toInt32 th) (fun q21 hq21 => ?_)
                  exact x_retI (x := (q21.1, q21.2)) rfl
                · refine x_if_eq rfl rfl (fun h63 => ?_) (fun h63 => ?_)
                  · exact x_lv (hj20 ()) ⟨rfl, trivial⟩
                  · refine x_P 103 rfl rfl rfl ?_
                    refine x_gN rfl (fun o22 ho22 => ?_)
                    refine x_P 107 rfl rfl rfl ?_
                    refine x_aI rfl ⟨rfl, rfl⟩ (fun x23 hx23 => ?_)
                    refine x_if_ne rfl rfl (fun h62 => ?_) (fun h62 => ?_)
                    · exact x_lv (hj20 ()) ⟨rfl, trivial⟩
                    · refine x_P 120 rfl rfl rfl ?_
                      refine x_jn 181 (fun v24 => [(0, .ref a0)]) (fun v24 => []) (fun v24 => th) (fun v24 => ?_) (fun j25 hj25 => ?_)
                      · refine x_P 182 rfl rfl rfl ?_
                        refine x_P 184 rfl rfl rfl ?_
                        refine x_callV rfl rfl rfl rfl rfl ⟨rfl, rfl⟩ (fun x h => c_189 h) (S_189 d a0 (Int8.ofInt (-2)).toInt32 th) (fun q26 hq26 => ?_)
                        exact x_retI (x := (q26.1, q26.2)) rfl
                      · refine x_if_lt rfl rfl (fun h61 => ?_) (fun h61 => ?_)
                        · exact x_lv (hj25 ()) ⟨rfl, trivial⟩
                        · refine x_P 124 rfl rfl rfl ?_
                          refine x_if_lt rfl rfl (fun h60 => ?_) (fun h60 => ?_)
                          · exact x_lv (hj25 ()) ⟨rfl, trivial⟩
                          · refine x_P 129 rfl rfl rfl ?_
                            refine x_if_lt rfl rfl (fun h59 => ?_) (fun h59 => ?_)
                            · exact x_lv (hj25 ()) ⟨rfl, trivial⟩
                            · refine x_P 134 rfl rfl rfl ?_
                              refine x_P 135 rfl rfl rfl ?_
                              refine x_gN rfl (fun o27 ho27 => ?_)
                              refine x_P 139 rfl rfl rfl ?_
                              refine x_aI rfl ⟨rfl, rfl⟩ (fun x28 hx28 => ?_)
                              refine x_ic_gt rfl rfl (fun h58 => ?_) (fun h58 => ?_)
                              · exact x_lv (hj25 ()) ⟨rfl, trivial⟩
                              · refine x_P 145 rfl rfl rfl ?_
                                refine x_P 146 rfl rfl rfl ?_
                                refine x_gN rfl (fun o29 ho29 => ?_)
                                refine x_P 150 rfl rfl rfl ?_
                                refine x_aI rfl ⟨rfl, rfl⟩ (fun x30 hx30 => ?_)
                                refine x_ic_gt rfl rfl (fun h57 => ?_) (fun h57 => ?_)
                                · exact x_lv (hj25 ()) ⟨rfl, trivial⟩
                                · refine x_P 155 rfl rfl rfl ?_
                                  refine x_P 156 rfl rfl rfl ?_
                                  refine x_gN rfl (fun o31 ho31 => ?_)
                                  refine x_P 160 rfl rfl rfl ?_
                                  refine x_aI rfl ⟨rfl, rfl⟩ (fun x32 hx32 => ?_)
                                  refine x_P 163 rfl rfl rfl ?_
                                  refine x_P 164 rfl rfl rfl ?_
                                  refine x_ic_gt rfl rfl (fun h56 => ?_) (fun h56 => ?_)
                                  · exact x_lv (hj25 ()) ⟨rfl, trivial⟩
                                  · refine x_P 169 rfl rfl rfl ?_
                                    refine x_P 170 rfl rfl rfl ?_
                                    refine x_gN rfl (fun o33 ho33 => ?_)
                                    refine x_P 174 rfl rfl rfl ?_
                                    refine x_aI rfl ⟨rfl, rfl⟩ (fun x34 hx34 => ?_)
                                    refine x_P 177 rfl rfl rfl ?_
                                    refine x_P 178 rfl rfl rfl ?_
                                    refine x_ic_le rfl rfl (fun h55 => ?_) (fun h55 => ?_)
                                    · refine x_P 189 rfl rfl rfl ?_
                                      refine x_P (lv' := [(6, .int (Int32.ofInt 0)), (0, .ref a0), (1, .int a1), (2, .int a2), (3, .int a3), (4, .int a4), (5, .int a5)]) 191 rfl rfl rfl ?_
                                      refine x_lv (lv := [(0, .ref a0), (1, .int a1), (2, .int a2), (3, .int a3), (4, .int a4), (5, .int a5), (6, .int (Int32.ofInt 0))]) (x_lp 222 (fun s35 => [(0, .ref a0), (1, .int a1), (2, .int a2), (3, .int a3), (4, .int a4), (5, .int a5), (6, .int s35.1)]) (fun s35 => s35.2) (fun x38 => [(0, .ref a0), (2, .int a2), (4, .int a4), (5, .int a5)]) (fun x38 => x38) (fun s35 nx36 hnx36 ex37 hex37 => ?_) (fun x38 => ?_) 4096 ((Int32.ofInt 0), th)) ⟨rfl, rfl, rfl, rfl, rfl, rfl, rfl, trivial⟩
                                      · refine x_P 193 rfl rfl rfl ?_
                                        refine x_P 195 rfl rfl rfl ?_
                                        refine x_ic_ge rfl rfl (fun h54 => ?_) (fun h54 => ?_)
                                        · exact x_lv (hex37 s35.2) ⟨rfl, rfl, rfl, rfl, trivial⟩
                                        · refine x_P 199 rfl rfl rfl ?_
                                          refine x_gN rfl (fun o49 ho49 => ?_)
                                          refine x_P 204 rfl rfl rfl ?_
                                          refine x_P 205 rfl rfl rfl ?_
                                          refine x_gN rfl (fun o50 ho50 => ?_)
                                          refine x_P 209 rfl rfl rfl ?_
                                          refine x_aN rfl ⟨rfl, rfl⟩ (fun o51 ho51 => ?_)
                                          refine x_P 211 rfl rfl rfl ?_
                                          refine x_P 213 rfl rfl rfl ?_
                                          refine x_P 214 rfl rfl rfl ?_
                                          refine x_aJ rfl ⟨rfl, rfl⟩ (fun x52 hx52 => ?_)
                                          refine x_sJ rfl ⟨rfl, rfl⟩ (fun th53 hth53 => ?_)
                                          refine x_P (lv' := [(6, .int (s35.1 + Int32.ofInt 1)), (0, .ref a0), (1, .int a1), (2, .int a2), (3, .int a3), (4, .int a4), (5, .int a5)]) 219 rfl rfl rfl ?_
                                          refine x_P 191 rfl rfl rfl ?_
                                          exact x_lv (hnx36 ((s35.1 + Int32.ofInt 1), th53)) ⟨rfl, rfl, rfl, rfl, rfl, rfl, rfl, trivial⟩
                                      · refine x_P 223 rfl rfl rfl ?_
                                        refine x_P (lv' := [(6, .int (Int32.ofInt 0)), (0, .ref a0), (2, .int a2), (4, .int a4), (5, .int a5)]) 225 rfl rfl rfl ?_
                                        refine x_lv (lv := [(0, .ref a0), (2, .int a2), (4, .int a4), (5, .int a5), (6, .int (Int32.ofInt 0))]) (x_lp 257 (fun s39 => [(0, .ref a0), (2, .int a2), (4, .int a4), (5, .int a5), (6, .int s39.1)]) (fun s39 => s39.2) (fun x42 => [(5, .int a5)]) (fun x42 => x42) (fun s39 nx40 hnx40 ex41 hex41 => ?_) (fun x42 => ?_) 4096 ((Int32.ofInt 0), x38)) ⟨rfl, rfl, rfl, rfl, rfl, trivial⟩
                                        · refine x_P 227 rfl rfl rfl ?_
                                          refine x_P 229 rfl rfl rfl ?_
                                          refine x_ic_ge rfl rfl (fun h48 => ?_) (fun h48 => ?_)
                                          · exact x_lv (hex41 s39.2) ⟨rfl, trivial⟩
                                          · refine x_P 233 rfl rfl rfl ?_
                                            refine x_gN rfl (fun o43 ho43 => ?_)
                                            refine x_P 237 rfl rfl rfl ?_
                                            refine x_aN rfl ⟨rfl, rfl⟩ (fun o44 ho44 => ?_)
                                            refine x_P 240 rfl rfl rfl ?_
                                            refine x_P 242 rfl rfl rfl ?_
                                            refine x_P 243 rfl rfl rfl ?_
                                            refine x_P 244 rfl rfl rfl ?_
                                            refine x_gN rfl (fun o45 ho45 => ?_)
                                            refine x_P 249 rfl rfl rfl ?_
                                            refine x_aJ rfl ⟨rfl, rfl⟩ (fun x46 hx46 => ?_)
                                            refine x_sJ rfl ⟨rfl, rfl⟩ (fun th47 hth47 => ?_)
                                            refine x_P (lv' := [(6, .int (s39.1 + Int32.ofInt 1)), (0, .ref a0), (2, .int a2), (4, .int a4), (5, .int a5)]) 254 rfl rfl rfl ?_
                                            refine x_P 225 rfl rfl rfl ?_
                                            exact x_lv (hnx40 ((s39.1 + Int32.ofInt 1), th47)) ⟨rfl, rfl, rfl, rfl, rfl, trivial⟩
                                        · refine x_P 259 rfl rfl rfl ?_
                                          exact x_retI (x := (a5, x42)) rfl
                                    · exact x_lv (hj25 ()) ⟨rfl, trivial⟩
              · refine x_ic_ne rfl rfl (fun h72 => ?_) (fun h72 => ?_)
                · refine x_P 62 rfl rfl rfl ?_
                  refine x_gN rfl (fun o64 ho64 => ?_)
                  refine x_P 66 rfl rfl rfl ?_
                  refine x_aI rfl ⟨rfl, rfl⟩ (fun x65 hx65 => ?_)
                  refine x_P 68 rfl rfl rfl ?_
                  refine x_ic_ne rfl rfl (fun h71 => ?_) (fun h71 => ?_)
                  · refine x_P 72 rfl rfl rfl ?_
                    refine x_gN rfl (fun o66 ho66 => ?_)
                    refine x_P 76 rfl rfl rfl ?_
                    refine x_aI rfl ⟨rfl, rfl⟩ (fun x67 hx67 => ?_)
                    refine x_P 78 rfl rfl rfl ?_
                    refine x_gN rfl (fun o68 ho68 => ?_)
                    refine x_P 82 rfl rfl rfl ?_
                    refine x_aI rfl ⟨rfl, rfl⟩ (fun x69 hx69 => ?_)
                    refine x_ic_eq rfl rfl (fun h70 => ?_) (fun h70 => ?_)
                    · exact x_lv (hj16 ()) ⟨rfl, rfl, rfl, rfl, rfl, rfl, trivial⟩
                    · exact x_lv (hj9 ()) ⟨rfl, trivial⟩
                  · exact x_lv (hj16 ()) ⟨rfl, rfl, rfl, rfl, rfl, rfl, trivial⟩
                · exact x_lv (hj16 ()) ⟨rfl, rfl, rfl, rfl, rfl, rfl, trivial⟩
-- 204 NineTreesModel.element(II)J
noncomputable def m_204 (a0 : Nat) (a1 : Int32) (a2 : Int32) (th : tH) : Option (Int64) :=
  (gC th 8 a0).bind fun _ =>
  (m_190 (Int32.toInt64 a1) (Int64.ofNat 0) (Int64.ofNat 7) th).bind fun x1 =>
  jn (fun (v2 : Int64) =>
      some v2
    ) (fun j3 =>
      jn (fun (v4 : Unit) =>
          j3 (Int64.ofNat 0)
        ) (fun j5 =>
          if x1 = 0 then
            j5 ()
          else
            (gN th 8 a0 0).bind fun o6 =>
            (aI th o6 a1).bind fun x7 =>
            if x7 = (Int32.ofInt 1) then
              (gN th 8 a0 2).bind fun o8 =>
              (aI th o8 a1).bind fun x9 =>
              (m_190 (Int32.toInt64 a2) (Int64.ofNat 0) (Int32.toInt64 (x9 - (Int32.ofInt 1))) th).bind fun x10 =>
              if x10 = 0 then
                j5 ()
              else
                (gN th 8 a0 3).bind fun o11 =>
                (aN th o11 a1).bind fun o12 =>
                (aJ th o12 a2).bind fun x13 =>
                j3 x13
            else
              j5 ()
        )
    )
theorem c_204 {a0 : Nat} {a1 : Int32} {a2 : Int32} {th : tH} {x : (Int64)} (h : m_204 a0 a1 a2 th = some x) : ∃ fs, th[a0]? = some (.inr (8, fs)) := gC_of h
theorem S_204 {L : Nat} (d : Nat) (a0 : Nat) (a1 : Int32) (a2 : Int32) (th : tH) : Wx L (fun x => (some (.long x), th)) (d + 1) 204 3 0 [(0, .ref a0), (1, .int a1), (2, .int a2)] [] th (m_204 a0 a1 a2 th) := by
  unfold m_204
  refine x_gC ?_
  refine x_P 1 rfl rfl rfl ?_
  refine x_P 2 rfl rfl rfl ?_
  refine x_P 3 rfl rfl rfl ?_
  refine x_P 6 rfl rfl rfl ?_
  refine x_callS rfl rfl rfl rfl rfl rfl ⟨rfl, rfl⟩ (S_190 d (Int32.toInt64 a1) (Int64.ofNat 0) (Int64.ofNat 7) th) (fun x1 hx1 => ?_)
  refine x_jn 52 (fun v2 => []) (fun v2 => [.long v2]) (fun v2 => th) (fun v2 => ?_) (fun j3 hj3 => ?_)
  · exact x_retJ (x := v2) rfl
  · refine x_jn 51 (fun v4 => []) (fun v4 => []) (fun v4 => th) (fun v4 => ?_) (fun j5 hj5 => ?_)
    · refine x_P 52 rfl rfl rfl ?_
      exact x_lv (hj3 (Int64.ofNat 0)) trivial
    · refine x_if_eq rfl rfl (fun h16 => ?_) (fun h16 => ?_)
      · exact x_lv (hj5 ()) trivial
      · refine x_P 13 rfl rfl rfl ?_
        refine x_gN rfl (fun o6 ho6 => ?_)
        refine x_P 17 rfl rfl rfl ?_
        refine x_aI rfl ⟨rfl, rfl⟩ (fun x7 hx7 => ?_)
        refine x_P 19 rfl rfl rfl ?_
        refine x_ic_ne rfl rfl (fun h15 => ?_) (fun h15 => ?_)
        · refine x_P 23 rfl rfl rfl ?_
          refine x_P 24 rfl rfl rfl ?_
          refine x_P 25 rfl rfl rfl ?_
          refine x_P 26 rfl rfl rfl ?_
          refine x_gN rfl (fun o8 ho8 => ?_)
          refine x_P 30 rfl rfl rfl ?_
          refine x_aI rfl ⟨rfl, rfl⟩ (fun x9 hx9 => ?_)
          refine x_P 32 rfl rfl rfl ?_
          refine x_P 33 rfl rfl rfl ?_
          refine x_P 34 rfl rfl rfl ?_
          refine x_callS rfl rfl rfl rfl rfl rfl ⟨rfl, rfl⟩ (S_190 d (Int32.toInt64 a2) (Int64.ofNat 0) (Int32.toInt64 (x9 - (Int32.ofInt 1))) th) (fun x10 hx10 => ?_)
          refine x_if_eq rfl rfl (fun h14 => ?_) (fun h14 => ?_)
          · exact x_lv (hj5 ()) trivial
          · refine x_P 41 rfl rfl rfl ?_
            refine x_gN rfl (fun o11 ho11 => ?_)
            refine x_P 45 rfl rfl rfl ?_
            refine x_aN rfl ⟨rfl, rfl⟩ (fun o12 ho12 => ?_)
            refine x_P 47 rfl rfl rfl ?_
            refine x_aJ rfl ⟨rfl, rfl⟩ (fun x13 hx13 => ?_)
            refine x_P 52 rfl rfl rfl ?_
            exact x_lv (hj3 x13) trivial
        · exact x_lv (hj5 ()) trivial
-- 205 NineTreesModel.holds(I)I
noncomputable def m_205 (a0 : Nat) (a1 : Int32) (th : tH) : Option (Int32) :=
  (gC th 8 a0).bind fun _ =>
  (m_190 (Int32.toInt64 a1) (Int64.ofNat 0) (Int64.ofNat 7) th).bind fun x1 =>
  jn (fun (v2 : Unit) =>
      some (Int32.ofInt (-1))
    ) (fun j3 =>
      if x1 = 0 then
        j3 ()
      else
        (gN th 8 a0 0).bind fun o4 =>
        (aI th o4 a1).bind fun x5 =>
        if x5 = 0 then
          j3 ()
        else
          (gN th 8 a0 0).bind fun o6 =>
          (aI th o6 a1).bind fun x7 =>
          jn (fun (v8 : Int32) =>
              some v8
            ) (fun j9 =>
              if x7 = (Int32.ofInt 1) then
                (gN th 8 a0 1).bind fun o12 =>
                (aI th o12 a1).bind fun x13 =>
                j9 x13
              else
                (gN th 8 a0 5).bind fun o10 =>
                (aI th o10 a1).bind fun x11 =>
                j9 ((Int8.ofInt 10).toInt32 + x11)
            )
    )
theorem c_205 {a0 : Nat} {a1 : Int32} {th : tH} {x : (Int32)} (h : m_205 a0 a1 th = some x) : ∃ fs, th[a0]? = some (.inr (8, fs)) := gC_of h
theorem S_205 {L : Nat} (d : Nat) (a0 : Nat) (a1 : Int32) (th : tH) : Wx L (fun x => (some (.int x), th)) (d + 1) 205 2 0 [(0, .ref a0), (1, .int a1)] [] th (m_205 a0 a1 th) := by
  unfold m_205
  refine x_gC ?_
  refine x_P 1 rfl rfl rfl ?_
  refine x_P 2 rfl rfl rfl ?_
  refine x_P 3 rfl rfl rfl ?_
  refine x_P 6 rfl rfl rfl ?_
  refine x_callS rfl rfl rfl rfl rfl rfl ⟨rfl, rfl⟩ (S_190 d (Int32.toInt64 a1) (Int64.ofNat 0) (Int64.ofNat 7) th) (fun x1 hx1 => ?_)
  refine x_jn 21 (fun v2 => []) (fun v2 => []) (fun v2 => th) (fun v2 => ?_) (fun j3 hj3 => ?_)
  · refine x_P 22 rfl rfl rfl ?_
    exact x_retI (x := (Int32.ofInt (-1))) rfl
  · refine x_if_eq rfl rfl (fun h16 => ?_) (fun h16 => ?_)
    · exact x_lv (hj3 ()) trivial
    · refine x_P 13 rfl rfl rfl ?_
      refine x_gN rfl (fun o4 ho4 => ?_)
      refine x_P 17 rfl rfl rfl ?_
      refine x_aI rfl ⟨rfl, rfl⟩ (fun x5 hx5 => ?_)
      refine x_if_ne rfl rfl (fun h15 => ?_) (fun h15 => ?_)
      · exact x_lv (hj3 ()) trivial
      · refine x_P 24 rfl rfl rfl ?_
        refine x_gN rfl (fun o6 ho6 => ?_)
        refine x_P 28 rfl rfl rfl ?_
        refine x_aI rfl ⟨rfl, rfl⟩ (fun x7 hx7 => ?_)
        refine x_P 30 rfl rfl rfl ?_
        refine x_jn 51 (fun v8 => []) (fun v8 => [.int v8]) (fun v8 => th) (fun v8 => ?_) (fun j9 hj9 => ?_)
        · exact x_retI (x := v8) rfl
        · refine x_ic_ne rfl rfl (fun h14 => ?_) (fun h14 => ?_)
          · refine x_P 34 rfl rfl rfl ?_
            refine x_gN rfl (fun o12 ho12 => ?_)
            refine x_P 38 rfl rfl rfl ?_
            refine x_aI rfl ⟨rfl, rfl⟩ (fun x13 hx13 => ?_)
            refine x_P 51 rfl rfl rfl ?_
            exact x_lv (hj9 x13) trivial
          · refine x_P 44 rfl rfl rfl ?_
            refine x_P 45 rfl rfl rfl ?_
            refine x_gN rfl (fun o10 ho10 => ?_)
            refine x_P 49 rfl rfl rfl ?_
            refine x_aI rfl ⟨rfl, rfl⟩ (fun x11 hx11 => ?_)
            refine x_P 51 rfl rfl rfl ?_
            exact x_lv (hj9 ((Int8.ofInt 10).toInt32 + x11)) trivial
-- 206 NineTreesModel.show(II)I
noncomputable def m_206 (a0 : Nat) (a1 : Int32) (a2 : Int32) (th : tH) : Option (Int32 × tH) :=
  (gC th 8 a0).bind fun _ =>
  (m_190 (Int32.toInt64 a1) (Int64.ofNat 0) (Int64.ofNat 7) th).bind fun x1 =>
  jn (fun (v2 : Unit) =>
      (m_189 a0 (Int8.ofInt (-2)).toInt32 th).bind fun q4 =>
      some (q4.1, q4.2)
    ) (fun j3 =>
      if x1 = 0 then
        j3 ()
      else
        jn (fun (v5 : Unit) =>
            (gN th 8 a0 0).bind fun o7 =>
            jn (fun (v8 : Int32 × Int32 × Nat) =>
                (sI th v8.2.2 v8.2.1 v8.1).bind fun th10 =>
                (gN th10 8 a0 5).bind fun o11 =>
                (sI th10 o11 a1 a2).bind fun th12 =>
                some ((Int32.ofInt 1), th12)
              ) (fun j9 =>
                if a2 = (Int32.ofInt (-1)) then
                  j9 ((Int32.ofInt 0), a1, o7)
                else
                  j9 ((Int32.ofInt 2), a1, o7)
              )
          ) (fun j6 =>
            if a2 = (Int32.ofInt (-1)) then
              j6 ()
            else
              (m_191 a0 a2 th).bind fun x14 =>
              if x14 = 0 then
                j3 ()
              else
                j6 ()
          )
    )
theorem c_206 {a0 : Nat} {a1 : Int32} {a2 : Int32} {th : tH} {x : (Int32 × tH)} (h : m_206 a0 a1 a2 th = some x) : ∃ fs, th[a0]? = some (.inr (8, fs)) := gC_of h
theorem S_206 {L : Nat} (d : Nat) (a0 : Nat) (a1 : Int32) (a2 : Int32) (th : tH) : Wx L (fun x => (some (.int x.1), x.2)) (d + 2) 206 3 0 [(0, .ref a0), (1, .int a1), (2, .int a2)] [] th (m_206 a0 a1 a2 th) := by
  unfold m_206
  refine x_gC ?_
  refine x_P 1 rfl rfl rfl ?_
  refine x_P 2 rfl rfl rfl ?_
  refine x_P 3 rfl rfl rfl ?_
  refine x_P 6 rfl rfl rfl ?_
  refine x_callS rfl rfl rfl rfl rfl rfl ⟨rfl, rfl⟩ (S_190 (d + 1) (Int32.toInt64 a1) (Int64.ofNat 0) (Int64.ofNat 7) th) (fun x1 hx1 => ?_)
  refine x_jn 25 (fun v2 => [(0, .ref a0)]) (fun v2 => []) (fun v2 => th) (fun v2 => ?_) (fun j3 hj3 => ?_)
  · refine x_P 26 rfl rfl rfl ?_
    refine x_P 28 rfl rfl rfl ?_
    refine x_callV rfl rfl rfl rfl rfl ⟨rfl, rfl⟩ (fun x h => c_189 h) (S_189 d a0 (Int8.ofInt (-2)).toInt32 th) (fun q4 hq4 => ?_)
    exact x_retI (x := (q4.1, q4.2)) rfl
  · refine x_if_eq rfl rfl (fun h17 => ?_) (fun h17 => ?_)
    · exact x_lv (hj3 ()) ⟨rfl, trivial⟩
    · refine x_P 13 rfl rfl rfl ?_
      refine x_P 14 rfl rfl rfl ?_
      refine x_jn 32 (fun v5 => [(0, .ref a0), (1, .int a1), (2, .int a2)]) (fun v5 => []) (fun v5 => th) (fun v5 => ?_) (fun j6 hj6 => ?_)
      · refine x_P 33 rfl rfl rfl ?_
        refine x_gN rfl (fun o7 ho7 => ?_)
        refine x_P 37 rfl rfl rfl ?_
        refine x_P 38 rfl rfl rfl ?_
        refine x_P 39 rfl rfl rfl ?_
        refine x_jn 47 (fun v8 => [(0, .ref a0), (1, .int a1), (2, .int a2)]) (fun v8 => [.int v8.1, .int v8.2.1, .ref v8.2.2]) (fun v8 => th) (fun v8 => ?_) (fun j9 hj9 => ?_)
        · refine x_sI rfl ⟨rfl, rfl⟩ (fun th10 hth10 => ?_)
          refine x_P 49 rfl rfl rfl ?_
          refine x_gN rfl (fun o11 ho11 => ?_)
          refine x_P 53 rfl rfl rfl ?_
          refine x_P 54 rfl rfl rfl ?_
          refine x_sI rfl ⟨rfl, rfl⟩ (fun th12 hth12 => ?_)
          refine x_P 56 rfl rfl rfl ?_
          exact x_retI (x := ((Int32.ofInt 1), th12)) rfl
        · refine x_ic_ne rfl rfl (fun h13 => ?_) (fun h13 => ?_)
          · refine x_P 43 rfl rfl rfl ?_
            refine x_P 47 rfl rfl rfl ?_
            exact x_lv (hj9 ((Int32.ofInt 0), a1, o7)) ⟨rfl, rfl, rfl, trivial⟩
          · refine x_P 47 rfl rfl rfl ?_
            exact x_lv (hj9 ((Int32.ofInt 2), a1, o7)) ⟨rfl, rfl, rfl, trivial⟩
      · refine x_ic_eq rfl rfl (fun h16 => ?_) (fun h16 => ?_)
        · exact x_lv (hj6 ()) ⟨rfl, rfl, rfl, trivial⟩
        · refine x_P 18 rfl rfl rfl ?_
          refine x_P 19 rfl rfl rfl ?_
          refine x_callV rfl rfl rfl rfl rfl ⟨rfl, rfl⟩ (fun x h => c_191 h) (S_191 d a0 a2 th) (fun x14 hx14 => ?_)
          refine x_if_ne rfl rfl (fun h15 => ?_) (fun h15 => ?_)
          · exact x_lv (hj3 ()) ⟨rfl, trivial⟩
          · exact x_lv (hj6 ()) ⟨rfl, rfl, rfl, trivial⟩
-- 207 NineTreesModel.shelvesFollow()V
noncomputable def m_207 (a0 : Nat) (th : tH) : Option tH :=
  (gC th 8 a0).bind fun _ =>
  lp (fun (s1 : Int32 × tH) nx2 ex3 =>
      if (Int8.ofInt 8).toInt32 ≤ s1.1 then
        ex3 s1.2
      else
        (gN s1.2 8 a0 0).bind fun o5 =>
        (aI s1.2 o5 s1.1).bind fun x6 =>
        jn (fun (v7 : tH) =>
            nx2 ((s1.1 + Int32.ofInt 1), v7)
          ) (fun j8 =>
            if x6 = (Int32.ofInt 2) then
              (gN s1.2 8 a0 5).bind fun o9 =>
              (aI s1.2 o9 s1.1).bind fun x10 =>
              (gI s1.2 8 a0 10).bind fun x11 =>
              if x10 < x11 then
                j8 s1.2
              else
                (gN s1.2 8 a0 0).bind fun o12 =>
                (sI s1.2 o12 s1.1 (Int32.ofInt 0)).bind fun th13 =>
                j8 th13
            else
              j8 s1.2
          )
    ) 4096 ((Int32.ofInt 0), th) (fun (x4 : tH) =>
      some x4
    )
theorem c_207 {a0 : Nat} {th : tH} {x : tH} (h : m_207 a0 th = some x) : ∃ fs, th[a0]? = some (.inr (8, fs)) := gC_of h
theorem S_207 {L : Nat} (d : Nat) (a0 : Nat) (th : tH) : Wx L (fun x => (none, x)) (d + 1) 207 2 0 [(0, .ref a0)] [] th (m_207 a0 th) := by
  unfold m_207
  refine x_gC ?_
  refine x_P 1 rfl rfl rfl ?_
  refine x_P (lv' := [(1, .int (Int32.ofInt 0)), (0, .ref a0)]) 2 rfl rfl rfl ?_
  refine x_lv (lv := [(0, .ref a0), (1, .int (Int32.ofInt 0))]) (x_lp 44 (fun s1 => [(0, .ref a0), (1, .int s1.1)]) (fun s1 => s1.2) (fun x4 => []) (fun x4 => x4) (fun s1 nx2 hnx2 ex3 hex3 => ?_) (fun x4 => ?_) 4096 ((Int32.ofInt 0), th)) ⟨rfl, rfl, trivial⟩
  · refine x_P 3 rfl rfl rfl ?_
    refine x_P 5 rfl rfl rfl ?_
    refine x_ic_ge rfl rfl (fun h16 => ?_) (fun h16 => ?_)
    · exact x_lv (hex3 s1.2) trivial
    · refine x_P 9 rfl rfl rfl ?_
      refine x_gN rfl (fun o5 ho5 => ?_)
      refine x_P 13 rfl rfl rfl ?_
      refine x_aI rfl ⟨rfl, rfl⟩ (fun x6 hx6 => ?_)
      refine x_P 15 rfl rfl rfl ?_
      refine x_jn 38 (fun v7 => [(0, .ref a0), (1, .int s1.1)]) (fun v7 => []) (fun v7 => v7) (fun v7 => ?_) (fun j8 hj8 => ?_)
      · refine x_P (lv' := [(1, .int (s1.1 + Int32.ofInt 1)), (0, .ref a0)]) 41 rfl rfl rfl ?_
        refine x_P 2 rfl rfl rfl ?_
        exact x_lv (hnx2 ((s1.1 + Int32.ofInt 1), v7)) ⟨rfl, rfl, trivial⟩
      · refine x_ic_ne rfl rfl (fun h15 => ?_) (fun h15 => ?_)
        · refine x_P 19 rfl rfl rfl ?_
          refine x_gN rfl (fun o9 ho9 => ?_)
          refine x_P 23 rfl rfl rfl ?_
          refine x_aI rfl ⟨rfl, rfl⟩ (fun x10 hx10 => ?_)
          refine x_P 25 rfl rfl rfl ?_
          refine x_gI rfl (fun x11 hx11 => ?_)
          refine x_ic_lt rfl rfl (fun h14 => ?_) (fun h14 => ?_)
          · exact x_lv (hj8 s1.2) ⟨rfl, rfl, trivial⟩
          · refine x_P 32 rfl rfl rfl ?_
            refine x_gN rfl (fun o12 ho12 => ?_)
            refine x_P 36 rfl rfl rfl ?_
            refine x_P 37 rfl rfl rfl ?_
            refine x_sI rfl ⟨rfl, rfl⟩ (fun th13 hth13 => ?_)
            exact x_lv (hj8 th13) ⟨rfl, rfl, trivial⟩
        · exact x_lv (hj8 s1.2) ⟨rfl, rfl, trivial⟩
  · exact x_retV (x := x4) rfl
-- 208 NineTreesModel.isUnder(II)Z
noncomputable def m_208 (a0 : Int32) (a1 : Int32) (th : tH) : Option (Int32) :=
  jn (fun (v1 : Int32) =>
      rB v1
    ) (fun j2 =>
      jn (fun (v3 : Unit) =>
          j2 (Int32.ofInt 1)
        ) (fun j4 =>
          if a1 = 0 then
            j4 ()
          else
            if a0 = a1 then
              j4 ()
            else
              jn (fun (v5 : Unit) =>
                  jn (fun (v7 : Unit) =>
                      j2 (Int32.ofInt 0)
                    ) (fun j8 =>
                      if a1 = (Int32.ofInt 2) then
                        if a0 = (Int32.ofInt 5) then
                          j4 ()
                        else
                          j8 ()
                      else
                        j8 ()
                    )
                ) (fun j6 =>
                  if a1 = (Int32.ofInt 1) then
                    if a0 = (Int32.ofInt 3) then
                      j4 ()
                    else
                      j6 ()
                  else
                    j6 ()
                )
        )
    )
theorem S_208 {L : Nat} (d : Nat) (a0 : Int32) (a1 : Int32) (th : tH) : Wx L (fun x => (some (.int x), th)) d 208 2 0 [(0, .int a0), (1, .int a1)] [] th (m_208 a0 a1 th) := by
  unfold m_208
  refine x_P 1 rfl rfl rfl ?_
  refine x_jn 34 (fun v1 => []) (fun v1 => [.int v1]) (fun v1 => th) (fun v1 => ?_) (fun j2 hj2 => ?_)
  · exact x_rB rfl
  · refine x_jn 29 (fun v3 => []) (fun v3 => []) (fun v3 => th) (fun v3 => ?_) (fun j4 hj4 => ?_)
    · refine x_P 30 rfl rfl rfl ?_
      refine x_P 34 rfl rfl rfl ?_
      exact x_lv (hj2 (Int32.ofInt 1)) trivial
    · refine x_if_eq rfl rfl (fun h14 => ?_) (fun h14 => ?_)
      · exact x_lv (hj4 ()) trivial
      · refine x_P 5 rfl rfl rfl ?_
        refine x_P 6 rfl rfl rfl ?_
        refine x_ic_eq rfl rfl (fun h13 => ?_) (fun h13 => ?_)
        · exact x_lv (hj4 ()) trivial
        · refine x_P 10 rfl rfl rfl ?_
          refine x_P 11 rfl rfl rfl ?_
          refine x_jn 19 (fun v5 => [(0, .int a0), (1, .int a1)]) (fun v5 => []) (fun v5 => th) (fun v5 => ?_) (fun j6 hj6 => ?_)
          · refine x_P 20 rfl rfl rfl ?_
            refine x_P 21 rfl rfl rfl ?_
            refine x_jn 33 (fun v7 => []) (fun v7 => []) (fun v7 => th) (fun v7 => ?_) (fun j8 hj8 => ?_)
            · refine x_P 34 rfl rfl rfl ?_
              exact x_lv (hj2 (Int32.ofInt 0)) trivial
            · refine x_ic_ne rfl rfl (fun h10 => ?_) (fun h10 => ?_)
              · refine x_P 25 rfl rfl rfl ?_
                refine x_P 26 rfl rfl rfl ?_
                refine x_ic_ne rfl rfl (fun h9 => ?_) (fun h9 => ?_)
                · exact x_lv (hj4 ()) trivial
                · exact x_lv (hj8 ()) trivial
              · exact x_lv (hj8 ()) trivial
          · refine x_ic_ne rfl rfl (fun h12 => ?_) (fun h12 => ?_)
            · refine x_P 15 rfl rfl rfl ?_
              refine x_P 16 rfl rfl rfl ?_
              refine x_ic_eq rfl rfl (fun h11 => ?_) (fun h11 => ?_)
              · exact x_lv (hj4 ()) trivial
              · exact x_lv (hj6 ()) ⟨rfl, rfl, trivial⟩
            · exact x_lv (hj6 ()) ⟨rfl, rfl, trivial⟩
-- 235 NineTreesModel.area(III)I
noncomputable def m_235 (a0 : Nat) (a1 : Int32) (a2 : Int32) (a3 : Int32) (th : tH) : Option (Int32) :=
  (gC th 8 a0).bind fun _ =>
  (gI th 8 a0 9).bind fun x1 =>
  (dvI a2 x1).bind fun x2 =>
  (gI th 8 a0 9).bind fun x3 =>
  (dvI a1 x3).bind fun x4 =>
  (gI th 8 a0 9).bind fun x5 =>
  (rmI a2 x5).bind fun x6 =>
  (gI th 8 a0 9).bind fun x7 =>
  (rmI a1 x7).bind fun x8 =>
  (gI th 8 a0 9).bind fun x9 =>
  (rmI a3 x9).bind fun x10 =>
  (gI th 8 a0 9).bind fun x11 =>
  (rmI a1 x11).bind fun x12 =>
  (gI th 8 a0 9).bind fun x13 =>
  (dvI a3 x13).bind fun x14 =>
  (gI th 8 a0 9).bind fun x15 =>
  (dvI a1 x15).bind fun x16 =>
  some (((x2 - x4) * (x10 - x12)) - ((x6 - x8) * (x14 - x16)))
theorem c_235 {a0 : Nat} {a1 : Int32} {a2 : Int32} {a3 : Int32} {th : tH} {x : (Int32)} (h : m_235 a0 a1 a2 a3 th = some x) : ∃ fs, th[a0]? = some (.inr (8, fs)) := gC_of h
theorem S_235 {L : Nat} (d : Nat) (a0 : Nat) (a1 : Int32) (a2 : Int32) (a3 : Int32) (th : tH) : Wx L (fun x => (some (.int x), th)) d 235 6 0 [(0, .ref a0), (1, .int a1), (2, .int a2), (3, .int a3)] [] th (m_235 a0 a1 a2 a3 th) := by
  unfold m_235
  refine x_gC ?_
  refine x_P 1 rfl rfl rfl ?_
  refine x_P 2 rfl rfl rfl ?_
  refine x_gI rfl (fun x1 hx1 => ?_)
  refine x_dv rfl rfl (fun x2 hx2 => ?_)
  refine x_P 7 rfl rfl rfl ?_
  refine x_P 8 rfl rfl rfl ?_
  refine x_gI rfl (fun x3 hx3 => ?_)
  refine x_dv rfl rfl (fun x4 hx4 => ?_)
  refine x_P 13 rfl rfl rfl ?_
  refine x_P (lv' := [(4, .int (x2 - x4)), (0, .ref a0), (1, .int a1), (2, .int a2), (3, .int a3)]) 15 rfl rfl rfl ?_
  refine x_P 16 rfl rfl rfl ?_
  refine x_P 17 rfl rfl rfl ?_
  refine x_gI rfl (fun x5 hx5 => ?_)
  refine x_rm rfl rfl (fun x6 hx6 => ?_)
  refine x_P 22 rfl rfl rfl ?_
  refine x_P 23 rfl rfl rfl ?_
  refine x_gI rfl (fun x7 hx7 => ?_)
  refine x_rm rfl rfl (fun x8 hx8 => ?_)
  refine x_P 28 rfl rfl rfl ?_
  refine x_P (lv' := [(5, .int (x6 - x8)), (4, .int (x2 - x4)), (0, .ref a0), (1, .int a1), (2, .int a2), (3, .int a3)]) 30 rfl rfl rfl ?_
  refine x_P 32 rfl rfl rfl ?_
  refine x_P 33 rfl rfl rfl ?_
  refine x_P 34 rfl rfl rfl ?_
  refine x_gI rfl (fun x9 hx9 => ?_)
  refine x_rm rfl rfl (fun x10 hx10 => ?_)
  refine x_P 39 rfl rfl rfl ?_
  refine x_P 40 rfl rfl rfl ?_
  refine x_gI rfl (fun x11 hx11 => ?_)
  refine x_rm rfl rfl (fun x12 hx12 => ?_)
  refine x_P 45 rfl rfl rfl ?_
  refine x_P 46 rfl rfl rfl ?_
  refine x_P 48 rfl rfl rfl ?_
  refine x_P 49 rfl rfl rfl ?_
  refine x_P 50 rfl rfl rfl ?_
  refine x_gI rfl (fun x13 hx13 => ?_)
  refine x_dv rfl rfl (fun x14 hx14 => ?_)
  refine x_P 55 rfl rfl rfl ?_
  refine x_P 56 rfl rfl rfl ?_
  refine x_gI rfl (fun x15 hx15 => ?_)
  refine x_dv rfl rfl (fun x16 hx16 => ?_)
  refine x_P 61 rfl rfl rfl ?_
  refine x_P 62 rfl rfl rfl ?_
  refine x_P 63 rfl rfl rfl ?_
  exact x_retI (x := (((x2 - x4) * (x10 - x12)) - ((x6 - x8) * (x14 - x16)))) rfl
-- 236 NineTreesModel.areInLine(III)Z
noncomputable def m_236 (a0 : Nat) (a1 : Int32) (a2 : Int32) (a3 : Int32) (th : tH) : Option (Int32) :=
  (gC th 8 a0).bind fun _ =>
  (m_235 a0 a1 a2 a3 th).bind fun x1 =>
  jn (fun (v2 : Int32) =>
      rB v2
    ) (fun j3 =>
      if x1 = 0 then
        j3 (Int32.ofInt 1)
      else
        j3 (Int32.ofInt 0)
    )
theorem c_236 {a0 : Nat} {a1 : Int32} {a2 : Int32} {a3 : Int32} {th : tH} {x : (Int32)} (h : m_236 a0 a1 a2 a3 th = some x) : ∃ fs, th[a0]? = some (.inr (8, fs)) := gC_of h
theorem S_236 {L : Nat} (d : Nat) (a0 : Nat) (a1 : Int32) (a2 : Int32) (a3 : Int32) (th : tH) : Wx L (fun x => (some (.int x), th)) (d + 1) 236 4 0 [(0, .ref a0), (1, .int a1), (2, .int a2), (3, .int a3)] [] th (m_236 a0 a1 a2 a3 th) := by
  unfold m_236
  refine x_gC ?_
  refine x_P 1 rfl rfl rfl ?_
  refine x_P 2 rfl rfl rfl ?_
  refine x_P 3 rfl rfl rfl ?_
  refine x_P 4 rfl rfl rfl ?_
  refine x_callV rfl rfl rfl rfl rfl ⟨rfl, rfl⟩ (fun x h => c_235 h) (S_235 d a0 a1 a2 a3 th) (fun x1 hx1 => ?_)
  refine x_jn 15 (fun v2 => []) (fun v2 => [.int v2]) (fun v2 => th) (fun v2 => ?_) (fun j3 hj3 => ?_)
  · exact x_rB rfl
  · refine x_if_ne rfl rfl (fun h4 => ?_) (fun h4 => ?_)
    · refine x_P 11 rfl rfl rfl ?_
      refine x_P 15 rfl rfl rfl ?_
      exact x_lv (hj3 (Int32.ofInt 1)) trivial
    · refine x_P 15 rfl rfl rfl ?_
      exact x_lv (hj3 (Int32.ofInt 0)) trivial
-- 239 NineTreesModel.rowThrough(II)I
noncomputable def m_239 (a0 : Nat) (a1 : Int32) (a2 : Int32) (th : tH) : Option (Int32) :=
  (gC th 8 a0).bind fun _ =>
  lp (fun (s1 : Int32 × Int32) nx2 ex3 =>
      (gI th 8 a0 10).bind fun x5 =>
      if x5 ≤ s1.2 then
        ex3 s1.1
      else
        jn (fun (v6 : Int32) =>
            jn (fun (v8 : Int32 × Int32) =>
                nx2 ((v8.2 ||| v8.1), (s1.2 + Int32.ofInt 1))
              ) (fun j9 =>
                jn (fun (v10 : Int32) =>
                    j9 ((Int32.ofInt 0), v10)
                  ) (fun j11 =>
                    if v6 = 0 then
                      j11 s1.1
                    else
                      (gN th 8 a0 11).bind fun o12 =>
                      (aI th o12 s1.2).bind fun x13 =>
                      if x13 = (Int32.ofInt 4) then
                        j11 s1.1
                      else
                        j9 (((Int32.ofInt 1) <<< (s1.2 &&& 31)), s1.1)
                  )
              )
          ) (fun j7 =>
            jn (fun (v16 : Unit) =>
                j7 (Int32.ofInt 1)
              ) (fun j17 =>
                if s1.2 = a1 then
                  j17 ()
                else
                  if s1.2 = a2 then
                    j17 ()
                  else
                    (gN th 8 a0 12).bind fun o18 =>
                    (aI th o18 a1).bind fun x19 =>
                    (gN th 8 a0 12).bind fun o20 =>
                    (aI th o20 a2).bind fun x21 =>
                    (gN th 8 a0 12).bind fun o22 =>
                    (aI th o22 s1.2).bind fun x23 =>
                    (m_236 a0 x19 x21 x23 th).bind fun x24 =>
                    if x24 = 0 then
                      j7 (Int32.ofInt 0)
                    else
                      j17 ()
              )
          )
    ) 4096 ((Int32.ofInt 0), (Int32.ofInt 0)) (fun (x4 : Int32) =>
      some x4
    )
theorem c_239 {a0 : Nat} {a1 : Int32} {a2 : Int32} {th : tH} {x : (Int32)} (h : m_239 a0 a1 a2 th = some x) : ∃ fs, th[a0]? = some (.inr (8, fs)) := gC_of h
theorem S_239 {L : Nat} (d : Nat) (a0 : Nat) (a1 : Int32) (a2 : Int32) (th : tH) : Wx L (fun x => (some (.int x), th)) (d + 2) 239 6 0 [(0, .ref a0), (1, .int a1), (2, .int a2)] [] th (m_239 a0 a1 a2 th) := by
  unfold m_239
  refine x_gC ?_
  refine x_P 1 rfl rfl rfl ?_
  refine x_P (lv' := [(3, .int (Int32.ofInt 0)), (0, .ref a0), (1, .int a1), (2, .int a2)]) 2 rfl rfl rfl ?_
  refine x_P 3 rfl rfl rfl ?_
  refine x_P (lv' := [(4, .int (Int32.ofInt 0)), (3, .int (Int32.ofInt 0)), (0, .ref a0), (1, .int a1), (2, .int a2)]) 5 rfl rfl rfl ?_
  refine x_lv (lv := [(0, .ref a0), (1, .int a1), (2, .int a2), (3, .int (Int32.ofInt 0)), (4, .int (Int32.ofInt 0))]) (x_lp 92 (fun s1 => [(0, .ref a0), (1, .int a1), (2, .int a2), (3, .int s1.1), (4, .int s1.2)]) (fun s1 => th) (fun x4 => [(3, .int x4)]) (fun x4 => th) (fun s1 nx2 hnx2 ex3 hex3 => ?_) (fun x4 => ?_) 4096 ((Int32.ofInt 0), (Int32.ofInt 0))) ⟨rfl, rfl, rfl, rfl, rfl, trivial⟩
  · refine x_P 7 rfl rfl rfl ?_
    refine x_P 8 rfl rfl rfl ?_
    refine x_gI rfl (fun x5 hx5 => ?_)
    refine x_ic_ge rfl rfl (fun h28 => ?_) (fun h28 => ?_)
    · exact x_lv (hex3 s1.1) ⟨rfl, trivial⟩
    · refine x_P 16 rfl rfl rfl ?_
      refine x_P 17 rfl rfl rfl ?_
      refine x_jn 57 (fun v6 => [(0, .ref a0), (1, .int a1), (2, .int a2), (3, .int s1.1), (4, .int s1.2)]) (fun v6 => [.int v6]) (fun v6 => th) (fun v6 => ?_) (fun j7 hj7 => ?_)
      · refine x_P (lv' := [(5, .int v6), (0, .ref a0), (1, .int a1), (2, .int a2), (3, .int s1.1), (4, .int s1.2)]) 59 rfl rfl rfl ?_
        refine x_P 60 rfl rfl rfl ?_
        refine x_P 62 rfl rfl rfl ?_
        refine x_jn 84 (fun v8 => [(0, .ref a0), (1, .int a1), (2, .int a2), (4, .int s1.2)]) (fun v8 => [.int v8.1, .int v8.2]) (fun v8 => th) (fun v8 => ?_) (fun j9 hj9 => ?_)
        · refine x_P 85 rfl rfl rfl ?_
          refine x_P (lv' := [(3, .int (v8.2 ||| v8.1)), (0, .ref a0), (1, .int a1), (2, .int a2), (4, .int s1.2)]) 86 rfl rfl rfl ?_
          refine x_P (lv' := [(4, .int (s1.2 + Int32.ofInt 1)), (3, .int (v8.2 ||| v8.1)), (0, .ref a0), (1, .int a1), (2, .int a2)]) 89 rfl rfl rfl ?_
          refine x_P 5 rfl rfl rfl ?_
          exact x_lv (hnx2 ((v8.2 ||| v8.1), (s1.2 + Int32.ofInt 1))) ⟨rfl, rfl, rfl, rfl, rfl, trivial⟩
        · refine x_jn 83 (fun v10 => [(0, .ref a0), (1, .int a1), (2, .int a2), (4, .int s1.2)]) (fun v10 => [.int v10]) (fun v10 => th) (fun v10 => ?_) (fun j11 hj11 => ?_)
          · refine x_P 84 rfl rfl rfl ?_
            exact x_lv (hj9 ((Int32.ofInt 0), v10)) ⟨rfl, rfl, rfl, rfl, trivial⟩
          · refine x_if_eq rfl rfl (fun h15 => ?_) (fun h15 => ?_)
            · exact x_lv (hj11 s1.1) ⟨rfl, rfl, rfl, rfl, trivial⟩
            · refine x_P 66 rfl rfl rfl ?_
              refine x_gN rfl (fun o12 ho12 => ?_)
              refine x_P 71 rfl rfl rfl ?_
              refine x_aI rfl ⟨rfl, rfl⟩ (fun x13 hx13 => ?_)
              refine x_P 73 rfl rfl rfl ?_
              refine x_ic_eq rfl rfl (fun h14 => ?_) (fun h14 => ?_)
              · exact x_lv (hj11 s1.1) ⟨rfl, rfl, rfl, rfl, trivial⟩
              · refine x_P 77 rfl rfl rfl ?_
                refine x_P 79 rfl rfl rfl ?_
                refine x_P 80 rfl rfl rfl ?_
                refine x_P 84 rfl rfl rfl ?_
                exact x_lv (hj9 (((Int32.ofInt 1) <<< (s1.2 &&& 31)), s1.1)) ⟨rfl, rfl, rfl, rfl, trivial⟩
      · refine x_jn 52 (fun v16 => [(0, .ref a0), (1, .int a1), (2, .int a2), (3, .int s1.1), (4, .int s1.2)]) (fun v16 => []) (fun v16 => th) (fun v16 => ?_) (fun j17 hj17 => ?_)
        · refine x_P 53 rfl rfl rfl ?_
          refine x_P 57 rfl rfl rfl ?_
          exact x_lv (hj7 (Int32.ofInt 1)) ⟨rfl, rfl, rfl, rfl, rfl, trivial⟩
        · refine x_ic_eq rfl rfl (fun h27 => ?_) (fun h27 => ?_)
          · exact x_lv (hj17 ()) ⟨rfl, rfl, rfl, rfl, rfl, trivial⟩
          · refine x_P 22 rfl rfl rfl ?_
            refine x_P 23 rfl rfl rfl ?_
            refine x_ic_eq rfl rfl (fun h26 => ?_) (fun h26 => ?_)
            · exact x_lv (hj17 ()) ⟨rfl, rfl, rfl, rfl, rfl, trivial⟩
            · refine x_P 27 rfl rfl rfl ?_
              refine x_P 28 rfl rfl rfl ?_
              refine x_gN rfl (fun o18 ho18 => ?_)
              refine x_P 32 rfl rfl rfl ?_
              refine x_aI rfl ⟨rfl, rfl⟩ (fun x19 hx19 => ?_)
              refine x_P 34 rfl rfl rfl ?_
              refine x_gN rfl (fun o20 ho20 => ?_)
              refine x_P 38 rfl rfl rfl ?_
              refine x_aI rfl ⟨rfl, rfl⟩ (fun x21 hx21 => ?_)
              refine x_P 40 rfl rfl rfl ?_
              refine x_gN rfl (fun o22 ho22 => ?_)
              refine x_P 45 rfl rfl rfl ?_
              refine x_aI rfl ⟨rfl, rfl⟩ (fun x23 hx23 => ?_)
              refine x_callV rfl rfl rfl rfl rfl ⟨rfl, rfl⟩ (fun x h => c_236 h) (S_236 d a0 x19 x21 x23 th) (fun x24 hx24 => ?_)
              refine x_if_eq rfl rfl (fun h25 => ?_) (fun h25 => ?_)
              · refine x_P 57 rfl rfl rfl ?_
                exact x_lv (hj7 (Int32.ofInt 0)) ⟨rfl, rfl, rfl, rfl, rfl, trivial⟩
              · exact x_lv (hj17 ()) ⟨rfl, rfl, rfl, rfl, rfl, trivial⟩
  · refine x_P 93 rfl rfl rfl ?_
    exact x_retI (x := x4) rfl
