/-! ===== programs ===== -/
-- 91 NineTrees$Garden.dropLast()V
noncomputable def m_91 (a0 : Nat) (th : tH) : Option tH :=
  (gC th 2 a0).bind fun _ =>
  (gI th 2 a0 5).bind fun x1 =>
  jn (fun (v2 : tH) =>
      some v2
    ) (fun j3 =>
      if x1 ≤ 0 then
        j3 th
      else
        (gI th 2 a0 5).bind fun x4 =>
        (pI th 2 a0 5 (x4 - (Int32.ofInt 1))).bind fun th5 =>
        j3 th5
    )
theorem c_91 {a0 : Nat} {th : tH} {x : tH} (h : m_91 a0 th = some x) : ∃ fs, th[a0]? = some (.inr (2, fs)) := gC_of h
theorem S_91 {L : Nat} (d : Nat) (a0 : Nat) (th : tH) : Wx L (fun x => (none, x)) (d + 1) 91 1 0 [(0, .ref a0)] [] th (m_91 a0 th) := by
  unfold m_91
  refine x_gC ?_
  refine x_P 1 rfl rfl rfl ?_
  refine x_gI rfl (fun x1 hx1 => ?_)
  refine x_jn 17 (fun v2 => []) (fun v2 => []) (fun v2 => v2) (fun v2 => ?_) (fun j3 hj3 => ?_)
  · exact x_retV (x := v2) rfl
  · refine x_if_le rfl rfl (fun h6 => ?_) (fun h6 => ?_)
    · exact x_lv (hj3 th) trivial
    · refine x_P 8 rfl rfl rfl ?_
      refine x_P 9 rfl rfl rfl ?_
      refine x_gI rfl (fun x4 hx4 => ?_)
      refine x_P 13 rfl rfl rfl ?_
      refine x_P 14 rfl rfl rfl ?_
      refine x_pI rfl (fun th5 hth5 => ?_)
      exact x_lv (hj3 th5) trivial
-- 62 NineTrees.clearShelvesFrom(I)V
noncomputable def m_62 (a0 : Nat) (a1 : Int32) (th : tH) : Option tH :=
  (gC th 7 a0).bind fun _ =>
  lp (fun (s1 : Int32 × tH) nx2 ex3 =>
      (gN s1.2 7 a0 8).bind fun o5 =>
      (aL s1.2 o5).bind fun x6 =>
      if x6 ≤ s1.1 then
        ex3 s1.2
      else
        (m_60 a0 s1.1 s1.2).bind fun r7 =>
        jn (fun (v8 : tH) =>
            nx2 ((s1.1 + Int32.ofInt 1), v8)
          ) (fun j9 =>
            match r7 with
            | none =>
              j9 s1.2
            | some o10 =>
              (gI s1.2 5 o10 3).bind fun x11 =>
              if x11 < a1 then
                j9 s1.2
              else
                (m_156 o10 (Int32.ofInt (-1)) s1.2).bind fun th12 =>
                j9 th12
          )
    ) 4096 ((Int32.ofInt 0), th) (fun (x4 : tH) =>
      some x4
    )
theorem c_62 {a0 : Nat} {a1 : Int32} {th : tH} {x : tH} (h : m_62 a0 a1 th = some x) : ∃ fs, th[a0]? = some (.inr (7, fs)) := gC_of h
theorem S_62 {L : Nat} (d : Nat) (a0 : Nat) (a1 : Int32) (th : tH) : Wx L (fun x => (none, x)) (d + 2) 62 4 0 [(0, .ref a0), (1, .int a1)] [] th (m_62 a0 a1 th) := by
  unfold m_62
  refine x_gC ?_
  refine x_P 1 rfl rfl rfl ?_
  refine x_P (lv' := [(2, .int (Int32.ofInt 0)), (0, .ref a0), (1, .int a1)]) 2 rfl rfl rfl ?_
  refine x_lv (lv := [(0, .ref a0), (1, .int a1), (2, .int (Int32.ofInt 0))]) (x_lp 40 (fun s1 => [(0, .ref a0), (1, .int a1), (2, .int s1.1)]) (fun s1 => s1.2) (fun x4 => []) (fun x4 => x4) (fun s1 nx2 hnx2 ex3 hex3 => ?_) (fun x4 => ?_) 4096 ((Int32.ofInt 0), th)) ⟨rfl, rfl, rfl, trivial⟩
  · refine x_P 3 rfl rfl rfl ?_
    refine x_P 4 rfl rfl rfl ?_
    refine x_gN rfl (fun o5 ho5 => ?_)
    refine x_aL rfl ⟨rfl, rfl⟩ (fun x6 hx6 => ?_)
    refine x_ic_ge rfl rfl (fun h14 => ?_) (fun h14 => ?_)
    · exact x_lv (hex3 s1.2) trivial
    · refine x_P 12 rfl rfl rfl ?_
      refine x_P 13 rfl rfl rfl ?_
      refine x_callV rfl rfl rfl rfl rfl ⟨rfl, rfl⟩ (fun x h => c_60 h) (S_60 (d + 1) a0 s1.1 s1.2) (fun r7 hr7 => ?_)
      refine x_P (lv' := [(3, va_rf r7), (0, .ref a0), (1, .int a1), (2, .int s1.1)]) (st' := []) 17 rfl rfl (by rcases r7 with _ | _ <;> rfl) ?_
      refine x_P 18 rfl rfl (t_P_ald_n rfl) ?_
      refine x_jn 34 (fun v8 => [(0, .ref a0), (1, .int a1), (2, .int s1.1)]) (fun v8 => []) (fun v8 => v8) (fun v8 => ?_) (fun j9 hj9 => ?_)
      · refine x_P (lv' := [(2, .int (s1.1 + Int32.ofInt 1)), (0, .ref a0), (1, .int a1)]) 37 rfl rfl rfl ?_
        refine x_P 2 rfl rfl rfl ?_
        exact x_lv (hnx2 ((s1.1 + Int32.ofInt 1), v8)) ⟨rfl, rfl, rfl, trivial⟩
      · rcases r7 with _ | o10
        · refine x_P 34 rfl rfl rfl ?_
          exact x_lv (hj9 s1.2) ⟨rfl, rfl, rfl, trivial⟩
        · refine x_P 21 rfl rfl rfl ?_
          refine x_P 22 rfl rfl rfl ?_
          refine x_gI rfl (fun x11 hx11 => ?_)
          refine x_P 26 rfl rfl rfl ?_
          refine x_ic_lt rfl rfl (fun h13 => ?_) (fun h13 => ?_)
          · exact x_lv (hj9 s1.2) ⟨rfl, rfl, rfl, trivial⟩
          · refine x_P 30 rfl rfl rfl ?_
            refine x_P 31 rfl rfl rfl ?_
            refine x_callW rfl rfl rfl rfl rfl ⟨rfl, rfl⟩ (fun x h => c_156 h) (S_156 d o10 (Int32.ofInt (-1)) s1.2) (fun th12 hth12 => ?_)
            exact x_lv (hj9 th12) ⟨rfl, rfl, rfl, trivial⟩
  · exact x_retV (x := x4) rfl
-- 14 NineTrees.fell()I
noncomputable def m_14 (a0 : Nat) (th : tH) : Option (Int32 × tH) :=
  (gC th 7 a0).bind fun _ =>
  (gN th 7 a0 0).bind fun o1 =>
  (m_90 o1 th).bind fun x2 =>
  if x2 = 0 then
    (m_59 a0 (Int8.ofInt (-5)).toInt32 th).bind fun q10 =>
    some (q10.1, q10.2)
  else
    (gN th 7 a0 0).bind fun o3 =>
    (m_91 o3 th).bind fun th4 =>
    (gN th4 7 a0 0).bind fun o5 =>
    (gI th4 2 o5 5).bind fun x6 =>
    (m_62 a0 x6 th4).bind fun th7 =>
    (gN th7 7 a0 0).bind fun o8 =>
    (gI th7 2 o8 5).bind fun x9 =>
    some (x9, th7)
theorem c_14 {a0 : Nat} {th : tH} {x : (Int32 × tH)} (h : m_14 a0 th = some x) : ∃ fs, th[a0]? = some (.inr (7, fs)) := gC_of h
theorem S_14 {L : Nat} (d : Nat) (a0 : Nat) (th : tH) : Wx L (fun x => (some (.int x.1), x.2)) (d + 3) 14 1 0 [(0, .ref a0)] [] th (m_14 a0 th) := by
  unfold m_14
  refine x_gC ?_
  refine x_P 1 rfl rfl rfl ?_
  refine x_gN rfl (fun o1 ho1 => ?_)
  refine x_callV rfl rfl rfl rfl rfl ⟨rfl, rfl⟩ (fun x h => c_90 h) (S_90 (d + 1) o1 th) (fun x2 hx2 => ?_)
  refine x_if_ne rfl rfl (fun h11 => ?_) (fun h11 => ?_)
  · refine x_P 11 rfl rfl rfl ?_
    refine x_P 13 rfl rfl rfl ?_
    refine x_callV rfl rfl rfl rfl rfl ⟨rfl, rfl⟩ (fun x h => c_59 h) (S_59 (d + 1) a0 (Int8.ofInt (-5)).toInt32 th) (fun q10 hq10 => ?_)
    exact x_retI (x := (q10.1, q10.2)) rfl
  · refine x_P 18 rfl rfl rfl ?_
    refine x_gN rfl (fun o3 ho3 => ?_)
    refine x_callW rfl rfl rfl rfl rfl ⟨rfl, rfl⟩ (fun x h => c_91 h) (S_91 (d + 1) o3 th) (fun th4 hth4 => ?_)
    refine x_P 25 rfl rfl rfl ?_
    refine x_P 26 rfl rfl rfl ?_
    refine x_gN rfl (fun o5 ho5 => ?_)
    refine x_gI rfl (fun x6 hx6 => ?_)
    refine x_callW rfl rfl rfl rfl rfl ⟨rfl, rfl⟩ (fun x h => c_62 h) (S_62 d a0 x6 th4) (fun th7 hth7 => ?_)
    refine x_P 36 rfl rfl rfl ?_
    refine x_gN rfl (fun o8 ho8 => ?_)
    refine x_gI rfl (fun x9 hx9 => ?_)
    exact x_retI (x := (x9, th7)) rfl
-- 15 NineTrees.feed(I)I
noncomputable def m_15 (a0 : Nat) (a1 : Int32) (th : tH) : Option (Int32 × tH) :=
  (gC th 7 a0).bind fun _ =>
  jn (fun (v1 : Unit) =>
      (m_59 a0 (Int8.ofInt (-2)).toInt32 th).bind fun q3 =>
      some (q3.1, q3.2)
    ) (fun j2 =>
      if a1 < 0 then
        j2 ()
      else
        if a1 ≤ (Int16.ofInt 255).toInt32 then
          (gN th 7 a0 7).bind fun o4 =>
          (gI th 6 o4 1).bind fun x5 =>
          if x5 < (Int16.ofInt 250).toInt32 then
            (gN th 7 a0 7).bind fun o6 =>
            (gN th 6 o6 0).bind fun o7 =>
            (gN th 7 a0 7).bind fun o8 =>
            (gI th 6 o8 1).bind fun x9 =>
            (sI th o7 x9 a1).bind fun th10 =>
            (gN th10 7 a0 7).bind fun o11 =>
            (gI th10 6 o11 1).bind fun x12 =>
            (pI th10 6 o11 1 (x12 + (Int32.ofInt 1))).bind fun th13 =>
            (gN th13 7 a0 7).bind fun o14 =>
            (gI th13 6 o14 1).bind fun x15 =>
            some (x15, th13)
          else
            (m_59 a0 (Int8.ofInt (-6)).toInt32 th).bind fun q16 =>
            some (q16.1, q16.2)
        else
          j2 ()
    )
theorem c_15 {a0 : Nat} {a1 : Int32} {th : tH} {x : (Int32 × tH)} (h : m_15 a0 a1 th = some x) : ∃ fs, th[a0]? = some (.inr (7, fs)) := gC_of h
theorem S_15 {L : Nat} (d : Nat) (a0 : Nat) (a1 : Int32) (th : tH) : Wx L (fun x => (some (.int x.1), x.2)) (d + 2) 15 2 0 [(0, .ref a0), (1, .int a1)] [] th (m_15 a0 a1 th) := by
  unfold m_15
  refine x_gC ?_
  refine x_P 1 rfl rfl rfl ?_
  refine x_jn 11 (fun v1 => [(0, .ref a0)]) (fun v1 => []) (fun v1 => th) (fun v1 => ?_) (fun j2 hj2 => ?_)
  · refine x_P 12 rfl rfl rfl ?_
    refine x_P 14 rfl rfl rfl ?_
    refine x_callV rfl rfl rfl rfl rfl ⟨rfl, rfl⟩ (fun x h => c_59 h) (S_59 d a0 (Int8.ofInt (-2)).toInt32 th) (fun q3 hq3 => ?_)
    exact x_retI (x := (q3.1, q3.2)) rfl
  · refine x_if_lt rfl rfl (fun h19 => ?_) (fun h19 => ?_)
    · exact x_lv (hj2 ()) ⟨rfl, trivial⟩
    · refine x_P 5 rfl rfl rfl ?_
      refine x_P 8 rfl rfl rfl ?_
      refine x_ic_le rfl rfl (fun h18 => ?_) (fun h18 => ?_)
      · refine x_P 19 rfl rfl rfl ?_
        refine x_gN rfl (fun o4 ho4 => ?_)
        refine x_gI rfl (fun x5 hx5 => ?_)
        refine x_P 28 rfl rfl rfl ?_
        refine x_ic_lt rfl rfl (fun h17 => ?_) (fun h17 => ?_)
        · refine x_P 39 rfl rfl rfl ?_
          refine x_gN rfl (fun o6 ho6 => ?_)
          refine x_gN rfl (fun o7 ho7 => ?_)
          refine x_P 46 rfl rfl rfl ?_
          refine x_gN rfl (fun o8 ho8 => ?_)
          refine x_gI rfl (fun x9 hx9 => ?_)
          refine x_P 53 rfl rfl rfl ?_
          refine x_sI rfl ⟨rfl, rfl⟩ (fun th10 hth10 => ?_)
          refine x_P 55 rfl rfl rfl ?_
          refine x_gN rfl (fun o11 ho11 => ?_)
          refine x_P 59 rfl rfl rfl ?_
          refine x_gI rfl (fun x12 hx12 => ?_)
          refine x_P 63 rfl rfl rfl ?_
          refine x_P 64 rfl rfl rfl ?_
          refine x_pI rfl (fun th13 hth13 => ?_)
          refine x_P 68 rfl rfl rfl ?_
          refine x_gN rfl (fun o14 ho14 => ?_)
          refine x_gI rfl (fun x15 hx15 => ?_)
          exact x_retI (x := (x15, th13)) rfl
        · refine x_P 32 rfl rfl rfl ?_
          refine x_P 34 rfl rfl rfl ?_
          refine x_callV rfl rfl rfl rfl rfl ⟨rfl, rfl⟩ (fun x h => c_59 h) (S_59 d a0 (Int8.ofInt (-6)).toInt32 th) (fun q16 hq16 => ?_)
          exact x_retI (x := (q16.1, q16.2)) rfl
      · exact x_lv (hj2 ()) ⟨rfl, trivial⟩
-- 16 NineTrees.wipe()I
noncomputable def m_16 (a0 : Nat) (th : tH) : Option (Int32 × tH) :=
  (gC th 7 a0).bind fun _ =>
  (gN th 7 a0 7).bind fun o1 =>
  (gI th 6 o1 1).bind fun x2 =>
  (gN th 7 a0 7).bind fun o3 =>
  (pI th 6 o3 1 (Int32.ofInt 0)).bind fun th4 =>
  some (x2, th4)
theorem c_16 {a0 : Nat} {th : tH} {x : (Int32 × tH)} (h : m_16 a0 th = some x) : ∃ fs, th[a0]? = some (.inr (7, fs)) := gC_of h
theorem S_16 {L : Nat} (d : Nat) (a0 : Nat) (th : tH) : Wx L (fun x => (some (.int x.1), x.2)) (d + 1) 16 2 0 [(0, .ref a0)] [] th (m_16 a0 th) := by
  unfold m_16
  refine x_gC ?_
  refine x_P 1 rfl rfl rfl ?_
  refine x_gN rfl (fun o1 ho1 => ?_)
  refine x_gI rfl (fun x2 hx2 => ?_)
  refine x_P (lv' := [(1, .int x2), (0, .ref a0)]) 8 rfl rfl rfl ?_
  refine x_P 9 rfl rfl rfl ?_
  refine x_gN rfl (fun o3 ho3 => ?_)
  refine x_P 13 rfl rfl rfl ?_
  refine x_pI rfl (fun th4 hth4 => ?_)
  refine x_P 17 rfl rfl rfl ?_
  exact x_retI (x := (x2, th4)) rfl
-- 69 NineTrees$Garden.copyFrom(LNineTrees$Garden;)V
noncomputable def m_69 (a0 : Nat) (a1 : Nat) (th : tH) : Option tH :=
  (gC th 2 a0).bind fun _ =>
  (gN th 2 a1 0).bind fun o1 =>
  (gN th 2 a0 0).bind fun o2 =>
  (cpI th o1 (Int32.ofInt 0) o2 (Int32.ofInt 0) (Int8.ofInt 12).toInt32).bind fun th3 =>
  (gN th3 2 a1 1).bind fun o4 =>
  (gN th3 2 a0 1).bind fun o5 =>
  (cpI th3 o4 (Int32.ofInt 0) o5 (Int32.ofInt 0) (Int8.ofInt 12).toInt32).bind fun th6 =>
  (gN th6 2 a1 2).bind fun o7 =>
  (gN th6 2 a0 2).bind fun o8 =>
  (cpI th6 o7 (Int32.ofInt 0) o8 (Int32.ofInt 0) (Int8.ofInt 12).toInt32).bind fun th9 =>
  (gN th9 2 a1 3).bind fun o10 =>
  (gN th9 2 a0 3).bind fun o11 =>
  (cpI th9 o10 (Int32.ofInt 0) o11 (Int32.ofInt 0) (Int8.ofInt 8).toInt32).bind fun th12 =>
  (gI th12 2 a1 4).bind fun x13 =>
  (pI th12 2 a0 4 x13).bind fun th14 =>
  (gI th14 2 a1 5).bind fun x15 =>
  (pI th14 2 a0 5 x15).bind fun th16 =>
  (gI th16 2 a1 6).bind fun x17 =>
  (pI th16 2 a0 6 x17).bind fun th18 =>
  (gI th18 2 a1 7).bind fun x19 =>
  (pI th18 2 a0 7 x19).bind fun th20 =>
  some th20
theorem c_69 {a0 : Nat} {a1 : Nat} {th : tH} {x : tH} (h : m_69 a0 a1 th = some x) : ∃ fs, th[a0]? = some (.inr (2, fs)) := gC_of h
theorem S_69 {L : Nat} (d : Nat) (a0 : Nat) (a1 : Nat) (th : tH) : Wx L (fun x => (none, x)) (d + 1) 69 2 0 [(0, .ref a0), (1, .ref a1)] [] th (m_69 a0 a1 th) := by
  unfold m_69
  refine x_gC ?_
  refine x_P 1 rfl rfl rfl ?_
  refine x_gN rfl (fun o1 ho1 => ?_)
  refine x_P 5 rfl rfl rfl ?_
  refine x_P 6 rfl rfl rfl ?_
  refine x_gN rfl (fun o2 ho2 => ?_)
  refine x_P 10 rfl rfl rfl ?_
  refine x_P 12 rfl rfl rfl ?_
  refine x_cpI rfl rfl (fun th3 hth3 => ?_)
  refine x_P 16 rfl rfl rfl ?_
  refine x_gN rfl (fun o4 ho4 => ?_)
  refine x_P 20 rfl rfl rfl ?_
  refine x_P 21 rfl rfl rfl ?_
  refine x_gN rfl (fun o5 ho5 => ?_)
  refine x_P 25 rfl rfl rfl ?_
  refine x_P 27 rfl rfl rfl ?_
  refine x_cpI rfl rfl (fun th6 hth6 => ?_)
  refine x_P 31 rfl rfl rfl ?_
  refine x_gN rfl (fun o7 ho7 => ?_)
  refine x_P 35 rfl rfl rfl ?_
  refine x_P 36 rfl rfl rfl ?_
  refine x_gN rfl (fun o8 ho8 => ?_)
  refine x_P 40 rfl rfl rfl ?_
  refine x_P 42 rfl rfl rfl ?_
  refine x_cpI rfl rfl (fun th9 hth9 => ?_)
  refine x_P 46 rfl rfl rfl ?_
  refine x_gN rfl (fun o10 ho10 => ?_)
  refine x_P 50 rfl rfl rfl ?_
  refine x_P 51 rfl rfl rfl ?_
  refine x_gN rfl (fun o11 ho11 => ?_)
  refine x_P 55 rfl rfl rfl ?_
  refine x_P 57 rfl rfl rfl ?_
  refine x_cpI rfl rfl (fun th12 hth12 => ?_)
  refine x_P 61 rfl rfl rfl ?_
  refine x_P 62 rfl rfl rfl ?_
  refine x_gI rfl (fun x13 hx13 => ?_)
  refine x_pI rfl (fun th14 hth14 => ?_)
  refine x_P 69 rfl rfl rfl ?_
  refine x_P 70 rfl rfl rfl ?_
  refine x_gI rfl (fun x15 hx15 => ?_)
  refine x_pI rfl (fun th16 hth16 => ?_)
  refine x_P 77 rfl rfl rfl ?_
  refine x_P 78 rfl rfl rfl ?_
  refine x_gI rfl (fun x17 hx17 => ?_)
  refine x_pI rfl (fun th18 hth18 => ?_)
  refine x_P 85 rfl rfl rfl ?_
  refine x_P 86 rfl rfl rfl ?_
  refine x_gI rfl (fun x19 hx19 => ?_)
  refine x_pI rfl (fun th20 hth20 => ?_)
  exact x_retV (x := th20) rfl
-- 170 NineTrees$Tape.typeAt(I)I
noncomputable def m_170 (a0 : Nat) (a1 : Int32) (th : tH) : Option (Int32) :=
  (gC th 6 a0).bind fun _ =>
  (gI th 6 a0 1).bind fun x1 =>
  if a1 < x1 then
    (gN th 6 a0 0).bind fun o2 =>
    (aI th o2 a1).bind fun x3 =>
    jn (fun (v4 : Unit) =>
        jn (fun (v6 : Unit) =>
            jn (fun (v8 : Int32) =>
                some v8
              ) (fun j9 =>
                if x3 = (Int8.ofInt 59).toInt32 then
                  j9 (Int32.ofInt 3)
                else
                  j9 (Int32.ofInt 4)
              )
          ) (fun j7 =>
            if x3 < (Int8.ofInt 48).toInt32 then
              j7 ()
            else
              if (Int8.ofInt 57).toInt32 < x3 then
                j7 ()
              else
                some (Int32.ofInt 2)
          )
      ) (fun j5 =>
        if x3 < (Int8.ofInt 97).toInt32 then
          j5 ()
        else
          if (Int8.ofInt 122).toInt32 < x3 then
            j5 ()
          else
            some (Int32.ofInt 1)
      )
  else
    some (Int32.ofInt 0)
theorem c_170 {a0 : Nat} {a1 : Int32} {th : tH} {x : (Int32)} (h : m_170 a0 a1 th = some x) : ∃ fs, th[a0]? = some (.inr (6, fs)) := gC_of h
theorem S_170 {L : Nat} (d : Nat) (a0 : Nat) (a1 : Int32) (th : tH) : Wx L (fun x => (some (.int x), th)) d 170 3 0 [(0, .ref a0), (1, .int a1)] [] th (m_170 a0 a1 th) := by
  unfold m_170
  refine x_gC ?_
  refine x_P 1 rfl rfl rfl ?_
  refine x_P 2 rfl rfl rfl ?_
  refine x_gI rfl (fun x1 hx1 => ?_)
  refine x_ic_lt rfl rfl (fun h15 => ?_) (fun h15 => ?_)
  · refine x_P 11 rfl rfl rfl ?_
    refine x_gN rfl (fun o2 ho2 => ?_)
    refine x_P 15 rfl rfl rfl ?_
    refine x_aI rfl ⟨rfl, rfl⟩ (fun x3 hx3 => ?_)
    refine x_P (lv' := [(2, .int x3), (0, .ref a0), (1, .int a1)]) 17 rfl rfl rfl ?_
    refine x_P 18 rfl rfl rfl ?_
    refine x_P 20 rfl rfl rfl ?_
    refine x_jn 31 (fun v4 => [(2, .int x3)]) (fun v4 => []) (fun v4 => th) (fun v4 => ?_) (fun j5 hj5 => ?_)
    · refine x_P 32 rfl rfl rfl ?_
      refine x_P 34 rfl rfl rfl ?_
      refine x_jn 45 (fun v6 => [(2, .int x3)]) (fun v6 => []) (fun v6 => th) (fun v6 => ?_) (fun j7 hj7 => ?_)
      · refine x_P 46 rfl rfl rfl ?_
        refine x_P 48 rfl rfl rfl ?_
        refine x_jn 56 (fun v8 => []) (fun v8 => [.int v8]) (fun v8 => th) (fun v8 => ?_) (fun j9 hj9 => ?_)
        · exact x_retI (x := v8) rfl
        · refine x_ic_ne rfl rfl (fun h10 => ?_) (fun h10 => ?_)
          · refine x_P 52 rfl rfl rfl ?_
            refine x_P 56 rfl rfl rfl ?_
            exact x_lv (hj9 (Int32.ofInt 3)) trivial
          · refine x_P 56 rfl rfl rfl ?_
            exact x_lv (hj9 (Int32.ofInt 4)) trivial
      · refine x_ic_lt rfl rfl (fun h12 => ?_) (fun h12 => ?_)
        · exact x_lv (hj7 ()) ⟨rfl, trivial⟩
        · refine x_P 38 rfl rfl rfl ?_
          refine x_P 40 rfl rfl rfl ?_
          refine x_ic_gt rfl rfl (fun h11 => ?_) (fun h11 => ?_)
          · exact x_lv (hj7 ()) ⟨rfl, trivial⟩
          · refine x_P 44 rfl rfl rfl ?_
            exact x_retI (x := (Int32.ofInt 2)) rfl
    · refine x_ic_lt rfl rfl (fun h14 => ?_) (fun h14 => ?_)
      · exact x_lv (hj5 ()) ⟨rfl, trivial⟩
      · refine x_P 24 rfl rfl rfl ?_
        refine x_P 26 rfl rfl rfl ?_
        refine x_ic_gt rfl rfl (fun h13 => ?_) (fun h13 => ?_)
        · exact x_lv (hj5 ()) ⟨rfl, trivial⟩
        · refine x_P 30 rfl rfl rfl ?_
          exact x_retI (x := (Int32.ofInt 1)) rfl
  · refine x_P 9 rfl rfl rfl ?_
    exact x_retI (x := (Int32.ofInt 0)) rfl
-- 171 NineTrees$Tape.valueOfDigits()I
noncomputable def m_171 (a0 : Nat) (th : tH) : Option (Int32) :=
  (gC th 6 a0).bind fun _ =>
  (gI th 6 a0 5).bind fun x1 =>
  (gI th 6 a0 4).bind fun x2 =>
  if (x1 - x2) ≤ (Int32.ofInt 2) then
    (gI th 6 a0 4).bind fun x3 =>
    lp (fun (s4 : Int32 × Int32) nx5 ex6 =>
        (gI th 6 a0 5).bind fun x8 =>
        if x8 ≤ s4.2 then
          ex6 s4.1
        else
          (gN th 6 a0 0).bind fun o9 =>
          (aI th o9 s4.2).bind fun x10 =>
          nx5 (((((Int8.ofInt 10).toInt32 * s4.1) + x10) - (Int8.ofInt 48).toInt32), (s4.2 + Int32.ofInt 1))
      ) 4096 ((Int32.ofInt 0), x3) (fun (x7 : Int32) =>
        some x7
      )
  else
    some (Int32.ofInt (-1))
theorem c_171 {a0 : Nat} {th : tH} {x : (Int32)} (h : m_171 a0 th = some x) : ∃ fs, th[a0]? = some (.inr (6, fs)) := gC_of h
theorem S_171 {L : Nat} (d : Nat) (a0 : Nat) (th : tH) : Wx L (fun x => (some (.int x), th)) d 171 3 0 [(0, .ref a0)] [] th (m_171 a0 th) := by
  unfold m_171
  refine x_gC ?_
  refine x_P 1 rfl rfl rfl ?_
  refine x_gI rfl (fun x1 hx1 => ?_)
  refine x_P 5 rfl rfl rfl ?_
  refine x_gI rfl (fun x2 hx2 => ?_)
  refine x_P 9 rfl rfl rfl ?_
  refine x_P 10 rfl rfl rfl ?_
  refine x_ic_le rfl rfl (fun h12 => ?_) (fun h12 => ?_)
  · refine x_P 16 rfl rfl rfl ?_
    refine x_P (lv' := [(1, .int (Int32.ofInt 0)), (0, .ref a0)]) 17 rfl rfl rfl ?_
    refine x_P 18 rfl rfl rfl ?_
    refine x_gI rfl (fun x3 hx3 => ?_)
    refine x_P (lv' := [(2, .int x3), (1, .int (Int32.ofInt 0)), (0, .ref a0)]) 22 rfl rfl rfl ?_
    refine x_lv (lv := [(0, .ref a0), (1, .int (Int32.ofInt 0)), (2, .int x3)]) (x_lp 51 (fun s4 => [(0, .ref a0), (1, .int s4.1), (2, .int s4.2)]) (fun s4 => th) (fun x7 => [(1, .int x7)]) (fun x7 => th) (fun s4 nx5 hnx5 ex6 hex6 => ?_) (fun x7 => ?_) 4096 ((Int32.ofInt 0), x3)) ⟨rfl, rfl, rfl, trivial⟩
    · refine x_P 23 rfl rfl rfl ?_
      refine x_P 24 rfl rfl rfl ?_
      refine x_gI rfl (fun x8 hx8 => ?_)
      refine x_ic_ge rfl rfl (fun h11 => ?_) (fun h11 => ?_)
      · exact x_lv (hex6 s4.1) ⟨rfl, trivial⟩
      · refine x_P 32 rfl rfl rfl ?_
        refine x_P 33 rfl rfl rfl ?_
        refine x_P 34 rfl rfl rfl ?_
        refine x_P 35 rfl rfl rfl ?_
        refine x_gN rfl (fun o9 ho9 => ?_)
        refine x_P 39 rfl rfl rfl ?_
        refine x_aI rfl ⟨rfl, rfl⟩ (fun x10 hx10 => ?_)
        refine x_P 41 rfl rfl rfl ?_
        refine x_P 43 rfl rfl rfl ?_
        refine x_P 44 rfl rfl rfl ?_
        refine x_P (lv' := [(1, .int ((((Int8.ofInt 10).toInt32 * s4.1) + x10) - (Int8.ofInt 48).toInt32)), (0, .ref a0), (2, .int s4.2)]) 45 rfl rfl rfl ?_
        refine x_P (lv' := [(2, .int (s4.2 + Int32.ofInt 1)), (1, .int ((((Int8.ofInt 10).toInt32 * s4.1) + x10) - (Int8.ofInt 48).toInt32)), (0, .ref a0)]) 48 rfl rfl rfl ?_
        refine x_P 22 rfl rfl rfl ?_
        exact x_lv (hnx5 (((((Int8.ofInt 10).toInt32 * s4.1) + x10) - (Int8.ofInt 48).toInt32), (s4.2 + Int32.ofInt 1))) ⟨rfl, rfl, rfl, trivial⟩
    · refine x_P 52 rfl rfl rfl ?_
      exact x_retI (x := x7) rfl
  · refine x_P 14 rfl rfl rfl ?_
    exact x_retI (x := (Int32.ofInt (-1))) rfl
-- 169 NineTrees$Tape.advance()V
noncomputable def m_169 (a0 : Nat) (th : tH) : Option tH :=
  (gC th 6 a0).bind fun _ =>
  (gI th 6 a0 5).bind fun x1 =>
  (pI th 6 a0 4 x1).bind fun th2 =>
  lp (fun (s3 : tH) nx4 ex5 =>
      (gI s3 6 a0 4).bind fun x55 =>
      (gI s3 6 a0 1).bind fun x56 =>
      if x56 ≤ x55 then
        ex5 s3
      else
        (gN s3 6 a0 0).bind fun o57 =>
        (gI s3 6 a0 4).bind fun x58 =>
        (aI s3 o57 x58).bind fun x59 =>
        if x59 = (Int8.ofInt 32).toInt32 then
          (gI s3 6 a0 4).bind fun x60 =>
          (pI s3 6 a0 4 (x60 + (Int32.ofInt 1))).bind fun th61 =>
          nx4 th61
        else
          ex5 s3
    ) 4096 th2 (fun (x6 : tH) =>
      (gI x6 6 a0 4).bind fun x7 =>
      (m_170 a0 x7 x6).bind fun x8 =>
      (pI x6 6 a0 3 x8).bind fun th9 =>
      (gI th9 6 a0 3).bind fun x10 =>
      jn (fun (v11 : Int32 × Nat) =>
          (pI th9 6 v11.2 5 v11.1).bind fun th13 =>
          (gI th13 6 a0 3).bind fun x14 =>
          jn (fun (v15 : tH) =>
              (gI v15 6 a0 3).bind fun x17 =>
              jn (fun (v18 : Int32 × Nat) =>
                  (pI v15 6 v18.2 6 v18.1).bind fun th20 =>
                  some th20
                ) (fun j19 =>
                  if x17 = (Int32.ofInt 2) then
                    (m_171 a0 v15).bind fun x21 =>
                    j19 (x21, a0)
                  else
                    j19 ((Int32.ofInt (-1)), a0)
                )
            ) (fun j16 =>
              if x14 = (Int32.ofInt 1) then
                lp (fun (s23 : tH) nx24 ex25 =>
                    (gI s23 6 a0 5).bind fun x27 =>
                    (gI s23 6 a0 1).bind fun x28 =>
                    if x28 ≤ x27 then
                      ex25 s23
                    else
                      (gI s23 6 a0 5).bind fun x29 =>
                      (m_170 a0 x29 s23).bind fun x30 =>
                      (gI s23 6 a0 3).bind fun x31 =>
                      if x30 = x31 then
                        (gI s23 6 a0 5).bind fun x32 =>
                        (pI s23 6 a0 5 (x32 + (Int32.ofInt 1))).bind fun th33 =>
                        nx24 th33
                      else
                        ex25 s23
                  ) 4096 th13 (fun (x26 : tH) =>
                    j16 x26
                  )
              else
                (gI th13 6 a0 3).bind fun x36 =>
                if x36 = (Int32.ofInt 2) then
                  lp (fun (s37 : tH) nx38 ex39 =>
                      (gI s37 6 a0 5).bind fun x41 =>
                      (gI s37 6 a0 1).bind fun x42 =>
                      if x42 ≤ x41 then
                        ex39 s37
                      else
                        (gI s37 6 a0 5).bind fun x43 =>
                        (m_170 a0 x43 s37).bind fun x44 =>
                        (gI s37 6 a0 3).bind fun x45 =>
                        if x44 = x45 then
                          (gI s37 6 a0 5).bind fun x46 =>
                          (pI s37 6 a0 5 (x46 + (Int32.ofInt 1))).bind fun th47 =>
                          nx38 th47
                        else
                          ex39 s37
                    ) 4096 th13 (fun (x40 : tH) =>
                      j16 x40
                    )
                else
                  j16 th13
            )
        ) (fun j12 =>
          if x10 = 0 then
            (gI th9 6 a0 4).bind fun x53 =>
            j12 (x53, a0)
          else
            (gI th9 6 a0 4).bind fun x52 =>
            j12 ((x52 + (Int32.ofInt 1)), a0)
        )
    )
theorem c_169 {a0 : Nat} {th : tH} {x : tH} (h : m_169 a0 th = some x) : ∃ fs, th[a0]? = some (.inr (6, fs)) := gC_of h
theorem S_169 {L : Nat} (d : Nat) (a0 : Nat) (th : tH) : Wx L (fun x => (none, x)) (d + 1) 169 1 0 [(0, .ref a0)] [] th (m_169 a0 th) := by
  unfold m_169
  refine x_gC ?_
  refine x_P 1 rfl rfl rfl ?_
  refine x_P 2 rfl rfl rfl ?_
  refine x_gI rfl (fun x1 hx1 => ?_)
  refine x_pI rfl (fun th2 hth2 => ?_)
  refine x_lv (lv := [(0, .ref a0)]) (x_lp 46 (fun s3 => [(0, .ref a0)]) (fun s3 => s3) (fun x6 => [(0, .ref a0)]) (fun x6 => x6) (fun s3 nx4 hnx4 ex5 hex5 => ?_) (fun x6 => ?_) 4096 th2) ⟨rfl, trivial⟩
  · refine x_P 9 rfl rfl rfl ?_
    refine x_gI rfl (fun x55 hx55 => ?_)
    refine x_P 13 rfl rfl rfl ?_
    refine x_gI rfl (fun x56 hx56 => ?_)
    refine x_ic_ge rfl rfl (fun h63 => ?_) (fun h63 => ?_)
    · exact x_lv (hex5 s3) ⟨rfl, trivial⟩
    · refine x_P 20 rfl rfl rfl ?_
      refine x_gN rfl (fun o57 ho57 => ?_)
      refine x_P 24 rfl rfl rfl ?_
      refine x_gI rfl (fun x58 hx58 => ?_)
      refine x_aI rfl ⟨rfl, rfl⟩ (fun x59 hx59 => ?_)
      refine x_P 30 rfl rfl rfl ?_
      refine x_ic_ne rfl rfl (fun h62 => ?_) (fun h62 => ?_)
      · refine x_P 34 rfl rfl rfl ?_
        refine x_P 35 rfl rfl rfl ?_
        refine x_gI rfl (fun x60 hx60 => ?_)
        refine x_P 39 rfl rfl rfl ?_
        refine x_P 40 rfl rfl rfl ?_
        refine x_pI rfl (fun th61 hth61 => ?_)
        refine x_P 8 rfl rfl rfl ?_
        exact x_lv (hnx4 th61) ⟨rfl, trivial⟩
      · exact x_lv (hex5 s3) ⟨rfl, trivial⟩
  · refine x_P 47 rfl rfl rfl ?_
    refine x_P 48 rfl rfl rfl ?_
    refine x_P 49 rfl rfl rfl ?_
    refine x_gI rfl (fun x7 hx7 => ?_)
    refine x_callV rfl rfl rfl rfl rfl ⟨rfl, rfl⟩ (fun x h => c_170 h) (S_170 d a0 x7 x6) (fun x8 hx8 => ?_)
    refine x_pI rfl (fun th9 hth9 => ?_)
    refine x_P 59 rfl rfl rfl ?_
    refine x_P 60 rfl rfl rfl ?_
    refine x_gI rfl (fun x10 hx10 => ?_)
    refine x_jn 79 (fun v11 => [(0, .ref a0)]) (fun v11 => [.int v11.1, .ref v11.2]) (fun v11 => th9) (fun v11 => ?_) (fun j12 hj12 => ?_)
    · refine x_pI rfl (fun th13 hth13 => ?_)
      refine x_P 83 rfl rfl rfl ?_
      refine x_gI rfl (fun x14 hx14 => ?_)
      refine x_P 87 rfl rfl rfl ?_
      refine x_jn 137 (fun v15 => [(0, .ref a0)]) (fun v15 => []) (fun v15 => v15) (fun v15 => ?_) (fun j16 hj16 => ?_)
      · refine x_P 138 rfl rfl rfl ?_
        refine x_P 139 rfl rfl rfl ?_
        refine x_gI rfl (fun x17 hx17 => ?_)
        refine x_P 143 rfl rfl rfl ?_
        refine x_jn 154 (fun v18 => []) (fun v18 => [.int v18.1, .ref v18.2]) (fun v18 => v15) (fun v18 => ?_) (fun j19 hj19 => ?_)
        · refine x_pI rfl (fun th20 hth20 => ?_)
          exact x_retV (x := th20) rfl
        · refine x_ic_ne rfl rfl (fun h22 => ?_) (fun h22 => ?_)
          · refine x_P 147 rfl rfl rfl ?_
            refine x_callV rfl rfl rfl rfl rfl ⟨rfl, rfl⟩ (fun x h => c_171 h) (S_171 d a0 v15) (fun x21 hx21 => ?_)
            refine x_P 154 rfl rfl rfl ?_
            exact x_lv (hj19 (x21, a0)) trivial
          · refine x_P 154 rfl rfl rfl ?_
            exact x_lv (hj19 ((Int32.ofInt (-1)), a0)) trivial
      · refine x_ic_eq rfl rfl (fun h51 => ?_) (fun h51 => ?_)
        · refine x_lv (lv := [(0, .ref a0)]) (x_lp 137 (fun s23 => [(0, .ref a0)]) (fun s23 => s23) (fun x26 => [(0, .ref a0)]) (fun x26 => x26) (fun s23 nx24 hnx24 ex25 hex25 => ?_) (fun x26 => ?_) 4096 th13) ⟨rfl, trivial⟩
          · refine x_P 99 rfl rfl rfl ?_
            refine x_gI rfl (fun x27 hx27 => ?_)
            refine x_P 103 rfl rfl rfl ?_
            refine x_gI rfl (fun x28 hx28 => ?_)
            refine x_ic_ge rfl rfl (fun h35 => ?_) (fun h35 => ?_)
            · exact x_lv (hex25 s23) ⟨rfl, trivial⟩
            · refine x_P 110 rfl rfl rfl ?_
              refine x_P 111 rfl rfl rfl ?_
              refine x_gI rfl (fun x29 hx29 => ?_)
              refine x_callV rfl rfl rfl rfl rfl ⟨rfl, rfl⟩ (fun x h => c_170 h) (S_170 d a0 x29 s23) (fun x30 hx30 => ?_)
              refine x_P 118 rfl rfl rfl ?_
              refine x_gI rfl (fun x31 hx31 => ?_)
              refine x_ic_ne rfl rfl (fun h34 => ?_) (fun h34 => ?_)
              · refine x_P 125 rfl rfl rfl ?_
                refine x_P 126 rfl rfl rfl ?_
                refine x_gI rfl (fun x32 hx32 => ?_)
                refine x_P 130 rfl rfl rfl ?_
                refine x_P 131 rfl rfl rfl ?_
                refine x_pI rfl (fun th33 hth33 => ?_)
                refine x_P 98 rfl rfl rfl ?_
                exact x_lv (hnx24 th33) ⟨rfl, trivial⟩
              · exact x_lv (hex25 s23) ⟨rfl, trivial⟩
          · exact x_lv (hj16 x26) ⟨rfl, trivial⟩
        · refine x_P 91 rfl rfl rfl ?_
          refine x_gI rfl (fun x36 hx36 => ?_)
          refine x_P 95 rfl rfl rfl ?_
          refine x_ic_ne rfl rfl (fun h50 => ?_) (fun h50 => ?_)
          · refine x_lv (lv := [(0, .ref a0)]) (x_lp 137 (fun s37 => [(0, .ref a0)]) (fun s37 => s37) (fun x40 => [(0, .ref a0)]) (fun x40 => x40) (fun s37 nx38 hnx38 ex39 hex39 => ?_) (fun x40 => ?_) 4096 th13) ⟨rfl, trivial⟩
            · refine x_P 99 rfl rfl rfl ?_
              refine x_gI rfl (fun x41 hx41 => ?_)
              refine x_P 103 rfl rfl rfl ?_
              refine x_gI rfl (fun x42 hx42 => ?_)
              refine x_ic_ge rfl rfl (fun h49 => ?_) (fun h49 => ?_)
              · exact x_lv (hex39 s37) ⟨rfl, trivial⟩
              · refine x_P 110 rfl rfl rfl ?_
                refine x_P 111 rfl rfl rfl ?_
                refine x_gI rfl (fun x43 hx43 => ?_)
                refine x_callV rfl rfl rfl rfl rfl ⟨rfl, rfl⟩ (fun x h => c_170 h) (S_170 d a0 x43 s37) (fun x44 hx44 => ?_)
                refine x_P 118 rfl rfl rfl ?_
                refine x_gI rfl (fun x45 hx45 => ?_)
                refine x_ic_ne rfl rfl (fun h48 => ?_) (fun h48 => ?_)
                · refine x_P 125 rfl rfl rfl ?_
                  refine x_P 126 rfl rfl rfl ?_
                  refine x_gI rfl (fun x46 hx46 => ?_)
                  refine x_P 130 rfl rfl rfl ?_
                  refine x_P 131 rfl rfl rfl ?_
                  refine x_pI rfl (fun th47 hth47 => ?_)
                  refine x_P 98 rfl rfl rfl ?_
                  exact x_lv (hnx38 th47) ⟨rfl, trivial⟩
                · exact x_lv (hex39 s37) ⟨rfl, trivial⟩
            · exact x_lv (hj16 x40) ⟨rfl, trivial⟩
          · exact x_lv (hj16 th13) ⟨rfl, trivial⟩
    · refine x_if_ne rfl rfl (fun h54 => ?_) (fun h54 => ?_)
      · refine x_P 67 rfl rfl rfl ?_
        refine x_gI rfl (fun x53 hx53 => ?_)
        refine x_P 79 rfl rfl rfl ?_
        exact x_lv (hj12 (x53, a0)) ⟨rfl, trivial⟩
      · refine x_P 74 rfl rfl rfl ?_
        refine x_gI rfl (fun x52 hx52 => ?_)
        refine x_P 78 rfl rfl rfl ?_
        refine x_P 79 rfl rfl rfl ?_
        exact x_lv (hj12 ((x52 + (Int32.ofInt 1)), a0)) ⟨rfl, trivial⟩
-- 179 java/lang/String.coder()B
noncomputable def m_179 (a0 : Nat) (th : tH) : Option (Int32) :=
  (xS a0).bind fun _ =>
  jn (fun (v1 : Int32) =>
      rY v1
    ) (fun j2 =>
      if (1 : Int32) = 0 then
        j2 (Int32.ofInt 1)
      else
        (xS a0).bind fun u3 =>
        j2 (0 : Int32)
    )
theorem c_179 {a0 : Nat} {th : tH} {x : (Int32)} (h : m_179 a0 th = some x) : 1001 ≤ a0 ∧ a0 < 1011 := xS_of h
theorem S_179 {L : Nat} (d : Nat) (a0 : Nat) (th : tH) : Wx L (fun x => (some (.int x), th)) d 179 1 0 [(0, .ref a0)] [] th (m_179 a0 th) := by
  unfold m_179
  refine x_bind (fun _ _ => ?_)
  refine x_gs0 rfl ⟨rfl, rfl⟩ ?_
  refine x_jn 14 (fun v1 => []) (fun v1 => [.int v1]) (fun v1 => th) (fun v1 => ?_) (fun j2 hj2 => ?_)
  · exact x_rY rfl
  · refine x_if_eq rfl rfl (fun h4 => ?_) (fun h4 => ?_)
    · refine x_P 14 rfl rfl rfl ?_
      exact x_lv (hj2 (Int32.ofInt 1)) trivial
    · refine x_P 7 rfl rfl rfl ?_
      refine x_xS0 rfl (fun u3 hu3 => ?_)
      refine x_P 14 rfl rfl rfl ?_
      exact x_lv (hj2 (0 : Int32)) trivial
-- 177 java/lang/String.length()I
noncomputable def m_177 (a0 : Nat) (th : tH) : Option (Int32) :=
  (xS a0).bind fun _ =>
  (xS a0).bind fun u1 =>
  (aL th (a0 + 20)).bind fun x2 =>
  (m_179 a0 th).bind fun x3 =>
  some (x2 >>> (x3 &&& 31))
theorem c_177 {a0 : Nat} {th : tH} {x : (Int32)} (h : m_177 a0 th = some x) : 1001 ≤ a0 ∧ a0 < 1011 := xS_of h
theorem S_177 {L : Nat} (d : Nat) (a0 : Nat) (th : tH) : Wx L (fun x => (some (.int x), th)) (d + 1) 177 1 0 [(0, .ref a0)] [] th (m_177 a0 th) := by
  unfold m_177
  refine x_bind (fun _ _ => ?_)
  refine x_P 1 rfl rfl rfl ?_
  refine x_xS1 rfl (fun u1 hu1 => ?_)
  refine x_aL rfl ⟨rfl, rfl⟩ (fun x2 hx2 => ?_)
  refine x_P 6 rfl rfl rfl ?_
  refine x_callT rfl rfl rfl rfl rfl ⟨rfl, rfl⟩ (fun x h => c_179 h) (S_179 d a0 th) (fun x3 hx3 => ?_)
  refine x_P 10 rfl rfl rfl ?_
  exact x_retI (x := (x2 >>> (x3 &&& 31))) rfl
-- 180 java/lang/String.isLatin1()Z
noncomputable def m_180 (a0 : Nat) (th : tH) : Option (Int32) :=
  (xS a0).bind fun _ =>
  jn (fun (v1 : Int32) =>
      rB v1
    ) (fun j2 =>
      jn (fun (v3 : Unit) =>
          j2 (Int32.ofInt 0)
        ) (fun j4 =>
          if (1 : Int32) = 0 then
            j4 ()
          else
            (xS a0).bind fun u5 =>
            if (0 : Int32) = 0 then
              j2 (Int32.ofInt 1)
            else
              j4 ()
        )
    )
theorem c_180 {a0 : Nat} {th : tH} {x : (Int32)} (h : m_180 a0 th = some x) : 1001 ≤ a0 ∧ a0 < 1011 := xS_of h
theorem S_180 {L : Nat} (d : Nat) (a0 : Nat) (th : tH) : Wx L (fun x => (some (.int x), th)) d 180 1 0 [(0, .ref a0)] [] th (m_180 a0 th) := by
  unfold m_180
  refine x_bind (fun _ _ => ?_)
  refine x_gs0 rfl ⟨rfl, rfl⟩ ?_
  refine x_jn 18 (fun v1 => []) (fun v1 => [.int v1]) (fun v1 => th) (fun v1 => ?_) (fun j2 hj2 => ?_)
  · exact x_rB rfl
  · refine x_jn 17 (fun v3 => []) (fun v3 => []) (fun v3 => th) (fun v3 => ?_) (fun j4 hj4 => ?_)
    · refine x_P 18 rfl rfl rfl ?_
      exact x_lv (hj2 (Int32.ofInt 0)) trivial
    · refine x_if_eq rfl rfl (fun h7 => ?_) (fun h7 => ?_)
      · exact x_lv (hj4 ()) trivial
      · refine x_P 7 rfl rfl rfl ?_
        refine x_xS0 rfl (fun u5 hu5 => ?_)
        refine x_if_ne rfl rfl (fun h6 => ?_) (fun h6 => ?_)
        · refine x_P 14 rfl rfl rfl ?_
          refine x_P 18 rfl rfl rfl ?_
          exact x_lv (hj2 (Int32.ofInt 1)) trivial
        · exact x_lv (hj4 ()) trivial
-- 183 jdk/internal/util/Preconditions.checkIndex(IILjava/util/function/BiFunction;)I
noncomputable def m_183 (a0 : Int32) (a1 : Int32) (th : tH) : Option (Int32) :=
  jn (fun (v1 : Unit) =>
      none
    ) (fun j2 =>
      if a0 < 0 then
        j2 ()
      else
        if a0 < a1 then
          some a0
        else
          j2 ()
    )
theorem S_183 {L : Nat} (d : Nat) (a0 : Int32) (a1 : Int32) (th : tH) : Wx L (fun x => (some (.int x), th)) d 183 3 0 [(0, .int a0), (1, .int a1), (2, .retAddr 0)] [] th (m_183 a0 a1 th) := by
  unfold m_183
  refine x_P 1 rfl rfl rfl ?_
  refine x_jn 9 (fun v1 => [(0, .int a0), (1, .int a1), (2, .retAddr 0)]) (fun v1 => []) (fun v1 => th) (fun v1 => ?_) (fun j2 hj2 => ?_)
  · exact x_none
  · refine x_if_lt rfl rfl (fun h4 => ?_) (fun h4 => ?_)
    · exact x_lv (hj2 ()) ⟨rfl, rfl, rfl, trivial⟩
    · refine x_P 5 rfl rfl rfl ?_
      refine x_P 6 rfl rfl rfl ?_
      refine x_ic_lt rfl rfl (fun h3 => ?_) (fun h3 => ?_)
      · refine x_P 17 rfl rfl rfl ?_
        exact x_retI (x := a0) rfl
      · exact x_lv (hj2 ()) ⟨rfl, rfl, rfl, trivial⟩
-- 181 java/lang/String.checkIndex(II)V
noncomputable def m_181 (a0 : Int32) (a1 : Int32) (th : tH) : Option Unit :=
  (m_183 a0 a1 th).bind fun x1 =>
  some ()
theorem S_181 {L : Nat} (d : Nat) (a0 : Int32) (a1 : Int32) (th : tH) : Wx L (fun _ => (none, th)) (d + 1) 181 2 0 [(0, .int a0), (1, .int a1)] [] th (m_181 a0 a1 th) := by
  unfold m_181
  refine x_P 1 rfl rfl rfl ?_
  refine x_P 2 rfl rfl rfl ?_
  refine x_gs1 rfl ⟨rfl, rfl⟩ ?_
  refine x_callS rfl rfl rfl rfl rfl rfl ⟨rfl, rfl⟩ (S_183 d a0 a1 th) (fun x1 hx1 => ?_)
  refine x_P 9 rfl rfl rfl ?_
  exact x_retV (x := ()) rfl
-- 182 java/lang/StringLatin1.charAt([BI)C
noncomputable def m_182 (a0 : Nat) (a1 : Int32) (th : tH) : Option (Int32) :=
  (aL th a0).bind fun x1 =>
  (m_181 a1 x1 th).bind fun u2 =>
  (aB a0 a1).bind fun x3 =>
  rC (Int32.toUInt32 (x3 &&& (Int16.ofInt 255).toInt32) % 65536).toInt32
theorem S_182 {L : Nat} (d : Nat) (a0 : Nat) (a1 : Int32) (th : tH) : Wx L (fun x => (some (.int x), th)) (d + 2) 182 2 0 [(0, .ref a0), (1, .int a1)] [] th (m_182 a0 a1 th) := by
  unfold m_182
  refine x_P 1 rfl rfl rfl ?_
  refine x_P 2 rfl rfl rfl ?_
  refine x_aL rfl ⟨rfl, rfl⟩ (fun x1 hx1 => ?_)
  refine x_callSW rfl rfl rfl rfl rfl rfl ⟨rfl, rfl⟩ (S_181 d a1 x1 th) (fun u2 hu2 => ?_)
  refine x_P 7 rfl rfl rfl ?_
  refine x_P 8 rfl rfl rfl ?_
  refine x_aB rfl ⟨rfl, rfl⟩ (fun x3 hx3 => ?_)
  refine x_P 12 rfl rfl rfl ?_
  refine x_P 13 rfl rfl rfl ?_
  refine x_P 14 rfl rfl rfl ?_
  exact x_rC rfl
-- 178 java/lang/String.charAt(I)C
noncomputable def m_178 (a0 : Nat) (a1 : Int32) (th : tH) : Option (Int32) :=
  (xS a0).bind fun _ =>
  (m_180 a0 th).bind fun x1 =>
  if x1 = 0 then
    (xS a0).bind fun u2 =>
    none
  else
    (xS a0).bind fun u3 =>
    (m_182 (a0 + 20) a1 th).bind fun x4 =>
    rC x4
theorem c_178 {a0 : Nat} {a1 : Int32} {th : tH} {x : (Int32)} (h : m_178 a0 a1 th = some x) : 1001 ≤ a0 ∧ a0 < 1011 := xS_of h
theorem S_178 {L : Nat} (d : Nat) (a0 : Nat) (a1 : Int32) (th : tH) : Wx L (fun x => (some (.int x), th)) (d + 3) 178 2 0 [(0, .ref a0), (1, .int a1)] [] th (m_178 a0 a1 th) := by
  unfold m_178
  refine x_bind (fun _ _ => ?_)
  refine x_P 1 rfl rfl rfl ?_
  refine x_callT rfl rfl rfl rfl rfl ⟨rfl, rfl⟩ (fun x h => c_180 h) (S_180 (d + 2) a0 th) (fun x1 hx1 => ?_)
  refine x_if_eq rfl rfl (fun h5 => ?_) (fun h5 => ?_)
  · refine x_P 17 rfl rfl rfl ?_
    refine x_xS1 rfl (fun u2 hu2 => ?_)
    refine x_P 21 rfl rfl rfl ?_
    exact x_none
  · refine x_P 8 rfl rfl rfl ?_
    refine x_xS1 rfl (fun u3 hu3 => ?_)
    refine x_P 12 rfl rfl rfl ?_
    refine x_callS rfl rfl rfl rfl rfl rfl ⟨rfl, rfl⟩ (S_182 d (a0 + 20) a1 th) (fun x4 hx4 => ?_)
    exact x_rC rfl
-- 168 NineTrees$Tape.isWord(Ljava/lang/String;)Z
noncomputable def m_168 (a0 : Nat) (a1 : Nat) (th : tH) : Option (Int32) :=
  (gC th 6 a0).bind fun _ =>
  (gI th 6 a0 5).bind fun x1 =>
  (gI th 6 a0 4).bind fun x2 =>
  (m_177 a1 th).bind fun x3 =>
  if (x1 - x2) = x3 then
    lp (fun (s4 : Int32) nx5 ex6 =>
        (m_177 a1 th).bind fun x8 =>
        if x8 ≤ s4 then
          ex6 ()
        else
          (gN th 6 a0 0).bind fun o9 =>
          (gI th 6 a0 4).bind fun x10 =>
          (aI th o9 (x10 + s4)).bind fun x11 =>
          (m_178 a1 s4 th).bind fun x12 =>
          if x11 = x12 then
            nx5 (s4 + Int32.ofInt 1)
          else
            rB (Int32.ofInt 0)
      ) 4096 (Int32.ofInt 0) (fun (x7 : Unit) =>
        rB (Int32.ofInt 1)
      )
  else
    rB (Int32.ofInt 0)
theorem c_168 {a0 : Nat} {a1 : Nat} {th : tH} {x : (Int32)} (h : m_168 a0 a1 th = some x) : ∃ fs, th[a0]? = some (.inr (6, fs)) := gC_of h
theorem S_168 {L : Nat} (d : Nat) (a0 : Nat) (a1 : Nat) (th : tH) : Wx L (fun x => (some (.int x), th)) (d + 4) 168 3 0 [(0, .ref a0), (1, .ref a1)] [] th (m_168 a0 a1 th) := by
  unfold m_168
  refine x_gC ?_
  refine x_P 1 rfl rfl rfl ?_
  refine x_gI rfl (fun x1 hx1 => ?_)
  refine x_P 5 rfl rfl rfl ?_
  refine x_gI rfl (fun x2 hx2 => ?_)
  refine x_P 9 rfl rfl rfl ?_
  refine x_P 10 rfl rfl rfl ?_
  refine x_callT rfl rfl rfl rfl rfl ⟨rfl, rfl⟩ (fun x h => c_177 h) (S_177 (d + 2) a1 th) (fun x3 hx3 => ?_)
  refine x_ic_eq rfl rfl (fun h15 => ?_) (fun h15 => ?_)
  · refine x_P 19 rfl rfl rfl ?_
    refine x_P (lv' := [(2, .int (Int32.ofInt 0)), (0, .ref a0), (1, .ref a1)]) 20 rfl rfl rfl ?_
    refine x_lv (lv := [(0, .ref a0), (1, .ref a1), (2, .int (Int32.ofInt 0))]) (x_lp 55 (fun s4 => [(0, .ref a0), (1, .ref a1), (2, .int s4)]) (fun s4 => th) (fun x7 => []) (fun x7 => th) (fun s4 nx5 hnx5 ex6 hex6 => ?_) (fun x7 => ?_) 4096 (Int32.ofInt 0)) ⟨rfl, rfl, rfl, trivial⟩
    · refine x_P 21 rfl rfl rfl ?_
      refine x_P 22 rfl rfl rfl ?_
      refine x_callT rfl rfl rfl rfl rfl ⟨rfl, rfl⟩ (fun x h => c_177 h) (S_177 (d + 2) a1 th) (fun x8 hx8 => ?_)
      refine x_ic_ge rfl rfl (fun h14 => ?_) (fun h14 => ?_)
      · exact x_lv (hex6 ()) trivial
      · refine x_P 29 rfl rfl rfl ?_
        refine x_gN rfl (fun o9 ho9 => ?_)
        refine x_P 33 rfl rfl rfl ?_
        refine x_gI rfl (fun x10 hx10 => ?_)
        refine x_P 37 rfl rfl rfl ?_
        refine x_P 38 rfl rfl rfl ?_
        refine x_aI rfl ⟨rfl, rfl⟩ (fun x11 hx11 => ?_)
        refine x_P 40 rfl rfl rfl ?_
        refine x_P 41 rfl rfl rfl ?_
        refine x_callT rfl rfl rfl rfl rfl ⟨rfl, rfl⟩ (fun x h => c_178 h) (S_178 d a1 s4 th) (fun x12 hx12 => ?_)
        refine x_ic_eq rfl rfl (fun h13 => ?_) (fun h13 => ?_)
        · refine x_P (lv' := [(2, .int (s4 + Int32.ofInt 1)), (0, .ref a0), (1, .ref a1)]) 52 rfl rfl rfl ?_
          refine x_P 20 rfl rfl rfl ?_
          exact x_lv (hnx5 (s4 + Int32.ofInt 1)) ⟨rfl, rfl, rfl, trivial⟩
        · refine x_P 48 rfl rfl rfl ?_
          exact x_rB rfl
    · refine x_P 56 rfl rfl rfl ?_
      exact x_rB rfl
  · refine x_P 17 rfl rfl rfl ?_
    exact x_rB rfl
-- 167 NineTrees$Tape.isNumber(II)Z
noncomputable def m_167 (a0 : Nat) (a1 : Int32) (a2 : Int32) (th : tH) : Option (Int32) :=
  (gC th 6 a0).bind fun _ =>
  (gI th 6 a0 3).bind fun x1 =>
  jn (fun (v2 : Int32) =>
      rB v2
    ) (fun j3 =>
      jn (fun (v4 : Unit) =>
          j3 (Int32.ofInt 0)
        ) (fun j5 =>
          if x1 = (Int32.ofInt 2) then
            (gI th 6 a0 6).bind fun x6 =>
            if x6 < a1 then
              j5 ()
            else
              (gI th 6 a0 6).bind fun x7 =>
              if a2 < x7 then
                j5 ()
              else
                j3 (Int32.ofInt 1)
          else
            j5 ()
        )
    )
theorem c_167 {a0 : Nat} {a1 : Int32} {a2 : Int32} {th : tH} {x : (Int32)} (h : m_167 a0 a1 a2 th = some x) : ∃ fs, th[a0]? = some (.inr (6, fs)) := gC_of h
theorem S_167 {L : Nat} (d : Nat) (a0 : Nat) (a1 : Int32) (a2 : Int32) (th : tH) : Wx L (fun x => (some (.int x), th)) d 167 3 0 [(0, .ref a0), (1, .int a1), (2, .int a2)] [] th (m_167 a0 a1 a2 th) := by
  unfold m_167
  refine x_gC ?_
  refine x_P 1 rfl rfl rfl ?_
  refine x_gI rfl (fun x1 hx1 => ?_)
  refine x_P 5 rfl rfl rfl ?_
  refine x_jn 29 (fun v2 => []) (fun v2 => [.int v2]) (fun v2 => th) (fun v2 => ?_) (fun j3 hj3 => ?_)
  · exact x_rB rfl
  · refine x_jn 28 (fun v4 => []) (fun v4 => []) (fun v4 => th) (fun v4 => ?_) (fun j5 hj5 => ?_)
    · refine x_P 29 rfl rfl rfl ?_
      exact x_lv (hj3 (Int32.ofInt 0)) trivial
    · refine x_ic_ne rfl rfl (fun h10 => ?_) (fun h10 => ?_)
      · refine x_P 9 rfl rfl rfl ?_
        refine x_gI rfl (fun x6 hx6 => ?_)
        refine x_P 13 rfl rfl rfl ?_
        refine x_ic_lt rfl rfl (fun h9 => ?_) (fun h9 => ?_)
        · exact x_lv (hj5 ()) trivial
        · refine x_P 17 rfl rfl rfl ?_
          refine x_gI rfl (fun x7 hx7 => ?_)
          refine x_P 21 rfl rfl rfl ?_
          refine x_ic_gt rfl rfl (fun h8 => ?_) (fun h8 => ?_)
          · exact x_lv (hj5 ()) trivial
          · refine x_P 25 rfl rfl rfl ?_
            refine x_P 29 rfl rfl rfl ?_
            exact x_lv (hj3 (Int32.ofInt 1)) trivial
      · exact x_lv (hj5 ()) trivial
-- 166 NineTrees$Tape.advanceToNumber(II)Z
noncomputable def m_166 (a0 : Nat) (a1 : Int32) (a2 : Int32) (th : tH) : Option (Int32 × tH) :=
  (gC th 6 a0).bind fun _ =>
  (m_169 a0 th).bind fun th1 =>
  (m_167 a0 a1 a2 th1).bind fun x2 =>
  (rB x2).bind fun y3 => some (y3, th1)
theorem c_166 {a0 : Nat} {a1 : Int32} {a2 : Int32} {th : tH} {x : (Int32 × tH)} (h : m_166 a0 a1 a2 th = some x) : ∃ fs, th[a0]? = some (.inr (6, fs)) := gC_of h
theorem S_166 {L : Nat} (d : Nat) (a0 : Nat) (a1 : Int32) (a2 : Int32) (th : tH) : Wx L (fun x => (some (.int x.1), x.2)) (d + 2) 166 3 0 [(0, .ref a0), (1, .int a1), (2, .int a2)] [] th (m_166 a0 a1 a2 th) := by
  unfold m_166
  refine x_gC ?_
  refine x_P 1 rfl rfl rfl ?_
  refine x_callW rfl rfl rfl rfl rfl ⟨rfl, rfl⟩ (fun x h => c_169 h) (S_169 d a0 th) (fun th1 hth1 => ?_)
  refine x_P 5 rfl rfl rfl ?_
  refine x_P 6 rfl rfl rfl ?_
  refine x_P 7 rfl rfl rfl ?_
  refine x_callV rfl rfl rfl rfl rfl ⟨rfl, rfl⟩ (fun x h => c_167 h) (S_167 (d + 1) a0 a1 a2 th1) (fun x2 hx2 => ?_)
  exact x_rBw rfl
-- 161 NineTrees$Tape.readSide(LNineTrees$Garden;)Z
noncomputable def m_161 (a0 : Nat) (a1 : Nat) (th : tH) : Option (Int32 × tH) :=
  (gC th 6 a0).bind fun _ =>
  (gI th 2 a1 5).bind fun x1 =>
  jn (fun (v2 : tH) =>
      (rB (Int32.ofInt 0)).bind fun y4 => some (y4, v2)
    ) (fun j3 =>
      if 0 < x1 then
        j3 th
      else
        (m_166 a0 (Int32.ofInt 3) (Int8.ofInt 8).toInt32 th).bind fun q5 =>
        if q5.1 = 0 then
          j3 q5.2
        else
          (gI q5.2 6 a0 6).bind fun x6 =>
          (pI q5.2 2 a1 4 x6).bind fun th7 =>
          (m_169 a0 th7).bind fun th8 =>
          (rB (Int32.ofInt 1)).bind fun y9 => some (y9, th8)
    )
theorem c_161 {a0 : Nat} {a1 : Nat} {th : tH} {x : (Int32 × tH)} (h : m_161 a0 a1 th = some x) : ∃ fs, th[a0]? = some (.inr (6, fs)) := gC_of h
theorem S_161 {L : Nat} (d : Nat) (a0 : Nat) (a1 : Nat) (th : tH) : Wx L (fun x => (some (.int x.1), x.2)) (d + 3) 161 2 0 [(0, .ref a0), (1, .ref a1)] [] th (m_161 a0 a1 th) := by
  unfold m_161
  refine x_gC ?_
  refine x_P 1 rfl rfl rfl ?_
  refine x_gI rfl (fun x1 hx1 => ?_)
  refine x_jn 17 (fun v2 => []) (fun v2 => []) (fun v2 => v2) (fun v2 => ?_) (fun j3 hj3 => ?_)
  · refine x_P 18 rfl rfl rfl ?_
    exact x_rBw rfl
  · refine x_if_gt rfl rfl (fun h11 => ?_) (fun h11 => ?_)
    · exact x_lv (hj3 th) trivial
    · refine x_P 8 rfl rfl rfl ?_
      refine x_P 9 rfl rfl rfl ?_
      refine x_P 11 rfl rfl rfl ?_
      refine x_callV rfl rfl rfl rfl rfl ⟨rfl, rfl⟩ (fun x h => c_166 h) (S_166 d a0 (Int32.ofInt 3) (Int8.ofInt 8).toInt32 th) (fun q5 hq5 => ?_)
      refine x_if_ne rfl rfl (fun h10 => ?_) (fun h10 => ?_)
      · exact x_lv (hj3 q5.2) trivial
      · refine x_P 20 rfl rfl rfl ?_
        refine x_P 21 rfl rfl rfl ?_
        refine x_gI rfl (fun x6 hx6 => ?_)
        refine x_pI rfl (fun th7 hth7 => ?_)
        refine x_P 28 rfl rfl rfl ?_
        refine x_callW rfl rfl rfl rfl rfl ⟨rfl, rfl⟩ (fun x h => c_169 h) (S_169 (d + 1) a0 th7) (fun th8 hth8 => ?_)
        refine x_P 32 rfl rfl rfl ?_
        exact x_rBw rfl
-- 162 NineTrees$Tape.readTree(LNineTrees$Garden;)Z
noncomputable def m_162 (a0 : Nat) (a1 : Nat) (th : tH) : Option (Int32 × tH) :=
  (gC th 6 a0).bind fun _ =>
  (gI th 2 a1 5).bind fun x1 =>
  jn (fun (v2 : tH) =>
      (rB (Int32.ofInt 0)).bind fun y4 => some (y4, v2)
    ) (fun j3 =>
      if (Int8.ofInt 12).toInt32 ≤ x1 then
        j3 th
      else
        (m_166 a0 (Int32.ofInt 0) (Int32.ofInt 5) th).bind fun q5 =>
        if q5.1 = 0 then
          j3 q5.2
        else
          (gI q5.2 6 a0 6).bind fun x6 =>
          (m_70 a1 q5.2).bind fun x7 =>
          (m_166 a0 (Int32.ofInt 0) (x7 - (Int32.ofInt 1)) q5.2).bind fun q8 =>
          jn (fun (v9 : Unit) =>
              (rB (Int32.ofInt 0)).bind fun y11 => some (y11, q8.2)
            ) (fun j10 =>
              if q8.1 = 0 then
                j10 ()
              else
                (gI q8.2 6 a0 6).bind fun x12 =>
                (m_84 a1 x12 q8.2).bind fun x13 =>
                if x13 = 0 then
                  j10 ()
                else
                  (gI q8.2 6 a0 6).bind fun x14 =>
                  (m_166 a0 (Int32.ofInt 0) (Int8.ofInt 9).toInt32 q8.2).bind fun q15 =>
                  if q15.1 = 0 then
                    (rB (Int32.ofInt 0)).bind fun y20 => some (y20, q15.2)
                  else
                    (gI q15.2 6 a0 6).bind fun x16 =>
                    (m_89 a1 x6 x14 x16 q15.2).bind fun th17 =>
                    (m_169 a0 th17).bind fun th18 =>
                    (rB (Int32.ofInt 1)).bind fun y19 => some (y19, th18)
            )
    )
theorem c_162 {a0 : Nat} {a1 : Nat} {th : tH} {x : (Int32 × tH)} (h : m_162 a0 a1 th = some x) : ∃ fs, th[a0]? = some (.inr (6, fs)) := gC_of h
theorem S_162 {L : Nat} (d : Nat) (a0 : Nat) (a1 : Nat) (th : tH) : Wx L (fun x => (some (.int x.1), x.2)) (d + 3) 162 4 0 [(0, .ref a0), (1, .ref a1)] [] th (m_162 a0 a1 th) := by
  unfold m_162
  refine x_gC ?_
  refine x_P 1 rfl rfl rfl ?_
  refine x_gI rfl (fun x1 hx1 => ?_)
  refine x_P 6 rfl rfl rfl ?_
  refine x_jn 18 (fun v2 => []) (fun v2 => []) (fun v2 => v2) (fun v2 => ?_) (fun j3 hj3 => ?_)
  · refine x_P 19 rfl rfl rfl ?_
    exact x_rBw rfl
  · refine x_ic_ge rfl rfl (fun h25 => ?_) (fun h25 => ?_)
    · exact x_lv (hj3 th) trivial
    · refine x_P 10 rfl rfl rfl ?_
      refine x_P 11 rfl rfl rfl ?_
      refine x_P 12 rfl rfl rfl ?_
      refine x_callV rfl rfl rfl rfl rfl ⟨rfl, rfl⟩ (fun x h => c_166 h) (S_166 d a0 (Int32.ofInt 0) (Int32.ofInt 5) th) (fun q5 hq5 => ?_)
      refine x_if_ne rfl rfl (fun h24 => ?_) (fun h24 => ?_)
      · exact x_lv (hj3 q5.2) trivial
      · refine x_P 21 rfl rfl rfl ?_
        refine x_gI rfl (fun x6 hx6 => ?_)
        refine x_P (lv' := [(2, .int x6), (0, .ref a0), (1, .ref a1)]) 25 rfl rfl rfl ?_
        refine x_P 26 rfl rfl rfl ?_
        refine x_P 27 rfl rfl rfl ?_
        refine x_P 28 rfl rfl rfl ?_
        refine x_callV rfl rfl rfl rfl rfl ⟨rfl, rfl⟩ (fun x h => c_70 h) (S_70 (d + 2) a1 q5.2) (fun x7 hx7 => ?_)
        refine x_P 32 rfl rfl rfl ?_
        refine x_P 33 rfl rfl rfl ?_
        refine x_callV rfl rfl rfl rfl rfl ⟨rfl, rfl⟩ (fun x h => c_166 h) (S_166 d a0 (Int32.ofInt 0) (x7 - (Int32.ofInt 1)) q5.2) (fun q8 hq8 => ?_)
        refine x_jn 50 (fun v9 => []) (fun v9 => []) (fun v9 => q8.2) (fun v9 => ?_) (fun j10 hj10 => ?_)
        · refine x_P 51 rfl rfl rfl ?_
          exact x_rBw rfl
        · refine x_if_eq rfl rfl (fun h23 => ?_) (fun h23 => ?_)
          · exact x_lv (hj10 ()) trivial
          · refine x_P 40 rfl rfl rfl ?_
            refine x_P 41 rfl rfl rfl ?_
            refine x_gI rfl (fun x12 hx12 => ?_)
            refine x_callV rfl rfl rfl rfl rfl ⟨rfl, rfl⟩ (fun x h => c_84 h) (S_84 (d + 1) a1 x12 q8.2) (fun x13 hx13 => ?_)
            refine x_if_ne rfl rfl (fun h22 => ?_) (fun h22 => ?_)
            · exact x_lv (hj10 ()) trivial
            · refine x_P 53 rfl rfl rfl ?_
              refine x_gI rfl (fun x14 hx14 => ?_)
              refine x_P (lv' := [(3, .int x14), (2, .int x6), (0, .ref a0), (1, .ref a1)]) 57 rfl rfl rfl ?_
              refine x_P 58 rfl rfl rfl ?_
              refine x_P 59 rfl rfl rfl ?_
              refine x_P 61 rfl rfl rfl ?_
              refine x_callV rfl rfl rfl rfl rfl ⟨rfl, rfl⟩ (fun x h => c_166 h) (S_166 d a0 (Int32.ofInt 0) (Int8.ofInt 9).toInt32 q8.2) (fun q15 hq15 => ?_)
              refine x_if_ne rfl rfl (fun h21 => ?_) (fun h21 => ?_)
              · refine x_P 68 rfl rfl rfl ?_
                exact x_rBw rfl
              · refine x_P 70 rfl rfl rfl ?_
                refine x_P 71 rfl rfl rfl ?_
                refine x_P 72 rfl rfl rfl ?_
                refine x_P 73 rfl rfl rfl ?_
                refine x_gI rfl (fun x16 hx16 => ?_)
                refine x_callW rfl rfl rfl rfl rfl ⟨rfl, rfl⟩ (fun x h => c_89 h) (S_89 (d + 1) a1 x6 x14 x16 q15.2) (fun th17 hth17 => ?_)
                refine x_P 80 rfl rfl rfl ?_
                refine x_callW rfl rfl rfl rfl rfl ⟨rfl, rfl⟩ (fun x h => c_169 h) (S_169 (d + 1) a0 th17) (fun th18 hth18 => ?_)
                refine x_P 84 rfl rfl rfl ?_
                exact x_rBw rfl
-- 163 NineTrees$Tape.readWish(LNineTrees$Garden;)Z
noncomputable def m_163 (a0 : Nat) (a1 : Nat) (th : tH) : Option (Int32 × tH) :=
  (gC th 6 a0).bind fun _ =>
  (gI th 2 a1 6).bind fun x1 =>
  if x1 < (Int8.ofInt 8).toInt32 then
    lp (fun (s2 : Int32 × Int32 × tH) nx3 ex4 =>
        if (Int8.ofInt 12).toInt32 < s2.2.1 then
          ex4 (s2.1, s2.2.2)
        else
          (m_169 a0 s2.2.2).bind fun th8 =>
          jn (fun (v9 : Unit) =>
              (gI th8 2 a1 5).bind fun x11 =>
              (m_167 a0 (Int32.ofInt 0) (x11 - (Int32.ofInt 1)) th8).bind fun x12 =>
              jn (fun (v13 : Unit) =>
                  (rB (Int32.ofInt 0)).bind fun y15 => some (y15, th8)
                ) (fun j14 =>
                  if x12 = 0 then
                    j14 ()
                  else
                    (gI th8 6 a0 6).bind fun x16 =>
                    if (s2.1 &&& ((Int32.ofInt 1) <<< (x16 &&& 31))) = 0 then
                      (gI th8 6 a0 6).bind fun x17 =>
                      nx3 ((s2.1 ||| ((Int32.ofInt 1) <<< (x17 &&& 31))), (s2.2.1 + Int32.ofInt 1), th8)
                    else
                      j14 ()
                )
            ) (fun j10 =>
              if s2.2.1 < (Int32.ofInt 3) then
                j10 ()
              else
                (gI th8 6 a0 3).bind fun x20 =>
                if x20 = (Int32.ofInt 2) then
                  j10 ()
                else
                  ex4 (s2.1, th8)
            )
      ) 4096 ((Int32.ofInt 0), (Int32.ofInt 0), th) (fun (x5 : Int32 × tH) =>
        (m_96 a1 x5.1 x5.2).bind fun th6 =>
        (rB (Int32.ofInt 1)).bind fun y7 => some (y7, th6)
      )
  else
    (rB (Int32.ofInt 0)).bind fun y24 => some (y24, th)
theorem c_163 {a0 : Nat} {a1 : Nat} {th : tH} {x : (Int32 × tH)} (h : m_163 a0 a1 th = some x) : ∃ fs, th[a0]? = some (.inr (6, fs)) := gC_of h
theorem S_163 {L : Nat} (d : Nat) (a0 : Nat) (a1 : Nat) (th : tH) : Wx L (fun x => (some (.int x.1), x.2)) (d + 2) 163 4 0 [(0, .ref a0), (1, .ref a1)] [] th (m_163 a0 a1 th) := by
  unfold m_163
  refine x_gC ?_
  refine x_P 1 rfl rfl rfl ?_
  refine x_gI rfl (fun x1 hx1 => ?_)
  refine x_P 6 rfl rfl rfl ?_
  refine x_ic_lt rfl rfl (fun h25 => ?_) (fun h25 => ?_)
  · refine x_P 12 rfl rfl rfl ?_
    refine x_P (lv' := [(2, .int (Int32.ofInt 0)), (0, .ref a0), (1, .ref a1)]) 13 rfl rfl rfl ?_
    refine x_P 14 rfl rfl rfl ?_
    refine x_P (lv' := [(3, .int (Int32.ofInt 0)), (2, .int (Int32.ofInt 0)), (0, .ref a0), (1, .ref a1)]) 15 rfl rfl rfl ?_
    refine x_lv (lv := [(0, .ref a0), (1, .ref a1), (2, .int (Int32.ofInt 0)), (3, .int (Int32.ofInt 0))]) (x_lp 83 (fun s2 => [(0, .ref a0), (1, .ref a1), (2, .int s2.1), (3, .int s2.2.1)]) (fun s2 => s2.2.2) (fun x5 => [(1, .ref a1), (2, .int x5.1)]) (fun x5 => x5.2) (fun s2 nx3 hnx3 ex4 hex4 => ?_) (fun x5 => ?_) 4096 ((Int32.ofInt 0), (Int32.ofInt 0), th)) ⟨rfl, rfl, rfl, rfl, trivial⟩
    · refine x_P 16 rfl rfl rfl ?_
      refine x_P 18 rfl rfl rfl ?_
      refine x_ic_gt rfl rfl (fun h23 => ?_) (fun h23 => ?_)
      · exact x_lv (hex4 (s2.1, s2.2.2)) ⟨rfl, rfl, trivial⟩
      · refine x_P 22 rfl rfl rfl ?_
        refine x_callW rfl rfl rfl rfl rfl ⟨rfl, rfl⟩ (fun x h => c_169 h) (S_169 d a0 s2.2.2) (fun th8 hth8 => ?_)
        refine x_P 26 rfl rfl rfl ?_
        refine x_P 27 rfl rfl rfl ?_
        refine x_jn 41 (fun v9 => [(0, .ref a0), (1, .ref a1), (2, .int s2.1), (3, .int s2.2.1)]) (fun v9 => []) (fun v9 => th8) (fun v9 => ?_) (fun j10 hj10 => ?_)
        · refine x_P 42 rfl rfl rfl ?_
          refine x_P 43 rfl rfl rfl ?_
          refine x_P 44 rfl rfl rfl ?_
          refine x_gI rfl (fun x11 hx11 => ?_)
          refine x_P 48 rfl rfl rfl ?_
          refine x_P 49 rfl rfl rfl ?_
          refine x_callV rfl rfl rfl rfl rfl ⟨rfl, rfl⟩ (fun x h => c_167 h) (S_167 (d + 1) a0 (Int32.ofInt 0) (x11 - (Int32.ofInt 1)) th8) (fun x12 hx12 => ?_)
          refine x_jn 66 (fun v13 => []) (fun v13 => []) (fun v13 => th8) (fun v13 => ?_) (fun j14 hj14 => ?_)
          · refine x_P 67 rfl rfl rfl ?_
            exact x_rBw rfl
          · refine x_if_eq rfl rfl (fun h19 => ?_) (fun h19 => ?_)
            · exact x_lv (hj14 ()) trivial
            · refine x_P 56 rfl rfl rfl ?_
              refine x_P 57 rfl rfl rfl ?_
              refine x_P 58 rfl rfl rfl ?_
              refine x_gI rfl (fun x16 hx16 => ?_)
              refine x_P 62 rfl rfl rfl ?_
              refine x_P 63 rfl rfl rfl ?_
              refine x_if_eq rfl rfl (fun h18 => ?_) (fun h18 => ?_)
              · refine x_P 69 rfl rfl rfl ?_
                refine x_P 70 rfl rfl rfl ?_
                refine x_P 71 rfl rfl rfl ?_
                refine x_gI rfl (fun x17 hx17 => ?_)
                refine x_P 75 rfl rfl rfl ?_
                refine x_P 76 rfl rfl rfl ?_
                refine x_P (lv' := [(2, .int (s2.1 ||| ((Int32.ofInt 1) <<< (x17 &&& 31)))), (0, .ref a0), (1, .ref a1), (3, .int s2.2.1)]) 77 rfl rfl rfl ?_
                refine x_P (lv' := [(3, .int (s2.2.1 + Int32.ofInt 1)), (2, .int (s2.1 ||| ((Int32.ofInt 1) <<< (x17 &&& 31)))), (0, .ref a0), (1, .ref a1)]) 80 rfl rfl rfl ?_
                refine x_P 15 rfl rfl rfl ?_
                exact x_lv (hnx3 ((s2.1 ||| ((Int32.ofInt 1) <<< (x17 &&& 31))), (s2.2.1 + Int32.ofInt 1), th8)) ⟨rfl, rfl, rfl, rfl, trivial⟩
              · exact x_lv (hj14 ()) trivial
        · refine x_ic_lt rfl rfl (fun h22 => ?_) (fun h22 => ?_)
          · exact x_lv (hj10 ()) ⟨rfl, rfl, rfl, rfl, trivial⟩
          · refine x_P 31 rfl rfl rfl ?_
            refine x_gI rfl (fun x20 hx20 => ?_)
            refine x_P 35 rfl rfl rfl ?_
            refine x_ic_eq rfl rfl (fun h21 => ?_) (fun h21 => ?_)
            · exact x_lv (hj10 ()) ⟨rfl, rfl, rfl, rfl, trivial⟩
            · refine x_P 83 rfl rfl rfl ?_
              exact x_lv (hex4 (s2.1, th8)) ⟨rfl, rfl, trivial⟩
    · refine x_P 84 rfl rfl rfl ?_
      refine x_P 85 rfl rfl rfl ?_
      refine x_callW rfl rfl rfl rfl rfl ⟨rfl, rfl⟩ (fun x h => c_96 h) (S_96 d a1 x5.1 x5.2) (fun th6 hth6 => ?_)
      refine x_P 89 rfl rfl rfl ?_
      exact x_rBw rfl
  · refine x_P 10 rfl rfl rfl ?_
    exact x_rBw rfl
-- 164 NineTrees$Tape.readMove(LNineTrees$Garden;)Z
noncomputable def m_164 (a0 : Nat) (a1 : Nat) (th : tH) : Option (Int32 × tH) :=
  (gC th 6 a0).bind fun _ =>
  (gI th 2 a1 5).bind fun x1 =>
  (m_166 a0 (Int32.ofInt 0) (x1 - (Int32.ofInt 1)) th).bind fun q2 =>
  jn (fun (v3 : Unit) =>
      (rB (Int32.ofInt 0)).bind fun y5 => some (y5, q2.2)
    ) (fun j4 =>
      if q2.1 = 0 then
        j4 ()
      else
        (gI q2.2 6 a0 6).bind fun x6 =>
        (m_87 a1 x6 q2.2).bind fun x7 =>
        if x7 = 0 then
          j4 ()
        else
          (gI q2.2 6 a0 6).bind fun x8 =>
          (m_70 a1 q2.2).bind fun x9 =>
          (m_166 a0 (Int32.ofInt 0) (x9 - (Int32.ofInt 1)) q2.2).bind fun q10 =>
          jn (fun (v11 : Unit) =>
              (rB (Int32.ofInt 0)).bind fun y13 => some (y13, q10.2)
            ) (fun j12 =>
              if q10.1 = 0 then
                j12 ()
              else
                (gI q10.2 6 a0 6).bind fun x14 =>
                (m_84 a1 x14 q10.2).bind fun x15 =>
                if x15 = 0 then
                  j12 ()
                else
                  (gN q10.2 2 a1 1).bind fun o16 =>
                  (gI q10.2 6 a0 6).bind fun x17 =>
                  (sI q10.2 o16 x8 x17).bind fun th18 =>
                  (m_169 a0 th18).bind fun th19 =>
                  (rB (Int32.ofInt 1)).bind fun y20 => some (y20, th19)
            )
    )
theorem c_164 {a0 : Nat} {a1 : Nat} {th : tH} {x : (Int32 × tH)} (h : m_164 a0 a1 th = some x) : ∃ fs, th[a0]? = some (.inr (6, fs)) := gC_of h
theorem S_164 {L : Nat} (d : Nat) (a0 : Nat) (a1 : Nat) (th : tH) : Wx L (fun x => (some (.int x.1), x.2)) (d + 3) 164 3 0 [(0, .ref a0), (1, .ref a1)] [] th (m_164 a0 a1 th) := by
  unfold m_164
  refine x_gC ?_
  refine x_P 1 rfl rfl rfl ?_
  refine x_P 2 rfl rfl rfl ?_
  refine x_P 3 rfl rfl rfl ?_
  refine x_gI rfl (fun x1 hx1 => ?_)
  refine x_P 7 rfl rfl rfl ?_
  refine x_P 8 rfl rfl rfl ?_
  refine x_callV rfl rfl rfl rfl rfl ⟨rfl, rfl⟩ (fun x h => c_166 h) (S_166 d a0 (Int32.ofInt 0) (x1 - (Int32.ofInt 1)) th) (fun q2 hq2 => ?_)
  refine x_jn 25 (fun v3 => []) (fun v3 => []) (fun v3 => q2.2) (fun v3 => ?_) (fun j4 hj4 => ?_)
  · refine x_P 26 rfl rfl rfl ?_
    exact x_rBw rfl
  · refine x_if_eq rfl rfl (fun h24 => ?_) (fun h24 => ?_)
    · exact x_lv (hj4 ()) trivial
    · refine x_P 15 rfl rfl rfl ?_
      refine x_P 16 rfl rfl rfl ?_
      refine x_gI rfl (fun x6 hx6 => ?_)
      refine x_callV rfl rfl rfl rfl rfl ⟨rfl, rfl⟩ (fun x h => c_87 h) (S_87 (d + 1) a1 x6 q2.2) (fun x7 hx7 => ?_)
      refine x_if_ne rfl rfl (fun h23 => ?_) (fun h23 => ?_)
      · exact x_lv (hj4 ()) trivial
      · refine x_P 28 rfl rfl rfl ?_
        refine x_gI rfl (fun x8 hx8 => ?_)
        refine x_P (lv' := [(2, .int x8), (0, .ref a0), (1, .ref a1)]) 32 rfl rfl rfl ?_
        refine x_P 33 rfl rfl rfl ?_
        refine x_P 34 rfl rfl rfl ?_
        refine x_P 35 rfl rfl rfl ?_
        refine x_callV rfl rfl rfl rfl rfl ⟨rfl, rfl⟩ (fun x h => c_70 h) (S_70 (d + 2) a1 q2.2) (fun x9 hx9 => ?_)
        refine x_P 39 rfl rfl rfl ?_
        refine x_P 40 rfl rfl rfl ?_
        refine x_callV rfl rfl rfl rfl rfl ⟨rfl, rfl⟩ (fun x h => c_166 h) (S_166 d a0 (Int32.ofInt 0) (x9 - (Int32.ofInt 1)) q2.2) (fun q10 hq10 => ?_)
        refine x_jn 57 (fun v11 => []) (fun v11 => []) (fun v11 => q10.2) (fun v11 => ?_) (fun j12 hj12 => ?_)
        · refine x_P 58 rfl rfl rfl ?_
          exact x_rBw rfl
        · refine x_if_eq rfl rfl (fun h22 => ?_) (fun h22 => ?_)
          · exact x_lv (hj12 ()) trivial
          · refine x_P 47 rfl rfl rfl ?_
            refine x_P 48 rfl rfl rfl ?_
            refine x_gI rfl (fun x14 hx14 => ?_)
            refine x_callV rfl rfl rfl rfl rfl ⟨rfl, rfl⟩ (fun x h => c_84 h) (S_84 (d + 1) a1 x14 q10.2) (fun x15 hx15 => ?_)
            refine x_if_ne rfl rfl (fun h21 => ?_) (fun h21 => ?_)
            · exact x_lv (hj12 ()) trivial
            · refine x_P 60 rfl rfl rfl ?_
              refine x_gN rfl (fun o16 ho16 => ?_)
              refine x_P 64 rfl rfl rfl ?_
              refine x_P 65 rfl rfl rfl ?_
              refine x_gI rfl (fun x17 hx17 => ?_)
              refine x_sI rfl ⟨rfl, rfl⟩ (fun th18 hth18 => ?_)
              refine x_P 70 rfl rfl rfl ?_
              refine x_callW rfl rfl rfl rfl rfl ⟨rfl, rfl⟩ (fun x h => c_169 h) (S_169 (d + 1) a0 th18) (fun th19 hth19 => ?_)
              refine x_P 74 rfl rfl rfl ?_
              exact x_rBw rfl
-- 165 NineTrees$Tape.readFell(LNineTrees$Garden;)Z
noncomputable def m_165 (a0 : Nat) (a1 : Nat) (th : tH) : Option (Int32 × tH) :=
  (gC th 6 a0).bind fun _ =>
  (m_90 a1 th).bind fun x1 =>
  if x1 = 0 then
    (rB (Int32.ofInt 0)).bind fun y8 => some (y8, th)
  else
    (m_91 a1 th).bind fun th2 =>
    (gI th2 6 a0 2).bind fun x3 =>
    (gI th2 2 a1 5).bind fun x4 =>
    (pI th2 6 a0 2 (mnI x3 x4)).bind fun th5 =>
    (m_169 a0 th5).bind fun th6 =>
    (rB (Int32.ofInt 1)).bind fun y7 => some (y7, th6)
theorem c_165 {a0 : Nat} {a1 : Nat} {th : tH} {x : (Int32 × tH)} (h : m_165 a0 a1 th = some x) : ∃ fs, th[a0]? = some (.inr (6, fs)) := gC_of h
theorem S_165 {L : Nat} (d : Nat) (a0 : Nat) (a1 : Nat) (th : tH) : Wx L (fun x => (some (.int x.1), x.2)) (d + 2) 165 2 0 [(0, .ref a0), (1, .ref a1)] [] th (m_165 a0 a1 th) := by
  unfold m_165
  refine x_gC ?_
  refine x_P 1 rfl rfl rfl ?_
  refine x_callV rfl rfl rfl rfl rfl ⟨rfl, rfl⟩ (fun x h => c_90 h) (S_90 d a1 th) (fun x1 hx1 => ?_)
  refine x_if_ne rfl rfl (fun h9 => ?_) (fun h9 => ?_)
  · refine x_P 8 rfl rfl rfl ?_
    exact x_rBw rfl
  · refine x_P 10 rfl rfl rfl ?_
    refine x_callW rfl rfl rfl rfl rfl ⟨rfl, rfl⟩ (fun x h => c_91 h) (S_91 d a1 th) (fun th2 hth2 => ?_)
    refine x_P 14 rfl rfl rfl ?_
    refine x_P 15 rfl rfl rfl ?_
    refine x_gI rfl (fun x3 hx3 => ?_)
    refine x_P 19 rfl rfl rfl ?_
    refine x_gI rfl (fun x4 hx4 => ?_)
    refine x_Mmin rfl rfl ?_
    refine x_pI rfl (fun th5 hth5 => ?_)
    refine x_P 29 rfl rfl rfl ?_
    refine x_callW rfl rfl rfl rfl rfl ⟨rfl, rfl⟩ (fun x h => c_169 h) (S_169 d a0 th5) (fun th6 hth6 => ?_)
    refine x_P 33 rfl rfl rfl ?_
    exact x_rBw rfl
-- 160 NineTrees$Tape.readStatement(LNineTrees$Garden;)Z
noncomputable def m_160 (a0 : Nat) (a1 : Nat) (th : tH) : Option (Int32 × tH) :=
  (gC th 6 a0).bind fun _ =>
  (m_168 a0 1001 th).bind fun x1 =>
  if x1 = 0 then
    (m_168 a0 1002 th).bind fun x2 =>
    if x2 = 0 then
      (m_168 a0 1003 th).bind fun x3 =>
      if x3 = 0 then
        (m_168 a0 1004 th).bind fun x4 =>
        if x4 = 0 then
          (m_168 a0 1005 th).bind fun x5 =>
          jn (fun (v6 : Int32 × tH) =>
              (rB v6.1).bind fun y8 => some (y8, v6.2)
            ) (fun j7 =>
              jn (fun (v9 : tH) =>
                  j7 ((Int32.ofInt 0), v9)
                ) (fun j10 =>
                  if x5 = 0 then
                    j10 th
                  else
                    (m_165 a0 a1 th).bind fun q11 =>
                    if q11.1 = 0 then
                      j10 q11.2
                    else
                      j7 ((Int32.ofInt 1), q11.2)
                )
            )
        else
          (m_164 a0 a1 th).bind fun q14 =>
          (rB q14.1).bind fun y15 => some (y15, q14.2)
      else
        (m_163 a0 a1 th).bind fun q17 =>
        (rB q17.1).bind fun y18 => some (y18, q17.2)
    else
      (m_162 a0 a1 th).bind fun q20 =>
      (rB q20.1).bind fun y21 => some (y21, q20.2)
  else
    (m_161 a0 a1 th).bind fun q23 =>
    (rB q23.1).bind fun y24 => some (y24, q23.2)
theorem c_160 {a0 : Nat} {a1 : Nat} {th : tH} {x : (Int32 × tH)} (h : m_160 a0 a1 th = some x) : ∃ fs, th[a0]? = some (.inr (6, fs)) := gC_of h
theorem S_160 {L : Nat} (d : Nat) (a0 : Nat) (a1 : Nat) (th : tH) : Wx L (fun x => (some (.int x.1), x.2)) (d + 5) 160 2 0 [(0, .ref a0), (1, .ref a1)] [] th (m_160 a0 a1 th) := by
  unfold m_160
  refine x_gC ?_
  refine x_P 1 rfl rfl rfl ?_
  refine x_ls rfl ⟨rfl, rfl⟩ ?_
  refine x_callV rfl rfl rfl rfl rfl ⟨rfl, rfl⟩ (fun x h => c_168 h) (S_168 d a0 1001 th) (fun x1 hx1 => ?_)
  refine x_if_eq rfl rfl (fun h25 => ?_) (fun h25 => ?_)
  · refine x_P 16 rfl rfl rfl ?_
    refine x_ls rfl ⟨rfl, rfl⟩ ?_
    refine x_callV rfl rfl rfl rfl rfl ⟨rfl, rfl⟩ (fun x h => c_168 h) (S_168 d a0 1002 th) (fun x2 hx2 => ?_)
    refine x_if_eq rfl rfl (fun h22 => ?_) (fun h22 => ?_)
    · refine x_P 31 rfl rfl rfl ?_
      refine x_ls rfl ⟨rfl, rfl⟩ ?_
      refine x_callV rfl rfl rfl rfl rfl ⟨rfl, rfl⟩ (fun x h => c_168 h) (S_168 d a0 1003 th) (fun x3 hx3 => ?_)
      refine x_if_eq rfl rfl (fun h19 => ?_) (fun h19 => ?_)
      · refine x_P 46 rfl rfl rfl ?_
        refine x_ls rfl ⟨rfl, rfl⟩ ?_
        refine x_callV rfl rfl rfl rfl rfl ⟨rfl, rfl⟩ (fun x h => c_168 h) (S_168 d a0 1004 th) (fun x4 hx4 => ?_)
        refine x_if_eq rfl rfl (fun h16 => ?_) (fun h16 => ?_)
        · refine x_P 61 rfl rfl rfl ?_
          refine x_ls rfl ⟨rfl, rfl⟩ ?_
          refine x_callV rfl rfl rfl rfl rfl ⟨rfl, rfl⟩ (fun x h => c_168 h) (S_168 d a0 1005 th) (fun x5 hx5 => ?_)
          refine x_jn 82 (fun v6 => []) (fun v6 => [.int v6.1]) (fun v6 => v6.2) (fun v6 => ?_) (fun j7 hj7 => ?_)
          · exact x_rBw rfl
          · refine x_jn 81 (fun v9 => []) (fun v9 => []) (fun v9 => v9) (fun v9 => ?_) (fun j10 hj10 => ?_)
            · refine x_P 82 rfl rfl rfl ?_
              exact x_lv (hj7 ((Int32.ofInt 0), v9)) trivial
            · refine x_if_eq rfl rfl (fun h13 => ?_) (fun h13 => ?_)
              · exact x_lv (hj10 th) trivial
              · refine x_P 70 rfl rfl rfl ?_
                refine x_P 71 rfl rfl rfl ?_
                refine x_callV rfl rfl rfl rfl rfl ⟨rfl, rfl⟩ (fun x h => c_165 h) (S_165 (d + 2) a0 a1 th) (fun q11 hq11 => ?_)
                refine x_if_eq rfl rfl (fun h12 => ?_) (fun h12 => ?_)
                · exact x_lv (hj10 q11.2) trivial
                · refine x_P 78 rfl rfl rfl ?_
                  refine x_P 82 rfl rfl rfl ?_
                  exact x_lv (hj7 ((Int32.ofInt 1), q11.2)) trivial
        · refine x_P 55 rfl rfl rfl ?_
          refine x_P 56 rfl rfl rfl ?_
          refine x_callV rfl rfl rfl rfl rfl ⟨rfl, rfl⟩ (fun x h => c_164 h) (S_164 (d + 1) a0 a1 th) (fun q14 hq14 => ?_)
          exact x_rBw rfl
      · refine x_P 40 rfl rfl rfl ?_
        refine x_P 41 rfl rfl rfl ?_
        refine x_callV rfl rfl rfl rfl rfl ⟨rfl, rfl⟩ (fun x h => c_163 h) (S_163 (d + 2) a0 a1 th) (fun q17 hq17 => ?_)
        exact x_rBw rfl
    · refine x_P 25 rfl rfl rfl ?_
      refine x_P 26 rfl rfl rfl ?_
      refine x_callV rfl rfl rfl rfl rfl ⟨rfl, rfl⟩ (fun x h => c_162 h) (S_162 (d + 1) a0 a1 th) (fun q20 hq20 => ?_)
      exact x_rBw rfl
  · refine x_P 10 rfl rfl rfl ?_
    refine x_P 11 rfl rfl rfl ?_
    refine x_callV rfl rfl rfl rfl rfl ⟨rfl, rfl⟩ (fun x h => c_161 h) (S_161 (d + 1) a0 a1 th) (fun q23 hq23 => ?_)
    exact x_rBw rfl
-- 159 NineTrees$Tape.readInto(LNineTrees$Garden;)I
noncomputable def m_159 (a0 : Nat) (a1 : Nat) (th : tH) : Option (Int32 × tH) :=
  (gC th 6 a0).bind fun _ =>
  (gI th 2 a1 5).bind fun x1 =>
  (pI th 6 a0 2 x1).bind fun th2 =>
  (pI th2 6 a0 5 (Int32.ofInt 0)).bind fun th3 =>
  (m_169 a0 th3).bind fun th4 =>
  lp (fun (s5 : Int32 × tH) nx6 ex7 =>
      if (Int16.ofInt 250).toInt32 < s5.1 then
        ex7 s5.2
      else
        (gI s5.2 6 a0 3).bind fun x10 =>
        jn (fun (v11 : tH) =>
            (gI v11 6 a0 4).bind fun x13 =>
            some (((Int8.ofInt (-20)).toInt32 - x13), v11)
          ) (fun j12 =>
            if x10 = (Int32.ofInt 1) then
              (m_160 a0 a1 s5.2).bind fun q14 =>
              if q14.1 = 0 then
                j12 q14.2
              else
                (gI q14.2 6 a0 3).bind fun x15 =>
                if x15 = 0 then
                  some (s5.1, q14.2)
                else
                  (gI q14.2 6 a0 3).bind fun x16 =>
                  if x16 = (Int32.ofInt 3) then
                    (m_169 a0 q14.2).bind fun th17 =>
                    nx6 ((s5.1 + Int32.ofInt 1), th17)
                  else
                    (gI q14.2 6 a0 4).bind fun x18 =>
                    some (((Int8.ofInt (-20)).toInt32 - x18), q14.2)
            else
              j12 s5.2
          )
    ) 4096 ((Int32.ofInt 1), th4) (fun (x8 : tH) =>
      (gI x8 6 a0 4).bind fun x9 =>
      some (((Int8.ofInt (-20)).toInt32 - x9), x8)
    )
theorem c_159 {a0 : Nat} {a1 : Nat} {th : tH} {x : (Int32 × tH)} (h : m_159 a0 a1 th = some x) : ∃ fs, th[a0]? = some (.inr (6, fs)) := gC_of h
theorem S_159 {L : Nat} (d : Nat) (a0 : Nat) (a1 : Nat) (th : tH) : Wx L (fun x => (some (.int x.1), x.2)) (d + 6) 159 3 0 [(0, .ref a0), (1, .ref a1)] [] th (m_159 a0 a1 th) := by
  unfold m_159
  refine x_gC ?_
  refine x_P 1 rfl rfl rfl ?_
  refine x_P 2 rfl rfl rfl ?_
  refine x_gI rfl (fun x1 hx1 => ?_)
  refine x_pI rfl (fun th2 hth2 => ?_)
  refine x_P 9 rfl rfl rfl ?_
  refine x_P 10 rfl rfl rfl ?_
  refine x_pI rfl (fun th3 hth3 => ?_)
  refine x_P 14 rfl rfl rfl ?_
  refine x_callW rfl rfl rfl rfl rfl ⟨rfl, rfl⟩ (fun x h => c_169 h) (S_169 (d + 4) a0 th3) (fun th4 hth4 => ?_)
  refine x_P 18 rfl rfl rfl ?_
  refine x_P (lv' := [(2, .int (Int32.ofInt 1)), (0, .ref a0), (1, .ref a1)]) 19 rfl rfl rfl ?_
  refine x_lv (lv := [(0, .ref a0), (1, .ref a1), (2, .int (Int32.ofInt 1))]) (x_lp 85 (fun s5 => [(0, .ref a0), (1, .ref a1), (2, .int s5.1)]) (fun s5 => s5.2) (fun x8 => [(0, .ref a0)]) (fun x8 => x8) (fun s5 nx6 hnx6 ex7 hex7 => ?_) (fun x8 => ?_) 4096 ((Int32.ofInt 1), th4)) ⟨rfl, rfl, rfl, trivial⟩
  · refine x_P 20 rfl rfl rfl ?_
    refine x_P 23 rfl rfl rfl ?_
    refine x_ic_gt rfl rfl (fun h23 => ?_) (fun h23 => ?_)
    · exact x_lv (hex7 s5.2) ⟨rfl, trivial⟩
    · refine x_P 27 rfl rfl rfl ?_
      refine x_gI rfl (fun x10 hx10 => ?_)
      refine x_P 31 rfl rfl rfl ?_
      refine x_jn 42 (fun v11 => [(0, .ref a0)]) (fun v11 => []) (fun v11 => v11) (fun v11 => ?_) (fun j12 hj12 => ?_)
      · refine x_P 44 rfl rfl rfl ?_
        refine x_P 45 rfl rfl rfl ?_
        refine x_gI rfl (fun x13 hx13 => ?_)
        refine x_P 49 rfl rfl rfl ?_
        exact x_retI (x := (((Int8.ofInt (-20)).toInt32 - x13), v11)) rfl
      · refine x_ic_ne rfl rfl (fun h22 => ?_) (fun h22 => ?_)
        · refine x_P 35 rfl rfl rfl ?_
          refine x_P 36 rfl rfl rfl ?_
          refine x_callV rfl rfl rfl rfl rfl ⟨rfl, rfl⟩ (fun x h => c_160 h) (S_160 d a0 a1 s5.2) (fun q14 hq14 => ?_)
          refine x_if_ne rfl rfl (fun h21 => ?_) (fun h21 => ?_)
          · exact x_lv (hj12 q14.2) ⟨rfl, trivial⟩
          · refine x_P 51 rfl rfl rfl ?_
            refine x_gI rfl (fun x15 hx15 => ?_)
            refine x_if_ne rfl rfl (fun h20 => ?_) (fun h20 => ?_)
            · refine x_P 58 rfl rfl rfl ?_
              exact x_retI (x := (s5.1, q14.2)) rfl
            · refine x_P 60 rfl rfl rfl ?_
              refine x_gI rfl (fun x16 hx16 => ?_)
              refine x_P 64 rfl rfl rfl ?_
              refine x_ic_eq rfl rfl (fun h19 => ?_) (fun h19 => ?_)
              · refine x_P 76 rfl rfl rfl ?_
                refine x_callW rfl rfl rfl rfl rfl ⟨rfl, rfl⟩ (fun x h => c_169 h) (S_169 (d + 4) a0 q14.2) (fun th17 hth17 => ?_)
                refine x_P (lv' := [(2, .int (s5.1 + Int32.ofInt 1)), (0, .ref a0), (1, .ref a1)]) 82 rfl rfl rfl ?_
                refine x_P 19 rfl rfl rfl ?_
                exact x_lv (hnx6 ((s5.1 + Int32.ofInt 1), th17)) ⟨rfl, rfl, rfl, trivial⟩
              · refine x_P 69 rfl rfl rfl ?_
                refine x_P 70 rfl rfl rfl ?_
                refine x_gI rfl (fun x18 hx18 => ?_)
                refine x_P 74 rfl rfl rfl ?_
                exact x_retI (x := (((Int8.ofInt (-20)).toInt32 - x18), q14.2)) rfl
        · exact x_lv (hj12 s5.2) ⟨rfl, trivial⟩
  · refine x_P 87 rfl rfl rfl ?_
    refine x_P 88 rfl rfl rfl ?_
    refine x_gI rfl (fun x9 hx9 => ?_)
    refine x_P 92 rfl rfl rfl ?_
    exact x_retI (x := (((Int8.ofInt (-20)).toInt32 - x9), x8)) rfl
-- 17 NineTrees.garden()I
noncomputable def m_17 (a0 : Nat) (th : tH) : Option (Int32 × tH) :=
  (gC th 7 a0).bind fun _ =>
  (gN th 7 a0 1).bind fun o1 =>
  (gN th 7 a0 0).bind fun o2 =>
  (m_69 o1 o2 th).bind fun th3 =>
  (gN th3 7 a0 7).bind fun o4 =>
  (gN th3 7 a0 1).bind fun o5 =>
  (m_159 o4 o5 th3).bind fun q6 =>
  (gN q6.2 7 a0 7).bind fun o7 =>
  (pI q6.2 6 o7 1 (Int32.ofInt 0)).bind fun th8 =>
  if 0 ≤ q6.1 then
    (gN th8 7 a0 0).bind fun o9 =>
    (gN th8 7 a0 1).bind fun o10 =>
    (m_69 o9 o10 th8).bind fun th11 =>
    (gN th11 7 a0 7).bind fun o12 =>
    (gI th11 6 o12 2).bind fun x13 =>
    (m_62 a0 x13 th11).bind fun th14 =>
    some (q6.1, th14)
  else
    (m_59 a0 (Int8.ofInt (-2)).toInt32 th8).bind fun q15 =>
    some (q6.1, q15.2)
theorem c_17 {a0 : Nat} {th : tH} {x : (Int32 × tH)} (h : m_17 a0 th = some x) : ∃ fs, th[a0]? = some (.inr (7, fs)) := gC_of h
theorem S_17 {L : Nat} (d : Nat) (a0 : Nat) (th : tH) : Wx L (fun x => (some (.int x.1), x.2)) (d + 7) 17 2 0 [(0, .ref a0)] [] th (m_17 a0 th) := by
  unfold m_17
  refine x_gC ?_
  refine x_P 1 rfl rfl rfl ?_
  refine x_gN rfl (fun o1 ho1 => ?_)
  refine x_P 5 rfl rfl rfl ?_
  refine x_gN rfl (fun o2 ho2 => ?_)
  refine x_callW rfl rfl rfl rfl rfl ⟨rfl, rfl⟩ (fun x h => c_69 h) (S_69 (d + 5) o1 o2 th) (fun th3 hth3 => ?_)
  refine x_P 12 rfl rfl rfl ?_
  refine x_gN rfl (fun o4 ho4 => ?_)
  refine x_P 16 rfl rfl rfl ?_
  refine x_gN rfl (fun o5 ho5 => ?_)
  refine x_callV rfl rfl rfl rfl rfl ⟨rfl, rfl⟩ (fun x h => c_159 h) (S_159 d o4 o5 th3) (fun q6 hq6 => ?_)
  refine x_P (lv' := [(1, .int q6.1), (0, .ref a0)]) 23 rfl rfl rfl ?_
  refine x_P 24 rfl rfl rfl ?_
  refine x_gN rfl (fun o7 ho7 => ?_)
  refine x_P 28 rfl rfl rfl ?_
  refine x_pI rfl (fun th8 hth8 => ?_)
  refine x_P 32 rfl rfl rfl ?_
  refine x_if_ge rfl rfl (fun h16 => ?_) (fun h16 => ?_)
  · refine x_P 45 rfl rfl rfl ?_
    refine x_gN rfl (fun o9 ho9 => ?_)
    refine x_P 49 rfl rfl rfl ?_
    refine x_gN rfl (fun o10 ho10 => ?_)
    refine x_callW rfl rfl rfl rfl rfl ⟨rfl, rfl⟩ (fun x h => c_69 h) (S_69 (d + 5) o9 o10 th8) (fun th11 hth11 => ?_)
    refine x_P 56 rfl rfl rfl ?_
    refine x_P 57 rfl rfl rfl ?_
    refine x_gN rfl (fun o12 ho12 => ?_)
    refine x_gI rfl (fun x13 hx13 => ?_)
    refine x_callW rfl rfl rfl rfl rfl ⟨rfl, rfl⟩ (fun x h => c_62 h) (S_62 (d + 4) a0 x13 th11) (fun th14 hth14 => ?_)
    refine x_P 67 rfl rfl rfl ?_
    exact x_retI (x := (q6.1, th14)) rfl
  · refine x_P 36 rfl rfl rfl ?_
    refine x_P 38 rfl rfl rfl ?_
    refine x_callV rfl rfl rfl rfl rfl ⟨rfl, rfl⟩ (fun x h => c_59 h) (S_59 (d + 5) a0 (Int8.ofInt (-2)).toInt32 th8) (fun q15 hq15 => ?_)
    refine x_P 42 rfl rfl rfl ?_
    refine x_P 43 rfl rfl rfl ?_
    exact x_retI (x := (q6.1, q15.2)) rfl
-- 18 NineTrees.treeOf(II)I
noncomputable def m_18 (a0 : Nat) (a1 : Int32) (a2 : Int32) (th : tH) : Option (Int32 × tH) :=
  (gC th 7 a0).bind fun _ =>
  (gN th 7 a0 0).bind fun o1 =>
  (m_81 o1 a1 th).bind fun x2 =>
  jn (fun (v3 : Unit) =>
      (m_59 a0 (Int8.ofInt (-2)).toInt32 th).bind fun q5 =>
      some (q5.1, q5.2)
    ) (fun j4 =>
      if x2 = 0 then
        j4 ()
      else
        if a2 < 0 then
          j4 ()
        else
          if a2 ≤ (Int32.ofInt 4) then
            if a2 < 0 ∨ 3 < a2 then
              (m_63 a0 th).bind fun q7 =>
              (m_107 q7.1 a1 (Int32.ofInt 3) q7.2).bind fun x8 =>
              some (x8, q7.2)
            else if a2 = 0 then
              (gN th 7 a0 0).bind fun o10 =>
              (gN th 2 o10 0).bind fun o11 =>
              (aI th o11 a1).bind fun x12 =>
              some (x12, th)
            else if a2 = 1 then
              (gN th 7 a0 0).bind fun o14 =>
              (gN th 2 o14 1).bind fun o15 =>
              (aI th o15 a1).bind fun x16 =>
              some (x16, th)
            else if a2 = 2 then
              (gN th 7 a0 0).bind fun o18 =>
              (gN th 2 o18 2).bind fun o19 =>
              (aI th o19 a1).bind fun x20 =>
              some (x20, th)
            else if a2 = 3 then
              (m_63 a0 th).bind fun q22 =>
              (m_107 q22.1 a1 (Int32.ofInt 2) q22.2).bind fun x23 =>
              some (x23, q22.2)
            else
              none
          else
            j4 ()
    )
theorem c_18 {a0 : Nat} {a1 : Int32} {a2 : Int32} {th : tH} {x : (Int32 × tH)} (h : m_18 a0 a1 a2 th = some x) : ∃ fs, th[a0]? = some (.inr (7, fs)) := gC_of h
theorem S_18 {L : Nat} (d : Nat) (a0 : Nat) (a1 : Int32) (a2 : Int32) (th : tH) : Wx L (fun x => (some (.int x.1), x.2)) (d + 5) 18 3 0 [(0, .ref a0), (1, .int a1), (2, .int a2)] [] th (m_18 a0 a1 a2 th) := by
  unfold m_18
  refine x_gC ?_
  refine x_P 1 rfl rfl rfl ?_
  refine x_gN rfl (fun o1 ho1 => ?_)
  refine x_P 5 rfl rfl rfl ?_
  refine x_callV rfl rfl rfl rfl rfl ⟨rfl, rfl⟩ (fun x h => c_81 h) (S_81 (d + 4) o1 a1 th) (fun x2 hx2 => ?_)
  refine x_jn 20 (fun v3 => [(0, .ref a0)]) (fun v3 => []) (fun v3 => th) (fun v3 => ?_) (fun j4 hj4 => ?_)
  · refine x_P 21 rfl rfl rfl ?_
    refine x_P 23 rfl rfl rfl ?_
    refine x_callV rfl rfl rfl rfl rfl ⟨rfl, rfl⟩ (fun x h => c_59 h) (S_59 (d + 3) a0 (Int8.ofInt (-2)).toInt32 th) (fun q5 hq5 => ?_)
    exact x_retI (x := (q5.1, q5.2)) rfl
  · refine x_if_eq rfl rfl (fun h26 => ?_) (fun h26 => ?_)
    · exact x_lv (hj4 ()) ⟨rfl, trivial⟩
    · refine x_P 12 rfl rfl rfl ?_
      refine x_if_lt rfl rfl (fun h25 => ?_) (fun h25 => ?_)
      · exact x_lv (hj4 ()) ⟨rfl, trivial⟩
      · refine x_P 16 rfl rfl rfl ?_
        refine x_P 17 rfl rfl rfl ?_
        refine x_ic_le rfl rfl (fun h24 => ?_) (fun h24 => ?_)
        · refine x_P 28 rfl rfl rfl ?_
          refine x_ite (fun h6 => ?_) (fun h6 => ?_)
          · refine x_P 100 rfl rfl (x_td h6 (by decide +kernel)) ?_
            refine x_P 101 rfl rfl rfl ?_
            refine x_callV rfl rfl rfl rfl rfl ⟨rfl, rfl⟩ (fun x h => c_63 h) (S_63 d a0 th) (fun q7 hq7 => ?_)
            refine x_P 105 rfl rfl rfl ?_
            refine x_P 106 rfl rfl rfl ?_
            refine x_callV rfl rfl rfl rfl rfl ⟨rfl, rfl⟩ (fun x h => c_107 h) (S_107 (d + 3) q7.1 a1 (Int32.ofInt 3) q7.2) (fun x8 hx8 => ?_)
            exact x_retI (x := (x8, q7.2)) rfl
          · skip
            refine x_ite (fun h9 => ?_) (fun h9 => ?_)
            · refine x_P 60 rfl rfl (x_ts h9 (by decide +kernel)) ?_
              refine x_P 61 rfl rfl rfl ?_
              refine x_gN rfl (fun o10 ho10 => ?_)
              refine x_gN rfl (fun o11 ho11 => ?_)
              refine x_P 68 rfl rfl rfl ?_
              refine x_aI rfl ⟨rfl, rfl⟩ (fun x12 hx12 => ?_)
              exact x_retI (x := (x12, th)) rfl
            · skip
              refine x_ite (fun h13 => ?_) (fun h13 => ?_)
              · refine x_P 70 rfl rfl (x_ts h13 (by decide +kernel)) ?_
                refine x_P 71 rfl rfl rfl ?_
                refine x_gN rfl (fun o14 ho14 => ?_)
                refine x_gN rfl (fun o15 ho15 => ?_)
                refine x_P 78 rfl rfl rfl ?_
                refine x_aI rfl ⟨rfl, rfl⟩ (fun x16 hx16 => ?_)
                exact x_retI (x := (x16, th)) rfl
              · skip
                refine x_ite (fun h17 => ?_) (fun h17 => ?_)
                · refine x_P 80 rfl rfl (x_ts h17 (by decide +kernel)) ?_
                  refine x_P 81 rfl rfl rfl ?_
                  refine x_gN rfl (fun o18 ho18 => ?_)
                  refine x_gN rfl (fun o19 ho19 => ?_)
                  refine x_P 88 rfl rfl rfl ?_
                  refine x_aI rfl ⟨rfl, rfl⟩ (fun x20 hx20 => ?_)
                  exact x_retI (x := (x20, th)) rfl
                · skip
                  refine x_ite (fun h21 => ?_) (fun h21 => ?_)
                  · refine x_P 90 rfl rfl (x_ts h21 (by decide +kernel)) ?_
                    refine x_P 91 rfl rfl rfl ?_
                    refine x_callV rfl rfl rfl rfl rfl ⟨rfl, rfl⟩ (fun x h => c_63 h) (S_63 d a0 th) (fun q22 hq22 => ?_)
                    refine x_P 95 rfl rfl rfl ?_
                    refine x_P 96 rfl rfl rfl ?_
                    refine x_callV rfl rfl rfl rfl rfl ⟨rfl, rfl⟩ (fun x h => c_107 h) (S_107 (d + 3) q22.1 a1 (Int32.ofInt 2) q22.2) (fun x23 hx23 => ?_)
                    exact x_retI (x := (x23, q22.2)) rfl
                  · skip
                    exact x_none
        · exact x_lv (hj4 ()) ⟨rfl, trivial⟩
-- 19 NineTrees.treeAt(I)I
noncomputable def m_19 (a0 : Nat) (a1 : Int32) (th : tH) : Option (Int32 × tH) :=
  (gC th 7 a0).bind fun _ =>
  (gN th 7 a0 0).bind fun o1 =>
  (m_71 o1 a1 th).bind fun x2 =>
  jn (fun (v3 : Int32 × tH) =>
      some (v3.1, v3.2)
    ) (fun j4 =>
      if x2 = 0 then
        (m_59 a0 (Int8.ofInt (-2)).toInt32 th).bind fun q5 =>
        j4 (q5.1, q5.2)
      else
        (gN th 7 a0 0).bind fun o6 =>
        (m_83 o6 a1 th).bind fun x7 =>
        j4 (x7, th)
    )
theorem c_19 {a0 : Nat} {a1 : Int32} {th : tH} {x : (Int32 × tH)} (h : m_19 a0 a1 th = some x) : ∃ fs, th[a0]? = some (.inr (7, fs)) := gC_of h
theorem S_19 {L : Nat} (d : Nat) (a0 : Nat) (a1 : Int32) (th : tH) : Wx L (fun x => (some (.int x.1), x.2)) (d + 2) 19 2 0 [(0, .ref a0), (1, .int a1)] [] th (m_19 a0 a1 th) := by
  unfold m_19
  refine x_gC ?_
  refine x_P 1 rfl rfl rfl ?_
  refine x_gN rfl (fun o1 ho1 => ?_)
  refine x_P 5 rfl rfl rfl ?_
  refine x_callV rfl rfl rfl rfl rfl ⟨rfl, rfl⟩ (fun x h => c_71 h) (S_71 d o1 a1 th) (fun x2 hx2 => ?_)
  refine x_jn 28 (fun v3 => []) (fun v3 => [.int v3.1]) (fun v3 => v3.2) (fun v3 => ?_) (fun j4 hj4 => ?_)
  · exact x_retI (x := (v3.1, v3.2)) rfl
  · refine x_if_eq rfl rfl (fun h8 => ?_) (fun h8 => ?_)
    · refine x_P 23 rfl rfl rfl ?_
      refine x_P 25 rfl rfl rfl ?_
      refine x_callV rfl rfl rfl rfl rfl ⟨rfl, rfl⟩ (fun x h => c_59 h) (S_59 d a0 (Int8.ofInt (-2)).toInt32 th) (fun q5 hq5 => ?_)
      exact x_lv (hj4 (q5.1, q5.2)) trivial
    · refine x_P 12 rfl rfl rfl ?_
      refine x_gN rfl (fun o6 ho6 => ?_)
      refine x_P 16 rfl rfl rfl ?_
      refine x_callV rfl rfl rfl rfl rfl ⟨rfl, rfl⟩ (fun x h => c_83 h) (S_83 (d + 1) o6 a1 th) (fun x7 hx7 => ?_)
      refine x_P 28 rfl rfl rfl ?_
      exact x_lv (hj4 (x7, th)) trivial
-- 64 NineTrees.isRowSize(I)Z
noncomputable def m_64 (a0 : Int32) (th : tH) : Option (Int32) :=
  jn (fun (v1 : Int32) =>
      rB v1
    ) (fun j2 =>
      jn (fun (v3 : Unit) =>
          j2 (Int32.ofInt 0)
        ) (fun j4 =>
          if a0 < (Int32.ofInt 2) then
            j4 ()
          else
            if (Int8.ofInt 12).toInt32 < a0 then
              j4 ()
            else
              j2 (Int32.ofInt 1)
        )
    )
theorem S_64 {L : Nat} (d : Nat) (a0 : Int32) (th : tH) : Wx L (fun x => (some (.int x), th)) d 64 1 0 [(0, .int a0)] [] th (m_64 a0 th) := by
  unfold m_64
  refine x_P 1 rfl rfl rfl ?_
  refine x_P 2 rfl rfl rfl ?_
  refine x_jn 16 (fun v1 => []) (fun v1 => [.int v1]) (fun v1 => th) (fun v1 => ?_) (fun j2 hj2 => ?_)
  · exact x_rB rfl
  · refine x_jn 15 (fun v3 => []) (fun v3 => []) (fun v3 => th) (fun v3 => ?_) (fun j4 hj4 => ?_)
    · refine x_P 16 rfl rfl rfl ?_
      exact x_lv (hj2 (Int32.ofInt 0)) trivial
    · refine x_ic_lt rfl rfl (fun h6 => ?_) (fun h6 => ?_)
      · exact x_lv (hj4 ()) trivial
      · refine x_P 6 rfl rfl rfl ?_
        refine x_P 8 rfl rfl rfl ?_
        refine x_ic_gt rfl rfl (fun h5 => ?_) (fun h5 => ?_)
        · exact x_lv (hj4 ()) trivial
        · refine x_P 12 rfl rfl rfl ?_
          refine x_P 16 rfl rfl rfl ?_
          exact x_lv (hj2 (Int32.ofInt 1)) trivial
-- 105 NineTrees$RowList.countOf(I)I
noncomputable def m_105 (a0 : Nat) (a1 : Int32) (th : tH) : Option (Int32) :=
  (gC th 4 a0).bind fun _ =>
  lp (fun (s1 : Int32 × Int32) nx2 ex3 =>
      (gI th 4 a0 1).bind fun x5 =>
      if x5 ≤ s1.2 then
        ex3 s1.1
      else
        (gN th 4 a0 0).bind fun o6 =>
        (aI th o6 s1.2).bind fun x7 =>
        (m_173 x7 th).bind fun x8 =>
        jn (fun (v9 : Int32) =>
            nx2 (v9, (s1.2 + Int32.ofInt 1))
          ) (fun j10 =>
            if x8 = a1 then
              j10 (s1.1 + Int32.ofInt 1)
            else
              j10 s1.1
          )
    ) 4096 ((Int32.ofInt 0), (Int32.ofInt 0)) (fun (x4 : Int32) =>
      some x4
    )
theorem c_105 {a0 : Nat} {a1 : Int32} {th : tH} {x : (Int32)} (h : m_105 a0 a1 th = some x) : ∃ fs, th[a0]? = some (.inr (4, fs)) := gC_of h
theorem S_105 {L : Nat} (d : Nat) (a0 : Nat) (a1 : Int32) (th : tH) : Wx L (fun x => (some (.int x), th)) (d + 1) 105 4 0 [(0, .ref a0), (1, .int a1)] [] th (m_105 a0 a1 th) := by
  unfold m_105
  refine x_gC ?_
  refine x_P 1 rfl rfl rfl ?_
  refine x_P (lv' := [(2, .int (Int32.ofInt 0)), (0, .ref a0), (1, .int a1)]) 2 rfl rfl rfl ?_
  refine x_P 3 rfl rfl rfl ?_
  refine x_P (lv' := [(3, .int (Int32.ofInt 0)), (2, .int (Int32.ofInt 0)), (0, .ref a0), (1, .int a1)]) 4 rfl rfl rfl ?_
  refine x_lv (lv := [(0, .ref a0), (1, .int a1), (2, .int (Int32.ofInt 0)), (3, .int (Int32.ofInt 0))]) (x_lp 34 (fun s1 => [(0, .ref a0), (1, .int a1), (2, .int s1.1), (3, .int s1.2)]) (fun s1 => th) (fun x4 => [(2, .int x4)]) (fun x4 => th) (fun s1 nx2 hnx2 ex3 hex3 => ?_) (fun x4 => ?_) 4096 ((Int32.ofInt 0), (Int32.ofInt 0))) ⟨rfl, rfl, rfl, rfl, trivial⟩
  · refine x_P 5 rfl rfl rfl ?_
    refine x_P 6 rfl rfl rfl ?_
    refine x_gI rfl (fun x5 hx5 => ?_)
    refine x_ic_ge rfl rfl (fun h12 => ?_) (fun h12 => ?_)
    · exact x_lv (hex3 s1.1) ⟨rfl, trivial⟩
    · refine x_P 13 rfl rfl rfl ?_
      refine x_gN rfl (fun o6 ho6 => ?_)
      refine x_P 17 rfl rfl rfl ?_
      refine x_aI rfl ⟨rfl, rfl⟩ (fun x7 hx7 => ?_)
      refine x_callS rfl rfl rfl rfl rfl rfl ⟨rfl, rfl⟩ (S_173 d x7 th) (fun x8 hx8 => ?_)
      refine x_P 22 rfl rfl rfl ?_
      refine x_jn 28 (fun v9 => [(0, .ref a0), (1, .int a1), (2, .int v9), (3, .int s1.2)]) (fun v9 => []) (fun v9 => th) (fun v9 => ?_) (fun j10 hj10 => ?_)
      · refine x_P (lv' := [(3, .int (s1.2 + Int32.ofInt 1)), (0, .ref a0), (1, .int a1), (2, .int v9)]) 31 rfl rfl rfl ?_
        refine x_P 4 rfl rfl rfl ?_
        exact x_lv (hnx2 (v9, (s1.2 + Int32.ofInt 1))) ⟨rfl, rfl, rfl, rfl, trivial⟩
      · refine x_ic_ne rfl rfl (fun h11 => ?_) (fun h11 => ?_)
        · refine x_P (lv' := [(2, .int (s1.1 + Int32.ofInt 1)), (0, .ref a0), (1, .int a1), (3, .int s1.2)]) 28 rfl rfl rfl ?_
          exact x_lv (hj10 (s1.1 + Int32.ofInt 1)) ⟨rfl, rfl, rfl, rfl, trivial⟩
        · exact x_lv (hj10 s1.1) ⟨rfl, rfl, rfl, rfl, trivial⟩
  · refine x_P 35 rfl rfl rfl ?_
    exact x_retI (x := x4) rfl
