/-! ===== programs ===== -/
-- 60 NineTrees.shelfOf(I)LNineTrees$Shelf;
noncomputable def m_60 (a0 : Nat) (a1 : Int32) (th : tH) : Option (Option Nat) :=
  (gC th 7 a0).bind fun _ =>
  jn (fun (v1 : Option Nat) =>
      some v1
    ) (fun j2 =>
      jn (fun (v3 : Unit) =>
          j2 none
        ) (fun j4 =>
          if a1 < 0 then
            j4 ()
          else
            (gN th 7 a0 8).bind fun o5 =>
            (aL th o5).bind fun x6 =>
            if a1 < x6 then
              (gN th 7 a0 8).bind fun o7 =>
              (aN th o7 a1).bind fun o8 =>
              j2 (some o8)
            else
              j4 ()
        )
    )
theorem c_60 {a0 : Nat} {a1 : Int32} {th : tH} {x : (Option Nat)} (h : m_60 a0 a1 th = some x) : ∃ fs, th[a0]? = some (.inr (7, fs)) := gC_of h
theorem S_60 {L : Nat} (d : Nat) (a0 : Nat) (a1 : Int32) (th : tH) : Wx L (fun x => (some (va_rf x), th)) d 60 2 0 [(0, .ref a0), (1, .int a1)] [] th (m_60 a0 a1 th) := by
  unfold m_60
  refine x_gC ?_
  refine x_P 1 rfl rfl rfl ?_
  refine x_jn 23 (fun v1 => []) (fun v1 => [va_rf v1]) (fun v1 => th) (fun v1 => ?_) (fun j2 hj2 => ?_)
  · exact x_retR (x := v1) rfl
  · refine x_jn 13 (fun v3 => []) (fun v3 => []) (fun v3 => th) (fun v3 => ?_) (fun j4 hj4 => ?_)
    · refine x_P 14 rfl rfl rfl ?_
      refine x_P 23 rfl rfl rfl ?_
      exact x_lv (hj2 none) trivial
    · refine x_if_lt rfl rfl (fun h10 => ?_) (fun h10 => ?_)
      · exact x_lv (hj4 ()) trivial
      · refine x_P 5 rfl rfl rfl ?_
        refine x_P 6 rfl rfl rfl ?_
        refine x_gN rfl (fun o5 ho5 => ?_)
        refine x_aL rfl ⟨rfl, rfl⟩ (fun x6 hx6 => ?_)
        refine x_ic_lt rfl rfl (fun h9 => ?_) (fun h9 => ?_)
        · refine x_P 18 rfl rfl rfl ?_
          refine x_gN rfl (fun o7 ho7 => ?_)
          refine x_P 22 rfl rfl rfl ?_
          refine x_aN rfl ⟨rfl, rfl⟩ (fun o8 ho8 => ?_)
          exact x_lv (hj2 (some o8)) trivial
        · exact x_lv (hj4 ()) trivial
-- 59 NineTrees.refuse(I)I
noncomputable def m_59 (a0 : Nat) (a1 : Int32) (th : tH) : Option (Int32 × tH) :=
  (gC th 7 a0).bind fun _ =>
  jn (fun (v1 : tH) =>
      some (a1, v1)
    ) (fun j2 =>
      if ((Int8.ofInt (-2)).toInt32 - a1) < 0 then
        j2 th
      else
        (gN th 7 a0 9).bind fun o3 =>
        (aL th o3).bind fun x4 =>
        if x4 ≤ ((Int8.ofInt (-2)).toInt32 - a1) then
          j2 th
        else
          (gN th 7 a0 9).bind fun o5 =>
          (aI th o5 ((Int8.ofInt (-2)).toInt32 - a1)).bind fun x6 =>
          (sI th o5 ((Int8.ofInt (-2)).toInt32 - a1) (x6 + (Int32.ofInt 1))).bind fun th7 =>
          j2 th7
    )
theorem c_59 {a0 : Nat} {a1 : Int32} {th : tH} {x : (Int32 × tH)} (h : m_59 a0 a1 th = some x) : ∃ fs, th[a0]? = some (.inr (7, fs)) := gC_of h
theorem S_59 {L : Nat} (d : Nat) (a0 : Nat) (a1 : Int32) (th : tH) : Wx L (fun x => (some (.int x.1), x.2)) (d + 1) 59 3 0 [(0, .ref a0), (1, .int a1)] [] th (m_59 a0 a1 th) := by
  unfold m_59
  refine x_gC ?_
  refine x_P 2 rfl rfl rfl ?_
  refine x_P 3 rfl rfl rfl ?_
  refine x_P 4 rfl rfl rfl ?_
  refine x_P (lv' := [(2, .int ((Int8.ofInt (-2)).toInt32 - a1)), (0, .ref a0), (1, .int a1)]) 5 rfl rfl rfl ?_
  refine x_P 6 rfl rfl rfl ?_
  refine x_jn 28 (fun v1 => [(1, .int a1)]) (fun v1 => []) (fun v1 => v1) (fun v1 => ?_) (fun j2 hj2 => ?_)
  · refine x_P 29 rfl rfl rfl ?_
    exact x_retI (x := (a1, v1)) rfl
  · refine x_if_lt rfl rfl (fun h9 => ?_) (fun h9 => ?_)
    · exact x_lv (hj2 th) ⟨rfl, trivial⟩
    · refine x_P 10 rfl rfl rfl ?_
      refine x_P 11 rfl rfl rfl ?_
      refine x_gN rfl (fun o3 ho3 => ?_)
      refine x_aL rfl ⟨rfl, rfl⟩ (fun x4 hx4 => ?_)
      refine x_ic_ge rfl rfl (fun h8 => ?_) (fun h8 => ?_)
      · exact x_lv (hj2 th) ⟨rfl, trivial⟩
      · refine x_P 19 rfl rfl rfl ?_
        refine x_gN rfl (fun o5 ho5 => ?_)
        refine x_P 23 rfl rfl rfl ?_
        refine x_P 24 rfl rfl rfl ?_
        refine x_aI rfl ⟨rfl, rfl⟩ (fun x6 hx6 => ?_)
        refine x_P 26 rfl rfl rfl ?_
        refine x_P 27 rfl rfl rfl ?_
        refine x_sI rfl ⟨rfl, rfl⟩ (fun th7 hth7 => ?_)
        exact x_lv (hj2 th7) ⟨rfl, trivial⟩
-- 155 NineTrees$Shelf.takeRow(II)V
noncomputable def m_155 (a0 : Nat) (a1 : Int32) (a2 : Int32) (th : tH) : Option tH :=
  (gC th 5 a0).bind fun _ =>
  (pI th 5 a0 1 a1).bind fun th1 =>
  (pI th1 5 a0 2 a2).bind fun th2 =>
  (pI th2 5 a0 3 (Int32.ofInt (-1))).bind fun th3 =>
  lp (fun (s4 : Int32 × tH) nx5 ex6 =>
      (gN s4.2 5 a0 0).bind fun o8 =>
      (aL s4.2 o8).bind fun x9 =>
      if x9 ≤ s4.1 then
        ex6 s4.2
      else
        (gN s4.2 5 a0 0).bind fun o10 =>
        (sJ s4.2 o10 s4.1 (Int64.ofNat 0)).bind fun th11 =>
        nx5 ((s4.1 + Int32.ofInt 1), th11)
    ) 4096 ((Int32.ofInt 0), th3) (fun (x7 : tH) =>
      some x7
    )
theorem c_155 {a0 : Nat} {a1 : Int32} {a2 : Int32} {th : tH} {x : tH} (h : m_155 a0 a1 a2 th = some x) : ∃ fs, th[a0]? = some (.inr (5, fs)) := gC_of h
theorem S_155 {L : Nat} (d : Nat) (a0 : Nat) (a1 : Int32) (a2 : Int32) (th : tH) : Wx L (fun x => (none, x)) (d + 1) 155 4 0 [(0, .ref a0), (1, .int a1), (2, .int a2)] [] th (m_155 a0 a1 a2 th) := by
  unfold m_155
  refine x_gC ?_
  refine x_P 1 rfl rfl rfl ?_
  refine x_P 2 rfl rfl rfl ?_
  refine x_pI rfl (fun th1 hth1 => ?_)
  refine x_P 6 rfl rfl rfl ?_
  refine x_P 7 rfl rfl rfl ?_
  refine x_pI rfl (fun th2 hth2 => ?_)
  refine x_P 11 rfl rfl rfl ?_
  refine x_P 12 rfl rfl rfl ?_
  refine x_pI rfl (fun th3 hth3 => ?_)
  refine x_P 16 rfl rfl rfl ?_
  refine x_P (lv' := [(3, .int (Int32.ofInt 0)), (0, .ref a0), (1, .int a1), (2, .int a2)]) 17 rfl rfl rfl ?_
  refine x_lv (lv := [(0, .ref a0), (3, .int (Int32.ofInt 0))]) (x_lp 39 (fun s4 => [(0, .ref a0), (3, .int s4.1)]) (fun s4 => s4.2) (fun x7 => []) (fun x7 => x7) (fun s4 nx5 hnx5 ex6 hex6 => ?_) (fun x7 => ?_) 4096 ((Int32.ofInt 0), th3)) ⟨rfl, rfl, trivial⟩
  · refine x_P 18 rfl rfl rfl ?_
    refine x_P 19 rfl rfl rfl ?_
    refine x_gN rfl (fun o8 ho8 => ?_)
    refine x_aL rfl ⟨rfl, rfl⟩ (fun x9 hx9 => ?_)
    refine x_ic_ge rfl rfl (fun h12 => ?_) (fun h12 => ?_)
    · exact x_lv (hex6 s4.2) trivial
    · refine x_P 27 rfl rfl rfl ?_
      refine x_gN rfl (fun o10 ho10 => ?_)
      refine x_P 31 rfl rfl rfl ?_
      refine x_P 32 rfl rfl rfl ?_
      refine x_sJ rfl ⟨rfl, rfl⟩ (fun th11 hth11 => ?_)
      refine x_P (lv' := [(3, .int (s4.1 + Int32.ofInt 1)), (0, .ref a0)]) 36 rfl rfl rfl ?_
      refine x_P 17 rfl rfl rfl ?_
      exact x_lv (hnx5 ((s4.1 + Int32.ofInt 1), th11)) ⟨rfl, rfl, trivial⟩
  · exact x_retV (x := x7) rfl
-- 2 NineTrees.row(III)I
noncomputable def m_2 (a0 : Nat) (a1 : Int32) (a2 : Int32) (a3 : Int32) (th : tH) : Option (Int32 × tH) :=
  (gC th 7 a0).bind fun _ =>
  (m_60 a0 a1 th).bind fun r1 =>
  jn (fun (v2 : Unit) =>
      (m_59 a0 (Int8.ofInt (-2)).toInt32 th).bind fun q4 =>
      some (q4.1, q4.2)
    ) (fun j3 =>
      match r1 with
      | none =>
        j3 ()
      | some o5 =>
        if a2 < 0 then
          j3 ()
        else
          if (Int32.ofInt 4) < a2 then
            j3 ()
          else
            if a3 < 0 then
              j3 ()
            else
              if a3 ≤ (Int8.ofInt 40).toInt32 then
                (m_155 o5 a2 a3 th).bind fun th6 =>
                some ((Int32.ofInt 1), th6)
              else
                j3 ()
    )
theorem c_2 {a0 : Nat} {a1 : Int32} {a2 : Int32} {a3 : Int32} {th : tH} {x : (Int32 × tH)} (h : m_2 a0 a1 a2 a3 th = some x) : ∃ fs, th[a0]? = some (.inr (7, fs)) := gC_of h
theorem S_2 {L : Nat} (d : Nat) (a0 : Nat) (a1 : Int32) (a2 : Int32) (a3 : Int32) (th : tH) : Wx L (fun x => (some (.int x.1), x.2)) (d + 2) 2 5 0 [(0, .ref a0), (1, .int a1), (2, .int a2), (3, .int a3)] [] th (m_2 a0 a1 a2 a3 th) := by
  unfold m_2
  refine x_gC ?_
  refine x_P 1 rfl rfl rfl ?_
  refine x_P 2 rfl rfl rfl ?_
  refine x_callV rfl rfl rfl rfl rfl ⟨rfl, rfl⟩ (fun x h => c_60 h) (S_60 (d + 1) a0 a1 th) (fun r1 hr1 => ?_)
  refine x_P (lv' := [(4, va_rf r1), (0, .ref a0), (1, .int a1), (2, .int a2), (3, .int a3)]) (st' := []) 7 rfl rfl (by rcases r1 with _ | _ <;> rfl) ?_
  refine x_P 9 rfl rfl (t_P_ald rfl) ?_
  refine x_jn 31 (fun v2 => [(0, .ref a0)]) (fun v2 => []) (fun v2 => th) (fun v2 => ?_) (fun j3 hj3 => ?_)
  · refine x_P 32 rfl rfl rfl ?_
    refine x_P 34 rfl rfl rfl ?_
    refine x_callV rfl rfl rfl rfl rfl ⟨rfl, rfl⟩ (fun x h => c_59 h) (S_59 d a0 (Int8.ofInt (-2)).toInt32 th) (fun q4 hq4 => ?_)
    exact x_retI (x := (q4.1, q4.2)) rfl
  · rcases r1 with _ | o5
    · refine x_P 31 rfl rfl rfl ?_
      exact x_lv (hj3 ()) ⟨rfl, trivial⟩
    · refine x_P 12 rfl rfl rfl ?_
      refine x_P 13 rfl rfl rfl ?_
      refine x_if_lt rfl rfl (fun h10 => ?_) (fun h10 => ?_)
      · exact x_lv (hj3 ()) ⟨rfl, trivial⟩
      · refine x_P 17 rfl rfl rfl ?_
        refine x_P 18 rfl rfl rfl ?_
        refine x_ic_gt rfl rfl (fun h9 => ?_) (fun h9 => ?_)
        · exact x_lv (hj3 ()) ⟨rfl, trivial⟩
        · refine x_P 22 rfl rfl rfl ?_
          refine x_if_lt rfl rfl (fun h8 => ?_) (fun h8 => ?_)
          · exact x_lv (hj3 ()) ⟨rfl, trivial⟩
          · refine x_P 26 rfl rfl rfl ?_
            refine x_P 28 rfl rfl rfl ?_
            refine x_ic_le rfl rfl (fun h7 => ?_) (fun h7 => ?_)
            · refine x_P 40 rfl rfl rfl ?_
              refine x_P 41 rfl rfl rfl ?_
              refine x_P 42 rfl rfl rfl ?_
              refine x_callW rfl rfl rfl rfl rfl ⟨rfl, rfl⟩ (fun x h => c_155 h) (S_155 d o5 a2 a3 th) (fun th6 hth6 => ?_)
              refine x_P 46 rfl rfl rfl ?_
              exact x_retI (x := ((Int32.ofInt 1), th6)) rfl
            · exact x_lv (hj3 ()) ⟨rfl, trivial⟩
-- 150 NineTrees$Shelf.hasRow()Z
noncomputable def m_150 (a0 : Nat) (th : tH) : Option (Int32) :=
  (gC th 5 a0).bind fun _ =>
  (gI th 5 a0 1).bind fun x1 =>
  jn (fun (v2 : Int32) =>
      rB v2
    ) (fun j3 =>
      if x1 = (Int32.ofInt (-1)) then
        j3 (Int32.ofInt 0)
      else
        j3 (Int32.ofInt 1)
    )
theorem c_150 {a0 : Nat} {th : tH} {x : (Int32)} (h : m_150 a0 th = some x) : ∃ fs, th[a0]? = some (.inr (5, fs)) := gC_of h
theorem S_150 {L : Nat} (d : Nat) (a0 : Nat) (th : tH) : Wx L (fun x => (some (.int x), th)) d 150 1 0 [(0, .ref a0)] [] th (m_150 a0 th) := by
  unfold m_150
  refine x_gC ?_
  refine x_P 1 rfl rfl rfl ?_
  refine x_gI rfl (fun x1 hx1 => ?_)
  refine x_P 5 rfl rfl rfl ?_
  refine x_jn 13 (fun v2 => []) (fun v2 => [.int v2]) (fun v2 => th) (fun v2 => ?_) (fun j3 hj3 => ?_)
  · exact x_rB rfl
  · refine x_ic_eq rfl rfl (fun h4 => ?_) (fun h4 => ?_)
    · refine x_P 13 rfl rfl rfl ?_
      exact x_lv (hj3 (Int32.ofInt 0)) trivial
    · refine x_P 9 rfl rfl rfl ?_
      refine x_P 13 rfl rfl rfl ?_
      exact x_lv (hj3 (Int32.ofInt 1)) trivial
-- 151 NineTrees$Shelf.hasTree()Z
noncomputable def m_151 (a0 : Nat) (th : tH) : Option (Int32) :=
  (gC th 5 a0).bind fun _ =>
  (gI th 5 a0 3).bind fun x1 =>
  jn (fun (v2 : Int32) =>
      rB v2
    ) (fun j3 =>
      if x1 = (Int32.ofInt (-1)) then
        j3 (Int32.ofInt 0)
      else
        j3 (Int32.ofInt 1)
    )
theorem c_151 {a0 : Nat} {th : tH} {x : (Int32)} (h : m_151 a0 th = some x) : ∃ fs, th[a0]? = some (.inr (5, fs)) := gC_of h
theorem S_151 {L : Nat} (d : Nat) (a0 : Nat) (th : tH) : Wx L (fun x => (some (.int x), th)) d 151 1 0 [(0, .ref a0)] [] th (m_151 a0 th) := by
  unfold m_151
  refine x_gC ?_
  refine x_P 1 rfl rfl rfl ?_
  refine x_gI rfl (fun x1 hx1 => ?_)
  refine x_P 5 rfl rfl rfl ?_
  refine x_jn 13 (fun v2 => []) (fun v2 => [.int v2]) (fun v2 => th) (fun v2 => ?_) (fun j3 hj3 => ?_)
  · exact x_rB rfl
  · refine x_ic_eq rfl rfl (fun h4 => ?_) (fun h4 => ?_)
    · refine x_P 13 rfl rfl rfl ?_
      exact x_lv (hj3 (Int32.ofInt 0)) trivial
    · refine x_P 9 rfl rfl rfl ?_
      refine x_P 13 rfl rfl rfl ?_
      exact x_lv (hj3 (Int32.ofInt 1)) trivial
-- 152 NineTrees$Shelf.whyNoRow()I
noncomputable def m_152 (a0 : Nat) (th : tH) : Option (Int32) :=
  (gC th 5 a0).bind fun _ =>
  (m_151 a0 th).bind fun x1 =>
  jn (fun (v2 : Int32) =>
      some v2
    ) (fun j3 =>
      if x1 = 0 then
        j3 (Int8.ofInt (-4)).toInt32
      else
        j3 (Int8.ofInt (-3)).toInt32
    )
theorem c_152 {a0 : Nat} {th : tH} {x : (Int32)} (h : m_152 a0 th = some x) : ∃ fs, th[a0]? = some (.inr (5, fs)) := gC_of h
theorem S_152 {L : Nat} (d : Nat) (a0 : Nat) (th : tH) : Wx L (fun x => (some (.int x), th)) (d + 1) 152 1 0 [(0, .ref a0)] [] th (m_152 a0 th) := by
  unfold m_152
  refine x_gC ?_
  refine x_P 1 rfl rfl rfl ?_
  refine x_callV rfl rfl rfl rfl rfl ⟨rfl, rfl⟩ (fun x h => c_151 h) (S_151 d a0 th) (fun x1 hx1 => ?_)
  refine x_jn 14 (fun v2 => []) (fun v2 => [.int v2]) (fun v2 => th) (fun v2 => ?_) (fun j3 hj3 => ?_)
  · exact x_retI (x := v2) rfl
  · refine x_if_eq rfl rfl (fun h4 => ?_) (fun h4 => ?_)
    · refine x_P 14 rfl rfl rfl ?_
      exact x_lv (hj3 (Int8.ofInt (-4)).toInt32) trivial
    · refine x_P 9 rfl rfl rfl ?_
      refine x_P 14 rfl rfl rfl ?_
      exact x_lv (hj3 (Int8.ofInt (-3)).toInt32) trivial
-- 153 NineTrees$Shelf.hasElement(I)Z
noncomputable def m_153 (a0 : Nat) (a1 : Int32) (th : tH) : Option (Int32) :=
  (gC th 5 a0).bind fun _ =>
  jn (fun (v1 : Int32) =>
      rB v1
    ) (fun j2 =>
      jn (fun (v3 : Unit) =>
          j2 (Int32.ofInt 0)
        ) (fun j4 =>
          if a1 < 0 then
            j4 ()
          else
            (gI th 5 a0 2).bind fun x5 =>
            if x5 ≤ a1 then
              j4 ()
            else
              j2 (Int32.ofInt 1)
        )
    )
theorem c_153 {a0 : Nat} {a1 : Int32} {th : tH} {x : (Int32)} (h : m_153 a0 a1 th = some x) : ∃ fs, th[a0]? = some (.inr (5, fs)) := gC_of h
theorem S_153 {L : Nat} (d : Nat) (a0 : Nat) (a1 : Int32) (th : tH) : Wx L (fun x => (some (.int x), th)) d 153 2 0 [(0, .ref a0), (1, .int a1)] [] th (m_153 a0 a1 th) := by
  unfold m_153
  refine x_gC ?_
  refine x_P 1 rfl rfl rfl ?_
  refine x_jn 17 (fun v1 => []) (fun v1 => [.int v1]) (fun v1 => th) (fun v1 => ?_) (fun j2 hj2 => ?_)
  · exact x_rB rfl
  · refine x_jn 16 (fun v3 => []) (fun v3 => []) (fun v3 => th) (fun v3 => ?_) (fun j4 hj4 => ?_)
    · refine x_P 17 rfl rfl rfl ?_
      exact x_lv (hj2 (Int32.ofInt 0)) trivial
    · refine x_if_lt rfl rfl (fun h7 => ?_) (fun h7 => ?_)
      · exact x_lv (hj4 ()) trivial
      · refine x_P 5 rfl rfl rfl ?_
        refine x_P 6 rfl rfl rfl ?_
        refine x_gI rfl (fun x5 hx5 => ?_)
        refine x_ic_ge rfl rfl (fun h6 => ?_) (fun h6 => ?_)
        · exact x_lv (hj4 ()) trivial
        · refine x_P 13 rfl rfl rfl ?_
          refine x_P 17 rfl rfl rfl ?_
          exact x_lv (hj2 (Int32.ofInt 1)) trivial
-- 157 NineTrees$Shelf.fitted(J)J
noncomputable def m_157 (a0 : Nat) (a1 : Int64) (th : tH) : Option (Int64) :=
  (gC th 5 a0).bind fun _ =>
  (gI th 5 a0 1).bind fun x1 =>
  if x1 < 0 ∨ 3 < x1 then
    jn (fun (v3 : Int64) =>
        some v3
      ) (fun j4 =>
        if (lg_cmp a1 (Int64.ofNat 0)) = 0 then
          j4 (Int64.ofNat 0)
        else
          j4 (Int64.ofNat 1)
      )
  else if x1 = 0 then
    some (Int32.toInt64 (Int32.toInt8 (Int64.toInt32 a1)).toInt32)
  else if x1 = 1 then
    some (Int32.toInt64 (Int32.toInt16 (Int64.toInt32 a1)).toInt32)
  else if x1 = 2 then
    some (Int32.toInt64 (Int64.toInt32 a1))
  else if x1 = 3 then
    some a1
  else
    none
theorem c_157 {a0 : Nat} {a1 : Int64} {th : tH} {x : (Int64)} (h : m_157 a0 a1 th = some x) : ∃ fs, th[a0]? = some (.inr (5, fs)) := gC_of h
theorem S_157 {L : Nat} (d : Nat) (a0 : Nat) (a1 : Int64) (th : tH) : Wx L (fun x => (some (.long x), th)) d 157 3 0 [(0, .ref a0), (1, .long a1)] [] th (m_157 a0 a1 th) := by
  unfold m_157
  refine x_gC ?_
  refine x_P 1 rfl rfl rfl ?_
  refine x_gI rfl (fun x1 hx1 => ?_)
  refine x_ite (fun h2 => ?_) (fun h2 => ?_)
  · refine x_P 52 rfl rfl (x_td h2 (by decide +kernel)) ?_
    refine x_P 53 rfl rfl rfl ?_
    refine x_P 54 rfl rfl rfl ?_
    refine x_P 55 rfl rfl rfl ?_
    refine x_jn 63 (fun v3 => []) (fun v3 => [.long v3]) (fun v3 => th) (fun v3 => ?_) (fun j4 hj4 => ?_)
    · exact x_retJ (x := v3) rfl
    · refine x_if_eq rfl rfl (fun h5 => ?_) (fun h5 => ?_)
      · refine x_P 63 rfl rfl rfl ?_
        exact x_lv (hj4 (Int64.ofNat 0)) trivial
      · refine x_P 59 rfl rfl rfl ?_
        refine x_P 63 rfl rfl rfl ?_
        exact x_lv (hj4 (Int64.ofNat 1)) trivial
  · skip
    refine x_ite (fun h6 => ?_) (fun h6 => ?_)
    · refine x_P 36 rfl rfl (x_ts h6 (by decide +kernel)) ?_
      refine x_P 37 rfl rfl rfl ?_
      refine x_P 38 rfl rfl rfl ?_
      refine x_P 39 rfl rfl rfl ?_
      refine x_P 40 rfl rfl rfl ?_
      exact x_retJ (x := (Int32.toInt64 (Int32.toInt8 (Int64.toInt32 a1)).toInt32)) rfl
    · skip
      refine x_ite (fun h7 => ?_) (fun h7 => ?_)
      · refine x_P 41 rfl rfl (x_ts h7 (by decide +kernel)) ?_
        refine x_P 42 rfl rfl rfl ?_
        refine x_P 43 rfl rfl rfl ?_
        refine x_P 44 rfl rfl rfl ?_
        refine x_P 45 rfl rfl rfl ?_
        exact x_retJ (x := (Int32.toInt64 (Int32.toInt16 (Int64.toInt32 a1)).toInt32)) rfl
      · skip
        refine x_ite (fun h8 => ?_) (fun h8 => ?_)
        · refine x_P 46 rfl rfl (x_ts h8 (by decide +kernel)) ?_
          refine x_P 47 rfl rfl rfl ?_
          refine x_P 48 rfl rfl rfl ?_
          refine x_P 49 rfl rfl rfl ?_
          exact x_retJ (x := (Int32.toInt64 (Int64.toInt32 a1))) rfl
        · skip
          refine x_ite (fun h9 => ?_) (fun h9 => ?_)
          · refine x_P 50 rfl rfl (x_ts h9 (by decide +kernel)) ?_
            refine x_P 51 rfl rfl rfl ?_
            exact x_retJ (x := a1) rfl
          · skip
            exact x_none
-- 3 NineTrees.set(IIJ)I
noncomputable def m_3 (a0 : Nat) (a1 : Int32) (a2 : Int32) (a3 : Int64) (th : tH) : Option (Int32 × tH) :=
  (gC th 7 a0).bind fun _ =>
  (m_60 a0 a1 th).bind fun r1 =>
  match r1 with
  | none =>
    (m_59 a0 (Int8.ofInt (-2)).toInt32 th).bind fun q3 =>
    some (q3.1, q3.2)
  | some o2 =>
    (m_150 o2 th).bind fun x4 =>
    if x4 = 0 then
      (m_152 o2 th).bind fun x11 =>
      (m_59 a0 x11 th).bind fun q12 =>
      some (q12.1, q12.2)
    else
      (m_153 o2 a2 th).bind fun x5 =>
      if x5 = 0 then
        (m_59 a0 (Int8.ofInt (-2)).toInt32 th).bind fun q9 =>
        some (q9.1, q9.2)
      else
        (gN th 5 o2 0).bind fun o6 =>
        (m_157 o2 a3 th).bind fun x7 =>
        (sJ th o6 a2 x7).bind fun th8 =>
        some ((Int32.ofInt 1), th8)
theorem c_3 {a0 : Nat} {a1 : Int32} {a2 : Int32} {a3 : Int64} {th : tH} {x : (Int32 × tH)} (h : m_3 a0 a1 a2 a3 th = some x) : ∃ fs, th[a0]? = some (.inr (7, fs)) := gC_of h
theorem S_3 {L : Nat} (d : Nat) (a0 : Nat) (a1 : Int32) (a2 : Int32) (a3 : Int64) (th : tH) : Wx L (fun x => (some (.int x.1), x.2)) (d + 2) 3 6 0 [(0, .ref a0), (1, .int a1), (2, .int a2), (3, .long a3)] [] th (m_3 a0 a1 a2 a3 th) := by
  unfold m_3
  refine x_gC ?_
  refine x_P 1 rfl rfl rfl ?_
  refine x_P 2 rfl rfl rfl ?_
  refine x_callV rfl rfl rfl rfl rfl ⟨rfl, rfl⟩ (fun x h => c_60 h) (S_60 (d + 1) a0 a1 th) (fun r1 hr1 => ?_)
  refine x_P (lv' := [(5, va_rf r1), (0, .ref a0), (1, .int a1), (2, .int a2), (3, .long a3)]) (st' := []) 7 rfl rfl (by rcases r1 with _ | _ <;> rfl) ?_
  refine x_P 9 rfl rfl (t_P_ald rfl) ?_
  rcases r1 with _ | o2
  · refine x_P 12 rfl rfl rfl ?_
    refine x_P 13 rfl rfl rfl ?_
    refine x_P 15 rfl rfl rfl ?_
    refine x_callV rfl rfl rfl rfl rfl ⟨rfl, rfl⟩ (fun x h => c_59 h) (S_59 d a0 (Int8.ofInt (-2)).toInt32 th) (fun q3 hq3 => ?_)
    exact x_retI (x := (q3.1, q3.2)) rfl
  · refine x_P 19 rfl rfl rfl ?_
    refine x_P 21 rfl rfl rfl ?_
    refine x_callV rfl rfl rfl rfl rfl ⟨rfl, rfl⟩ (fun x h => c_150 h) (S_150 (d + 1) o2 th) (fun x4 hx4 => ?_)
    refine x_if_ne rfl rfl (fun h13 => ?_) (fun h13 => ?_)
    · refine x_P 28 rfl rfl rfl ?_
      refine x_P 30 rfl rfl rfl ?_
      refine x_callV rfl rfl rfl rfl rfl ⟨rfl, rfl⟩ (fun x h => c_152 h) (S_152 d o2 th) (fun x11 hx11 => ?_)
      refine x_callV rfl rfl rfl rfl rfl ⟨rfl, rfl⟩ (fun x h => c_59 h) (S_59 d a0 x11 th) (fun q12 hq12 => ?_)
      exact x_retI (x := (q12.1, q12.2)) rfl
    · refine x_P 39 rfl rfl rfl ?_
      refine x_P 40 rfl rfl rfl ?_
      refine x_callV rfl rfl rfl rfl rfl ⟨rfl, rfl⟩ (fun x h => c_153 h) (S_153 (d + 1) o2 a2 th) (fun x5 hx5 => ?_)
      refine x_if_ne rfl rfl (fun h10 => ?_) (fun h10 => ?_)
      · refine x_P 47 rfl rfl rfl ?_
        refine x_P 49 rfl rfl rfl ?_
        refine x_callV rfl rfl rfl rfl rfl ⟨rfl, rfl⟩ (fun x h => c_59 h) (S_59 d a0 (Int8.ofInt (-2)).toInt32 th) (fun q9 hq9 => ?_)
        exact x_retI (x := (q9.1, q9.2)) rfl
      · refine x_P 55 rfl rfl rfl ?_
        refine x_gN rfl (fun o6 ho6 => ?_)
        refine x_P 59 rfl rfl rfl ?_
        refine x_P 61 rfl rfl rfl ?_
        refine x_P 62 rfl rfl rfl ?_
        refine x_callV rfl rfl rfl rfl rfl ⟨rfl, rfl⟩ (fun x h => c_157 h) (S_157 (d + 1) o2 a3 th) (fun x7 hx7 => ?_)
        refine x_sJ rfl ⟨rfl, rfl⟩ (fun th8 hth8 => ?_)
        refine x_P 67 rfl rfl rfl ?_
        exact x_retI (x := ((Int32.ofInt 1), th8)) rfl
-- 154 NineTrees$Shelf.hasStretch(II)Z
noncomputable def m_154 (a0 : Nat) (a1 : Int32) (a2 : Int32) (th : tH) : Option (Int32) :=
  (gC th 5 a0).bind fun _ =>
  jn (fun (v1 : Int32) =>
      rB v1
    ) (fun j2 =>
      jn (fun (v3 : Unit) =>
          j2 (Int32.ofInt 0)
        ) (fun j4 =>
          if a1 < 0 then
            j4 ()
          else
            if a2 < 0 then
              j4 ()
            else
              (gI th 5 a0 2).bind fun x5 =>
              if (x5 - a2) < a1 then
                j4 ()
              else
                j2 (Int32.ofInt 1)
        )
    )
theorem c_154 {a0 : Nat} {a1 : Int32} {a2 : Int32} {th : tH} {x : (Int32)} (h : m_154 a0 a1 a2 th = some x) : ∃ fs, th[a0]? = some (.inr (5, fs)) := gC_of h
theorem S_154 {L : Nat} (d : Nat) (a0 : Nat) (a1 : Int32) (a2 : Int32) (th : tH) : Wx L (fun x => (some (.int x), th)) d 154 3 0 [(0, .ref a0), (1, .int a1), (2, .int a2)] [] th (m_154 a0 a1 a2 th) := by
  unfold m_154
  refine x_gC ?_
  refine x_P 1 rfl rfl rfl ?_
  refine x_jn 23 (fun v1 => []) (fun v1 => [.int v1]) (fun v1 => th) (fun v1 => ?_) (fun j2 hj2 => ?_)
  · exact x_rB rfl
  · refine x_jn 22 (fun v3 => []) (fun v3 => []) (fun v3 => th) (fun v3 => ?_) (fun j4 hj4 => ?_)
    · refine x_P 23 rfl rfl rfl ?_
      exact x_lv (hj2 (Int32.ofInt 0)) trivial
    · refine x_if_lt rfl rfl (fun h8 => ?_) (fun h8 => ?_)
      · exact x_lv (hj4 ()) trivial
      · refine x_P 5 rfl rfl rfl ?_
        refine x_if_lt rfl rfl (fun h7 => ?_) (fun h7 => ?_)
        · exact x_lv (hj4 ()) trivial
        · refine x_P 9 rfl rfl rfl ?_
          refine x_P 10 rfl rfl rfl ?_
          refine x_gI rfl (fun x5 hx5 => ?_)
          refine x_P 14 rfl rfl rfl ?_
          refine x_P 15 rfl rfl rfl ?_
          refine x_ic_gt rfl rfl (fun h6 => ?_) (fun h6 => ?_)
          · exact x_lv (hj4 ()) trivial
          · refine x_P 19 rfl rfl rfl ?_
            refine x_P 23 rfl rfl rfl ?_
            exact x_lv (hj2 (Int32.ofInt 1)) trivial
-- 4 NineTrees.copy(IIIII)I
noncomputable def m_4 (a0 : Nat) (a1 : Int32) (a2 : Int32) (a3 : Int32) (a4 : Int32) (a5 : Int32) (th : tH) : Option (Int32 × tH) :=
  (gC th 7 a0).bind fun _ =>
  (m_60 a0 a1 th).bind fun r1 =>
  (m_60 a0 a2 th).bind fun r2 =>
  jn (fun (v3 : Unit) =>
      (m_59 a0 (Int8.ofInt (-2)).toInt32 th).bind fun q5 =>
      some (q5.1, q5.2)
    ) (fun j4 =>
      match r1 with
      | none =>
        j4 ()
      | some o6 =>
        match r2 with
        | none =>
          j4 ()
        | some o7 =>
          (m_151 o6 th).bind fun x8 =>
          jn (fun (v9 : Unit) =>
              (m_59 a0 (Int8.ofInt (-3)).toInt32 th).bind fun q11 =>
              some (q11.1, q11.2)
            ) (fun j10 =>
              if x8 = 0 then
                (m_151 o7 th).bind fun x12 =>
                if x12 = 0 then
                  (m_150 o6 th).bind fun x13 =>
                  jn (fun (v14 : Unit) =>
                      (m_150 o6 th).bind fun x16 =>
                      jn (fun (v17 : Unit) =>
                          (m_59 a0 (Int8.ofInt (-4)).toInt32 th).bind fun q19 =>
                          some (q19.1, q19.2)
                        ) (fun j18 =>
                          if x16 = 0 then
                            j18 ()
                          else
                            (m_150 o7 th).bind fun x20 =>
                            if x20 = 0 then
                              j18 ()
                            else
                              (m_154 o6 a3 a5 th).bind fun x21 =>
                              jn (fun (v22 : Unit) =>
                                  (m_59 a0 (Int8.ofInt (-2)).toInt32 th).bind fun q24 =>
                                  some (q24.1, q24.2)
                                ) (fun j23 =>
                                  if x21 = 0 then
                                    j23 ()
                                  else
                                    (m_154 o7 a4 a5 th).bind fun x25 =>
                                    if x25 = 0 then
                                      j23 ()
                                    else
                                      (gN th 5 o6 0).bind fun o26 =>
                                      (gN th 5 o7 0).bind fun o27 =>
                                      (cpJ th o26 a3 o27 a4 a5).bind fun th28 =>
                                      some (a5, th28)
                                )
                        )
                    ) (fun j15 =>
                      if x13 = 0 then
                        j15 ()
                      else
                        (m_150 o7 th).bind fun x33 =>
                        if x33 = 0 then
                          j15 ()
                        else
                          (gI th 5 o6 1).bind fun x34 =>
                          (gI th 5 o7 1).bind fun x35 =>
                          if x34 = x35 then
                            j15 ()
                          else
                            j10 ()
                    )
                else
                  j10 ()
              else
                j10 ()
            )
    )
theorem c_4 {a0 : Nat} {a1 : Int32} {a2 : Int32} {a3 : Int32} {a4 : Int32} {a5 : Int32} {th : tH} {x : (Int32 × tH)} (h : m_4 a0 a1 a2 a3 a4 a5 th = some x) : ∃ fs, th[a0]? = some (.inr (7, fs)) := gC_of h
theorem S_4 {L : Nat} (d : Nat) (a0 : Nat) (a1 : Int32) (a2 : Int32) (a3 : Int32) (a4 : Int32) (a5 : Int32) (th : tH) : Wx L (fun x => (some (.int x.1), x.2)) (d + 2) 4 8 0 [(0, .ref a0), (1, .int a1), (2, .int a2), (3, .int a3), (4, .int a4), (5, .int a5)] [] th (m_4 a0 a1 a2 a3 a4 a5 th) := by
  unfold m_4
  refine x_gC ?_
  refine x_P 1 rfl rfl rfl ?_
  refine x_P 2 rfl rfl rfl ?_
  refine x_callV rfl rfl rfl rfl rfl ⟨rfl, rfl⟩ (fun x h => c_60 h) (S_60 (d + 1) a0 a1 th) (fun r1 hr1 => ?_)
  refine x_P (lv' := [(6, va_rf r1), (0, .ref a0), (1, .int a1), (2, .int a2), (3, .int a3), (4, .int a4), (5, .int a5)]) (st' := []) 7 rfl rfl (by rcases r1 with _ | _ <;> rfl) ?_
  refine x_P 8 rfl rfl rfl ?_
  refine x_P 9 rfl rfl rfl ?_
  refine x_callV rfl rfl rfl rfl rfl ⟨rfl, rfl⟩ (fun x h => c_60 h) (S_60 (d + 1) a0 a2 th) (fun r2 hr2 => ?_)
  refine x_P (lv' := [(7, va_rf r2), (6, va_rf r1), (0, .ref a0), (1, .int a1), (2, .int a2), (3, .int a3), (4, .int a4), (5, .int a5)]) (st' := []) 14 rfl rfl (by rcases r1 with _ | _ <;> rcases r2 with _ | _ <;> rfl) ?_
  refine x_P 16 rfl rfl (t_P_ald rfl) ?_
  refine x_jn 24 (fun v3 => [(0, .ref a0)]) (fun v3 => []) (fun v3 => th) (fun v3 => ?_) (fun j4 hj4 => ?_)
  · refine x_P 25 rfl rfl rfl ?_
    refine x_P 27 rfl rfl rfl ?_
    refine x_callV rfl rfl rfl rfl rfl ⟨rfl, rfl⟩ (fun x h => c_59 h) (S_59 d a0 (Int8.ofInt (-2)).toInt32 th) (fun q5 hq5 => ?_)
    exact x_retI (x := (q5.1, q5.2)) rfl
  · rcases r1 with _ | o6
    · refine x_P 24 rfl rfl rfl ?_
      exact x_lv (hj4 ()) ⟨rfl, trivial⟩
    · refine x_P 19 rfl rfl rfl ?_
      refine x_P 21 rfl rfl (t_P_ald rfl) ?_
      rcases r2 with _ | o7
      · refine x_P 24 rfl rfl rfl ?_
        exact x_lv (hj4 ()) ⟨rfl, trivial⟩
      · refine x_P 31 rfl rfl rfl ?_
        refine x_P 33 rfl rfl rfl ?_
        refine x_callV rfl rfl rfl rfl rfl ⟨rfl, rfl⟩ (fun x h => c_151 h) (S_151 (d + 1) o6 th) (fun x8 hx8 => ?_)
        refine x_jn 76 (fun v9 => [(0, .ref a0)]) (fun v9 => []) (fun v9 => th) (fun v9 => ?_) (fun j10 hj10 => ?_)
        · refine x_P 77 rfl rfl rfl ?_
          refine x_P 79 rfl rfl rfl ?_
          refine x_callV rfl rfl rfl rfl rfl ⟨rfl, rfl⟩ (fun x h => c_59 h) (S_59 d a0 (Int8.ofInt (-3)).toInt32 th) (fun q11 hq11 => ?_)
          exact x_retI (x := (q11.1, q11.2)) rfl
        · refine x_if_ne rfl rfl (fun h40 => ?_) (fun h40 => ?_)
          · refine x_P 41 rfl rfl rfl ?_
            refine x_callV rfl rfl rfl rfl rfl ⟨rfl, rfl⟩ (fun x h => c_151 h) (S_151 (d + 1) o7 th) (fun x12 hx12 => ?_)
            refine x_if_ne rfl rfl (fun h39 => ?_) (fun h39 => ?_)
            · refine x_P 49 rfl rfl rfl ?_
              refine x_callV rfl rfl rfl rfl rfl ⟨rfl, rfl⟩ (fun x h => c_150 h) (S_150 (d + 1) o6 th) (fun x13 hx13 => ?_)
              refine x_jn 83 (fun v14 => [(0, .ref a0), (3, .int a3), (4, .int a4), (5, .int a5), (6, .ref o6), (7, .ref o7)]) (fun v14 => []) (fun v14 => th) (fun v14 => ?_) (fun j15 hj15 => ?_)
              · refine x_P 85 rfl rfl rfl ?_
                refine x_callV rfl rfl rfl rfl rfl ⟨rfl, rfl⟩ (fun x h => c_150 h) (S_150 (d + 1) o6 th) (fun x16 hx16 => ?_)
                refine x_jn 99 (fun v17 => [(0, .ref a0)]) (fun v17 => []) (fun v17 => th) (fun v17 => ?_) (fun j18 hj18 => ?_)
                · refine x_P 100 rfl rfl rfl ?_
                  refine x_P 102 rfl rfl rfl ?_
                  refine x_callV rfl rfl rfl rfl rfl ⟨rfl, rfl⟩ (fun x h => c_59 h) (S_59 d a0 (Int8.ofInt (-4)).toInt32 th) (fun q19 hq19 => ?_)
                  exact x_retI (x := (q19.1, q19.2)) rfl
                · refine x_if_eq rfl rfl (fun h32 => ?_) (fun h32 => ?_)
                  · exact x_lv (hj18 ()) ⟨rfl, trivial⟩
                  · refine x_P 93 rfl rfl rfl ?_
                    refine x_callV rfl rfl rfl rfl rfl ⟨rfl, rfl⟩ (fun x h => c_150 h) (S_150 (d + 1) o7 th) (fun x20 hx20 => ?_)
                    refine x_if_ne rfl rfl (fun h31 => ?_) (fun h31 => ?_)
                    · exact x_lv (hj18 ()) ⟨rfl, trivial⟩
                    · refine x_P 108 rfl rfl rfl ?_
                      refine x_P 109 rfl rfl rfl ?_
                      refine x_P 111 rfl rfl rfl ?_
                      refine x_callV rfl rfl rfl rfl rfl ⟨rfl, rfl⟩ (fun x h => c_154 h) (S_154 (d + 1) o6 a3 a5 th) (fun x21 hx21 => ?_)
                      refine x_jn 129 (fun v22 => [(0, .ref a0)]) (fun v22 => []) (fun v22 => th) (fun v22 => ?_) (fun j23 hj23 => ?_)
                      · refine x_P 130 rfl rfl rfl ?_
                        refine x_P 132 rfl rfl rfl ?_
                        refine x_callV rfl rfl rfl rfl rfl ⟨rfl, rfl⟩ (fun x h => c_59 h) (S_59 d a0 (Int8.ofInt (-2)).toInt32 th) (fun q24 hq24 => ?_)
                        exact x_retI (x := (q24.1, q24.2)) rfl
                      · refine x_if_eq rfl rfl (fun h30 => ?_) (fun h30 => ?_)
                        · exact x_lv (hj23 ()) ⟨rfl, trivial⟩
                        · refine x_P 119 rfl rfl rfl ?_
                          refine x_P 121 rfl rfl rfl ?_
                          refine x_P 123 rfl rfl rfl ?_
                          refine x_callV rfl rfl rfl rfl rfl ⟨rfl, rfl⟩ (fun x h => c_154 h) (S_154 (d + 1) o7 a4 a5 th) (fun x25 hx25 => ?_)
                          refine x_if_ne rfl rfl (fun h29 => ?_) (fun h29 => ?_)
                          · exact x_lv (hj23 ()) ⟨rfl, trivial⟩
                          · refine x_P 138 rfl rfl rfl ?_
                            refine x_gN rfl (fun o26 ho26 => ?_)
                            refine x_P 142 rfl rfl rfl ?_
                            refine x_P 144 rfl rfl rfl ?_
                            refine x_gN rfl (fun o27 ho27 => ?_)
                            refine x_P 149 rfl rfl rfl ?_
                            refine x_P 151 rfl rfl rfl ?_
                            refine x_cpJ rfl rfl (fun th28 hth28 => ?_)
                            refine x_P 156 rfl rfl rfl ?_
                            exact x_retI (x := (a5, th28)) rfl
              · refine x_if_eq rfl rfl (fun h38 => ?_) (fun h38 => ?_)
                · exact x_lv (hj15 ()) ⟨rfl, rfl, rfl, rfl, rfl, rfl, trivial⟩
                · refine x_P 57 rfl rfl rfl ?_
                  refine x_callV rfl rfl rfl rfl rfl ⟨rfl, rfl⟩ (fun x h => c_150 h) (S_150 (d + 1) o7 th) (fun x33 hx33 => ?_)
                  refine x_if_eq rfl rfl (fun h37 => ?_) (fun h37 => ?_)
                  · exact x_lv (hj15 ()) ⟨rfl, rfl, rfl, rfl, rfl, rfl, trivial⟩
                  · refine x_P 65 rfl rfl rfl ?_
                    refine x_gI rfl (fun x34 hx34 => ?_)
                    refine x_P 70 rfl rfl rfl ?_
                    refine x_gI rfl (fun x35 hx35 => ?_)
                    refine x_ic_eq rfl rfl (fun h36 => ?_) (fun h36 => ?_)
                    · exact x_lv (hj15 ()) ⟨rfl, rfl, rfl, rfl, rfl, rfl, trivial⟩
                    · exact x_lv (hj10 ()) ⟨rfl, trivial⟩
            · exact x_lv (hj10 ()) ⟨rfl, trivial⟩
          · exact x_lv (hj10 ()) ⟨rfl, trivial⟩
-- 5 NineTrees.element(II)J
noncomputable def m_5 (a0 : Nat) (a1 : Int32) (a2 : Int32) (th : tH) : Option (Int64) :=
  (gC th 7 a0).bind fun _ =>
  (m_60 a0 a1 th).bind fun r1 =>
  jn (fun (v2 : Int64) =>
      some v2
    ) (fun j3 =>
      jn (fun (v4 : Unit) =>
          j3 (Int64.ofNat 0)
        ) (fun j5 =>
          match r1 with
          | none =>
            j5 ()
          | some o6 =>
            (m_153 o6 a2 th).bind fun x7 =>
            if x7 = 0 then
              j5 ()
            else
              (gN th 5 o6 0).bind fun o8 =>
              (aJ th o8 a2).bind fun x9 =>
              j3 x9
        )
    )
theorem c_5 {a0 : Nat} {a1 : Int32} {a2 : Int32} {th : tH} {x : (Int64)} (h : m_5 a0 a1 a2 th = some x) : ∃ fs, th[a0]? = some (.inr (7, fs)) := gC_of h
theorem S_5 {L : Nat} (d : Nat) (a0 : Nat) (a1 : Int32) (a2 : Int32) (th : tH) : Wx L (fun x => (some (.long x), th)) (d + 1) 5 4 0 [(0, .ref a0), (1, .int a1), (2, .int a2)] [] th (m_5 a0 a1 a2 th) := by
  unfold m_5
  refine x_gC ?_
  refine x_P 1 rfl rfl rfl ?_
  refine x_P 2 rfl rfl rfl ?_
  refine x_callV rfl rfl rfl rfl rfl ⟨rfl, rfl⟩ (fun x h => c_60 h) (S_60 d a0 a1 th) (fun r1 hr1 => ?_)
  refine x_P (lv' := [(3, va_rf r1), (0, .ref a0), (1, .int a1), (2, .int a2)]) (st' := []) 6 rfl rfl (by rcases r1 with _ | _ <;> rfl) ?_
  refine x_P 7 rfl rfl (t_P_ald_n rfl) ?_
  refine x_jn 28 (fun v2 => []) (fun v2 => [.long v2]) (fun v2 => th) (fun v2 => ?_) (fun j3 hj3 => ?_)
  · exact x_retJ (x := v2) rfl
  · refine x_jn 18 (fun v4 => []) (fun v4 => []) (fun v4 => th) (fun v4 => ?_) (fun j5 hj5 => ?_)
    · refine x_P 19 rfl rfl rfl ?_
      refine x_P 28 rfl rfl rfl ?_
      exact x_lv (hj3 (Int64.ofNat 0)) trivial
    · rcases r1 with _ | o6
      · refine x_P 18 rfl rfl rfl ?_
        exact x_lv (hj5 ()) trivial
      · refine x_P 10 rfl rfl rfl ?_
        refine x_P 11 rfl rfl rfl ?_
        refine x_P 12 rfl rfl rfl ?_
        refine x_callV rfl rfl rfl rfl rfl ⟨rfl, rfl⟩ (fun x h => c_153 h) (S_153 d o6 a2 th) (fun x7 hx7 => ?_)
        refine x_if_ne rfl rfl (fun h10 => ?_) (fun h10 => ?_)
        · exact x_lv (hj5 ()) trivial
        · refine x_P 23 rfl rfl rfl ?_
          refine x_gN rfl (fun o8 ho8 => ?_)
          refine x_P 27 rfl rfl rfl ?_
          refine x_aJ rfl ⟨rfl, rfl⟩ (fun x9 hx9 => ?_)
          exact x_lv (hj3 x9) trivial
-- 6 NineTrees.holds(I)I
noncomputable def m_6 (a0 : Nat) (a1 : Int32) (th : tH) : Option (Int32) :=
  (gC th 7 a0).bind fun _ =>
  (m_60 a0 a1 th).bind fun r1 =>
  match r1 with
  | none =>
    some (Int32.ofInt (-1))
  | some o2 =>
    (m_151 o2 th).bind fun x3 =>
    jn (fun (v4 : Int32) =>
        some v4
      ) (fun j5 =>
        if x3 = 0 then
          (gI th 5 o2 1).bind fun x6 =>
          j5 x6
        else
          (gI th 5 o2 3).bind fun x7 =>
          j5 ((Int8.ofInt 10).toInt32 + x7)
      )
theorem c_6 {a0 : Nat} {a1 : Int32} {th : tH} {x : (Int32)} (h : m_6 a0 a1 th = some x) : ∃ fs, th[a0]? = some (.inr (7, fs)) := gC_of h
theorem S_6 {L : Nat} (d : Nat) (a0 : Nat) (a1 : Int32) (th : tH) : Wx L (fun x => (some (.int x), th)) (d + 1) 6 3 0 [(0, .ref a0), (1, .int a1)] [] th (m_6 a0 a1 th) := by
  unfold m_6
  refine x_gC ?_
  refine x_P 1 rfl rfl rfl ?_
  refine x_P 2 rfl rfl rfl ?_
  refine x_callV rfl rfl rfl rfl rfl ⟨rfl, rfl⟩ (fun x h => c_60 h) (S_60 d a0 a1 th) (fun r1 hr1 => ?_)
  refine x_P (lv' := [(2, va_rf r1), (0, .ref a0), (1, .int a1)]) (st' := []) 6 rfl rfl (by rcases r1 with _ | _ <;> rfl) ?_
  refine x_P 7 rfl rfl (t_P_ald_n rfl) ?_
  rcases r1 with _ | o2
  · refine x_P 10 rfl rfl rfl ?_
    refine x_P 11 rfl rfl rfl ?_
    exact x_retI (x := (Int32.ofInt (-1))) rfl
  · refine x_P 12 rfl rfl rfl ?_
    refine x_P 13 rfl rfl rfl ?_
    refine x_callV rfl rfl rfl rfl rfl ⟨rfl, rfl⟩ (fun x h => c_151 h) (S_151 d o2 th) (fun x3 hx3 => ?_)
    refine x_jn 33 (fun v4 => []) (fun v4 => [.int v4]) (fun v4 => th) (fun v4 => ?_) (fun j5 hj5 => ?_)
    · exact x_retI (x := v4) rfl
    · refine x_if_eq rfl rfl (fun h8 => ?_) (fun h8 => ?_)
      · refine x_P 30 rfl rfl rfl ?_
        refine x_gI rfl (fun x6 hx6 => ?_)
        exact x_lv (hj5 x6) trivial
      · refine x_P 21 rfl rfl rfl ?_
        refine x_P 22 rfl rfl rfl ?_
        refine x_gI rfl (fun x7 hx7 => ?_)
        refine x_P 26 rfl rfl rfl ?_
        refine x_P 33 rfl rfl rfl ?_
        exact x_lv (hj5 ((Int8.ofInt 10).toInt32 + x7)) trivial
-- 81 NineTrees$Garden.isTree(I)Z
noncomputable def m_81 (a0 : Nat) (a1 : Int32) (th : tH) : Option (Int32) :=
  (gC th 2 a0).bind fun _ =>
  jn (fun (v1 : Int32) =>
      rB v1
    ) (fun j2 =>
      jn (fun (v3 : Unit) =>
          j2 (Int32.ofInt 0)
        ) (fun j4 =>
          if a1 < 0 then
            j4 ()
          else
            (gI th 2 a0 5).bind fun x5 =>
            if x5 ≤ a1 then
              j4 ()
            else
              j2 (Int32.ofInt 1)
        )
    )
theorem c_81 {a0 : Nat} {a1 : Int32} {th : tH} {x : (Int32)} (h : m_81 a0 a1 th = some x) : ∃ fs, th[a0]? = some (.inr (2, fs)) := gC_of h
theorem S_81 {L : Nat} (d : Nat) (a0 : Nat) (a1 : Int32) (th : tH) : Wx L (fun x => (some (.int x), th)) d 81 2 0 [(0, .ref a0), (1, .int a1)] [] th (m_81 a0 a1 th) := by
  unfold m_81
  refine x_gC ?_
  refine x_P 1 rfl rfl rfl ?_
  refine x_jn 17 (fun v1 => []) (fun v1 => [.int v1]) (fun v1 => th) (fun v1 => ?_) (fun j2 hj2 => ?_)
  · exact x_rB rfl
  · refine x_jn 16 (fun v3 => []) (fun v3 => []) (fun v3 => th) (fun v3 => ?_) (fun j4 hj4 => ?_)
    · refine x_P 17 rfl rfl rfl ?_
      exact x_lv (hj2 (Int32.ofInt 0)) trivial
    · refine x_if_lt rfl rfl (fun h7 => ?_) (fun h7 => ?_)
      · exact x_lv (hj4 ()) trivial
      · refine x_P 5 rfl rfl rfl ?_
        refine x_P 6 rfl rfl rfl ?_
        refine x_gI rfl (fun x5 hx5 => ?_)
        refine x_ic_ge rfl rfl (fun h6 => ?_) (fun h6 => ?_)
        · exact x_lv (hj4 ()) trivial
        · refine x_P 13 rfl rfl rfl ?_
          refine x_P 17 rfl rfl rfl ?_
          exact x_lv (hj2 (Int32.ofInt 1)) trivial
-- 156 NineTrees$Shelf.takeTree(I)V
noncomputable def m_156 (a0 : Nat) (a1 : Int32) (th : tH) : Option tH :=
  (gC th 5 a0).bind fun _ =>
  (pI th 5 a0 1 (Int32.ofInt (-1))).bind fun th1 =>
  (pI th1 5 a0 2 (Int32.ofInt 0)).bind fun th2 =>
  (pI th2 5 a0 3 a1).bind fun th3 =>
  some th3
theorem c_156 {a0 : Nat} {a1 : Int32} {th : tH} {x : tH} (h : m_156 a0 a1 th = some x) : ∃ fs, th[a0]? = some (.inr (5, fs)) := gC_of h
theorem S_156 {L : Nat} (d : Nat) (a0 : Nat) (a1 : Int32) (th : tH) : Wx L (fun x => (none, x)) (d + 1) 156 2 0 [(0, .ref a0), (1, .int a1)] [] th (m_156 a0 a1 th) := by
  unfold m_156
  refine x_gC ?_
  refine x_P 1 rfl rfl rfl ?_
  refine x_P 2 rfl rfl rfl ?_
  refine x_pI rfl (fun th1 hth1 => ?_)
  refine x_P 6 rfl rfl rfl ?_
  refine x_P 7 rfl rfl rfl ?_
  refine x_pI rfl (fun th2 hth2 => ?_)
  refine x_P 11 rfl rfl rfl ?_
  refine x_P 12 rfl rfl rfl ?_
  refine x_pI rfl (fun th3 hth3 => ?_)
  exact x_retV (x := th3) rfl
-- 7 NineTrees.show(II)I
noncomputable def m_7 (a0 : Nat) (a1 : Int32) (a2 : Int32) (th : tH) : Option (Int32 × tH) :=
  (gC th 7 a0).bind fun _ =>
  (m_60 a0 a1 th).bind fun r1 =>
  jn (fun (v2 : Unit) =>
      (m_59 a0 (Int8.ofInt (-2)).toInt32 th).bind fun q4 =>
      some (q4.1, q4.2)
    ) (fun j3 =>
      match r1 with
      | none =>
        j3 ()
      | some o5 =>
        jn (fun (v6 : Unit) =>
            (m_156 o5 a2 th).bind fun th8 =>
            some ((Int32.ofInt 1), th8)
          ) (fun j7 =>
            if a2 = (Int32.ofInt (-1)) then
              j7 ()
            else
              (gN th 7 a0 0).bind fun o9 =>
              (m_81 o9 a2 th).bind fun x10 =>
              if x10 = 0 then
                j3 ()
              else
                j7 ()
          )
    )
theorem c_7 {a0 : Nat} {a1 : Int32} {a2 : Int32} {th : tH} {x : (Int32 × tH)} (h : m_7 a0 a1 a2 th = some x) : ∃ fs, th[a0]? = some (.inr (7, fs)) := gC_of h
theorem S_7 {L : Nat} (d : Nat) (a0 : Nat) (a1 : Int32) (a2 : Int32) (th : tH) : Wx L (fun x => (some (.int x.1), x.2)) (d + 2) 7 4 0 [(0, .ref a0), (1, .int a1), (2, .int a2)] [] th (m_7 a0 a1 a2 th) := by
  unfold m_7
  refine x_gC ?_
  refine x_P 1 rfl rfl rfl ?_
  refine x_P 2 rfl rfl rfl ?_
  refine x_callV rfl rfl rfl rfl rfl ⟨rfl, rfl⟩ (fun x h => c_60 h) (S_60 (d + 1) a0 a1 th) (fun r1 hr1 => ?_)
  refine x_P (lv' := [(3, va_rf r1), (0, .ref a0), (1, .int a1), (2, .int a2)]) (st' := []) 6 rfl rfl (by rcases r1 with _ | _ <;> rfl) ?_
  refine x_P 7 rfl rfl (t_P_ald_n rfl) ?_
  refine x_jn 26 (fun v2 => [(0, .ref a0)]) (fun v2 => []) (fun v2 => th) (fun v2 => ?_) (fun j3 hj3 => ?_)
  · refine x_P 27 rfl rfl rfl ?_
    refine x_P 29 rfl rfl rfl ?_
    refine x_callV rfl rfl rfl rfl rfl ⟨rfl, rfl⟩ (fun x h => c_59 h) (S_59 d a0 (Int8.ofInt (-2)).toInt32 th) (fun q4 hq4 => ?_)
    exact x_retI (x := (q4.1, q4.2)) rfl
  · rcases r1 with _ | o5
    · refine x_P 26 rfl rfl rfl ?_
      exact x_lv (hj3 ()) ⟨rfl, trivial⟩
    · refine x_P 10 rfl rfl rfl ?_
      refine x_P 11 rfl rfl rfl ?_
      refine x_P 12 rfl rfl rfl ?_
      refine x_jn 33 (fun v6 => [(2, .int a2), (3, .ref o5)]) (fun v6 => []) (fun v6 => th) (fun v6 => ?_) (fun j7 hj7 => ?_)
      · refine x_P 34 rfl rfl rfl ?_
        refine x_P 35 rfl rfl rfl ?_
        refine x_callW rfl rfl rfl rfl rfl ⟨rfl, rfl⟩ (fun x h => c_156 h) (S_156 d o5 a2 th) (fun th8 hth8 => ?_)
        refine x_P 39 rfl rfl rfl ?_
        exact x_retI (x := ((Int32.ofInt 1), th8)) rfl
      · refine x_ic_eq rfl rfl (fun h12 => ?_) (fun h12 => ?_)
        · exact x_lv (hj7 ()) ⟨rfl, rfl, trivial⟩
        · refine x_P 16 rfl rfl rfl ?_
          refine x_gN rfl (fun o9 ho9 => ?_)
          refine x_P 20 rfl rfl rfl ?_
          refine x_callV rfl rfl rfl rfl rfl ⟨rfl, rfl⟩ (fun x h => c_81 h) (S_81 (d + 1) o9 a2 th) (fun x10 hx10 => ?_)
          refine x_if_ne rfl rfl (fun h11 => ?_) (fun h11 => ?_)
          · exact x_lv (hj3 ()) ⟨rfl, trivial⟩
          · exact x_lv (hj7 ()) ⟨rfl, rfl, trivial⟩
-- 85 NineTrees$Garden.isOf(II)Z
noncomputable def m_85 (a0 : Nat) (a1 : Int32) (a2 : Int32) (th : tH) : Option (Int32) :=
  (gC th 2 a0).bind fun _ =>
  (gN th 2 a0 0).bind fun o1 =>
  (aI th o1 a1).bind fun x2 =>
  jn (fun (v3 : Int32) =>
      rB v3
    ) (fun j4 =>
      jn (fun (v5 : Unit) =>
          j4 (Int32.ofInt 1)
        ) (fun j6 =>
          if x2 = a2 then
            j6 ()
          else
            if a2 = 0 then
              j6 ()
            else
              jn (fun (v7 : Unit) =>
                  jn (fun (v9 : Unit) =>
                      j4 (Int32.ofInt 0)
                    ) (fun j10 =>
                      if x2 = (Int32.ofInt 5) then
                        if a2 = (Int32.ofInt 2) then
                          j6 ()
                        else
                          j10 ()
                      else
                        j10 ()
                    )
                ) (fun j8 =>
                  if x2 = (Int32.ofInt 3) then
                    if a2 = (Int32.ofInt 1) then
                      j6 ()
                    else
                      j8 ()
                  else
                    j8 ()
                )
        )
    )
theorem c_85 {a0 : Nat} {a1 : Int32} {a2 : Int32} {th : tH} {x : (Int32)} (h : m_85 a0 a1 a2 th = some x) : ∃ fs, th[a0]? = some (.inr (2, fs)) := gC_of h
theorem S_85 {L : Nat} (d : Nat) (a0 : Nat) (a1 : Int32) (a2 : Int32) (th : tH) : Wx L (fun x => (some (.int x), th)) d 85 4 0 [(0, .ref a0), (1, .int a1), (2, .int a2)] [] th (m_85 a0 a1 a2 th) := by
  unfold m_85
  refine x_gC ?_
  refine x_P 1 rfl rfl rfl ?_
  refine x_gN rfl (fun o1 ho1 => ?_)
  refine x_P 5 rfl rfl rfl ?_
  refine x_aI rfl ⟨rfl, rfl⟩ (fun x2 hx2 => ?_)
  refine x_P (lv' := [(3, .int x2), (0, .ref a0), (1, .int a1), (2, .int a2)]) 7 rfl rfl rfl ?_
  refine x_P 8 rfl rfl rfl ?_
  refine x_P 9 rfl rfl rfl ?_
  refine x_jn 41 (fun v3 => []) (fun v3 => [.int v3]) (fun v3 => th) (fun v3 => ?_) (fun j4 hj4 => ?_)
  · exact x_rB rfl
  · refine x_jn 36 (fun v5 => []) (fun v5 => []) (fun v5 => th) (fun v5 => ?_) (fun j6 hj6 => ?_)
    · refine x_P 37 rfl rfl rfl ?_
      refine x_P 41 rfl rfl rfl ?_
      exact x_lv (hj4 (Int32.ofInt 1)) trivial
    · refine x_ic_eq rfl rfl (fun h16 => ?_) (fun h16 => ?_)
      · exact x_lv (hj6 ()) trivial
      · refine x_P 13 rfl rfl rfl ?_
        refine x_if_eq rfl rfl (fun h15 => ?_) (fun h15 => ?_)
        · exact x_lv (hj6 ()) trivial
        · refine x_P 17 rfl rfl rfl ?_
          refine x_P 18 rfl rfl rfl ?_
          refine x_jn 26 (fun v7 => [(2, .int a2), (3, .int x2)]) (fun v7 => []) (fun v7 => th) (fun v7 => ?_) (fun j8 hj8 => ?_)
          · refine x_P 27 rfl rfl rfl ?_
            refine x_P 28 rfl rfl rfl ?_
            refine x_jn 40 (fun v9 => []) (fun v9 => []) (fun v9 => th) (fun v9 => ?_) (fun j10 hj10 => ?_)
            · refine x_P 41 rfl rfl rfl ?_
              exact x_lv (hj4 (Int32.ofInt 0)) trivial
            · refine x_ic_ne rfl rfl (fun h12 => ?_) (fun h12 => ?_)
              · refine x_P 32 rfl rfl rfl ?_
                refine x_P 33 rfl rfl rfl ?_
                refine x_ic_ne rfl rfl (fun h11 => ?_) (fun h11 => ?_)
                · exact x_lv (hj6 ()) trivial
                · exact x_lv (hj10 ()) trivial
              · exact x_lv (hj10 ()) trivial
          · refine x_ic_ne rfl rfl (fun h14 => ?_) (fun h14 => ?_)
            · refine x_P 22 rfl rfl rfl ?_
              refine x_P 23 rfl rfl rfl ?_
              refine x_ic_eq rfl rfl (fun h13 => ?_) (fun h13 => ?_)
              · exact x_lv (hj6 ()) trivial
              · exact x_lv (hj8 ()) ⟨rfl, rfl, trivial⟩
            · exact x_lv (hj8 ()) ⟨rfl, rfl, trivial⟩
-- 72 NineTrees$Garden.rowOf(I)I
noncomputable def m_72 (a0 : Nat) (a1 : Int32) (th : tH) : Option (Int32) :=
  (gC th 2 a0).bind fun _ =>
  (gI th 2 a0 4).bind fun x1 =>
  jn (fun (v2 : Int32) =>
      some v2
    ) (fun j3 =>
      if (Int32.ofInt 1) ≤ x1 then
        (gI th 2 a0 4).bind fun x4 =>
        (dvI a1 x4).bind fun x5 =>
        j3 x5
      else
        j3 (Int32.ofInt 0)
    )
theorem c_72 {a0 : Nat} {a1 : Int32} {th : tH} {x : (Int32)} (h : m_72 a0 a1 th = some x) : ∃ fs, th[a0]? = some (.inr (2, fs)) := gC_of h
theorem S_72 {L : Nat} (d : Nat) (a0 : Nat) (a1 : Int32) (th : tH) : Wx L (fun x => (some (.int x), th)) d 72 2 0 [(0, .ref a0), (1, .int a1)] [] th (m_72 a0 a1 th) := by
  unfold m_72
  refine x_gC ?_
  refine x_P 1 rfl rfl rfl ?_
  refine x_gI rfl (fun x1 hx1 => ?_)
  refine x_P 5 rfl rfl rfl ?_
  refine x_jn 18 (fun v2 => []) (fun v2 => [.int v2]) (fun v2 => th) (fun v2 => ?_) (fun j3 hj3 => ?_)
  · exact x_retI (x := v2) rfl
  · refine x_ic_ge rfl rfl (fun h6 => ?_) (fun h6 => ?_)
    · refine x_P 13 rfl rfl rfl ?_
      refine x_P 14 rfl rfl rfl ?_
      refine x_gI rfl (fun x4 hx4 => ?_)
      refine x_dv rfl rfl (fun x5 hx5 => ?_)
      exact x_lv (hj3 x5) trivial
    · refine x_P 9 rfl rfl rfl ?_
      refine x_P 18 rfl rfl rfl ?_
      exact x_lv (hj3 (Int32.ofInt 0)) trivial
-- 73 NineTrees$Garden.columnOf(I)I
noncomputable def m_73 (a0 : Nat) (a1 : Int32) (th : tH) : Option (Int32) :=
  (gC th 2 a0).bind fun _ =>
  (gI th 2 a0 4).bind fun x1 =>
  jn (fun (v2 : Int32) =>
      some v2
    ) (fun j3 =>
      if (Int32.ofInt 1) ≤ x1 then
        (gI th 2 a0 4).bind fun x4 =>
        (rmI a1 x4).bind fun x5 =>
        j3 x5
      else
        j3 (Int32.ofInt 0)
    )
theorem c_73 {a0 : Nat} {a1 : Int32} {th : tH} {x : (Int32)} (h : m_73 a0 a1 th = some x) : ∃ fs, th[a0]? = some (.inr (2, fs)) := gC_of h
theorem S_73 {L : Nat} (d : Nat) (a0 : Nat) (a1 : Int32) (th : tH) : Wx L (fun x => (some (.int x), th)) d 73 2 0 [(0, .ref a0), (1, .int a1)] [] th (m_73 a0 a1 th) := by
  unfold m_73
  refine x_gC ?_
  refine x_P 1 rfl rfl rfl ?_
  refine x_gI rfl (fun x1 hx1 => ?_)
  refine x_P 5 rfl rfl rfl ?_
  refine x_jn 18 (fun v2 => []) (fun v2 => [.int v2]) (fun v2 => th) (fun v2 => ?_) (fun j3 hj3 => ?_)
  · exact x_retI (x := v2) rfl
  · refine x_ic_ge rfl rfl (fun h6 => ?_) (fun h6 => ?_)
    · refine x_P 13 rfl rfl rfl ?_
      refine x_P 14 rfl rfl rfl ?_
      refine x_gI rfl (fun x4 hx4 => ?_)
      refine x_rm rfl rfl (fun x5 hx5 => ?_)
      exact x_lv (hj3 x5) trivial
    · refine x_P 9 rfl rfl rfl ?_
      refine x_P 18 rfl rfl rfl ?_
      exact x_lv (hj3 (Int32.ofInt 0)) trivial
-- 79 NineTrees$Garden.doubleArea(III)I
noncomputable def m_79 (a0 : Nat) (a1 : Int32) (a2 : Int32) (a3 : Int32) (th : tH) : Option (Int32) :=
  (gC th 2 a0).bind fun _ =>
  (m_72 a0 a1 th).bind fun x1 =>
  (m_73 a0 a1 th).bind fun x2 =>
  (m_72 a0 a2 th).bind fun x3 =>
  (m_73 a0 a3 th).bind fun x4 =>
  (m_73 a0 a2 th).bind fun x5 =>
  (m_72 a0 a3 th).bind fun x6 =>
  some (((x3 - x1) * (x4 - x2)) - ((x5 - x2) * (x6 - x1)))
theorem c_79 {a0 : Nat} {a1 : Int32} {a2 : Int32} {a3 : Int32} {th : tH} {x : (Int32)} (h : m_79 a0 a1 a2 a3 th = some x) : ∃ fs, th[a0]? = some (.inr (2, fs)) := gC_of h
theorem S_79 {L : Nat} (d : Nat) (a0 : Nat) (a1 : Int32) (a2 : Int32) (a3 : Int32) (th : tH) : Wx L (fun x => (some (.int x), th)) (d + 1) 79 6 0 [(0, .ref a0), (1, .int a1), (2, .int a2), (3, .int a3)] [] th (m_79 a0 a1 a2 a3 th) := by
  unfold m_79
  refine x_gC ?_
  refine x_P 1 rfl rfl rfl ?_
  refine x_P 2 rfl rfl rfl ?_
  refine x_callV rfl rfl rfl rfl rfl ⟨rfl, rfl⟩ (fun x h => c_72 h) (S_72 d a0 a1 th) (fun x1 hx1 => ?_)
  refine x_P (lv' := [(4, .int x1), (0, .ref a0), (1, .int a1), (2, .int a2), (3, .int a3)]) 7 rfl rfl rfl ?_
  refine x_P 8 rfl rfl rfl ?_
  refine x_P 9 rfl rfl rfl ?_
  refine x_callV rfl rfl rfl rfl rfl ⟨rfl, rfl⟩ (fun x h => c_73 h) (S_73 d a0 a1 th) (fun x2 hx2 => ?_)
  refine x_P (lv' := [(5, .int x2), (4, .int x1), (0, .ref a0), (1, .int a1), (2, .int a2), (3, .int a3)]) 14 rfl rfl rfl ?_
  refine x_P 15 rfl rfl rfl ?_
  refine x_P 16 rfl rfl rfl ?_
  refine x_callV rfl rfl rfl rfl rfl ⟨rfl, rfl⟩ (fun x h => c_72 h) (S_72 d a0 a2 th) (fun x3 hx3 => ?_)
  refine x_P 21 rfl rfl rfl ?_
  refine x_P 22 rfl rfl rfl ?_
  refine x_P 23 rfl rfl rfl ?_
  refine x_P 24 rfl rfl rfl ?_
  refine x_callV rfl rfl rfl rfl rfl ⟨rfl, rfl⟩ (fun x h => c_73 h) (S_73 d a0 a3 th) (fun x4 hx4 => ?_)
  refine x_P 29 rfl rfl rfl ?_
  refine x_P 30 rfl rfl rfl ?_
  refine x_P 31 rfl rfl rfl ?_
  refine x_P 32 rfl rfl rfl ?_
  refine x_P 33 rfl rfl rfl ?_
  refine x_callV rfl rfl rfl rfl rfl ⟨rfl, rfl⟩ (fun x h => c_73 h) (S_73 d a0 a2 th) (fun x5 hx5 => ?_)
  refine x_P 38 rfl rfl rfl ?_
  refine x_P 39 rfl rfl rfl ?_
  refine x_P 40 rfl rfl rfl ?_
  refine x_P 41 rfl rfl rfl ?_
  refine x_callV rfl rfl rfl rfl rfl ⟨rfl, rfl⟩ (fun x h => c_72 h) (S_72 d a0 a3 th) (fun x6 hx6 => ?_)
  refine x_P 46 rfl rfl rfl ?_
  refine x_P 47 rfl rfl rfl ?_
  refine x_P 48 rfl rfl rfl ?_
  refine x_P 49 rfl rfl rfl ?_
  exact x_retI (x := (((x3 - x1) * (x4 - x2)) - ((x5 - x2) * (x6 - x1)))) rfl
-- 92 NineTrees$Garden.rowOfTwo(II)I
noncomputable def m_92 (a0 : Nat) (a1 : Int32) (a2 : Int32) (th : tH) : Option (Int32) :=
  (gC th 2 a0).bind fun _ =>
  lp (fun (s1 : Int32 × Int32) nx2 ex3 =>
      (gI th 2 a0 5).bind fun x5 =>
      if x5 ≤ s1.2 then
        ex3 s1.1
      else
        (m_85 a0 s1.2 (Int32.ofInt 4) th).bind fun x6 =>
        jn (fun (v7 : Int32) =>
            nx2 (v7, (s1.2 + Int32.ofInt 1))
          ) (fun j8 =>
            if x6 = 0 then
              (gN th 2 a0 1).bind fun o9 =>
              (aI th o9 a1).bind fun x10 =>
              (gN th 2 a0 1).bind fun o11 =>
              (aI th o11 a2).bind fun x12 =>
              (gN th 2 a0 1).bind fun o13 =>
              (aI th o13 s1.2).bind fun x14 =>
              (m_79 a0 x10 x12 x14 th).bind fun x15 =>
              if x15 = 0 then
                j8 (s1.1 ||| ((Int32.ofInt 1) <<< (s1.2 &&& 31)))
              else
                j8 s1.1
            else
              j8 s1.1
          )
    ) 4096 ((Int32.ofInt 0), (Int32.ofInt 0)) (fun (x4 : Int32) =>
      some x4
    )
theorem c_92 {a0 : Nat} {a1 : Int32} {a2 : Int32} {th : tH} {x : (Int32)} (h : m_92 a0 a1 a2 th = some x) : ∃ fs, th[a0]? = some (.inr (2, fs)) := gC_of h
theorem S_92 {L : Nat} (d : Nat) (a0 : Nat) (a1 : Int32) (a2 : Int32) (th : tH) : Wx L (fun x => (some (.int x), th)) (d + 2) 92 5 0 [(0, .ref a0), (1, .int a1), (2, .int a2)] [] th (m_92 a0 a1 a2 th) := by
  unfold m_92
  refine x_gC ?_
  refine x_P 1 rfl rfl rfl ?_
  refine x_P (lv' := [(3, .int (Int32.ofInt 0)), (0, .ref a0), (1, .int a1), (2, .int a2)]) 2 rfl rfl rfl ?_
  refine x_P 3 rfl rfl rfl ?_
  refine x_P (lv' := [(4, .int (Int32.ofInt 0)), (3, .int (Int32.ofInt 0)), (0, .ref a0), (1, .int a1), (2, .int a2)]) 5 rfl rfl rfl ?_
  refine x_lv (lv := [(0, .ref a0), (1, .int a1), (2, .int a2), (3, .int (Int32.ofInt 0)), (4, .int (Int32.ofInt 0))]) (x_lp 63 (fun s1 => [(0, .ref a0), (1, .int a1), (2, .int a2), (3, .int s1.1), (4, .int s1.2)]) (fun s1 => th) (fun x4 => [(3, .int x4)]) (fun x4 => th) (fun s1 nx2 hnx2 ex3 hex3 => ?_) (fun x4 => ?_) 4096 ((Int32.ofInt 0), (Int32.ofInt 0))) ⟨rfl, rfl, rfl, rfl, rfl, trivial⟩
  · refine x_P 7 rfl rfl rfl ?_
    refine x_P 8 rfl rfl rfl ?_
    refine x_gI rfl (fun x5 hx5 => ?_)
    refine x_ic_ge rfl rfl (fun h18 => ?_) (fun h18 => ?_)
    · exact x_lv (hex3 s1.1) ⟨rfl, trivial⟩
    · refine x_P 15 rfl rfl rfl ?_
      refine x_P 17 rfl rfl rfl ?_
      refine x_P 18 rfl rfl rfl ?_
      refine x_callV rfl rfl rfl rfl rfl ⟨rfl, rfl⟩ (fun x h => c_85 h) (S_85 (d + 1) a0 s1.2 (Int32.ofInt 4) th) (fun x6 hx6 => ?_)
      refine x_jn 57 (fun v7 => [(0, .ref a0), (1, .int a1), (2, .int a2), (3, .int v7), (4, .int s1.2)]) (fun v7 => []) (fun v7 => th) (fun v7 => ?_) (fun j8 hj8 => ?_)
      · refine x_P (lv' := [(4, .int (s1.2 + Int32.ofInt 1)), (0, .ref a0), (1, .int a1), (2, .int a2), (3, .int v7)]) 60 rfl rfl rfl ?_
        refine x_P 5 rfl rfl rfl ?_
        exact x_lv (hnx2 (v7, (s1.2 + Int32.ofInt 1))) ⟨rfl, rfl, rfl, rfl, rfl, trivial⟩
      · refine x_if_ne rfl rfl (fun h17 => ?_) (fun h17 => ?_)
        · refine x_P 25 rfl rfl rfl ?_
          refine x_P 26 rfl rfl rfl ?_
          refine x_gN rfl (fun o9 ho9 => ?_)
          refine x_P 30 rfl rfl rfl ?_
          refine x_aI rfl ⟨rfl, rfl⟩ (fun x10 hx10 => ?_)
          refine x_P 32 rfl rfl rfl ?_
          refine x_gN rfl (fun o11 ho11 => ?_)
          refine x_P 36 rfl rfl rfl ?_
          refine x_aI rfl ⟨rfl, rfl⟩ (fun x12 hx12 => ?_)
          refine x_P 38 rfl rfl rfl ?_
          refine x_gN rfl (fun o13 ho13 => ?_)
          refine x_P 43 rfl rfl rfl ?_
          refine x_aI rfl ⟨rfl, rfl⟩ (fun x14 hx14 => ?_)
          refine x_callV rfl rfl rfl rfl rfl ⟨rfl, rfl⟩ (fun x h => c_79 h) (S_79 d a0 x10 x12 x14 th) (fun x15 hx15 => ?_)
          refine x_if_ne rfl rfl (fun h16 => ?_) (fun h16 => ?_)
          · refine x_P 51 rfl rfl rfl ?_
            refine x_P 52 rfl rfl rfl ?_
            refine x_P 54 rfl rfl rfl ?_
            refine x_P 55 rfl rfl rfl ?_
            refine x_P 56 rfl rfl rfl ?_
            refine x_P (lv' := [(3, .int (s1.1 ||| ((Int32.ofInt 1) <<< (s1.2 &&& 31)))), (0, .ref a0), (1, .int a1), (2, .int a2), (4, .int s1.2)]) 57 rfl rfl rfl ?_
            exact x_lv (hj8 (s1.1 ||| ((Int32.ofInt 1) <<< (s1.2 &&& 31)))) ⟨rfl, rfl, rfl, rfl, rfl, trivial⟩
          · exact x_lv (hj8 s1.1) ⟨rfl, rfl, rfl, rfl, rfl, trivial⟩
        · exact x_lv (hj8 s1.1) ⟨rfl, rfl, rfl, rfl, rfl, trivial⟩
  · refine x_P 64 rfl rfl rfl ?_
    exact x_retI (x := x4) rfl
-- 172 java/lang/Integer.numberOfTrailingZeros(I)I
noncomputable def m_172 (a0 : Int32) (th : tH) : Option (Int32) :=
  if 0 < ((a0 ^^^ (Int32.ofInt (-1))) &&& (a0 - (Int32.ofInt 1))) then
    jn (fun (v1 : Int32 × Int32) =>
        jn (fun (v3 : Int32 × Int32) =>
            jn (fun (v5 : Int32 × Int32) =>
                jn (fun (v7 : Int32 × Int32) =>
                    some (v7.2 + (Int32.toUInt32 v7.1 >>> (Int32.toUInt32 (Int32.ofInt 1) &&& Int32.toUInt32 31)).toInt32)
                  ) (fun j8 =>
                    if v5.1 ≤ (Int32.ofInt 4) then
                      j8 (v5.1, v5.2)
                    else
                      j8 ((Int32.toUInt32 v5.1 >>> (Int32.toUInt32 (Int32.ofInt 2) &&& Int32.toUInt32 31)).toInt32, (v5.2 + Int32.ofInt 2))
                  )
              ) (fun j6 =>
                if v3.1 ≤ (Int8.ofInt 16).toInt32 then
                  j6 (v3.1, v3.2)
                else
                  j6 ((Int32.toUInt32 v3.1 >>> (Int32.toUInt32 (Int32.ofInt 4) &&& Int32.toUInt32 31)).toInt32, (v3.2 + Int32.ofInt 4))
              )
          ) (fun j4 =>
            if v1.1 ≤ (Int16.ofInt 256).toInt32 then
              j4 (v1.1, v1.2)
            else
              j4 ((Int32.toUInt32 v1.1 >>> (Int32.toUInt32 (Int8.ofInt 8).toInt32 &&& Int32.toUInt32 31)).toInt32, (v1.2 + Int32.ofInt 8))
          )
      ) (fun j2 =>
        if ((a0 ^^^ (Int32.ofInt (-1))) &&& (a0 - (Int32.ofInt 1))) ≤ (Int32.ofNat 65536) then
          j2 (((a0 ^^^ (Int32.ofInt (-1))) &&& (a0 - (Int32.ofInt 1))), (Int32.ofInt 1))
        else
          j2 ((Int32.toUInt32 ((a0 ^^^ (Int32.ofInt (-1))) &&& (a0 - (Int32.ofInt 1))) >>> (Int32.toUInt32 (Int8.ofInt 16).toInt32 &&& Int32.toUInt32 31)).toInt32, ((Int32.ofInt 1) + Int32.ofInt 16))
      )
  else
    some (((a0 ^^^ (Int32.ofInt (-1))) &&& (a0 - (Int32.ofInt 1))) &&& (Int8.ofInt 32).toInt32)
theorem S_172 {L : Nat} (d : Nat) (a0 : Int32) (th : tH) : Wx L (fun x => (some (.int x), th)) d 172 2 0 [(0, .int a0)] [] th (m_172 a0 th) := by
  unfold m_172
  refine x_P 1 rfl rfl rfl ?_
  refine x_P 2 rfl rfl rfl ?_
  refine x_P 3 rfl rfl rfl ?_
  refine x_P 4 rfl rfl rfl ?_
  refine x_P 5 rfl rfl rfl ?_
  refine x_P 6 rfl rfl rfl ?_
  refine x_P 7 rfl rfl rfl ?_
  refine x_P (lv' := [(0, .int ((a0 ^^^ (Int32.ofInt (-1))) &&& (a0 - (Int32.ofInt 1))))]) 8 rfl rfl rfl ?_
  refine x_P 9 rfl rfl rfl ?_
  refine x_if_gt rfl rfl (fun h13 => ?_) (fun h13 => ?_)
  · refine x_P 18 rfl rfl rfl ?_
    refine x_P (lv' := [(1, .int (Int32.ofInt 1)), (0, .int ((a0 ^^^ (Int32.ofInt (-1))) &&& (a0 - (Int32.ofInt 1))))]) 19 rfl rfl rfl ?_
    refine x_P 20 rfl rfl rfl ?_
    refine x_P 23 rfl rfl rfl ?_
    refine x_jn 34 (fun v1 => [(0, .int v1.1), (1, .int v1.2)]) (fun v1 => []) (fun v1 => th) (fun v1 => ?_) (fun j2 hj2 => ?_)
    · refine x_P 35 rfl rfl rfl ?_
      refine x_P 38 rfl rfl rfl ?_
      refine x_jn 49 (fun v3 => [(0, .int v3.1), (1, .int v3.2)]) (fun v3 => []) (fun v3 => th) (fun v3 => ?_) (fun j4 hj4 => ?_)
      · refine x_P 50 rfl rfl rfl ?_
        refine x_P 52 rfl rfl rfl ?_
        refine x_jn 62 (fun v5 => [(0, .int v5.1), (1, .int v5.2)]) (fun v5 => []) (fun v5 => th) (fun v5 => ?_) (fun j6 hj6 => ?_)
        · refine x_P 63 rfl rfl rfl ?_
          refine x_P 64 rfl rfl rfl ?_
          refine x_jn 74 (fun v7 => [(0, .int v7.1), (1, .int v7.2)]) (fun v7 => []) (fun v7 => th) (fun v7 => ?_) (fun j8 hj8 => ?_)
          · refine x_P 75 rfl rfl rfl ?_
            refine x_P 76 rfl rfl rfl ?_
            refine x_P 77 rfl rfl rfl ?_
            refine x_P 78 rfl rfl rfl ?_
            refine x_P 79 rfl rfl rfl ?_
            exact x_retI (x := (v7.2 + (Int32.toUInt32 v7.1 >>> (Int32.toUInt32 (Int32.ofInt 1) &&& Int32.toUInt32 31)).toInt32)) rfl
          · refine x_ic_le rfl rfl (fun h9 => ?_) (fun h9 => ?_)
            · exact x_lv (hj8 (v5.1, v5.2)) ⟨rfl, rfl, trivial⟩
            · refine x_P (lv' := [(1, .int (v5.2 + Int32.ofInt 2)), (0, .int v5.1)]) 70 rfl rfl rfl ?_
              refine x_P 71 rfl rfl rfl ?_
              refine x_P 72 rfl rfl rfl ?_
              refine x_P 73 rfl rfl rfl ?_
              refine x_P (lv' := [(0, .int (Int32.toUInt32 v5.1 >>> (Int32.toUInt32 (Int32.ofInt 2) &&& Int32.toUInt32 31)).toInt32), (1, .int (v5.2 + Int32.ofInt 2))]) 74 rfl rfl rfl ?_
              exact x_lv (hj8 ((Int32.toUInt32 v5.1 >>> (Int32.toUInt32 (Int32.ofInt 2) &&& Int32.toUInt32 31)).toInt32, (v5.2 + Int32.ofInt 2))) ⟨rfl, rfl, trivial⟩
        · refine x_ic_le rfl rfl (fun h10 => ?_) (fun h10 => ?_)
          · exact x_lv (hj6 (v3.1, v3.2)) ⟨rfl, rfl, trivial⟩
          · refine x_P (lv' := [(1, .int (v3.2 + Int32.ofInt 4)), (0, .int v3.1)]) 58 rfl rfl rfl ?_
            refine x_P 59 rfl rfl rfl ?_
            refine x_P 60 rfl rfl rfl ?_
            refine x_P 61 rfl rfl rfl ?_
            refine x_P (lv' := [(0, .int (Int32.toUInt32 v3.1 >>> (Int32.toUInt32 (Int32.ofInt 4) &&& Int32.toUInt32 31)).toInt32), (1, .int (v3.2 + Int32.ofInt 4))]) 62 rfl rfl rfl ?_
            exact x_lv (hj6 ((Int32.toUInt32 v3.1 >>> (Int32.toUInt32 (Int32.ofInt 4) &&& Int32.toUInt32 31)).toInt32, (v3.2 + Int32.ofInt 4))) ⟨rfl, rfl, trivial⟩
      · refine x_ic_le rfl rfl (fun h11 => ?_) (fun h11 => ?_)
        · exact x_lv (hj4 (v1.1, v1.2)) ⟨rfl, rfl, trivial⟩
        · refine x_P (lv' := [(1, .int (v1.2 + Int32.ofInt 8)), (0, .int v1.1)]) 44 rfl rfl rfl ?_
          refine x_P 45 rfl rfl rfl ?_
          refine x_P 47 rfl rfl rfl ?_
          refine x_P 48 rfl rfl rfl ?_
          refine x_P (lv' := [(0, .int (Int32.toUInt32 v1.1 >>> (Int32.toUInt32 (Int8.ofInt 8).toInt32 &&& Int32.toUInt32 31)).toInt32), (1, .int (v1.2 + Int32.ofInt 8))]) 49 rfl rfl rfl ?_
          exact x_lv (hj4 ((Int32.toUInt32 v1.1 >>> (Int32.toUInt32 (Int8.ofInt 8).toInt32 &&& Int32.toUInt32 31)).toInt32, (v1.2 + Int32.ofInt 8))) ⟨rfl, rfl, trivial⟩
    · refine x_ic_le rfl rfl (fun h12 => ?_) (fun h12 => ?_)
      · exact x_lv (hj2 (((a0 ^^^ (Int32.ofInt (-1))) &&& (a0 - (Int32.ofInt 1))), (Int32.ofInt 1))) ⟨rfl, rfl, trivial⟩
      · refine x_P (lv' := [(1, .int ((Int32.ofInt 1) + Int32.ofInt 16)), (0, .int ((a0 ^^^ (Int32.ofInt (-1))) &&& (a0 - (Int32.ofInt 1))))]) 29 rfl rfl rfl ?_
        refine x_P 30 rfl rfl rfl ?_
        refine x_P 32 rfl rfl rfl ?_
        refine x_P 33 rfl rfl rfl ?_
        refine x_P (lv' := [(0, .int (Int32.toUInt32 ((a0 ^^^ (Int32.ofInt (-1))) &&& (a0 - (Int32.ofInt 1))) >>> (Int32.toUInt32 (Int8.ofInt 16).toInt32 &&& Int32.toUInt32 31)).toInt32), (1, .int ((Int32.ofInt 1) + Int32.ofInt 16))]) 34 rfl rfl rfl ?_
        exact x_lv (hj2 ((Int32.toUInt32 ((a0 ^^^ (Int32.ofInt (-1))) &&& (a0 - (Int32.ofInt 1))) >>> (Int32.toUInt32 (Int8.ofInt 16).toInt32 &&& Int32.toUInt32 31)).toInt32, ((Int32.ofInt 1) + Int32.ofInt 16))) ⟨rfl, rfl, trivial⟩
  · refine x_P 13 rfl rfl rfl ?_
    refine x_P 15 rfl rfl rfl ?_
    refine x_P 16 rfl rfl rfl ?_
    exact x_retI (x := (((a0 ^^^ (Int32.ofInt (-1))) &&& (a0 - (Int32.ofInt 1))) &&& (Int8.ofInt 32).toInt32)) rfl
-- 65 NineTrees.firstOf(I)I
noncomputable def m_65 (a0 : Int32) (th : tH) : Option (Int32) :=
  (m_172 a0 th).bind fun x1 =>
  some x1
theorem S_65 {L : Nat} (d : Nat) (a0 : Int32) (th : tH) : Wx L (fun x => (some (.int x), th)) (d + 1) 65 1 0 [(0, .int a0)] [] th (m_65 a0 th) := by
  unfold m_65
  refine x_P 1 rfl rfl rfl ?_
  refine x_callS rfl rfl rfl rfl rfl rfl ⟨rfl, rfl⟩ (S_172 d a0 th) (fun x1 hx1 => ?_)
  exact x_retI (x := x1) rfl
-- 66 NineTrees.secondOf(I)I
noncomputable def m_66 (a0 : Int32) (th : tH) : Option (Int32) :=
  (m_172 (a0 &&& (a0 - (Int32.ofInt 1))) th).bind fun x1 =>
  some x1
theorem S_66 {L : Nat} (d : Nat) (a0 : Int32) (th : tH) : Wx L (fun x => (some (.int x), th)) (d + 1) 66 1 0 [(0, .int a0)] [] th (m_66 a0 th) := by
  unfold m_66
  refine x_P 1 rfl rfl rfl ?_
  refine x_P 2 rfl rfl rfl ?_
  refine x_P 3 rfl rfl rfl ?_
  refine x_P 4 rfl rfl rfl ?_
  refine x_P 5 rfl rfl rfl ?_
  refine x_callS rfl rfl rfl rfl rfl rfl ⟨rfl, rfl⟩ (S_172 d (a0 &&& (a0 - (Int32.ofInt 1))) th) (fun x1 hx1 => ?_)
  exact x_retI (x := x1) rfl
-- 104 NineTrees$RowList.insert(I)V
noncomputable def m_104 (a0 : Nat) (a1 : Int32) (th : tH) : Option tH :=
  (gC th 4 a0).bind fun _ =>
  (gI th 4 a0 1).bind fun x1 =>
  (gN th 4 a0 0).bind fun o2 =>
  (aL th o2).bind fun x3 =>
  if x1 < x3 then
    (gI th 4 a0 1).bind fun x4 =>
    lp (fun (s5 : Int32 × tH) nx6 ex7 =>
        if s5.1 ≤ 0 then
          ex7 (s5.1, s5.2)
        else
          (gN s5.2 4 a0 0).bind fun o13 =>
          (aI s5.2 o13 (s5.1 - (Int32.ofInt 1))).bind fun x14 =>
          if x14 ≤ a1 then
            ex7 (s5.1, s5.2)
          else
            (gN s5.2 4 a0 0).bind fun o15 =>
            (gN s5.2 4 a0 0).bind fun o16 =>
            (aI s5.2 o16 (s5.1 - (Int32.ofInt 1))).bind fun x17 =>
            (sI s5.2 o15 s5.1 x17).bind fun th18 =>
            nx6 ((s5.1 + Int32.ofInt (-1)), th18)
      ) 4096 (x4, th) (fun (x8 : Int32 × tH) =>
        (gN x8.2 4 a0 0).bind fun o9 =>
        (sI x8.2 o9 x8.1 a1).bind fun th10 =>
        (gI th10 4 a0 1).bind fun x11 =>
        (pI th10 4 a0 1 (x11 + (Int32.ofInt 1))).bind fun th12 =>
        some th12
      )
  else
    some th
theorem c_104 {a0 : Nat} {a1 : Int32} {th : tH} {x : tH} (h : m_104 a0 a1 th = some x) : ∃ fs, th[a0]? = some (.inr (4, fs)) := gC_of h
theorem S_104 {L : Nat} (d : Nat) (a0 : Nat) (a1 : Int32) (th : tH) : Wx L (fun x => (none, x)) (d + 1) 104 3 0 [(0, .ref a0), (1, .int a1)] [] th (m_104 a0 a1 th) := by
  unfold m_104
  refine x_gC ?_
  refine x_P 1 rfl rfl rfl ?_
  refine x_gI rfl (fun x1 hx1 => ?_)
  refine x_P 5 rfl rfl rfl ?_
  refine x_gN rfl (fun o2 ho2 => ?_)
  refine x_aL rfl ⟨rfl, rfl⟩ (fun x3 hx3 => ?_)
  refine x_ic_lt rfl rfl (fun h21 => ?_) (fun h21 => ?_)
  · refine x_P 14 rfl rfl rfl ?_
    refine x_gI rfl (fun x4 hx4 => ?_)
    refine x_P (lv' := [(2, .int x4), (0, .ref a0), (1, .int a1)]) 18 rfl rfl rfl ?_
    refine x_lv (lv := [(0, .ref a0), (1, .int a1), (2, .int x4)]) (x_lp 54 (fun s5 => [(0, .ref a0), (1, .int a1), (2, .int s5.1)]) (fun s5 => s5.2) (fun x8 => [(0, .ref a0), (1, .int a1), (2, .int x8.1)]) (fun x8 => x8.2) (fun s5 nx6 hnx6 ex7 hex7 => ?_) (fun x8 => ?_) 4096 (x4, th)) ⟨rfl, rfl, rfl, trivial⟩
    · refine x_P 19 rfl rfl rfl ?_
      refine x_if_le rfl rfl (fun h20 => ?_) (fun h20 => ?_)
      · exact x_lv (hex7 (s5.1, s5.2)) ⟨rfl, rfl, rfl, trivial⟩
      · refine x_P 23 rfl rfl rfl ?_
        refine x_gN rfl (fun o13 ho13 => ?_)
        refine x_P 27 rfl rfl rfl ?_
        refine x_P 28 rfl rfl rfl ?_
        refine x_P 29 rfl rfl rfl ?_
        refine x_aI rfl ⟨rfl, rfl⟩ (fun x14 hx14 => ?_)
        refine x_P 31 rfl rfl rfl ?_
        refine x_ic_le rfl rfl (fun h19 => ?_) (fun h19 => ?_)
        · exact x_lv (hex7 (s5.1, s5.2)) ⟨rfl, rfl, rfl, trivial⟩
        · refine x_P 35 rfl rfl rfl ?_
          refine x_gN rfl (fun o15 ho15 => ?_)
          refine x_P 39 rfl rfl rfl ?_
          refine x_P 40 rfl rfl rfl ?_
          refine x_gN rfl (fun o16 ho16 => ?_)
          refine x_P 44 rfl rfl rfl ?_
          refine x_P 45 rfl rfl rfl ?_
          refine x_P 46 rfl rfl rfl ?_
          refine x_aI rfl ⟨rfl, rfl⟩ (fun x17 hx17 => ?_)
          refine x_sI rfl ⟨rfl, rfl⟩ (fun th18 hth18 => ?_)
          refine x_P (lv' := [(2, .int (s5.1 + Int32.ofInt (-1))), (0, .ref a0), (1, .int a1)]) 51 rfl rfl rfl ?_
          refine x_P 18 rfl rfl rfl ?_
          exact x_lv (hnx6 ((s5.1 + Int32.ofInt (-1)), th18)) ⟨rfl, rfl, rfl, trivial⟩
    · refine x_P 55 rfl rfl rfl ?_
      refine x_gN rfl (fun o9 ho9 => ?_)
      refine x_P 59 rfl rfl rfl ?_
      refine x_P 60 rfl rfl rfl ?_
      refine x_sI rfl ⟨rfl, rfl⟩ (fun th10 hth10 => ?_)
      refine x_P 62 rfl rfl rfl ?_
      refine x_P 63 rfl rfl rfl ?_
      refine x_gI rfl (fun x11 hx11 => ?_)
      refine x_P 67 rfl rfl rfl ?_
      refine x_P 68 rfl rfl rfl ?_
      refine x_pI rfl (fun th12 hth12 => ?_)
      exact x_retV (x := th12) rfl
  · exact x_retV (x := th) rfl
-- 103 NineTrees$RowList.gather(LNineTrees$Garden;)V
noncomputable def m_103 (a0 : Nat) (a1 : Nat) (th : tH) : Option tH :=
  (gC th 4 a0).bind fun _ =>
  (pI th 4 a0 1 (Int32.ofInt 0)).bind fun th1 =>
  lp (fun (s2 : Int32 × tH) nx3 ex4 =>
      (gI s2.2 2 a1 5).bind fun x6 =>
      if x6 ≤ s2.1 then
        ex4 s2.2
      else
        lp (fun (s7 : Int32 × tH) nx8 ex9 =>
            (gI s7.2 2 a1 5).bind fun x11 =>
            if x11 ≤ s7.1 then
              ex9 s7.2
            else
              (m_92 a1 s2.1 s7.1 s7.2).bind fun x12 =>
              (m_65 x12 s7.2).bind fun x13 =>
              jn (fun (v14 : tH) =>
                  nx8 ((s7.1 + Int32.ofInt 1), v14)
                ) (fun j15 =>
                  if x13 = s2.1 then
                    (m_66 x12 s7.2).bind fun x16 =>
                    if x16 = s7.1 then
                      (m_104 a0 x12 s7.2).bind fun th17 =>
                      j15 th17
                    else
                      j15 s7.2
                  else
                    j15 s7.2
                )
          ) 4096 ((s2.1 + (Int32.ofInt 1)), s2.2) (fun (x10 : tH) =>
            nx3 ((s2.1 + Int32.ofInt 1), x10)
          )
    ) 4096 ((Int32.ofInt 0), th1) (fun (x5 : tH) =>
      some x5
    )
theorem c_103 {a0 : Nat} {a1 : Nat} {th : tH} {x : tH} (h : m_103 a0 a1 th = some x) : ∃ fs, th[a0]? = some (.inr (4, fs)) := gC_of h
theorem S_103 {L : Nat} (d : Nat) (a0 : Nat) (a1 : Nat) (th : tH) : Wx L (fun x => (none, x)) (d + 3) 103 5 0 [(0, .ref a0), (1, .ref a1)] [] th (m_103 a0 a1 th) := by
  unfold m_103
  refine x_gC ?_
  refine x_P 1 rfl rfl rfl ?_
  refine x_P 2 rfl rfl rfl ?_
  refine x_pI rfl (fun th1 hth1 => ?_)
  refine x_P 6 rfl rfl rfl ?_
  refine x_P (lv' := [(2, .int (Int32.ofInt 0)), (0, .ref a0), (1, .ref a1)]) 7 rfl rfl rfl ?_
  refine x_lv (lv := [(0, .ref a0), (1, .ref a1), (2, .int (Int32.ofInt 0))]) (x_lp 71 (fun s2 => [(0, .ref a0), (1, .ref a1), (2, .int s2.1)]) (fun s2 => s2.2) (fun x5 => []) (fun x5 => x5) (fun s2 nx3 hnx3 ex4 hex4 => ?_) (fun x5 => ?_) 4096 ((Int32.ofInt 0), th1)) ⟨rfl, rfl, rfl, trivial⟩
  · refine x_P 8 rfl rfl rfl ?_
    refine x_P 9 rfl rfl rfl ?_
    refine x_gI rfl (fun x6 hx6 => ?_)
    refine x_ic_ge rfl rfl (fun h21 => ?_) (fun h21 => ?_)
    · exact x_lv (hex4 s2.2) trivial
    · refine x_P 16 rfl rfl rfl ?_
      refine x_P 17 rfl rfl rfl ?_
      refine x_P 18 rfl rfl rfl ?_
      refine x_P (lv' := [(3, .int (s2.1 + (Int32.ofInt 1))), (0, .ref a0), (1, .ref a1), (2, .int s2.1)]) 19 rfl rfl rfl ?_
      refine x_lv (lv := [(0, .ref a0), (1, .ref a1), (2, .int s2.1), (3, .int (s2.1 + (Int32.ofInt 1)))]) (x_lp 65 (fun s7 => [(0, .ref a0), (1, .ref a1), (2, .int s2.1), (3, .int s7.1)]) (fun s7 => s7.2) (fun x10 => [(0, .ref a0), (1, .ref a1), (2, .int s2.1)]) (fun x10 => x10) (fun s7 nx8 hnx8 ex9 hex9 => ?_) (fun x10 => ?_) 4096 ((s2.1 + (Int32.ofInt 1)), s2.2)) ⟨rfl, rfl, rfl, rfl, trivial⟩
      · refine x_P 20 rfl rfl rfl ?_
        refine x_P 21 rfl rfl rfl ?_
        refine x_gI rfl (fun x11 hx11 => ?_)
        refine x_ic_ge rfl rfl (fun h20 => ?_) (fun h20 => ?_)
        · exact x_lv (hex9 s7.2) ⟨rfl, rfl, rfl, trivial⟩
        · refine x_P 28 rfl rfl rfl ?_
          refine x_P 29 rfl rfl rfl ?_
          refine x_P 30 rfl rfl rfl ?_
          refine x_callV rfl rfl rfl rfl rfl ⟨rfl, rfl⟩ (fun x h => c_92 h) (S_92 d a1 s2.1 s7.1 s7.2) (fun x12 hx12 => ?_)
          refine x_P (lv' := [(4, .int x12), (0, .ref a0), (1, .ref a1), (2, .int s2.1), (3, .int s7.1)]) 35 rfl rfl rfl ?_
          refine x_P 37 rfl rfl rfl ?_
          refine x_callS rfl rfl rfl rfl rfl rfl ⟨rfl, rfl⟩ (S_65 (d + 1) x12 s7.2) (fun x13 hx13 => ?_)
          refine x_P 41 rfl rfl rfl ?_
          refine x_jn 59 (fun v14 => [(0, .ref a0), (1, .ref a1), (2, .int s2.1), (3, .int s7.1)]) (fun v14 => []) (fun v14 => v14) (fun v14 => ?_) (fun j15 hj15 => ?_)
          · refine x_P (lv' := [(3, .int (s7.1 + Int32.ofInt 1)), (0, .ref a0), (1, .ref a1), (2, .int s2.1)]) 62 rfl rfl rfl ?_
            refine x_P 19 rfl rfl rfl ?_
            exact x_lv (hnx8 ((s7.1 + Int32.ofInt 1), v14)) ⟨rfl, rfl, rfl, rfl, trivial⟩
          · refine x_ic_ne rfl rfl (fun h19 => ?_) (fun h19 => ?_)
            · refine x_P 46 rfl rfl rfl ?_
              refine x_callS rfl rfl rfl rfl rfl rfl ⟨rfl, rfl⟩ (S_66 (d + 1) x12 s7.2) (fun x16 hx16 => ?_)
              refine x_P 50 rfl rfl rfl ?_
              refine x_ic_ne rfl rfl (fun h18 => ?_) (fun h18 => ?_)
              · refine x_P 54 rfl rfl rfl ?_
                refine x_P 56 rfl rfl rfl ?_
                refine x_callW rfl rfl rfl rfl rfl ⟨rfl, rfl⟩ (fun x h => c_104 h) (S_104 (d + 1) a0 x12 s7.2) (fun th17 hth17 => ?_)
                exact x_lv (hj15 th17) ⟨rfl, rfl, rfl, rfl, trivial⟩
              · exact x_lv (hj15 s7.2) ⟨rfl, rfl, rfl, rfl, trivial⟩
            · exact x_lv (hj15 s7.2) ⟨rfl, rfl, rfl, rfl, trivial⟩
      · refine x_P (lv' := [(2, .int (s2.1 + Int32.ofInt 1)), (0, .ref a0), (1, .ref a1)]) 68 rfl rfl rfl ?_
        refine x_P 7 rfl rfl rfl ?_
        exact x_lv (hnx3 ((s2.1 + Int32.ofInt 1), x10)) ⟨rfl, rfl, rfl, trivial⟩
  · exact x_retV (x := x5) rfl
-- 63 NineTrees.allRows()LNineTrees$RowList;
noncomputable def m_63 (a0 : Nat) (th : tH) : Option (Nat × tH) :=
  (gC th 7 a0).bind fun _ =>
  (gN th 7 a0 3).bind fun o1 =>
  (gN th 7 a0 0).bind fun o2 =>
  (m_103 o1 o2 th).bind fun th3 =>
  (gN th3 7 a0 3).bind fun o4 =>
  some (o4, th3)
theorem c_63 {a0 : Nat} {th : tH} {x : (Nat × tH)} (h : m_63 a0 th = some x) : ∃ fs, th[a0]? = some (.inr (7, fs)) := gC_of h
theorem S_63 {L : Nat} (d : Nat) (a0 : Nat) (th : tH) : Wx L (fun x => (some (.ref x.1), x.2)) (d + 4) 63 1 0 [(0, .ref a0)] [] th (m_63 a0 th) := by
  unfold m_63
  refine x_gC ?_
  refine x_P 1 rfl rfl rfl ?_
  refine x_gN rfl (fun o1 ho1 => ?_)
  refine x_P 5 rfl rfl rfl ?_
  refine x_gN rfl (fun o2 ho2 => ?_)
  refine x_callW rfl rfl rfl rfl rfl ⟨rfl, rfl⟩ (fun x h => c_103 h) (S_103 d o1 o2 th) (fun th3 hth3 => ?_)
  refine x_P 12 rfl rfl rfl ?_
  refine x_gN rfl (fun o4 ho4 => ?_)
  exact x_retN (x := (o4, th3)) rfl rfl
