section
/-! ===== programs ===== -/
-- 60 NineTrees.shelfOf(I)LNineTrees$Shelf;
noncomputable def m_60 (a0 : Nat) (a1 : Int32) (th : tH) : Option (Option Nat) :=
  (gC th 7 a0).bind fun _ =>
  jn (fun (v1 : Option Nat) =>
      some v1
    ) (fun j2 =>
      jn (fun (v3 : Unit) =>
          j2 none
        ) (fun j4 =>
          if a1 < 0 then
            j4 ()
          else
            (gN th 7 a0 8).bind fun o5 =>
            (aL th o5).bind fun x6 =>
            if a1 < x6 then
              (gN th 7 a0 8).bind fun o7 =>
              (aN th o7 a1).bind fun o8 =>
              j2 (some o8)
            else
              j4 ()
        )
    )
theorem c_60 {a0 : Nat} {a1 : Int32} {th : tH} {x : (Option Nat)} (h : m_60 a0 a1 th = some x) : ∃ fs, th[a0]? = some (.inr (7, fs)) := gC_of h
theorem S_60 {L : Nat} (d : Nat) (a0 : Nat) (a1 : Int32) (th : tH) : Wx L (fun x => (some (va_rf x), th)) d 60 2 0 [(0, .ref a0), (1, .int a1)] [] th (m_60 a0 a1 th) := by
  unfold m_60
  refine x_gC ?_
  refine x_P 1 rfl rfl rfl ?_
  refine x_jn 23 (fun v1 => []) (fun v1 => [va_rf v1]) (fun v1 => th) (fun v1 => ?_) (fun j2 hj2 => ?_)
  · exact x_retR (x := v1) rfl
  · refine x_jn 13 (fun v3 => []) (fun v3 => []) (fun v3 => th) (fun v3 => ?_) (fun j4 hj4 => ?_)
    · refine x_P 14 rfl rfl rfl ?_
      refine x_P 23 rfl rfl rfl ?_
      exact x_lv (hj2 none) trivial
    · refine x_if_lt rfl rfl (fun h10 => ?_) (fun h10 => ?_)
      · exact x_lv (hj4 ()) trivial
      · refine x_P 5 rfl rfl rfl ?_
        refine x_P 6 rfl rfl rfl ?_
        refine x_gN rfl (fun o5 ho5 => ?_)
        refine x_aL rfl ⟨rfl, rfl⟩ (fun x6 hx6 => ?_)
        refine x_ic_lt rfl rfl (fun h9 => ?_) (fun h9 => ?_)
        · refine x_P 18 rfl rfl rfl ?_
          refine x_gN rfl (fun o7 ho7 => ?_)
          refine x_P 22 rfl rfl rfl ?_
          refine x_aN rfl ⟨rfl, rfl⟩ (fun o8 ho8 => ?_)
          exact x_lv (hj2 (some o8)) trivial
        · exact x_lv (hj4 ()) trivial
-- 59 NineTrees.refuse(I)I
noncomputable def m_59 (a0 : Nat) (a1 : Int32) (th : tH) : Option (Int32 × tH) :=
  (gC th 7 a0).bind fun _ =>
  jn (fun (v1 : tH) =>
      some (a1, v1)
    ) (fun j2 =>
      if ((Int8.ofInt (-2)).toInt32 - a1) < 0 then
        j2 th
      else
        (gN th 7 a0 9).bind fun o3 =>
        (aL th o3).bind fun x4 =>
        if x4 ≤ ((Int8.ofInt (-2)).toInt32 - a1) then
          j2 th
        else
          (gN th 7 a0 9).bind fun o5 =>
          (aI th o5 ((Int8.ofInt (-2)).toInt32 - a1)).bind fun x6 =>
          (sI th o5 ((Int8.ofInt (-2)).toInt32 - a1) (x6 + (Int32.ofInt 1))).bind fun th7 =>
          j2 th7
    )
theorem c_59 {a0 : Nat} {a1 : Int32} {th : tH} {x : (Int32 × tH)} (h : m_59 a0 a1 th = some x) : ∃ fs, th[a0]? = some (.inr (7, fs)) := gC_of h
theorem S_59 {L : Nat} (d : Nat) (a0 : Nat) (a1 : Int32) (th : tH) : Wx L (fun x => (some (.int x.1), x.2)) (d + 1) 59 3 0 [(0, .ref a0), (1, .int a1)] [] th (m_59 a0 a1 th) := by
  unfold m_59
  refine x_gC ?_
  refine x_P 2 rfl rfl rfl ?_
  refine x_P 3 rfl rfl rfl ?_
  refine x_P 4 rfl rfl rfl ?_
  refine x_P (lv' := [(2, .int ((Int8.ofInt (-2)).toInt32 - a1)), (0, .ref a0), (1, .int a1)]) 5 rfl rfl rfl ?_
  refine x_P 6 rfl rfl rfl ?_
  refine x_jn 28 (fun v1 => [(1, .int a1)]) (fun v1 => []) (fun v1 => v1) (fun v1 => ?_) (fun j2 hj2 => ?_)
  · refine x_P 29 rfl rfl rfl ?_
    exact x_retI (x := (a1, v1)) rfl
  · refine x_if_lt rfl rfl (fun h9 => ?_) (fun h9 => ?_)
    · exact x_lv (hj2 th) ⟨rfl, trivial⟩
    · refine x_P 10 rfl rfl rfl ?_
      refine x_P 11 rfl rfl rfl ?_
      refine x_gN rfl (fun o3 ho3 => ?_)
      refine x_aL rfl ⟨rfl, rfl⟩ (fun x4 hx4 => ?_)
      refine x_ic_ge rfl rfl (fun h8 => ?_) (fun h8 => ?_)
      · exact x_lv (hj2 th) ⟨rfl, trivial⟩
      · refine x_P 19 rfl rfl rfl ?_
        refine x_gN rfl (fun o5 ho5 => ?_)
        refine x_P 23 rfl rfl rfl ?_
        refine x_P 24 rfl rfl rfl ?_
        refine x_aI rfl ⟨rfl, rfl⟩ (fun x6 hx6 => ?_)
        refine x_P 26 rfl rfl rfl ?_
        refine x_P 27 rfl rfl rfl ?_
        refine x_sI rfl ⟨rfl, rfl⟩ (fun th7 hth7 => ?_)
        exact x_lv (hj2 th7) ⟨rfl, trivial⟩
-- 155 NineTrees$Shelf.takeRow(II)V
noncomputable def m_155 (a0 : Nat) (a1 : Int32) (a2 : Int32) (th : tH) : Option tH :=
  (gC th 5 a0).bind fun _ =>
  (pI th 5 a0 1 a1).bind fun th1 =>
  (pI th1 5 a0 2 a2).bind fun th2 =>
  (pI th2 5 a0 3 (Int32.ofInt (-1))).bind fun th3 =>
  lp (fun (s4 : Int32 × tH) nx5 ex6 =>
      (gN s4.2 5 a0 0).bind fun o8 =>
      (aL s4.2 o8).bind fun x9 =>
      if x9 ≤ s4.1 then
        ex6 s4.2
      else
        (gN s4.2 5 a0 0).bind fun o10 =>
        (sJ s4.2 o10 s4.1 (Int64.ofNat 0)).bind fun th11 =>
        nx5 ((s4.1 + Int32.ofInt 1), th11)
    ) 4096 ((Int32.ofInt 0), th3) (fun (x7 : tH) =>
      some x7
    )
theorem c_155 {a0 : Nat} {a1 : Int32} {a2 : Int32} {th : tH} {x : tH} (h : m_155 a0 a1 a2 th = some x) : ∃ fs, th[a0]? = some (.inr (5, fs)) := gC_of h
theorem S_155 {L : Nat} (d : Nat) (a0 : Nat) (a1 : Int32) (a2 : Int32) (th : tH) : Wx L (fun x => (none, x)) (d + 1) 155 4 0 [(0, .ref a0), (1, .int a1), (2, .int a2)] [] th (m_155 a0 a1 a2 th) := by
  unfold m_155
  refine x_gC ?_
  refine x_P 1 rfl rfl rfl ?_
  refine x_P 2 rfl rfl rfl ?_
  refine x_pI rfl (fun th1 hth1 => ?_)
  refine x_P 6 rfl rfl rfl ?_
  refine x_P 7 rfl rfl rfl ?_
  refine x_pI rfl (fun th2 hth2 => ?_)
  refine x_P 11 rfl rfl rfl ?_
  refine x_P 12 rfl rfl rfl ?_
  refine x_pI rfl (fun th3 hth3 => ?_)
  refine x_P 16 rfl rfl rfl ?_
  refine x_P (lv' := [(3, .int (Int32.ofInt 0)), (0, .ref a0), (1, .int a1), (2, .int a2)]) 17 rfl rfl rfl ?_
  refine x_lv (lv := [(0, .ref a0), (3, .int (Int32.ofInt 0))]) (x_lp 39 (fun s4 => [(0, .ref a0), (3, .int s4.1)]) (fun s4 => s4.2) (fun x7 => []) (fun x7 => x7) (fun s4 nx5 hnx5 ex6 hex6 => ?_) (fun x7 => ?_) 4096 ((Int32.ofInt 0), th3)) ⟨rfl, rfl, trivial⟩
  · refine x_P 18 rfl rfl rfl ?_
    refine x_P 19 rfl rfl rfl ?_
    refine x_gN rfl (fun o8 ho8 => ?_)
    refine x_aL rfl ⟨rfl, rfl⟩ (fun x9 hx9 => ?_)
    refine x_ic_ge rfl rfl (fun h12 => ?_) (fun h12 => ?_)
    · exact x_lv (hex6 s4.2) trivial
    · refine x_P 27 rfl rfl rfl ?_
      refine x_gN rfl (fun o10 ho10 => ?_)
      refine x_P 31 rfl rfl rfl ?_
      refine x_P 32 rfl rfl rfl ?_
      refine x_sJ rfl ⟨rfl, rfl⟩ (fun th11 hth11 => ?_)
      refine x_P (lv' := [(3, .int (s4.1 + Int32.ofInt 1)), (0, .ref a0)]) 36 rfl rfl rfl ?_
      refine x_P 17 rfl rfl rfl ?_
      exact x_lv (hnx5 ((s4.1 + Int32.ofInt 1), th11)) ⟨rfl, rfl, trivial⟩
  · exact x_retV (x := x7) rfl
-- 2 NineTrees.row(III)I
noncomputable def m_2 (a0 : Nat) (a1 : Int32) (a2 : Int32) (a3 : Int32) (th : tH) : Option (Int32 × tH) :=
  (gC th 7 a0).bind fun _ =>
  (m_60 a0 a1 th).bind fun r1 =>
  jn (fun (v2 : Unit) =>
      (m_59 a0 (Int8.ofInt (-2)).toInt32 th).bind fun q4 =>
      some (q4.1, q4.2)
    ) (fun j3 =>
      match r1 with
      | none =>
        j3 ()
      | some o5 =>
        if a2 < 0 then
          j3 ()
        else
          if (Int32.ofInt 4) < a2 then
            j3 ()
          else
            if a3 < 0 then
              j3 ()
            else
              if a3 ≤ (Int8.ofInt 40).toInt32 then
                (m_155 o5 a2 a3 th).bind fun th6 =>
                some ((Int32.ofInt 1), th6)
              else
                j3 ()
    )
theorem c_2 {a0 : Nat} {a1 : Int32} {a2 : Int32} {a3 : Int32} {th : tH} {x : (Int32 × tH)} (h : m_2 a0 a1 a2 a3 th = some x) : ∃ fs, th[a0]? = some (.inr (7, fs)) := gC_of h
theorem S_2 {L : Nat} (d : Nat) (a0 : Nat) (a1 : Int32) (a2 : Int32) (a3 : Int32) (th : tH) : Wx L (fun x => (some (.int x.1), x.2)) (d + 2) 2 5 0 [(0, .ref a0), (1, .int a1), (2, .int a2), (3, .int a3)] [] th (m_2 a0 a1 a2 a3 th) := by
  unfold m_2
  refine x_gC ?_
  refine x_P 1 rfl rfl rfl ?_
  refine x_P 2 rfl rfl rfl ?_
  refine x_callV rfl rfl rfl rfl rfl ⟨rfl, rfl⟩ (fun x h => c_60 h) (S_60 (d + 1) a0 a1 th) (fun r1 hr1 => ?_)
  refine x_P (lv' := [(4, va_rf r1), (0, .ref a0), (1, .int a1), (2, .int a2), (3, .int a3)]) (st' := []) 7 rfl rfl (by rcases r1 with _ | _ <;> rfl) ?_
  refine x_P 9 rfl rfl (t_P_ald rfl) ?_
  refine x_jn 31 (fun v2 => [(0, .ref a0)]) (fun v2 => []) (fun v2 => th) (fun v2 => ?_) (fun j3 hj3 => ?_)
  · refine x_P 32 rfl rfl rfl ?_
    refine x_P 34 rfl rfl rfl ?_
    refine x_callV rfl rfl rfl rfl rfl ⟨rfl, rfl⟩ (fun x h => c_59 h) (S_59 d a0 (Int8.ofInt (-2)).toInt32 th) (fun q4 hq4 => ?_)
    exact x_retI (x := (q4.1, q4.2)) rfl
  · rcases r1 with _ | o5
    · refine x_P 31 rfl rfl rfl ?_
      exact x_lv (hj3 ()) ⟨rfl, trivial⟩
    · refine x_P 12 rfl rfl rfl ?_
      refine x_P 13 rfl rfl rfl ?_
      refine x_if_lt rfl rfl (fun h10 => ?_) (fun h10 => ?_)
      · exact x_lv (hj3 ()) ⟨rfl, trivial⟩
      · refine x_P 17 rfl rfl rfl ?_
        refine x_P 18 rfl rfl rfl ?_
        refine x_ic_gt rfl rfl (fun h9 => ?_) (fun h9 => ?_)
        · exact x_lv (hj3 ()) ⟨rfl, trivial⟩
        · refine x_P 22 rfl rfl rfl ?_
          refine x_if_lt rfl rfl (fun h8 => ?_) (fun h8 => ?_)
          · exact x_lv (hj3 ()) ⟨rfl, trivial⟩
          · refine x_P 26 rfl rfl rfl ?_
            refine x_P 28 rfl rfl rfl ?_
            refine x_ic_le rfl rfl (fun h7 => ?_) (fun h7 => ?_)
            · refine x_P 40 rfl rfl rfl ?_
              refine x_P 41 rfl rfl rfl ?_
              refine x_P 42 rfl rfl rfl ?_
              refine x_callW rfl rfl rfl rfl rfl ⟨rfl, rfl⟩ (fun x h => c_155 h) (S_155 d o5 a2 a3 th) (fun th6 hth6 => ?_)
              refine x_P 46 rfl rfl rfl ?_
              exact x_retI (x := ((Int32.ofInt 1), th6)) rfl
            · exact x_lv (hj3 ()) ⟨rfl, trivial⟩
-- 150 NineTrees$Shelf.hasRow()Z
noncomputable def m_150 (a0 : Nat) (th : tH) : Option (Int32) :=
  (gC th 5 a0).bind fun _ =>
  (gI th 5 a0 1).bind fun x1 =>
  jn (fun (v2 : Int32) =>
      rB v2
    ) (fun j3 =>
      if x1 = (Int32.ofInt (-1)) then
        j3 (Int32.ofInt 0)
      else
        j3 (Int32.ofInt 1)
    )
theorem c_150 {a0 : Nat} {th : tH} {x : (Int32)} (h : m_150 a0 th = some x) : ∃ fs, th[a0]? = some (.inr (5, fs)) := gC_of h
theorem S_150 {L : Nat} (d : Nat) (a0 : Nat) (th : tH) : Wx L (fun x => (some (.int x), th)) d 150 1 0 [(0, .ref a0)] [] th (m_150 a0 th) := by
  unfold m_150
  refine x_gC ?_
  refine x_P 1 rfl rfl rfl ?_
  refine x_gI rfl (fun x1 hx1 => ?_)
  refine x_P 5 rfl rfl rfl ?_
  refine x_jn 13 (fun v2 => []) (fun v2 => [.int v2]) (fun v2 => th) (fun v2 => ?_) (fun j3 hj3 => ?_)
  · exact x_rB rfl
  · refine x_ic_eq rfl rfl (fun h4 => ?_) (fun h4 => ?_)
    · refine x_P 13 rfl rfl rfl ?_
      exact x_lv (hj3 (Int32.ofInt 0)) trivial
    · refine x_P 9 rfl rfl rfl ?_
      refine x_P 13 rfl rfl rfl ?_
      exact x_lv (hj3 (Int32.ofInt 1)) trivial
-- 151 NineTrees$Shelf.hasTree()Z
noncomputable def m_151 (a0 : Nat) (th : tH) : Option (Int32) :=
  (gC th 5 a0).bind fun _ =>
  (gI th 5 a0 3).bind fun x1 =>
  jn (fun (v2 : Int32) =>
      rB v2
    ) (fun j3 =>
      if x1 = (Int32.ofInt (-1)) then
        j3 (Int32.ofInt 0)
      else
        j3 (Int32.ofInt 1)
    )
theorem c_151 {a0 : Nat} {th : tH} {x : (Int32)} (h : m_151 a0 th = some x) : ∃ fs, th[a0]? = some (.inr (5, fs)) := gC_of h
theorem S_151 {L : Nat} (d : Nat) (a0 : Nat) (th : tH) : Wx L (fun x => (some (.int x), th)) d 151 1 0 [(0, .ref a0)] [] th (m_151 a0 th) := by
  unfold m_151
  refine x_gC ?_
  refine x_P 1 rfl rfl rfl ?_
  refine x_gI rfl (fun x1 hx1 => ?_)
  refine x_P 5 rfl rfl rfl ?_
  refine x_jn 13 (fun v2 => []) (fun v2 => [.int v2]) (fun v2 => th) (fun v2 => ?_) (fun j3 hj3 => ?_)
  · exact x_rB rfl
  · refine x_ic_eq rfl rfl (fun h4 => ?_) (fun h4 => ?_)
    · refine x_P 13 rfl rfl rfl ?_
      exact x_lv (hj3 (Int32.ofInt 0)) trivial
    · refine x_P 9 rfl rfl rfl ?_
      refine x_P 13 rfl rfl rfl ?_
      exact x_lv (hj3 (Int32.ofInt 1)) trivial
-- 152 NineTrees$Shelf.whyNoRow()I
noncomputable def m_152 (a0 : Nat) (th : tH) : Option (Int32) :=
  (gC th 5 a0).bind fun _ =>
  (m_151 a0 th).bind fun x1 =>
  jn (fun (v2 : Int32) =>
      some v2
    ) (fun j3 =>
      if x1 = 0 then
        j3 (Int8.ofInt (-4)).toInt32
      else
        j3 (Int8.ofInt (-3)).toInt32
    )
theorem c_152 {a0 : Nat} {th : tH} {x : (Int32)} (h : m_152 a0 th = some x) : ∃ fs, th[a0]? = some (.inr (5, fs)) := gC_of h
theorem S_152 {L : Nat} (d : Nat) (a0 : Nat) (th : tH) : Wx L (fun x => (some (.int x), th)) (d + 1) 152 1 0 [(0, .ref a0)] [] th (m_152 a0 th) := by
  unfold m_152
  refine x_gC ?_
  refine x_P 1 rfl rfl rfl ?_
  refine x_callV rfl rfl rfl rfl rfl ⟨rfl, rfl⟩ (fun x h => c_151 h) (S_151 d a0 th) (fun x1 hx1 => ?_)
  refine x_jn 14 (fun v2 => []) (fun v2 => [.int v2]) (fun v2 => th) (fun v2 => ?_) (fun j3 hj3 => ?_)
  · exact x_retI (x := v2) rfl
  · refine x_if_eq rfl rfl (fun h4 => ?_) (fun h4 => ?_)
    · refine x_P 14 rfl rfl rfl ?_
      exact x_lv (hj3 (Int8.ofInt (-4)).toInt32) trivial
    · refine x_P 9 rfl rfl rfl ?_
      refine x_P 14 rfl rfl rfl ?_
      exact x_lv (hj3 (Int8.ofInt (-3)).toInt32) trivial
-- 153 NineTrees$Shelf.hasElement(I)Z
noncomputable def m_153 (a0 : Nat) (a1 : Int32) (th : tH) : Option (Int32) :=
  (gC th 5 a0).bind fun _ =>
  jn (fun (v1 : Int32) =>
      rB v1
    ) (fun j2 =>
      jn (fun (v3 : Unit) =>
          j2 (Int32.ofInt 0)
        ) (fun j4 =>
          if a1 < 0 then
            j4 ()
          else
            (gI th 5 a0 2).bind fun x5 =>
            if x5 ≤ a1 then
              j4 ()
            else
              j2 (Int32.ofInt 1)
        )
    )
theorem c_153 {a0 : Nat} {a1 : Int32} {th : tH} {x : (Int32)} (h : m_153 a0 a1 th = some x) : ∃ fs, th[a0]? = some (.inr (5, fs)) := gC_of h
theorem S_153 {L : Nat} (d : Nat) (a0 : Nat) (a1 : Int32) (th : tH) : Wx L (fun x => (some (.int x), th)) d 153 2 0 [(0, .ref a0), (1, .int a1)] [] th (m_153 a0 a1 th) := by
  unfold m_153
  refine x_gC ?_
  refine x_P 1 rfl rfl rfl ?_
  refine x_jn 17 (fun v1 => []) (fun v1 => [.int v1]) (fun v1 => th) (fun v1 => ?_) (fun j2 hj2 => ?_)
  · exact x_rB rfl
  · refine x_jn 16 (fun v3 => []) (fun v3 => []) (fun v3 => th) (fun v3 => ?_) (fun j4 hj4 => ?_)
    · refine x_P 17 rfl rfl rfl ?_
      exact x_lv (hj2 (Int32.ofInt 0)) trivial
    · refine x_if_lt rfl rfl (fun h7 => ?_) (fun h7 => ?_)
      · exact x_lv (hj4 ()) trivial
      · refine x_P 5 rfl rfl rfl ?_
        refine x_P 6 rfl rfl rfl ?_
        refine x_gI rfl (fun x5 hx5 => ?_)
        refine x_ic_ge rfl rfl (fun h6 => ?_) (fun h6 => ?_)
        · exact x_lv (hj4 ()) trivial
        · refine x_P 13 rfl rfl rfl ?_
          refine x_P 17 rfl rfl rfl ?_
          exact x_lv (hj2 (Int32.ofInt 1)) trivial
-- 157 NineTrees$Shelf.fitted(J)J
noncomputable def m_157 (a0 : Nat) (a1 : Int64) (th : tH) : Option (Int64) :=
  (gC th 5 a0).bind fun _ =>
  (gI th 5 a0 1).bind fun x1 =>
  if x1 < 0 ∨ 3 < x1 then
    jn (fun (v3 : Int64) =>
        some v3
      ) (fun j4 =>
        if (lg_cmp a1 (Int64.ofNat 0)) = 0 then
          j4 (Int64.ofNat 0)
        else
          j4 (Int64.ofNat 1)
      )
  else if x1 = 0 then
    some (Int32.toInt64 (Int32.toInt8 (Int64.toInt32 a1)).toInt32)
  else if x1 = 1 then
    some (Int32.toInt64 (Int32.toInt16 (Int64.toInt32 a1)).toInt32)
  else if x1 = 2 then
    some (Int32.toInt64 (Int64.toInt32 a1))
  else if x1 = 3 then
    some a1
  else
    none
theorem c_157 {a0 : Nat} {a1 : Int64} {th : tH} {x : (Int64)} (h : m_157 a0 a1 th = some x) : ∃ fs, th[a0]? = some (.inr (5, fs)) := gC_of h
theorem S_157 {L : Nat} (d : Nat) (a0 : Nat) (a1 : Int64) (th : tH) : Wx L (fun x => (some (.long x), th)) d 157 3 0 [(0, .ref a0), (1, .long a1)] [] th (m_157 a0 a1 th) := by
  unfold m_157
  refine x_gC ?_
  refine x_P 1 rfl rfl rfl ?_
  refine x_gI rfl (fun x1 hx1 => ?_)
  refine x_ite (fun h2 => ?_) (fun h2 => ?_)
  · refine x_P 52 rfl rfl (x_td h2 (by decide +kernel)) ?_
    refine x_P 53 rfl rfl rfl ?_
    refine x_P 54 rfl rfl rfl ?_
    refine x_P 55 rfl rfl rfl ?_
    refine x_jn 63 (fun v3 => []) (fun v3 => [.long v3]) (fun v3 => th) (fun v3 => ?_) (fun j4 hj4 => ?_)
    · exact x_retJ (x := v3) rfl
    · refine x_if_eq rfl rfl (fun h5 => ?_) (fun h5 => ?_)
      · refine x_P 63 rfl rfl rfl ?_
        exact x_lv (hj4 (Int64.ofNat 0)) trivial
      · refine x_P 59 rfl rfl rfl ?_
        refine x_P 63 rfl rfl rfl ?_
        exact x_lv (hj4 (Int64.ofNat 1)) trivial
  · skip
    refine x_ite (fun h6 => ?_) (fun h6 => ?_)
    · refine x_P 36 rfl rfl (x_ts h6 (by decide +kernel)) ?_
      refine x_P 37 rfl rfl rfl ?_
      refine x_P 38 rfl rfl rfl ?_
      refine x_P 39 rfl rfl rfl ?_
      refine x_P 40 rfl rfl rfl ?_
      exact x_retJ (x := (Int32.toInt64 (Int32.toInt8 (Int64.toInt32 a1)).toInt32)) rfl
    · skip
      refine x_ite (fun h7 => ?_) (fun h7 => ?_)
      · refine x_P 41 rfl rfl (x_ts h7 (by decide +kernel)) ?_
        refine x_P 42 rfl rfl rfl ?_
        refine x_P 43 rfl rfl rfl ?_
        refine x_P 44 rfl rfl rfl ?_
        refine x_P 45 rfl rfl rfl ?_
        exact x_retJ (x := (Int32.toInt64 (Int32.toInt16 (Int64.toInt32 a1)).toInt32)) rfl
      · skip
        refine x_ite (fun h8 => ?_) (fun h8 => ?_)
        · refine x_P 46 rfl rfl (x_ts h8 (by decide +kernel)) ?_
          refine x_P 47 rfl rfl rfl ?_
          refine x_P 48 rfl rfl rfl ?_
          refine x_P 49 rfl rfl rfl ?_
          exact x_retJ (x := (Int32.toInt64 (Int64.toInt32 a1))) rfl
        · skip
          refine x_ite (fun h9 => ?_) (fun h9 => ?_)
          · refine x_P 50 rfl rfl (x_ts h9 (by decide +kernel)) ?_
            refine x_P 51 rfl rfl rfl ?_
            exact x_retJ (x := a1) rfl
          · skip
            exact x_none
-- 3 NineTrees.set(IIJ)I
noncomputable def m_3 (a0 : Nat) (a1 : Int32) (a2 : Int32) (a3 : Int64) (th : tH) : Option (Int32 × tH) :=
  (gC th 7 a0).bind fun _ =>
  (m_60 a0 a1 th).bind fun r1 =>
  match r1 with
  | none =>
    (m_59 a0 (Int8.ofInt (-2)).toInt32 th).bind fun q3 =>
    some (q3.1, q3.2)
  | some o2 =>
    (m_150 o2 th).bind fun x4 =>
    if x4 = 0 then
      (m_152 o2 th).bind fun x11 =>
      (m_59 a0 x11 th).bind fun q12 =>
      some (q12.1, q12.2)
    else
      (m_153 o2 a2 th).bind fun x5 =>
      if x5 = 0 then
        (m_59 a0 (Int8.ofInt (-2)).toInt32 th).bind fun q9 =>
        some (q9.1, q9.2)
      else
        (gN th 5 o2 0).bind fun o6 =>
        (m_157 o2 a3 th).bind fun x7 =>
        (sJ th o6 a2 x7).bind fun th8 =>
        some ((Int32.ofInt 1), th8)
theorem c_3 {a0 : Nat} {a1 : Int32} {a2 : Int32} {a3 : Int64} {th : tH} {x : (Int32 × tH)} (h : m_3 a0 a1 a2 a3 th = some x) : ∃ fs, th[a0]? = some (.inr (7, fs)) := gC_of h
theorem S_3 {L : Nat} (d : Nat) (a0 : Nat) (a1 : Int32) (a2 : Int32) (a3 : Int64) (th : tH) : Wx L (fun x => (some (.int x.1), x.2)) (d + 2) 3 6 0 [(0, .ref a0), (1, .int a1), (2, .int a2), (3, .long a3)] [] th (m_3 a0 a1 a2 a3 th) := by
  unfold m_3
  refine x_gC ?_
  refine x_P 1 rfl rfl rfl ?_
  refine x_P 2 rfl rfl rfl ?_
  refine x_callV rfl rfl rfl rfl rfl ⟨rfl, rfl⟩ (fun x h => c_60 h) (S_60 (d + 1) a0 a1 th) (fun r1 hr1 => ?_)
  refine x_P (lv' := [(5, va_rf r1), (0, .ref a0), (1, .int a1), (2, .int a2), (3, .long a3)]) (st' := []) 7 rfl rfl (by rcases r1 with _ | _ <;> rfl) ?_
  refine x_P 9 rfl rfl (t_P_ald rfl) ?_
  rcases r1 with _ | o2
  · refine x_P 12 rfl rfl rfl ?_
    refine x_P 13 rfl rfl rfl ?_
    refine x_P 15 rfl rfl rfl ?_
    refine x_callV rfl rfl rfl rfl rfl ⟨rfl, rfl⟩ (fun x h => c_59 h) (S_59 d a0 (Int8.ofInt (-2)).toInt32 th) (fun q3 hq3 => ?_)
    exact x_retI (x := (q3.1, q3.2)) rfl
  · refine x_P 19 rfl rfl rfl ?_
    refine x_P 21 rfl rfl rfl ?_
    refine x_callV rfl rfl rfl rfl rfl ⟨rfl, rfl⟩ (fun x h => c_150 h) (S_150 (d + 1) o2 th) (fun x4 hx4 => ?_)
    refine x_if_ne rfl rfl (fun h13 => ?_) (fun h13 => ?_)
    · refine x_P 28 rfl rfl rfl ?_
      refine x_P 30 rfl rfl rfl ?_
      refine x_callV rfl rfl rfl rfl rfl ⟨rfl, rfl⟩ (fun x h => c_152 h) (S_152 d o2 th) (fun x11 hx11 => ?_)
      refine x_callV rfl rfl rfl rfl rfl ⟨rfl, rfl⟩ (fun x h => c_59 h) (S_59 d a0 x11 th) (fun q12 hq12 => ?_)
      exact x_retI (x := (q12.1, q12.2)) rfl
    · refine x_P 39 rfl rfl rfl ?_
      refine x_P 40 rfl rfl rfl ?_
      refine x_callV rfl rfl rfl rfl rfl ⟨rfl, rfl⟩ (fun x h => c_153 h) (S_153 (d + 1) o2 a2 th) (fun x5 hx5 => ?_)
      refine x_if_ne rfl rfl (fun h10 => ?_) (fun h10 => ?_)
      · refine x_P 47 rfl rfl rfl ?_
        refine x_P 49 rfl rfl rfl ?_
        refine x_callV rfl rfl rfl rfl rfl ⟨rfl, rfl⟩ (fun x h => c_59 h) (S_59 d a0 (Int8.ofInt (-2)).toInt32 th) (fun q9 hq9 => ?_)
        exact x_retI (x := (q9.1, q9.2)) rfl
      · refine x_P 55 rfl rfl rfl ?_
        refine x_gN rfl (fun o6 ho6 => ?_)
        refine x_P 59 rfl rfl rfl ?_
        refine x_P 61 rfl rfl rfl ?_
        refine x_P 62 rfl rfl rfl ?_
        refine x_callV rfl rfl rfl rfl rfl ⟨rfl, rfl⟩ (fun x h => c_157 h) (S_157 (d + 1) o2 a3 th) (fun x7 hx7 => ?_)
        refine x_sJ rfl ⟨rfl, rfl⟩ (fun th8 hth8 => ?_)
        refine x_P 67 rfl rfl rfl ?_
        exact x_retI (x := ((Int32.ofInt 1), th8)) rfl
-- 154 NineTrees$Shelf.hasStretch(II)Z
noncomputable def m_154 (a0 : Nat) (a1 : Int32) (a2 : Int32) (th : tH) : Option (Int32) :=
  (gC th 5 a0).bind fun _ =>
  jn (fun (v1 : Int32) =>
      rB v1
    ) (fun j2 =>
      jn (fun (v3 : Unit) =>
          j2 (Int32.ofInt 0)
        ) (fun j4 =>
          if a1 < 0 then
            j4 ()
          else
            if a2 < 0 then
              j4 ()
            else
              (gI th 5 a0 2).bind fun x5 =>
              if (x5 - a2) < a1 then
                j4 ()
              else
                j2 (Int32.ofInt 1)
        )
    )
theorem c_154 {a0 : Nat} {a1 : Int32} {a2 : Int32} {th : tH} {x : (Int32)} (h : m_154 a0 a1 a2 th = some x) : ∃ fs, th[a0]? = some (.inr (5, fs)) := gC_of h
theorem S_154 {L : Nat} (d : Nat) (a0 : Nat) (a1 : Int32) (a2 : Int32) (th : tH) : Wx L (fun x => (some (.int x), th)) d 154 3 0 [(0, .ref a0), (1, .int a1), (2, .int a2)] [] th (m_154 a0 a1 a2 th) := by
  unfold m_154
  refine x_gC ?_
  refine x_P 1 rfl rfl rfl ?_
  refine x_jn 23 (fun v1 => []) (fun v1 => [.int v1]) (fun v1 => th) (fun v1 => ?_) (fun j2 hj2 => ?_)
  · exact x_rB rfl
  · refine x_jn 22 (fun v3 => []) (fun v3 => []) (fun v3 => th) (fun v3 => ?_) (fun j4 hj4 => ?_)
    · refine x_P 23 rfl rfl rfl ?_
      exact x_lv (hj2 (Int32.ofInt 0)) trivial
    · refine x_if_lt rfl rfl (fun h8 => ?_) (fun h8 => ?_)
      · exact x_lv (hj4 ()) trivial
      · refine x_P 5 rfl rfl rfl ?_
        refine x_if_lt rfl rfl (fun h7 => ?_) (fun h7 => ?_)
        · exact x_lv (hj4 ()) trivial
        · refine x_P 9 rfl rfl rfl ?_
          refine x_P 10 rfl rfl rfl ?_
          refine x_gI rfl (fun x5 hx5 => ?_)
          refine x_P 14 rfl rfl rfl ?_
          refine x_P 15 rfl rfl rfl ?_
          refine x_ic_gt rfl rfl (fun h6 => ?_) (fun h6 => ?_)
          · exact x_lv (hj4 ()) trivial
          · refine x_P 19 rfl rfl rfl ?_
            refine x_P 23 rfl rfl rfl ?_
            exact x_lv (hj2 (Int32.ofInt 1)) trivial
-- 4 NineTrees.copy(IIIII)I
noncomputable def m_4 (a0 : Nat) (a1 : Int32) (a2 : Int32) (a3 : Int32) (a4 : Int32) (a5 : Int32) (th : tH) : Option (Int32 × tH) :=
  (gC th 7 a0).bind fun _ =>
  (m_60 a0 a1 th).bind fun r1 =>
  (m_60 a0 a2 th).bind fun r2 =>
  jn (fun (v3 : Unit) =>
      (m_59 a0 (Int8.ofInt (-2)).toInt32 th).bind fun q5 =>
      some (q5.1, q5.2)
    ) (fun j4 =>
      match r1 with
      | none =>
        j4 ()
      | some o6 =>
        match r2 with
        | none =>
          j4 ()
        | some o7 =>
          (m_151 o6 th).bind fun x8 =>
          jn (fun (v9 : Unit) =>
              (m_59 a0 (Int8.ofInt (-3)).toInt32 th).bind fun q11 =>
              some (q11.1, q11.2)
            ) (fun j10 =>
              if x8 = 0 then
                (m_151 o7 th).bind fun x12 =>
                if x12 = 0 then
                  (m_150 o6 th).bind fun x13 =>
                  jn (fun (v14 : Unit) =>
                      (m_150 o6 th).bind fun x16 =>
                      jn (fun (v17 : Unit) =>
                          (m_59 a0 (Int8.ofInt (-4)).toInt32 th).bind fun q19 =>
                          some (q19.1, q19.2)
                        ) (fun j18 =>
                          if x16 = 0 then
                            j18 ()
                          else
                            (m_150 o7 th).bind fun x20 =>
                            if x20 = 0 then
                              j18 ()
                            else
                              (m_154 o6 a3 a5 th).bind fun x21 =>
                              jn (fun (v22 : Unit) =>
                                  (m_59 a0 (Int8.ofInt (-2)).toInt32 th).bind fun q24 =>
                                  some (q24.1, q24.2)
                                ) (fun j23 =>
                                  if x21 = 0 then
                                    j23 ()
                                  else
                                    (m_154 o7 a4 a5 th).bind fun x25 =>
                                    if x25 = 0 then
                                      j23 ()
                                    else
                                      (gN th 5 o6 0).bind fun o26 =>
                                      (gN th 5 o7 0).bind fun o27 =>
                                      (cpJ th o26 a3 o27 a4 a5).bind fun th28 =>
                                      some (a5, th28)
                                )
                        )
                    ) (fun j15 =>
                      if x13 = 0 then
                        j15 ()
                      else
                        (m_150 o7 th).bind fun x33 =>
                        if x33 = 0 then
                          j15 ()
                        else
                          (gI th 5 o6 1).bind fun x34 =>
                          (gI th 5 o7 1).bind fun x35 =>
                          if x34 = x35 then
                            j15 ()
                          else
                            j10 ()
                    )
                else
                  j10 ()
              else
                j10 ()
            )
    )
theorem c_4 {a0 : Nat} {a1 : Int32} {a2 : Int32} {a3 : Int32} {a4 : Int32} {a5 : Int32} {th : tH} {x : (Int32 × tH)} (h : m_4 a0 a1 a2 a3 a4 a5 th = some x) : ∃ fs, th[a0]? = some (.inr (7, fs)) := gC_of h
theorem S_4 {L : Nat} (d : Nat) (a0 : Nat) (a1 : Int32) (a2 : Int32) (a3 : Int32) (a4 : Int32) (a5 : Int32) (th : tH) : Wx L (fun x => (some (.int x.1), x.2)) (d + 2) 4 8 0 [(0, .ref a0), (1, .int a1), (2, .int a2), (3, .int a3), (4, .int a4), (5, .int a5)] [] th (m_4 a0 a1 a2 a3 a4 a5 th) := by
  unfold m_4
  refine x_gC ?_
  refine x_P 1 rfl rfl rfl ?_
  refine x_P 2 rfl rfl rfl ?_
  refine x_callV rfl rfl rfl rfl rfl ⟨rfl, rfl⟩ (fun x h => c_60 h) (S_60 (d + 1) a0 a1 th) (fun r1 hr1 => ?_)
  refine x_P (lv' := [(6, va_rf r1), (0, .ref a0), (1, .int a1), (2, .int a2), (3, .int a3), (4, .int a4), (5, .int a5)]) (st' := []) 7 rfl rfl (by rcases r1 with _ | _ <;> rfl) ?_
  refine x_P 8 rfl rfl rfl ?_
  refine x_P 9 rfl rfl rfl ?_
  refine x_callV rfl rfl rfl rfl rfl ⟨rfl, rfl⟩ (fun x h => c_60 h) (S_60 (d + 1) a0 a2 th) (fun r2 hr2 => ?_)
  refine x_P (lv' := [(7, va_rf r2), (6, va_rf r1), (0, .ref a0), (1, .int a1), (2, .int a2), (3, .int a3), (4, .int a4), (5, .int a5)]) (st' := []) 14 rfl rfl (by rcases r1 with _ | _ <;> rcases r2 with _ | _ <;> rfl) ?_
  refine x_P 16 rfl rfl (t_P_ald rfl) ?_
  refine x_jn 24 (fun v3 => [(0, .ref a0)]) (fun v3 => []) (fun v3 => th) (fun v3 => ?_) (fun j4 hj4 => ?_)
  · refine x_P 25 rfl rfl rfl ?_
    refine x_P 27 rfl rfl rfl ?_
    refine x_callV rfl rfl rfl rfl rfl ⟨rfl, rfl⟩ (fun x h => c_59 h) (S_59 d a0 (Int8.ofInt (-2)).toInt32 th) (fun q5 hq5 => ?_)
    exact x_retI (x := (q5.1, q5.2)) rfl
  · rcases r1 with _ | o6
    · refine x_P 24 rfl rfl rfl ?_
      exact x_lv (hj4 ()) ⟨rfl, trivial⟩
    · refine x_P 19 rfl rfl rfl ?_
      refine x_P 21 rfl rfl (t_P_ald rfl) ?_
      rcases r2 with _ | o7
      · refine x_P 24 rfl rfl rfl ?_
        exact x_lv (hj4 ()) ⟨rfl, trivial⟩
      · refine x_P 31 rfl rfl rfl ?_
        refine x_P 33 rfl rfl rfl ?_
        refine x_callV rfl rfl rfl rfl rfl ⟨rfl, rfl⟩ (fun x h => c_151 h) (S_151 (d + 1) o6 th) (fun x8 hx8 => ?_)
        refine x_jn 76 (fun v9 => [(0, .ref a0)]) (fun v9 => []) (fun v9 => th) (fun v9 => ?_) (fun j10 hj10 => ?_)
        · refine x_P 77 rfl rfl rfl ?_
          refine x_P 79 rfl rfl rfl ?_
          refine x_callV rfl rfl rfl rfl rfl ⟨rfl, rfl⟩ (fun x h => c_59 h) (S_59 d a0 (Int8.ofInt (-3)).toInt32 th) (fun q11 hq11 => ?_)
          exact x_retI (x := (q11.1, q11.2)) rfl
        · refine x_if_ne rfl rfl (fun h40 => ?_) (fun h40 => ?_)
          · refine x_P 41 rfl rfl rfl ?_
            refine x_callV rfl rfl rfl rfl rfl ⟨rfl, rfl⟩ (fun x h => c_151 h) (S_151 (d + 1) o7 th) (fun x12 hx12 => ?_)
            refine x_if_ne rfl rfl (fun h39 => ?_) (fun h39 => ?_)
            · refine x_P 49 rfl rfl rfl ?_
              refine x_callV rfl rfl rfl rfl rfl ⟨rfl, rfl⟩ (fun x h => c_150 h) (S_150 (d + 1) o6 th) (fun x13 hx13 => ?_)
              refine x_jn 83 (fun v14 => [(0, .ref a0), (3, .int a3), (4, .int a4), (5, .int a5), (6, .ref o6), (7, .ref o7)]) (fun v14 => []) (fun v14 => th) (fun v14 => ?_) (fun j15 hj15 => ?_)
              · refine x_P 85 rfl rfl rfl ?_
                refine x_callV rfl rfl rfl rfl rfl ⟨rfl, rfl⟩ (fun x h => c_150 h) (S_150 (d + 1) o6 th) (fun x16 hx16 => ?_)
                refine x_jn 99 (fun v17 => [(0, .ref a0)]) (fun v17 => []) (fun v17 => th) (fun v17 => ?_) (fun j18 hj18 => ?_)
                · refine x_P 100 rfl rfl rfl ?_
                  refine x_P 102 rfl rfl rfl ?_
                  refine x_callV rfl rfl rfl rfl rfl ⟨rfl, rfl⟩ (fun x h => c_59 h) (S_59 d a0 (Int8.ofInt (-4)).toInt32 th) (fun q19 hq19 => ?_)
                  exact x_retI (x := (q19.1, q19.2)) rfl
                · refine x_if_eq rfl rfl (fun h32 => ?_) (fun h32 => ?_)
                  · exact x_lv (hj18 ()) ⟨rfl, trivial⟩
                  · refine x_P 93 rfl rfl rfl ?_
                    refine x_callV rfl rfl rfl rfl rfl ⟨rfl, rfl⟩ (fun x h => c_150 h) (S_150 (d + 1) o7 th) (fun x20 hx20 => ?_)
                    refine x_if_ne rfl rfl (fun h31 => ?_) (fun h31 => ?_)
                    · exact x_lv (hj18 ()) ⟨rfl, trivial⟩
                    · refine x_P 108 rfl rfl rfl ?_
                      refine x_P 109 rfl rfl rfl ?_
                      refine x_P 111 rfl rfl rfl ?_
                      refine x_callV rfl rfl rfl rfl rfl ⟨rfl, rfl⟩ (fun x h => c_154 h) (S_154 (d + 1) o6 a3 a5 th) (fun x21 hx21 => ?_)
                      refine x_jn 129 (fun v22 => [(0, .ref a0)]) (fun v22 => []) (fun v22 => th) (fun v22 => ?_) (fun j23 hj23 => ?_)
                      · refine x_P 130 rfl rfl rfl ?_
                        refine x_P 132 rfl rfl rfl ?_
                        refine x_callV rfl rfl rfl rfl rfl ⟨rfl, rfl⟩ (fun x h => c_59 h) (S_59 d a0 (Int8.ofInt (-2)).toInt32 th) (fun q24 hq24 => ?_)
                        exact x_retI (x := (q24.1, q24.2)) rfl
                      · refine x_if_eq rfl rfl (fun h30 => ?_) (fun h30 => ?_)
                        · exact x_lv (hj23 ()) ⟨rfl, trivial⟩
                        · refine x_P 119 rfl rfl rfl ?_
                          refine x_P 121 rfl rfl rfl ?_
                          refine x_P 123 rfl rfl rfl ?_
                          refine x_callV rfl rfl rfl rfl rfl ⟨rfl, rfl⟩ (fun x h => c_154 h) (S_154 (d + 1) o7 a4 a5 th) (fun x25 hx25 => ?_)
                          refine x_if_ne rfl rfl (fun h29 => ?_) (fun h29 => ?_)
                          · exact x_lv (hj23 ()) ⟨rfl, trivial⟩
                          · refine x_P 138 rfl rfl rfl ?_
                            refine x_gN rfl (fun o26 ho26 => ?_)
                            refine x_P 142 rfl rfl rfl ?_
                            refine x_P 144 rfl rfl rfl ?_
                            refine x_gN rfl (fun o27 ho27 => ?_)
                            refine x_P 149 rfl rfl rfl ?_
                            refine x_P 151 rfl rfl rfl ?_
                            refine x_cpJ rfl rfl (fun th28 hth28 => ?_)
                            refine x_P 156 rfl rfl rfl ?_
                            exact x_retI (x := (a5, th28)) rfl
              · refine x_if_eq rfl rfl (fun h38 => ?_) (fun h38 => ?_)
                · exact x_lv (hj15 ()) ⟨rfl, rfl, rfl, rfl, rfl, rfl, trivial⟩
                · refine x_P 57 rfl rfl rfl ?_
                  refine x_callV rfl rfl rfl rfl rfl ⟨rfl, rfl⟩ (fun x h => c_150 h) (S_150 (d + 1) o7 th) (fun x33 hx33 => ?_)
                  refine x_if_eq rfl rfl (fun h37 => ?_) (fun h37 => ?_)
                  · exact x_lv (hj15 ()) ⟨rfl, rfl, rfl, rfl, rfl, rfl, trivial⟩
                  · refine x_P 65 rfl rfl rfl ?_
                    refine x_gI rfl (fun x34 hx34 => ?_)
                    refine x_P 70 rfl rfl rfl ?_
                    refine x_gI rfl (fun x35 hx35 => ?_)
                    refine x_ic_eq rfl rfl (fun h36 => ?_) (fun h36 => ?_)
                    · exact x_lv (hj15 ()) ⟨rfl, rfl, rfl, rfl, rfl, rfl, trivial⟩
                    · exact x_lv (hj10 ()) ⟨rfl, trivial⟩
            · exact x_lv (hj10 ()) ⟨rfl, trivial⟩
          · exact x_lv (hj10 ()) ⟨rfl, trivial⟩
-- 5 NineTrees.element(II)J
noncomputable def m_5 (a0 : Nat) (a1 : Int32) (a2 : Int32) (th : tH) : Option (Int64) :=
  (gC th 7 a0).bind fun _ =>
  (m_60 a0 a1 th).bind fun r1 =>
  jn (fun (v2 : Int64) =>
      some v2
    ) (fun j3 =>
      jn (fun (v4 : Unit) =>
          j3 (Int64.ofNat 0)
        ) (fun j5 =>
          match r1 with
          | none =>
            j5 ()
          | some o6 =>
            (m_153 o6 a2 th).bind fun x7 =>
            if x7 = 0 then
              j5 ()
            else
              (gN th 5 o6 0).bind fun o8 =>
              (aJ th o8 a2).bind fun x9 =>
              j3 x9
        )
    )
theorem c_5 {a0 : Nat} {a1 : Int32} {a2 : Int32} {th : tH} {x : (Int64)} (h : m_5 a0 a1 a2 th = some x) : ∃ fs, th[a0]? = some (.inr (7, fs)) := gC_of h
theorem S_5 {L : Nat} (d : Nat) (a0 : Nat) (a1 : Int32) (a2 : Int32) (th : tH) : Wx L (fun x => (some (.long x), th)) (d + 1) 5 4 0 [(0, .ref a0), (1, .int a1), (2, .int a2)] [] th (m_5 a0 a1 a2 th) := by
  unfold m_5
  refine x_gC ?_
  refine x_P 1 rfl rfl rfl ?_
  refine x_P 2 rfl rfl rfl ?_
  refine x_callV rfl rfl rfl rfl rfl ⟨rfl, rfl⟩ (fun x h => c_60 h) (S_60 d a0 a1 th) (fun r1 hr1 => ?_)
  refine x_P (lv' := [(3, va_rf r1), (0, .ref a0), (1, .int a1), (2, .int a2)]) (st' := []) 6 rfl rfl (by rcases r1 with _ | _ <;> rfl) ?_
  refine x_P 7 rfl rfl (t_P_ald_n rfl) ?_
  refine x_jn 28 (fun v2 => []) (fun v2 => [.long v2]) (fun v2 => th) (fun v2 => ?_) (fun j3 hj3 => ?_)
  · exact x_retJ (x := v2) rfl
  · refine x_jn 18 (fun v4 => []) (fun v4 => []) (fun v4 => th) (fun v4 => ?_) (fun j5 hj5 => ?_)
    · refine x_P 19 rfl rfl rfl ?_
      refine x_P 28 rfl rfl rfl ?_
      exact x_lv (hj3 (Int64.ofNat 0)) trivial
    · rcases r1 with _ | o6
      · refine x_P 18 rfl rfl rfl ?_
        exact x_lv (hj5 ()) trivial
      · refine x_P 10 rfl rfl rfl ?_
        refine x_P 11 rfl rfl rfl ?_
        refine x_P 12 rfl rfl rfl ?_
        refine x_callV rfl rfl rfl rfl rfl ⟨rfl, rfl⟩ (fun x h => c_153 h) (S_153 d o6 a2 th) (fun x7 hx7 => ?_)
        refine x_if_ne rfl rfl (fun h10 => ?_) (fun h10 => ?_)
        · exact x_lv (hj5 ()) trivial
        · refine x_P 23 rfl rfl rfl ?_
          refine x_gN rfl (fun o8 ho8 => ?_)
          refine x_P 27 rfl rfl rfl ?_
          refine x_aJ rfl ⟨rfl, rfl⟩ (fun x9 hx9 => ?_)
          exact x_lv (hj3 x9) trivial
-- 6 NineTrees.holds(I)I
noncomputable def m_6 (a0 : Nat) (a1 : Int32) (th : tH) : Option (Int32) :=
  (gC th 7 a0).bind fun _ =>
  (m_60 a0 a1 th).bind fun r1 =>
  match r1 with
  | none =>
    some (Int32.ofInt (-1))
  | some o2 =>
    (m_151 o2 th).bind fun x3 =>
    jn (fun (v4 : Int32) =>
        some v4
      ) (fun j5 =>
        if x3 = 0 then
          (gI th 5 o2 1).bind fun x6 =>
          j5 x6
        else
          (gI th 5 o2 3).bind fun x7 =>
          j5 ((Int8.ofInt 10).toInt32 + x7)
      )
theorem c_6 {a0 : Nat} {a1 : Int32} {th : tH} {x : (Int32)} (h : m_6 a0 a1 th = some x) : ∃ fs, th[a0]? = some (.inr (7, fs)) := gC_of h
theorem S_6 {L : Nat} (d : Nat) (a0 : Nat) (a1 : Int32) (th : tH) : Wx L (fun x => (some (.int x), th)) (d + 1) 6 3 0 [(0, .ref a0), (1, .int a1)] [] th (m_6 a0 a1 th) := by
  unfold m_6
  refine x_gC ?_
  refine x_P 1 rfl rfl rfl ?_
  refine x_P 2 rfl rfl rfl ?_
  refine x_callV rfl rfl rfl rfl rfl ⟨rfl, rfl⟩ (fun x h => c_60 h) (S_60 d a0 a1 th) (fun r1 hr1 => ?_)
  refine x_P (lv' := [(2, va_rf r1), (0, .ref a0), (1, .int a1)]) (st' := []) 6 rfl rfl (by rcases r1 with _ | _ <;> rfl) ?_
  refine x_P 7 rfl rfl (t_P_ald_n rfl) ?_
  rcases r1 with _ | o2
  · refine x_P 10 rfl rfl rfl ?_
    refine x_P 11 rfl rfl rfl ?_
    exact x_retI (x := (Int32.ofInt (-1))) rfl
  · refine x_P 12 rfl rfl rfl ?_
    refine x_P 13 rfl rfl rfl ?_
    refine x_callV rfl rfl rfl rfl rfl ⟨rfl, rfl⟩ (fun x h => c_151 h) (S_151 d o2 th) (fun x3 hx3 => ?_)
    refine x_jn 33 (fun v4 => []) (fun v4 => [.int v4]) (fun v4 => th) (fun v4 => ?_) (fun j5 hj5 => ?_)
    · exact x_retI (x := v4) rfl
    · refine x_if_eq rfl rfl (fun h8 => ?_) (fun h8 => ?_)
      · refine x_P 30 rfl rfl rfl ?_
        refine x_gI rfl (fun x6 hx6 => ?_)
        exact x_lv (hj5 x6) trivial
      · refine x_P 21 rfl rfl rfl ?_
        refine x_P 22 rfl rfl rfl ?_
        refine x_gI rfl (fun x7 hx7 => ?_)
        refine x_P 26 rfl rfl rfl ?_
        refine x_P 33 rfl rfl rfl ?_
        exact x_lv (hj5 ((Int8.ofInt 10).toInt32 + x7)) trivial
-- 81 NineTrees$Garden.isTree(I)Z
noncomputable def m_81 (a0 : Nat) (a1 : Int32) (th : tH) : Option (Int32) :=
  (gC th 2 a0).bind fun _ =>
  jn (fun (v1 : Int32) =>
      rB v1
    ) (fun j2 =>
      jn (fun (v3 : Unit) =>
          j2 (Int32.ofInt 0)
        ) (fun j4 =>
          if a1 < 0 then
            j4 ()
          else
            (gI th 2 a0 5).bind fun x5 =>
            if x5 ≤ a1 then
              j4 ()
            else
              j2 (Int32.ofInt 1)
        )
    )
theorem c_81 {a0 : Nat} {a1 : Int32} {th : tH} {x : (Int32)} (h : m_81 a0 a1 th = some x) : ∃ fs, th[a0]? = some (.inr (2, fs)) := gC_of h
theorem S_81 {L : Nat} (d : Nat) (a0 : Nat) (a1 : Int32) (th : tH) : Wx L (fun x => (some (.int x), th)) d 81 2 0 [(0, .ref a0), (1, .int a1)] [] th (m_81 a0 a1 th) := by
  unfold m_81
  refine x_gC ?_
  refine x_P 1 rfl rfl rfl ?_
  refine x_jn 17 (fun v1 => []) (fun v1 => [.int v1]) (fun v1 => th) (fun v1 => ?_) (fun j2 hj2 => ?_)
  · exact x_rB rfl
  · refine x_jn 16 (fun v3 => []) (fun v3 => []) (fun v3 => th) (fun v3 => ?_) (fun j4 hj4 => ?_)
    · refine x_P 17 rfl rfl rfl ?_
      exact x_lv (hj2 (Int32.ofInt 0)) trivial
    · refine x_if_lt rfl rfl (fun h7 => ?_) (fun h7 => ?_)
      · exact x_lv (hj4 ()) trivial
      · refine x_P 5 rfl rfl rfl ?_
        refine x_P 6 rfl rfl rfl ?_
        refine x_gI rfl (fun x5 hx5 => ?_)
        refine x_ic_ge rfl rfl (fun h6 => ?_) (fun h6 => ?_)
        · exact x_lv (hj4 ()) trivial
        · refine x_P 13 rfl rfl rfl ?_
          refine x_P 17 rfl rfl rfl ?_
          exact x_lv (hj2 (Int32.ofInt 1)) trivial
-- 156 NineTrees$Shelf.takeTree(I)V
noncomputable def m_156 (a0 : Nat) (a1 : Int32) (th : tH) : Option tH :=
  (gC th 5 a0).bind fun _ =>
  (pI th 5 a0 1 (Int32.ofInt (-1))).bind fun th1 =>
  (pI th1 5 a0 2 (Int32.ofInt 0)).bind fun th2 =>
  (pI th2 5 a0 3 a1).bind fun th3 =>
  some th3
theorem c_156 {a0 : Nat} {a1 : Int32} {th : tH} {x : tH} (h : m_156 a0 a1 th = some x) : ∃ fs, th[a0]? = some (.inr (5, fs)) := gC_of h
theorem S_156 {L : Nat} (d : Nat) (a0 : Nat) (a1 : Int32) (th : tH) : Wx L (fun x => (none, x)) (d + 1) 156 2 0 [(0, .ref a0), (1, .int a1)] [] th (m_156 a0 a1 th) := by
  unfold m_156
  refine x_gC ?_
  refine x_P 1 rfl rfl rfl ?_
  refine x_P 2 rfl rfl rfl ?_
  refine x_pI rfl (fun th1 hth1 => ?_)
  refine x_P 6 rfl rfl rfl ?_
  refine x_P 7 rfl rfl rfl ?_
  refine x_pI rfl (fun th2 hth2 => ?_)
  refine x_P 11 rfl rfl rfl ?_
  refine x_P 12 rfl rfl rfl ?_
  refine x_pI rfl (fun th3 hth3 => ?_)
  exact x_retV (x := th3) rfl
-- 7 NineTrees.show(II)I
noncomputable def m_7 (a0 : Nat) (a1 : Int32) (a2 : Int32) (th : tH) : Option (Int32 × tH) :=
  (gC th 7 a0).bind fun _ =>
  (m_60 a0 a1 th).bind fun r1 =>
  jn (fun (v2 : Unit) =>
      (m_59 a0 (Int8.ofInt (-2)).toInt32 th).bind fun q4 =>
      some (q4.1, q4.2)
    ) (fun j3 =>
      match r1 with
      | none =>
        j3 ()
      | some o5 =>
        jn (fun (v6 : Unit) =>
            (m_156 o5 a2 th).bind fun th8 =>
            some ((Int32.ofInt 1), th8)
          ) (fun j7 =>
            if a2 = (Int32.ofInt (-1)) then
              j7 ()
            else
              (gN th 7 a0 0).bind fun o9 =>
              (m_81 o9 a2 th).bind fun x10 =>
              if x10 = 0 then
                j3 ()
              else
                j7 ()
          )
    )
theorem c_7 {a0 : Nat} {a1 : Int32} {a2 : Int32} {th : tH} {x : (Int32 × tH)} (h : m_7 a0 a1 a2 th = some x) : ∃ fs, th[a0]? = some (.inr (7, fs)) := gC_of h
theorem S_7 {L : Nat} (d : Nat) (a0 : Nat) (a1 : Int32) (a2 : Int32) (th : tH) : Wx L (fun x => (some (.int x.1), x.2)) (d + 2) 7 4 0 [(0, .ref a0), (1, .int a1), (2, .int a2)] [] th (m_7 a0 a1 a2 th) := by
  unfold m_7
  refine x_gC ?_
  refine x_P 1 rfl rfl rfl ?_
  refine x_P 2 rfl rfl rfl ?_
  refine x_callV rfl rfl rfl rfl rfl ⟨rfl, rfl⟩ (fun x h => c_60 h) (S_60 (d + 1) a0 a1 th) (fun r1 hr1 => ?_)
  refine x_P (lv' := [(3, va_rf r1), (0, .ref a0), (1, .int a1), (2, .int a2)]) (st' := []) 6 rfl rfl (by rcases r1 with _ | _ <;> rfl) ?_
  refine x_P 7 rfl rfl (t_P_ald_n rfl) ?_
  refine x_jn 26 (fun v2 => [(0, .ref a0)]) (fun v2 => []) (fun v2 => th) (fun v2 => ?_) (fun j3 hj3 => ?_)
  · refine x_P 27 rfl rfl rfl ?_
    refine x_P 29 rfl rfl rfl ?_
    refine x_callV rfl rfl rfl rfl rfl ⟨rfl, rfl⟩ (fun x h => c_59 h) (S_59 d a0 (Int8.ofInt (-2)).toInt32 th) (fun q4 hq4 => ?_)
    exact x_retI (x := (q4.1, q4.2)) rfl
  · rcases r1 with _ | o5
    · refine x_P 26 rfl rfl rfl ?_
      exact x_lv (hj3 ()) ⟨rfl, trivial⟩
    · refine x_P 10 rfl rfl rfl ?_
      refine x_P 11 rfl rfl rfl ?_
      refine x_P 12 rfl rfl rfl ?_
      refine x_jn 33 (fun v6 => [(2, .int a2), (3, .ref o5)]) (fun v6 => []) (fun v6 => th) (fun v6 => ?_) (fun j7 hj7 => ?_)
      · refine x_P 34 rfl rfl rfl ?_
        refine x_P 35 rfl rfl rfl ?_
        refine x_callW rfl rfl rfl rfl rfl ⟨rfl, rfl⟩ (fun x h => c_156 h) (S_156 d o5 a2 th) (fun th8 hth8 => ?_)
        refine x_P 39 rfl rfl rfl ?_
        exact x_retI (x := ((Int32.ofInt 1), th8)) rfl
      · refine x_ic_eq rfl rfl (fun h12 => ?_) (fun h12 => ?_)
        · exact x_lv (hj7 ()) ⟨rfl, rfl, trivial⟩
        · refine x_P 16 rfl rfl rfl ?_
          refine x_gN rfl (fun o9 ho9 => ?_)
          refine x_P 20 rfl rfl rfl ?_
          refine x_callV rfl rfl rfl rfl rfl ⟨rfl, rfl⟩ (fun x h => c_81 h) (S_81 (d + 1) o9 a2 th) (fun x10 hx10 => ?_)
          refine x_if_ne rfl rfl (fun h11 => ?_) (fun h11 => ?_)
          · exact x_lv (hj3 ()) ⟨rfl, trivial⟩
          · exact x_lv (hj7 ()) ⟨rfl, rfl, trivial⟩
-- 85 NineTrees$Garden.isOf(II)Z
noncomputable def m_85 (a0 : Nat) (a1 : Int32) (a2 : Int32) (th : tH) : Option (Int32) :=
  (gC th 2 a0).bind fun _ =>
  (gN th 2 a0 0).bind fun o1 =>
  (aI th o1 a1).bind fun x2 =>
  jn (fun (v3 : Int32) =>
      rB v3
    ) (fun j4 =>
      jn (fun (v5 : Unit) =>
          j4 (Int32.ofInt 1)
        ) (fun j6 =>
          if x2 = a2 then
            j6 ()
          else
            if a2 = 0 then
              j6 ()
            else
              jn (fun (v7 : Unit) =>
                  jn (fun (v9 : Unit) =>
                      j4 (Int32.ofInt 0)
                    ) (fun j10 =>
                      if x2 = (Int32.ofInt 5) then
                        if a2 = (Int32.ofInt 2) then
                          j6 ()
                        else
                          j10 ()
                      else
                        j10 ()
                    )
                ) (fun j8 =>
                  if x2 = (Int32.ofInt 3) then
                    if a2 = (Int32.ofInt 1) then
                      j6 ()
                    else
                      j8 ()
                  else
                    j8 ()
                )
        )
    )
theorem c_85 {a0 : Nat} {a1 : Int32} {a2 : Int32} {th : tH} {x : (Int32)} (h : m_85 a0 a1 a2 th = some x) : ∃ fs, th[a0]? = some (.inr (2, fs)) := gC_of h
theorem S_85 {L : Nat} (d : Nat) (a0 : Nat) (a1 : Int32) (a2 : Int32) (th : tH) : Wx L (fun x => (some (.int x), th)) d 85 4 0 [(0, .ref a0), (1, .int a1), (2, .int a2)] [] th (m_85 a0 a1 a2 th) := by
  unfold m_85
  refine x_gC ?_
  refine x_P 1 rfl rfl rfl ?_
  refine x_gN rfl (fun o1 ho1 => ?_)
  refine x_P 5 rfl rfl rfl ?_
  refine x_aI rfl ⟨rfl, rfl⟩ (fun x2 hx2 => ?_)
  refine x_P (lv' := [(3, .int x2), (0, .ref a0), (1, .int a1), (2, .int a2)]) 7 rfl rfl rfl ?_
  refine x_P 8 rfl rfl rfl ?_
  refine x_P 9 rfl rfl rfl ?_
  refine x_jn 41 (fun v3 => []) (fun v3 => [.int v3]) (fun v3 => th) (fun v3 => ?_) (fun j4 hj4 => ?_)
  · exact x_rB rfl
  · refine x_jn 36 (fun v5 => []) (fun v5 => []) (fun v5 => th) (fun v5 => ?_) (fun j6 hj6 => ?_)
    · refine x_P 37 rfl rfl rfl ?_
      refine x_P 41 rfl rfl rfl ?_
      exact x_lv (hj4 (Int32.ofInt 1)) trivial
    · refine x_ic_eq rfl rfl (fun h16 => ?_) (fun h16 => ?_)
      · exact x_lv (hj6 ()) trivial
      · refine x_P 13 rfl rfl rfl ?_
        refine x_if_eq rfl rfl (fun h15 => ?_) (fun h15 => ?_)
        · exact x_lv (hj6 ()) trivial
        · refine x_P 17 rfl rfl rfl ?_
          refine x_P 18 rfl rfl rfl ?_
          refine x_jn 26 (fun v7 => [(2, .int a2), (3, .int x2)]) (fun v7 => []) (fun v7 => th) (fun v7 => ?_) (fun j8 hj8 => ?_)
          · refine x_P 27 rfl rfl rfl ?_
            refine x_P 28 rfl rfl rfl ?_
            refine x_jn 40 (fun v9 => []) (fun v9 => []) (fun v9 => th) (fun v9 => ?_) (fun j10 hj10 => ?_)
            · refine x_P 41 rfl rfl rfl ?_
              exact x_lv (hj4 (Int32.ofInt 0)) trivial
            · refine x_ic_ne rfl rfl (fun h12 => ?_) (fun h12 => ?_)
              · refine x_P 32 rfl rfl rfl ?_
                refine x_P 33 rfl rfl rfl ?_
                refine x_ic_ne rfl rfl (fun h11 => ?_) (fun h11 => ?_)
                · exact x_lv (hj6 ()) trivial
                · exact x_lv (hj10 ()) trivial
              · exact x_lv (hj10 ()) trivial
          · refine x_ic_ne rfl rfl (fun h14 => ?_) (fun h14 => ?_)
            · refine x_P 22 rfl rfl rfl ?_
              refine x_P 23 rfl rfl rfl ?_
              refine x_ic_eq rfl rfl (fun h13 => ?_) (fun h13 => ?_)
              · exact x_lv (hj6 ()) trivial
              · exact x_lv (hj8 ()) ⟨rfl, rfl, trivial⟩
            · exact x_lv (hj8 ()) ⟨rfl, rfl, trivial⟩
-- 72 NineTrees$Garden.rowOf(I)I
noncomputable def m_72 (a0 : Nat) (a1 : Int32) (th : tH) : Option (Int32) :=
  (gC th 2 a0).bind fun _ =>
  (gI th 2 a0 4).bind fun x1 =>
  jn (fun (v2 : Int32) =>
      some v2
    ) (fun j3 =>
      if (Int32.ofInt 1) ≤ x1 then
        (gI th 2 a0 4).bind fun x4 =>
        (dvI a1 x4).bind fun x5 =>
        j3 x5
      else
        j3 (Int32.ofInt 0)
    )
theorem c_72 {a0 : Nat} {a1 : Int32} {th : tH} {x : (Int32)} (h : m_72 a0 a1 th = some x) : ∃ fs, th[a0]? = some (.inr (2, fs)) := gC_of h
theorem S_72 {L : Nat} (d : Nat) (a0 : Nat) (a1 : Int32) (th : tH) : Wx L (fun x => (some (.int x), th)) d 72 2 0 [(0, .ref a0), (1, .int a1)] [] th (m_72 a0 a1 th) := by
  unfold m_72
  refine x_gC ?_
  refine x_P 1 rfl rfl rfl ?_
  refine x_gI rfl (fun x1 hx1 => ?_)
  refine x_P 5 rfl rfl rfl ?_
  refine x_jn 18 (fun v2 => []) (fun v2 => [.int v2]) (fun v2 => th) (fun v2 => ?_) (fun j3 hj3 => ?_)
  · exact x_retI (x := v2) rfl
  · refine x_ic_ge rfl rfl (fun h6 => ?_) (fun h6 => ?_)
    · refine x_P 13 rfl rfl rfl ?_
      refine x_P 14 rfl rfl rfl ?_
      refine x_gI rfl (fun x4 hx4 => ?_)
      refine x_dv rfl rfl (fun x5 hx5 => ?_)
      exact x_lv (hj3 x5) trivial
    · refine x_P 9 rfl rfl rfl ?_
      refine x_P 18 rfl rfl rfl ?_
      exact x_lv (hj3 (Int32.ofInt 0)) trivial
-- 73 NineTrees$Garden.columnOf(I)I
noncomputable def m_73 (a0 : Nat) (a1 : Int32) (th : tH) : Option (Int32) :=
  (gC th 2 a0).bind fun _ =>
  (gI th 2 a0 4).bind fun x1 =>
  jn (fun (v2 : Int32) =>
      some v2
    ) (fun j3 =>
      if (Int32.ofInt 1) ≤ x1 then
        (gI th 2 a0 4).bind fun x4 =>
        (rmI a1 x4).bind fun x5 =>
        j3 x5
      else
        j3 (Int32.ofInt 0)
    )
theorem c_73 {a0 : Nat} {a1 : Int32} {th : tH} {x : (Int32)} (h : m_73 a0 a1 th = some x) : ∃ fs, th[a0]? = some (.inr (2, fs)) := gC_of h
theorem S_73 {L : Nat} (d : Nat) (a0 : Nat) (a1 : Int32) (th : tH) : Wx L (fun x => (some (.int x), th)) d 73 2 0 [(0, .ref a0), (1, .int a1)] [] th (m_73 a0 a1 th) := by
  unfold m_73
  refine x_gC ?_
  refine x_P 1 rfl rfl rfl ?_
  refine x_gI rfl (fun x1 hx1 => ?_)
  refine x_P 5 rfl rfl rfl ?_
  refine x_jn 18 (fun v2 => []) (fun v2 => [.int v2]) (fun v2 => th) (fun v2 => ?_) (fun j3 hj3 => ?_)
  · exact x_retI (x := v2) rfl
  · refine x_ic_ge rfl rfl (fun h6 => ?_) (fun h6 => ?_)
    · refine x_P 13 rfl rfl rfl ?_
      refine x_P 14 rfl rfl rfl ?_
      refine x_gI rfl (fun x4 hx4 => ?_)
      refine x_rm rfl rfl (fun x5 hx5 => ?_)
      exact x_lv (hj3 x5) trivial
    · refine x_P 9 rfl rfl rfl ?_
      refine x_P 18 rfl rfl rfl ?_
      exact x_lv (hj3 (Int32.ofInt 0)) trivial
-- 79 NineTrees$Garden.doubleArea(III)I
noncomputable def m_79 (a0 : Nat) (a1 : Int32) (a2 : Int32) (a3 : Int32) (th : tH) : Option (Int32) :=
  (gC th 2 a0).bind fun _ =>
  (m_72 a0 a1 th).bind fun x1 =>
  (m_73 a0 a1 th).bind fun x2 =>
  (m_72 a0 a2 th).bind fun x3 =>
  (m_73 a0 a3 th).bind fun x4 =>
  (m_73 a0 a2 th).bind fun x5 =>
  (m_72 a0 a3 th).bind fun x6 =>
  some (((x3 - x1) * (x4 - x2)) - ((x5 - x2) * (x6 - x1)))
theorem c_79 {a0 : Nat} {a1 : Int32} {a2 : Int32} {a3 : Int32} {th : tH} {x : (Int32)} (h : m_79 a0 a1 a2 a3 th = some x) : ∃ fs, th[a0]? = some (.inr (2, fs)) := gC_of h
theorem S_79 {L : Nat} (d : Nat) (a0 : Nat) (a1 : Int32) (a2 : Int32) (a3 : Int32) (th : tH) : Wx L (fun x => (some (.int x), th)) (d + 1) 79 6 0 [(0, .ref a0), (1, .int a1), (2, .int a2), (3, .int a3)] [] th (m_79 a0 a1 a2 a3 th) := by
  unfold m_79
  refine x_gC ?_
  refine x_P 1 rfl rfl rfl ?_
  refine x_P 2 rfl rfl rfl ?_
  refine x_callV rfl rfl rfl rfl rfl ⟨rfl, rfl⟩ (fun x h => c_72 h) (S_72 d a0 a1 th) (fun x1 hx1 => ?_)
  refine x_P (lv' := [(4, .int x1), (0, .ref a0), (1, .int a1), (2, .int a2), (3, .int a3)]) 7 rfl rfl rfl ?_
  refine x_P 8 rfl rfl rfl ?_
  refine x_P 9 rfl rfl rfl ?_
  refine x_callV rfl rfl rfl rfl rfl ⟨rfl, rfl⟩ (fun x h => c_73 h) (S_73 d a0 a1 th) (fun x2 hx2 => ?_)
  refine x_P (lv' := [(5, .int x2), (4, .int x1), (0, .ref a0), (1, .int a1), (2, .int a2), (3, .int a3)]) 14 rfl rfl rfl ?_
  refine x_P 15 rfl rfl rfl ?_
  refine x_P 16 rfl rfl rfl ?_
  refine x_callV rfl rfl rfl rfl rfl ⟨rfl, rfl⟩ (fun x h => c_72 h) (S_72 d a0 a2 th) (fun x3 hx3 => ?_)
  refine x_P 21 rfl rfl rfl ?_
  refine x_P 22 rfl rfl rfl ?_
  refine x_P 23 rfl rfl rfl ?_
  refine x_P 24 rfl rfl rfl ?_
  refine x_callV rfl rfl rfl rfl rfl ⟨rfl, rfl⟩ (fun x h => c_73 h) (S_73 d a0 a3 th) (fun x4 hx4 => ?_)
  refine x_P 29 rfl rfl rfl ?_
  refine x_P 30 rfl rfl rfl ?_
  refine x_P 31 rfl rfl rfl ?_
  refine x_P 32 rfl rfl rfl ?_
  refine x_P 33 rfl rfl rfl ?_
  refine x_callV rfl rfl rfl rfl rfl ⟨rfl, rfl⟩ (fun x h => c_73 h) (S_73 d a0 a2 th) (fun x5 hx5 => ?_)
  refine x_P 38 rfl rfl rfl ?_
  refine x_P 39 rfl rfl rfl ?_
  refine x_P 40 rfl rfl rfl ?_
  refine x_P 41 rfl rfl rfl ?_
  refine x_callV rfl rfl rfl rfl rfl ⟨rfl, rfl⟩ (fun x h => c_72 h) (S_72 d a0 a3 th) (fun x6 hx6 => ?_)
  refine x_P 46 rfl rfl rfl ?_
  refine x_P 47 rfl rfl rfl ?_
  refine x_P 48 rfl rfl rfl ?_
  refine x_P 49 rfl rfl rfl ?_
  exact x_retI (x := (((x3 - x1) * (x4 - x2)) - ((x5 - x2) * (x6 - x1)))) rfl
-- 92 NineTrees$Garden.rowOfTwo(II)I
noncomputable def m_92 (a0 : Nat) (a1 : Int32) (a2 : Int32) (th : tH) : Option (Int32) :=
  (gC th 2 a0).bind fun _ =>
  lp (fun (s1 : Int32 × Int32) nx2 ex3 =>
      (gI th 2 a0 5).bind fun x5 =>
      if x5 ≤ s1.2 then
        ex3 s1.1
      else
        (m_85 a0 s1.2 (Int32.ofInt 4) th).bind fun x6 =>
        jn (fun (v7 : Int32) =>
            nx2 (v7, (s1.2 + Int32.ofInt 1))
          ) (fun j8 =>
            if x6 = 0 then
              (gN th 2 a0 1).bind fun o9 =>
              (aI th o9 a1).bind fun x10 =>
              (gN th 2 a0 1).bind fun o11 =>
              (aI th o11 a2).bind fun x12 =>
              (gN th 2 a0 1).bind fun o13 =>
              (aI th o13 s1.2).bind fun x14 =>
              (m_79 a0 x10 x12 x14 th).bind fun x15 =>
              if x15 = 0 then
                j8 (s1.1 ||| ((Int32.ofInt 1) <<< (s1.2 &&& 31)))
              else
                j8 s1.1
            else
              j8 s1.1
          )
    ) 4096 ((Int32.ofInt 0), (Int32.ofInt 0)) (fun (x4 : Int32) =>
      some x4
    )
theorem c_92 {a0 : Nat} {a1 : Int32} {a2 : Int32} {th : tH} {x : (Int32)} (h : m_92 a0 a1 a2 th = some x) : ∃ fs, th[a0]? = some (.inr (2, fs)) := gC_of h
theorem S_92 {L : Nat} (d : Nat) (a0 : Nat) (a1 : Int32) (a2 : Int32) (th : tH) : Wx L (fun x => (some (.int x), th)) (d + 2) 92 5 0 [(0, .ref a0), (1, .int a1), (2, .int a2)] [] th (m_92 a0 a1 a2 th) := by
  unfold m_92
  refine x_gC ?_
  refine x_P 1 rfl rfl rfl ?_
  refine x_P (lv' := [(3, .int (Int32.ofInt 0)), (0, .ref a0), (1, .int a1), (2, .int a2)]) 2 rfl rfl rfl ?_
  refine x_P 3 rfl rfl rfl ?_
  refine x_P (lv' := [(4, .int (Int32.ofInt 0)), (3, .int (Int32.ofInt 0)), (0, .ref a0), (1, .int a1), (2, .int a2)]) 5 rfl rfl rfl ?_
  refine x_lv (lv := [(0, .ref a0), (1, .int a1), (2, .int a2), (3, .int (Int32.ofInt 0)), (4, .int (Int32.ofInt 0))]) (x_lp 63 (fun s1 => [(0, .ref a0), (1, .int a1), (2, .int a2), (3, .int s1.1), (4, .int s1.2)]) (fun s1 => th) (fun x4 => [(3, .int x4)]) (fun x4 => th) (fun s1 nx2 hnx2 ex3 hex3 => ?_) (fun x4 => ?_) 4096 ((Int32.ofInt 0), (Int32.ofInt 0))) ⟨rfl, rfl, rfl, rfl, rfl, trivial⟩
  · refine x_P 7 rfl rfl rfl ?_
    refine x_P 8 rfl rfl rfl ?_
    refine x_gI rfl (fun x5 hx5 => ?_)
    refine x_ic_ge rfl rfl (fun h18 => ?_) (fun h18 => ?_)
    · exact x_lv (hex3 s1.1) ⟨rfl, trivial⟩
    · refine x_P 15 rfl rfl rfl ?_
      refine x_P 17 rfl rfl rfl ?_
      refine x_P 18 rfl rfl rfl ?_
      refine x_callV rfl rfl rfl rfl rfl ⟨rfl, rfl⟩ (fun x h => c_85 h) (S_85 (d + 1) a0 s1.2 (Int32.ofInt 4) th) (fun x6 hx6 => ?_)
      refine x_jn 57 (fun v7 => [(0, .ref a0), (1, .int a1), (2, .int a2), (3, .int v7), (4, .int s1.2)]) (fun v7 => []) (fun v7 => th) (fun v7 => ?_) (fun j8 hj8 => ?_)
      · refine x_P (lv' := [(4, .int (s1.2 + Int32.ofInt 1)), (0, .ref a0), (1, .int a1), (2, .int a2), (3, .int v7)]) 60 rfl rfl rfl ?_
        refine x_P 5 rfl rfl rfl ?_
        exact x_lv (hnx2 (v7, (s1.2 + Int32.ofInt 1))) ⟨rfl, rfl, rfl, rfl, rfl, trivial⟩
      · refine x_if_ne rfl rfl (fun h17 => ?_) (fun h17 => ?_)
        · refine x_P 25 rfl rfl rfl ?_
          refine x_P 26 rfl rfl rfl ?_
          refine x_gN rfl (fun o9 ho9 => ?_)
          refine x_P 30 rfl rfl rfl ?_
          refine x_aI rfl ⟨rfl, rfl⟩ (fun x10 hx10 => ?_)
          refine x_P 32 rfl rfl rfl ?_
          refine x_gN rfl (fun o11 ho11 => ?_)
          refine x_P 36 rfl rfl rfl ?_
          refine x_aI rfl ⟨rfl, rfl⟩ (fun x12 hx12 => ?_)
          refine x_P 38 rfl rfl rfl ?_
          refine x_gN rfl (fun o13 ho13 => ?_)
          refine x_P 43 rfl rfl rfl ?_
          refine x_aI rfl ⟨rfl, rfl⟩ (fun x14 hx14 => ?_)
          refine x_callV rfl rfl rfl rfl rfl ⟨rfl, rfl⟩ (fun x h => c_79 h) (S_79 d a0 x10 x12 x14 th) (fun x15 hx15 => ?_)
          refine x_if_ne rfl rfl (fun h16 => ?_) (fun h16 => ?_)
          · refine x_P 51 rfl rfl rfl ?_
            refine x_P 52 rfl rfl rfl ?_
            refine x_P 54 rfl rfl rfl ?_
            refine x_P 55 rfl rfl rfl ?_
            refine x_P 56 rfl rfl rfl ?_
            refine x_P (lv' := [(3, .int (s1.1 ||| ((Int32.ofInt 1) <<< (s1.2 &&& 31)))), (0, .ref a0), (1, .int a1), (2, .int a2), (4, .int s1.2)]) 57 rfl rfl rfl ?_
            exact x_lv (hj8 (s1.1 ||| ((Int32.ofInt 1) <<< (s1.2 &&& 31)))) ⟨rfl, rfl, rfl, rfl, rfl, trivial⟩
          · exact x_lv (hj8 s1.1) ⟨rfl, rfl, rfl, rfl, rfl, trivial⟩
        · exact x_lv (hj8 s1.1) ⟨rfl, rfl, rfl, rfl, rfl, trivial⟩
  · refine x_P 64 rfl rfl rfl ?_
    exact x_retI (x := x4) rfl
-- 172 java/lang/Integer.numberOfTrailingZeros(I)I
noncomputable def m_172 (a0 : Int32) (th : tH) : Option (Int32) :=
  if 0 < ((a0 ^^^ (Int32.ofInt (-1))) &&& (a0 - (Int32.ofInt 1))) then
    jn (fun (v1 : Int32 × Int32) =>
        jn (fun (v3 : Int32 × Int32) =>
            jn (fun (v5 : Int32 × Int32) =>
                jn (fun (v7 : Int32 × Int32) =>
                    some (v7.2 + (Int32.toUInt32 v7.1 >>> (Int32.toUInt32 (Int32.ofInt 1) &&& Int32.toUInt32 31)).toInt32)
                  ) (fun j8 =>
                    if v5.1 ≤ (Int32.ofInt 4) then
                      j8 (v5.1, v5.2)
                    else
                      j8 ((Int32.toUInt32 v5.1 >>> (Int32.toUInt32 (Int32.ofInt 2) &&& Int32.toUInt32 31)).toInt32, (v5.2 + Int32.ofInt 2))
                  )
              ) (fun j6 =>
                if v3.1 ≤ (Int8.ofInt 16).toInt32 then
                  j6 (v3.1, v3.2)
                else
                  j6 ((Int32.toUInt32 v3.1 >>> (Int32.toUInt32 (Int32.ofInt 4) &&& Int32.toUInt32 31)).toInt32, (v3.2 + Int32.ofInt 4))
              )
          ) (fun j4 =>
            if v1.1 ≤ (Int16.ofInt 256).toInt32 then
              j4 (v1.1, v1.2)
            else
              j4 ((Int32.toUInt32 v1.1 >>> (Int32.toUInt32 (Int8.ofInt 8).toInt32 &&& Int32.toUInt32 31)).toInt32, (v1.2 + Int32.ofInt 8))
          )
      ) (fun j2 =>
        if ((a0 ^^^ (Int32.ofInt (-1))) &&& (a0 - (Int32.ofInt 1))) ≤ (Int32.ofNat 65536) then
          j2 (((a0 ^^^ (Int32.ofInt (-1))) &&& (a0 - (Int32.ofInt 1))), (Int32.ofInt 1))
        else
          j2 ((Int32.toUInt32 ((a0 ^^^ (Int32.ofInt (-1))) &&& (a0 - (Int32.ofInt 1))) >>> (Int32.toUInt32 (Int8.ofInt 16).toInt32 &&& Int32.toUInt32 31)).toInt32, ((Int32.ofInt 1) + Int32.ofInt 16))
      )
  else
    some (((a0 ^^^ (Int32.ofInt (-1))) &&& (a0 - (Int32.ofInt 1))) &&& (Int8.ofInt 32).toInt32)
theorem S_172 {L : Nat} (d : Nat) (a0 : Int32) (th : tH) : Wx L (fun x => (some (.int x), th)) d 172 2 0 [(0, .int a0)] [] th (m_172 a0 th) := by
  unfold m_172
  refine x_P 1 rfl rfl rfl ?_
  refine x_P 2 rfl rfl rfl ?_
  refine x_P 3 rfl rfl rfl ?_
  refine x_P 4 rfl rfl rfl ?_
  refine x_P 5 rfl rfl rfl ?_
  refine x_P 6 rfl rfl rfl ?_
  refine x_P 7 rfl rfl rfl ?_
  refine x_P (lv' := [(0, .int ((a0 ^^^ (Int32.ofInt (-1))) &&& (a0 - (Int32.ofInt 1))))]) 8 rfl rfl rfl ?_
  refine x_P 9 rfl rfl rfl ?_
  refine x_if_gt rfl rfl (fun h13 => ?_) (fun h13 => ?_)
  · refine x_P 18 rfl rfl rfl ?_
    refine x_P (lv' := [(1, .int (Int32.ofInt 1)), (0, .int ((a0 ^^^ (Int32.ofInt (-1))) &&& (a0 - (Int32.ofInt 1))))]) 19 rfl rfl rfl ?_
    refine x_P 20 rfl rfl rfl ?_
    refine x_P 23 rfl rfl rfl ?_
    refine x_jn 34 (fun v1 => [(0, .int v1.1), (1, .int v1.2)]) (fun v1 => []) (fun v1 => th) (fun v1 => ?_) (fun j2 hj2 => ?_)
    · refine x_P 35 rfl rfl rfl ?_
      refine x_P 38 rfl rfl rfl ?_
      refine x_jn 49 (fun v3 => [(0, .int v3.1), (1, .int v3.2)]) (fun v3 => []) (fun v3 => th) (fun v3 => ?_) (fun j4 hj4 => ?_)
      · refine x_P 50 rfl rfl rfl ?_
        refine x_P 52 rfl rfl rfl ?_
        refine x_jn 62 (fun v5 => [(0, .int v5.1), (1, .int v5.2)]) (fun v5 => []) (fun v5 => th) (fun v5 => ?_) (fun j6 hj6 => ?_)
        · refine x_P 63 rfl rfl rfl ?_
          refine x_P 64 rfl rfl rfl ?_
          refine x_jn 74 (fun v7 => [(0, .int v7.1), (1, .int v7.2)]) (fun v7 => []) (fun v7 => th) (fun v7 => ?_) (fun j8 hj8 => ?_)
          · refine x_P 75 rfl rfl rfl ?_
            refine x_P 76 rfl rfl rfl ?_
            refine x_P 77 rfl rfl rfl ?_
            refine x_P 78 rfl rfl rfl ?_
            refine x_P 79 rfl rfl rfl ?_
            exact x_retI (x := (v7.2 + (Int32.toUInt32 v7.1 >>> (Int32.toUInt32 (Int32.ofInt 1) &&& Int32.toUInt32 31)).toInt32)) rfl
          · refine x_ic_le rfl rfl (fun h9 => ?_) (fun h9 => ?_)
            · exact x_lv (hj8 (v5.1, v5.2)) ⟨rfl, rfl, trivial⟩
            · refine x_P (lv' := [(1, .int (v5.2 + Int32.ofInt 2)), (0, .int v5.1)]) 70 rfl rfl rfl ?_
              refine x_P 71 rfl rfl rfl ?_
              refine x_P 72 rfl rfl rfl ?_
              refine x_P 73 rfl rfl rfl ?_
              refine x_P (lv' := [(0, .int (Int32.toUInt32 v5.1 >>> (Int32.toUInt32 (Int32.ofInt 2) &&& Int32.toUInt32 31)).toInt32), (1, .int (v5.2 + Int32.ofInt 2))]) 74 rfl rfl rfl ?_
              exact x_lv (hj8 ((Int32.toUInt32 v5.1 >>> (Int32.toUInt32 (Int32.ofInt 2) &&& Int32.toUInt32 31)).toInt32, (v5.2 + Int32.ofInt 2))) ⟨rfl, rfl, trivial⟩
        · refine x_ic_le rfl rfl (fun h10 => ?_) (fun h10 => ?_)
          · exact x_lv (hj6 (v3.1, v3.2)) ⟨rfl, rfl, trivial⟩
          · refine x_P (lv' := [(1, .int (v3.2 + Int32.ofInt 4)), (0, .int v3.1)]) 58 rfl rfl rfl ?_
            refine x_P 59 rfl rfl rfl ?_
            refine x_P 60 rfl rfl rfl ?_
            refine x_P 61 rfl rfl rfl ?_
            refine x_P (lv' := [(0, .int (Int32.toUInt32 v3.1 >>> (Int32.toUInt32 (Int32.ofInt 4) &&& Int32.toUInt32 31)).toInt32), (1, .int (v3.2 + Int32.ofInt 4))]) 62 rfl rfl rfl ?_
            exact x_lv (hj6 ((Int32.toUInt32 v3.1 >>> (Int32.toUInt32 (Int32.ofInt 4) &&& Int32.toUInt32 31)).toInt32, (v3.2 + Int32.ofInt 4))) ⟨rfl, rfl, trivial⟩
      · refine x_ic_le rfl rfl (fun h11 => ?_) (fun h11 => ?_)
        · exact x_lv (hj4 (v1.1, v1.2)) ⟨rfl, rfl, trivial⟩
        · refine x_P (lv' := [(1, .int (v1.2 + Int32.ofInt 8)), (0, .int v1.1)]) 44 rfl rfl rfl ?_
          refine x_P 45 rfl rfl rfl ?_
          refine x_P 47 rfl rfl rfl ?_
          refine x_P 48 rfl rfl rfl ?_
          refine x_P (lv' := [(0, .int (Int32.toUInt32 v1.1 >>> (Int32.toUInt32 (Int8.ofInt 8).toInt32 &&& Int32.toUInt32 31)).toInt32), (1, .int (v1.2 + Int32.ofInt 8))]) 49 rfl rfl rfl ?_
          exact x_lv (hj4 ((Int32.toUInt32 v1.1 >>> (Int32.toUInt32 (Int8.ofInt 8).toInt32 &&& Int32.toUInt32 31)).toInt32, (v1.2 + Int32.ofInt 8))) ⟨rfl, rfl, trivial⟩
    · refine x_ic_le rfl rfl (fun h12 => ?_) (fun h12 => ?_)
      · exact x_lv (hj2 (((a0 ^^^ (Int32.ofInt (-1))) &&& (a0 - (Int32.ofInt 1))), (Int32.ofInt 1))) ⟨rfl, rfl, trivial⟩
      · refine x_P (lv' := [(1, .int ((Int32.ofInt 1) + Int32.ofInt 16)), (0, .int ((a0 ^^^ (Int32.ofInt (-1))) &&& (a0 - (Int32.ofInt 1))))]) 29 rfl rfl rfl ?_
        refine x_P 30 rfl rfl rfl ?_
        refine x_P 32 rfl rfl rfl ?_
        refine x_P 33 rfl rfl rfl ?_
        refine x_P (lv' := [(0, .int (Int32.toUInt32 ((a0 ^^^ (Int32.ofInt (-1))) &&& (a0 - (Int32.ofInt 1))) >>> (Int32.toUInt32 (Int8.ofInt 16).toInt32 &&& Int32.toUInt32 31)).toInt32), (1, .int ((Int32.ofInt 1) + Int32.ofInt 16))]) 34 rfl rfl rfl ?_
        exact x_lv (hj2 ((Int32.toUInt32 ((a0 ^^^ (Int32.ofInt (-1))) &&& (a0 - (Int32.ofInt 1))) >>> (Int32.toUInt32 (Int8.ofInt 16).toInt32 &&& Int32.toUInt32 31)).toInt32, ((Int32.ofInt 1) + Int32.ofInt 16))) ⟨rfl, rfl, trivial⟩
  · refine x_P 13 rfl rfl rfl ?_
    refine x_P 15 rfl rfl rfl ?_
    refine x_P 16 rfl rfl rfl ?_
    exact x_retI (x := (((a0 ^^^ (Int32.ofInt (-1))) &&& (a0 - (Int32.ofInt 1))) &&& (Int8.ofInt 32).toInt32)) rfl
-- 65 NineTrees.firstOf(I)I
noncomputable def m_65 (a0 : Int32) (th : tH) : Option (Int32) :=
  (m_172 a0 th).bind fun x1 =>
  some x1
theorem S_65 {L : Nat} (d : Nat) (a0 : Int32) (th : tH) : Wx L (fun x => (some (.int x), th)) (d + 1) 65 1 0 [(0, .int a0)] [] th (m_65 a0 th) := by
  unfold m_65
  refine x_P 1 rfl rfl rfl ?_
  refine x_callS rfl rfl rfl rfl rfl rfl ⟨rfl, rfl⟩ (S_172 d a0 th) (fun x1 hx1 => ?_)
  exact x_retI (x := x1) rfl
-- 66 NineTrees.secondOf(I)I
noncomputable def m_66 (a0 : Int32) (th : tH) : Option (Int32) :=
  (m_172 (a0 &&& (a0 - (Int32.ofInt 1))) th).bind fun x1 =>
  some x1
theorem S_66 {L : Nat} (d : Nat) (a0 : Int32) (th : tH) : Wx L (fun x => (some (.int x), th)) (d + 1) 66 1 0 [(0, .int a0)] [] th (m_66 a0 th) := by
  unfold m_66
  refine x_P 1 rfl rfl rfl ?_
  refine x_P 2 rfl rfl rfl ?_
  refine x_P 3 rfl rfl rfl ?_
  refine x_P 4 rfl rfl rfl ?_
  refine x_P 5 rfl rfl rfl ?_
  refine x_callS rfl rfl rfl rfl rfl rfl ⟨rfl, rfl⟩ (S_172 d (a0 &&& (a0 - (Int32.ofInt 1))) th) (fun x1 hx1 => ?_)
  exact x_retI (x := x1) rfl
-- 104 NineTrees$RowList.insert(I)V
noncomputable def m_104 (a0 : Nat) (a1 : Int32) (th : tH) : Option tH :=
  (gC th 4 a0).bind fun _ =>
  (gI th 4 a0 1).bind fun x1 =>
  (gN th 4 a0 0).bind fun o2 =>
  (aL th o2).bind fun x3 =>
  if x1 < x3 then
    (gI th 4 a0 1).bind fun x4 =>
    lp (fun (s5 : Int32 × tH) nx6 ex7 =>
        if s5.1 ≤ 0 then
          ex7 (s5.1, s5.2)
        else
          (gN s5.2 4 a0 0).bind fun o13 =>
          (aI s5.2 o13 (s5.1 - (Int32.ofInt 1))).bind fun x14 =>
          if x14 ≤ a1 then
            ex7 (s5.1, s5.2)
          else
            (gN s5.2 4 a0 0).bind fun o15 =>
            (gN s5.2 4 a0 0).bind fun o16 =>
            (aI s5.2 o16 (s5.1 - (Int32.ofInt 1))).bind fun x17 =>
            (sI s5.2 o15 s5.1 x17).bind fun th18 =>
            nx6 ((s5.1 + Int32.ofInt (-1)), th18)
      ) 4096 (x4, th) (fun (x8 : Int32 × tH) =>
        (gN x8.2 4 a0 0).bind fun o9 =>
        (sI x8.2 o9 x8.1 a1).bind fun th10 =>
        (gI th10 4 a0 1).bind fun x11 =>
        (pI th10 4 a0 1 (x11 + (Int32.ofInt 1))).bind fun th12 =>
        some th12
      )
  else
    some th
theorem c_104 {a0 : Nat} {a1 : Int32} {th : tH} {x : tH} (h : m_104 a0 a1 th = some x) : ∃ fs, th[a0]? = some (.inr (4, fs)) := gC_of h
theorem S_104 {L : Nat} (d : Nat) (a0 : Nat) (a1 : Int32) (th : tH) : Wx L (fun x => (none, x)) (d + 1) 104 3 0 [(0, .ref a0), (1, .int a1)] [] th (m_104 a0 a1 th) := by
  unfold m_104
  refine x_gC ?_
  refine x_P 1 rfl rfl rfl ?_
  refine x_gI rfl (fun x1 hx1 => ?_)
  refine x_P 5 rfl rfl rfl ?_
  refine x_gN rfl (fun o2 ho2 => ?_)
  refine x_aL rfl ⟨rfl, rfl⟩ (fun x3 hx3 => ?_)
  refine x_ic_lt rfl rfl (fun h21 => ?_) (fun h21 => ?_)
  · refine x_P 14 rfl rfl rfl ?_
    refine x_gI rfl (fun x4 hx4 => ?_)
    refine x_P (lv' := [(2, .int x4), (0, .ref a0), (1, .int a1)]) 18 rfl rfl rfl ?_
    refine x_lv (lv := [(0, .ref a0), (1, .int a1), (2, .int x4)]) (x_lp 54 (fun s5 => [(0, .ref a0), (1, .int a1), (2, .int s5.1)]) (fun s5 => s5.2) (fun x8 => [(0, .ref a0), (1, .int a1), (2, .int x8.1)]) (fun x8 => x8.2) (fun s5 nx6 hnx6 ex7 hex7 => ?_) (fun x8 => ?_) 4096 (x4, th)) ⟨rfl, rfl, rfl, trivial⟩
    · refine x_P 19 rfl rfl rfl ?_
      refine x_if_le rfl rfl (fun h20 => ?_) (fun h20 => ?_)
      · exact x_lv (hex7 (s5.1, s5.2)) ⟨rfl, rfl, rfl, trivial⟩
      · refine x_P 23 rfl rfl rfl ?_
        refine x_gN rfl (fun o13 ho13 => ?_)
        refine x_P 27 rfl rfl rfl ?_
        refine x_P 28 rfl rfl rfl ?_
        refine x_P 29 rfl rfl rfl ?_
        refine x_aI rfl ⟨rfl, rfl⟩ (fun x14 hx14 => ?_)
        refine x_P 31 rfl rfl rfl ?_
        refine x_ic_le rfl rfl (fun h19 => ?_) (fun h19 => ?_)
        · exact x_lv (hex7 (s5.1, s5.2)) ⟨rfl, rfl, rfl, trivial⟩
        · refine x_P 35 rfl rfl rfl ?_
          refine x_gN rfl (fun o15 ho15 => ?_)
          refine x_P 39 rfl rfl rfl ?_
          refine x_P 40 rfl rfl rfl ?_
          refine x_gN rfl (fun o16 ho16 => ?_)
          refine x_P 44 rfl rfl rfl ?_
          refine x_P 45 rfl rfl rfl ?_
          refine x_P 46 rfl rfl rfl ?_
          refine x_aI rfl ⟨rfl, rfl⟩ (fun x17 hx17 => ?_)
          refine x_sI rfl ⟨rfl, rfl⟩ (fun th18 hth18 => ?_)
          refine x_P (lv' := [(2, .int (s5.1 + Int32.ofInt (-1))), (0, .ref a0), (1, .int a1)]) 51 rfl rfl rfl ?_
          refine x_P 18 rfl rfl rfl ?_
          exact x_lv (hnx6 ((s5.1 + Int32.ofInt (-1)), th18)) ⟨rfl, rfl, rfl, trivial⟩
    · refine x_P 55 rfl rfl rfl ?_
      refine x_gN rfl (fun o9 ho9 => ?_)
      refine x_P 59 rfl rfl rfl ?_
      refine x_P 60 rfl rfl rfl ?_
      refine x_sI rfl ⟨rfl, rfl⟩ (fun th10 hth10 => ?_)
      refine x_P 62 rfl rfl rfl ?_
      refine x_P 63 rfl rfl rfl ?_
      refine x_gI rfl (fun x11 hx11 => ?_)
      refine x_P 67 rfl rfl rfl ?_
      refine x_P 68 rfl rfl rfl ?_
      refine x_pI rfl (fun th12 hth12 => ?_)
      exact x_retV (x := th12) rfl
  · exact x_retV (x := th) rfl
-- 103 NineTrees$RowList.gather(LNineTrees$Garden;)V
noncomputable def m_103 (a0 : Nat) (a1 : Nat) (th : tH) : Option tH :=
  (gC th 4 a0).bind fun _ =>
  (pI th 4 a0 1 (Int32.ofInt 0)).bind fun th1 =>
  lp (fun (s2 : Int32 × tH) nx3 ex4 =>
      (gI s2.2 2 a1 5).bind fun x6 =>
      if x6 ≤ s2.1 then
        ex4 s2.2
      else
        lp (fun (s7 : Int32 × tH) nx8 ex9 =>
            (gI s7.2 2 a1 5).bind fun x11 =>
            if x11 ≤ s7.1 then
              ex9 s7.2
            else
              (m_92 a1 s2.1 s7.1 s7.2).bind fun x12 =>
              (m_65 x12 s7.2).bind fun x13 =>
              jn (fun (v14 : tH) =>
                  nx8 ((s7.1 + Int32.ofInt 1), v14)
                ) (fun j15 =>
                  if x13 = s2.1 then
                    (m_66 x12 s7.2).bind fun x16 =>
                    if x16 = s7.1 then
                      (m_104 a0 x12 s7.2).bind fun th17 =>
                      j15 th17
                    else
                      j15 s7.2
                  else
                    j15 s7.2
                )
          ) 4096 ((s2.1 + (Int32.ofInt 1)), s2.2) (fun (x10 : tH) =>
            nx3 ((s2.1 + Int32.ofInt 1), x10)
          )
    ) 4096 ((Int32.ofInt 0), th1) (fun (x5 : tH) =>
      some x5
    )
theorem c_103 {a0 : Nat} {a1 : Nat} {th : tH} {x : tH} (h : m_103 a0 a1 th = some x) : ∃ fs, th[a0]? = some (.inr (4, fs)) := gC_of h
theorem S_103 {L : Nat} (d : Nat) (a0 : Nat) (a1 : Nat) (th : tH) : Wx L (fun x => (none, x)) (d + 3) 103 5 0 [(0, .ref a0), (1, .ref a1)] [] th (m_103 a0 a1 th) := by
  unfold m_103
  refine x_gC ?_
  refine x_P 1 rfl rfl rfl ?_
  refine x_P 2 rfl rfl rfl ?_
  refine x_pI rfl (fun th1 hth1 => ?_)
  refine x_P 6 rfl rfl rfl ?_
  refine x_P (lv' := [(2, .int (Int32.ofInt 0)), (0, .ref a0), (1, .ref a1)]) 7 rfl rfl rfl ?_
  refine x_lv (lv := [(0, .ref a0), (1, .ref a1), (2, .int (Int32.ofInt 0))]) (x_lp 71 (fun s2 => [(0, .ref a0), (1, .ref a1), (2, .int s2.1)]) (fun s2 => s2.2) (fun x5 => []) (fun x5 => x5) (fun s2 nx3 hnx3 ex4 hex4 => ?_) (fun x5 => ?_) 4096 ((Int32.ofInt 0), th1)) ⟨rfl, rfl, rfl, trivial⟩
  · refine x_P 8 rfl rfl rfl ?_
    refine x_P 9 rfl rfl rfl ?_
    refine x_gI rfl (fun x6 hx6 => ?_)
    refine x_ic_ge rfl rfl (fun h21 => ?_) (fun h21 => ?_)
    · exact x_lv (hex4 s2.2) trivial
    · refine x_P 16 rfl rfl rfl ?_
      refine x_P 17 rfl rfl rfl ?_
      refine x_P 18 rfl rfl rfl ?_
      refine x_P (lv' := [(3, .int (s2.1 + (Int32.ofInt 1))), (0, .ref a0), (1, .ref a1), (2, .int s2.1)]) 19 rfl rfl rfl ?_
      refine x_lv (lv := [(0, .ref a0), (1, .ref a1), (2, .int s2.1), (3, .int (s2.1 + (Int32.ofInt 1)))]) (x_lp 65 (fun s7 => [(0, .ref a0), (1, .ref a1), (2, .int s2.1), (3, .int s7.1)]) (fun s7 => s7.2) (fun x10 => [(0, .ref a0), (1, .ref a1), (2, .int s2.1)]) (fun x10 => x10) (fun s7 nx8 hnx8 ex9 hex9 => ?_) (fun x10 => ?_) 4096 ((s2.1 + (Int32.ofInt 1)), s2.2)) ⟨rfl, rfl, rfl, rfl, trivial⟩
      · refine x_P 20 rfl rfl rfl ?_
        refine x_P 21 rfl rfl rfl ?_
        refine x_gI rfl (fun x11 hx11 => ?_)
        refine x_ic_ge rfl rfl (fun h20 => ?_) (fun h20 => ?_)
        · exact x_lv (hex9 s7.2) ⟨rfl, rfl, rfl, trivial⟩
        · refine x_P 28 rfl rfl rfl ?_
          refine x_P 29 rfl rfl rfl ?_
          refine x_P 30 rfl rfl rfl ?_
          refine x_callV rfl rfl rfl rfl rfl ⟨rfl, rfl⟩ (fun x h => c_92 h) (S_92 d a1 s2.1 s7.1 s7.2) (fun x12 hx12 => ?_)
          refine x_P (lv' := [(4, .int x12), (0, .ref a0), (1, .ref a1), (2, .int s2.1), (3, .int s7.1)]) 35 rfl rfl rfl ?_
          refine x_P 37 rfl rfl rfl ?_
          refine x_callS rfl rfl rfl rfl rfl rfl ⟨rfl, rfl⟩ (S_65 (d + 1) x12 s7.2) (fun x13 hx13 => ?_)
          refine x_P 41 rfl rfl rfl ?_
          refine x_jn 59 (fun v14 => [(0, .ref a0), (1, .ref a1), (2, .int s2.1), (3, .int s7.1)]) (fun v14 => []) (fun v14 => v14) (fun v14 => ?_) (fun j15 hj15 => ?_)
          · refine x_P (lv' := [(3, .int (s7.1 + Int32.ofInt 1)), (0, .ref a0), (1, .ref a1), (2, .int s2.1)]) 62 rfl rfl rfl ?_
            refine x_P 19 rfl rfl rfl ?_
            exact x_lv (hnx8 ((s7.1 + Int32.ofInt 1), v14)) ⟨rfl, rfl, rfl, rfl, trivial⟩
          · refine x_ic_ne rfl rfl (fun h19 => ?_) (fun h19 => ?_)
            · refine x_P 46 rfl rfl rfl ?_
              refine x_callS rfl rfl rfl rfl rfl rfl ⟨rfl, rfl⟩ (S_66 (d + 1) x12 s7.2) (fun x16 hx16 => ?_)
              refine x_P 50 rfl rfl rfl ?_
              refine x_ic_ne rfl rfl (fun h18 => ?_) (fun h18 => ?_)
              · refine x_P 54 rfl rfl rfl ?_
                refine x_P 56 rfl rfl rfl ?_
                refine x_callW rfl rfl rfl rfl rfl ⟨rfl, rfl⟩ (fun x h => c_104 h) (S_104 (d + 1) a0 x12 s7.2) (fun th17 hth17 => ?_)
                exact x_lv (hj15 th17) ⟨rfl, rfl, rfl, rfl, trivial⟩
              · exact x_lv (hj15 s7.2) ⟨rfl, rfl, rfl, rfl, trivial⟩
            · exact x_lv (hj15 s7.2) ⟨rfl, rfl, rfl, rfl, trivial⟩
      · refine x_P (lv' := [(2, .int (s2.1 + Int32.ofInt 1)), (0, .ref a0), (1, .ref a1)]) 68 rfl rfl rfl ?_
        refine x_P 7 rfl rfl rfl ?_
        exact x_lv (hnx3 ((s2.1 + Int32.ofInt 1), x10)) ⟨rfl, rfl, rfl, trivial⟩
  · exact x_retV (x := x5) rfl
-- 63 NineTrees.allRows()LNineTrees$RowList;
noncomputable def m_63 (a0 : Nat) (th : tH) : Option (Nat × tH) :=
  (gC th 7 a0).bind fun _ =>
  (gN th 7 a0 3).bind fun o1 =>
  (gN th 7 a0 0).bind fun o2 =>
  (m_103 o1 o2 th).bind fun th3 =>
  (gN th3 7 a0 3).bind fun o4 =>
  some (o4, th3)
theorem c_63 {a0 : Nat} {th : tH} {x : (Nat × tH)} (h : m_63 a0 th = some x) : ∃ fs, th[a0]? = some (.inr (7, fs)) := gC_of h
theorem S_63 {L : Nat} (d : Nat) (a0 : Nat) (th : tH) : Wx L (fun x => (some (.ref x.1), x.2)) (d + 4) 63 1 0 [(0, .ref a0)] [] th (m_63 a0 th) := by
  unfold m_63
  refine x_gC ?_
  refine x_P 1 rfl rfl rfl ?_
  refine x_gN rfl (fun o1 ho1 => ?_)
  refine x_P 5 rfl rfl rfl ?_
  refine x_gN rfl (fun o2 ho2 => ?_)
  refine x_callW rfl rfl rfl rfl rfl ⟨rfl, rfl⟩ (fun x h => c_103 h) (S_103 d o1 o2 th) (fun th3 hth3 => ?_)
  refine x_P 12 rfl rfl rfl ?_
  refine x_gN rfl (fun o4 ho4 => ?_)
  exact x_retN (x := (o4, th3)) rfl rfl
end
section
/-! ===== programs ===== -/
-- 173 java/lang/Integer.bitCount(I)I
noncomputable def m_173 (a0 : Int32) (th : tH) : Option (Int32) :=
  some ((((((((a0 - ((Int32.toUInt32 a0 >>> (Int32.toUInt32 (Int32.ofInt 1) &&& Int32.toUInt32 31)).toInt32 &&& (Int32.ofNat 1431655765))) &&& (Int32.ofNat 858993459)) + ((Int32.toUInt32 (a0 - ((Int32.toUInt32 a0 >>> (Int32.toUInt32 (Int32.ofInt 1) &&& Int32.toUInt32 31)).toInt32 &&& (Int32.ofNat 1431655765))) >>> (Int32.toUInt32 (Int32.ofInt 2) &&& Int32.toUInt32 31)).toInt32 &&& (Int32.ofNat 858993459))) + (Int32.toUInt32 (((a0 - ((Int32.toUInt32 a0 >>> (Int32.toUInt32 (Int32.ofInt 1) &&& Int32.toUInt32 31)).toInt32 &&& (Int32.ofNat 1431655765))) &&& (Int32.ofNat 858993459)) + ((Int32.toUInt32 (a0 - ((Int32.toUInt32 a0 >>> (Int32.toUInt32 (Int32.ofInt 1) &&& Int32.toUInt32 31)).toInt32 &&& (Int32.ofNat 1431655765))) >>> (Int32.toUInt32 (Int32.ofInt 2) &&& Int32.toUInt32 31)).toInt32 &&& (Int32.ofNat 858993459))) >>> (Int32.toUInt32 (Int32.ofInt 4) &&& Int32.toUInt32 31)).toInt32) &&& (Int32.ofNat 252645135)) + (Int32.toUInt32 (((((a0 - ((Int32.toUInt32 a0 >>> (Int32.toUInt32 (Int32.ofInt 1) &&& Int32.toUInt32 31)).toInt32 &&& (Int32.ofNat 1431655765))) &&& (Int32.ofNat 858993459)) + ((Int32.toUInt32 (a0 - ((Int32.toUInt32 a0 >>> (Int32.toUInt32 (Int32.ofInt 1) &&& Int32.toUInt32 31)).toInt32 &&& (Int32.ofNat 1431655765))) >>> (Int32.toUInt32 (Int32.ofInt 2) &&& Int32.toUInt32 31)).toInt32 &&& (Int32.ofNat 858993459))) + (Int32.toUInt32 (((a0 - ((Int32.toUInt32 a0 >>> (Int32.toUInt32 (Int32.ofInt 1) &&& Int32.toUInt32 31)).toInt32 &&& (Int32.ofNat 1431655765))) &&& (Int32.ofNat 858993459)) + ((Int32.toUInt32 (a0 - ((Int32.toUInt32 a0 >>> (Int32.toUInt32 (Int32.ofInt 1) &&& Int32.toUInt32 31)).toInt32 &&& (Int32.ofNat 1431655765))) >>> (Int32.toUInt32 (Int32.ofInt 2) &&& Int32.toUInt32 31)).toInt32 &&& (Int32.ofNat 858993459))) >>> (Int32.toUInt32 (Int32.ofInt 4) &&& Int32.toUInt32 31)).toInt32) &&& (Int32.ofNat 252645135)) >>> (Int32.toUInt32 (Int8.ofInt 8).toInt32 &&& Int32.toUInt32 31)).toInt32) + (Int32.toUInt32 ((((((a0 - ((Int32.toUInt32 a0 >>> (Int32.toUInt32 (Int32.ofInt 1) &&& Int32.toUInt32 31)).toInt32 &&& (Int32.ofNat 1431655765))) &&& (Int32.ofNat 858993459)) + ((Int32.toUInt32 (a0 - ((Int32.toUInt32 a0 >>> (Int32.toUInt32 (Int32.ofInt 1) &&& Int32.toUInt32 31)).toInt32 &&& (Int32.ofNat 1431655765))) >>> (Int32.toUInt32 (Int32.ofInt 2) &&& Int32.toUInt32 31)).toInt32 &&& (Int32.ofNat 858993459))) + (Int32.toUInt32 (((a0 - ((Int32.toUInt32 a0 >>> (Int32.toUInt32 (Int32.ofInt 1) &&& Int32.toUInt32 31)).toInt32 &&& (Int32.ofNat 1431655765))) &&& (Int32.ofNat 858993459)) + ((Int32.toUInt32 (a0 - ((Int32.toUInt32 a0 >>> (Int32.toUInt32 (Int32.ofInt 1) &&& Int32.toUInt32 31)).toInt32 &&& (Int32.ofNat 1431655765))) >>> (Int32.toUInt32 (Int32.ofInt 2) &&& Int32.toUInt32 31)).toInt32 &&& (Int32.ofNat 858993459))) >>> (Int32.toUInt32 (Int32.ofInt 4) &&& Int32.toUInt32 31)).toInt32) &&& (Int32.ofNat 252645135)) + (Int32.toUInt32 (((((a0 - ((Int32.toUInt32 a0 >>> (Int32.toUInt32 (Int32.ofInt 1) &&& Int32.toUInt32 31)).toInt32 &&& (Int32.ofNat 1431655765))) &&& (Int32.ofNat 858993459)) + ((Int32.toUInt32 (a0 - ((Int32.toUInt32 a0 >>> (Int32.toUInt32 (Int32.ofInt 1) &&& Int32.toUInt32 31)).toInt32 &&& (Int32.ofNat 1431655765))) >>> (Int32.toUInt32 (Int32.ofInt 2) &&& Int32.toUInt32 31)).toInt32 &&& (Int32.ofNat 858993459))) + (Int32.toUInt32 (((a0 - ((Int32.toUInt32 a0 >>> (Int32.toUInt32 (Int32.ofInt 1) &&& Int32.toUInt32 31)).toInt32 &&& (Int32.ofNat 1431655765))) &&& (Int32.ofNat 858993459)) + ((Int32.toUInt32 (a0 - ((Int32.toUInt32 a0 >>> (Int32.toUInt32 (Int32.ofInt 1) &&& Int32.toUInt32 31)).toInt32 &&& (Int32.ofNat 1431655765))) >>> (Int32.toUInt32 (Int32.ofInt 2) &&& Int32.toUInt32 31)).toInt32 &&& (Int32.ofNat 858993459))) >>> (Int32.toUInt32 (Int32.ofInt 4) &&& Int32.toUInt32 31)).toInt32) &&& (Int32.ofNat 252645135)) >>> (Int32.toUInt32 (Int8.ofInt 8).toInt32 &&& Int32.toUInt32 31)).toInt32) >>> (Int32.toUInt32 (Int8.ofInt 16).toInt32 &&& Int32.toUInt32 31)).toInt32) &&& (Int8.ofInt 63).toInt32)
theorem S_173 {L : Nat} (d : Nat) (a0 : Int32) (th : tH) : Wx L (fun x => (some (.int x), th)) d 173 1 0 [(0, .int a0)] [] th (m_173 a0 th) := by
  unfold m_173
  refine x_P 1 rfl rfl rfl ?_
  refine x_P 2 rfl rfl rfl ?_
  refine x_P 3 rfl rfl rfl ?_
  refine x_P 4 rfl rfl rfl ?_
  refine x_P 7 rfl rfl rfl ?_
  refine x_P 8 rfl rfl rfl ?_
  refine x_P 9 rfl rfl rfl ?_
  refine x_P (lv' := [(0, .int (a0 - ((Int32.toUInt32 a0 >>> (Int32.toUInt32 (Int32.ofInt 1) &&& Int32.toUInt32 31)).toInt32 &&& (Int32.ofNat 1431655765))))]) 10 rfl rfl rfl ?_
  refine x_P 11 rfl rfl rfl ?_
  refine x_P 14 rfl rfl rfl ?_
  refine x_P 15 rfl rfl rfl ?_
  refine x_P 16 rfl rfl rfl ?_
  refine x_P 17 rfl rfl rfl ?_
  refine x_P 18 rfl rfl rfl ?_
  refine x_P 21 rfl rfl rfl ?_
  refine x_P 22 rfl rfl rfl ?_
  refine x_P 23 rfl rfl rfl ?_
  refine x_P (lv' := [(0, .int (((a0 - ((Int32.toUInt32 a0 >>> (Int32.toUInt32 (Int32.ofInt 1) &&& Int32.toUInt32 31)).toInt32 &&& (Int32.ofNat 1431655765))) &&& (Int32.ofNat 858993459)) + ((Int32.toUInt32 (a0 - ((Int32.toUInt32 a0 >>> (Int32.toUInt32 (Int32.ofInt 1) &&& Int32.toUInt32 31)).toInt32 &&& (Int32.ofNat 1431655765))) >>> (Int32.toUInt32 (Int32.ofInt 2) &&& Int32.toUInt32 31)).toInt32 &&& (Int32.ofNat 858993459))))]) 24 rfl rfl rfl ?_
  refine x_P 25 rfl rfl rfl ?_
  refine x_P 26 rfl rfl rfl ?_
  refine x_P 27 rfl rfl rfl ?_
  refine x_P 28 rfl rfl rfl ?_
  refine x_P 29 rfl rfl rfl ?_
  refine x_P 32 rfl rfl rfl ?_
  refine x_P 33 rfl rfl rfl ?_
  refine x_P (lv' := [(0, .int (((((a0 - ((Int32.toUInt32 a0 >>> (Int32.toUInt32 (Int32.ofInt 1) &&& Int32.toUInt32 31)).toInt32 &&& (Int32.ofNat 1431655765))) &&& (Int32.ofNat 858993459)) + ((Int32.toUInt32 (a0 - ((Int32.toUInt32 a0 >>> (Int32.toUInt32 (Int32.ofInt 1) &&& Int32.toUInt32 31)).toInt32 &&& (Int32.ofNat 1431655765))) >>> (Int32.toUInt32 (Int32.ofInt 2) &&& Int32.toUInt32 31)).toInt32 &&& (Int32.ofNat 858993459))) + (Int32.toUInt32 (((a0 - ((Int32.toUInt32 a0 >>> (Int32.toUInt32 (Int32.ofInt 1) &&& Int32.toUInt32 31)).toInt32 &&& (Int32.ofNat 1431655765))) &&& (Int32.ofNat 858993459)) + ((Int32.toUInt32 (a0 - ((Int32.toUInt32 a0 >>> (Int32.toUInt32 (Int32.ofInt 1) &&& Int32.toUInt32 31)).toInt32 &&& (Int32.ofNat 1431655765))) >>> (Int32.toUInt32 (Int32.ofInt 2) &&& Int32.toUInt32 31)).toInt32 &&& (Int32.ofNat 858993459))) >>> (Int32.toUInt32 (Int32.ofInt 4) &&& Int32.toUInt32 31)).toInt32) &&& (Int32.ofNat 252645135)))]) 34 rfl rfl rfl ?_
  refine x_P 35 rfl rfl rfl ?_
  refine x_P 36 rfl rfl rfl ?_
  refine x_P 38 rfl rfl rfl ?_
  refine x_P 39 rfl rfl rfl ?_
  refine x_P 40 rfl rfl rfl ?_
  refine x_P (lv' := [(0, .int ((((((a0 - ((Int32.toUInt32 a0 >>> (Int32.toUInt32 (Int32.ofInt 1) &&& Int32.toUInt32 31)).toInt32 &&& (Int32.ofNat 1431655765))) &&& (Int32.ofNat 858993459)) + ((Int32.toUInt32 (a0 - ((Int32.toUInt32 a0 >>> (Int32.toUInt32 (Int32.ofInt 1) &&& Int32.toUInt32 31)).toInt32 &&& (Int32.ofNat 1431655765))) >>> (Int32.toUInt32 (Int32.ofInt 2) &&& Int32.toUInt32 31)).toInt32 &&& (Int32.ofNat 858993459))) + (Int32.toUInt32 (((a0 - ((Int32.toUInt32 a0 >>> (Int32.toUInt32 (Int32.ofInt 1) &&& Int32.toUInt32 31)).toInt32 &&& (Int32.ofNat 1431655765))) &&& (Int32.ofNat 858993459)) + ((Int32.toUInt32 (a0 - ((Int32.toUInt32 a0 >>> (Int32.toUInt32 (Int32.ofInt 1) &&& Int32.toUInt32 31)).toInt32 &&& (Int32.ofNat 1431655765))) >>> (Int32.toUInt32 (Int32.ofInt 2) &&& Int32.toUInt32 31)).toInt32 &&& (Int32.ofNat 858993459))) >>> (Int32.toUInt32 (Int32.ofInt 4) &&& Int32.toUInt32 31)).toInt32) &&& (Int32.ofNat 252645135)) + (Int32.toUInt32 (((((a0 - ((Int32.toUInt32 a0 >>> (Int32.toUInt32 (Int32.ofInt 1) &&& Int32.toUInt32 31)).toInt32 &&& (Int32.ofNat 1431655765))) &&& (Int32.ofNat 858993459)) + ((Int32.toUInt32 (a0 - ((Int32.toUInt32 a0 >>> (Int32.toUInt32 (Int32.ofInt 1) &&& Int32.toUInt32 31)).toInt32 &&& (Int32.ofNat 1431655765))) >>> (Int32.toUInt32 (Int32.ofInt 2) &&& Int32.toUInt32 31)).toInt32 &&& (Int32.ofNat 858993459))) + (Int32.toUInt32 (((a0 - ((Int32.toUInt32 a0 >>> (Int32.toUInt32 (Int32.ofInt 1) &&& Int32.toUInt32 31)).toInt32 &&& (Int32.ofNat 1431655765))) &&& (Int32.ofNat 858993459)) + ((Int32.toUInt32 (a0 - ((Int32.toUInt32 a0 >>> (Int32.toUInt32 (Int32.ofInt 1) &&& Int32.toUInt32 31)).toInt32 &&& (Int32.ofNat 1431655765))) >>> (Int32.toUInt32 (Int32.ofInt 2) &&& Int32.toUInt32 31)).toInt32 &&& (Int32.ofNat 858993459))) >>> (Int32.toUInt32 (Int32.ofInt 4) &&& Int32.toUInt32 31)).toInt32) &&& (Int32.ofNat 252645135)) >>> (Int32.toUInt32 (Int8.ofInt 8).toInt32 &&& Int32.toUInt32 31)).toInt32))]) 41 rfl rfl rfl ?_
  refine x_P 42 rfl rfl rfl ?_
  refine x_P 43 rfl rfl rfl ?_
  refine x_P 45 rfl rfl rfl ?_
  refine x_P 46 rfl rfl rfl ?_
  refine x_P 47 rfl rfl rfl ?_
  refine x_P (lv' := [(0, .int (((((((a0 - ((Int32.toUInt32 a0 >>> (Int32.toUInt32 (Int32.ofInt 1) &&& Int32.toUInt32 31)).toInt32 &&& (Int32.ofNat 1431655765))) &&& (Int32.ofNat 858993459)) + ((Int32.toUInt32 (a0 - ((Int32.toUInt32 a0 >>> (Int32.toUInt32 (Int32.ofInt 1) &&& Int32.toUInt32 31)).toInt32 &&& (Int32.ofNat 1431655765))) >>> (Int32.toUInt32 (Int32.ofInt 2) &&& Int32.toUInt32 31)).toInt32 &&& (Int32.ofNat 858993459))) + (Int32.toUInt32 (((a0 - ((Int32.toUInt32 a0 >>> (Int32.toUInt32 (Int32.ofInt 1) &&& Int32.toUInt32 31)).toInt32 &&& (Int32.ofNat 1431655765))) &&& (Int32.ofNat 858993459)) + ((Int32.toUInt32 (a0 - ((Int32.toUInt32 a0 >>> (Int32.toUInt32 (Int32.ofInt 1) &&& Int32.toUInt32 31)).toInt32 &&& (Int32.ofNat 1431655765))) >>> (Int32.toUInt32 (Int32.ofInt 2) &&& Int32.toUInt32 31)).toInt32 &&& (Int32.ofNat 858993459))) >>> (Int32.toUInt32 (Int32.ofInt 4) &&& Int32.toUInt32 31)).toInt32) &&& (Int32.ofNat 252645135)) + (Int32.toUInt32 (((((a0 - ((Int32.toUInt32 a0 >>> (Int32.toUInt32 (Int32.ofInt 1) &&& Int32.toUInt32 31)).toInt32 &&& (Int32.ofNat 1431655765))) &&& (Int32.ofNat 858993459)) + ((Int32.toUInt32 (a0 - ((Int32.toUInt32 a0 >>> (Int32.toUInt32 (Int32.ofInt 1) &&& Int32.toUInt32 31)).toInt32 &&& (Int32.ofNat 1431655765))) >>> (Int32.toUInt32 (Int32.ofInt 2) &&& Int32.toUInt32 31)).toInt32 &&& (Int32.ofNat 858993459))) + (Int32.toUInt32 (((a0 - ((Int32.toUInt32 a0 >>> (Int32.toUInt32 (Int32.ofInt 1) &&& Int32.toUInt32 31)).toInt32 &&& (Int32.ofNat 1431655765))) &&& (Int32.ofNat 858993459)) + ((Int32.toUInt32 (a0 - ((Int32.toUInt32 a0 >>> (Int32.toUInt32 (Int32.ofInt 1) &&& Int32.toUInt32 31)).toInt32 &&& (Int32.ofNat 1431655765))) >>> (Int32.toUInt32 (Int32.ofInt 2) &&& Int32.toUInt32 31)).toInt32 &&& (Int32.ofNat 858993459))) >>> (Int32.toUInt32 (Int32.ofInt 4) &&& Int32.toUInt32 31)).toInt32) &&& (Int32.ofNat 252645135)) >>> (Int32.toUInt32 (Int8.ofInt 8).toInt32 &&& Int32.toUInt32 31)).toInt32) + (Int32.toUInt32 ((((((a0 - ((Int32.toUInt32 a0 >>> (Int32.toUInt32 (Int32.ofInt 1) &&& Int32.toUInt32 31)).toInt32 &&& (Int32.ofNat 1431655765))) &&& (Int32.ofNat 858993459)) + ((Int32.toUInt32 (a0 - ((Int32.toUInt32 a0 >>> (Int32.toUInt32 (Int32.ofInt 1) &&& Int32.toUInt32 31)).toInt32 &&& (Int32.ofNat 1431655765))) >>> (Int32.toUInt32 (Int32.ofInt 2) &&& Int32.toUInt32 31)).toInt32 &&& (Int32.ofNat 858993459))) + (Int32.toUInt32 (((a0 - ((Int32.toUInt32 a0 >>> (Int32.toUInt32 (Int32.ofInt 1) &&& Int32.toUInt32 31)).toInt32 &&& (Int32.ofNat 1431655765))) &&& (Int32.ofNat 858993459)) + ((Int32.toUInt32 (a0 - ((Int32.toUInt32 a0 >>> (Int32.toUInt32 (Int32.ofInt 1) &&& Int32.toUInt32 31)).toInt32 &&& (Int32.ofNat 1431655765))) >>> (Int32.toUInt32 (Int32.ofInt 2) &&& Int32.toUInt32 31)).toInt32 &&& (Int32.ofNat 858993459))) >>> (Int32.toUInt32 (Int32.ofInt 4) &&& Int32.toUInt32 31)).toInt32) &&& (Int32.ofNat 252645135)) + (Int32.toUInt32 (((((a0 - ((Int32.toUInt32 a0 >>> (Int32.toUInt32 (Int32.ofInt 1) &&& Int32.toUInt32 31)).toInt32 &&& (Int32.ofNat 1431655765))) &&& (Int32.ofNat 858993459)) + ((Int32.toUInt32 (a0 - ((Int32.toUInt32 a0 >>> (Int32.toUInt32 (Int32.ofInt 1) &&& Int32.toUInt32 31)).toInt32 &&& (Int32.ofNat 1431655765))) >>> (Int32.toUInt32 (Int32.ofInt 2) &&& Int32.toUInt32 31)).toInt32 &&& (Int32.ofNat 858993459))) + (Int32.toUInt32 (((a0 - ((Int32.toUInt32 a0 >>> (Int32.toUInt32 (Int32.ofInt 1) &&& Int32.toUInt32 31)).toInt32 &&& (Int32.ofNat 1431655765))) &&& (Int32.ofNat 858993459)) + ((Int32.toUInt32 (a0 - ((Int32.toUInt32 a0 >>> (Int32.toUInt32 (Int32.ofInt 1) &&& Int32.toUInt32 31)).toInt32 &&& (Int32.ofNat 1431655765))) >>> (Int32.toUInt32 (Int32.ofInt 2) &&& Int32.toUInt32 31)).toInt32 &&& (Int32.ofNat 858993459))) >>> (Int32.toUInt32 (Int32.ofInt 4) &&& Int32.toUInt32 31)).toInt32) &&& (Int32.ofNat 252645135)) >>> (Int32.toUInt32 (Int8.ofInt 8).toInt32 &&& Int32.toUInt32 31)).toInt32) >>> (Int32.toUInt32 (Int8.ofInt 16).toInt32 &&& Int32.toUInt32 31)).toInt32))]) 48 rfl rfl rfl ?_
  refine x_P 49 rfl rfl rfl ?_
  refine x_P 51 rfl rfl rfl ?_
  refine x_P 52 rfl rfl rfl ?_
  exact x_retI (x := ((((((((a0 - ((Int32.toUInt32 a0 >>> (Int32.toUInt32 (Int32.ofInt 1) &&& Int32.toUInt32 31)).toInt32 &&& (Int32.ofNat 1431655765))) &&& (Int32.ofNat 858993459)) + ((Int32.toUInt32 (a0 - ((Int32.toUInt32 a0 >>> (Int32.toUInt32 (Int32.ofInt 1) &&& Int32.toUInt32 31)).toInt32 &&& (Int32.ofNat 1431655765))) >>> (Int32.toUInt32 (Int32.ofInt 2) &&& Int32.toUInt32 31)).toInt32 &&& (Int32.ofNat 858993459))) + (Int32.toUInt32 (((a0 - ((Int32.toUInt32 a0 >>> (Int32.toUInt32 (Int32.ofInt 1) &&& Int32.toUInt32 31)).toInt32 &&& (Int32.ofNat 1431655765))) &&& (Int32.ofNat 858993459)) + ((Int32.toUInt32 (a0 - ((Int32.toUInt32 a0 >>> (Int32.toUInt32 (Int32.ofInt 1) &&& Int32.toUInt32 31)).toInt32 &&& (Int32.ofNat 1431655765))) >>> (Int32.toUInt32 (Int32.ofInt 2) &&& Int32.toUInt32 31)).toInt32 &&& (Int32.ofNat 858993459))) >>> (Int32.toUInt32 (Int32.ofInt 4) &&& Int32.toUInt32 31)).toInt32) &&& (Int32.ofNat 252645135)) + (Int32.toUInt32 (((((a0 - ((Int32.toUInt32 a0 >>> (Int32.toUInt32 (Int32.ofInt 1) &&& Int32.toUInt32 31)).toInt32 &&& (Int32.ofNat 1431655765))) &&& (Int32.ofNat 858993459)) + ((Int32.toUInt32 (a0 - ((Int32.toUInt32 a0 >>> (Int32.toUInt32 (Int32.ofInt 1) &&& Int32.toUInt32 31)).toInt32 &&& (Int32.ofNat 1431655765))) >>> (Int32.toUInt32 (Int32.ofInt 2) &&& Int32.toUInt32 31)).toInt32 &&& (Int32.ofNat 858993459))) + (Int32.toUInt32 (((a0 - ((Int32.toUInt32 a0 >>> (Int32.toUInt32 (Int32.ofInt 1) &&& Int32.toUInt32 31)).toInt32 &&& (Int32.ofNat 1431655765))) &&& (Int32.ofNat 858993459)) + ((Int32.toUInt32 (a0 - ((Int32.toUInt32 a0 >>> (Int32.toUInt32 (Int32.ofInt 1) &&& Int32.toUInt32 31)).toInt32 &&& (Int32.ofNat 1431655765))) >>> (Int32.toUInt32 (Int32.ofInt 2) &&& Int32.toUInt32 31)).toInt32 &&& (Int32.ofNat 858993459))) >>> (Int32.toUInt32 (Int32.ofInt 4) &&& Int32.toUInt32 31)).toInt32) &&& (Int32.ofNat 252645135)) >>> (Int32.toUInt32 (Int8.ofInt 8).toInt32 &&& Int32.toUInt32 31)).toInt32) + (Int32.toUInt32 ((((((a0 - ((Int32.toUInt32 a0 >>> (Int32.toUInt32 (Int32.ofInt 1) &&& Int32.toUInt32 31)).toInt32 &&& (Int32.ofNat 1431655765))) &&& (Int32.ofNat 858993459)) + ((Int32.toUInt32 (a0 - ((Int32.toUInt32 a0 >>> (Int32.toUInt32 (Int32.ofInt 1) &&& Int32.toUInt32 31)).toInt32 &&& (Int32.ofNat 1431655765))) >>> (Int32.toUInt32 (Int32.ofInt 2) &&& Int32.toUInt32 31)).toInt32 &&& (Int32.ofNat 858993459))) + (Int32.toUInt32 (((a0 - ((Int32.toUInt32 a0 >>> (Int32.toUInt32 (Int32.ofInt 1) &&& Int32.toUInt32 31)).toInt32 &&& (Int32.ofNat 1431655765))) &&& (Int32.ofNat 858993459)) + ((Int32.toUInt32 (a0 - ((Int32.toUInt32 a0 >>> (Int32.toUInt32 (Int32.ofInt 1) &&& Int32.toUInt32 31)).toInt32 &&& (Int32.ofNat 1431655765))) >>> (Int32.toUInt32 (Int32.ofInt 2) &&& Int32.toUInt32 31)).toInt32 &&& (Int32.ofNat 858993459))) >>> (Int32.toUInt32 (Int32.ofInt 4) &&& Int32.toUInt32 31)).toInt32) &&& (Int32.ofNat 252645135)) + (Int32.toUInt32 (((((a0 - ((Int32.toUInt32 a0 >>> (Int32.toUInt32 (Int32.ofInt 1) &&& Int32.toUInt32 31)).toInt32 &&& (Int32.ofNat 1431655765))) &&& (Int32.ofNat 858993459)) + ((Int32.toUInt32 (a0 - ((Int32.toUInt32 a0 >>> (Int32.toUInt32 (Int32.ofInt 1) &&& Int32.toUInt32 31)).toInt32 &&& (Int32.ofNat 1431655765))) >>> (Int32.toUInt32 (Int32.ofInt 2) &&& Int32.toUInt32 31)).toInt32 &&& (Int32.ofNat 858993459))) + (Int32.toUInt32 (((a0 - ((Int32.toUInt32 a0 >>> (Int32.toUInt32 (Int32.ofInt 1) &&& Int32.toUInt32 31)).toInt32 &&& (Int32.ofNat 1431655765))) &&& (Int32.ofNat 858993459)) + ((Int32.toUInt32 (a0 - ((Int32.toUInt32 a0 >>> (Int32.toUInt32 (Int32.ofInt 1) &&& Int32.toUInt32 31)).toInt32 &&& (Int32.ofNat 1431655765))) >>> (Int32.toUInt32 (Int32.ofInt 2) &&& Int32.toUInt32 31)).toInt32 &&& (Int32.ofNat 858993459))) >>> (Int32.toUInt32 (Int32.ofInt 4) &&& Int32.toUInt32 31)).toInt32) &&& (Int32.ofNat 252645135)) >>> (Int32.toUInt32 (Int8.ofInt 8).toInt32 &&& Int32.toUInt32 31)).toInt32) >>> (Int32.toUInt32 (Int8.ofInt 16).toInt32 &&& Int32.toUInt32 31)).toInt32) &&& (Int8.ofInt 63).toInt32)) rfl
-- 107 NineTrees$RowList.countWith(II)I
noncomputable def m_107 (a0 : Nat) (a1 : Int32) (a2 : Int32) (th : tH) : Option (Int32) :=
  (gC th 4 a0).bind fun _ =>
  lp (fun (s1 : Int32 × Int32) nx2 ex3 =>
      (gI th 4 a0 1).bind fun x5 =>
      if x5 ≤ s1.2 then
        ex3 s1.1
      else
        (gN th 4 a0 0).bind fun o6 =>
        (aI th o6 s1.2).bind fun x7 =>
        jn (fun (v8 : Int32) =>
            nx2 (v8, (s1.2 + Int32.ofInt 1))
          ) (fun j9 =>
            if (x7 &&& ((Int32.ofInt 1) <<< (a1 &&& 31))) = 0 then
              j9 s1.1
            else
              (gN th 4 a0 0).bind fun o10 =>
              (aI th o10 s1.2).bind fun x11 =>
              (m_173 x11 th).bind fun x12 =>
              if x12 < a2 then
                j9 s1.1
              else
                j9 (s1.1 + Int32.ofInt 1)
          )
    ) 4096 ((Int32.ofInt 0), (Int32.ofInt 0)) (fun (x4 : Int32) =>
      some x4
    )
theorem c_107 {a0 : Nat} {a1 : Int32} {a2 : Int32} {th : tH} {x : (Int32)} (h : m_107 a0 a1 a2 th = some x) : ∃ fs, th[a0]? = some (.inr (4, fs)) := gC_of h
theorem S_107 {L : Nat} (d : Nat) (a0 : Nat) (a1 : Int32) (a2 : Int32) (th : tH) : Wx L (fun x => (some (.int x), th)) (d + 1) 107 5 0 [(0, .ref a0), (1, .int a1), (2, .int a2)] [] th (m_107 a0 a1 a2 th) := by
  unfold m_107
  refine x_gC ?_
  refine x_P 1 rfl rfl rfl ?_
  refine x_P (lv' := [(3, .int (Int32.ofInt 0)), (0, .ref a0), (1, .int a1), (2, .int a2)]) 2 rfl rfl rfl ?_
  refine x_P 3 rfl rfl rfl ?_
  refine x_P (lv' := [(4, .int (Int32.ofInt 0)), (3, .int (Int32.ofInt 0)), (0, .ref a0), (1, .int a1), (2, .int a2)]) 5 rfl rfl rfl ?_
  refine x_lv (lv := [(0, .ref a0), (1, .int a1), (2, .int a2), (3, .int (Int32.ofInt 0)), (4, .int (Int32.ofInt 0))]) (x_lp 51 (fun s1 => [(0, .ref a0), (1, .int a1), (2, .int a2), (3, .int s1.1), (4, .int s1.2)]) (fun s1 => th) (fun x4 => [(3, .int x4)]) (fun x4 => th) (fun s1 nx2 hnx2 ex3 hex3 => ?_) (fun x4 => ?_) 4096 ((Int32.ofInt 0), (Int32.ofInt 0))) ⟨rfl, rfl, rfl, rfl, rfl, trivial⟩
  · refine x_P 7 rfl rfl rfl ?_
    refine x_P 8 rfl rfl rfl ?_
    refine x_gI rfl (fun x5 hx5 => ?_)
    refine x_ic_ge rfl rfl (fun h15 => ?_) (fun h15 => ?_)
    · exact x_lv (hex3 s1.1) ⟨rfl, trivial⟩
    · refine x_P 15 rfl rfl rfl ?_
      refine x_gN rfl (fun o6 ho6 => ?_)
      refine x_P 20 rfl rfl rfl ?_
      refine x_aI rfl ⟨rfl, rfl⟩ (fun x7 hx7 => ?_)
      refine x_P 22 rfl rfl rfl ?_
      refine x_P 23 rfl rfl rfl ?_
      refine x_P 24 rfl rfl rfl ?_
      refine x_P 25 rfl rfl rfl ?_
      refine x_jn 45 (fun v8 => [(0, .ref a0), (1, .int a1), (2, .int a2), (3, .int v8), (4, .int s1.2)]) (fun v8 => []) (fun v8 => th) (fun v8 => ?_) (fun j9 hj9 => ?_)
      · refine x_P (lv' := [(4, .int (s1.2 + Int32.ofInt 1)), (0, .ref a0), (1, .int a1), (2, .int a2), (3, .int v8)]) 48 rfl rfl rfl ?_
        refine x_P 5 rfl rfl rfl ?_
        exact x_lv (hnx2 (v8, (s1.2 + Int32.ofInt 1))) ⟨rfl, rfl, rfl, rfl, rfl, trivial⟩
      · refine x_if_eq rfl rfl (fun h14 => ?_) (fun h14 => ?_)
        · exact x_lv (hj9 s1.1) ⟨rfl, rfl, rfl, rfl, rfl, trivial⟩
        · refine x_P 29 rfl rfl rfl ?_
          refine x_gN rfl (fun o10 ho10 => ?_)
          refine x_P 34 rfl rfl rfl ?_
          refine x_aI rfl ⟨rfl, rfl⟩ (fun x11 hx11 => ?_)
          refine x_callS rfl rfl rfl rfl rfl rfl ⟨rfl, rfl⟩ (S_173 d x11 th) (fun x12 hx12 => ?_)
          refine x_P 39 rfl rfl rfl ?_
          refine x_ic_lt rfl rfl (fun h13 => ?_) (fun h13 => ?_)
          · exact x_lv (hj9 s1.1) ⟨rfl, rfl, rfl, rfl, rfl, trivial⟩
          · refine x_P (lv' := [(3, .int (s1.1 + Int32.ofInt 1)), (0, .ref a0), (1, .int a1), (2, .int a2), (4, .int s1.2)]) 45 rfl rfl rfl ?_
            exact x_lv (hj9 (s1.1 + Int32.ofInt 1)) ⟨rfl, rfl, rfl, rfl, rfl, trivial⟩
  · refine x_P 52 rfl rfl rfl ?_
    exact x_retI (x := x4) rfl
-- 97 NineTrees$Garden.wishesWith(I)I
noncomputable def m_97 (a0 : Nat) (a1 : Int32) (th : tH) : Option (Int32) :=
  (gC th 2 a0).bind fun _ =>
  lp (fun (s1 : Int32 × Int32) nx2 ex3 =>
      (gI th 2 a0 6).bind fun x5 =>
      if x5 ≤ s1.2 then
        ex3 s1.1
      else
        (gN th 2 a0 3).bind fun o6 =>
        (aI th o6 s1.2).bind fun x7 =>
        jn (fun (v8 : Int32) =>
            nx2 (v8, (s1.2 + Int32.ofInt 1))
          ) (fun j9 =>
            if (x7 &&& ((Int32.ofInt 1) <<< (a1 &&& 31))) = 0 then
              j9 s1.1
            else
              j9 (s1.1 + Int32.ofInt 1)
          )
    ) 4096 ((Int32.ofInt 0), (Int32.ofInt 0)) (fun (x4 : Int32) =>
      some x4
    )
theorem c_97 {a0 : Nat} {a1 : Int32} {th : tH} {x : (Int32)} (h : m_97 a0 a1 th = some x) : ∃ fs, th[a0]? = some (.inr (2, fs)) := gC_of h
theorem S_97 {L : Nat} (d : Nat) (a0 : Nat) (a1 : Int32) (th : tH) : Wx L (fun x => (some (.int x), th)) d 97 4 0 [(0, .ref a0), (1, .int a1)] [] th (m_97 a0 a1 th) := by
  unfold m_97
  refine x_gC ?_
  refine x_P 1 rfl rfl rfl ?_
  refine x_P (lv' := [(2, .int (Int32.ofInt 0)), (0, .ref a0), (1, .int a1)]) 2 rfl rfl rfl ?_
  refine x_P 3 rfl rfl rfl ?_
  refine x_P (lv' := [(3, .int (Int32.ofInt 0)), (2, .int (Int32.ofInt 0)), (0, .ref a0), (1, .int a1)]) 4 rfl rfl rfl ?_
  refine x_lv (lv := [(0, .ref a0), (1, .int a1), (2, .int (Int32.ofInt 0)), (3, .int (Int32.ofInt 0))]) (x_lp 34 (fun s1 => [(0, .ref a0), (1, .int a1), (2, .int s1.1), (3, .int s1.2)]) (fun s1 => th) (fun x4 => [(2, .int x4)]) (fun x4 => th) (fun s1 nx2 hnx2 ex3 hex3 => ?_) (fun x4 => ?_) 4096 ((Int32.ofInt 0), (Int32.ofInt 0))) ⟨rfl, rfl, rfl, rfl, trivial⟩
  · refine x_P 5 rfl rfl rfl ?_
    refine x_P 6 rfl rfl rfl ?_
    refine x_gI rfl (fun x5 hx5 => ?_)
    refine x_ic_ge rfl rfl (fun h11 => ?_) (fun h11 => ?_)
    · exact x_lv (hex3 s1.1) ⟨rfl, trivial⟩
    · refine x_P 13 rfl rfl rfl ?_
      refine x_gN rfl (fun o6 ho6 => ?_)
      refine x_P 17 rfl rfl rfl ?_
      refine x_aI rfl ⟨rfl, rfl⟩ (fun x7 hx7 => ?_)
      refine x_P 19 rfl rfl rfl ?_
      refine x_P 20 rfl rfl rfl ?_
      refine x_P 21 rfl rfl rfl ?_
      refine x_P 22 rfl rfl rfl ?_
      refine x_jn 28 (fun v8 => [(0, .ref a0), (1, .int a1), (2, .int v8), (3, .int s1.2)]) (fun v8 => []) (fun v8 => th) (fun v8 => ?_) (fun j9 hj9 => ?_)
      · refine x_P (lv' := [(3, .int (s1.2 + Int32.ofInt 1)), (0, .ref a0), (1, .int a1), (2, .int v8)]) 31 rfl rfl rfl ?_
        refine x_P 4 rfl rfl rfl ?_
        exact x_lv (hnx2 (v8, (s1.2 + Int32.ofInt 1))) ⟨rfl, rfl, rfl, rfl, trivial⟩
      · refine x_if_eq rfl rfl (fun h10 => ?_) (fun h10 => ?_)
        · exact x_lv (hj9 s1.1) ⟨rfl, rfl, rfl, rfl, trivial⟩
        · refine x_P (lv' := [(2, .int (s1.1 + Int32.ofInt 1)), (0, .ref a0), (1, .int a1), (3, .int s1.2)]) 28 rfl rfl rfl ?_
          exact x_lv (hj9 (s1.1 + Int32.ofInt 1)) ⟨rfl, rfl, rfl, rfl, trivial⟩
  · refine x_P 35 rfl rfl rfl ?_
    exact x_retI (x := x4) rfl
-- 80 NineTrees$Garden.isBetween(III)Z
noncomputable def m_80 (a0 : Nat) (a1 : Int32) (a2 : Int32) (a3 : Int32) (th : tH) : Option (Int32) :=
  (gC th 2 a0).bind fun _ =>
  (m_79 a0 a1 a2 a3 th).bind fun x1 =>
  if x1 = 0 then
    (m_72 a0 a2 th).bind fun x2 =>
    (m_72 a0 a1 th).bind fun x3 =>
    (m_72 a0 a3 th).bind fun x4 =>
    (m_72 a0 a1 th).bind fun x5 =>
    (m_73 a0 a2 th).bind fun x6 =>
    (m_73 a0 a1 th).bind fun x7 =>
    (m_73 a0 a3 th).bind fun x8 =>
    (m_73 a0 a1 th).bind fun x9 =>
    jn (fun (v10 : Int32) =>
        rB v10
      ) (fun j11 =>
        if 0 ≤ (((x2 - x3) * (x4 - x5)) + ((x6 - x7) * (x8 - x9))) then
          j11 (Int32.ofInt 0)
        else
          j11 (Int32.ofInt 1)
      )
  else
    rB (Int32.ofInt 0)
theorem c_80 {a0 : Nat} {a1 : Int32} {a2 : Int32} {a3 : Int32} {th : tH} {x : (Int32)} (h : m_80 a0 a1 a2 a3 th = some x) : ∃ fs, th[a0]? = some (.inr (2, fs)) := gC_of h
theorem S_80 {L : Nat} (d : Nat) (a0 : Nat) (a1 : Int32) (a2 : Int32) (a3 : Int32) (th : tH) : Wx L (fun x => (some (.int x), th)) (d + 2) 80 6 0 [(0, .ref a0), (1, .int a1), (2, .int a2), (3, .int a3)] [] th (m_80 a0 a1 a2 a3 th) := by
  unfold m_80
  refine x_gC ?_
  refine x_P 1 rfl rfl rfl ?_
  refine x_P 2 rfl rfl rfl ?_
  refine x_P 3 rfl rfl rfl ?_
  refine x_P 4 rfl rfl rfl ?_
  refine x_callV rfl rfl rfl rfl rfl ⟨rfl, rfl⟩ (fun x h => c_79 h) (S_79 d a0 a1 a2 a3 th) (fun x1 hx1 => ?_)
  refine x_if_eq rfl rfl (fun h13 => ?_) (fun h13 => ?_)
  · refine x_P 13 rfl rfl rfl ?_
    refine x_P 14 rfl rfl rfl ?_
    refine x_callV rfl rfl rfl rfl rfl ⟨rfl, rfl⟩ (fun x h => c_72 h) (S_72 (d + 1) a0 a2 th) (fun x2 hx2 => ?_)
    refine x_P 18 rfl rfl rfl ?_
    refine x_P 19 rfl rfl rfl ?_
    refine x_callV rfl rfl rfl rfl rfl ⟨rfl, rfl⟩ (fun x h => c_72 h) (S_72 (d + 1) a0 a1 th) (fun x3 hx3 => ?_)
    refine x_P 23 rfl rfl rfl ?_
    refine x_P 24 rfl rfl rfl ?_
    refine x_P 25 rfl rfl rfl ?_
    refine x_callV rfl rfl rfl rfl rfl ⟨rfl, rfl⟩ (fun x h => c_72 h) (S_72 (d + 1) a0 a3 th) (fun x4 hx4 => ?_)
    refine x_P 29 rfl rfl rfl ?_
    refine x_P 30 rfl rfl rfl ?_
    refine x_callV rfl rfl rfl rfl rfl ⟨rfl, rfl⟩ (fun x h => c_72 h) (S_72 (d + 1) a0 a1 th) (fun x5 hx5 => ?_)
    refine x_P 34 rfl rfl rfl ?_
    refine x_P 35 rfl rfl rfl ?_
    refine x_P (lv' := [(4, .int ((x2 - x3) * (x4 - x5))), (0, .ref a0), (1, .int a1), (2, .int a2), (3, .int a3)]) 37 rfl rfl rfl ?_
    refine x_P 38 rfl rfl rfl ?_
    refine x_P 39 rfl rfl rfl ?_
    refine x_callV rfl rfl rfl rfl rfl ⟨rfl, rfl⟩ (fun x h => c_73 h) (S_73 (d + 1) a0 a2 th) (fun x6 hx6 => ?_)
    refine x_P 43 rfl rfl rfl ?_
    refine x_P 44 rfl rfl rfl ?_
    refine x_callV rfl rfl rfl rfl rfl ⟨rfl, rfl⟩ (fun x h => c_73 h) (S_73 (d + 1) a0 a1 th) (fun x7 hx7 => ?_)
    refine x_P 48 rfl rfl rfl ?_
    refine x_P 49 rfl rfl rfl ?_
    refine x_P 50 rfl rfl rfl ?_
    refine x_callV rfl rfl rfl rfl rfl ⟨rfl, rfl⟩ (fun x h => c_73 h) (S_73 (d + 1) a0 a3 th) (fun x8 hx8 => ?_)
    refine x_P 54 rfl rfl rfl ?_
    refine x_P 55 rfl rfl rfl ?_
    refine x_callV rfl rfl rfl rfl rfl ⟨rfl, rfl⟩ (fun x h => c_73 h) (S_73 (d + 1) a0 a1 th) (fun x9 hx9 => ?_)
    refine x_P 59 rfl rfl rfl ?_
    refine x_P 60 rfl rfl rfl ?_
    refine x_P (lv' := [(5, .int ((x6 - x7) * (x8 - x9))), (4, .int ((x2 - x3) * (x4 - x5))), (0, .ref a0), (1, .int a1), (2, .int a2), (3, .int a3)]) 62 rfl rfl rfl ?_
    refine x_P 64 rfl rfl rfl ?_
    refine x_P 66 rfl rfl rfl ?_
    refine x_P 67 rfl rfl rfl ?_
    refine x_jn 75 (fun v10 => []) (fun v10 => [.int v10]) (fun v10 => th) (fun v10 => ?_) (fun j11 hj11 => ?_)
    · exact x_rB rfl
    · refine x_if_ge rfl rfl (fun h12 => ?_) (fun h12 => ?_)
      · refine x_P 75 rfl rfl rfl ?_
        exact x_lv (hj11 (Int32.ofInt 0)) trivial
      · refine x_P 71 rfl rfl rfl ?_
        refine x_P 75 rfl rfl rfl ?_
        exact x_lv (hj11 (Int32.ofInt 1)) trivial
  · refine x_P 11 rfl rfl rfl ?_
    exact x_rB rfl
-- 77 NineTrees$Garden.distance(II)I
noncomputable def m_77 (a0 : Nat) (a1 : Int32) (a2 : Int32) (th : tH) : Option (Int32) :=
  (gC th 2 a0).bind fun _ =>
  (m_72 a0 a1 th).bind fun x1 =>
  (m_72 a0 a2 th).bind fun x2 =>
  (m_73 a0 a1 th).bind fun x3 =>
  (m_73 a0 a2 th).bind fun x4 =>
  some ((abI (x1 - x2)) + (abI (x3 - x4)))
theorem c_77 {a0 : Nat} {a1 : Int32} {a2 : Int32} {th : tH} {x : (Int32)} (h : m_77 a0 a1 a2 th = some x) : ∃ fs, th[a0]? = some (.inr (2, fs)) := gC_of h
theorem S_77 {L : Nat} (d : Nat) (a0 : Nat) (a1 : Int32) (a2 : Int32) (th : tH) : Wx L (fun x => (some (.int x), th)) (d + 1) 77 3 0 [(0, .ref a0), (1, .int a1), (2, .int a2)] [] th (m_77 a0 a1 a2 th) := by
  unfold m_77
  refine x_gC ?_
  refine x_P 1 rfl rfl rfl ?_
  refine x_P 2 rfl rfl rfl ?_
  refine x_callV rfl rfl rfl rfl rfl ⟨rfl, rfl⟩ (fun x h => c_72 h) (S_72 d a0 a1 th) (fun x1 hx1 => ?_)
  refine x_P 6 rfl rfl rfl ?_
  refine x_P 7 rfl rfl rfl ?_
  refine x_callV rfl rfl rfl rfl rfl ⟨rfl, rfl⟩ (fun x h => c_72 h) (S_72 d a0 a2 th) (fun x2 hx2 => ?_)
  refine x_P 11 rfl rfl rfl ?_
  refine x_Mabs rfl rfl ?_
  refine x_P 15 rfl rfl rfl ?_
  refine x_P 16 rfl rfl rfl ?_
  refine x_callV rfl rfl rfl rfl rfl ⟨rfl, rfl⟩ (fun x h => c_73 h) (S_73 d a0 a1 th) (fun x3 hx3 => ?_)
  refine x_P 20 rfl rfl rfl ?_
  refine x_P 21 rfl rfl rfl ?_
  refine x_callV rfl rfl rfl rfl rfl ⟨rfl, rfl⟩ (fun x h => c_73 h) (S_73 d a0 a2 th) (fun x4 hx4 => ?_)
  refine x_P 25 rfl rfl rfl ?_
  refine x_Mabs rfl rfl ?_
  refine x_P 29 rfl rfl rfl ?_
  exact x_retI (x := ((abI (x1 - x2)) + (abI (x3 - x4)))) rfl
-- 144 NineTrees$Sight.isNearer(LNineTrees$Garden;III)Z
noncomputable def m_144 (a0 : Nat) (a1 : Int32) (a2 : Int32) (a3 : Int32) (th : tH) : Option (Int32) :=
  (gN th 2 a0 1).bind fun o1 =>
  (aI th o1 a1).bind fun x2 =>
  (m_77 a0 x2 a3 th).bind fun x3 =>
  (gN th 2 a0 1).bind fun o4 =>
  (aI th o4 a2).bind fun x5 =>
  (m_77 a0 x5 a3 th).bind fun x6 =>
  jn (fun (v7 : Int32) =>
      rB v7
    ) (fun j8 =>
      if x6 ≤ x3 then
        j8 (Int32.ofInt 0)
      else
        j8 (Int32.ofInt 1)
    )
theorem S_144 {L : Nat} (d : Nat) (a0 : Nat) (a1 : Int32) (a2 : Int32) (a3 : Int32) (th : tH) : Wx L (fun x => (some (.int x), th)) (d + 2) 144 4 0 [(0, .ref a0), (1, .int a1), (2, .int a2), (3, .int a3)] [] th (m_144 a0 a1 a2 a3 th) := by
  unfold m_144
  refine x_P 1 rfl rfl rfl ?_
  refine x_P 2 rfl rfl rfl ?_
  refine x_gN rfl (fun o1 ho1 => ?_)
  refine x_P 6 rfl rfl rfl ?_
  refine x_aI rfl ⟨rfl, rfl⟩ (fun x2 hx2 => ?_)
  refine x_P 8 rfl rfl rfl ?_
  refine x_callV rfl rfl rfl rfl rfl ⟨rfl, rfl⟩ (fun x h => c_77 h) (S_77 d a0 x2 a3 th) (fun x3 hx3 => ?_)
  refine x_P 12 rfl rfl rfl ?_
  refine x_P 13 rfl rfl rfl ?_
  refine x_gN rfl (fun o4 ho4 => ?_)
  refine x_P 17 rfl rfl rfl ?_
  refine x_aI rfl ⟨rfl, rfl⟩ (fun x5 hx5 => ?_)
  refine x_P 19 rfl rfl rfl ?_
  refine x_callV rfl rfl rfl rfl rfl ⟨rfl, rfl⟩ (fun x h => c_77 h) (S_77 d a0 x5 a3 th) (fun x6 hx6 => ?_)
  refine x_jn 30 (fun v7 => []) (fun v7 => [.int v7]) (fun v7 => th) (fun v7 => ?_) (fun j8 hj8 => ?_)
  · exact x_rB rfl
  · refine x_ic_ge rfl rfl (fun h9 => ?_) (fun h9 => ?_)
    · refine x_P 30 rfl rfl rfl ?_
      exact x_lv (hj8 (Int32.ofInt 0)) trivial
    · refine x_P 26 rfl rfl rfl ?_
      refine x_P 30 rfl rfl rfl ?_
      exact x_lv (hj8 (Int32.ofInt 1)) trivial
-- 143 NineTrees$Sight.hider(LNineTrees$Garden;II)I
noncomputable def m_143 (a0 : Nat) (a1 : Int32) (a2 : Int32) (th : tH) : Option (Int32) :=
  lp (fun (s1 : Int32 × Int32) nx2 ex3 =>
      (gI th 2 a0 5).bind fun x5 =>
      if x5 ≤ s1.2 then
        ex3 s1.1
      else
        (m_85 a0 s1.2 (Int32.ofInt 2) th).bind fun x6 =>
        jn (fun (v7 : Int32) =>
            nx2 (v7, (s1.2 + Int32.ofInt 1))
          ) (fun j8 =>
            if x6 = 0 then
              (gN th 2 a0 1).bind fun o9 =>
              (aI th o9 s1.2).bind fun x10 =>
              (gN th 2 a0 1).bind fun o11 =>
              (aI th o11 a1).bind fun x12 =>
              (m_80 a0 x10 x12 a2 th).bind fun x13 =>
              if x13 = 0 then
                j8 s1.1
              else
                jn (fun (v14 : Unit) =>
                    j8 s1.2
                  ) (fun j15 =>
                    if s1.1 = (Int32.ofInt (-1)) then
                      j15 ()
                    else
                      (m_144 a0 s1.2 s1.1 a2 th).bind fun x16 =>
                      if x16 = 0 then
                        j8 s1.1
                      else
                        j15 ()
                  )
            else
              j8 s1.1
          )
    ) 4096 ((Int32.ofInt (-1)), (Int32.ofInt 0)) (fun (x4 : Int32) =>
      some x4
    )
theorem S_143 {L : Nat} (d : Nat) (a0 : Nat) (a1 : Int32) (a2 : Int32) (th : tH) : Wx L (fun x => (some (.int x), th)) (d + 3) 143 5 0 [(0, .ref a0), (1, .int a1), (2, .int a2)] [] th (m_143 a0 a1 a2 th) := by
  unfold m_143
  refine x_P 1 rfl rfl rfl ?_
  refine x_P (lv' := [(3, .int (Int32.ofInt (-1))), (0, .ref a0), (1, .int a1), (2, .int a2)]) 2 rfl rfl rfl ?_
  refine x_P 3 rfl rfl rfl ?_
  refine x_P (lv' := [(4, .int (Int32.ofInt 0)), (3, .int (Int32.ofInt (-1))), (0, .ref a0), (1, .int a1), (2, .int a2)]) 5 rfl rfl rfl ?_
  refine x_lv (lv := [(0, .ref a0), (1, .int a1), (2, .int a2), (3, .int (Int32.ofInt (-1))), (4, .int (Int32.ofInt 0))]) (x_lp 70 (fun s1 => [(0, .ref a0), (1, .int a1), (2, .int a2), (3, .int s1.1), (4, .int s1.2)]) (fun s1 => th) (fun x4 => [(3, .int x4)]) (fun x4 => th) (fun s1 nx2 hnx2 ex3 hex3 => ?_) (fun x4 => ?_) 4096 ((Int32.ofInt (-1)), (Int32.ofInt 0))) ⟨rfl, rfl, rfl, rfl, rfl, trivial⟩
  · refine x_P 7 rfl rfl rfl ?_
    refine x_P 8 rfl rfl rfl ?_
    refine x_gI rfl (fun x5 hx5 => ?_)
    refine x_ic_ge rfl rfl (fun h21 => ?_) (fun h21 => ?_)
    · exact x_lv (hex3 s1.1) ⟨rfl, trivial⟩
    · refine x_P 15 rfl rfl rfl ?_
      refine x_P 17 rfl rfl rfl ?_
      refine x_P 18 rfl rfl rfl ?_
      refine x_callV rfl rfl rfl rfl rfl ⟨rfl, rfl⟩ (fun x h => c_85 h) (S_85 (d + 2) a0 s1.2 (Int32.ofInt 2) th) (fun x6 hx6 => ?_)
      refine x_jn 64 (fun v7 => [(0, .ref a0), (1, .int a1), (2, .int a2), (3, .int v7), (4, .int s1.2)]) (fun v7 => []) (fun v7 => th) (fun v7 => ?_) (fun j8 hj8 => ?_)
      · refine x_P (lv' := [(4, .int (s1.2 + Int32.ofInt 1)), (0, .ref a0), (1, .int a1), (2, .int a2), (3, .int v7)]) 67 rfl rfl rfl ?_
        refine x_P 5 rfl rfl rfl ?_
        exact x_lv (hnx2 (v7, (s1.2 + Int32.ofInt 1))) ⟨rfl, rfl, rfl, rfl, rfl, trivial⟩
      · refine x_if_ne rfl rfl (fun h20 => ?_) (fun h20 => ?_)
        · refine x_P 25 rfl rfl rfl ?_
          refine x_P 26 rfl rfl rfl ?_
          refine x_gN rfl (fun o9 ho9 => ?_)
          refine x_P 31 rfl rfl rfl ?_
          refine x_aI rfl ⟨rfl, rfl⟩ (fun x10 hx10 => ?_)
          refine x_P 33 rfl rfl rfl ?_
          refine x_gN rfl (fun o11 ho11 => ?_)
          refine x_P 37 rfl rfl rfl ?_
          refine x_aI rfl ⟨rfl, rfl⟩ (fun x12 hx12 => ?_)
          refine x_P 39 rfl rfl rfl ?_
          refine x_callV rfl rfl rfl rfl rfl ⟨rfl, rfl⟩ (fun x h => c_80 h) (S_80 d a0 x10 x12 a2 th) (fun x13 hx13 => ?_)
          refine x_if_eq rfl rfl (fun h19 => ?_) (fun h19 => ?_)
          · exact x_lv (hj8 s1.1) ⟨rfl, rfl, rfl, rfl, rfl, trivial⟩
          · refine x_P 46 rfl rfl rfl ?_
            refine x_P 47 rfl rfl rfl ?_
            refine x_jn 61 (fun v14 => [(0, .ref a0), (1, .int a1), (2, .int a2), (4, .int s1.2)]) (fun v14 => []) (fun v14 => th) (fun v14 => ?_) (fun j15 hj15 => ?_)
            · refine x_P 63 rfl rfl rfl ?_
              refine x_P (lv' := [(3, .int s1.2), (0, .ref a0), (1, .int a1), (2, .int a2), (4, .int s1.2)]) 64 rfl rfl rfl ?_
              exact x_lv (hj8 s1.2) ⟨rfl, rfl, rfl, rfl, rfl, trivial⟩
            · refine x_ic_eq rfl rfl (fun h18 => ?_) (fun h18 => ?_)
              · exact x_lv (hj15 ()) ⟨rfl, rfl, rfl, rfl, trivial⟩
              · refine x_P 51 rfl rfl rfl ?_
                refine x_P 53 rfl rfl rfl ?_
                refine x_P 54 rfl rfl rfl ?_
                refine x_P 55 rfl rfl rfl ?_
                refine x_callS rfl rfl rfl rfl rfl rfl ⟨rfl, rfl⟩ (S_144 d a0 s1.2 s1.1 a2 th) (fun x16 hx16 => ?_)
                refine x_if_eq rfl rfl (fun h17 => ?_) (fun h17 => ?_)
                · exact x_lv (hj8 s1.1) ⟨rfl, rfl, rfl, rfl, rfl, trivial⟩
                · exact x_lv (hj15 ()) ⟨rfl, rfl, rfl, rfl, trivial⟩
        · exact x_lv (hj8 s1.1) ⟨rfl, rfl, rfl, rfl, rfl, trivial⟩
  · refine x_P 71 rfl rfl rfl ?_
    exact x_retI (x := x4) rfl
-- 145 NineTrees$Sight.isSeen(LNineTrees$Garden;II)Z
noncomputable def m_145 (a0 : Nat) (a1 : Int32) (a2 : Int32) (th : tH) : Option (Int32) :=
  (gN th 2 a0 1).bind fun o1 =>
  (aI th o1 a1).bind fun x2 =>
  jn (fun (v3 : Int32) =>
      rB v3
    ) (fun j4 =>
      jn (fun (v5 : Unit) =>
          j4 (Int32.ofInt 0)
        ) (fun j6 =>
          if x2 = a2 then
            j6 ()
          else
            (m_143 a0 a1 a2 th).bind fun x7 =>
            if x7 = (Int32.ofInt (-1)) then
              j4 (Int32.ofInt 1)
            else
              j6 ()
        )
    )
theorem S_145 {L : Nat} (d : Nat) (a0 : Nat) (a1 : Int32) (a2 : Int32) (th : tH) : Wx L (fun x => (some (.int x), th)) (d + 4) 145 3 0 [(0, .ref a0), (1, .int a1), (2, .int a2)] [] th (m_145 a0 a1 a2 th) := by
  unfold m_145
  refine x_P 1 rfl rfl rfl ?_
  refine x_gN rfl (fun o1 ho1 => ?_)
  refine x_P 5 rfl rfl rfl ?_
  refine x_aI rfl ⟨rfl, rfl⟩ (fun x2 hx2 => ?_)
  refine x_P 7 rfl rfl rfl ?_
  refine x_jn 25 (fun v3 => []) (fun v3 => [.int v3]) (fun v3 => th) (fun v3 => ?_) (fun j4 hj4 => ?_)
  · exact x_rB rfl
  · refine x_jn 24 (fun v5 => []) (fun v5 => []) (fun v5 => th) (fun v5 => ?_) (fun j6 hj6 => ?_)
    · refine x_P 25 rfl rfl rfl ?_
      exact x_lv (hj4 (Int32.ofInt 0)) trivial
    · refine x_ic_eq rfl rfl (fun h9 => ?_) (fun h9 => ?_)
      · exact x_lv (hj6 ()) trivial
      · refine x_P 11 rfl rfl rfl ?_
        refine x_P 12 rfl rfl rfl ?_
        refine x_P 13 rfl rfl rfl ?_
        refine x_callS rfl rfl rfl rfl rfl rfl ⟨rfl, rfl⟩ (S_143 d a0 a1 a2 th) (fun x7 hx7 => ?_)
        refine x_P 17 rfl rfl rfl ?_
        refine x_ic_ne rfl rfl (fun h8 => ?_) (fun h8 => ?_)
        · refine x_P 21 rfl rfl rfl ?_
          refine x_P 25 rfl rfl rfl ?_
          exact x_lv (hj4 (Int32.ofInt 1)) trivial
        · exact x_lv (hj6 ()) trivial
-- 148 NineTrees$Sight.seers(LNineTrees$Garden;I)I
noncomputable def m_148 (a0 : Nat) (a1 : Int32) (th : tH) : Option (Int32) :=
  lp (fun (s1 : Int32 × Int32) nx2 ex3 =>
      (gI th 2 a0 5).bind fun x5 =>
      if x5 ≤ s1.2 then
        ex3 s1.1
      else
        (gN th 2 a0 1).bind fun o6 =>
        (aI th o6 s1.2).bind fun x7 =>
        (m_145 a0 a1 x7 th).bind fun x8 =>
        jn (fun (v9 : Int32) =>
            nx2 (v9, (s1.2 + Int32.ofInt 1))
          ) (fun j10 =>
            if x8 = 0 then
              j10 s1.1
            else
              j10 (s1.1 + Int32.ofInt 1)
          )
    ) 4096 ((Int32.ofInt 0), (Int32.ofInt 0)) (fun (x4 : Int32) =>
      some x4
    )
theorem S_148 {L : Nat} (d : Nat) (a0 : Nat) (a1 : Int32) (th : tH) : Wx L (fun x => (some (.int x), th)) (d + 5) 148 4 0 [(0, .ref a0), (1, .int a1)] [] th (m_148 a0 a1 th) := by
  unfold m_148
  refine x_P 1 rfl rfl rfl ?_
  refine x_P (lv' := [(2, .int (Int32.ofInt 0)), (0, .ref a0), (1, .int a1)]) 2 rfl rfl rfl ?_
  refine x_P 3 rfl rfl rfl ?_
  refine x_P (lv' := [(3, .int (Int32.ofInt 0)), (2, .int (Int32.ofInt 0)), (0, .ref a0), (1, .int a1)]) 4 rfl rfl rfl ?_
  refine x_lv (lv := [(0, .ref a0), (1, .int a1), (2, .int (Int32.ofInt 0)), (3, .int (Int32.ofInt 0))]) (x_lp 35 (fun s1 => [(0, .ref a0), (1, .int a1), (2, .int s1.1), (3, .int s1.2)]) (fun s1 => th) (fun x4 => [(2, .int x4)]) (fun x4 => th) (fun s1 nx2 hnx2 ex3 hex3 => ?_) (fun x4 => ?_) 4096 ((Int32.ofInt 0), (Int32.ofInt 0))) ⟨rfl, rfl, rfl, rfl, trivial⟩
  · refine x_P 5 rfl rfl rfl ?_
    refine x_P 6 rfl rfl rfl ?_
    refine x_gI rfl (fun x5 hx5 => ?_)
    refine x_ic_ge rfl rfl (fun h12 => ?_) (fun h12 => ?_)
    · exact x_lv (hex3 s1.1) ⟨rfl, trivial⟩
    · refine x_P 13 rfl rfl rfl ?_
      refine x_P 14 rfl rfl rfl ?_
      refine x_P 15 rfl rfl rfl ?_
      refine x_gN rfl (fun o6 ho6 => ?_)
      refine x_P 19 rfl rfl rfl ?_
      refine x_aI rfl ⟨rfl, rfl⟩ (fun x7 hx7 => ?_)
      refine x_callS rfl rfl rfl rfl rfl rfl ⟨rfl, rfl⟩ (S_145 d a0 a1 x7 th) (fun x8 hx8 => ?_)
      refine x_jn 29 (fun v9 => [(0, .ref a0), (1, .int a1), (2, .int v9), (3, .int s1.2)]) (fun v9 => []) (fun v9 => th) (fun v9 => ?_) (fun j10 hj10 => ?_)
      · refine x_P (lv' := [(3, .int (s1.2 + Int32.ofInt 1)), (0, .ref a0), (1, .int a1), (2, .int v9)]) 32 rfl rfl rfl ?_
        refine x_P 4 rfl rfl rfl ?_
        exact x_lv (hnx2 (v9, (s1.2 + Int32.ofInt 1))) ⟨rfl, rfl, rfl, rfl, trivial⟩
      · refine x_if_eq rfl rfl (fun h11 => ?_) (fun h11 => ?_)
        · exact x_lv (hj10 s1.1) ⟨rfl, rfl, rfl, rfl, trivial⟩
        · refine x_P (lv' := [(2, .int (s1.1 + Int32.ofInt 1)), (0, .ref a0), (1, .int a1), (3, .int s1.2)]) 29 rfl rfl rfl ?_
          exact x_lv (hj10 (s1.1 + Int32.ofInt 1)) ⟨rfl, rfl, rfl, rfl, trivial⟩
  · refine x_P 36 rfl rfl rfl ?_
    exact x_retI (x := x4) rfl
-- 128 NineTrees$Shapes.nearestTo(LNineTrees$Garden;I)I
noncomputable def m_128 (a0 : Nat) (a1 : Int32) (th : tH) : Option (Int32) :=
  lp (fun (s1 : Int32 × Int32) nx2 ex3 =>
      (gI th 2 a0 5).bind fun x5 =>
      if x5 ≤ s1.2 then
        ex3 s1.1
      else
        (gN th 2 a0 1).bind fun o6 =>
        (aI th o6 s1.2).bind fun x7 =>
        (gN th 2 a0 1).bind fun o8 =>
        (aI th o8 a1).bind fun x9 =>
        (m_77 a0 x7 x9 th).bind fun x10 =>
        jn (fun (v11 : Int32) =>
            nx2 (v11, (s1.2 + Int32.ofInt 1))
          ) (fun j12 =>
            if s1.2 = a1 then
              j12 s1.1
            else
              jn (fun (v13 : Unit) =>
                  j12 x10
                ) (fun j14 =>
                  if s1.1 = 0 then
                    j14 ()
                  else
                    if s1.1 ≤ x10 then
                      j12 s1.1
                    else
                      j14 ()
                )
          )
    ) 4096 ((Int32.ofInt 0), (Int32.ofInt 0)) (fun (x4 : Int32) =>
      some x4
    )
theorem S_128 {L : Nat} (d : Nat) (a0 : Nat) (a1 : Int32) (th : tH) : Wx L (fun x => (some (.int x), th)) (d + 2) 128 5 0 [(0, .ref a0), (1, .int a1)] [] th (m_128 a0 a1 th) := by
  unfold m_128
  refine x_P 1 rfl rfl rfl ?_
  refine x_P (lv' := [(2, .int (Int32.ofInt 0)), (0, .ref a0), (1, .int a1)]) 2 rfl rfl rfl ?_
  refine x_P 3 rfl rfl rfl ?_
  refine x_P (lv' := [(3, .int (Int32.ofInt 0)), (2, .int (Int32.ofInt 0)), (0, .ref a0), (1, .int a1)]) 4 rfl rfl rfl ?_
  refine x_lv (lv := [(0, .ref a0), (1, .int a1), (2, .int (Int32.ofInt 0)), (3, .int (Int32.ofInt 0))]) (x_lp 54 (fun s1 => [(0, .ref a0), (1, .int a1), (2, .int s1.1), (3, .int s1.2)]) (fun s1 => th) (fun x4 => [(2, .int x4)]) (fun x4 => th) (fun s1 nx2 hnx2 ex3 hex3 => ?_) (fun x4 => ?_) 4096 ((Int32.ofInt 0), (Int32.ofInt 0))) ⟨rfl, rfl, rfl, rfl, trivial⟩
  · refine x_P 5 rfl rfl rfl ?_
    refine x_P 6 rfl rfl rfl ?_
    refine x_gI rfl (fun x5 hx5 => ?_)
    refine x_ic_ge rfl rfl (fun h18 => ?_) (fun h18 => ?_)
    · exact x_lv (hex3 s1.1) ⟨rfl, trivial⟩
    · refine x_P 13 rfl rfl rfl ?_
      refine x_P 14 rfl rfl rfl ?_
      refine x_gN rfl (fun o6 ho6 => ?_)
      refine x_P 18 rfl rfl rfl ?_
      refine x_aI rfl ⟨rfl, rfl⟩ (fun x7 hx7 => ?_)
      refine x_P 20 rfl rfl rfl ?_
      refine x_gN rfl (fun o8 ho8 => ?_)
      refine x_P 24 rfl rfl rfl ?_
      refine x_aI rfl ⟨rfl, rfl⟩ (fun x9 hx9 => ?_)
      refine x_callV rfl rfl rfl rfl rfl ⟨rfl, rfl⟩ (fun x h => c_77 h) (S_77 d a0 x7 x9 th) (fun x10 hx10 => ?_)
      refine x_P (lv' := [(4, .int x10), (0, .ref a0), (1, .int a1), (2, .int s1.1), (3, .int s1.2)]) 30 rfl rfl rfl ?_
      refine x_P 31 rfl rfl rfl ?_
      refine x_P 32 rfl rfl rfl ?_
      refine x_jn 48 (fun v11 => [(0, .ref a0), (1, .int a1), (2, .int v11), (3, .int s1.2)]) (fun v11 => []) (fun v11 => th) (fun v11 => ?_) (fun j12 hj12 => ?_)
      · refine x_P (lv' := [(3, .int (s1.2 + Int32.ofInt 1)), (0, .ref a0), (1, .int a1), (2, .int v11)]) 51 rfl rfl rfl ?_
        refine x_P 4 rfl rfl rfl ?_
        exact x_lv (hnx2 (v11, (s1.2 + Int32.ofInt 1))) ⟨rfl, rfl, rfl, rfl, trivial⟩
      · refine x_ic_eq rfl rfl (fun h17 => ?_) (fun h17 => ?_)
        · exact x_lv (hj12 s1.1) ⟨rfl, rfl, rfl, rfl, trivial⟩
        · refine x_P 36 rfl rfl rfl ?_
          refine x_jn 45 (fun v13 => [(0, .ref a0), (1, .int a1), (3, .int s1.2), (4, .int x10)]) (fun v13 => []) (fun v13 => th) (fun v13 => ?_) (fun j14 hj14 => ?_)
          · refine x_P 47 rfl rfl rfl ?_
            refine x_P (lv' := [(2, .int x10), (0, .ref a0), (1, .int a1), (3, .int s1.2), (4, .int x10)]) 48 rfl rfl rfl ?_
            exact x_lv (hj12 x10) ⟨rfl, rfl, rfl, rfl, trivial⟩
          · refine x_if_eq rfl rfl (fun h16 => ?_) (fun h16 => ?_)
            · exact x_lv (hj14 ()) ⟨rfl, rfl, rfl, rfl, trivial⟩
            · refine x_P 41 rfl rfl rfl ?_
              refine x_P 42 rfl rfl rfl ?_
              refine x_ic_ge rfl rfl (fun h15 => ?_) (fun h15 => ?_)
              · exact x_lv (hj12 s1.1) ⟨rfl, rfl, rfl, rfl, trivial⟩
              · exact x_lv (hj14 ()) ⟨rfl, rfl, rfl, rfl, trivial⟩
  · refine x_P 55 rfl rfl rfl ?_
    exact x_retI (x := x4) rfl
-- 8 NineTrees.says(II)I
noncomputable def m_8 (a0 : Nat) (a1 : Int32) (a2 : Int32) (th : tH) : Option (Int32 × tH) :=
  (gC th 7 a0).bind fun _ =>
  (m_60 a0 a1 th).bind fun r1 =>
  jn (fun (v2 : Unit) =>
      (m_59 a0 (Int8.ofInt (-2)).toInt32 th).bind fun q4 =>
      some (q4.1, q4.2)
    ) (fun j3 =>
      match r1 with
      | none =>
        j3 ()
      | some o5 =>
        if a2 < 0 then
          j3 ()
        else
          if a2 ≤ (Int32.ofInt 5) then
            (m_150 o5 th).bind fun x6 =>
            jn (fun (v7 : Unit) =>
                (m_59 a0 (Int8.ofInt (-3)).toInt32 th).bind fun q9 =>
                some (q9.1, q9.2)
              ) (fun j8 =>
                if x6 = 0 then
                  (m_151 o5 th).bind fun x10 =>
                  jn (fun (v11 : Unit) =>
                      (m_151 o5 th).bind fun x13 =>
                      if x13 = 0 then
                        (m_59 a0 (Int8.ofInt (-4)).toInt32 th).bind fun q40 =>
                        some (q40.1, q40.2)
                      else
                        if a2 < 0 ∨ 4 < a2 then
                          (gN th 7 a0 0).bind fun o15 =>
                          (gN th 2 o15 2).bind fun o16 =>
                          (gI th 5 o5 3).bind fun x17 =>
                          (aI th o16 x17).bind fun x18 =>
                          some (x18, th)
                        else if a2 = 0 then
                          (m_63 a0 th).bind fun q20 =>
                          (gI q20.2 5 o5 3).bind fun x21 =>
                          (m_107 q20.1 x21 (Int32.ofInt 3) q20.2).bind fun x22 =>
                          some (x22, q20.2)
                        else if a2 = 1 then
                          (gN th 7 a0 0).bind fun o24 =>
                          (gI th 5 o5 3).bind fun x25 =>
                          (m_97 o24 x25 th).bind fun x26 =>
                          some (x26, th)
                        else if a2 = 2 then
                          (gN th 7 a0 0).bind fun o28 =>
                          (gI th 5 o5 3).bind fun x29 =>
                          (m_148 o28 x29 th).bind fun x30 =>
                          some (x30, th)
                        else if a2 = 3 then
                          (gN th 7 a0 0).bind fun o32 =>
                          (gN th 2 o32 2).bind fun o33 =>
                          (gI th 5 o5 3).bind fun x34 =>
                          (aI th o33 x34).bind fun x35 =>
                          some (x35, th)
                        else if a2 = 4 then
                          (gN th 7 a0 0).bind fun o37 =>
                          (gI th 5 o5 3).bind fun x38 =>
                          (m_128 o37 x38 th).bind fun x39 =>
                          some (x39, th)
                        else
                          none
                    ) (fun j12 =>
                      if x10 = 0 then
                        j12 ()
                      else
                        (gN th 7 a0 0).bind fun o42 =>
                        (gI th 5 o5 3).bind fun x43 =>
                        (m_85 o42 x43 a2 th).bind fun x44 =>
                        if x44 = 0 then
                          j8 ()
                        else
                          j12 ()
                    )
                else
                  j8 ()
              )
          else
            j3 ()
    )
theorem c_8 {a0 : Nat} {a1 : Int32} {a2 : Int32} {th : tH} {x : (Int32 × tH)} (h : m_8 a0 a1 a2 th = some x) : ∃ fs, th[a0]? = some (.inr (7, fs)) := gC_of h
theorem S_8 {L : Nat} (d : Nat) (a0 : Nat) (a1 : Int32) (a2 : Int32) (th : tH) : Wx L (fun x => (some (.int x.1), x.2)) (d + 6) 8 4 0 [(0, .ref a0), (1, .int a1), (2, .int a2)] [] th (m_8 a0 a1 a2 th) := by
  unfold m_8
  refine x_gC ?_
  refine x_P 1 rfl rfl rfl ?_
  refine x_P 2 rfl rfl rfl ?_
  refine x_callV rfl rfl rfl rfl rfl ⟨rfl, rfl⟩ (fun x h => c_60 h) (S_60 (d + 5) a0 a1 th) (fun r1 hr1 => ?_)
  refine x_P (lv' := [(3, va_rf r1), (0, .ref a0), (1, .int a1), (2, .int a2)]) (st' := []) 6 rfl rfl (by rcases r1 with _ | _ <;> rfl) ?_
  refine x_P 7 rfl rfl (t_P_ald_n rfl) ?_
  refine x_jn 19 (fun v2 => [(0, .ref a0)]) (fun v2 => []) (fun v2 => th) (fun v2 => ?_) (fun j3 hj3 => ?_)
  · refine x_P 20 rfl rfl rfl ?_
    refine x_P 22 rfl rfl rfl ?_
    refine x_callV rfl rfl rfl rfl rfl ⟨rfl, rfl⟩ (fun x h => c_59 h) (S_59 (d + 4) a0 (Int8.ofInt (-2)).toInt32 th) (fun q4 hq4 => ?_)
    exact x_retI (x := (q4.1, q4.2)) rfl
  · rcases r1 with _ | o5
    · refine x_P 19 rfl rfl rfl ?_
      exact x_lv (hj3 ()) ⟨rfl, trivial⟩
    · refine x_P 10 rfl rfl rfl ?_
      refine x_P 11 rfl rfl rfl ?_
      refine x_if_lt rfl rfl (fun h49 => ?_) (fun h49 => ?_)
      · exact x_lv (hj3 ()) ⟨rfl, trivial⟩
      · refine x_P 15 rfl rfl rfl ?_
        refine x_P 16 rfl rfl rfl ?_
        refine x_ic_le rfl rfl (fun h48 => ?_) (fun h48 => ?_)
        · refine x_P 27 rfl rfl rfl ?_
          refine x_callV rfl rfl rfl rfl rfl ⟨rfl, rfl⟩ (fun x h => c_150 h) (S_150 (d + 5) o5 th) (fun x6 hx6 => ?_)
          refine x_jn 55 (fun v7 => [(0, .ref a0)]) (fun v7 => []) (fun v7 => th) (fun v7 => ?_) (fun j8 hj8 => ?_)
          · refine x_P 56 rfl rfl rfl ?_
            refine x_P 58 rfl rfl rfl ?_
            refine x_callV rfl rfl rfl rfl rfl ⟨rfl, rfl⟩ (fun x h => c_59 h) (S_59 (d + 4) a0 (Int8.ofInt (-3)).toInt32 th) (fun q9 hq9 => ?_)
            exact x_retI (x := (q9.1, q9.2)) rfl
          · refine x_if_ne rfl rfl (fun h47 => ?_) (fun h47 => ?_)
            · refine x_P 34 rfl rfl rfl ?_
              refine x_callV rfl rfl rfl rfl rfl ⟨rfl, rfl⟩ (fun x h => c_151 h) (S_151 (d + 5) o5 th) (fun x10 hx10 => ?_)
              refine x_jn 62 (fun v11 => [(0, .ref a0), (2, .int a2), (3, .ref o5)]) (fun v11 => []) (fun v11 => th) (fun v11 => ?_) (fun j12 hj12 => ?_)
              · refine x_P 63 rfl rfl rfl ?_
                refine x_callV rfl rfl rfl rfl rfl ⟨rfl, rfl⟩ (fun x h => c_151 h) (S_151 (d + 5) o5 th) (fun x13 hx13 => ?_)
                refine x_if_ne rfl rfl (fun h41 => ?_) (fun h41 => ?_)
                · refine x_P 70 rfl rfl rfl ?_
                  refine x_P 72 rfl rfl rfl ?_
                  refine x_callV rfl rfl rfl rfl rfl ⟨rfl, rfl⟩ (fun x h => c_59 h) (S_59 (d + 4) a0 (Int8.ofInt (-4)).toInt32 th) (fun q40 hq40 => ?_)
                  exact x_retI (x := (q40.1, q40.2)) rfl
                · refine x_P 77 rfl rfl rfl ?_
                  refine x_ite (fun h14 => ?_) (fun h14 => ?_)
                  · refine x_P 161 rfl rfl (x_td h14 (by decide +kernel)) ?_
                    refine x_P 162 rfl rfl rfl ?_
                    refine x_gN rfl (fun o15 ho15 => ?_)
                    refine x_gN rfl (fun o16 ho16 => ?_)
                    refine x_P 169 rfl rfl rfl ?_
                    refine x_gI rfl (fun x17 hx17 => ?_)
                    refine x_aI rfl ⟨rfl, rfl⟩ (fun x18 hx18 => ?_)
                    exact x_retI (x := (x18, th)) rfl
                  · skip
                    refine x_ite (fun h19 => ?_) (fun h19 => ?_)
                    · refine x_P 112 rfl rfl (x_ts h19 (by decide +kernel)) ?_
                      refine x_P 113 rfl rfl rfl ?_
                      refine x_callV rfl rfl rfl rfl rfl ⟨rfl, rfl⟩ (fun x h => c_63 h) (S_63 (d + 1) a0 th) (fun q20 hq20 => ?_)
                      refine x_P 117 rfl rfl rfl ?_
                      refine x_gI rfl (fun x21 hx21 => ?_)
                      refine x_P 121 rfl rfl rfl ?_
                      refine x_callV rfl rfl rfl rfl rfl ⟨rfl, rfl⟩ (fun x h => c_107 h) (S_107 (d + 4) q20.1 x21 (Int32.ofInt 3) q20.2) (fun x22 hx22 => ?_)
                      exact x_retI (x := (x22, q20.2)) rfl
                    · skip
                      refine x_ite (fun h23 => ?_) (fun h23 => ?_)
                      · refine x_P 125 rfl rfl (x_ts h23 (by decide +kernel)) ?_
                        refine x_P 126 rfl rfl rfl ?_
                        refine x_gN rfl (fun o24 ho24 => ?_)
                        refine x_P 130 rfl rfl rfl ?_
                        refine x_gI rfl (fun x25 hx25 => ?_)
                        refine x_callV rfl rfl rfl rfl rfl ⟨rfl, rfl⟩ (fun x h => c_97 h) (S_97 (d + 5) o24 x25 th) (fun x26 hx26 => ?_)
                        exact x_retI (x := (x26, th)) rfl
                      · skip
                        refine x_ite (fun h27 => ?_) (fun h27 => ?_)
                        · refine x_P 137 rfl rfl (x_ts h27 (by decide +kernel)) ?_
                          refine x_P 138 rfl rfl rfl ?_
                          refine x_gN rfl (fun o28 ho28 => ?_)
                          refine x_P 142 rfl rfl rfl ?_
                          refine x_gI rfl (fun x29 hx29 => ?_)
                          refine x_callS rfl rfl rfl rfl rfl rfl ⟨rfl, rfl⟩ (S_148 d o28 x29 th) (fun x30 hx30 => ?_)
                          exact x_retI (x := (x30, th)) rfl
                        · skip
                          refine x_ite (fun h31 => ?_) (fun h31 => ?_)
                          · refine x_P 161 rfl rfl (x_ts h31 (by decide +kernel)) ?_
                            refine x_P 162 rfl rfl rfl ?_
                            refine x_gN rfl (fun o32 ho32 => ?_)
                            refine x_gN rfl (fun o33 ho33 => ?_)
                            refine x_P 169 rfl rfl rfl ?_
                            refine x_gI rfl (fun x34 hx34 => ?_)
                            refine x_aI rfl ⟨rfl, rfl⟩ (fun x35 hx35 => ?_)
                            exact x_retI (x := (x35, th)) rfl
                          · skip
                            refine x_ite (fun h36 => ?_) (fun h36 => ?_)
                            · refine x_P 149 rfl rfl (x_ts h36 (by decide +kernel)) ?_
                              refine x_P 150 rfl rfl rfl ?_
                              refine x_gN rfl (fun o37 ho37 => ?_)
                              refine x_P 154 rfl rfl rfl ?_
                              refine x_gI rfl (fun x38 hx38 => ?_)
                              refine x_callS rfl rfl rfl rfl rfl rfl ⟨rfl, rfl⟩ (S_128 (d + 3) o37 x38 th) (fun x39 hx39 => ?_)
                              exact x_retI (x := (x39, th)) rfl
                            · skip
                              exact x_none
              · refine x_if_eq rfl rfl (fun h46 => ?_) (fun h46 => ?_)
                · exact x_lv (hj12 ()) ⟨rfl, rfl, rfl, trivial⟩
                · refine x_P 41 rfl rfl rfl ?_
                  refine x_gN rfl (fun o42 ho42 => ?_)
                  refine x_P 45 rfl rfl rfl ?_
                  refine x_gI rfl (fun x43 hx43 => ?_)
                  refine x_P 49 rfl rfl rfl ?_
                  refine x_callV rfl rfl rfl rfl rfl ⟨rfl, rfl⟩ (fun x h => c_85 h) (S_85 (d + 5) o42 x43 a2 th) (fun x44 hx44 => ?_)
                  refine x_if_ne rfl rfl (fun h45 => ?_) (fun h45 => ?_)
                  · exact x_lv (hj8 ()) ⟨rfl, trivial⟩
                  · exact x_lv (hj12 ()) ⟨rfl, rfl, rfl, trivial⟩
            · exact x_lv (hj8 ()) ⟨rfl, trivial⟩
        · exact x_lv (hj3 ()) ⟨rfl, trivial⟩
-- 9 NineTrees.side(I)I
noncomputable def m_9 (a0 : Nat) (a1 : Int32) (th : tH) : Option (Int32 × tH) :=
  (gC th 7 a0).bind fun _ =>
  jn (fun (v1 : Unit) =>
      (m_59 a0 (Int8.ofInt (-2)).toInt32 th).bind fun q3 =>
      some (q3.1, q3.2)
    ) (fun j2 =>
      if a1 < (Int32.ofInt 3) then
        j2 ()
      else
        if a1 ≤ (Int8.ofInt 8).toInt32 then
          (gN th 7 a0 0).bind fun o4 =>
          (gI th 2 o4 5).bind fun x5 =>
          if x5 ≤ 0 then
            (gN th 7 a0 0).bind fun o6 =>
            (gI th 2 o6 4).bind fun x7 =>
            (gN th 7 a0 0).bind fun o8 =>
            (pI th 2 o8 4 a1).bind fun th9 =>
            some (x7, th9)
          else
            (m_59 a0 (Int8.ofInt (-5)).toInt32 th).bind fun q10 =>
            some (q10.1, q10.2)
        else
          j2 ()
    )
theorem c_9 {a0 : Nat} {a1 : Int32} {th : tH} {x : (Int32 × tH)} (h : m_9 a0 a1 th = some x) : ∃ fs, th[a0]? = some (.inr (7, fs)) := gC_of h
theorem S_9 {L : Nat} (d : Nat) (a0 : Nat) (a1 : Int32) (th : tH) : Wx L (fun x => (some (.int x.1), x.2)) (d + 2) 9 3 0 [(0, .ref a0), (1, .int a1)] [] th (m_9 a0 a1 th) := by
  unfold m_9
  refine x_gC ?_
  refine x_P 1 rfl rfl rfl ?_
  refine x_P 2 rfl rfl rfl ?_
  refine x_jn 11 (fun v1 => [(0, .ref a0)]) (fun v1 => []) (fun v1 => th) (fun v1 => ?_) (fun j2 hj2 => ?_)
  · refine x_P 12 rfl rfl rfl ?_
    refine x_P 14 rfl rfl rfl ?_
    refine x_callV rfl rfl rfl rfl rfl ⟨rfl, rfl⟩ (fun x h => c_59 h) (S_59 d a0 (Int8.ofInt (-2)).toInt32 th) (fun q3 hq3 => ?_)
    exact x_retI (x := (q3.1, q3.2)) rfl
  · refine x_ic_lt rfl rfl (fun h13 => ?_) (fun h13 => ?_)
    · exact x_lv (hj2 ()) ⟨rfl, trivial⟩
    · refine x_P 6 rfl rfl rfl ?_
      refine x_P 8 rfl rfl rfl ?_
      refine x_ic_le rfl rfl (fun h12 => ?_) (fun h12 => ?_)
      · refine x_P 19 rfl rfl rfl ?_
        refine x_gN rfl (fun o4 ho4 => ?_)
        refine x_gI rfl (fun x5 hx5 => ?_)
        refine x_if_le rfl rfl (fun h11 => ?_) (fun h11 => ?_)
        · refine x_P 36 rfl rfl rfl ?_
          refine x_gN rfl (fun o6 ho6 => ?_)
          refine x_gI rfl (fun x7 hx7 => ?_)
          refine x_P (lv' := [(2, .int x7), (0, .ref a0), (1, .int a1)]) 43 rfl rfl rfl ?_
          refine x_P 44 rfl rfl rfl ?_
          refine x_gN rfl (fun o8 ho8 => ?_)
          refine x_P 48 rfl rfl rfl ?_
          refine x_pI rfl (fun th9 hth9 => ?_)
          refine x_P 52 rfl rfl rfl ?_
          exact x_retI (x := (x7, th9)) rfl
        · refine x_P 29 rfl rfl rfl ?_
          refine x_P 31 rfl rfl rfl ?_
          refine x_callV rfl rfl rfl rfl rfl ⟨rfl, rfl⟩ (fun x h => c_59 h) (S_59 d a0 (Int8.ofInt (-5)).toInt32 th) (fun q10 hq10 => ?_)
          exact x_retI (x := (q10.1, q10.2)) rfl
      · exact x_lv (hj2 ()) ⟨rfl, trivial⟩
-- 70 NineTrees$Garden.cellCount()I
noncomputable def m_70 (a0 : Nat) (th : tH) : Option (Int32) :=
  (gC th 2 a0).bind fun _ =>
  (gI th 2 a0 4).bind fun x1 =>
  (gI th 2 a0 4).bind fun x2 =>
  some (x1 * x2)
theorem c_70 {a0 : Nat} {th : tH} {x : (Int32)} (h : m_70 a0 th = some x) : ∃ fs, th[a0]? = some (.inr (2, fs)) := gC_of h
theorem S_70 {L : Nat} (d : Nat) (a0 : Nat) (th : tH) : Wx L (fun x => (some (.int x), th)) d 70 1 0 [(0, .ref a0)] [] th (m_70 a0 th) := by
  unfold m_70
  refine x_gC ?_
  refine x_P 1 rfl rfl rfl ?_
  refine x_gI rfl (fun x1 hx1 => ?_)
  refine x_P 5 rfl rfl rfl ?_
  refine x_gI rfl (fun x2 hx2 => ?_)
  refine x_P 9 rfl rfl rfl ?_
  exact x_retI (x := (x1 * x2)) rfl
-- 71 NineTrees$Garden.isCell(I)Z
noncomputable def m_71 (a0 : Nat) (a1 : Int32) (th : tH) : Option (Int32) :=
  (gC th 2 a0).bind fun _ =>
  jn (fun (v1 : Int32) =>
      rB v1
    ) (fun j2 =>
      jn (fun (v3 : Unit) =>
          j2 (Int32.ofInt 0)
        ) (fun j4 =>
          if a1 < 0 then
            j4 ()
          else
            (m_70 a0 th).bind fun x5 =>
            if x5 ≤ a1 then
              j4 ()
            else
              j2 (Int32.ofInt 1)
        )
    )
theorem c_71 {a0 : Nat} {a1 : Int32} {th : tH} {x : (Int32)} (h : m_71 a0 a1 th = some x) : ∃ fs, th[a0]? = some (.inr (2, fs)) := gC_of h
theorem S_71 {L : Nat} (d : Nat) (a0 : Nat) (a1 : Int32) (th : tH) : Wx L (fun x => (some (.int x), th)) (d + 1) 71 2 0 [(0, .ref a0), (1, .int a1)] [] th (m_71 a0 a1 th) := by
  unfold m_71
  refine x_gC ?_
  refine x_P 1 rfl rfl rfl ?_
  refine x_jn 17 (fun v1 => []) (fun v1 => [.int v1]) (fun v1 => th) (fun v1 => ?_) (fun j2 hj2 => ?_)
  · exact x_rB rfl
  · refine x_jn 16 (fun v3 => []) (fun v3 => []) (fun v3 => th) (fun v3 => ?_) (fun j4 hj4 => ?_)
    · refine x_P 17 rfl rfl rfl ?_
      exact x_lv (hj2 (Int32.ofInt 0)) trivial
    · refine x_if_lt rfl rfl (fun h7 => ?_) (fun h7 => ?_)
      · exact x_lv (hj4 ()) trivial
      · refine x_P 5 rfl rfl rfl ?_
        refine x_P 6 rfl rfl rfl ?_
        refine x_callV rfl rfl rfl rfl rfl ⟨rfl, rfl⟩ (fun x h => c_70 h) (S_70 d a0 th) (fun x5 hx5 => ?_)
        refine x_ic_ge rfl rfl (fun h6 => ?_) (fun h6 => ?_)
        · exact x_lv (hj4 ()) trivial
        · refine x_P 13 rfl rfl rfl ?_
          refine x_P 17 rfl rfl rfl ?_
          exact x_lv (hj2 (Int32.ofInt 1)) trivial
-- 83 NineTrees$Garden.treeIn(I)I
noncomputable def m_83 (a0 : Nat) (a1 : Int32) (th : tH) : Option (Int32) :=
  (gC th 2 a0).bind fun _ =>
  lp (fun (s1 : Int32) nx2 ex3 =>
      (gI th 2 a0 5).bind fun x5 =>
      if x5 ≤ s1 then
        ex3 ()
      else
        (gN th 2 a0 1).bind fun o6 =>
        (aI th o6 s1).bind fun x7 =>
        if x7 = a1 then
          some s1
        else
          nx2 (s1 + Int32.ofInt 1)
    ) 4096 (Int32.ofInt 0) (fun (x4 : Unit) =>
      some (Int32.ofInt (-1))
    )
theorem c_83 {a0 : Nat} {a1 : Int32} {th : tH} {x : (Int32)} (h : m_83 a0 a1 th = some x) : ∃ fs, th[a0]? = some (.inr (2, fs)) := gC_of h
theorem S_83 {L : Nat} (d : Nat) (a0 : Nat) (a1 : Int32) (th : tH) : Wx L (fun x => (some (.int x), th)) d 83 3 0 [(0, .ref a0), (1, .int a1)] [] th (m_83 a0 a1 th) := by
  unfold m_83
  refine x_gC ?_
  refine x_P 1 rfl rfl rfl ?_
  refine x_P (lv' := [(2, .int (Int32.ofInt 0)), (0, .ref a0), (1, .int a1)]) 2 rfl rfl rfl ?_
  refine x_lv (lv := [(0, .ref a0), (1, .int a1), (2, .int (Int32.ofInt 0))]) (x_lp 28 (fun s1 => [(0, .ref a0), (1, .int a1), (2, .int s1)]) (fun s1 => th) (fun x4 => []) (fun x4 => th) (fun s1 nx2 hnx2 ex3 hex3 => ?_) (fun x4 => ?_) 4096 (Int32.ofInt 0)) ⟨rfl, rfl, rfl, trivial⟩
  · refine x_P 3 rfl rfl rfl ?_
    refine x_P 4 rfl rfl rfl ?_
    refine x_gI rfl (fun x5 hx5 => ?_)
    refine x_ic_ge rfl rfl (fun h9 => ?_) (fun h9 => ?_)
    · exact x_lv (hex3 ()) trivial
    · refine x_P 11 rfl rfl rfl ?_
      refine x_gN rfl (fun o6 ho6 => ?_)
      refine x_P 15 rfl rfl rfl ?_
      refine x_aI rfl ⟨rfl, rfl⟩ (fun x7 hx7 => ?_)
      refine x_P 17 rfl rfl rfl ?_
      refine x_ic_ne rfl rfl (fun h8 => ?_) (fun h8 => ?_)
      · refine x_P 21 rfl rfl rfl ?_
        exact x_retI (x := s1) rfl
      · refine x_P (lv' := [(2, .int (s1 + Int32.ofInt 1)), (0, .ref a0), (1, .int a1)]) 25 rfl rfl rfl ?_
        refine x_P 2 rfl rfl rfl ?_
        exact x_lv (hnx2 (s1 + Int32.ofInt 1)) ⟨rfl, rfl, rfl, trivial⟩
  · refine x_P 29 rfl rfl rfl ?_
    exact x_retI (x := (Int32.ofInt (-1))) rfl
-- 84 NineTrees$Garden.isFree(I)Z
noncomputable def m_84 (a0 : Nat) (a1 : Int32) (th : tH) : Option (Int32) :=
  (gC th 2 a0).bind fun _ =>
  (m_83 a0 a1 th).bind fun x1 =>
  jn (fun (v2 : Int32) =>
      rB v2
    ) (fun j3 =>
      if x1 = (Int32.ofInt (-1)) then
        j3 (Int32.ofInt 1)
      else
        j3 (Int32.ofInt 0)
    )
theorem c_84 {a0 : Nat} {a1 : Int32} {th : tH} {x : (Int32)} (h : m_84 a0 a1 th = some x) : ∃ fs, th[a0]? = some (.inr (2, fs)) := gC_of h
theorem S_84 {L : Nat} (d : Nat) (a0 : Nat) (a1 : Int32) (th : tH) : Wx L (fun x => (some (.int x), th)) (d + 1) 84 2 0 [(0, .ref a0), (1, .int a1)] [] th (m_84 a0 a1 th) := by
  unfold m_84
  refine x_gC ?_
  refine x_P 1 rfl rfl rfl ?_
  refine x_P 2 rfl rfl rfl ?_
  refine x_callV rfl rfl rfl rfl rfl ⟨rfl, rfl⟩ (fun x h => c_83 h) (S_83 d a0 a1 th) (fun x1 hx1 => ?_)
  refine x_P 6 rfl rfl rfl ?_
  refine x_jn 14 (fun v2 => []) (fun v2 => [.int v2]) (fun v2 => th) (fun v2 => ?_) (fun j3 hj3 => ?_)
  · exact x_rB rfl
  · refine x_ic_ne rfl rfl (fun h4 => ?_) (fun h4 => ?_)
    · refine x_P 10 rfl rfl rfl ?_
      refine x_P 14 rfl rfl rfl ?_
      exact x_lv (hj3 (Int32.ofInt 1)) trivial
    · refine x_P 14 rfl rfl rfl ?_
      exact x_lv (hj3 (Int32.ofInt 0)) trivial
-- 89 NineTrees$Garden.addTree(III)V
noncomputable def m_89 (a0 : Nat) (a1 : Int32) (a2 : Int32) (a3 : Int32) (th : tH) : Option tH :=
  (gC th 2 a0).bind fun _ =>
  (gI th 2 a0 5).bind fun x1 =>
  jn (fun (v2 : tH) =>
      some v2
    ) (fun j3 =>
      if (Int8.ofInt 12).toInt32 ≤ x1 then
        j3 th
      else
        (gN th 2 a0 0).bind fun o4 =>
        (gI th 2 a0 5).bind fun x5 =>
        (sI th o4 x5 a1).bind fun th6 =>
        (gN th6 2 a0 1).bind fun o7 =>
        (gI th6 2 a0 5).bind fun x8 =>
        (sI th6 o7 x8 a2).bind fun th9 =>
        (gN th9 2 a0 2).bind fun o10 =>
        (gI th9 2 a0 5).bind fun x11 =>
        (sI th9 o10 x11 a3).bind fun th12 =>
        (gI th12 2 a0 5).bind fun x13 =>
        (pI th12 2 a0 5 (x13 + (Int32.ofInt 1))).bind fun th14 =>
        j3 th14
    )
theorem c_89 {a0 : Nat} {a1 : Int32} {a2 : Int32} {a3 : Int32} {th : tH} {x : tH} (h : m_89 a0 a1 a2 a3 th = some x) : ∃ fs, th[a0]? = some (.inr (2, fs)) := gC_of h
theorem S_89 {L : Nat} (d : Nat) (a0 : Nat) (a1 : Int32) (a2 : Int32) (a3 : Int32) (th : tH) : Wx L (fun x => (none, x)) (d + 1) 89 4 0 [(0, .ref a0), (1, .int a1), (2, .int a2), (3, .int a3)] [] th (m_89 a0 a1 a2 a3 th) := by
  unfold m_89
  refine x_gC ?_
  refine x_P 1 rfl rfl rfl ?_
  refine x_gI rfl (fun x1 hx1 => ?_)
  refine x_P 6 rfl rfl rfl ?_
  refine x_jn 49 (fun v2 => []) (fun v2 => []) (fun v2 => v2) (fun v2 => ?_) (fun j3 hj3 => ?_)
  · exact x_retV (x := v2) rfl
  · refine x_ic_ge rfl rfl (fun h15 => ?_) (fun h15 => ?_)
    · exact x_lv (hj3 th) trivial
    · refine x_P 10 rfl rfl rfl ?_
      refine x_gN rfl (fun o4 ho4 => ?_)
      refine x_P 14 rfl rfl rfl ?_
      refine x_gI rfl (fun x5 hx5 => ?_)
      refine x_P 18 rfl rfl rfl ?_
      refine x_sI rfl ⟨rfl, rfl⟩ (fun th6 hth6 => ?_)
      refine x_P 20 rfl rfl rfl ?_
      refine x_gN rfl (fun o7 ho7 => ?_)
      refine x_P 24 rfl rfl rfl ?_
      refine x_gI rfl (fun x8 hx8 => ?_)
      refine x_P 28 rfl rfl rfl ?_
      refine x_sI rfl ⟨rfl, rfl⟩ (fun th9 hth9 => ?_)
      refine x_P 30 rfl rfl rfl ?_
      refine x_gN rfl (fun o10 ho10 => ?_)
      refine x_P 34 rfl rfl rfl ?_
      refine x_gI rfl (fun x11 hx11 => ?_)
      refine x_P 38 rfl rfl rfl ?_
      refine x_sI rfl ⟨rfl, rfl⟩ (fun th12 hth12 => ?_)
      refine x_P 40 rfl rfl rfl ?_
      refine x_P 41 rfl rfl rfl ?_
      refine x_gI rfl (fun x13 hx13 => ?_)
      refine x_P 45 rfl rfl rfl ?_
      refine x_P 46 rfl rfl rfl ?_
      refine x_pI rfl (fun th14 hth14 => ?_)
      exact x_lv (hj3 th14) trivial
-- 10 NineTrees.tree(III)I
noncomputable def m_10 (a0 : Nat) (a1 : Int32) (a2 : Int32) (a3 : Int32) (th : tH) : Option (Int32 × tH) :=
  (gC th 7 a0).bind fun _ =>
  jn (fun (v1 : Unit) =>
      (m_59 a0 (Int8.ofInt (-2)).toInt32 th).bind fun q3 =>
      some (q3.1, q3.2)
    ) (fun j2 =>
      if a1 < 0 then
        j2 ()
      else
        if (Int32.ofInt 5) < a1 then
          j2 ()
        else
          (gN th 7 a0 0).bind fun o4 =>
          (m_71 o4 a2 th).bind fun x5 =>
          if x5 = 0 then
            j2 ()
          else
            if a3 < 0 then
              j2 ()
            else
              if a3 ≤ (Int8.ofInt 9).toInt32 then
                (gN th 7 a0 0).bind fun o6 =>
                (m_84 o6 a2 th).bind fun x7 =>
                if x7 = 0 then
                  (m_59 a0 (Int8.ofInt (-5)).toInt32 th).bind fun q16 =>
                  some (q16.1, q16.2)
                else
                  (gN th 7 a0 0).bind fun o8 =>
                  (gI th 2 o8 5).bind fun x9 =>
                  if x9 < (Int8.ofInt 12).toInt32 then
                    (gN th 7 a0 0).bind fun o10 =>
                    (m_89 o10 a1 a2 a3 th).bind fun th11 =>
                    (gN th11 7 a0 0).bind fun o12 =>
                    (gI th11 2 o12 5).bind fun x13 =>
                    some ((x13 - (Int32.ofInt 1)), th11)
                  else
                    (m_59 a0 (Int8.ofInt (-6)).toInt32 th).bind fun q14 =>
                    some (q14.1, q14.2)
              else
                j2 ()
    )
theorem c_10 {a0 : Nat} {a1 : Int32} {a2 : Int32} {a3 : Int32} {th : tH} {x : (Int32 × tH)} (h : m_10 a0 a1 a2 a3 th = some x) : ∃ fs, th[a0]? = some (.inr (7, fs)) := gC_of h
theorem S_10 {L : Nat} (d : Nat) (a0 : Nat) (a1 : Int32) (a2 : Int32) (a3 : Int32) (th : tH) : Wx L (fun x => (some (.int x.1), x.2)) (d + 2) 10 4 0 [(0, .ref a0), (1, .int a1), (2, .int a2), (3, .int a3)] [] th (m_10 a0 a1 a2 a3 th) := by
  unfold m_10
  refine x_gC ?_
  refine x_P 1 rfl rfl rfl ?_
  refine x_jn 30 (fun v1 => [(0, .ref a0)]) (fun v1 => []) (fun v1 => th) (fun v1 => ?_) (fun j2 hj2 => ?_)
  · refine x_P 31 rfl rfl rfl ?_
    refine x_P 33 rfl rfl rfl ?_
    refine x_callV rfl rfl rfl rfl rfl ⟨rfl, rfl⟩ (fun x h => c_59 h) (S_59 d a0 (Int8.ofInt (-2)).toInt32 th) (fun q3 hq3 => ?_)
    exact x_retI (x := (q3.1, q3.2)) rfl
  · refine x_if_lt rfl rfl (fun h22 => ?_) (fun h22 => ?_)
    · exact x_lv (hj2 ()) ⟨rfl, trivial⟩
    · refine x_P 5 rfl rfl rfl ?_
      refine x_P 6 rfl rfl rfl ?_
      refine x_ic_gt rfl rfl (fun h21 => ?_) (fun h21 => ?_)
      · exact x_lv (hj2 ()) ⟨rfl, trivial⟩
      · refine x_P 10 rfl rfl rfl ?_
        refine x_gN rfl (fun o4 ho4 => ?_)
        refine x_P 14 rfl rfl rfl ?_
        refine x_callV rfl rfl rfl rfl rfl ⟨rfl, rfl⟩ (fun x h => c_71 h) (S_71 d o4 a2 th) (fun x5 hx5 => ?_)
        refine x_if_eq rfl rfl (fun h20 => ?_) (fun h20 => ?_)
        · exact x_lv (hj2 ()) ⟨rfl, trivial⟩
        · refine x_P 21 rfl rfl rfl ?_
          refine x_if_lt rfl rfl (fun h19 => ?_) (fun h19 => ?_)
          · exact x_lv (hj2 ()) ⟨rfl, trivial⟩
          · refine x_P 25 rfl rfl rfl ?_
            refine x_P 27 rfl rfl rfl ?_
            refine x_ic_le rfl rfl (fun h18 => ?_) (fun h18 => ?_)
            · refine x_P 38 rfl rfl rfl ?_
              refine x_gN rfl (fun o6 ho6 => ?_)
              refine x_P 42 rfl rfl rfl ?_
              refine x_callV rfl rfl rfl rfl rfl ⟨rfl, rfl⟩ (fun x h => c_84 h) (S_84 d o6 a2 th) (fun x7 hx7 => ?_)
              refine x_if_ne rfl rfl (fun h17 => ?_) (fun h17 => ?_)
              · refine x_P 49 rfl rfl rfl ?_
                refine x_P 51 rfl rfl rfl ?_
                refine x_callV rfl rfl rfl rfl rfl ⟨rfl, rfl⟩ (fun x h => c_59 h) (S_59 d a0 (Int8.ofInt (-5)).toInt32 th) (fun q16 hq16 => ?_)
                exact x_retI (x := (q16.1, q16.2)) rfl
              · refine x_P 56 rfl rfl rfl ?_
                refine x_gN rfl (fun o8 ho8 => ?_)
                refine x_gI rfl (fun x9 hx9 => ?_)
                refine x_P 64 rfl rfl rfl ?_
                refine x_ic_lt rfl rfl (fun h15 => ?_) (fun h15 => ?_)
                · refine x_P 75 rfl rfl rfl ?_
                  refine x_gN rfl (fun o10 ho10 => ?_)
                  refine x_P 79 rfl rfl rfl ?_
                  refine x_P 80 rfl rfl rfl ?_
                  refine x_P 81 rfl rfl rfl ?_
                  refine x_callW rfl rfl rfl rfl rfl ⟨rfl, rfl⟩ (fun x h => c_89 h) (S_89 d o10 a1 a2 a3 th) (fun th11 hth11 => ?_)
                  refine x_P 85 rfl rfl rfl ?_
                  refine x_gN rfl (fun o12 ho12 => ?_)
                  refine x_gI rfl (fun x13 hx13 => ?_)
                  refine x_P 92 rfl rfl rfl ?_
                  refine x_P 93 rfl rfl rfl ?_
                  exact x_retI (x := ((x13 - (Int32.ofInt 1)), th11)) rfl
                · refine x_P 68 rfl rfl rfl ?_
                  refine x_P 70 rfl rfl rfl ?_
                  refine x_callV rfl rfl rfl rfl rfl ⟨rfl, rfl⟩ (fun x h => c_59 h) (S_59 d a0 (Int8.ofInt (-6)).toInt32 th) (fun q14 hq14 => ?_)
                  exact x_retI (x := (q14.1, q14.2)) rfl
            · exact x_lv (hj2 ()) ⟨rfl, trivial⟩
-- 82 NineTrees$Garden.allTrees()I
noncomputable def m_82 (a0 : Nat) (th : tH) : Option (Int32) :=
  (gC th 2 a0).bind fun _ =>
  (gI th 2 a0 5).bind fun x1 =>
  some (((Int32.ofInt 1) <<< (x1 &&& 31)) - (Int32.ofInt 1))
theorem c_82 {a0 : Nat} {th : tH} {x : (Int32)} (h : m_82 a0 th = some x) : ∃ fs, th[a0]? = some (.inr (2, fs)) := gC_of h
theorem S_82 {L : Nat} (d : Nat) (a0 : Nat) (th : tH) : Wx L (fun x => (some (.int x), th)) d 82 1 0 [(0, .ref a0)] [] th (m_82 a0 th) := by
  unfold m_82
  refine x_gC ?_
  refine x_P 1 rfl rfl rfl ?_
  refine x_P 2 rfl rfl rfl ?_
  refine x_gI rfl (fun x1 hx1 => ?_)
  refine x_P 6 rfl rfl rfl ?_
  refine x_P 7 rfl rfl rfl ?_
  refine x_P 8 rfl rfl rfl ?_
  exact x_retI (x := (((Int32.ofInt 1) <<< (x1 &&& 31)) - (Int32.ofInt 1))) rfl
-- 93 NineTrees$Garden.isSetOfThree(I)Z
noncomputable def m_93 (a0 : Nat) (a1 : Int32) (th : tH) : Option (Int32) :=
  (gC th 2 a0).bind fun _ =>
  (m_82 a0 th).bind fun x1 =>
  jn (fun (v2 : Int32) =>
      rB v2
    ) (fun j3 =>
      jn (fun (v4 : Unit) =>
          j3 (Int32.ofInt 0)
        ) (fun j5 =>
          if (a1 &&& (x1 ^^^ (Int32.ofInt (-1)))) = 0 then
            (m_173 a1 th).bind fun x6 =>
            if x6 < (Int32.ofInt 3) then
              j5 ()
            else
              j3 (Int32.ofInt 1)
          else
            j5 ()
        )
    )
theorem c_93 {a0 : Nat} {a1 : Int32} {th : tH} {x : (Int32)} (h : m_93 a0 a1 th = some x) : ∃ fs, th[a0]? = some (.inr (2, fs)) := gC_of h
theorem S_93 {L : Nat} (d : Nat) (a0 : Nat) (a1 : Int32) (th : tH) : Wx L (fun x => (some (.int x), th)) (d + 1) 93 2 0 [(0, .ref a0), (1, .int a1)] [] th (m_93 a0 a1 th) := by
  unfold m_93
  refine x_gC ?_
  refine x_P 1 rfl rfl rfl ?_
  refine x_P 2 rfl rfl rfl ?_
  refine x_callV rfl rfl rfl rfl rfl ⟨rfl, rfl⟩ (fun x h => c_82 h) (S_82 d a0 th) (fun x1 hx1 => ?_)
  refine x_P 6 rfl rfl rfl ?_
  refine x_P 7 rfl rfl rfl ?_
  refine x_P 8 rfl rfl rfl ?_
  refine x_jn 24 (fun v2 => []) (fun v2 => [.int v2]) (fun v2 => th) (fun v2 => ?_) (fun j3 hj3 => ?_)
  · exact x_rB rfl
  · refine x_jn 23 (fun v4 => []) (fun v4 => []) (fun v4 => th) (fun v4 => ?_) (fun j5 hj5 => ?_)
    · refine x_P 24 rfl rfl rfl ?_
      exact x_lv (hj3 (Int32.ofInt 0)) trivial
    · refine x_if_ne rfl rfl (fun h8 => ?_) (fun h8 => ?_)
      · refine x_P 12 rfl rfl rfl ?_
        refine x_callS rfl rfl rfl rfl rfl rfl ⟨rfl, rfl⟩ (S_173 d a1 th) (fun x6 hx6 => ?_)
        refine x_P 16 rfl rfl rfl ?_
        refine x_ic_lt rfl rfl (fun h7 => ?_) (fun h7 => ?_)
        · exact x_lv (hj5 ()) trivial
        · refine x_P 20 rfl rfl rfl ?_
          refine x_P 24 rfl rfl rfl ?_
          exact x_lv (hj3 (Int32.ofInt 1)) trivial
      · exact x_lv (hj5 ()) trivial
-- 96 NineTrees$Garden.addWish(I)V
noncomputable def m_96 (a0 : Nat) (a1 : Int32) (th : tH) : Option tH :=
  (gC th 2 a0).bind fun _ =>
  (gI th 2 a0 6).bind fun x1 =>
  jn (fun (v2 : tH) =>
      some v2
    ) (fun j3 =>
      if (Int8.ofInt 8).toInt32 ≤ x1 then
        j3 th
      else
        (gN th 2 a0 3).bind fun o4 =>
        (gI th 2 a0 6).bind fun x5 =>
        (sI th o4 x5 a1).bind fun th6 =>
        (gI th6 2 a0 6).bind fun x7 =>
        (pI th6 2 a0 6 (x7 + (Int32.ofInt 1))).bind fun th8 =>
        j3 th8
    )
theorem c_96 {a0 : Nat} {a1 : Int32} {th : tH} {x : tH} (h : m_96 a0 a1 th = some x) : ∃ fs, th[a0]? = some (.inr (2, fs)) := gC_of h
theorem S_96 {L : Nat} (d : Nat) (a0 : Nat) (a1 : Int32) (th : tH) : Wx L (fun x => (none, x)) (d + 1) 96 2 0 [(0, .ref a0), (1, .int a1)] [] th (m_96 a0 a1 th) := by
  unfold m_96
  refine x_gC ?_
  refine x_P 1 rfl rfl rfl ?_
  refine x_gI rfl (fun x1 hx1 => ?_)
  refine x_P 6 rfl rfl rfl ?_
  refine x_jn 29 (fun v2 => []) (fun v2 => []) (fun v2 => v2) (fun v2 => ?_) (fun j3 hj3 => ?_)
  · exact x_retV (x := v2) rfl
  · refine x_ic_ge rfl rfl (fun h9 => ?_) (fun h9 => ?_)
    · exact x_lv (hj3 th) trivial
    · refine x_P 10 rfl rfl rfl ?_
      refine x_gN rfl (fun o4 ho4 => ?_)
      refine x_P 14 rfl rfl rfl ?_
      refine x_gI rfl (fun x5 hx5 => ?_)
      refine x_P 18 rfl rfl rfl ?_
      refine x_sI rfl ⟨rfl, rfl⟩ (fun th6 hth6 => ?_)
      refine x_P 20 rfl rfl rfl ?_
      refine x_P 21 rfl rfl rfl ?_
      refine x_gI rfl (fun x7 hx7 => ?_)
      refine x_P 25 rfl rfl rfl ?_
      refine x_P 26 rfl rfl rfl ?_
      refine x_pI rfl (fun th8 hth8 => ?_)
      exact x_lv (hj3 th8) trivial
-- 11 NineTrees.wish(I)I
noncomputable def m_11 (a0 : Nat) (a1 : Int32) (th : tH) : Option (Int32 × tH) :=
  (gC th 7 a0).bind fun _ =>
  (gN th 7 a0 0).bind fun o1 =>
  (m_93 o1 a1 th).bind fun x2 =>
  if x2 = 0 then
    (m_59 a0 (Int8.ofInt (-2)).toInt32 th).bind fun q11 =>
    some (q11.1, q11.2)
  else
    (gN th 7 a0 0).bind fun o3 =>
    (gI th 2 o3 6).bind fun x4 =>
    if x4 < (Int8.ofInt 8).toInt32 then
      (gN th 7 a0 0).bind fun o5 =>
      (m_96 o5 a1 th).bind fun th6 =>
      (gN th6 7 a0 0).bind fun o7 =>
      (gI th6 2 o7 6).bind fun x8 =>
      some ((x8 - (Int32.ofInt 1)), th6)
    else
      (m_59 a0 (Int8.ofInt (-6)).toInt32 th).bind fun q9 =>
      some (q9.1, q9.2)
theorem c_11 {a0 : Nat} {a1 : Int32} {th : tH} {x : (Int32 × tH)} (h : m_11 a0 a1 th = some x) : ∃ fs, th[a0]? = some (.inr (7, fs)) := gC_of h
theorem S_11 {L : Nat} (d : Nat) (a0 : Nat) (a1 : Int32) (th : tH) : Wx L (fun x => (some (.int x.1), x.2)) (d + 2) 11 2 0 [(0, .ref a0), (1, .int a1)] [] th (m_11 a0 a1 th) := by
  unfold m_11
  refine x_gC ?_
  refine x_P 1 rfl rfl rfl ?_
  refine x_gN rfl (fun o1 ho1 => ?_)
  refine x_P 5 rfl rfl rfl ?_
  refine x_callV rfl rfl rfl rfl rfl ⟨rfl, rfl⟩ (fun x h => c_93 h) (S_93 d o1 a1 th) (fun x2 hx2 => ?_)
  refine x_if_ne rfl rfl (fun h12 => ?_) (fun h12 => ?_)
  · refine x_P 12 rfl rfl rfl ?_
    refine x_P 14 rfl rfl rfl ?_
    refine x_callV rfl rfl rfl rfl rfl ⟨rfl, rfl⟩ (fun x h => c_59 h) (S_59 d a0 (Int8.ofInt (-2)).toInt32 th) (fun q11 hq11 => ?_)
    exact x_retI (x := (q11.1, q11.2)) rfl
  · refine x_P 19 rfl rfl rfl ?_
    refine x_gN rfl (fun o3 ho3 => ?_)
    refine x_gI rfl (fun x4 hx4 => ?_)
    refine x_P 27 rfl rfl rfl ?_
    refine x_ic_lt rfl rfl (fun h10 => ?_) (fun h10 => ?_)
    · refine x_P 38 rfl rfl rfl ?_
      refine x_gN rfl (fun o5 ho5 => ?_)
      refine x_P 42 rfl rfl rfl ?_
      refine x_callW rfl rfl rfl rfl rfl ⟨rfl, rfl⟩ (fun x h => c_96 h) (S_96 d o5 a1 th) (fun th6 hth6 => ?_)
      refine x_P 46 rfl rfl rfl ?_
      refine x_gN rfl (fun o7 ho7 => ?_)
      refine x_gI rfl (fun x8 hx8 => ?_)
      refine x_P 53 rfl rfl rfl ?_
      refine x_P 54 rfl rfl rfl ?_
      exact x_retI (x := ((x8 - (Int32.ofInt 1)), th6)) rfl
    · refine x_P 31 rfl rfl rfl ?_
      refine x_P 33 rfl rfl rfl ?_
      refine x_callV rfl rfl rfl rfl rfl ⟨rfl, rfl⟩ (fun x h => c_59 h) (S_59 d a0 (Int8.ofInt (-6)).toInt32 th) (fun q9 hq9 => ?_)
      exact x_retI (x := (q9.1, q9.2)) rfl
-- 12 NineTrees.content()I
noncomputable def m_12 (a0 : Nat) (th : tH) : Option (Int32 × tH) :=
  (gC th 7 a0).bind fun _ =>
  (gN th 7 a0 0).bind fun o1 =>
  (gI th 2 o1 6).bind fun x2 =>
  (gN th 7 a0 0).bind fun o3 =>
  (pI th 2 o3 6 (Int32.ofInt 0)).bind fun th4 =>
  some (x2, th4)
theorem c_12 {a0 : Nat} {th : tH} {x : (Int32 × tH)} (h : m_12 a0 th = some x) : ∃ fs, th[a0]? = some (.inr (7, fs)) := gC_of h
theorem S_12 {L : Nat} (d : Nat) (a0 : Nat) (th : tH) : Wx L (fun x => (some (.int x.1), x.2)) (d + 1) 12 2 0 [(0, .ref a0)] [] th (m_12 a0 th) := by
  unfold m_12
  refine x_gC ?_
  refine x_P 1 rfl rfl rfl ?_
  refine x_gN rfl (fun o1 ho1 => ?_)
  refine x_gI rfl (fun x2 hx2 => ?_)
  refine x_P (lv' := [(1, .int x2), (0, .ref a0)]) 8 rfl rfl rfl ?_
  refine x_P 9 rfl rfl rfl ?_
  refine x_gN rfl (fun o3 ho3 => ?_)
  refine x_P 13 rfl rfl rfl ?_
  refine x_pI rfl (fun th4 hth4 => ?_)
  refine x_P 17 rfl rfl rfl ?_
  exact x_retI (x := (x2, th4)) rfl
-- 87 NineTrees$Garden.isMovable(I)Z
noncomputable def m_87 (a0 : Nat) (a1 : Int32) (th : tH) : Option (Int32) :=
  (gC th 2 a0).bind fun _ =>
  (m_85 a0 a1 (Int32.ofInt 1) th).bind fun x1 =>
  jn (fun (v2 : Int32) =>
      rB v2
    ) (fun j3 =>
      if x1 = 0 then
        j3 (Int32.ofInt 1)
      else
        j3 (Int32.ofInt 0)
    )
theorem c_87 {a0 : Nat} {a1 : Int32} {th : tH} {x : (Int32)} (h : m_87 a0 a1 th = some x) : ∃ fs, th[a0]? = some (.inr (2, fs)) := gC_of h
theorem S_87 {L : Nat} (d : Nat) (a0 : Nat) (a1 : Int32) (th : tH) : Wx L (fun x => (some (.int x), th)) (d + 1) 87 2 0 [(0, .ref a0), (1, .int a1)] [] th (m_87 a0 a1 th) := by
  unfold m_87
  refine x_gC ?_
  refine x_P 1 rfl rfl rfl ?_
  refine x_P 2 rfl rfl rfl ?_
  refine x_P 3 rfl rfl rfl ?_
  refine x_callV rfl rfl rfl rfl rfl ⟨rfl, rfl⟩ (fun x h => c_85 h) (S_85 d a0 a1 (Int32.ofInt 1) th) (fun x1 hx1 => ?_)
  refine x_jn 14 (fun v2 => []) (fun v2 => [.int v2]) (fun v2 => th) (fun v2 => ?_) (fun j3 hj3 => ?_)
  · exact x_rB rfl
  · refine x_if_ne rfl rfl (fun h4 => ?_) (fun h4 => ?_)
    · refine x_P 10 rfl rfl rfl ?_
      refine x_P 14 rfl rfl rfl ?_
      exact x_lv (hj3 (Int32.ofInt 1)) trivial
    · refine x_P 14 rfl rfl rfl ?_
      exact x_lv (hj3 (Int32.ofInt 0)) trivial
-- 67 NineTrees.whyNoMove(II)I
noncomputable def m_67 (a0 : Nat) (a1 : Int32) (a2 : Int32) (th : tH) : Option (Int32) :=
  (gC th 7 a0).bind fun _ =>
  (gN th 7 a0 0).bind fun o1 =>
  (m_81 o1 a1 th).bind fun x2 =>
  jn (fun (v3 : Unit) =>
      some (Int8.ofInt (-2)).toInt32
    ) (fun j4 =>
      if x2 = 0 then
        j4 ()
      else
        (gN th 7 a0 0).bind fun o5 =>
        (m_71 o5 a2 th).bind fun x6 =>
        if x6 = 0 then
          j4 ()
        else
          (gN th 7 a0 0).bind fun o7 =>
          (m_87 o7 a1 th).bind fun x8 =>
          jn (fun (v9 : Int32) =>
              some v9
            ) (fun j10 =>
              jn (fun (v11 : Unit) =>
                  j10 (Int8.ofInt (-5)).toInt32
                ) (fun j12 =>
                  if x8 = 0 then
                    j12 ()
                  else
                    (gN th 7 a0 0).bind fun o13 =>
                    (m_84 o13 a2 th).bind fun x14 =>
                    if x14 = 0 then
                      j12 ()
                    else
                      j10 (Int32.ofInt 0)
                )
            )
    )
theorem c_67 {a0 : Nat} {a1 : Int32} {a2 : Int32} {th : tH} {x : (Int32)} (h : m_67 a0 a1 a2 th = some x) : ∃ fs, th[a0]? = some (.inr (7, fs)) := gC_of h
theorem S_67 {L : Nat} (d : Nat) (a0 : Nat) (a1 : Int32) (a2 : Int32) (th : tH) : Wx L (fun x => (some (.int x), th)) (d + 2) 67 3 0 [(0, .ref a0), (1, .int a1), (2, .int a2)] [] th (m_67 a0 a1 a2 th) := by
  unfold m_67
  refine x_gC ?_
  refine x_P 1 rfl rfl rfl ?_
  refine x_gN rfl (fun o1 ho1 => ?_)
  refine x_P 5 rfl rfl rfl ?_
  refine x_callV rfl rfl rfl rfl rfl ⟨rfl, rfl⟩ (fun x h => c_81 h) (S_81 (d + 1) o1 a1 th) (fun x2 hx2 => ?_)
  refine x_jn 22 (fun v3 => []) (fun v3 => []) (fun v3 => th) (fun v3 => ?_) (fun j4 hj4 => ?_)
  · refine x_P 24 rfl rfl rfl ?_
    exact x_retI (x := (Int8.ofInt (-2)).toInt32) rfl
  · refine x_if_eq rfl rfl (fun h18 => ?_) (fun h18 => ?_)
    · exact x_lv (hj4 ()) trivial
    · refine x_P 12 rfl rfl rfl ?_
      refine x_gN rfl (fun o5 ho5 => ?_)
      refine x_P 16 rfl rfl rfl ?_
      refine x_callV rfl rfl rfl rfl rfl ⟨rfl, rfl⟩ (fun x h => c_71 h) (S_71 d o5 a2 th) (fun x6 hx6 => ?_)
      refine x_if_ne rfl rfl (fun h17 => ?_) (fun h17 => ?_)
      · exact x_lv (hj4 ()) trivial
      · refine x_P 26 rfl rfl rfl ?_
        refine x_gN rfl (fun o7 ho7 => ?_)
        refine x_P 30 rfl rfl rfl ?_
        refine x_callV rfl rfl rfl rfl rfl ⟨rfl, rfl⟩ (fun x h => c_87 h) (S_87 d o7 a1 th) (fun x8 hx8 => ?_)
        refine x_jn 53 (fun v9 => []) (fun v9 => [.int v9]) (fun v9 => th) (fun v9 => ?_) (fun j10 hj10 => ?_)
        · exact x_retI (x := v9) rfl
        · refine x_jn 51 (fun v11 => []) (fun v11 => []) (fun v11 => th) (fun v11 => ?_) (fun j12 hj12 => ?_)
          · refine x_P 53 rfl rfl rfl ?_
            exact x_lv (hj10 (Int8.ofInt (-5)).toInt32) trivial
          · refine x_if_eq rfl rfl (fun h16 => ?_) (fun h16 => ?_)
            · exact x_lv (hj12 ()) trivial
            · refine x_P 37 rfl rfl rfl ?_
              refine x_gN rfl (fun o13 ho13 => ?_)
              refine x_P 41 rfl rfl rfl ?_
              refine x_callV rfl rfl rfl rfl rfl ⟨rfl, rfl⟩ (fun x h => c_84 h) (S_84 d o13 a2 th) (fun x14 hx14 => ?_)
              refine x_if_eq rfl rfl (fun h15 => ?_) (fun h15 => ?_)
              · exact x_lv (hj12 ()) trivial
              · refine x_P 48 rfl rfl rfl ?_
                refine x_P 53 rfl rfl rfl ?_
                exact x_lv (hj10 (Int32.ofInt 0)) trivial
-- 13 NineTrees.move(II)I
noncomputable def m_13 (a0 : Nat) (a1 : Int32) (a2 : Int32) (th : tH) : Option (Int32 × tH) :=
  (gC th 7 a0).bind fun _ =>
  (m_67 a0 a1 a2 th).bind fun x1 =>
  if x1 = 0 then
    (gN th 7 a0 0).bind fun o2 =>
    (gN th 2 o2 1).bind fun o3 =>
    (aI th o3 a1).bind fun x4 =>
    (gN th 7 a0 0).bind fun o5 =>
    (gN th 2 o5 1).bind fun o6 =>
    (sI th o6 a1 a2).bind fun th7 =>
    some (x4, th7)
  else
    (m_59 a0 x1 th).bind fun q8 =>
    some (q8.1, q8.2)
theorem c_13 {a0 : Nat} {a1 : Int32} {a2 : Int32} {th : tH} {x : (Int32 × tH)} (h : m_13 a0 a1 a2 th = some x) : ∃ fs, th[a0]? = some (.inr (7, fs)) := gC_of h
theorem S_13 {L : Nat} (d : Nat) (a0 : Nat) (a1 : Int32) (a2 : Int32) (th : tH) : Wx L (fun x => (some (.int x.1), x.2)) (d + 3) 13 5 0 [(0, .ref a0), (1, .int a1), (2, .int a2)] [] th (m_13 a0 a1 a2 th) := by
  unfold m_13
  refine x_gC ?_
  refine x_P 1 rfl rfl rfl ?_
  refine x_P 2 rfl rfl rfl ?_
  refine x_P 3 rfl rfl rfl ?_
  refine x_callV rfl rfl rfl rfl rfl ⟨rfl, rfl⟩ (fun x h => c_67 h) (S_67 d a0 a1 a2 th) (fun x1 hx1 => ?_)
  refine x_P (lv' := [(3, .int x1), (0, .ref a0), (1, .int a1), (2, .int a2)]) 7 rfl rfl rfl ?_
  refine x_P 8 rfl rfl rfl ?_
  refine x_if_eq rfl rfl (fun h9 => ?_) (fun h9 => ?_)
  · refine x_P 18 rfl rfl rfl ?_
    refine x_gN rfl (fun o2 ho2 => ?_)
    refine x_gN rfl (fun o3 ho3 => ?_)
    refine x_P 25 rfl rfl rfl ?_
    refine x_aI rfl ⟨rfl, rfl⟩ (fun x4 hx4 => ?_)
    refine x_P (lv' := [(4, .int x4), (3, .int x1), (0, .ref a0), (1, .int a1), (2, .int a2)]) 28 rfl rfl rfl ?_
    refine x_P 29 rfl rfl rfl ?_
    refine x_gN rfl (fun o5 ho5 => ?_)
    refine x_gN rfl (fun o6 ho6 => ?_)
    refine x_P 36 rfl rfl rfl ?_
    refine x_P 37 rfl rfl rfl ?_
    refine x_sI rfl ⟨rfl, rfl⟩ (fun th7 hth7 => ?_)
    refine x_P 40 rfl rfl rfl ?_
    exact x_retI (x := (x4, th7)) rfl
  · refine x_P 12 rfl rfl rfl ?_
    refine x_P 13 rfl rfl rfl ?_
    refine x_callV rfl rfl rfl rfl rfl ⟨rfl, rfl⟩ (fun x h => c_59 h) (S_59 (d + 1) a0 x1 th) (fun q8 hq8 => ?_)
    exact x_retI (x := (q8.1, q8.2)) rfl
-- 90 NineTrees$Garden.isLastFellable()Z
noncomputable def m_90 (a0 : Nat) (th : tH) : Option (Int32) :=
  (gC th 2 a0).bind fun _ =>
  (gI th 2 a0 5).bind fun x1 =>
  jn (fun (v2 : Int32) =>
      rB v2
    ) (fun j3 =>
      jn (fun (v4 : Unit) =>
          j3 (Int32.ofInt 0)
        ) (fun j5 =>
          if x1 ≤ 0 then
            j5 ()
          else
            (gI th 2 a0 5).bind fun x6 =>
            (m_97 a0 (x6 - (Int32.ofInt 1)) th).bind fun x7 =>
            if x7 = 0 then
              j3 (Int32.ofInt 1)
            else
              j5 ()
        )
    )
theorem c_90 {a0 : Nat} {th : tH} {x : (Int32)} (h : m_90 a0 th = some x) : ∃ fs, th[a0]? = some (.inr (2, fs)) := gC_of h
theorem S_90 {L : Nat} (d : Nat) (a0 : Nat) (th : tH) : Wx L (fun x => (some (.int x), th)) (d + 1) 90 1 0 [(0, .ref a0)] [] th (m_90 a0 th) := by
  unfold m_90
  refine x_gC ?_
  refine x_P 1 rfl rfl rfl ?_
  refine x_gI rfl (fun x1 hx1 => ?_)
  refine x_jn 25 (fun v2 => []) (fun v2 => [.int v2]) (fun v2 => th) (fun v2 => ?_) (fun j3 hj3 => ?_)
  · exact x_rB rfl
  · refine x_jn 24 (fun v4 => []) (fun v4 => []) (fun v4 => th) (fun v4 => ?_) (fun j5 hj5 => ?_)
    · refine x_P 25 rfl rfl rfl ?_
      exact x_lv (hj3 (Int32.ofInt 0)) trivial
    · refine x_if_le rfl rfl (fun h9 => ?_) (fun h9 => ?_)
      · exact x_lv (hj5 ()) trivial
      · refine x_P 8 rfl rfl rfl ?_
        refine x_P 9 rfl rfl rfl ?_
        refine x_gI rfl (fun x6 hx6 => ?_)
        refine x_P 13 rfl rfl rfl ?_
        refine x_P 14 rfl rfl rfl ?_
        refine x_callV rfl rfl rfl rfl rfl ⟨rfl, rfl⟩ (fun x h => c_97 h) (S_97 d a0 (x6 - (Int32.ofInt 1)) th) (fun x7 hx7 => ?_)
        refine x_if_ne rfl rfl (fun h8 => ?_) (fun h8 => ?_)
        · refine x_P 21 rfl rfl rfl ?_
          refine x_P 25 rfl rfl rfl ?_
          exact x_lv (hj3 (Int32.ofInt 1)) trivial
        · exact x_lv (hj5 ()) trivial
end
section
/-! ===== programs ===== -/
-- 91 NineTrees$Garden.dropLast()V
noncomputable def m_91 (a0 : Nat) (th : tH) : Option tH :=
  (gC th 2 a0).bind fun _ =>
  (gI th 2 a0 5).bind fun x1 =>
  jn (fun (v2 : tH) =>
      some v2
    ) (fun j3 =>
      if x1 ≤ 0 then
        j3 th
      else
        (gI th 2 a0 5).bind fun x4 =>
        (pI th 2 a0 5 (x4 - (Int32.ofInt 1))).bind fun th5 =>
        j3 th5
    )
theorem c_91 {a0 : Nat} {th : tH} {x : tH} (h : m_91 a0 th = some x) : ∃ fs, th[a0]? = some (.inr (2, fs)) := gC_of h
theorem S_91 {L : Nat} (d : Nat) (a0 : Nat) (th : tH) : Wx L (fun x => (none, x)) (d + 1) 91 1 0 [(0, .ref a0)] [] th (m_91 a0 th) := by
  unfold m_91
  refine x_gC ?_
  refine x_P 1 rfl rfl rfl ?_
  refine x_gI rfl (fun x1 hx1 => ?_)
  refine x_jn 17 (fun v2 => []) (fun v2 => []) (fun v2 => v2) (fun v2 => ?_) (fun j3 hj3 => ?_)
  · exact x_retV (x := v2) rfl
  · refine x_if_le rfl rfl (fun h6 => ?_) (fun h6 => ?_)
    · exact x_lv (hj3 th) trivial
    · refine x_P 8 rfl rfl rfl ?_
      refine x_P 9 rfl rfl rfl ?_
      refine x_gI rfl (fun x4 hx4 => ?_)
      refine x_P 13 rfl rfl rfl ?_
      refine x_P 14 rfl rfl rfl ?_
      refine x_pI rfl (fun th5 hth5 => ?_)
      exact x_lv (hj3 th5) trivial
-- 62 NineTrees.clearShelvesFrom(I)V
noncomputable def m_62 (a0 : Nat) (a1 : Int32) (th : tH) : Option tH :=
  (gC th 7 a0).bind fun _ =>
  lp (fun (s1 : Int32 × tH) nx2 ex3 =>
      (gN s1.2 7 a0 8).bind fun o5 =>
      (aL s1.2 o5).bind fun x6 =>
      if x6 ≤ s1.1 then
        ex3 s1.2
      else
        (m_60 a0 s1.1 s1.2).bind fun r7 =>
        jn (fun (v8 : tH) =>
            nx2 ((s1.1 + Int32.ofInt 1), v8)
          ) (fun j9 =>
            match r7 with
            | none =>
              j9 s1.2
            | some o10 =>
              (gI s1.2 5 o10 3).bind fun x11 =>
              if x11 < a1 then
                j9 s1.2
              else
                (m_156 o10 (Int32.ofInt (-1)) s1.2).bind fun th12 =>
                j9 th12
          )
    ) 4096 ((Int32.ofInt 0), th) (fun (x4 : tH) =>
      some x4
    )
theorem c_62 {a0 : Nat} {a1 : Int32} {th : tH} {x : tH} (h : m_62 a0 a1 th = some x) : ∃ fs, th[a0]? = some (.inr (7, fs)) := gC_of h
theorem S_62 {L : Nat} (d : Nat) (a0 : Nat) (a1 : Int32) (th : tH) : Wx L (fun x => (none, x)) (d + 2) 62 4 0 [(0, .ref a0), (1, .int a1)] [] th (m_62 a0 a1 th) := by
  unfold m_62
  refine x_gC ?_
  refine x_P 1 rfl rfl rfl ?_
  refine x_P (lv' := [(2, .int (Int32.ofInt 0)), (0, .ref a0), (1, .int a1)]) 2 rfl rfl rfl ?_
  refine x_lv (lv := [(0, .ref a0), (1, .int a1), (2, .int (Int32.ofInt 0))]) (x_lp 40 (fun s1 => [(0, .ref a0), (1, .int a1), (2, .int s1.1)]) (fun s1 => s1.2) (fun x4 => []) (fun x4 => x4) (fun s1 nx2 hnx2 ex3 hex3 => ?_) (fun x4 => ?_) 4096 ((Int32.ofInt 0), th)) ⟨rfl, rfl, rfl, trivial⟩
  · refine x_P 3 rfl rfl rfl ?_
    refine x_P 4 rfl rfl rfl ?_
    refine x_gN rfl (fun o5 ho5 => ?_)
    refine x_aL rfl ⟨rfl, rfl⟩ (fun x6 hx6 => ?_)
    refine x_ic_ge rfl rfl (fun h14 => ?_) (fun h14 => ?_)
    · exact x_lv (hex3 s1.2) trivial
    · refine x_P 12 rfl rfl rfl ?_
      refine x_P 13 rfl rfl rfl ?_
      refine x_callV rfl rfl rfl rfl rfl ⟨rfl, rfl⟩ (fun x h => c_60 h) (S_60 (d + 1) a0 s1.1 s1.2) (fun r7 hr7 => ?_)
      refine x_P (lv' := [(3, va_rf r7), (0, .ref a0), (1, .int a1), (2, .int s1.1)]) (st' := []) 17 rfl rfl (by rcases r7 with _ | _ <;> rfl) ?_
      refine x_P 18 rfl rfl (t_P_ald_n rfl) ?_
      refine x_jn 34 (fun v8 => [(0, .ref a0), (1, .int a1), (2, .int s1.1)]) (fun v8 => []) (fun v8 => v8) (fun v8 => ?_) (fun j9 hj9 => ?_)
      · refine x_P (lv' := [(2, .int (s1.1 + Int32.ofInt 1)), (0, .ref a0), (1, .int a1)]) 37 rfl rfl rfl ?_
        refine x_P 2 rfl rfl rfl ?_
        exact x_lv (hnx2 ((s1.1 + Int32.ofInt 1), v8)) ⟨rfl, rfl, rfl, trivial⟩
      · rcases r7 with _ | o10
        · refine x_P 34 rfl rfl rfl ?_
          exact x_lv (hj9 s1.2) ⟨rfl, rfl, rfl, trivial⟩
        · refine x_P 21 rfl rfl rfl ?_
          refine x_P 22 rfl rfl rfl ?_
          refine x_gI rfl (fun x11 hx11 => ?_)
          refine x_P 26 rfl rfl rfl ?_
          refine x_ic_lt rfl rfl (fun h13 => ?_) (fun h13 => ?_)
          · exact x_lv (hj9 s1.2) ⟨rfl, rfl, rfl, trivial⟩
          · refine x_P 30 rfl rfl rfl ?_
            refine x_P 31 rfl rfl rfl ?_
            refine x_callW rfl rfl rfl rfl rfl ⟨rfl, rfl⟩ (fun x h => c_156 h) (S_156 d o10 (Int32.ofInt (-1)) s1.2) (fun th12 hth12 => ?_)
            exact x_lv (hj9 th12) ⟨rfl, rfl, rfl, trivial⟩
  · exact x_retV (x := x4) rfl
-- 14 NineTrees.fell()I
noncomputable def m_14 (a0 : Nat) (th : tH) : Option (Int32 × tH) :=
  (gC th 7 a0).bind fun _ =>
  (gN th 7 a0 0).bind fun o1 =>
  (m_90 o1 th).bind fun x2 =>
  if x2 = 0 then
    (m_59 a0 (Int8.ofInt (-5)).toInt32 th).bind fun q10 =>
    some (q10.1, q10.2)
  else
    (gN th 7 a0 0).bind fun o3 =>
    (m_91 o3 th).bind fun th4 =>
    (gN th4 7 a0 0).bind fun o5 =>
    (gI th4 2 o5 5).bind fun x6 =>
    (m_62 a0 x6 th4).bind fun th7 =>
    (gN th7 7 a0 0).bind fun o8 =>
    (gI th7 2 o8 5).bind fun x9 =>
    some (x9, th7)
theorem c_14 {a0 : Nat} {th : tH} {x : (Int32 × tH)} (h : m_14 a0 th = some x) : ∃ fs, th[a0]? = some (.inr (7, fs)) := gC_of h
theorem S_14 {L : Nat} (d : Nat) (a0 : Nat) (th : tH) : Wx L (fun x => (some (.int x.1), x.2)) (d + 3) 14 1 0 [(0, .ref a0)] [] th (m_14 a0 th) := by
  unfold m_14
  refine x_gC ?_
  refine x_P 1 rfl rfl rfl ?_
  refine x_gN rfl (fun o1 ho1 => ?_)
  refine x_callV rfl rfl rfl rfl rfl ⟨rfl, rfl⟩ (fun x h => c_90 h) (S_90 (d + 1) o1 th) (fun x2 hx2 => ?_)
  refine x_if_ne rfl rfl (fun h11 => ?_) (fun h11 => ?_)
  · refine x_P 11 rfl rfl rfl ?_
    refine x_P 13 rfl rfl rfl ?_
    refine x_callV rfl rfl rfl rfl rfl ⟨rfl, rfl⟩ (fun x h => c_59 h) (S_59 (d + 1) a0 (Int8.ofInt (-5)).toInt32 th) (fun q10 hq10 => ?_)
    exact x_retI (x := (q10.1, q10.2)) rfl
  · refine x_P 18 rfl rfl rfl ?_
    refine x_gN rfl (fun o3 ho3 => ?_)
    refine x_callW rfl rfl rfl rfl rfl ⟨rfl, rfl⟩ (fun x h => c_91 h) (S_91 (d + 1) o3 th) (fun th4 hth4 => ?_)
    refine x_P 25 rfl rfl rfl ?_
    refine x_P 26 rfl rfl rfl ?_
    refine x_gN rfl (fun o5 ho5 => ?_)
    refine x_gI rfl (fun x6 hx6 => ?_)
    refine x_callW rfl rfl rfl rfl rfl ⟨rfl, rfl⟩ (fun x h => c_62 h) (S_62 d a0 x6 th4) (fun th7 hth7 => ?_)
    refine x_P 36 rfl rfl rfl ?_
    refine x_gN rfl (fun o8 ho8 => ?_)
    refine x_gI rfl (fun x9 hx9 => ?_)
    exact x_retI (x := (x9, th7)) rfl
-- 15 NineTrees.feed(I)I
noncomputable def m_15 (a0 : Nat) (a1 : Int32) (th : tH) : Option (Int32 × tH) :=
  (gC th 7 a0).bind fun _ =>
  jn (fun (v1 : Unit) =>
      (m_59 a0 (Int8.ofInt (-2)).toInt32 th).bind fun q3 =>
      some (q3.1, q3.2)
    ) (fun j2 =>
      if a1 < 0 then
        j2 ()
      else
        if a1 ≤ (Int16.ofInt 255).toInt32 then
          (gN th 7 a0 7).bind fun o4 =>
          (gI th 6 o4 1).bind fun x5 =>
          if x5 < (Int16.ofInt 250).toInt32 then
            (gN th 7 a0 7).bind fun o6 =>
            (gN th 6 o6 0).bind fun o7 =>
            (gN th 7 a0 7).bind fun o8 =>
            (gI th 6 o8 1).bind fun x9 =>
            (sI th o7 x9 a1).bind fun th10 =>
            (gN th10 7 a0 7).bind fun o11 =>
            (gI th10 6 o11 1).bind fun x12 =>
            (pI th10 6 o11 1 (x12 + (Int32.ofInt 1))).bind fun th13 =>
            (gN th13 7 a0 7).bind fun o14 =>
            (gI th13 6 o14 1).bind fun x15 =>
            some (x15, th13)
          else
            (m_59 a0 (Int8.ofInt (-6)).toInt32 th).bind fun q16 =>
            some (q16.1, q16.2)
        else
          j2 ()
    )
theorem c_15 {a0 : Nat} {a1 : Int32} {th : tH} {x : (Int32 × tH)} (h : m_15 a0 a1 th = some x) : ∃ fs, th[a0]? = some (.inr (7, fs)) := gC_of h
theorem S_15 {L : Nat} (d : Nat) (a0 : Nat) (a1 : Int32) (th : tH) : Wx L (fun x => (some (.int x.1), x.2)) (d + 2) 15 2 0 [(0, .ref a0), (1, .int a1)] [] th (m_15 a0 a1 th) := by
  unfold m_15
  refine x_gC ?_
  refine x_P 1 rfl rfl rfl ?_
  refine x_jn 11 (fun v1 => [(0, .ref a0)]) (fun v1 => []) (fun v1 => th) (fun v1 => ?_) (fun j2 hj2 => ?_)
  · refine x_P 12 rfl rfl rfl ?_
    refine x_P 14 rfl rfl rfl ?_
    refine x_callV rfl rfl rfl rfl rfl ⟨rfl, rfl⟩ (fun x h => c_59 h) (S_59 d a0 (Int8.ofInt (-2)).toInt32 th) (fun q3 hq3 => ?_)
    exact x_retI (x := (q3.1, q3.2)) rfl
  · refine x_if_lt rfl rfl (fun h19 => ?_) (fun h19 => ?_)
    · exact x_lv (hj2 ()) ⟨rfl, trivial⟩
    · refine x_P 5 rfl rfl rfl ?_
      refine x_P 8 rfl rfl rfl ?_
      refine x_ic_le rfl rfl (fun h18 => ?_) (fun h18 => ?_)
      · refine x_P 19 rfl rfl rfl ?_
        refine x_gN rfl (fun o4 ho4 => ?_)
        refine x_gI rfl (fun x5 hx5 => ?_)
        refine x_P 28 rfl rfl rfl ?_
        refine x_ic_lt rfl rfl (fun h17 => ?_) (fun h17 => ?_)
        · refine x_P 39 rfl rfl rfl ?_
          refine x_gN rfl (fun o6 ho6 => ?_)
          refine x_gN rfl (fun o7 ho7 => ?_)
          refine x_P 46 rfl rfl rfl ?_
          refine x_gN rfl (fun o8 ho8 => ?_)
          refine x_gI rfl (fun x9 hx9 => ?_)
          refine x_P 53 rfl rfl rfl ?_
          refine x_sI rfl ⟨rfl, rfl⟩ (fun th10 hth10 => ?_)
          refine x_P 55 rfl rfl rfl ?_
          refine x_gN rfl (fun o11 ho11 => ?_)
          refine x_P 59 rfl rfl rfl ?_
          refine x_gI rfl (fun x12 hx12 => ?_)
          refine x_P 63 rfl rfl rfl ?_
          refine x_P 64 rfl rfl rfl ?_
          refine x_pI rfl (fun th13 hth13 => ?_)
          refine x_P 68 rfl rfl rfl ?_
          refine x_gN rfl (fun o14 ho14 => ?_)
          refine x_gI rfl (fun x15 hx15 => ?_)
          exact x_retI (x := (x15, th13)) rfl
        · refine x_P 32 rfl rfl rfl ?_
          refine x_P 34 rfl rfl rfl ?_
          refine x_callV rfl rfl rfl rfl rfl ⟨rfl, rfl⟩ (fun x h => c_59 h) (S_59 d a0 (Int8.ofInt (-6)).toInt32 th) (fun q16 hq16 => ?_)
          exact x_retI (x := (q16.1, q16.2)) rfl
      · exact x_lv (hj2 ()) ⟨rfl, trivial⟩
-- 16 NineTrees.wipe()I
noncomputable def m_16 (a0 : Nat) (th : tH) : Option (Int32 × tH) :=
  (gC th 7 a0).bind fun _ =>
  (gN th 7 a0 7).bind fun o1 =>
  (gI th 6 o1 1).bind fun x2 =>
  (gN th 7 a0 7).bind fun o3 =>
  (pI th 6 o3 1 (Int32.ofInt 0)).bind fun th4 =>
  some (x2, th4)
theorem c_16 {a0 : Nat} {th : tH} {x : (Int32 × tH)} (h : m_16 a0 th = some x) : ∃ fs, th[a0]? = some (.inr (7, fs)) := gC_of h
theorem S_16 {L : Nat} (d : Nat) (a0 : Nat) (th : tH) : Wx L (fun x => (some (.int x.1), x.2)) (d + 1) 16 2 0 [(0, .ref a0)] [] th (m_16 a0 th) := by
  unfold m_16
  refine x_gC ?_
  refine x_P 1 rfl rfl rfl ?_
  refine x_gN rfl (fun o1 ho1 => ?_)
  refine x_gI rfl (fun x2 hx2 => ?_)
  refine x_P (lv' := [(1, .int x2), (0, .ref a0)]) 8 rfl rfl rfl ?_
  refine x_P 9 rfl rfl rfl ?_
  refine x_gN rfl (fun o3 ho3 => ?_)
  refine x_P 13 rfl rfl rfl ?_
  refine x_pI rfl (fun th4 hth4 => ?_)
  refine x_P 17 rfl rfl rfl ?_
  exact x_retI (x := (x2, th4)) rfl
-- 69 NineTrees$Garden.copyFrom(LNineTrees$Garden;)V
noncomputable def m_69 (a0 : Nat) (a1 : Nat) (th : tH) : Option tH :=
  (gC th 2 a0).bind fun _ =>
  (gN th 2 a1 0).bind fun o1 =>
  (gN th 2 a0 0).bind fun o2 =>
  (cpI th o1 (Int32.ofInt 0) o2 (Int32.ofInt 0) (Int8.ofInt 12).toInt32).bind fun th3 =>
  (gN th3 2 a1 1).bind fun o4 =>
  (gN th3 2 a0 1).bind fun o5 =>
  (cpI th3 o4 (Int32.ofInt 0) o5 (Int32.ofInt 0) (Int8.ofInt 12).toInt32).bind fun th6 =>
  (gN th6 2 a1 2).bind fun o7 =>
  (gN th6 2 a0 2).bind fun o8 =>
  (cpI th6 o7 (Int32.ofInt 0) o8 (Int32.ofInt 0) (Int8.ofInt 12).toInt32).bind fun th9 =>
  (gN th9 2 a1 3).bind fun o10 =>
  (gN th9 2 a0 3).bind fun o11 =>
  (cpI th9 o10 (Int32.ofInt 0) o11 (Int32.ofInt 0) (Int8.ofInt 8).toInt32).bind fun th12 =>
  (gI th12 2 a1 4).bind fun x13 =>
  (pI th12 2 a0 4 x13).bind fun th14 =>
  (gI th14 2 a1 5).bind fun x15 =>
  (pI th14 2 a0 5 x15).bind fun th16 =>
  (gI th16 2 a1 6).bind fun x17 =>
  (pI th16 2 a0 6 x17).bind fun th18 =>
  (gI th18 2 a1 7).bind fun x19 =>
  (pI th18 2 a0 7 x19).bind fun th20 =>
  some th20
theorem c_69 {a0 : Nat} {a1 : Nat} {th : tH} {x : tH} (h : m_69 a0 a1 th = some x) : ∃ fs, th[a0]? = some (.inr (2, fs)) := gC_of h
theorem S_69 {L : Nat} (d : Nat) (a0 : Nat) (a1 : Nat) (th : tH) : Wx L (fun x => (none, x)) (d + 1) 69 2 0 [(0, .ref a0), (1, .ref a1)] [] th (m_69 a0 a1 th) := by
  unfold m_69
  refine x_gC ?_
  refine x_P 1 rfl rfl rfl ?_
  refine x_gN rfl (fun o1 ho1 => ?_)
  refine x_P 5 rfl rfl rfl ?_
  refine x_P 6 rfl rfl rfl ?_
  refine x_gN rfl (fun o2 ho2 => ?_)
  refine x_P 10 rfl rfl rfl ?_
  refine x_P 12 rfl rfl rfl ?_
  refine x_cpI rfl rfl (fun th3 hth3 => ?_)
  refine x_P 16 rfl rfl rfl ?_
  refine x_gN rfl (fun o4 ho4 => ?_)
  refine x_P 20 rfl rfl rfl ?_
  refine x_P 21 rfl rfl rfl ?_
  refine x_gN rfl (fun o5 ho5 => ?_)
  refine x_P 25 rfl rfl rfl ?_
  refine x_P 27 rfl rfl rfl ?_
  refine x_cpI rfl rfl (fun th6 hth6 => ?_)
  refine x_P 31 rfl rfl rfl ?_
  refine x_gN rfl (fun o7 ho7 => ?_)
  refine x_P 35 rfl rfl rfl ?_
  refine x_P 36 rfl rfl rfl ?_
  refine x_gN rfl (fun o8 ho8 => ?_)
  refine x_P 40 rfl rfl rfl ?_
  refine x_P 42 rfl rfl rfl ?_
  refine x_cpI rfl rfl (fun th9 hth9 => ?_)
  refine x_P 46 rfl rfl rfl ?_
  refine x_gN rfl (fun o10 ho10 => ?_)
  refine x_P 50 rfl rfl rfl ?_
  refine x_P 51 rfl rfl rfl ?_
  refine x_gN rfl (fun o11 ho11 => ?_)
  refine x_P 55 rfl rfl rfl ?_
  refine x_P 57 rfl rfl rfl ?_
  refine x_cpI rfl rfl (fun th12 hth12 => ?_)
  refine x_P 61 rfl rfl rfl ?_
  refine x_P 62 rfl rfl rfl ?_
  refine x_gI rfl (fun x13 hx13 => ?_)
  refine x_pI rfl (fun th14 hth14 => ?_)
  refine x_P 69 rfl rfl rfl ?_
  refine x_P 70 rfl rfl rfl ?_
  refine x_gI rfl (fun x15 hx15 => ?_)
  refine x_pI rfl (fun th16 hth16 => ?_)
  refine x_P 77 rfl rfl rfl ?_
  refine x_P 78 rfl rfl rfl ?_
  refine x_gI rfl (fun x17 hx17 => ?_)
  refine x_pI rfl (fun th18 hth18 => ?_)
  refine x_P 85 rfl rfl rfl ?_
  refine x_P 86 rfl rfl rfl ?_
  refine x_gI rfl (fun x19 hx19 => ?_)
  refine x_pI rfl (fun th20 hth20 => ?_)
  exact x_retV (x := th20) rfl
-- 170 NineTrees$Tape.typeAt(I)I
noncomputable def m_170 (a0 : Nat) (a1 : Int32) (th : tH) : Option (Int32) :=
  (gC th 6 a0).bind fun _ =>
  (gI th 6 a0 1).bind fun x1 =>
  if a1 < x1 then
    (gN th 6 a0 0).bind fun o2 =>
    (aI th o2 a1).bind fun x3 =>
    jn (fun (v4 : Unit) =>
        jn (fun (v6 : Unit) =>
            jn (fun (v8 : Int32) =>
                some v8
              ) (fun j9 =>
                if x3 = (Int8.ofInt 59).toInt32 then
                  j9 (Int32.ofInt 3)
                else
                  j9 (Int32.ofInt 4)
              )
          ) (fun j7 =>
            if x3 < (Int8.ofInt 48).toInt32 then
              j7 ()
            else
              if (Int8.ofInt 57).toInt32 < x3 then
                j7 ()
              else
                some (Int32.ofInt 2)
          )
      ) (fun j5 =>
        if x3 < (Int8.ofInt 97).toInt32 then
          j5 ()
        else
          if (Int8.ofInt 122).toInt32 < x3 then
            j5 ()
          else
            some (Int32.ofInt 1)
      )
  else
    some (Int32.ofInt 0)
theorem c_170 {a0 : Nat} {a1 : Int32} {th : tH} {x : (Int32)} (h : m_170 a0 a1 th = some x) : ∃ fs, th[a0]? = some (.inr (6, fs)) := gC_of h
theorem S_170 {L : Nat} (d : Nat) (a0 : Nat) (a1 : Int32) (th : tH) : Wx L (fun x => (some (.int x), th)) d 170 3 0 [(0, .ref a0), (1, .int a1)] [] th (m_170 a0 a1 th) := by
  unfold m_170
  refine x_gC ?_
  refine x_P 1 rfl rfl rfl ?_
  refine x_P 2 rfl rfl rfl ?_
  refine x_gI rfl (fun x1 hx1 => ?_)
  refine x_ic_lt rfl rfl (fun h15 => ?_) (fun h15 => ?_)
  · refine x_P 11 rfl rfl rfl ?_
    refine x_gN rfl (fun o2 ho2 => ?_)
    refine x_P 15 rfl rfl rfl ?_
    refine x_aI rfl ⟨rfl, rfl⟩ (fun x3 hx3 => ?_)
    refine x_P (lv' := [(2, .int x3), (0, .ref a0), (1, .int a1)]) 17 rfl rfl rfl ?_
    refine x_P 18 rfl rfl rfl ?_
    refine x_P 20 rfl rfl rfl ?_
    refine x_jn 31 (fun v4 => [(2, .int x3)]) (fun v4 => []) (fun v4 => th) (fun v4 => ?_) (fun j5 hj5 => ?_)
    · refine x_P 32 rfl rfl rfl ?_
      refine x_P 34 rfl rfl rfl ?_
      refine x_jn 45 (fun v6 => [(2, .int x3)]) (fun v6 => []) (fun v6 => th) (fun v6 => ?_) (fun j7 hj7 => ?_)
      · refine x_P 46 rfl rfl rfl ?_
        refine x_P 48 rfl rfl rfl ?_
        refine x_jn 56 (fun v8 => []) (fun v8 => [.int v8]) (fun v8 => th) (fun v8 => ?_) (fun j9 hj9 => ?_)
        · exact x_retI (x := v8) rfl
        · refine x_ic_ne rfl rfl (fun h10 => ?_) (fun h10 => ?_)
          · refine x_P 52 rfl rfl rfl ?_
            refine x_P 56 rfl rfl rfl ?_
            exact x_lv (hj9 (Int32.ofInt 3)) trivial
          · refine x_P 56 rfl rfl rfl ?_
            exact x_lv (hj9 (Int32.ofInt 4)) trivial
      · refine x_ic_lt rfl rfl (fun h12 => ?_) (fun h12 => ?_)
        · exact x_lv (hj7 ()) ⟨rfl, trivial⟩
        · refine x_P 38 rfl rfl rfl ?_
          refine x_P 40 rfl rfl rfl ?_
          refine x_ic_gt rfl rfl (fun h11 => ?_) (fun h11 => ?_)
          · exact x_lv (hj7 ()) ⟨rfl, trivial⟩
          · refine x_P 44 rfl rfl rfl ?_
            exact x_retI (x := (Int32.ofInt 2)) rfl
    · refine x_ic_lt rfl rfl (fun h14 => ?_) (fun h14 => ?_)
      · exact x_lv (hj5 ()) ⟨rfl, trivial⟩
      · refine x_P 24 rfl rfl rfl ?_
        refine x_P 26 rfl rfl rfl ?_
        refine x_ic_gt rfl rfl (fun h13 => ?_) (fun h13 => ?_)
        · exact x_lv (hj5 ()) ⟨rfl, trivial⟩
        · refine x_P 30 rfl rfl rfl ?_
          exact x_retI (x := (Int32.ofInt 1)) rfl
  · refine x_P 9 rfl rfl rfl ?_
    exact x_retI (x := (Int32.ofInt 0)) rfl
-- 171 NineTrees$Tape.valueOfDigits()I
noncomputable def m_171 (a0 : Nat) (th : tH) : Option (Int32) :=
  (gC th 6 a0).bind fun _ =>
  (gI th 6 a0 5).bind fun x1 =>
  (gI th 6 a0 4).bind fun x2 =>
  if (x1 - x2) ≤ (Int32.ofInt 2) then
    (gI th 6 a0 4).bind fun x3 =>
    lp (fun (s4 : Int32 × Int32) nx5 ex6 =>
        (gI th 6 a0 5).bind fun x8 =>
        if x8 ≤ s4.2 then
          ex6 s4.1
        else
          (gN th 6 a0 0).bind fun o9 =>
          (aI th o9 s4.2).bind fun x10 =>
          nx5 (((((Int8.ofInt 10).toInt32 * s4.1) + x10) - (Int8.ofInt 48).toInt32), (s4.2 + Int32.ofInt 1))
      ) 4096 ((Int32.ofInt 0), x3) (fun (x7 : Int32) =>
        some x7
      )
  else
    some (Int32.ofInt (-1))
theorem c_171 {a0 : Nat} {th : tH} {x : (Int32)} (h : m_171 a0 th = some x) : ∃ fs, th[a0]? = some (.inr (6, fs)) := gC_of h
theorem S_171 {L : Nat} (d : Nat) (a0 : Nat) (th : tH) : Wx L (fun x => (some (.int x), th)) d 171 3 0 [(0, .ref a0)] [] th (m_171 a0 th) := by
  unfold m_171
  refine x_gC ?_
  refine x_P 1 rfl rfl rfl ?_
  refine x_gI rfl (fun x1 hx1 => ?_)
  refine x_P 5 rfl rfl rfl ?_
  refine x_gI rfl (fun x2 hx2 => ?_)
  refine x_P 9 rfl rfl rfl ?_
  refine x_P 10 rfl rfl rfl ?_
  refine x_ic_le rfl rfl (fun h12 => ?_) (fun h12 => ?_)
  · refine x_P 16 rfl rfl rfl ?_
    refine x_P (lv' := [(1, .int (Int32.ofInt 0)), (0, .ref a0)]) 17 rfl rfl rfl ?_
    refine x_P 18 rfl rfl rfl ?_
    refine x_gI rfl (fun x3 hx3 => ?_)
    refine x_P (lv' := [(2, .int x3), (1, .int (Int32.ofInt 0)), (0, .ref a0)]) 22 rfl rfl rfl ?_
    refine x_lv (lv := [(0, .ref a0), (1, .int (Int32.ofInt 0)), (2, .int x3)]) (x_lp 51 (fun s4 => [(0, .ref a0), (1, .int s4.1), (2, .int s4.2)]) (fun s4 => th) (fun x7 => [(1, .int x7)]) (fun x7 => th) (fun s4 nx5 hnx5 ex6 hex6 => ?_) (fun x7 => ?_) 4096 ((Int32.ofInt 0), x3)) ⟨rfl, rfl, rfl, trivial⟩
    · refine x_P 23 rfl rfl rfl ?_
      refine x_P 24 rfl rfl rfl ?_
      refine x_gI rfl (fun x8 hx8 => ?_)
      refine x_ic_ge rfl rfl (fun h11 => ?_) (fun h11 => ?_)
      · exact x_lv (hex6 s4.1) ⟨rfl, trivial⟩
      · refine x_P 32 rfl rfl rfl ?_
        refine x_P 33 rfl rfl rfl ?_
        refine x_P 34 rfl rfl rfl ?_
        refine x_P 35 rfl rfl rfl ?_
        refine x_gN rfl (fun o9 ho9 => ?_)
        refine x_P 39 rfl rfl rfl ?_
        refine x_aI rfl ⟨rfl, rfl⟩ (fun x10 hx10 => ?_)
        refine x_P 41 rfl rfl rfl ?_
        refine x_P 43 rfl rfl rfl ?_
        refine x_P 44 rfl rfl rfl ?_
        refine x_P (lv' := [(1, .int ((((Int8.ofInt 10).toInt32 * s4.1) + x10) - (Int8.ofInt 48).toInt32)), (0, .ref a0), (2, .int s4.2)]) 45 rfl rfl rfl ?_
        refine x_P (lv' := [(2, .int (s4.2 + Int32.ofInt 1)), (1, .int ((((Int8.ofInt 10).toInt32 * s4.1) + x10) - (Int8.ofInt 48).toInt32)), (0, .ref a0)]) 48 rfl rfl rfl ?_
        refine x_P 22 rfl rfl rfl ?_
        exact x_lv (hnx5 (((((Int8.ofInt 10).toInt32 * s4.1) + x10) - (Int8.ofInt 48).toInt32), (s4.2 + Int32.ofInt 1))) ⟨rfl, rfl, rfl, trivial⟩
    · refine x_P 52 rfl rfl rfl ?_
      exact x_retI (x := x7) rfl
  · refine x_P 14 rfl rfl rfl ?_
    exact x_retI (x := (Int32.ofInt (-1))) rfl
-- 169 NineTrees$Tape.advance()V
noncomputable def m_169 (a0 : Nat) (th : tH) : Option tH :=
  (gC th 6 a0).bind fun _ =>
  (gI th 6 a0 5).bind fun x1 =>
  (pI th 6 a0 4 x1).bind fun th2 =>
  lp (fun (s3 : tH) nx4 ex5 =>
      (gI s3 6 a0 4).bind fun x55 =>
      (gI s3 6 a0 1).bind fun x56 =>
      if x56 ≤ x55 then
        ex5 s3
      else
        (gN s3 6 a0 0).bind fun o57 =>
        (gI s3 6 a0 4).bind fun x58 =>
        (aI s3 o57 x58).bind fun x59 =>
        if x59 = (Int8.ofInt 32).toInt32 then
          (gI s3 6 a0 4).bind fun x60 =>
          (pI s3 6 a0 4 (x60 + (Int32.ofInt 1))).bind fun th61 =>
          nx4 th61
        else
          ex5 s3
    ) 4096 th2 (fun (x6 : tH) =>
      (gI x6 6 a0 4).bind fun x7 =>
      (m_170 a0 x7 x6).bind fun x8 =>
      (pI x6 6 a0 3 x8).bind fun th9 =>
      (gI th9 6 a0 3).bind fun x10 =>
      jn (fun (v11 : Int32 × Nat) =>
          (pI th9 6 v11.2 5 v11.1).bind fun th13 =>
          (gI th13 6 a0 3).bind fun x14 =>
          jn (fun (v15 : tH) =>
              (gI v15 6 a0 3).bind fun x17 =>
              jn (fun (v18 : Int32 × Nat) =>
                  (pI v15 6 v18.2 6 v18.1).bind fun th20 =>
                  some th20
                ) (fun j19 =>
                  if x17 = (Int32.ofInt 2) then
                    (m_171 a0 v15).bind fun x21 =>
                    j19 (x21, a0)
                  else
                    j19 ((Int32.ofInt (-1)), a0)
                )
            ) (fun j16 =>
              if x14 = (Int32.ofInt 1) then
                lp (fun (s23 : tH) nx24 ex25 =>
                    (gI s23 6 a0 5).bind fun x27 =>
                    (gI s23 6 a0 1).bind fun x28 =>
                    if x28 ≤ x27 then
                      ex25 s23
                    else
                      (gI s23 6 a0 5).bind fun x29 =>
                      (m_170 a0 x29 s23).bind fun x30 =>
                      (gI s23 6 a0 3).bind fun x31 =>
                      if x30 = x31 then
                        (gI s23 6 a0 5).bind fun x32 =>
                        (pI s23 6 a0 5 (x32 + (Int32.ofInt 1))).bind fun th33 =>
                        nx24 th33
                      else
                        ex25 s23
                  ) 4096 th13 (fun (x26 : tH) =>
                    j16 x26
                  )
              else
                (gI th13 6 a0 3).bind fun x36 =>
                if x36 = (Int32.ofInt 2) then
                  lp (fun (s37 : tH) nx38 ex39 =>
                      (gI s37 6 a0 5).bind fun x41 =>
                      (gI s37 6 a0 1).bind fun x42 =>
                      if x42 ≤ x41 then
                        ex39 s37
                      else
                        (gI s37 6 a0 5).bind fun x43 =>
                        (m_170 a0 x43 s37).bind fun x44 =>
                        (gI s37 6 a0 3).bind fun x45 =>
                        if x44 = x45 then
                          (gI s37 6 a0 5).bind fun x46 =>
                          (pI s37 6 a0 5 (x46 + (Int32.ofInt 1))).bind fun th47 =>
                          nx38 th47
                        else
                          ex39 s37
                    ) 4096 th13 (fun (x40 : tH) =>
                      j16 x40
                    )
                else
                  j16 th13
            )
        ) (fun j12 =>
          if x10 = 0 then
            (gI th9 6 a0 4).bind fun x53 =>
            j12 (x53, a0)
          else
            (gI th9 6 a0 4).bind fun x52 =>
            j12 ((x52 + (Int32.ofInt 1)), a0)
        )
    )
theorem c_169 {a0 : Nat} {th : tH} {x : tH} (h : m_169 a0 th = some x) : ∃ fs, th[a0]? = some (.inr (6, fs)) := gC_of h
theorem S_169 {L : Nat} (d : Nat) (a0 : Nat) (th : tH) : Wx L (fun x => (none, x)) (d + 1) 169 1 0 [(0, .ref a0)] [] th (m_169 a0 th) := by
  unfold m_169
  refine x_gC ?_
  refine x_P 1 rfl rfl rfl ?_
  refine x_P 2 rfl rfl rfl ?_
  refine x_gI rfl (fun x1 hx1 => ?_)
  refine x_pI rfl (fun th2 hth2 => ?_)
  refine x_lv (lv := [(0, .ref a0)]) (x_lp 46 (fun s3 => [(0, .ref a0)]) (fun s3 => s3) (fun x6 => [(0, .ref a0)]) (fun x6 => x6) (fun s3 nx4 hnx4 ex5 hex5 => ?_) (fun x6 => ?_) 4096 th2) ⟨rfl, trivial⟩
  · refine x_P 9 rfl rfl rfl ?_
    refine x_gI rfl (fun x55 hx55 => ?_)
    refine x_P 13 rfl rfl rfl ?_
    refine x_gI rfl (fun x56 hx56 => ?_)
    refine x_ic_ge rfl rfl (fun h63 => ?_) (fun h63 => ?_)
    · exact x_lv (hex5 s3) ⟨rfl, trivial⟩
    · refine x_P 20 rfl rfl rfl ?_
      refine x_gN rfl (fun o57 ho57 => ?_)
      refine x_P 24 rfl rfl rfl ?_
      refine x_gI rfl (fun x58 hx58 => ?_)
      refine x_aI rfl ⟨rfl, rfl⟩ (fun x59 hx59 => ?_)
      refine x_P 30 rfl rfl rfl ?_
      refine x_ic_ne rfl rfl (fun h62 => ?_) (fun h62 => ?_)
      · refine x_P 34 rfl rfl rfl ?_
        refine x_P 35 rfl rfl rfl ?_
        refine x_gI rfl (fun x60 hx60 => ?_)
        refine x_P 39 rfl rfl rfl ?_
        refine x_P 40 rfl rfl rfl ?_
        refine x_pI rfl (fun th61 hth61 => ?_)
        refine x_P 8 rfl rfl rfl ?_
        exact x_lv (hnx4 th61) ⟨rfl, trivial⟩
      · exact x_lv (hex5 s3) ⟨rfl, trivial⟩
  · refine x_P 47 rfl rfl rfl ?_
    refine x_P 48 rfl rfl rfl ?_
    refine x_P 49 rfl rfl rfl ?_
    refine x_gI rfl (fun x7 hx7 => ?_)
    refine x_callV rfl rfl rfl rfl rfl ⟨rfl, rfl⟩ (fun x h => c_170 h) (S_170 d a0 x7 x6) (fun x8 hx8 => ?_)
    refine x_pI rfl (fun th9 hth9 => ?_)
    refine x_P 59 rfl rfl rfl ?_
    refine x_P 60 rfl rfl rfl ?_
    refine x_gI rfl (fun x10 hx10 => ?_)
    refine x_jn 79 (fun v11 => [(0, .ref a0)]) (fun v11 => [.int v11.1, .ref v11.2]) (fun v11 => th9) (fun v11 => ?_) (fun j12 hj12 => ?_)
    · refine x_pI rfl (fun th13 hth13 => ?_)
      refine x_P 83 rfl rfl rfl ?_
      refine x_gI rfl (fun x14 hx14 => ?_)
      refine x_P 87 rfl rfl rfl ?_
      refine x_jn 137 (fun v15 => [(0, .ref a0)]) (fun v15 => []) (fun v15 => v15) (fun v15 => ?_) (fun j16 hj16 => ?_)
      · refine x_P 138 rfl rfl rfl ?_
        refine x_P 139 rfl rfl rfl ?_
        refine x_gI rfl (fun x17 hx17 => ?_)
        refine x_P 143 rfl rfl rfl ?_
        refine x_jn 154 (fun v18 => []) (fun v18 => [.int v18.1, .ref v18.2]) (fun v18 => v15) (fun v18 => ?_) (fun j19 hj19 => ?_)
        · refine x_pI rfl (fun th20 hth20 => ?_)
          exact x_retV (x := th20) rfl
        · refine x_ic_ne rfl rfl (fun h22 => ?_) (fun h22 => ?_)
          · refine x_P 147 rfl rfl rfl ?_
            refine x_callV rfl rfl rfl rfl rfl ⟨rfl, rfl⟩ (fun x h => c_171 h) (S_171 d a0 v15) (fun x21 hx21 => ?_)
            refine x_P 154 rfl rfl rfl ?_
            exact x_lv (hj19 (x21, a0)) trivial
          · refine x_P 154 rfl rfl rfl ?_
            exact x_lv (hj19 ((Int32.ofInt (-1)), a0)) trivial
      · refine x_ic_eq rfl rfl (fun h51 => ?_) (fun h51 => ?_)
        · refine x_lv (lv := [(0, .ref a0)]) (x_lp 137 (fun s23 => [(0, .ref a0)]) (fun s23 => s23) (fun x26 => [(0, .ref a0)]) (fun x26 => x26) (fun s23 nx24 hnx24 ex25 hex25 => ?_) (fun x26 => ?_) 4096 th13) ⟨rfl, trivial⟩
          · refine x_P 99 rfl rfl rfl ?_
            refine x_gI rfl (fun x27 hx27 => ?_)
            refine x_P 103 rfl rfl rfl ?_
            refine x_gI rfl (fun x28 hx28 => ?_)
            refine x_ic_ge rfl rfl (fun h35 => ?_) (fun h35 => ?_)
            · exact x_lv (hex25 s23) ⟨rfl, trivial⟩
            · refine x_P 110 rfl rfl rfl ?_
              refine x_P 111 rfl rfl rfl ?_
              refine x_gI rfl (fun x29 hx29 => ?_)
              refine x_callV rfl rfl rfl rfl rfl ⟨rfl, rfl⟩ (fun x h => c_170 h) (S_170 d a0 x29 s23) (fun x30 hx30 => ?_)
              refine x_P 118 rfl rfl rfl ?_
              refine x_gI rfl (fun x31 hx31 => ?_)
              refine x_ic_ne rfl rfl (fun h34 => ?_) (fun h34 => ?_)
              · refine x_P 125 rfl rfl rfl ?_
                refine x_P 126 rfl rfl rfl ?_
                refine x_gI rfl (fun x32 hx32 => ?_)
                refine x_P 130 rfl rfl rfl ?_
                refine x_P 131 rfl rfl rfl ?_
                refine x_pI rfl (fun th33 hth33 => ?_)
                refine x_P 98 rfl rfl rfl ?_
                exact x_lv (hnx24 th33) ⟨rfl, trivial⟩
              · exact x_lv (hex25 s23) ⟨rfl, trivial⟩
          · exact x_lv (hj16 x26) ⟨rfl, trivial⟩
        · refine x_P 91 rfl rfl rfl ?_
          refine x_gI rfl (fun x36 hx36 => ?_)
          refine x_P 95 rfl rfl rfl ?_
          refine x_ic_ne rfl rfl (fun h50 => ?_) (fun h50 => ?_)
          · refine x_lv (lv := [(0, .ref a0)]) (x_lp 137 (fun s37 => [(0, .ref a0)]) (fun s37 => s37) (fun x40 => [(0, .ref a0)]) (fun x40 => x40) (fun s37 nx38 hnx38 ex39 hex39 => ?_) (fun x40 => ?_) 4096 th13) ⟨rfl, trivial⟩
            · refine x_P 99 rfl rfl rfl ?_
              refine x_gI rfl (fun x41 hx41 => ?_)
              refine x_P 103 rfl rfl rfl ?_
              refine x_gI rfl (fun x42 hx42 => ?_)
              refine x_ic_ge rfl rfl (fun h49 => ?_) (fun h49 => ?_)
              · exact x_lv (hex39 s37) ⟨rfl, trivial⟩
              · refine x_P 110 rfl rfl rfl ?_
                refine x_P 111 rfl rfl rfl ?_
                refine x_gI rfl (fun x43 hx43 => ?_)
                refine x_callV rfl rfl rfl rfl rfl ⟨rfl, rfl⟩ (fun x h => c_170 h) (S_170 d a0 x43 s37) (fun x44 hx44 => ?_)
                refine x_P 118 rfl rfl rfl ?_
                refine x_gI rfl (fun x45 hx45 => ?_)
                refine x_ic_ne rfl rfl (fun h48 => ?_) (fun h48 => ?_)
                · refine x_P 125 rfl rfl rfl ?_
                  refine x_P 126 rfl rfl rfl ?_
                  refine x_gI rfl (fun x46 hx46 => ?_)
                  refine x_P 130 rfl rfl rfl ?_
                  refine x_P 131 rfl rfl rfl ?_
                  refine x_pI rfl (fun th47 hth47 => ?_)
                  refine x_P 98 rfl rfl rfl ?_
                  exact x_lv (hnx38 th47) ⟨rfl, trivial⟩
                · exact x_lv (hex39 s37) ⟨rfl, trivial⟩
            · exact x_lv (hj16 x40) ⟨rfl, trivial⟩
          · exact x_lv (hj16 th13) ⟨rfl, trivial⟩
    · refine x_if_ne rfl rfl (fun h54 => ?_) (fun h54 => ?_)
      · refine x_P 67 rfl rfl rfl ?_
        refine x_gI rfl (fun x53 hx53 => ?_)
        refine x_P 79 rfl rfl rfl ?_
        exact x_lv (hj12 (x53, a0)) ⟨rfl, trivial⟩
      · refine x_P 74 rfl rfl rfl ?_
        refine x_gI rfl (fun x52 hx52 => ?_)
        refine x_P 78 rfl rfl rfl ?_
        refine x_P 79 rfl rfl rfl ?_
        exact x_lv (hj12 ((x52 + (Int32.ofInt 1)), a0)) ⟨rfl, trivial⟩
-- 179 java/lang/String.coder()B
noncomputable def m_179 (a0 : Nat) (th : tH) : Option (Int32) :=
  (xS a0).bind fun _ =>
  jn (fun (v1 : Int32) =>
      rY v1
    ) (fun j2 =>
      if (1 : Int32) = 0 then
        j2 (Int32.ofInt 1)
      else
        (xS a0).bind fun u3 =>
        j2 (0 : Int32)
    )
theorem c_179 {a0 : Nat} {th : tH} {x : (Int32)} (h : m_179 a0 th = some x) : 1001 ≤ a0 ∧ a0 < 1011 := xS_of h
theorem S_179 {L : Nat} (d : Nat) (a0 : Nat) (th : tH) : Wx L (fun x => (some (.int x), th)) d 179 1 0 [(0, .ref a0)] [] th (m_179 a0 th) := by
  unfold m_179
  refine x_bind (fun _ _ => ?_)
  refine x_gs0 rfl ⟨rfl, rfl⟩ ?_
  refine x_jn 14 (fun v1 => []) (fun v1 => [.int v1]) (fun v1 => th) (fun v1 => ?_) (fun j2 hj2 => ?_)
  · exact x_rY rfl
  · refine x_if_eq rfl rfl (fun h4 => ?_) (fun h4 => ?_)
    · refine x_P 14 rfl rfl rfl ?_
      exact x_lv (hj2 (Int32.ofInt 1)) trivial
    · refine x_P 7 rfl rfl rfl ?_
      refine x_xS0 rfl (fun u3 hu3 => ?_)
      refine x_P 14 rfl rfl rfl ?_
      exact x_lv (hj2 (0 : Int32)) trivial
-- 177 java/lang/String.length()I
noncomputable def m_177 (a0 : Nat) (th : tH) : Option (Int32) :=
  (xS a0).bind fun _ =>
  (xS a0).bind fun u1 =>
  (aL th (a0 + 20)).bind fun x2 =>
  (m_179 a0 th).bind fun x3 =>
  some (x2 >>> (x3 &&& 31))
theorem c_177 {a0 : Nat} {th : tH} {x : (Int32)} (h : m_177 a0 th = some x) : 1001 ≤ a0 ∧ a0 < 1011 := xS_of h
theorem S_177 {L : Nat} (d : Nat) (a0 : Nat) (th : tH) : Wx L (fun x => (some (.int x), th)) (d + 1) 177 1 0 [(0, .ref a0)] [] th (m_177 a0 th) := by
  unfold m_177
  refine x_bind (fun _ _ => ?_)
  refine x_P 1 rfl rfl rfl ?_
  refine x_xS1 rfl (fun u1 hu1 => ?_)
  refine x_aL rfl ⟨rfl, rfl⟩ (fun x2 hx2 => ?_)
  refine x_P 6 rfl rfl rfl ?_
  refine x_callT rfl rfl rfl rfl rfl ⟨rfl, rfl⟩ (fun x h => c_179 h) (S_179 d a0 th) (fun x3 hx3 => ?_)
  refine x_P 10 rfl rfl rfl ?_
  exact x_retI (x := (x2 >>> (x3 &&& 31))) rfl
-- 180 java/lang/String.isLatin1()Z
noncomputable def m_180 (a0 : Nat) (th : tH) : Option (Int32) :=
  (xS a0).bind fun _ =>
  jn (fun (v1 : Int32) =>
      rB v1
    ) (fun j2 =>
      jn (fun (v3 : Unit) =>
          j2 (Int32.ofInt 0)
        ) (fun j4 =>
          if (1 : Int32) = 0 then
            j4 ()
          else
            (xS a0).bind fun u5 =>
            if (0 : Int32) = 0 then
              j2 (Int32.ofInt 1)
            else
              j4 ()
        )
    )
theorem c_180 {a0 : Nat} {th : tH} {x : (Int32)} (h : m_180 a0 th = some x) : 1001 ≤ a0 ∧ a0 < 1011 := xS_of h
theorem S_180 {L : Nat} (d : Nat) (a0 : Nat) (th : tH) : Wx L (fun x => (some (.int x), th)) d 180 1 0 [(0, .ref a0)] [] th (m_180 a0 th) := by
  unfold m_180
  refine x_bind (fun _ _ => ?_)
  refine x_gs0 rfl ⟨rfl, rfl⟩ ?_
  refine x_jn 18 (fun v1 => []) (fun v1 => [.int v1]) (fun v1 => th) (fun v1 => ?_) (fun j2 hj2 => ?_)
  · exact x_rB rfl
  · refine x_jn 17 (fun v3 => []) (fun v3 => []) (fun v3 => th) (fun v3 => ?_) (fun j4 hj4 => ?_)
    · refine x_P 18 rfl rfl rfl ?_
      exact x_lv (hj2 (Int32.ofInt 0)) trivial
    · refine x_if_eq rfl rfl (fun h7 => ?_) (fun h7 => ?_)
      · exact x_lv (hj4 ()) trivial
      · refine x_P 7 rfl rfl rfl ?_
        refine x_xS0 rfl (fun u5 hu5 => ?_)
        refine x_if_ne rfl rfl (fun h6 => ?_) (fun h6 => ?_)
        · refine x_P 14 rfl rfl rfl ?_
          refine x_P 18 rfl rfl rfl ?_
          exact x_lv (hj2 (Int32.ofInt 1)) trivial
        · exact x_lv (hj4 ()) trivial
-- 183 jdk/internal/util/Preconditions.checkIndex(IILjava/util/function/BiFunction;)I
noncomputable def m_183 (a0 : Int32) (a1 : Int32) (th : tH) : Option (Int32) :=
  jn (fun (v1 : Unit) =>
      none
    ) (fun j2 =>
      if a0 < 0 then
        j2 ()
      else
        if a0 < a1 then
          some a0
        else
          j2 ()
    )
theorem S_183 {L : Nat} (d : Nat) (a0 : Int32) (a1 : Int32) (th : tH) : Wx L (fun x => (some (.int x), th)) d 183 3 0 [(0, .int a0), (1, .int a1), (2, .retAddr 0)] [] th (m_183 a0 a1 th) := by
  unfold m_183
  refine x_P 1 rfl rfl rfl ?_
  refine x_jn 9 (fun v1 => [(0, .int a0), (1, .int a1), (2, .retAddr 0)]) (fun v1 => []) (fun v1 => th) (fun v1 => ?_) (fun j2 hj2 => ?_)
  · exact x_none
  · refine x_if_lt rfl rfl (fun h4 => ?_) (fun h4 => ?_)
    · exact x_lv (hj2 ()) ⟨rfl, rfl, rfl, trivial⟩
    · refine x_P 5 rfl rfl rfl ?_
      refine x_P 6 rfl rfl rfl ?_
      refine x_ic_lt rfl rfl (fun h3 => ?_) (fun h3 => ?_)
      · refine x_P 17 rfl rfl rfl ?_
        exact x_retI (x := a0) rfl
      · exact x_lv (hj2 ()) ⟨rfl, rfl, rfl, trivial⟩
-- 181 java/lang/String.checkIndex(II)V
noncomputable def m_181 (a0 : Int32) (a1 : Int32) (th : tH) : Option Unit :=
  (m_183 a0 a1 th).bind fun x1 =>
  some ()
theorem S_181 {L : Nat} (d : Nat) (a0 : Int32) (a1 : Int32) (th : tH) : Wx L (fun _ => (none, th)) (d + 1) 181 2 0 [(0, .int a0), (1, .int a1)] [] th (m_181 a0 a1 th) := by
  unfold m_181
  refine x_P 1 rfl rfl rfl ?_
  refine x_P 2 rfl rfl rfl ?_
  refine x_gs1 rfl ⟨rfl, rfl⟩ ?_
  refine x_callS rfl rfl rfl rfl rfl rfl ⟨rfl, rfl⟩ (S_183 d a0 a1 th) (fun x1 hx1 => ?_)
  refine x_P 9 rfl rfl rfl ?_
  exact x_retV (x := ()) rfl
-- 182 java/lang/StringLatin1.charAt([BI)C
noncomputable def m_182 (a0 : Nat) (a1 : Int32) (th : tH) : Option (Int32) :=
  (aL th a0).bind fun x1 =>
  (m_181 a1 x1 th).bind fun u2 =>
  (aB a0 a1).bind fun x3 =>
  rC (Int32.toUInt32 (x3 &&& (Int16.ofInt 255).toInt32) % 65536).toInt32
theorem S_182 {L : Nat} (d : Nat) (a0 : Nat) (a1 : Int32) (th : tH) : Wx L (fun x => (some (.int x), th)) (d + 2) 182 2 0 [(0, .ref a0), (1, .int a1)] [] th (m_182 a0 a1 th) := by
  unfold m_182
  refine x_P 1 rfl rfl rfl ?_
  refine x_P 2 rfl rfl rfl ?_
  refine x_aL rfl ⟨rfl, rfl⟩ (fun x1 hx1 => ?_)
  refine x_callSW rfl rfl rfl rfl rfl rfl ⟨rfl, rfl⟩ (S_181 d a1 x1 th) (fun u2 hu2 => ?_)
  refine x_P 7 rfl rfl rfl ?_
  refine x_P 8 rfl rfl rfl ?_
  refine x_aB rfl ⟨rfl, rfl⟩ (fun x3 hx3 => ?_)
  refine x_P 12 rfl rfl rfl ?_
  refine x_P 13 rfl rfl rfl ?_
  refine x_P 14 rfl rfl rfl ?_
  exact x_rC rfl
-- 178 java/lang/String.charAt(I)C
noncomputable def m_178 (a0 : Nat) (a1 : Int32) (th : tH) : Option (Int32) :=
  (xS a0).bind fun _ =>
  (m_180 a0 th).bind fun x1 =>
  if x1 = 0 then
    (xS a0).bind fun u2 =>
    none
  else
    (xS a0).bind fun u3 =>
    (m_182 (a0 + 20) a1 th).bind fun x4 =>
    rC x4
theorem c_178 {a0 : Nat} {a1 : Int32} {th : tH} {x : (Int32)} (h : m_178 a0 a1 th = some x) : 1001 ≤ a0 ∧ a0 < 1011 := xS_of h
theorem S_178 {L : Nat} (d : Nat) (a0 : Nat) (a1 : Int32) (th : tH) : Wx L (fun x => (some (.int x), th)) (d + 3) 178 2 0 [(0, .ref a0), (1, .int a1)] [] th (m_178 a0 a1 th) := by
  unfold m_178
  refine x_bind (fun _ _ => ?_)
  refine x_P 1 rfl rfl rfl ?_
  refine x_callT rfl rfl rfl rfl rfl ⟨rfl, rfl⟩ (fun x h => c_180 h) (S_180 (d + 2) a0 th) (fun x1 hx1 => ?_)
  refine x_if_eq rfl rfl (fun h5 => ?_) (fun h5 => ?_)
  · refine x_P 17 rfl rfl rfl ?_
    refine x_xS1 rfl (fun u2 hu2 => ?_)
    refine x_P 21 rfl rfl rfl ?_
    exact x_none
  · refine x_P 8 rfl rfl rfl ?_
    refine x_xS1 rfl (fun u3 hu3 => ?_)
    refine x_P 12 rfl rfl rfl ?_
    refine x_callS rfl rfl rfl rfl rfl rfl ⟨rfl, rfl⟩ (S_182 d (a0 + 20) a1 th) (fun x4 hx4 => ?_)
    exact x_rC rfl
-- 168 NineTrees$Tape.isWord(Ljava/lang/String;)Z
noncomputable def m_168 (a0 : Nat) (a1 : Nat) (th : tH) : Option (Int32) :=
  (gC th 6 a0).bind fun _ =>
  (gI th 6 a0 5).bind fun x1 =>
  (gI th 6 a0 4).bind fun x2 =>
  (m_177 a1 th).bind fun x3 =>
  if (x1 - x2) = x3 then
    lp (fun (s4 : Int32) nx5 ex6 =>
        (m_177 a1 th).bind fun x8 =>
        if x8 ≤ s4 then
          ex6 ()
        else
          (gN th 6 a0 0).bind fun o9 =>
          (gI th 6 a0 4).bind fun x10 =>
          (aI th o9 (x10 + s4)).bind fun x11 =>
          (m_178 a1 s4 th).bind fun x12 =>
          if x11 = x12 then
            nx5 (s4 + Int32.ofInt 1)
          else
            rB (Int32.ofInt 0)
      ) 4096 (Int32.ofInt 0) (fun (x7 : Unit) =>
        rB (Int32.ofInt 1)
      )
  else
    rB (Int32.ofInt 0)
theorem c_168 {a0 : Nat} {a1 : Nat} {th : tH} {x : (Int32)} (h : m_168 a0 a1 th = some x) : ∃ fs, th[a0]? = some (.inr (6, fs)) := gC_of h
theorem S_168 {L : Nat} (d : Nat) (a0 : Nat) (a1 : Nat) (th : tH) : Wx L (fun x => (some (.int x), th)) (d + 4) 168 3 0 [(0, .ref a0), (1, .ref a1)] [] th (m_168 a0 a1 th) := by
  unfold m_168
  refine x_gC ?_
  refine x_P 1 rfl rfl rfl ?_
  refine x_gI rfl (fun x1 hx1 => ?_)
  refine x_P 5 rfl rfl rfl ?_
  refine x_gI rfl (fun x2 hx2 => ?_)
  refine x_P 9 rfl rfl rfl ?_
  refine x_P 10 rfl rfl rfl ?_
  refine x_callT rfl rfl rfl rfl rfl ⟨rfl, rfl⟩ (fun x h => c_177 h) (S_177 (d + 2) a1 th) (fun x3 hx3 => ?_)
  refine x_ic_eq rfl rfl (fun h15 => ?_) (fun h15 => ?_)
  · refine x_P 19 rfl rfl rfl ?_
    refine x_P (lv' := [(2, .int (Int32.ofInt 0)), (0, .ref a0), (1, .ref a1)]) 20 rfl rfl rfl ?_
    refine x_lv (lv := [(0, .ref a0), (1, .ref a1), (2, .int (Int32.ofInt 0))]) (x_lp 55 (fun s4 => [(0, .ref a0), (1, .ref a1), (2, .int s4)]) (fun s4 => th) (fun x7 => []) (fun x7 => th) (fun s4 nx5 hnx5 ex6 hex6 => ?_) (fun x7 => ?_) 4096 (Int32.ofInt 0)) ⟨rfl, rfl, rfl, trivial⟩
    · refine x_P 21 rfl rfl rfl ?_
      refine x_P 22 rfl rfl rfl ?_
      refine x_callT rfl rfl rfl rfl rfl ⟨rfl, rfl⟩ (fun x h => c_177 h) (S_177 (d + 2) a1 th) (fun x8 hx8 => ?_)
      refine x_ic_ge rfl rfl (fun h14 => ?_) (fun h14 => ?_)
      · exact x_lv (hex6 ()) trivial
      · refine x_P 29 rfl rfl rfl ?_
        refine x_gN rfl (fun o9 ho9 => ?_)
        refine x_P 33 rfl rfl rfl ?_
        refine x_gI rfl (fun x10 hx10 => ?_)
        refine x_P 37 rfl rfl rfl ?_
        refine x_P 38 rfl rfl rfl ?_
        refine x_aI rfl ⟨rfl, rfl⟩ (fun x11 hx11 => ?_)
        refine x_P 40 rfl rfl rfl ?_
        refine x_P 41 rfl rfl rfl ?_
        refine x_callT rfl rfl rfl rfl rfl ⟨rfl, rfl⟩ (fun x h => c_178 h) (S_178 d a1 s4 th) (fun x12 hx12 => ?_)
        refine x_ic_eq rfl rfl (fun h13 => ?_) (fun h13 => ?_)
        · refine x_P (lv' := [(2, .int (s4 + Int32.ofInt 1)), (0, .ref a0), (1, .ref a1)]) 52 rfl rfl rfl ?_
          refine x_P 20 rfl rfl rfl ?_
          exact x_lv (hnx5 (s4 + Int32.ofInt 1)) ⟨rfl, rfl, rfl, trivial⟩
        · refine x_P 48 rfl rfl rfl ?_
          exact x_rB rfl
    · refine x_P 56 rfl rfl rfl ?_
      exact x_rB rfl
  · refine x_P 17 rfl rfl rfl ?_
    exact x_rB rfl
-- 167 NineTrees$Tape.isNumber(II)Z
noncomputable def m_167 (a0 : Nat) (a1 : Int32) (a2 : Int32) (th : tH) : Option (Int32) :=
  (gC th 6 a0).bind fun _ =>
  (gI th 6 a0 3).bind fun x1 =>
  jn (fun (v2 : Int32) =>
      rB v2
    ) (fun j3 =>
      jn (fun (v4 : Unit) =>
          j3 (Int32.ofInt 0)
        ) (fun j5 =>
          if x1 = (Int32.ofInt 2) then
            (gI th 6 a0 6).bind fun x6 =>
            if x6 < a1 then
              j5 ()
            else
              (gI th 6 a0 6).bind fun x7 =>
              if a2 < x7 then
                j5 ()
              else
                j3 (Int32.ofInt 1)
          else
            j5 ()
        )
    )
theorem c_167 {a0 : Nat} {a1 : Int32} {a2 : Int32} {th : tH} {x : (Int32)} (h : m_167 a0 a1 a2 th = some x) : ∃ fs, th[a0]? = some (.inr (6, fs)) := gC_of h
theorem S_167 {L : Nat} (d : Nat) (a0 : Nat) (a1 : Int32) (a2 : Int32) (th : tH) : Wx L (fun x => (some (.int x), th)) d 167 3 0 [(0, .ref a0), (1, .int a1), (2, .int a2)] [] th (m_167 a0 a1 a2 th) := by
  unfold m_167
  refine x_gC ?_
  refine x_P 1 rfl rfl rfl ?_
  refine x_gI rfl (fun x1 hx1 => ?_)
  refine x_P 5 rfl rfl rfl ?_
  refine x_jn 29 (fun v2 => []) (fun v2 => [.int v2]) (fun v2 => th) (fun v2 => ?_) (fun j3 hj3 => ?_)
  · exact x_rB rfl
  · refine x_jn 28 (fun v4 => []) (fun v4 => []) (fun v4 => th) (fun v4 => ?_) (fun j5 hj5 => ?_)
    · refine x_P 29 rfl rfl rfl ?_
      exact x_lv (hj3 (Int32.ofInt 0)) trivial
    · refine x_ic_ne rfl rfl (fun h10 => ?_) (fun h10 => ?_)
      · refine x_P 9 rfl rfl rfl ?_
        refine x_gI rfl (fun x6 hx6 => ?_)
        refine x_P 13 rfl rfl rfl ?_
        refine x_ic_lt rfl rfl (fun h9 => ?_) (fun h9 => ?_)
        · exact x_lv (hj5 ()) trivial
        · refine x_P 17 rfl rfl rfl ?_
          refine x_gI rfl (fun x7 hx7 => ?_)
          refine x_P 21 rfl rfl rfl ?_
          refine x_ic_gt rfl rfl (fun h8 => ?_) (fun h8 => ?_)
          · exact x_lv (hj5 ()) trivial
          · refine x_P 25 rfl rfl rfl ?_
            refine x_P 29 rfl rfl rfl ?_
            exact x_lv (hj3 (Int32.ofInt 1)) trivial
      · exact x_lv (hj5 ()) trivial
-- 166 NineTrees$Tape.advanceToNumber(II)Z
noncomputable def m_166 (a0 : Nat) (a1 : Int32) (a2 : Int32) (th : tH) : Option (Int32 × tH) :=
  (gC th 6 a0).bind fun _ =>
  (m_169 a0 th).bind fun th1 =>
  (m_167 a0 a1 a2 th1).bind fun x2 =>
  (rB x2).bind fun y3 => some (y3, th1)
theorem c_166 {a0 : Nat} {a1 : Int32} {a2 : Int32} {th : tH} {x : (Int32 × tH)} (h : m_166 a0 a1 a2 th = some x) : ∃ fs, th[a0]? = some (.inr (6, fs)) := gC_of h
theorem S_166 {L : Nat} (d : Nat) (a0 : Nat) (a1 : Int32) (a2 : Int32) (th : tH) : Wx L (fun x => (some (.int x.1), x.2)) (d + 2) 166 3 0 [(0, .ref a0), (1, .int a1), (2, .int a2)] [] th (m_166 a0 a1 a2 th) := by
  unfold m_166
  refine x_gC ?_
  refine x_P 1 rfl rfl rfl ?_
  refine x_callW rfl rfl rfl rfl rfl ⟨rfl, rfl⟩ (fun x h => c_169 h) (S_169 d a0 th) (fun th1 hth1 => ?_)
  refine x_P 5 rfl rfl rfl ?_
  refine x_P 6 rfl rfl rfl ?_
  refine x_P 7 rfl rfl rfl ?_
  refine x_callV rfl rfl rfl rfl rfl ⟨rfl, rfl⟩ (fun x h => c_167 h) (S_167 (d + 1) a0 a1 a2 th1) (fun x2 hx2 => ?_)
  exact x_rBw rfl
-- 161 NineTrees$Tape.readSide(LNineTrees$Garden;)Z
noncomputable def m_161 (a0 : Nat) (a1 : Nat) (th : tH) : Option (Int32 × tH) :=
  (gC th 6 a0).bind fun _ =>
  (gI th 2 a1 5).bind fun x1 =>
  jn (fun (v2 : tH) =>
      (rB (Int32.ofInt 0)).bind fun y4 => some (y4, v2)
    ) (fun j3 =>
      if 0 < x1 then
        j3 th
      else
        (m_166 a0 (Int32.ofInt 3) (Int8.ofInt 8).toInt32 th).bind fun q5 =>
        if q5.1 = 0 then
          j3 q5.2
        else
          (gI q5.2 6 a0 6).bind fun x6 =>
          (pI q5.2 2 a1 4 x6).bind fun th7 =>
          (m_169 a0 th7).bind fun th8 =>
          (rB (Int32.ofInt 1)).bind fun y9 => some (y9, th8)
    )
theorem c_161 {a0 : Nat} {a1 : Nat} {th : tH} {x : (Int32 × tH)} (h : m_161 a0 a1 th = some x) : ∃ fs, th[a0]? = some (.inr (6, fs)) := gC_of h
theorem S_161 {L : Nat} (d : Nat) (a0 : Nat) (a1 : Nat) (th : tH) : Wx L (fun x => (some (.int x.1), x.2)) (d + 3) 161 2 0 [(0, .ref a0), (1, .ref a1)] [] th (m_161 a0 a1 th) := by
  unfold m_161
  refine x_gC ?_
  refine x_P 1 rfl rfl rfl ?_
  refine x_gI rfl (fun x1 hx1 => ?_)
  refine x_jn 17 (fun v2 => []) (fun v2 => []) (fun v2 => v2) (fun v2 => ?_) (fun j3 hj3 => ?_)
  · refine x_P 18 rfl rfl rfl ?_
    exact x_rBw rfl
  · refine x_if_gt rfl rfl (fun h11 => ?_) (fun h11 => ?_)
    · exact x_lv (hj3 th) trivial
    · refine x_P 8 rfl rfl rfl ?_
      refine x_P 9 rfl rfl rfl ?_
      refine x_P 11 rfl rfl rfl ?_
      refine x_callV rfl rfl rfl rfl rfl ⟨rfl, rfl⟩ (fun x h => c_166 h) (S_166 d a0 (Int32.ofInt 3) (Int8.ofInt 8).toInt32 th) (fun q5 hq5 => ?_)
      refine x_if_ne rfl rfl (fun h10 => ?_) (fun h10 => ?_)
      · exact x_lv (hj3 q5.2) trivial
      · refine x_P 20 rfl rfl rfl ?_
        refine x_P 21 rfl rfl rfl ?_
        refine x_gI rfl (fun x6 hx6 => ?_)
        refine x_pI rfl (fun th7 hth7 => ?_)
        refine x_P 28 rfl rfl rfl ?_
        refine x_callW rfl rfl rfl rfl rfl ⟨rfl, rfl⟩ (fun x h => c_169 h) (S_169 (d + 1) a0 th7) (fun th8 hth8 => ?_)
        refine x_P 32 rfl rfl rfl ?_
        exact x_rBw rfl
-- 162 NineTrees$Tape.readTree(LNineTrees$Garden;)Z
noncomputable def m_162 (a0 : Nat) (a1 : Nat) (th : tH) : Option (Int32 × tH) :=
  (gC th 6 a0).bind fun _ =>
  (gI th 2 a1 5).bind fun x1 =>
  jn (fun (v2 : tH) =>
      (rB (Int32.ofInt 0)).bind fun y4 => some (y4, v2)
    ) (fun j3 =>
      if (Int8.ofInt 12).toInt32 ≤ x1 then
        j3 th
      else
        (m_166 a0 (Int32.ofInt 0) (Int32.ofInt 5) th).bind fun q5 =>
        if q5.1 = 0 then
          j3 q5.2
        else
          (gI q5.2 6 a0 6).bind fun x6 =>
          (m_70 a1 q5.2).bind fun x7 =>
          (m_166 a0 (Int32.ofInt 0) (x7 - (Int32.ofInt 1)) q5.2).bind fun q8 =>
          jn (fun (v9 : Unit) =>
              (rB (Int32.ofInt 0)).bind fun y11 => some (y11, q8.2)
            ) (fun j10 =>
              if q8.1 = 0 then
                j10 ()
              else
                (gI q8.2 6 a0 6).bind fun x12 =>
                (m_84 a1 x12 q8.2).bind fun x13 =>
                if x13 = 0 then
                  j10 ()
                else
                  (gI q8.2 6 a0 6).bind fun x14 =>
                  (m_166 a0 (Int32.ofInt 0) (Int8.ofInt 9).toInt32 q8.2).bind fun q15 =>
                  if q15.1 = 0 then
                    (rB (Int32.ofInt 0)).bind fun y20 => some (y20, q15.2)
                  else
                    (gI q15.2 6 a0 6).bind fun x16 =>
                    (m_89 a1 x6 x14 x16 q15.2).bind fun th17 =>
                    (m_169 a0 th17).bind fun th18 =>
                    (rB (Int32.ofInt 1)).bind fun y19 => some (y19, th18)
            )
    )
theorem c_162 {a0 : Nat} {a1 : Nat} {th : tH} {x : (Int32 × tH)} (h : m_162 a0 a1 th = some x) : ∃ fs, th[a0]? = some (.inr (6, fs)) := gC_of h
theorem S_162 {L : Nat} (d : Nat) (a0 : Nat) (a1 : Nat) (th : tH) : Wx L (fun x => (some (.int x.1), x.2)) (d + 3) 162 4 0 [(0, .ref a0), (1, .ref a1)] [] th (m_162 a0 a1 th) := by
  unfold m_162
  refine x_gC ?_
  refine x_P 1 rfl rfl rfl ?_
  refine x_gI rfl (fun x1 hx1 => ?_)
  refine x_P 6 rfl rfl rfl ?_
  refine x_jn 18 (fun v2 => []) (fun v2 => []) (fun v2 => v2) (fun v2 => ?_) (fun j3 hj3 => ?_)
  · refine x_P 19 rfl rfl rfl ?_
    exact x_rBw rfl
  · refine x_ic_ge rfl rfl (fun h25 => ?_) (fun h25 => ?_)
    · exact x_lv (hj3 th) trivial
    · refine x_P 10 rfl rfl rfl ?_
      refine x_P 11 rfl rfl rfl ?_
      refine x_P 12 rfl rfl rfl ?_
      refine x_callV rfl rfl rfl rfl rfl ⟨rfl, rfl⟩ (fun x h => c_166 h) (S_166 d a0 (Int32.ofInt 0) (Int32.ofInt 5) th) (fun q5 hq5 => ?_)
      refine x_if_ne rfl rfl (fun h24 => ?_) (fun h24 => ?_)
      · exact x_lv (hj3 q5.2) trivial
      · refine x_P 21 rfl rfl rfl ?_
        refine x_gI rfl (fun x6 hx6 => ?_)
        refine x_P (lv' := [(2, .int x6), (0, .ref a0), (1, .ref a1)]) 25 rfl rfl rfl ?_
        refine x_P 26 rfl rfl rfl ?_
        refine x_P 27 rfl rfl rfl ?_
        refine x_P 28 rfl rfl rfl ?_
        refine x_callV rfl rfl rfl rfl rfl ⟨rfl, rfl⟩ (fun x h => c_70 h) (S_70 (d + 2) a1 q5.2) (fun x7 hx7 => ?_)
        refine x_P 32 rfl rfl rfl ?_
        refine x_P 33 rfl rfl rfl ?_
        refine x_callV rfl rfl rfl rfl rfl ⟨rfl, rfl⟩ (fun x h => c_166 h) (S_166 d a0 (Int32.ofInt 0) (x7 - (Int32.ofInt 1)) q5.2) (fun q8 hq8 => ?_)
        refine x_jn 50 (fun v9 => []) (fun v9 => []) (fun v9 => q8.2) (fun v9 => ?_) (fun j10 hj10 => ?_)
        · refine x_P 51 rfl rfl rfl ?_
          exact x_rBw rfl
        · refine x_if_eq rfl rfl (fun h23 => ?_) (fun h23 => ?_)
          · exact x_lv (hj10 ()) trivial
          · refine x_P 40 rfl rfl rfl ?_
            refine x_P 41 rfl rfl rfl ?_
            refine x_gI rfl (fun x12 hx12 => ?_)
            refine x_callV rfl rfl rfl rfl rfl ⟨rfl, rfl⟩ (fun x h => c_84 h) (S_84 (d + 1) a1 x12 q8.2) (fun x13 hx13 => ?_)
            refine x_if_ne rfl rfl (fun h22 => ?_) (fun h22 => ?_)
            · exact x_lv (hj10 ()) trivial
            · refine x_P 53 rfl rfl rfl ?_
              refine x_gI rfl (fun x14 hx14 => ?_)
              refine x_P (lv' := [(3, .int x14), (2, .int x6), (0, .ref a0), (1, .ref a1)]) 57 rfl rfl rfl ?_
              refine x_P 58 rfl rfl rfl ?_
              refine x_P 59 rfl rfl rfl ?_
              refine x_P 61 rfl rfl rfl ?_
              refine x_callV rfl rfl rfl rfl rfl ⟨rfl, rfl⟩ (fun x h => c_166 h) (S_166 d a0 (Int32.ofInt 0) (Int8.ofInt 9).toInt32 q8.2) (fun q15 hq15 => ?_)
              refine x_if_ne rfl rfl (fun h21 => ?_) (fun h21 => ?_)
              · refine x_P 68 rfl rfl rfl ?_
                exact x_rBw rfl
              · refine x_P 70 rfl rfl rfl ?_
                refine x_P 71 rfl rfl rfl ?_
                refine x_P 72 rfl rfl rfl ?_
                refine x_P 73 rfl rfl rfl ?_
                refine x_gI rfl (fun x16 hx16 => ?_)
                refine x_callW rfl rfl rfl rfl rfl ⟨rfl, rfl⟩ (fun x h => c_89 h) (S_89 (d + 1) a1 x6 x14 x16 q15.2) (fun th17 hth17 => ?_)
                refine x_P 80 rfl rfl rfl ?_
                refine x_callW rfl rfl rfl rfl rfl ⟨rfl, rfl⟩ (fun x h => c_169 h) (S_169 (d + 1) a0 th17) (fun th18 hth18 => ?_)
                refine x_P 84 rfl rfl rfl ?_
                exact x_rBw rfl
-- 163 NineTrees$Tape.readWish(LNineTrees$Garden;)Z
noncomputable def m_163 (a0 : Nat) (a1 : Nat) (th : tH) : Option (Int32 × tH) :=
  (gC th 6 a0).bind fun _ =>
  (gI th 2 a1 6).bind fun x1 =>
  if x1 < (Int8.ofInt 8).toInt32 then
    lp (fun (s2 : Int32 × Int32 × tH) nx3 ex4 =>
        if (Int8.ofInt 12).toInt32 < s2.2.1 then
          ex4 (s2.1, s2.2.2)
        else
          (m_169 a0 s2.2.2).bind fun th8 =>
          jn (fun (v9 : Unit) =>
              (gI th8 2 a1 5).bind fun x11 =>
              (m_167 a0 (Int32.ofInt 0) (x11 - (Int32.ofInt 1)) th8).bind fun x12 =>
              jn (fun (v13 : Unit) =>
                  (rB (Int32.ofInt 0)).bind fun y15 => some (y15, th8)
                ) (fun j14 =>
                  if x12 = 0 then
                    j14 ()
                  else
                    (gI th8 6 a0 6).bind fun x16 =>
                    if (s2.1 &&& ((Int32.ofInt 1) <<< (x16 &&& 31))) = 0 then
                      (gI th8 6 a0 6).bind fun x17 =>
                      nx3 ((s2.1 ||| ((Int32.ofInt 1) <<< (x17 &&& 31))), (s2.2.1 + Int32.ofInt 1), th8)
                    else
                      j14 ()
                )
            ) (fun j10 =>
              if s2.2.1 < (Int32.ofInt 3) then
                j10 ()
              else
                (gI th8 6 a0 3).bind fun x20 =>
                if x20 = (Int32.ofInt 2) then
                  j10 ()
                else
                  ex4 (s2.1, th8)
            )
      ) 4096 ((Int32.ofInt 0), (Int32.ofInt 0), th) (fun (x5 : Int32 × tH) =>
        (m_96 a1 x5.1 x5.2).bind fun th6 =>
        (rB (Int32.ofInt 1)).bind fun y7 => some (y7, th6)
      )
  else
    (rB (Int32.ofInt 0)).bind fun y24 => some (y24, th)
theorem c_163 {a0 : Nat} {a1 : Nat} {th : tH} {x : (Int32 × tH)} (h : m_163 a0 a1 th = some x) : ∃ fs, th[a0]? = some (.inr (6, fs)) := gC_of h
theorem S_163 {L : Nat} (d : Nat) (a0 : Nat) (a1 : Nat) (th : tH) : Wx L (fun x => (some (.int x.1), x.2)) (d + 2) 163 4 0 [(0, .ref a0), (1, .ref a1)] [] th (m_163 a0 a1 th) := by
  unfold m_163
  refine x_gC ?_
  refine x_P 1 rfl rfl rfl ?_
  refine x_gI rfl (fun x1 hx1 => ?_)
  refine x_P 6 rfl rfl rfl ?_
  refine x_ic_lt rfl rfl (fun h25 => ?_) (fun h25 => ?_)
  · refine x_P 12 rfl rfl rfl ?_
    refine x_P (lv' := [(2, .int (Int32.ofInt 0)), (0, .ref a0), (1, .ref a1)]) 13 rfl rfl rfl ?_
    refine x_P 14 rfl rfl rfl ?_
    refine x_P (lv' := [(3, .int (Int32.ofInt 0)), (2, .int (Int32.ofInt 0)), (0, .ref a0), (1, .ref a1)]) 15 rfl rfl rfl ?_
    refine x_lv (lv := [(0, .ref a0), (1, .ref a1), (2, .int (Int32.ofInt 0)), (3, .int (Int32.ofInt 0))]) (x_lp 83 (fun s2 => [(0, .ref a0), (1, .ref a1), (2, .int s2.1), (3, .int s2.2.1)]) (fun s2 => s2.2.2) (fun x5 => [(1, .ref a1), (2, .int x5.1)]) (fun x5 => x5.2) (fun s2 nx3 hnx3 ex4 hex4 => ?_) (fun x5 => ?_) 4096 ((Int32.ofInt 0), (Int32.ofInt 0), th)) ⟨rfl, rfl, rfl, rfl, trivial⟩
    · refine x_P 16 rfl rfl rfl ?_
      refine x_P 18 rfl rfl rfl ?_
      refine x_ic_gt rfl rfl (fun h23 => ?_) (fun h23 => ?_)
      · exact x_lv (hex4 (s2.1, s2.2.2)) ⟨rfl, rfl, trivial⟩
      · refine x_P 22 rfl rfl rfl ?_
        refine x_callW rfl rfl rfl rfl rfl ⟨rfl, rfl⟩ (fun x h => c_169 h) (S_169 d a0 s2.2.2) (fun th8 hth8 => ?_)
        refine x_P 26 rfl rfl rfl ?_
        refine x_P 27 rfl rfl rfl ?_
        refine x_jn 41 (fun v9 => [(0, .ref a0), (1, .ref a1), (2, .int s2.1), (3, .int s2.2.1)]) (fun v9 => []) (fun v9 => th8) (fun v9 => ?_) (fun j10 hj10 => ?_)
        · refine x_P 42 rfl rfl rfl ?_
          refine x_P 43 rfl rfl rfl ?_
          refine x_P 44 rfl rfl rfl ?_
          refine x_gI rfl (fun x11 hx11 => ?_)
          refine x_P 48 rfl rfl rfl ?_
          refine x_P 49 rfl rfl rfl ?_
          refine x_callV rfl rfl rfl rfl rfl ⟨rfl, rfl⟩ (fun x h => c_167 h) (S_167 (d + 1) a0 (Int32.ofInt 0) (x11 - (Int32.ofInt 1)) th8) (fun x12 hx12 => ?_)
          refine x_jn 66 (fun v13 => []) (fun v13 => []) (fun v13 => th8) (fun v13 => ?_) (fun j14 hj14 => ?_)
          · refine x_P 67 rfl rfl rfl ?_
            exact x_rBw rfl
          · refine x_if_eq rfl rfl (fun h19 => ?_) (fun h19 => ?_)
            · exact x_lv (hj14 ()) trivial
            · refine x_P 56 rfl rfl rfl ?_
              refine x_P 57 rfl rfl rfl ?_
              refine x_P 58 rfl rfl rfl ?_
              refine x_gI rfl (fun x16 hx16 => ?_)
              refine x_P 62 rfl rfl rfl ?_
              refine x_P 63 rfl rfl rfl ?_
              refine x_if_eq rfl rfl (fun h18 => ?_) (fun h18 => ?_)
              · refine x_P 69 rfl rfl rfl ?_
                refine x_P 70 rfl rfl rfl ?_
                refine x_P 71 rfl rfl rfl ?_
                refine x_gI rfl (fun x17 hx17 => ?_)
                refine x_P 75 rfl rfl rfl ?_
                refine x_P 76 rfl rfl rfl ?_
                refine x_P (lv' := [(2, .int (s2.1 ||| ((Int32.ofInt 1) <<< (x17 &&& 31)))), (0, .ref a0), (1, .ref a1), (3, .int s2.2.1)]) 77 rfl rfl rfl ?_
                refine x_P (lv' := [(3, .int (s2.2.1 + Int32.ofInt 1)), (2, .int (s2.1 ||| ((Int32.ofInt 1) <<< (x17 &&& 31)))), (0, .ref a0), (1, .ref a1)]) 80 rfl rfl rfl ?_
                refine x_P 15 rfl rfl rfl ?_
                exact x_lv (hnx3 ((s2.1 ||| ((Int32.ofInt 1) <<< (x17 &&& 31))), (s2.2.1 + Int32.ofInt 1), th8)) ⟨rfl, rfl, rfl, rfl, trivial⟩
              · exact x_lv (hj14 ()) trivial
        · refine x_ic_lt rfl rfl (fun h22 => ?_) (fun h22 => ?_)
          · exact x_lv (hj10 ()) ⟨rfl, rfl, rfl, rfl, trivial⟩
          · refine x_P 31 rfl rfl rfl ?_
            refine x_gI rfl (fun x20 hx20 => ?_)
            refine x_P 35 rfl rfl rfl ?_
            refine x_ic_eq rfl rfl (fun h21 => ?_) (fun h21 => ?_)
            · exact x_lv (hj10 ()) ⟨rfl, rfl, rfl, rfl, trivial⟩
            · refine x_P 83 rfl rfl rfl ?_
              exact x_lv (hex4 (s2.1, th8)) ⟨rfl, rfl, trivial⟩
    · refine x_P 84 rfl rfl rfl ?_
      refine x_P 85 rfl rfl rfl ?_
      refine x_callW rfl rfl rfl rfl rfl ⟨rfl, rfl⟩ (fun x h => c_96 h) (S_96 d a1 x5.1 x5.2) (fun th6 hth6 => ?_)
      refine x_P 89 rfl rfl rfl ?_
      exact x_rBw rfl
  · refine x_P 10 rfl rfl rfl ?_
    exact x_rBw rfl
-- 164 NineTrees$Tape.readMove(LNineTrees$Garden;)Z
noncomputable def m_164 (a0 : Nat) (a1 : Nat) (th : tH) : Option (Int32 × tH) :=
  (gC th 6 a0).bind fun _ =>
  (gI th 2 a1 5).bind fun x1 =>
  (m_166 a0 (Int32.ofInt 0) (x1 - (Int32.ofInt 1)) th).bind fun q2 =>
  jn (fun (v3 : Unit) =>
      (rB (Int32.ofInt 0)).bind fun y5 => some (y5, q2.2)
    ) (fun j4 =>
      if q2.1 = 0 then
        j4 ()
      else
        (gI q2.2 6 a0 6).bind fun x6 =>
        (m_87 a1 x6 q2.2).bind fun x7 =>
        if x7 = 0 then
          j4 ()
        else
          (gI q2.2 6 a0 6).bind fun x8 =>
          (m_70 a1 q2.2).bind fun x9 =>
          (m_166 a0 (Int32.ofInt 0) (x9 - (Int32.ofInt 1)) q2.2).bind fun q10 =>
          jn (fun (v11 : Unit) =>
              (rB (Int32.ofInt 0)).bind fun y13 => some (y13, q10.2)
            ) (fun j12 =>
              if q10.1 = 0 then
                j12 ()
              else
                (gI q10.2 6 a0 6).bind fun x14 =>
                (m_84 a1 x14 q10.2).bind fun x15 =>
                if x15 = 0 then
                  j12 ()
                else
                  (gN q10.2 2 a1 1).bind fun o16 =>
                  (gI q10.2 6 a0 6).bind fun x17 =>
                  (sI q10.2 o16 x8 x17).bind fun th18 =>
                  (m_169 a0 th18).bind fun th19 =>
                  (rB (Int32.ofInt 1)).bind fun y20 => some (y20, th19)
            )
    )
theorem c_164 {a0 : Nat} {a1 : Nat} {th : tH} {x : (Int32 × tH)} (h : m_164 a0 a1 th = some x) : ∃ fs, th[a0]? = some (.inr (6, fs)) := gC_of h
theorem S_164 {L : Nat} (d : Nat) (a0 : Nat) (a1 : Nat) (th : tH) : Wx L (fun x => (some (.int x.1), x.2)) (d + 3) 164 3 0 [(0, .ref a0), (1, .ref a1)] [] th (m_164 a0 a1 th) := by
  unfold m_164
  refine x_gC ?_
  refine x_P 1 rfl rfl rfl ?_
  refine x_P 2 rfl rfl rfl ?_
  refine x_P 3 rfl rfl rfl ?_
  refine x_gI rfl (fun x1 hx1 => ?_)
  refine x_P 7 rfl rfl rfl ?_
  refine x_P 8 rfl rfl rfl ?_
  refine x_callV rfl rfl rfl rfl rfl ⟨rfl, rfl⟩ (fun x h => c_166 h) (S_166 d a0 (Int32.ofInt 0) (x1 - (Int32.ofInt 1)) th) (fun q2 hq2 => ?_)
  refine x_jn 25 (fun v3 => []) (fun v3 => []) (fun v3 => q2.2) (fun v3 => ?_) (fun j4 hj4 => ?_)
  · refine x_P 26 rfl rfl rfl ?_
    exact x_rBw rfl
  · refine x_if_eq rfl rfl (fun h24 => ?_) (fun h24 => ?_)
    · exact x_lv (hj4 ()) trivial
    · refine x_P 15 rfl rfl rfl ?_
      refine x_P 16 rfl rfl rfl ?_
      refine x_gI rfl (fun x6 hx6 => ?_)
      refine x_callV rfl rfl rfl rfl rfl ⟨rfl, rfl⟩ (fun x h => c_87 h) (S_87 (d + 1) a1 x6 q2.2) (fun x7 hx7 => ?_)
      refine x_if_ne rfl rfl (fun h23 => ?_) (fun h23 => ?_)
      · exact x_lv (hj4 ()) trivial
      · refine x_P 28 rfl rfl rfl ?_
        refine x_gI rfl (fun x8 hx8 => ?_)
        refine x_P (lv' := [(2, .int x8), (0, .ref a0), (1, .ref a1)]) 32 rfl rfl rfl ?_
        refine x_P 33 rfl rfl rfl ?_
        refine x_P 34 rfl rfl rfl ?_
        refine x_P 35 rfl rfl rfl ?_
        refine x_callV rfl rfl rfl rfl rfl ⟨rfl, rfl⟩ (fun x h => c_70 h) (S_70 (d + 2) a1 q2.2) (fun x9 hx9 => ?_)
        refine x_P 39 rfl rfl rfl ?_
        refine x_P 40 rfl rfl rfl ?_
        refine x_callV rfl rfl rfl rfl rfl ⟨rfl, rfl⟩ (fun x h => c_166 h) (S_166 d a0 (Int32.ofInt 0) (x9 - (Int32.ofInt 1)) q2.2) (fun q10 hq10 => ?_)
        refine x_jn 57 (fun v11 => []) (fun v11 => []) (fun v11 => q10.2) (fun v11 => ?_) (fun j12 hj12 => ?_)
        · refine x_P 58 rfl rfl rfl ?_
          exact x_rBw rfl
        · refine x_if_eq rfl rfl (fun h22 => ?_) (fun h22 => ?_)
          · exact x_lv (hj12 ()) trivial
          · refine x_P 47 rfl rfl rfl ?_
            refine x_P 48 rfl rfl rfl ?_
            refine x_gI rfl (fun x14 hx14 => ?_)
            refine x_callV rfl rfl rfl rfl rfl ⟨rfl, rfl⟩ (fun x h => c_84 h) (S_84 (d + 1) a1 x14 q10.2) (fun x15 hx15 => ?_)
            refine x_if_ne rfl rfl (fun h21 => ?_) (fun h21 => ?_)
            · exact x_lv (hj12 ()) trivial
            · refine x_P 60 rfl rfl rfl ?_
              refine x_gN rfl (fun o16 ho16 => ?_)
              refine x_P 64 rfl rfl rfl ?_
              refine x_P 65 rfl rfl rfl ?_
              refine x_gI rfl (fun x17 hx17 => ?_)
              refine x_sI rfl ⟨rfl, rfl⟩ (fun th18 hth18 => ?_)
              refine x_P 70 rfl rfl rfl ?_
              refine x_callW rfl rfl rfl rfl rfl ⟨rfl, rfl⟩ (fun x h => c_169 h) (S_169 (d + 1) a0 th18) (fun th19 hth19 => ?_)
              refine x_P 74 rfl rfl rfl ?_
              exact x_rBw rfl
-- 165 NineTrees$Tape.readFell(LNineTrees$Garden;)Z
noncomputable def m_165 (a0 : Nat) (a1 : Nat) (th : tH) : Option (Int32 × tH) :=
  (gC th 6 a0).bind fun _ =>
  (m_90 a1 th).bind fun x1 =>
  if x1 = 0 then
    (rB (Int32.ofInt 0)).bind fun y8 => some (y8, th)
  else
    (m_91 a1 th).bind fun th2 =>
    (gI th2 6 a0 2).bind fun x3 =>
    (gI th2 2 a1 5).bind fun x4 =>
    (pI th2 6 a0 2 (mnI x3 x4)).bind fun th5 =>
    (m_169 a0 th5).bind fun th6 =>
    (rB (Int32.ofInt 1)).bind fun y7 => some (y7, th6)
theorem c_165 {a0 : Nat} {a1 : Nat} {th : tH} {x : (Int32 × tH)} (h : m_165 a0 a1 th = some x) : ∃ fs, th[a0]? = some (.inr (6, fs)) := gC_of h
theorem S_165 {L : Nat} (d : Nat) (a0 : Nat) (a1 : Nat) (th : tH) : Wx L (fun x => (some (.int x.1), x.2)) (d + 2) 165 2 0 [(0, .ref a0), (1, .ref a1)] [] th (m_165 a0 a1 th) := by
  unfold m_165
  refine x_gC ?_
  refine x_P 1 rfl rfl rfl ?_
  refine x_callV rfl rfl rfl rfl rfl ⟨rfl, rfl⟩ (fun x h => c_90 h) (S_90 d a1 th) (fun x1 hx1 => ?_)
  refine x_if_ne rfl rfl (fun h9 => ?_) (fun h9 => ?_)
  · refine x_P 8 rfl rfl rfl ?_
    exact x_rBw rfl
  · refine x_P 10 rfl rfl rfl ?_
    refine x_callW rfl rfl rfl rfl rfl ⟨rfl, rfl⟩ (fun x h => c_91 h) (S_91 d a1 th) (fun th2 hth2 => ?_)
    refine x_P 14 rfl rfl rfl ?_
    refine x_P 15 rfl rfl rfl ?_
    refine x_gI rfl (fun x3 hx3 => ?_)
    refine x_P 19 rfl rfl rfl ?_
    refine x_gI rfl (fun x4 hx4 => ?_)
    refine x_Mmin rfl rfl ?_
    refine x_pI rfl (fun th5 hth5 => ?_)
    refine x_P 29 rfl rfl rfl ?_
    refine x_callW rfl rfl rfl rfl rfl ⟨rfl, rfl⟩ (fun x h => c_169 h) (S_169 d a0 th5) (fun th6 hth6 => ?_)
    refine x_P 33 rfl rfl rfl ?_
    exact x_rBw rfl
-- 160 NineTrees$Tape.readStatement(LNineTrees$Garden;)Z
noncomputable def m_160 (a0 : Nat) (a1 : Nat) (th : tH) : Option (Int32 × tH) :=
  (gC th 6 a0).bind fun _ =>
  (m_168 a0 1001 th).bind fun x1 =>
  if x1 = 0 then
    (m_168 a0 1002 th).bind fun x2 =>
    if x2 = 0 then
      (m_168 a0 1003 th).bind fun x3 =>
      if x3 = 0 then
        (m_168 a0 1004 th).bind fun x4 =>
        if x4 = 0 then
          (m_168 a0 1005 th).bind fun x5 =>
          jn (fun (v6 : Int32 × tH) =>
              (rB v6.1).bind fun y8 => some (y8, v6.2)
            ) (fun j7 =>
              jn (fun (v9 : tH) =>
                  j7 ((Int32.ofInt 0), v9)
                ) (fun j10 =>
                  if x5 = 0 then
                    j10 th
                  else
                    (m_165 a0 a1 th).bind fun q11 =>
                    if q11.1 = 0 then
                      j10 q11.2
                    else
                      j7 ((Int32.ofInt 1), q11.2)
                )
            )
        else
          (m_164 a0 a1 th).bind fun q14 =>
          (rB q14.1).bind fun y15 => some (y15, q14.2)
      else
        (m_163 a0 a1 th).bind fun q17 =>
        (rB q17.1).bind fun y18 => some (y18, q17.2)
    else
      (m_162 a0 a1 th).bind fun q20 =>
      (rB q20.1).bind fun y21 => some (y21, q20.2)
  else
    (m_161 a0 a1 th).bind fun q23 =>
    (rB q23.1).bind fun y24 => some (y24, q23.2)
theorem c_160 {a0 : Nat} {a1 : Nat} {th : tH} {x : (Int32 × tH)} (h : m_160 a0 a1 th = some x) : ∃ fs, th[a0]? = some (.inr (6, fs)) := gC_of h
theorem S_160 {L : Nat} (d : Nat) (a0 : Nat) (a1 : Nat) (th : tH) : Wx L (fun x => (some (.int x.1), x.2)) (d + 5) 160 2 0 [(0, .ref a0), (1, .ref a1)] [] th (m_160 a0 a1 th) := by
  unfold m_160
  refine x_gC ?_
  refine x_P 1 rfl rfl rfl ?_
  refine x_ls rfl ⟨rfl, rfl⟩ ?_
  refine x_callV rfl rfl rfl rfl rfl ⟨rfl, rfl⟩ (fun x h => c_168 h) (S_168 d a0 1001 th) (fun x1 hx1 => ?_)
  refine x_if_eq rfl rfl (fun h25 => ?_) (fun h25 => ?_)
  · refine x_P 16 rfl rfl rfl ?_
    refine x_ls rfl ⟨rfl, rfl⟩ ?_
    refine x_callV rfl rfl rfl rfl rfl ⟨rfl, rfl⟩ (fun x h => c_168 h) (S_168 d a0 1002 th) (fun x2 hx2 => ?_)
    refine x_if_eq rfl rfl (fun h22 => ?_) (fun h22 => ?_)
    · refine x_P 31 rfl rfl rfl ?_
      refine x_ls rfl ⟨rfl, rfl⟩ ?_
      refine x_callV rfl rfl rfl rfl rfl ⟨rfl, rfl⟩ (fun x h => c_168 h) (S_168 d a0 1003 th) (fun x3 hx3 => ?_)
      refine x_if_eq rfl rfl (fun h19 => ?_) (fun h19 => ?_)
      · refine x_P 46 rfl rfl rfl ?_
        refine x_ls rfl ⟨rfl, rfl⟩ ?_
        refine x_callV rfl rfl rfl rfl rfl ⟨rfl, rfl⟩ (fun x h => c_168 h) (S_168 d a0 1004 th) (fun x4 hx4 => ?_)
        refine x_if_eq rfl rfl (fun h16 => ?_) (fun h16 => ?_)
        · refine x_P 61 rfl rfl rfl ?_
          refine x_ls rfl ⟨rfl, rfl⟩ ?_
          refine x_callV rfl rfl rfl rfl rfl ⟨rfl, rfl⟩ (fun x h => c_168 h) (S_168 d a0 1005 th) (fun x5 hx5 => ?_)
          refine x_jn 82 (fun v6 => []) (fun v6 => [.int v6.1]) (fun v6 => v6.2) (fun v6 => ?_) (fun j7 hj7 => ?_)
          · exact x_rBw rfl
          · refine x_jn 81 (fun v9 => []) (fun v9 => []) (fun v9 => v9) (fun v9 => ?_) (fun j10 hj10 => ?_)
            · refine x_P 82 rfl rfl rfl ?_
              exact x_lv (hj7 ((Int32.ofInt 0), v9)) trivial
            · refine x_if_eq rfl rfl (fun h13 => ?_) (fun h13 => ?_)
              · exact x_lv (hj10 th) trivial
              · refine x_P 70 rfl rfl rfl ?_
                refine x_P 71 rfl rfl rfl ?_
                refine x_callV rfl rfl rfl rfl rfl ⟨rfl, rfl⟩ (fun x h => c_165 h) (S_165 (d + 2) a0 a1 th) (fun q11 hq11 => ?_)
                refine x_if_eq rfl rfl (fun h12 => ?_) (fun h12 => ?_)
                · exact x_lv (hj10 q11.2) trivial
                · refine x_P 78 rfl rfl rfl ?_
                  refine x_P 82 rfl rfl rfl ?_
                  exact x_lv (hj7 ((Int32.ofInt 1), q11.2)) trivial
        · refine x_P 55 rfl rfl rfl ?_
          refine x_P 56 rfl rfl rfl ?_
          refine x_callV rfl rfl rfl rfl rfl ⟨rfl, rfl⟩ (fun x h => c_164 h) (S_164 (d + 1) a0 a1 th) (fun q14 hq14 => ?_)
          exact x_rBw rfl
      · refine x_P 40 rfl rfl rfl ?_
        refine x_P 41 rfl rfl rfl ?_
        refine x_callV rfl rfl rfl rfl rfl ⟨rfl, rfl⟩ (fun x h => c_163 h) (S_163 (d + 2) a0 a1 th) (fun q17 hq17 => ?_)
        exact x_rBw rfl
    · refine x_P 25 rfl rfl rfl ?_
      refine x_P 26 rfl rfl rfl ?_
      refine x_callV rfl rfl rfl rfl rfl ⟨rfl, rfl⟩ (fun x h => c_162 h) (S_162 (d + 1) a0 a1 th) (fun q20 hq20 => ?_)
      exact x_rBw rfl
  · refine x_P 10 rfl rfl rfl ?_
    refine x_P 11 rfl rfl rfl ?_
    refine x_callV rfl rfl rfl rfl rfl ⟨rfl, rfl⟩ (fun x h => c_161 h) (S_161 (d + 1) a0 a1 th) (fun q23 hq23 => ?_)
    exact x_rBw rfl
-- 159 NineTrees$Tape.readInto(LNineTrees$Garden;)I
noncomputable def m_159 (a0 : Nat) (a1 : Nat) (th : tH) : Option (Int32 × tH) :=
  (gC th 6 a0).bind fun _ =>
  (gI th 2 a1 5).bind fun x1 =>
  (pI th 6 a0 2 x1).bind fun th2 =>
  (pI th2 6 a0 5 (Int32.ofInt 0)).bind fun th3 =>
  (m_169 a0 th3).bind fun th4 =>
  lp (fun (s5 : Int32 × tH) nx6 ex7 =>
      if (Int16.ofInt 250).toInt32 < s5.1 then
        ex7 s5.2
      else
        (gI s5.2 6 a0 3).bind fun x10 =>
        jn (fun (v11 : tH) =>
            (gI v11 6 a0 4).bind fun x13 =>
            some (((Int8.ofInt (-20)).toInt32 - x13), v11)
          ) (fun j12 =>
            if x10 = (Int32.ofInt 1) then
              (m_160 a0 a1 s5.2).bind fun q14 =>
              if q14.1 = 0 then
                j12 q14.2
              else
                (gI q14.2 6 a0 3).bind fun x15 =>
                if x15 = 0 then
                  some (s5.1, q14.2)
                else
                  (gI q14.2 6 a0 3).bind fun x16 =>
                  if x16 = (Int32.ofInt 3) then
                    (m_169 a0 q14.2).bind fun th17 =>
                    nx6 ((s5.1 + Int32.ofInt 1), th17)
                  else
                    (gI q14.2 6 a0 4).bind fun x18 =>
                    some (((Int8.ofInt (-20)).toInt32 - x18), q14.2)
            else
              j12 s5.2
          )
    ) 4096 ((Int32.ofInt 1), th4) (fun (x8 : tH) =>
      (gI x8 6 a0 4).bind fun x9 =>
      some (((Int8.ofInt (-20)).toInt32 - x9), x8)
    )
theorem c_159 {a0 : Nat} {a1 : Nat} {th : tH} {x : (Int32 × tH)} (h : m_159 a0 a1 th = some x) : ∃ fs, th[a0]? = some (.inr (6, fs)) := gC_of h
theorem S_159 {L : Nat} (d : Nat) (a0 : Nat) (a1 : Nat) (th : tH) : Wx L (fun x => (some (.int x.1), x.2)) (d + 6) 159 3 0 [(0, .ref a0), (1, .ref a1)] [] th (m_159 a0 a1 th) := by
  unfold m_159
  refine x_gC ?_
  refine x_P 1 rfl rfl rfl ?_
  refine x_P 2 rfl rfl rfl ?_
  refine x_gI rfl (fun x1 hx1 => ?_)
  refine x_pI rfl (fun th2 hth2 => ?_)
  refine x_P 9 rfl rfl rfl ?_
  refine x_P 10 rfl rfl rfl ?_
  refine x_pI rfl (fun th3 hth3 => ?_)
  refine x_P 14 rfl rfl rfl ?_
  refine x_callW rfl rfl rfl rfl rfl ⟨rfl, rfl⟩ (fun x h => c_169 h) (S_169 (d + 4) a0 th3) (fun th4 hth4 => ?_)
  refine x_P 18 rfl rfl rfl ?_
  refine x_P (lv' := [(2, .int (Int32.ofInt 1)), (0, .ref a0), (1, .ref a1)]) 19 rfl rfl rfl ?_
  refine x_lv (lv := [(0, .ref a0), (1, .ref a1), (2, .int (Int32.ofInt 1))]) (x_lp 85 (fun s5 => [(0, .ref a0), (1, .ref a1), (2, .int s5.1)]) (fun s5 => s5.2) (fun x8 => [(0, .ref a0)]) (fun x8 => x8) (fun s5 nx6 hnx6 ex7 hex7 => ?_) (fun x8 => ?_) 4096 ((Int32.ofInt 1), th4)) ⟨rfl, rfl, rfl, trivial⟩
  · refine x_P 20 rfl rfl rfl ?_
    refine x_P 23 rfl rfl rfl ?_
    refine x_ic_gt rfl rfl (fun h23 => ?_) (fun h23 => ?_)
    · exact x_lv (hex7 s5.2) ⟨rfl, trivial⟩
    · refine x_P 27 rfl rfl rfl ?_
      refine x_gI rfl (fun x10 hx10 => ?_)
      refine x_P 31 rfl rfl rfl ?_
      refine x_jn 42 (fun v11 => [(0, .ref a0)]) (fun v11 => []) (fun v11 => v11) (fun v11 => ?_) (fun j12 hj12 => ?_)
      · refine x_P 44 rfl rfl rfl ?_
        refine x_P 45 rfl rfl rfl ?_
        refine x_gI rfl (fun x13 hx13 => ?_)
        refine x_P 49 rfl rfl rfl ?_
        exact x_retI (x := (((Int8.ofInt (-20)).toInt32 - x13), v11)) rfl
      · refine x_ic_ne rfl rfl (fun h22 => ?_) (fun h22 => ?_)
        · refine x_P 35 rfl rfl rfl ?_
          refine x_P 36 rfl rfl rfl ?_
          refine x_callV rfl rfl rfl rfl rfl ⟨rfl, rfl⟩ (fun x h => c_160 h) (S_160 d a0 a1 s5.2) (fun q14 hq14 => ?_)
          refine x_if_ne rfl rfl (fun h21 => ?_) (fun h21 => ?_)
          · exact x_lv (hj12 q14.2) ⟨rfl, trivial⟩
          · refine x_P 51 rfl rfl rfl ?_
            refine x_gI rfl (fun x15 hx15 => ?_)
            refine x_if_ne rfl rfl (fun h20 => ?_) (fun h20 => ?_)
            · refine x_P 58 rfl rfl rfl ?_
              exact x_retI (x := (s5.1, q14.2)) rfl
            · refine x_P 60 rfl rfl rfl ?_
              refine x_gI rfl (fun x16 hx16 => ?_)
              refine x_P 64 rfl rfl rfl ?_
              refine x_ic_eq rfl rfl (fun h19 => ?_) (fun h19 => ?_)
              · refine x_P 76 rfl rfl rfl ?_
                refine x_callW rfl rfl rfl rfl rfl ⟨rfl, rfl⟩ (fun x h => c_169 h) (S_169 (d + 4) a0 q14.2) (fun th17 hth17 => ?_)
                refine x_P (lv' := [(2, .int (s5.1 + Int32.ofInt 1)), (0, .ref a0), (1, .ref a1)]) 82 rfl rfl rfl ?_
                refine x_P 19 rfl rfl rfl ?_
                exact x_lv (hnx6 ((s5.1 + Int32.ofInt 1), th17)) ⟨rfl, rfl, rfl, trivial⟩
              · refine x_P 69 rfl rfl rfl ?_
                refine x_P 70 rfl rfl rfl ?_
                refine x_gI rfl (fun x18 hx18 => ?_)
                refine x_P 74 rfl rfl rfl ?_
                exact x_retI (x := (((Int8.ofInt (-20)).toInt32 - x18), q14.2)) rfl
        · exact x_lv (hj12 s5.2) ⟨rfl, trivial⟩
  · refine x_P 87 rfl rfl rfl ?_
    refine x_P 88 rfl rfl rfl ?_
    refine x_gI rfl (fun x9 hx9 => ?_)
    refine x_P 92 rfl rfl rfl ?_
    exact x_retI (x := (((Int8.ofInt (-20)).toInt32 - x9), x8)) rfl
-- 17 NineTrees.garden()I
noncomputable def m_17 (a0 : Nat) (th : tH) : Option (Int32 × tH) :=
  (gC th 7 a0).bind fun _ =>
  (gN th 7 a0 1).bind fun o1 =>
  (gN th 7 a0 0).bind fun o2 =>
  (m_69 o1 o2 th).bind fun th3 =>
  (gN th3 7 a0 7).bind fun o4 =>
  (gN th3 7 a0 1).bind fun o5 =>
  (m_159 o4 o5 th3).bind fun q6 =>
  (gN q6.2 7 a0 7).bind fun o7 =>
  (pI q6.2 6 o7 1 (Int32.ofInt 0)).bind fun th8 =>
  if 0 ≤ q6.1 then
    (gN th8 7 a0 0).bind fun o9 =>
    (gN th8 7 a0 1).bind fun o10 =>
    (m_69 o9 o10 th8).bind fun th11 =>
    (gN th11 7 a0 7).bind fun o12 =>
    (gI th11 6 o12 2).bind fun x13 =>
    (m_62 a0 x13 th11).bind fun th14 =>
    some (q6.1, th14)
  else
    (m_59 a0 (Int8.ofInt (-2)).toInt32 th8).bind fun q15 =>
    some (q6.1, q15.2)
theorem c_17 {a0 : Nat} {th : tH} {x : (Int32 × tH)} (h : m_17 a0 th = some x) : ∃ fs, th[a0]? = some (.inr (7, fs)) := gC_of h
theorem S_17 {L : Nat} (d : Nat) (a0 : Nat) (th : tH) : Wx L (fun x => (some (.int x.1), x.2)) (d + 7) 17 2 0 [(0, .ref a0)] [] th (m_17 a0 th) := by
  unfold m_17
  refine x_gC ?_
  refine x_P 1 rfl rfl rfl ?_
  refine x_gN rfl (fun o1 ho1 => ?_)
  refine x_P 5 rfl rfl rfl ?_
  refine x_gN rfl (fun o2 ho2 => ?_)
  refine x_callW rfl rfl rfl rfl rfl ⟨rfl, rfl⟩ (fun x h => c_69 h) (S_69 (d + 5) o1 o2 th) (fun th3 hth3 => ?_)
  refine x_P 12 rfl rfl rfl ?_
  refine x_gN rfl (fun o4 ho4 => ?_)
  refine x_P 16 rfl rfl rfl ?_
  refine x_gN rfl (fun o5 ho5 => ?_)
  refine x_callV rfl rfl rfl rfl rfl ⟨rfl, rfl⟩ (fun x h => c_159 h) (S_159 d o4 o5 th3) (fun q6 hq6 => ?_)
  refine x_P (lv' := [(1, .int q6.1), (0, .ref a0)]) 23 rfl rfl rfl ?_
  refine x_P 24 rfl rfl rfl ?_
  refine x_gN rfl (fun o7 ho7 => ?_)
  refine x_P 28 rfl rfl rfl ?_
  refine x_pI rfl (fun th8 hth8 => ?_)
  refine x_P 32 rfl rfl rfl ?_
  refine x_if_ge rfl rfl (fun h16 => ?_) (fun h16 => ?_)
  · refine x_P 45 rfl rfl rfl ?_
    refine x_gN rfl (fun o9 ho9 => ?_)
    refine x_P 49 rfl rfl rfl ?_
    refine x_gN rfl (fun o10 ho10 => ?_)
    refine x_callW rfl rfl rfl rfl rfl ⟨rfl, rfl⟩ (fun x h => c_69 h) (S_69 (d + 5) o9 o10 th8) (fun th11 hth11 => ?_)
    refine x_P 56 rfl rfl rfl ?_
    refine x_P 57 rfl rfl rfl ?_
    refine x_gN rfl (fun o12 ho12 => ?_)
    refine x_gI rfl (fun x13 hx13 => ?_)
    refine x_callW rfl rfl rfl rfl rfl ⟨rfl, rfl⟩ (fun x h => c_62 h) (S_62 (d + 4) a0 x13 th11) (fun th14 hth14 => ?_)
    refine x_P 67 rfl rfl rfl ?_
    exact x_retI (x := (q6.1, th14)) rfl
  · refine x_P 36 rfl rfl rfl ?_
    refine x_P 38 rfl rfl rfl ?_
    refine x_callV rfl rfl rfl rfl rfl ⟨rfl, rfl⟩ (fun x h => c_59 h) (S_59 (d + 5) a0 (Int8.ofInt (-2)).toInt32 th8) (fun q15 hq15 => ?_)
    refine x_P 42 rfl rfl rfl ?_
    refine x_P 43 rfl rfl rfl ?_
    exact x_retI (x := (q6.1, q15.2)) rfl
-- 18 NineTrees.treeOf(II)I
noncomputable def m_18 (a0 : Nat) (a1 : Int32) (a2 : Int32) (th : tH) : Option (Int32 × tH) :=
  (gC th 7 a0).bind fun _ =>
  (gN th 7 a0 0).bind fun o1 =>
  (m_81 o1 a1 th).bind fun x2 =>
  jn (fun (v3 : Unit) =>
      (m_59 a0 (Int8.ofInt (-2)).toInt32 th).bind fun q5 =>
      some (q5.1, q5.2)
    ) (fun j4 =>
      if x2 = 0 then
        j4 ()
      else
        if a2 < 0 then
          j4 ()
        else
          if a2 ≤ (Int32.ofInt 4) then
            if a2 < 0 ∨ 3 < a2 then
              (m_63 a0 th).bind fun q7 =>
              (m_107 q7.1 a1 (Int32.ofInt 3) q7.2).bind fun x8 =>
              some (x8, q7.2)
            else if a2 = 0 then
              (gN th 7 a0 0).bind fun o10 =>
              (gN th 2 o10 0).bind fun o11 =>
              (aI th o11 a1).bind fun x12 =>
              some (x12, th)
            else if a2 = 1 then
              (gN th 7 a0 0).bind fun o14 =>
              (gN th 2 o14 1).bind fun o15 =>
              (aI th o15 a1).bind fun x16 =>
              some (x16, th)
            else if a2 = 2 then
              (gN th 7 a0 0).bind fun o18 =>
              (gN th 2 o18 2).bind fun o19 =>
              (aI th o19 a1).bind fun x20 =>
              some (x20, th)
            else if a2 = 3 then
              (m_63 a0 th).bind fun q22 =>
              (m_107 q22.1 a1 (Int32.ofInt 2) q22.2).bind fun x23 =>
              some (x23, q22.2)
            else
              none
          else
            j4 ()
    )
theorem c_18 {a0 : Nat} {a1 : Int32} {a2 : Int32} {th : tH} {x : (Int32 × tH)} (h : m_18 a0 a1 a2 th = some x) : ∃ fs, th[a0]? = some (.inr (7, fs)) := gC_of h
theorem S_18 {L : Nat} (d : Nat) (a0 : Nat) (a1 : Int32) (a2 : Int32) (th : tH) : Wx L (fun x => (some (.int x.1), x.2)) (d + 5) 18 3 0 [(0, .ref a0), (1, .int a1), (2, .int a2)] [] th (m_18 a0 a1 a2 th) := by
  unfold m_18
  refine x_gC ?_
  refine x_P 1 rfl rfl rfl ?_
  refine x_gN rfl (fun o1 ho1 => ?_)
  refine x_P 5 rfl rfl rfl ?_
  refine x_callV rfl rfl rfl rfl rfl ⟨rfl, rfl⟩ (fun x h => c_81 h) (S_81 (d + 4) o1 a1 th) (fun x2 hx2 => ?_)
  refine x_jn 20 (fun v3 => [(0, .ref a0)]) (fun v3 => []) (fun v3 => th) (fun v3 => ?_) (fun j4 hj4 => ?_)
  · refine x_P 21 rfl rfl rfl ?_
    refine x_P 23 rfl rfl rfl ?_
    refine x_callV rfl rfl rfl rfl rfl ⟨rfl, rfl⟩ (fun x h => c_59 h) (S_59 (d + 3) a0 (Int8.ofInt (-2)).toInt32 th) (fun q5 hq5 => ?_)
    exact x_retI (x := (q5.1, q5.2)) rfl
  · refine x_if_eq rfl rfl (fun h26 => ?_) (fun h26 => ?_)
    · exact x_lv (hj4 ()) ⟨rfl, trivial⟩
    · refine x_P 12 rfl rfl rfl ?_
      refine x_if_lt rfl rfl (fun h25 => ?_) (fun h25 => ?_)
      · exact x_lv (hj4 ()) ⟨rfl, trivial⟩
      · refine x_P 16 rfl rfl rfl ?_
        refine x_P 17 rfl rfl rfl ?_
        refine x_ic_le rfl rfl (fun h24 => ?_) (fun h24 => ?_)
        · refine x_P 28 rfl rfl rfl ?_
          refine x_ite (fun h6 => ?_) (fun h6 => ?_)
          · refine x_P 100 rfl rfl (x_td h6 (by decide +kernel)) ?_
            refine x_P 101 rfl rfl rfl ?_
            refine x_callV rfl rfl rfl rfl rfl ⟨rfl, rfl⟩ (fun x h => c_63 h) (S_63 d a0 th) (fun q7 hq7 => ?_)
            refine x_P 105 rfl rfl rfl ?_
            refine x_P 106 rfl rfl rfl ?_
            refine x_callV rfl rfl rfl rfl rfl ⟨rfl, rfl⟩ (fun x h => c_107 h) (S_107 (d + 3) q7.1 a1 (Int32.ofInt 3) q7.2) (fun x8 hx8 => ?_)
            exact x_retI (x := (x8, q7.2)) rfl
          · skip
            refine x_ite (fun h9 => ?_) (fun h9 => ?_)
            · refine x_P 60 rfl rfl (x_ts h9 (by decide +kernel)) ?_
              refine x_P 61 rfl rfl rfl ?_
              refine x_gN rfl (fun o10 ho10 => ?_)
              refine x_gN rfl (fun o11 ho11 => ?_)
              refine x_P 68 rfl rfl rfl ?_
              refine x_aI rfl ⟨rfl, rfl⟩ (fun x12 hx12 => ?_)
              exact x_retI (x := (x12, th)) rfl
            · skip
              refine x_ite (fun h13 => ?_) (fun h13 => ?_)
              · refine x_P 70 rfl rfl (x_ts h13 (by decide +kernel)) ?_
                refine x_P 71 rfl rfl rfl ?_
                refine x_gN rfl (fun o14 ho14 => ?_)
                refine x_gN rfl (fun o15 ho15 => ?_)
                refine x_P 78 rfl rfl rfl ?_
                refine x_aI rfl ⟨rfl, rfl⟩ (fun x16 hx16 => ?_)
                exact x_retI (x := (x16, th)) rfl
              · skip
                refine x_ite (fun h17 => ?_) (fun h17 => ?_)
                · refine x_P 80 rfl rfl (x_ts h17 (by decide +kernel)) ?_
                  refine x_P 81 rfl rfl rfl ?_
                  refine x_gN rfl (fun o18 ho18 => ?_)
                  refine x_gN rfl (fun o19 ho19 => ?_)
                  refine x_P 88 rfl rfl rfl ?_
                  refine x_aI rfl ⟨rfl, rfl⟩ (fun x20 hx20 => ?_)
                  exact x_retI (x := (x20, th)) rfl
                · skip
                  refine x_ite (fun h21 => ?_) (fun h21 => ?_)
                  · refine x_P 90 rfl rfl (x_ts h21 (by decide +kernel)) ?_
                    refine x_P 91 rfl rfl rfl ?_
                    refine x_callV rfl rfl rfl rfl rfl ⟨rfl, rfl⟩ (fun x h => c_63 h) (S_63 d a0 th) (fun q22 hq22 => ?_)
                    refine x_P 95 rfl rfl rfl ?_
                    refine x_P 96 rfl rfl rfl ?_
                    refine x_callV rfl rfl rfl rfl rfl ⟨rfl, rfl⟩ (fun x h => c_107 h) (S_107 (d + 3) q22.1 a1 (Int32.ofInt 2) q22.2) (fun x23 hx23 => ?_)
                    exact x_retI (x := (x23, q22.2)) rfl
                  · skip
                    exact x_none
        · exact x_lv (hj4 ()) ⟨rfl, trivial⟩
-- 19 NineTrees.treeAt(I)I
noncomputable def m_19 (a0 : Nat) (a1 : Int32) (th : tH) : Option (Int32 × tH) :=
  (gC th 7 a0).bind fun _ =>
  (gN th 7 a0 0).bind fun o1 =>
  (m_71 o1 a1 th).bind fun x2 =>
  jn (fun (v3 : Int32 × tH) =>
      some (v3.1, v3.2)
    ) (fun j4 =>
      if x2 = 0 then
        (m_59 a0 (Int8.ofInt (-2)).toInt32 th).bind fun q5 =>
        j4 (q5.1, q5.2)
      else
        (gN th 7 a0 0).bind fun o6 =>
        (m_83 o6 a1 th).bind fun x7 =>
        j4 (x7, th)
    )
theorem c_19 {a0 : Nat} {a1 : Int32} {th : tH} {x : (Int32 × tH)} (h : m_19 a0 a1 th = some x) : ∃ fs, th[a0]? = some (.inr (7, fs)) := gC_of h
theorem S_19 {L : Nat} (d : Nat) (a0 : Nat) (a1 : Int32) (th : tH) : Wx L (fun x => (some (.int x.1), x.2)) (d + 2) 19 2 0 [(0, .ref a0), (1, .int a1)] [] th (m_19 a0 a1 th) := by
  unfold m_19
  refine x_gC ?_
  refine x_P 1 rfl rfl rfl ?_
  refine x_gN rfl (fun o1 ho1 => ?_)
  refine x_P 5 rfl rfl rfl ?_
  refine x_callV rfl rfl rfl rfl rfl ⟨rfl, rfl⟩ (fun x h => c_71 h) (S_71 d o1 a1 th) (fun x2 hx2 => ?_)
  refine x_jn 28 (fun v3 => []) (fun v3 => [.int v3.1]) (fun v3 => v3.2) (fun v3 => ?_) (fun j4 hj4 => ?_)
  · exact x_retI (x := (v3.1, v3.2)) rfl
  · refine x_if_eq rfl rfl (fun h8 => ?_) (fun h8 => ?_)
    · refine x_P 23 rfl rfl rfl ?_
      refine x_P 25 rfl rfl rfl ?_
      refine x_callV rfl rfl rfl rfl rfl ⟨rfl, rfl⟩ (fun x h => c_59 h) (S_59 d a0 (Int8.ofInt (-2)).toInt32 th) (fun q5 hq5 => ?_)
      exact x_lv (hj4 (q5.1, q5.2)) trivial
    · refine x_P 12 rfl rfl rfl ?_
      refine x_gN rfl (fun o6 ho6 => ?_)
      refine x_P 16 rfl rfl rfl ?_
      refine x_callV rfl rfl rfl rfl rfl ⟨rfl, rfl⟩ (fun x h => c_83 h) (S_83 (d + 1) o6 a1 th) (fun x7 hx7 => ?_)
      refine x_P 28 rfl rfl rfl ?_
      exact x_lv (hj4 (x7, th)) trivial
-- 64 NineTrees.isRowSize(I)Z
noncomputable def m_64 (a0 : Int32) (th : tH) : Option (Int32) :=
  jn (fun (v1 : Int32) =>
      rB v1
    ) (fun j2 =>
      jn (fun (v3 : Unit) =>
          j2 (Int32.ofInt 0)
        ) (fun j4 =>
          if a0 < (Int32.ofInt 2) then
            j4 ()
          else
            if (Int8.ofInt 12).toInt32 < a0 then
              j4 ()
            else
              j2 (Int32.ofInt 1)
        )
    )
theorem S_64 {L : Nat} (d : Nat) (a0 : Int32) (th : tH) : Wx L (fun x => (some (.int x), th)) d 64 1 0 [(0, .int a0)] [] th (m_64 a0 th) := by
  unfold m_64
  refine x_P 1 rfl rfl rfl ?_
  refine x_P 2 rfl rfl rfl ?_
  refine x_jn 16 (fun v1 => []) (fun v1 => [.int v1]) (fun v1 => th) (fun v1 => ?_) (fun j2 hj2 => ?_)
  · exact x_rB rfl
  · refine x_jn 15 (fun v3 => []) (fun v3 => []) (fun v3 => th) (fun v3 => ?_) (fun j4 hj4 => ?_)
    · refine x_P 16 rfl rfl rfl ?_
      exact x_lv (hj2 (Int32.ofInt 0)) trivial
    · refine x_ic_lt rfl rfl (fun h6 => ?_) (fun h6 => ?_)
      · exact x_lv (hj4 ()) trivial
      · refine x_P 6 rfl rfl rfl ?_
        refine x_P 8 rfl rfl rfl ?_
        refine x_ic_gt rfl rfl (fun h5 => ?_) (fun h5 => ?_)
        · exact x_lv (hj4 ()) trivial
        · refine x_P 12 rfl rfl rfl ?_
          refine x_P 16 rfl rfl rfl ?_
          exact x_lv (hj2 (Int32.ofInt 1)) trivial
-- 105 NineTrees$RowList.countOf(I)I
noncomputable def m_105 (a0 : Nat) (a1 : Int32) (th : tH) : Option (Int32) :=
  (gC th 4 a0).bind fun _ =>
  lp (fun (s1 : Int32 × Int32) nx2 ex3 =>
      (gI th 4 a0 1).bind fun x5 =>
      if x5 ≤ s1.2 then
        ex3 s1.1
      else
        (gN th 4 a0 0).bind fun o6 =>
        (aI th o6 s1.2).bind fun x7 =>
        (m_173 x7 th).bind fun x8 =>
        jn (fun (v9 : Int32) =>
            nx2 (v9, (s1.2 + Int32.ofInt 1))
          ) (fun j10 =>
            if x8 = a1 then
              j10 (s1.1 + Int32.ofInt 1)
            else
              j10 s1.1
          )
    ) 4096 ((Int32.ofInt 0), (Int32.ofInt 0)) (fun (x4 : Int32) =>
      some x4
    )
theorem c_105 {a0 : Nat} {a1 : Int32} {th : tH} {x : (Int32)} (h : m_105 a0 a1 th = some x) : ∃ fs, th[a0]? = some (.inr (4, fs)) := gC_of h
theorem S_105 {L : Nat} (d : Nat) (a0 : Nat) (a1 : Int32) (th : tH) : Wx L (fun x => (some (.int x), th)) (d + 1) 105 4 0 [(0, .ref a0), (1, .int a1)] [] th (m_105 a0 a1 th) := by
  unfold m_105
  refine x_gC ?_
  refine x_P 1 rfl rfl rfl ?_
  refine x_P (lv' := [(2, .int (Int32.ofInt 0)), (0, .ref a0), (1, .int a1)]) 2 rfl rfl rfl ?_
  refine x_P 3 rfl rfl rfl ?_
  refine x_P (lv' := [(3, .int (Int32.ofInt 0)), (2, .int (Int32.ofInt 0)), (0, .ref a0), (1, .int a1)]) 4 rfl rfl rfl ?_
  refine x_lv (lv := [(0, .ref a0), (1, .int a1), (2, .int (Int32.ofInt 0)), (3, .int (Int32.ofInt 0))]) (x_lp 34 (fun s1 => [(0, .ref a0), (1, .int a1), (2, .int s1.1), (3, .int s1.2)]) (fun s1 => th) (fun x4 => [(2, .int x4)]) (fun x4 => th) (fun s1 nx2 hnx2 ex3 hex3 => ?_) (fun x4 => ?_) 4096 ((Int32.ofInt 0), (Int32.ofInt 0))) ⟨rfl, rfl, rfl, rfl, trivial⟩
  · refine x_P 5 rfl rfl rfl ?_
    refine x_P 6 rfl rfl rfl ?_
    refine x_gI rfl (fun x5 hx5 => ?_)
    refine x_ic_ge rfl rfl (fun h12 => ?_) (fun h12 => ?_)
    · exact x_lv (hex3 s1.1) ⟨rfl, trivial⟩
    · refine x_P 13 rfl rfl rfl ?_
      refine x_gN rfl (fun o6 ho6 => ?_)
      refine x_P 17 rfl rfl rfl ?_
      refine x_aI rfl ⟨rfl, rfl⟩ (fun x7 hx7 => ?_)
      refine x_callS rfl rfl rfl rfl rfl rfl ⟨rfl, rfl⟩ (S_173 d x7 th) (fun x8 hx8 => ?_)
      refine x_P 22 rfl rfl rfl ?_
      refine x_jn 28 (fun v9 => [(0, .ref a0), (1, .int a1), (2, .int v9), (3, .int s1.2)]) (fun v9 => []) (fun v9 => th) (fun v9 => ?_) (fun j10 hj10 => ?_)
      · refine x_P (lv' := [(3, .int (s1.2 + Int32.ofInt 1)), (0, .ref a0), (1, .int a1), (2, .int v9)]) 31 rfl rfl rfl ?_
        refine x_P 4 rfl rfl rfl ?_
        exact x_lv (hnx2 (v9, (s1.2 + Int32.ofInt 1))) ⟨rfl, rfl, rfl, rfl, trivial⟩
      · refine x_ic_ne rfl rfl (fun h11 => ?_) (fun h11 => ?_)
        · refine x_P (lv' := [(2, .int (s1.1 + Int32.ofInt 1)), (0, .ref a0), (1, .int a1), (3, .int s1.2)]) 28 rfl rfl rfl ?_
          exact x_lv (hj10 (s1.1 + Int32.ofInt 1)) ⟨rfl, rfl, rfl, rfl, trivial⟩
        · exact x_lv (hj10 s1.1) ⟨rfl, rfl, rfl, rfl, trivial⟩
  · refine x_P 35 rfl rfl rfl ?_
    exact x_retI (x := x4) rfl
end
section
/-! ===== programs ===== -/
-- 20 NineTrees.many(I)I
noncomputable def m_20 (a0 : Nat) (a1 : Int32) (th : tH) : Option (Int32 × tH) :=
  (gC th 7 a0).bind fun _ =>
  (m_64 a1 th).bind fun x1 =>
  jn (fun (v2 : Int32 × tH) =>
      some (v2.1, v2.2)
    ) (fun j3 =>
      if x1 = 0 then
        (m_59 a0 (Int8.ofInt (-2)).toInt32 th).bind fun q4 =>
        j3 (q4.1, q4.2)
      else
        (m_63 a0 th).bind fun q5 =>
        (m_105 q5.1 a1 q5.2).bind fun x6 =>
        j3 (x6, q5.2)
    )
theorem c_20 {a0 : Nat} {a1 : Int32} {th : tH} {x : (Int32 × tH)} (h : m_20 a0 a1 th = some x) : ∃ fs, th[a0]? = some (.inr (7, fs)) := gC_of h
theorem S_20 {L : Nat} (d : Nat) (a0 : Nat) (a1 : Int32) (th : tH) : Wx L (fun x => (some (.int x.1), x.2)) (d + 5) 20 2 0 [(0, .ref a0), (1, .int a1)] [] th (m_20 a0 a1 th) := by
  unfold m_20
  refine x_gC ?_
  refine x_P 1 rfl rfl rfl ?_
  refine x_callS rfl rfl rfl rfl rfl rfl ⟨rfl, rfl⟩ (S_64 (d + 4) a1 th) (fun x1 hx1 => ?_)
  refine x_jn 24 (fun v2 => []) (fun v2 => [.int v2.1]) (fun v2 => v2.2) (fun v2 => ?_) (fun j3 hj3 => ?_)
  · exact x_retI (x := (v2.1, v2.2)) rfl
  · refine x_if_eq rfl rfl (fun h7 => ?_) (fun h7 => ?_)
    · refine x_P 19 rfl rfl rfl ?_
      refine x_P 21 rfl rfl rfl ?_
      refine x_callV rfl rfl rfl rfl rfl ⟨rfl, rfl⟩ (fun x h => c_59 h) (S_59 (d + 3) a0 (Int8.ofInt (-2)).toInt32 th) (fun q4 hq4 => ?_)
      exact x_lv (hj3 (q4.1, q4.2)) trivial
    · refine x_P 8 rfl rfl rfl ?_
      refine x_callV rfl rfl rfl rfl rfl ⟨rfl, rfl⟩ (fun x h => c_63 h) (S_63 d a0 th) (fun q5 hq5 => ?_)
      refine x_P 12 rfl rfl rfl ?_
      refine x_callV rfl rfl rfl rfl rfl ⟨rfl, rfl⟩ (fun x h => c_105 h) (S_105 (d + 3) q5.1 a1 q5.2) (fun x6 hx6 => ?_)
      refine x_P 24 rfl rfl rfl ?_
      exact x_lv (hj3 (x6, q5.2)) trivial
-- 106 NineTrees$RowList.countThrees()I
noncomputable def m_106 (a0 : Nat) (th : tH) : Option (Int32) :=
  (gC th 4 a0).bind fun _ =>
  (gI th 4 a0 1).bind fun x1 =>
  (m_105 a0 (Int32.ofInt 2) th).bind fun x2 =>
  some (x1 - x2)
theorem c_106 {a0 : Nat} {th : tH} {x : (Int32)} (h : m_106 a0 th = some x) : ∃ fs, th[a0]? = some (.inr (4, fs)) := gC_of h
theorem S_106 {L : Nat} (d : Nat) (a0 : Nat) (th : tH) : Wx L (fun x => (some (.int x), th)) (d + 2) 106 1 0 [(0, .ref a0)] [] th (m_106 a0 th) := by
  unfold m_106
  refine x_gC ?_
  refine x_P 1 rfl rfl rfl ?_
  refine x_gI rfl (fun x1 hx1 => ?_)
  refine x_P 5 rfl rfl rfl ?_
  refine x_P 6 rfl rfl rfl ?_
  refine x_callV rfl rfl rfl rfl rfl ⟨rfl, rfl⟩ (fun x h => c_105 h) (S_105 d a0 (Int32.ofInt 2) th) (fun x2 hx2 => ?_)
  refine x_P 10 rfl rfl rfl ?_
  exact x_retI (x := (x1 - x2)) rfl
-- 21 NineTrees.threes()I
noncomputable def m_21 (a0 : Nat) (th : tH) : Option (Int32 × tH) :=
  (gC th 7 a0).bind fun _ =>
  (m_63 a0 th).bind fun q1 =>
  (m_106 q1.1 q1.2).bind fun x2 =>
  some (x2, q1.2)
theorem c_21 {a0 : Nat} {th : tH} {x : (Int32 × tH)} (h : m_21 a0 th = some x) : ∃ fs, th[a0]? = some (.inr (7, fs)) := gC_of h
theorem S_21 {L : Nat} (d : Nat) (a0 : Nat) (th : tH) : Wx L (fun x => (some (.int x.1), x.2)) (d + 5) 21 1 0 [(0, .ref a0)] [] th (m_21 a0 th) := by
  unfold m_21
  refine x_gC ?_
  refine x_P 1 rfl rfl rfl ?_
  refine x_callV rfl rfl rfl rfl rfl ⟨rfl, rfl⟩ (fun x h => c_63 h) (S_63 d a0 th) (fun q1 hq1 => ?_)
  refine x_callV rfl rfl rfl rfl rfl ⟨rfl, rfl⟩ (fun x h => c_106 h) (S_106 (d + 2) q1.1 q1.2) (fun x2 hx2 => ?_)
  exact x_retI (x := (x2, q1.2)) rfl
-- 110 NineTrees$RowList.pick(II)I
noncomputable def m_110 (a0 : Nat) (a1 : Int32) (a2 : Int32) (th : tH) : Option (Int32) :=
  (gC th 4 a0).bind fun _ =>
  lp (fun (s1 : Int32 × Int32) nx2 ex3 =>
      (gI th 4 a0 1).bind fun x5 =>
      if x5 ≤ s1.2 then
        ex3 ()
      else
        (gN th 4 a0 0).bind fun o6 =>
        (aI th o6 s1.2).bind fun x7 =>
        (m_173 x7 th).bind fun x8 =>
        jn (fun (v9 : Int32) =>
            nx2 (v9, (s1.2 + Int32.ofInt 1))
          ) (fun j10 =>
            if x8 = a1 then
              if s1.1 = a2 then
                (gN th 4 a0 0).bind fun o11 =>
                (aI th o11 s1.2).bind fun x12 =>
                some x12
              else
                j10 (s1.1 + Int32.ofInt 1)
            else
              j10 s1.1
          )
    ) 4096 ((Int32.ofInt 0), (Int32.ofInt 0)) (fun (x4 : Unit) =>
      some (Int32.ofInt 0)
    )
theorem c_110 {a0 : Nat} {a1 : Int32} {a2 : Int32} {th : tH} {x : (Int32)} (h : m_110 a0 a1 a2 th = some x) : ∃ fs, th[a0]? = some (.inr (4, fs)) := gC_of h
theorem S_110 {L : Nat} (d : Nat) (a0 : Nat) (a1 : Int32) (a2 : Int32) (th : tH) : Wx L (fun x => (some (.int x), th)) (d + 1) 110 5 0 [(0, .ref a0), (1, .int a1), (2, .int a2)] [] th (m_110 a0 a1 a2 th) := by
  unfold m_110
  refine x_gC ?_
  refine x_P 1 rfl rfl rfl ?_
  refine x_P (lv' := [(3, .int (Int32.ofInt 0)), (0, .ref a0), (1, .int a1), (2, .int a2)]) 2 rfl rfl rfl ?_
  refine x_P 3 rfl rfl rfl ?_
  refine x_P (lv' := [(4, .int (Int32.ofInt 0)), (3, .int (Int32.ofInt 0)), (0, .ref a0), (1, .int a1), (2, .int a2)]) 5 rfl rfl rfl ?_
  refine x_lv (lv := [(0, .ref a0), (1, .int a1), (2, .int a2), (3, .int (Int32.ofInt 0)), (4, .int (Int32.ofInt 0))]) (x_lp 50 (fun s1 => [(0, .ref a0), (1, .int a1), (2, .int a2), (3, .int s1.1), (4, .int s1.2)]) (fun s1 => th) (fun x4 => []) (fun x4 => th) (fun s1 nx2 hnx2 ex3 hex3 => ?_) (fun x4 => ?_) 4096 ((Int32.ofInt 0), (Int32.ofInt 0))) ⟨rfl, rfl, rfl, rfl, rfl, trivial⟩
  · refine x_P 7 rfl rfl rfl ?_
    refine x_P 8 rfl rfl rfl ?_
    refine x_gI rfl (fun x5 hx5 => ?_)
    refine x_ic_ge rfl rfl (fun h15 => ?_) (fun h15 => ?_)
    · exact x_lv (hex3 ()) trivial
    · refine x_P 15 rfl rfl rfl ?_
      refine x_gN rfl (fun o6 ho6 => ?_)
      refine x_P 20 rfl rfl rfl ?_
      refine x_aI rfl ⟨rfl, rfl⟩ (fun x7 hx7 => ?_)
      refine x_callS rfl rfl rfl rfl rfl rfl ⟨rfl, rfl⟩ (S_173 d x7 th) (fun x8 hx8 => ?_)
      refine x_P 25 rfl rfl rfl ?_
      refine x_jn 44 (fun v9 => [(0, .ref a0), (1, .int a1), (2, .int a2), (3, .int v9), (4, .int s1.2)]) (fun v9 => []) (fun v9 => th) (fun v9 => ?_) (fun j10 hj10 => ?_)
      · refine x_P (lv' := [(4, .int (s1.2 + Int32.ofInt 1)), (0, .ref a0), (1, .int a1), (2, .int a2), (3, .int v9)]) 47 rfl rfl rfl ?_
        refine x_P 5 rfl rfl rfl ?_
        exact x_lv (hnx2 (v9, (s1.2 + Int32.ofInt 1))) ⟨rfl, rfl, rfl, rfl, rfl, trivial⟩
      · refine x_ic_ne rfl rfl (fun h14 => ?_) (fun h14 => ?_)
        · refine x_P 29 rfl rfl rfl ?_
          refine x_P 30 rfl rfl rfl ?_
          refine x_ic_ne rfl rfl (fun h13 => ?_) (fun h13 => ?_)
          · refine x_P 34 rfl rfl rfl ?_
            refine x_gN rfl (fun o11 ho11 => ?_)
            refine x_P 39 rfl rfl rfl ?_
            refine x_aI rfl ⟨rfl, rfl⟩ (fun x12 hx12 => ?_)
            exact x_retI (x := x12) rfl
          · refine x_P (lv' := [(3, .int (s1.1 + Int32.ofInt 1)), (0, .ref a0), (1, .int a1), (2, .int a2), (4, .int s1.2)]) 44 rfl rfl rfl ?_
            exact x_lv (hj10 (s1.1 + Int32.ofInt 1)) ⟨rfl, rfl, rfl, rfl, rfl, trivial⟩
        · exact x_lv (hj10 s1.1) ⟨rfl, rfl, rfl, rfl, rfl, trivial⟩
  · refine x_P 51 rfl rfl rfl ?_
    exact x_retI (x := (Int32.ofInt 0)) rfl
-- 22 NineTrees.rowAt(II)I
noncomputable def m_22 (a0 : Nat) (a1 : Int32) (a2 : Int32) (th : tH) : Option (Int32 × tH) :=
  (gC th 7 a0).bind fun _ =>
  (m_64 a1 th).bind fun x1 =>
  jn (fun (v2 : Unit) =>
      (m_59 a0 (Int8.ofInt (-2)).toInt32 th).bind fun q4 =>
      some (q4.1, q4.2)
    ) (fun j3 =>
      if x1 = 0 then
        j3 ()
      else
        if 0 ≤ a2 then
          (m_63 a0 th).bind fun q5 =>
          (m_110 q5.1 a1 a2 q5.2).bind fun x6 =>
          jn (fun (v7 : Int32 × tH) =>
              some (v7.1, v7.2)
            ) (fun j8 =>
              if x6 = 0 then
                (m_59 a0 (Int8.ofInt (-5)).toInt32 q5.2).bind fun q9 =>
                j8 (q9.1, q9.2)
              else
                j8 (x6, q5.2)
            )
        else
          j3 ()
    )
theorem c_22 {a0 : Nat} {a1 : Int32} {a2 : Int32} {th : tH} {x : (Int32 × tH)} (h : m_22 a0 a1 a2 th = some x) : ∃ fs, th[a0]? = some (.inr (7, fs)) := gC_of h
theorem S_22 {L : Nat} (d : Nat) (a0 : Nat) (a1 : Int32) (a2 : Int32) (th : tH) : Wx L (fun x => (some (.int x.1), x.2)) (d + 5) 22 4 0 [(0, .ref a0), (1, .int a1), (2, .int a2)] [] th (m_22 a0 a1 a2 th) := by
  unfold m_22
  refine x_gC ?_
  refine x_P 1 rfl rfl rfl ?_
  refine x_callS rfl rfl rfl rfl rfl rfl ⟨rfl, rfl⟩ (S_64 (d + 4) a1 th) (fun x1 hx1 => ?_)
  refine x_jn 11 (fun v2 => [(0, .ref a0)]) (fun v2 => []) (fun v2 => th) (fun v2 => ?_) (fun j3 hj3 => ?_)
  · refine x_P 12 rfl rfl rfl ?_
    refine x_P 14 rfl rfl rfl ?_
    refine x_callV rfl rfl rfl rfl rfl ⟨rfl, rfl⟩ (fun x h => c_59 h) (S_59 (d + 3) a0 (Int8.ofInt (-2)).toInt32 th) (fun q4 hq4 => ?_)
    exact x_retI (x := (q4.1, q4.2)) rfl
  · refine x_if_eq rfl rfl (fun h12 => ?_) (fun h12 => ?_)
    · exact x_lv (hj3 ()) ⟨rfl, trivial⟩
    · refine x_P 8 rfl rfl rfl ?_
      refine x_if_ge rfl rfl (fun h11 => ?_) (fun h11 => ?_)
      · refine x_P 19 rfl rfl rfl ?_
        refine x_callV rfl rfl rfl rfl rfl ⟨rfl, rfl⟩ (fun x h => c_63 h) (S_63 d a0 th) (fun q5 hq5 => ?_)
        refine x_P 23 rfl rfl rfl ?_
        refine x_P 24 rfl rfl rfl ?_
        refine x_callV rfl rfl rfl rfl rfl ⟨rfl, rfl⟩ (fun x h => c_110 h) (S_110 (d + 3) q5.1 a1 a2 q5.2) (fun x6 hx6 => ?_)
        refine x_P (lv' := [(3, .int x6), (0, .ref a0), (1, .int a1), (2, .int a2)]) 28 rfl rfl rfl ?_
        refine x_P 29 rfl rfl rfl ?_
        refine x_jn 42 (fun v7 => []) (fun v7 => [.int v7.1]) (fun v7 => v7.2) (fun v7 => ?_) (fun j8 hj8 => ?_)
        · exact x_retI (x := (v7.1, v7.2)) rfl
        · refine x_if_ne rfl rfl (fun h10 => ?_) (fun h10 => ?_)
          · refine x_P 33 rfl rfl rfl ?_
            refine x_P 35 rfl rfl rfl ?_
            refine x_callV rfl rfl rfl rfl rfl ⟨rfl, rfl⟩ (fun x h => c_59 h) (S_59 (d + 3) a0 (Int8.ofInt (-5)).toInt32 q5.2) (fun q9 hq9 => ?_)
            refine x_P 42 rfl rfl rfl ?_
            exact x_lv (hj8 (q9.1, q9.2)) trivial
          · refine x_P 42 rfl rfl rfl ?_
            exact x_lv (hj8 (x6, q5.2)) trivial
      · exact x_lv (hj3 ()) ⟨rfl, trivial⟩
-- 111 NineTrees$RowList.fullest()I
noncomputable def m_111 (a0 : Nat) (th : tH) : Option (Int32) :=
  (gC th 4 a0).bind fun _ =>
  lp (fun (s1 : Int32 × Int32) nx2 ex3 =>
      (gI th 4 a0 1).bind fun x5 =>
      if x5 ≤ s1.2 then
        ex3 s1.1
      else
        (gN th 4 a0 0).bind fun o6 =>
        (aI th o6 s1.2).bind fun x7 =>
        (m_173 x7 th).bind fun x8 =>
        (m_173 s1.1 th).bind fun x9 =>
        jn (fun (v10 : Int32) =>
            nx2 (v10, (s1.2 + Int32.ofInt 1))
          ) (fun j11 =>
            if x8 ≤ x9 then
              j11 s1.1
            else
              (gN th 4 a0 0).bind fun o12 =>
              (aI th o12 s1.2).bind fun x13 =>
              j11 x13
          )
    ) 4096 ((Int32.ofInt 0), (Int32.ofInt 0)) (fun (x4 : Int32) =>
      some x4
    )
theorem c_111 {a0 : Nat} {th : tH} {x : (Int32)} (h : m_111 a0 th = some x) : ∃ fs, th[a0]? = some (.inr (4, fs)) := gC_of h
theorem S_111 {L : Nat} (d : Nat) (a0 : Nat) (th : tH) : Wx L (fun x => (some (.int x), th)) (d + 1) 111 3 0 [(0, .ref a0)] [] th (m_111 a0 th) := by
  unfold m_111
  refine x_gC ?_
  refine x_P 1 rfl rfl rfl ?_
  refine x_P (lv' := [(1, .int (Int32.ofInt 0)), (0, .ref a0)]) 2 rfl rfl rfl ?_
  refine x_P 3 rfl rfl rfl ?_
  refine x_P (lv' := [(2, .int (Int32.ofInt 0)), (1, .int (Int32.ofInt 0)), (0, .ref a0)]) 4 rfl rfl rfl ?_
  refine x_lv (lv := [(0, .ref a0), (1, .int (Int32.ofInt 0)), (2, .int (Int32.ofInt 0))]) (x_lp 41 (fun s1 => [(0, .ref a0), (1, .int s1.1), (2, .int s1.2)]) (fun s1 => th) (fun x4 => [(1, .int x4)]) (fun x4 => th) (fun s1 nx2 hnx2 ex3 hex3 => ?_) (fun x4 => ?_) 4096 ((Int32.ofInt 0), (Int32.ofInt 0))) ⟨rfl, rfl, rfl, trivial⟩
  · refine x_P 5 rfl rfl rfl ?_
    refine x_P 6 rfl rfl rfl ?_
    refine x_gI rfl (fun x5 hx5 => ?_)
    refine x_ic_ge rfl rfl (fun h15 => ?_) (fun h15 => ?_)
    · exact x_lv (hex3 s1.1) ⟨rfl, trivial⟩
    · refine x_P 13 rfl rfl rfl ?_
      refine x_gN rfl (fun o6 ho6 => ?_)
      refine x_P 17 rfl rfl rfl ?_
      refine x_aI rfl ⟨rfl, rfl⟩ (fun x7 hx7 => ?_)
      refine x_callS rfl rfl rfl rfl rfl rfl ⟨rfl, rfl⟩ (S_173 d x7 th) (fun x8 hx8 => ?_)
      refine x_P 22 rfl rfl rfl ?_
      refine x_callS rfl rfl rfl rfl rfl rfl ⟨rfl, rfl⟩ (S_173 d s1.1 th) (fun x9 hx9 => ?_)
      refine x_jn 35 (fun v10 => [(0, .ref a0), (1, .int v10), (2, .int s1.2)]) (fun v10 => []) (fun v10 => th) (fun v10 => ?_) (fun j11 hj11 => ?_)
      · refine x_P (lv' := [(2, .int (s1.2 + Int32.ofInt 1)), (0, .ref a0), (1, .int v10)]) 38 rfl rfl rfl ?_
        refine x_P 4 rfl rfl rfl ?_
        exact x_lv (hnx2 (v10, (s1.2 + Int32.ofInt 1))) ⟨rfl, rfl, rfl, trivial⟩
      · refine x_ic_le rfl rfl (fun h14 => ?_) (fun h14 => ?_)
        · exact x_lv (hj11 s1.1) ⟨rfl, rfl, rfl, trivial⟩
        · refine x_P 29 rfl rfl rfl ?_
          refine x_gN rfl (fun o12 ho12 => ?_)
          refine x_P 33 rfl rfl rfl ?_
          refine x_aI rfl ⟨rfl, rfl⟩ (fun x13 hx13 => ?_)
          refine x_P (lv' := [(1, .int x13), (0, .ref a0), (2, .int s1.2)]) 35 rfl rfl rfl ?_
          exact x_lv (hj11 x13) ⟨rfl, rfl, rfl, trivial⟩
  · refine x_P 42 rfl rfl rfl ?_
    exact x_retI (x := x4) rfl
-- 23 NineTrees.longest()I
noncomputable def m_23 (a0 : Nat) (th : tH) : Option (Int32 × tH) :=
  (gC th 7 a0).bind fun _ =>
  (m_63 a0 th).bind fun q1 =>
  (m_111 q1.1 q1.2).bind fun x2 =>
  jn (fun (v3 : Int32 × tH) =>
      some (v3.1, v3.2)
    ) (fun j4 =>
      if x2 = 0 then
        (m_59 a0 (Int8.ofInt (-5)).toInt32 q1.2).bind fun q5 =>
        j4 (q5.1, q5.2)
      else
        j4 (x2, q1.2)
    )
theorem c_23 {a0 : Nat} {th : tH} {x : (Int32 × tH)} (h : m_23 a0 th = some x) : ∃ fs, th[a0]? = some (.inr (7, fs)) := gC_of h
theorem S_23 {L : Nat} (d : Nat) (a0 : Nat) (th : tH) : Wx L (fun x => (some (.int x.1), x.2)) (d + 5) 23 2 0 [(0, .ref a0)] [] th (m_23 a0 th) := by
  unfold m_23
  refine x_gC ?_
  refine x_P 1 rfl rfl rfl ?_
  refine x_callV rfl rfl rfl rfl rfl ⟨rfl, rfl⟩ (fun x h => c_63 h) (S_63 d a0 th) (fun q1 hq1 => ?_)
  refine x_callV rfl rfl rfl rfl rfl ⟨rfl, rfl⟩ (fun x h => c_111 h) (S_111 (d + 3) q1.1 q1.2) (fun x2 hx2 => ?_)
  refine x_P (lv' := [(1, .int x2), (0, .ref a0)]) 8 rfl rfl rfl ?_
  refine x_P 9 rfl rfl rfl ?_
  refine x_jn 22 (fun v3 => []) (fun v3 => [.int v3.1]) (fun v3 => v3.2) (fun v3 => ?_) (fun j4 hj4 => ?_)
  · exact x_retI (x := (v3.1, v3.2)) rfl
  · refine x_if_ne rfl rfl (fun h6 => ?_) (fun h6 => ?_)
    · refine x_P 13 rfl rfl rfl ?_
      refine x_P 15 rfl rfl rfl ?_
      refine x_callV rfl rfl rfl rfl rfl ⟨rfl, rfl⟩ (fun x h => c_59 h) (S_59 (d + 3) a0 (Int8.ofInt (-5)).toInt32 q1.2) (fun q5 hq5 => ?_)
      refine x_P 22 rfl rfl rfl ?_
      exact x_lv (hj4 (q5.1, q5.2)) trivial
    · refine x_P 22 rfl rfl rfl ?_
      exact x_lv (hj4 (x2, q1.2)) trivial
-- 109 NineTrees$RowList.treesInThrees()I
noncomputable def m_109 (a0 : Nat) (th : tH) : Option (Int32) :=
  (gC th 4 a0).bind fun _ =>
  lp (fun (s1 : Int32 × Int32) nx2 ex3 =>
      (gI th 4 a0 1).bind fun x5 =>
      if x5 ≤ s1.2 then
        ex3 s1.1
      else
        (gN th 4 a0 0).bind fun o6 =>
        (aI th o6 s1.2).bind fun x7 =>
        (m_173 x7 th).bind fun x8 =>
        jn (fun (v9 : Int32) =>
            nx2 (v9, (s1.2 + Int32.ofInt 1))
          ) (fun j10 =>
            if x8 < (Int32.ofInt 3) then
              j10 s1.1
            else
              (gN th 4 a0 0).bind fun o11 =>
              (aI th o11 s1.2).bind fun x12 =>
              j10 (s1.1 ||| x12)
          )
    ) 4096 ((Int32.ofInt 0), (Int32.ofInt 0)) (fun (x4 : Int32) =>
      some x4
    )
theorem c_109 {a0 : Nat} {th : tH} {x : (Int32)} (h : m_109 a0 th = some x) : ∃ fs, th[a0]? = some (.inr (4, fs)) := gC_of h
theorem S_109 {L : Nat} (d : Nat) (a0 : Nat) (th : tH) : Wx L (fun x => (some (.int x), th)) (d + 1) 109 3 0 [(0, .ref a0)] [] th (m_109 a0 th) := by
  unfold m_109
  refine x_gC ?_
  refine x_P 1 rfl rfl rfl ?_
  refine x_P (lv' := [(1, .int (Int32.ofInt 0)), (0, .ref a0)]) 2 rfl rfl rfl ?_
  refine x_P 3 rfl rfl rfl ?_
  refine x_P (lv' := [(2, .int (Int32.ofInt 0)), (1, .int (Int32.ofInt 0)), (0, .ref a0)]) 4 rfl rfl rfl ?_
  refine x_lv (lv := [(0, .ref a0), (1, .int (Int32.ofInt 0)), (2, .int (Int32.ofInt 0))]) (x_lp 40 (fun s1 => [(0, .ref a0), (1, .int s1.1), (2, .int s1.2)]) (fun s1 => th) (fun x4 => [(1, .int x4)]) (fun x4 => th) (fun s1 nx2 hnx2 ex3 hex3 => ?_) (fun x4 => ?_) 4096 ((Int32.ofInt 0), (Int32.ofInt 0))) ⟨rfl, rfl, rfl, trivial⟩
  · refine x_P 5 rfl rfl rfl ?_
    refine x_P 6 rfl rfl rfl ?_
    refine x_gI rfl (fun x5 hx5 => ?_)
    refine x_ic_ge rfl rfl (fun h14 => ?_) (fun h14 => ?_)
    · exact x_lv (hex3 s1.1) ⟨rfl, trivial⟩
    · refine x_P 13 rfl rfl rfl ?_
      refine x_gN rfl (fun o6 ho6 => ?_)
      refine x_P 17 rfl rfl rfl ?_
      refine x_aI rfl ⟨rfl, rfl⟩ (fun x7 hx7 => ?_)
      refine x_callS rfl rfl rfl rfl rfl rfl ⟨rfl, rfl⟩ (S_173 d x7 th) (fun x8 hx8 => ?_)
      refine x_P 22 rfl rfl rfl ?_
      refine x_jn 34 (fun v9 => [(0, .ref a0), (1, .int v9), (2, .int s1.2)]) (fun v9 => []) (fun v9 => th) (fun v9 => ?_) (fun j10 hj10 => ?_)
      · refine x_P (lv' := [(2, .int (s1.2 + Int32.ofInt 1)), (0, .ref a0), (1, .int v9)]) 37 rfl rfl rfl ?_
        refine x_P 4 rfl rfl rfl ?_
        exact x_lv (hnx2 (v9, (s1.2 + Int32.ofInt 1))) ⟨rfl, rfl, rfl, trivial⟩
      · refine x_ic_lt rfl rfl (fun h13 => ?_) (fun h13 => ?_)
        · exact x_lv (hj10 s1.1) ⟨rfl, rfl, rfl, trivial⟩
        · refine x_P 26 rfl rfl rfl ?_
          refine x_P 27 rfl rfl rfl ?_
          refine x_gN rfl (fun o11 ho11 => ?_)
          refine x_P 31 rfl rfl rfl ?_
          refine x_aI rfl ⟨rfl, rfl⟩ (fun x12 hx12 => ?_)
          refine x_P 33 rfl rfl rfl ?_
          refine x_P (lv' := [(1, .int (s1.1 ||| x12)), (0, .ref a0), (2, .int s1.2)]) 34 rfl rfl rfl ?_
          exact x_lv (hj10 (s1.1 ||| x12)) ⟨rfl, rfl, rfl, trivial⟩
  · refine x_P 41 rfl rfl rfl ?_
    exact x_retI (x := x4) rfl
-- 24 NineTrees.alone()I
noncomputable def m_24 (a0 : Nat) (th : tH) : Option (Int32 × tH) :=
  (gC th 7 a0).bind fun _ =>
  (gN th 7 a0 0).bind fun o1 =>
  (m_82 o1 th).bind fun x2 =>
  (m_63 a0 th).bind fun q3 =>
  (m_109 q3.1 q3.2).bind fun x4 =>
  some ((x2 &&& (x4 ^^^ (Int32.ofInt (-1)))), q3.2)
theorem c_24 {a0 : Nat} {th : tH} {x : (Int32 × tH)} (h : m_24 a0 th = some x) : ∃ fs, th[a0]? = some (.inr (7, fs)) := gC_of h
theorem S_24 {L : Nat} (d : Nat) (a0 : Nat) (th : tH) : Wx L (fun x => (some (.int x.1), x.2)) (d + 5) 24 1 0 [(0, .ref a0)] [] th (m_24 a0 th) := by
  unfold m_24
  refine x_gC ?_
  refine x_P 1 rfl rfl rfl ?_
  refine x_gN rfl (fun o1 ho1 => ?_)
  refine x_callV rfl rfl rfl rfl rfl ⟨rfl, rfl⟩ (fun x h => c_82 h) (S_82 (d + 4) o1 th) (fun x2 hx2 => ?_)
  refine x_P 8 rfl rfl rfl ?_
  refine x_callV rfl rfl rfl rfl rfl ⟨rfl, rfl⟩ (fun x h => c_63 h) (S_63 d a0 th) (fun q3 hq3 => ?_)
  refine x_callV rfl rfl rfl rfl rfl ⟨rfl, rfl⟩ (fun x h => c_109 h) (S_109 (d + 3) q3.1 q3.2) (fun x4 hx4 => ?_)
  refine x_P 15 rfl rfl rfl ?_
  refine x_P 16 rfl rfl rfl ?_
  refine x_P 17 rfl rfl rfl ?_
  exact x_retI (x := ((x2 &&& (x4 ^^^ (Int32.ofInt (-1)))), q3.2)) rfl
-- 25 NineTrees.through(II)I
noncomputable def m_25 (a0 : Nat) (a1 : Int32) (a2 : Int32) (th : tH) : Option (Int32 × tH) :=
  (gC th 7 a0).bind fun _ =>
  (gN th 7 a0 0).bind fun o1 =>
  (m_81 o1 a1 th).bind fun x2 =>
  jn (fun (v3 : Unit) =>
      (m_59 a0 (Int8.ofInt (-2)).toInt32 th).bind fun q5 =>
      some (q5.1, q5.2)
    ) (fun j4 =>
      if x2 = 0 then
        j4 ()
      else
        (gN th 7 a0 0).bind fun o6 =>
        (m_81 o6 a2 th).bind fun x7 =>
        if x7 = 0 then
          j4 ()
        else
          if a1 = a2 then
            j4 ()
          else
            (gN th 7 a0 0).bind fun o8 =>
            (m_85 o8 a1 (Int32.ofInt 4) th).bind fun x9 =>
            jn (fun (v10 : Unit) =>
                (m_59 a0 (Int8.ofInt (-5)).toInt32 th).bind fun q12 =>
                some (q12.1, q12.2)
              ) (fun j11 =>
                if x9 = 0 then
                  (gN th 7 a0 0).bind fun o13 =>
                  (m_85 o13 a2 (Int32.ofInt 4) th).bind fun x14 =>
                  if x14 = 0 then
                    (gN th 7 a0 0).bind fun o15 =>
                    (m_92 o15 a1 a2 th).bind fun x16 =>
                    some (x16, th)
                  else
                    j11 ()
                else
                  j11 ()
              )
    )
theorem c_25 {a0 : Nat} {a1 : Int32} {a2 : Int32} {th : tH} {x : (Int32 × tH)} (h : m_25 a0 a1 a2 th = some x) : ∃ fs, th[a0]? = some (.inr (7, fs)) := gC_of h
theorem S_25 {L : Nat} (d : Nat) (a0 : Nat) (a1 : Int32) (a2 : Int32) (th : tH) : Wx L (fun x => (some (.int x.1), x.2)) (d + 3) 25 3 0 [(0, .ref a0), (1, .int a1), (2, .int a2)] [] th (m_25 a0 a1 a2 th) := by
  unfold m_25
  refine x_gC ?_
  refine x_P 1 rfl rfl rfl ?_
  refine x_gN rfl (fun o1 ho1 => ?_)
  refine x_P 5 rfl rfl rfl ?_
  refine x_callV rfl rfl rfl rfl rfl ⟨rfl, rfl⟩ (fun x h => c_81 h) (S_81 (d + 2) o1 a1 th) (fun x2 hx2 => ?_)
  refine x_jn 27 (fun v3 => [(0, .ref a0)]) (fun v3 => []) (fun v3 => th) (fun v3 => ?_) (fun j4 hj4 => ?_)
  · refine x_P 28 rfl rfl rfl ?_
    refine x_P 30 rfl rfl rfl ?_
    refine x_callV rfl rfl rfl rfl rfl ⟨rfl, rfl⟩ (fun x h => c_59 h) (S_59 (d + 1) a0 (Int8.ofInt (-2)).toInt32 th) (fun q5 hq5 => ?_)
    exact x_retI (x := (q5.1, q5.2)) rfl
  · refine x_if_eq rfl rfl (fun h21 => ?_) (fun h21 => ?_)
    · exact x_lv (hj4 ()) ⟨rfl, trivial⟩
    · refine x_P 12 rfl rfl rfl ?_
      refine x_gN rfl (fun o6 ho6 => ?_)
      refine x_P 16 rfl rfl rfl ?_
      refine x_callV rfl rfl rfl rfl rfl ⟨rfl, rfl⟩ (fun x h => c_81 h) (S_81 (d + 2) o6 a2 th) (fun x7 hx7 => ?_)
      refine x_if_eq rfl rfl (fun h20 => ?_) (fun h20 => ?_)
      · exact x_lv (hj4 ()) ⟨rfl, trivial⟩
      · refine x_P 23 rfl rfl rfl ?_
        refine x_P 24 rfl rfl rfl ?_
        refine x_ic_ne rfl rfl (fun h19 => ?_) (fun h19 => ?_)
        · exact x_lv (hj4 ()) ⟨rfl, trivial⟩
        · refine x_P 35 rfl rfl rfl ?_
          refine x_gN rfl (fun o8 ho8 => ?_)
          refine x_P 39 rfl rfl rfl ?_
          refine x_P 40 rfl rfl rfl ?_
          refine x_callV rfl rfl rfl rfl rfl ⟨rfl, rfl⟩ (fun x h => c_85 h) (S_85 (d + 2) o8 a1 (Int32.ofInt 4) th) (fun x9 hx9 => ?_)
          refine x_jn 58 (fun v10 => [(0, .ref a0)]) (fun v10 => []) (fun v10 => th) (fun v10 => ?_) (fun j11 hj11 => ?_)
          · refine x_P 59 rfl rfl rfl ?_
            refine x_P 61 rfl rfl rfl ?_
            refine x_callV rfl rfl rfl rfl rfl ⟨rfl, rfl⟩ (fun x h => c_59 h) (S_59 (d + 1) a0 (Int8.ofInt (-5)).toInt32 th) (fun q12 hq12 => ?_)
            exact x_retI (x := (q12.1, q12.2)) rfl
          · refine x_if_ne rfl rfl (fun h18 => ?_) (fun h18 => ?_)
            · refine x_P 47 rfl rfl rfl ?_
              refine x_gN rfl (fun o13 ho13 => ?_)
              refine x_P 51 rfl rfl rfl ?_
              refine x_P 52 rfl rfl rfl ?_
              refine x_callV rfl rfl rfl rfl rfl ⟨rfl, rfl⟩ (fun x h => c_85 h) (S_85 (d + 2) o13 a2 (Int32.ofInt 4) th) (fun x14 hx14 => ?_)
              refine x_if_eq rfl rfl (fun h17 => ?_) (fun h17 => ?_)
              · refine x_P 66 rfl rfl rfl ?_
                refine x_gN rfl (fun o15 ho15 => ?_)
                refine x_P 70 rfl rfl rfl ?_
                refine x_P 71 rfl rfl rfl ?_
                refine x_callV rfl rfl rfl rfl rfl ⟨rfl, rfl⟩ (fun x h => c_92 h) (S_92 d o15 a1 a2 th) (fun x16 hx16 => ?_)
                exact x_retI (x := (x16, th)) rfl
              · exact x_lv (hj11 ()) ⟨rfl, trivial⟩
            · exact x_lv (hj11 ()) ⟨rfl, trivial⟩
-- 94 NineTrees$Garden.isInOneRow(I)Z
noncomputable def m_94 (a0 : Nat) (a1 : Int32) (th : tH) : Option (Int32) :=
  (gC th 2 a0).bind fun _ =>
  (m_65 a1 th).bind fun x1 =>
  (m_66 a1 th).bind fun x2 =>
  (m_81 a0 x1 th).bind fun x3 =>
  jn (fun (v4 : Int32) =>
      rB v4
    ) (fun j5 =>
      jn (fun (v6 : Unit) =>
          j5 (Int32.ofInt 0)
        ) (fun j7 =>
          if x3 = 0 then
            j7 ()
          else
            (m_81 a0 x2 th).bind fun x8 =>
            if x8 = 0 then
              j7 ()
            else
              (m_92 a0 x1 x2 th).bind fun x9 =>
              if (a1 &&& (x9 ^^^ (Int32.ofInt (-1)))) = 0 then
                j5 (Int32.ofInt 1)
              else
                j7 ()
        )
    )
theorem c_94 {a0 : Nat} {a1 : Int32} {th : tH} {x : (Int32)} (h : m_94 a0 a1 th = some x) : ∃ fs, th[a0]? = some (.inr (2, fs)) := gC_of h
theorem S_94 {L : Nat} (d : Nat) (a0 : Nat) (a1 : Int32) (th : tH) : Wx L (fun x => (some (.int x), th)) (d + 3) 94 4 0 [(0, .ref a0), (1, .int a1)] [] th (m_94 a0 a1 th) := by
  unfold m_94
  refine x_gC ?_
  refine x_P 1 rfl rfl rfl ?_
  refine x_callS rfl rfl rfl rfl rfl rfl ⟨rfl, rfl⟩ (S_65 (d + 1) a1 th) (fun x1 hx1 => ?_)
  refine x_P (lv' := [(2, .int x1), (0, .ref a0), (1, .int a1)]) 5 rfl rfl rfl ?_
  refine x_P 6 rfl rfl rfl ?_
  refine x_callS rfl rfl rfl rfl rfl rfl ⟨rfl, rfl⟩ (S_66 (d + 1) a1 th) (fun x2 hx2 => ?_)
  refine x_P (lv' := [(3, .int x2), (2, .int x1), (0, .ref a0), (1, .int a1)]) 10 rfl rfl rfl ?_
  refine x_P 11 rfl rfl rfl ?_
  refine x_P 12 rfl rfl rfl ?_
  refine x_callV rfl rfl rfl rfl rfl ⟨rfl, rfl⟩ (fun x h => c_81 h) (S_81 (d + 2) a0 x1 th) (fun x3 hx3 => ?_)
  refine x_jn 44 (fun v4 => []) (fun v4 => [.int v4]) (fun v4 => th) (fun v4 => ?_) (fun j5 hj5 => ?_)
  · exact x_rB rfl
  · refine x_jn 43 (fun v6 => []) (fun v6 => []) (fun v6 => th) (fun v6 => ?_) (fun j7 hj7 => ?_)
    · refine x_P 44 rfl rfl rfl ?_
      exact x_lv (hj5 (Int32.ofInt 0)) trivial
    · refine x_if_eq rfl rfl (fun h12 => ?_) (fun h12 => ?_)
      · exact x_lv (hj7 ()) trivial
      · refine x_P 19 rfl rfl rfl ?_
        refine x_P 20 rfl rfl rfl ?_
        refine x_callV rfl rfl rfl rfl rfl ⟨rfl, rfl⟩ (fun x h => c_81 h) (S_81 (d + 2) a0 x2 th) (fun x8 hx8 => ?_)
        refine x_if_eq rfl rfl (fun h11 => ?_) (fun h11 => ?_)
        · exact x_lv (hj7 ()) trivial
        · refine x_P 27 rfl rfl rfl ?_
          refine x_P 28 rfl rfl rfl ?_
          refine x_P 29 rfl rfl rfl ?_
          refine x_P 30 rfl rfl rfl ?_
          refine x_callV rfl rfl rfl rfl rfl ⟨rfl, rfl⟩ (fun x h => c_92 h) (S_92 d a0 x1 x2 th) (fun x9 hx9 => ?_)
          refine x_P 34 rfl rfl rfl ?_
          refine x_P 35 rfl rfl rfl ?_
          refine x_P 36 rfl rfl rfl ?_
          refine x_if_ne rfl rfl (fun h10 => ?_) (fun h10 => ?_)
          · refine x_P 40 rfl rfl rfl ?_
            refine x_P 44 rfl rfl rfl ?_
            exact x_lv (hj5 (Int32.ofInt 1)) trivial
          · exact x_lv (hj7 ()) trivial
-- 26 NineTrees.inLine(I)I
noncomputable def m_26 (a0 : Nat) (a1 : Int32) (th : tH) : Option (Int32 × tH) :=
  (gC th 7 a0).bind fun _ =>
  (gN th 7 a0 0).bind fun o1 =>
  (m_93 o1 a1 th).bind fun x2 =>
  if x2 = 0 then
    (m_59 a0 (Int8.ofInt (-2)).toInt32 th).bind fun q8 =>
    some (q8.1, q8.2)
  else
    (gN th 7 a0 0).bind fun o3 =>
    (m_94 o3 a1 th).bind fun x4 =>
    jn (fun (v5 : Int32) =>
        some (v5, th)
      ) (fun j6 =>
        if x4 = 0 then
          j6 (Int32.ofInt 0)
        else
          j6 (Int32.ofInt 1)
      )
theorem c_26 {a0 : Nat} {a1 : Int32} {th : tH} {x : (Int32 × tH)} (h : m_26 a0 a1 th = some x) : ∃ fs, th[a0]? = some (.inr (7, fs)) := gC_of h
theorem S_26 {L : Nat} (d : Nat) (a0 : Nat) (a1 : Int32) (th : tH) : Wx L (fun x => (some (.int x.1), x.2)) (d + 4) 26 2 0 [(0, .ref a0), (1, .int a1)] [] th (m_26 a0 a1 th) := by
  unfold m_26
  refine x_gC ?_
  refine x_P 1 rfl rfl rfl ?_
  refine x_gN rfl (fun o1 ho1 => ?_)
  refine x_P 5 rfl rfl rfl ?_
  refine x_callV rfl rfl rfl rfl rfl ⟨rfl, rfl⟩ (fun x h => c_93 h) (S_93 (d + 2) o1 a1 th) (fun x2 hx2 => ?_)
  refine x_if_ne rfl rfl (fun h9 => ?_) (fun h9 => ?_)
  · refine x_P 12 rfl rfl rfl ?_
    refine x_P 14 rfl rfl rfl ?_
    refine x_callV rfl rfl rfl rfl rfl ⟨rfl, rfl⟩ (fun x h => c_59 h) (S_59 (d + 2) a0 (Int8.ofInt (-2)).toInt32 th) (fun q8 hq8 => ?_)
    exact x_retI (x := (q8.1, q8.2)) rfl
  · refine x_P 19 rfl rfl rfl ?_
    refine x_gN rfl (fun o3 ho3 => ?_)
    refine x_P 23 rfl rfl rfl ?_
    refine x_callV rfl rfl rfl rfl rfl ⟨rfl, rfl⟩ (fun x h => c_94 h) (S_94 d o3 a1 th) (fun x4 hx4 => ?_)
    refine x_jn 34 (fun v5 => []) (fun v5 => [.int v5]) (fun v5 => th) (fun v5 => ?_) (fun j6 hj6 => ?_)
    · exact x_retI (x := (v5, th)) rfl
    · refine x_if_eq rfl rfl (fun h7 => ?_) (fun h7 => ?_)
      · refine x_P 34 rfl rfl rfl ?_
        exact x_lv (hj6 (Int32.ofInt 0)) trivial
      · refine x_P 30 rfl rfl rfl ?_
        refine x_P 34 rfl rfl rfl ?_
        exact x_lv (hj6 (Int32.ofInt 1)) trivial
-- 29 NineTrees.isInLineWithFirst(LNineTrees$Shelf;I)Z
noncomputable def m_29 (a0 : Nat) (a1 : Nat) (a2 : Int32) (th : tH) : Option (Int32) :=
  (gC th 7 a0).bind fun _ =>
  (gN th 5 a1 0).bind fun o1 =>
  (aJ th o1 (Int32.ofInt 0)).bind fun x2 =>
  (gN th 5 a1 0).bind fun o3 =>
  (aJ th o3 (Int32.ofInt 1)).bind fun x4 =>
  (gN th 7 a0 0).bind fun o5 =>
  (m_81 o5 (Int64.toInt32 x2) th).bind fun x6 =>
  jn (fun (v7 : Int32) =>
      rB v7
    ) (fun j8 =>
      jn (fun (v9 : Unit) =>
          j8 (Int32.ofInt 0)
        ) (fun j10 =>
          if x6 = 0 then
            j10 ()
          else
            (gN th 7 a0 0).bind fun o11 =>
            (m_81 o11 (Int64.toInt32 x4) th).bind fun x12 =>
            if x12 = 0 then
              j10 ()
            else
              (gN th 7 a0 0).bind fun o13 =>
              (gN th 7 a0 0).bind fun o14 =>
              (gN th 2 o14 1).bind fun o15 =>
              (aI th o15 (Int64.toInt32 x2)).bind fun x16 =>
              (gN th 7 a0 0).bind fun o17 =>
              (gN th 2 o17 1).bind fun o18 =>
              (aI th o18 (Int64.toInt32 x4)).bind fun x19 =>
              (gN th 7 a0 0).bind fun o20 =>
              (gN th 2 o20 1).bind fun o21 =>
              (aI th o21 a2).bind fun x22 =>
              (m_79 o13 x16 x19 x22 th).bind fun x23 =>
              if x23 = 0 then
                j8 (Int32.ofInt 1)
              else
                j10 ()
        )
    )
theorem c_29 {a0 : Nat} {a1 : Nat} {a2 : Int32} {th : tH} {x : (Int32)} (h : m_29 a0 a1 a2 th = some x) : ∃ fs, th[a0]? = some (.inr (7, fs)) := gC_of h
theorem S_29 {L : Nat} (d : Nat) (a0 : Nat) (a1 : Nat) (a2 : Int32) (th : tH) : Wx L (fun x => (some (.int x), th)) (d + 2) 29 5 0 [(0, .ref a0), (1, .ref a1), (2, .int a2)] [] th (m_29 a0 a1 a2 th) := by
  unfold m_29
  refine x_gC ?_
  refine x_P 1 rfl rfl rfl ?_
  refine x_gN rfl (fun o1 ho1 => ?_)
  refine x_P 5 rfl rfl rfl ?_
  refine x_aJ rfl ⟨rfl, rfl⟩ (fun x2 hx2 => ?_)
  refine x_P 7 rfl rfl rfl ?_
  refine x_P (lv' := [(3, .int (Int64.toInt32 x2)), (0, .ref a0), (1, .ref a1), (2, .int a2)]) 8 rfl rfl rfl ?_
  refine x_P 9 rfl rfl rfl ?_
  refine x_gN rfl (fun o3 ho3 => ?_)
  refine x_P 13 rfl rfl rfl ?_
  refine x_aJ rfl ⟨rfl, rfl⟩ (fun x4 hx4 => ?_)
  refine x_P 15 rfl rfl rfl ?_
  refine x_P (lv' := [(4, .int (Int64.toInt32 x4)), (3, .int (Int64.toInt32 x2)), (0, .ref a0), (1, .ref a1), (2, .int a2)]) 17 rfl rfl rfl ?_
  refine x_P 18 rfl rfl rfl ?_
  refine x_gN rfl (fun o5 ho5 => ?_)
  refine x_P 22 rfl rfl rfl ?_
  refine x_callV rfl rfl rfl rfl rfl ⟨rfl, rfl⟩ (fun x h => c_81 h) (S_81 (d + 1) o5 (Int64.toInt32 x2) th) (fun x6 hx6 => ?_)
  refine x_jn 83 (fun v7 => []) (fun v7 => [.int v7]) (fun v7 => th) (fun v7 => ?_) (fun j8 hj8 => ?_)
  · exact x_rB rfl
  · refine x_jn 82 (fun v9 => []) (fun v9 => []) (fun v9 => th) (fun v9 => ?_) (fun j10 hj10 => ?_)
    · refine x_P 83 rfl rfl rfl ?_
      exact x_lv (hj8 (Int32.ofInt 0)) trivial
    · refine x_if_eq rfl rfl (fun h26 => ?_) (fun h26 => ?_)
      · exact x_lv (hj10 ()) trivial
      · refine x_P 29 rfl rfl rfl ?_
        refine x_gN rfl (fun o11 ho11 => ?_)
        refine x_P 34 rfl rfl rfl ?_
        refine x_callV rfl rfl rfl rfl rfl ⟨rfl, rfl⟩ (fun x h => c_81 h) (S_81 (d + 1) o11 (Int64.toInt32 x4) th) (fun x12 hx12 => ?_)
        refine x_if_eq rfl rfl (fun h25 => ?_) (fun h25 => ?_)
        · exact x_lv (hj10 ()) trivial
        · refine x_P 41 rfl rfl rfl ?_
          refine x_gN rfl (fun o13 ho13 => ?_)
          refine x_P 45 rfl rfl rfl ?_
          refine x_gN rfl (fun o14 ho14 => ?_)
          refine x_gN rfl (fun o15 ho15 => ?_)
          refine x_P 52 rfl rfl rfl ?_
          refine x_aI rfl ⟨rfl, rfl⟩ (fun x16 hx16 => ?_)
          refine x_P 54 rfl rfl rfl ?_
          refine x_gN rfl (fun o17 ho17 => ?_)
          refine x_gN rfl (fun o18 ho18 => ?_)
          refine x_P 62 rfl rfl rfl ?_
          refine x_aI rfl ⟨rfl, rfl⟩ (fun x19 hx19 => ?_)
          refine x_P 64 rfl rfl rfl ?_
          refine x_gN rfl (fun o20 ho20 => ?_)
          refine x_gN rfl (fun o21 ho21 => ?_)
          refine x_P 71 rfl rfl rfl ?_
          refine x_aI rfl ⟨rfl, rfl⟩ (fun x22 hx22 => ?_)
          refine x_callV rfl rfl rfl rfl rfl ⟨rfl, rfl⟩ (fun x h => c_79 h) (S_79 d o13 x16 x19 x22 th) (fun x23 hx23 => ?_)
          refine x_if_ne rfl rfl (fun h24 => ?_) (fun h24 => ?_)
          · refine x_P 79 rfl rfl rfl ?_
            refine x_P 83 rfl rfl rfl ?_
            exact x_lv (hj8 (Int32.ofInt 1)) trivial
          · exact x_lv (hj10 ()) trivial
-- 28 NineTrees.firstMisfit(LNineTrees$Shelf;I)I
noncomputable def m_28 (a0 : Nat) (a1 : Nat) (a2 : Int32) (th : tH) : Option (Int32) :=
  (gC th 7 a0).bind fun _ =>
  lp (fun (s1 : Int32 × Int32) nx2 ex3 =>
      if a2 ≤ s1.2 then
        ex3 ()
      else
        (gN th 5 a1 0).bind fun o5 =>
        (aJ th o5 s1.2).bind fun x6 =>
        jn (fun (v7 : Unit) =>
            some s1.2
          ) (fun j8 =>
            if (lg_cmp x6 (Int64.ofNat 0)) < 0 then
              j8 ()
            else
              (gN th 7 a0 0).bind fun o9 =>
              (gI th 2 o9 5).bind fun x10 =>
              if (lg_cmp x6 (Int32.toInt64 x10)) < 0 then
                jn (fun (v11 : Int32) =>
                    jn (fun (v13 : Unit) =>
                        some s1.2
                      ) (fun j14 =>
                        if v11 = 0 then
                          (gN th 7 a0 0).bind fun o15 =>
                          (m_85 o15 (Int64.toInt32 x6) (Int32.ofInt 4) th).bind fun x16 =>
                          if x16 = 0 then
                            jn (fun (v17 : Unit) =>
                                nx2 ((s1.1 ||| ((Int32.ofInt 1) <<< ((Int64.toInt32 x6) &&& 31))), (s1.2 + Int32.ofInt 1))
                              ) (fun j18 =>
                                if s1.2 < (Int32.ofInt 2) then
                                  j18 ()
                                else
                                  (m_29 a0 a1 (Int64.toInt32 x6) th).bind fun x19 =>
                                  if x19 = 0 then
                                    j14 ()
                                  else
                                    j18 ()
                              )
                          else
                            j14 ()
                        else
                          j14 ()
                      )
                  ) (fun j12 =>
                    if (s1.1 &&& ((Int32.ofInt 1) <<< ((Int64.toInt32 x6) &&& 31))) = 0 then
                      j12 (Int32.ofInt 0)
                    else
                      j12 (Int32.ofInt 1)
                  )
              else
                j8 ()
          )
    ) 4096 ((Int32.ofInt 0), (Int32.ofInt 0)) (fun (x4 : Unit) =>
      some (Int32.ofInt (-1))
    )
theorem c_28 {a0 : Nat} {a1 : Nat} {a2 : Int32} {th : tH} {x : (Int32)} (h : m_28 a0 a1 a2 th = some x) : ∃ fs, th[a0]? = some (.inr (7, fs)) := gC_of h
theorem S_28 {L : Nat} (d : Nat) (a0 : Nat) (a1 : Nat) (a2 : Int32) (th : tH) : Wx L (fun x => (some (.int x), th)) (d + 3) 28 9 0 [(0, .ref a0), (1, .ref a1), (2, .int a2)] [] th (m_28 a0 a1 a2 th) := by
  unfold m_28
  refine x_gC ?_
  refine x_P 1 rfl rfl rfl ?_
  refine x_P (lv' := [(3, .int (Int32.ofInt 0)), (0, .ref a0), (1, .ref a1), (2, .int a2)]) 2 rfl rfl rfl ?_
  refine x_P 3 rfl rfl rfl ?_
  refine x_P (lv' := [(4, .int (Int32.ofInt 0)), (3, .int (Int32.ofInt 0)), (0, .ref a0), (1, .ref a1), (2, .int a2)]) 5 rfl rfl rfl ?_
  refine x_lv (lv := [(0, .ref a0), (1, .ref a1), (2, .int a2), (3, .int (Int32.ofInt 0)), (4, .int (Int32.ofInt 0))]) (x_lp 115 (fun s1 => [(0, .ref a0), (1, .ref a1), (2, .int a2), (3, .int s1.1), (4, .int s1.2)]) (fun s1 => th) (fun x4 => []) (fun x4 => th) (fun s1 nx2 hnx2 ex3 hex3 => ?_) (fun x4 => ?_) 4096 ((Int32.ofInt 0), (Int32.ofInt 0))) ⟨rfl, rfl, rfl, rfl, rfl, trivial⟩
  · refine x_P 7 rfl rfl rfl ?_
    refine x_P 8 rfl rfl rfl ?_
    refine x_ic_ge rfl rfl (fun h27 => ?_) (fun h27 => ?_)
    · exact x_lv (hex3 ()) trivial
    · refine x_P 12 rfl rfl rfl ?_
      refine x_gN rfl (fun o5 ho5 => ?_)
      refine x_P 17 rfl rfl rfl ?_
      refine x_aJ rfl ⟨rfl, rfl⟩ (fun x6 hx6 => ?_)
      refine x_P (lv' := [(5, .long x6), (0, .ref a0), (1, .ref a1), (2, .int a2), (3, .int s1.1), (4, .int s1.2)]) 20 rfl rfl rfl ?_
      refine x_P 22 rfl rfl rfl ?_
      refine x_P 23 rfl rfl rfl ?_
      refine x_P 24 rfl rfl rfl ?_
      refine x_jn 41 (fun v7 => [(4, .int s1.2)]) (fun v7 => []) (fun v7 => th) (fun v7 => ?_) (fun j8 hj8 => ?_)
      · refine x_P 43 rfl rfl rfl ?_
        exact x_retI (x := s1.2) rfl
      · refine x_if_lt rfl rfl (fun h26 => ?_) (fun h26 => ?_)
        · exact x_lv (hj8 ()) ⟨rfl, trivial⟩
        · refine x_P 29 rfl rfl rfl ?_
          refine x_P 30 rfl rfl rfl ?_
          refine x_gN rfl (fun o9 ho9 => ?_)
          refine x_gI rfl (fun x10 hx10 => ?_)
          refine x_P 37 rfl rfl rfl ?_
          refine x_P 38 rfl rfl rfl ?_
          refine x_if_lt rfl rfl (fun h25 => ?_) (fun h25 => ?_)
          · refine x_P 46 rfl rfl rfl ?_
            refine x_P 47 rfl rfl rfl ?_
            refine x_P (lv' := [(7, .int (Int64.toInt32 x6)), (5, .long x6), (0, .ref a0), (1, .ref a1), (2, .int a2), (3, .int s1.1), (4, .int s1.2)]) 49 rfl rfl rfl ?_
            refine x_P 50 rfl rfl rfl ?_
            refine x_P 51 rfl rfl rfl ?_
            refine x_P 53 rfl rfl rfl ?_
            refine x_P 54 rfl rfl rfl ?_
            refine x_P 55 rfl rfl rfl ?_
            refine x_jn 63 (fun v11 => [(0, .ref a0), (1, .ref a1), (2, .int a2), (3, .int s1.1), (4, .int s1.2), (7, .int (Int64.toInt32 x6))]) (fun v11 => [.int v11]) (fun v11 => th) (fun v11 => ?_) (fun j12 hj12 => ?_)
            · refine x_P (lv' := [(8, .int v11), (0, .ref a0), (1, .ref a1), (2, .int a2), (3, .int s1.1), (4, .int s1.2), (7, .int (Int64.toInt32 x6))]) 65 rfl rfl rfl ?_
              refine x_P 67 rfl rfl rfl ?_
              refine x_jn 99 (fun v13 => [(4, .int s1.2)]) (fun v13 => []) (fun v13 => th) (fun v13 => ?_) (fun j14 hj14 => ?_)
              · refine x_P 101 rfl rfl rfl ?_
                exact x_retI (x := s1.2) rfl
              · refine x_if_ne rfl rfl (fun h23 => ?_) (fun h23 => ?_)
                · refine x_P 71 rfl rfl rfl ?_
                  refine x_gN rfl (fun o15 ho15 => ?_)
                  refine x_P 76 rfl rfl rfl ?_
                  refine x_P 77 rfl rfl rfl ?_
                  refine x_callV rfl rfl rfl rfl rfl ⟨rfl, rfl⟩ (fun x h => c_85 h) (S_85 (d + 2) o15 (Int64.toInt32 x6) (Int32.ofInt 4) th) (fun x16 hx16 => ?_)
                  refine x_if_ne rfl rfl (fun h22 => ?_) (fun h22 => ?_)
                  · refine x_P 85 rfl rfl rfl ?_
                    refine x_P 86 rfl rfl rfl ?_
                    refine x_jn 102 (fun v17 => [(0, .ref a0), (1, .ref a1), (2, .int a2), (3, .int s1.1), (4, .int s1.2), (7, .int (Int64.toInt32 x6))]) (fun v17 => []) (fun v17 => th) (fun v17 => ?_) (fun j18 hj18 => ?_)
                    · refine x_P 103 rfl rfl rfl ?_
                      refine x_P 104 rfl rfl rfl ?_
                      refine x_P 106 rfl rfl rfl ?_
                      refine x_P 107 rfl rfl rfl ?_
                      refine x_P 108 rfl rfl rfl ?_
                      refine x_P (lv' := [(3, .int (s1.1 ||| ((Int32.ofInt 1) <<< ((Int64.toInt32 x6) &&& 31)))), (0, .ref a0), (1, .ref a1), (2, .int a2), (4, .int s1.2), (7, .int (Int64.toInt32 x6))]) 109 rfl rfl rfl ?_
                      refine x_P (lv' := [(4, .int (s1.2 + Int32.ofInt 1)), (3, .int (s1.1 ||| ((Int32.ofInt 1) <<< ((Int64.toInt32 x6) &&& 31)))), (0, .ref a0), (1, .ref a1), (2, .int a2), (7, .int (Int64.toInt32 x6))]) 112 rfl rfl rfl ?_
                      refine x_P 5 rfl rfl rfl ?_
                      exact x_lv (hnx2 ((s1.1 ||| ((Int32.ofInt 1) <<< ((Int64.toInt32 x6) &&& 31))), (s1.2 + Int32.ofInt 1))) ⟨rfl, rfl, rfl, rfl, rfl, trivial⟩
                    · refine x_ic_lt rfl rfl (fun h21 => ?_) (fun h21 => ?_)
                      · exact x_lv (hj18 ()) ⟨rfl, rfl, rfl, rfl, rfl, rfl, trivial⟩
                      · refine x_P 90 rfl rfl rfl ?_
                        refine x_P 91 rfl rfl rfl ?_
                        refine x_P 93 rfl rfl rfl ?_
                        refine x_callV rfl rfl rfl rfl rfl ⟨rfl, rfl⟩ (fun x h => c_29 h) (S_29 d a0 a1 (Int64.toInt32 x6) th) (fun x19 hx19 => ?_)
                        refine x_if_ne rfl rfl (fun h20 => ?_) (fun h20 => ?_)
                        · exact x_lv (hj14 ()) ⟨rfl, trivial⟩
                        · exact x_lv (hj18 ()) ⟨rfl, rfl, rfl, rfl, rfl, rfl, trivial⟩
                  · exact x_lv (hj14 ()) ⟨rfl, trivial⟩
                · exact x_lv (hj14 ()) ⟨rfl, trivial⟩
            · refine x_if_eq rfl rfl (fun h24 => ?_) (fun h24 => ?_)
              · refine x_P 63 rfl rfl rfl ?_
                exact x_lv (hj12 (Int32.ofInt 0)) ⟨rfl, rfl, rfl, rfl, rfl, rfl, trivial⟩
              · refine x_P 59 rfl rfl rfl ?_
                refine x_P 63 rfl rfl rfl ?_
                exact x_lv (hj12 (Int32.ofInt 1)) ⟨rfl, rfl, rfl, rfl, rfl, rfl, trivial⟩
          · exact x_lv (hj8 ()) ⟨rfl, trivial⟩
  · refine x_P 116 rfl rfl rfl ?_
    exact x_retI (x := (Int32.ofInt (-1))) rfl
-- 27 NineTrees.judge(II)I
noncomputable def m_27 (a0 : Nat) (a1 : Int32) (a2 : Int32) (th : tH) : Option (Int32 × tH) :=
  (gC th 7 a0).bind fun _ =>
  (m_60 a0 a1 th).bind fun r1 =>
  jn (fun (v2 : Unit) =>
      (m_59 a0 (Int8.ofInt (-2)).toInt32 th).bind fun q4 =>
      some (q4.1, q4.2)
    ) (fun j3 =>
      match r1 with
      | none =>
        j3 ()
      | some o5 =>
        if a2 < 0 then
          j3 ()
        else
          if a2 ≤ (Int8.ofInt 12).toInt32 then
            (m_150 o5 th).bind fun x6 =>
            if x6 = 0 then
              (m_152 o5 th).bind fun x11 =>
              (m_59 a0 x11 th).bind fun q12 =>
              some (q12.1, q12.2)
            else
              (gI th 5 o5 2).bind fun x7 =>
              if a2 ≤ x7 then
                (m_28 a0 o5 a2 th).bind fun x8 =>
                some (x8, th)
              else
                (m_59 a0 (Int8.ofInt (-2)).toInt32 th).bind fun q9 =>
                some (q9.1, q9.2)
          else
            j3 ()
    )
theorem c_27 {a0 : Nat} {a1 : Int32} {a2 : Int32} {th : tH} {x : (Int32 × tH)} (h : m_27 a0 a1 a2 th = some x) : ∃ fs, th[a0]? = some (.inr (7, fs)) := gC_of h
theorem S_27 {L : Nat} (d : Nat) (a0 : Nat) (a1 : Int32) (a2 : Int32) (th : tH) : Wx L (fun x => (some (.int x.1), x.2)) (d + 4) 27 4 0 [(0, .ref a0), (1, .int a1), (2, .int a2)] [] th (m_27 a0 a1 a2 th) := by
  unfold m_27
  refine x_gC ?_
  refine x_P 1 rfl rfl rfl ?_
  refine x_P 2 rfl rfl rfl ?_
  refine x_callV rfl rfl rfl rfl rfl ⟨rfl, rfl⟩ (fun x h => c_60 h) (S_60 (d + 3) a0 a1 th) (fun r1 hr1 => ?_)
  refine x_P (lv' := [(3, va_rf r1), (0, .ref a0), (1, .int a1), (2, .int a2)]) (st' := []) 6 rfl rfl (by rcases r1 with _ | _ <;> rfl) ?_
  refine x_P 7 rfl rfl (t_P_ald_n rfl) ?_
  refine x_jn 20 (fun v2 => [(0, .ref a0)]) (fun v2 => []) (fun v2 => th) (fun v2 => ?_) (fun j3 hj3 => ?_)
  · refine x_P 21 rfl rfl rfl ?_
    refine x_P 23 rfl rfl rfl ?_
    refine x_callV rfl rfl rfl rfl rfl ⟨rfl, rfl⟩ (fun x h => c_59 h) (S_59 (d + 2) a0 (Int8.ofInt (-2)).toInt32 th) (fun q4 hq4 => ?_)
    exact x_retI (x := (q4.1, q4.2)) rfl
  · rcases r1 with _ | o5
    · refine x_P 20 rfl rfl rfl ?_
      exact x_lv (hj3 ()) ⟨rfl, trivial⟩
    · refine x_P 10 rfl rfl rfl ?_
      refine x_P 11 rfl rfl rfl ?_
      refine x_if_lt rfl rfl (fun h15 => ?_) (fun h15 => ?_)
      · exact x_lv (hj3 ()) ⟨rfl, trivial⟩
      · refine x_P 15 rfl rfl rfl ?_
        refine x_P 17 rfl rfl rfl ?_
        refine x_ic_le rfl rfl (fun h14 => ?_) (fun h14 => ?_)
        · refine x_P 28 rfl rfl rfl ?_
          refine x_callV rfl rfl rfl rfl rfl ⟨rfl, rfl⟩ (fun x h => c_150 h) (S_150 (d + 3) o5 th) (fun x6 hx6 => ?_)
          refine x_if_ne rfl rfl (fun h13 => ?_) (fun h13 => ?_)
          · refine x_P 35 rfl rfl rfl ?_
            refine x_P 36 rfl rfl rfl ?_
            refine x_callV rfl rfl rfl rfl rfl ⟨rfl, rfl⟩ (fun x h => c_152 h) (S_152 (d + 2) o5 th) (fun x11 hx11 => ?_)
            refine x_callV rfl rfl rfl rfl rfl ⟨rfl, rfl⟩ (fun x h => c_59 h) (S_59 (d + 2) a0 x11 th) (fun q12 hq12 => ?_)
            exact x_retI (x := (q12.1, q12.2)) rfl
          · refine x_P 44 rfl rfl rfl ?_
            refine x_gI rfl (fun x7 hx7 => ?_)
            refine x_P 48 rfl rfl rfl ?_
            refine x_ic_ge rfl rfl (fun h10 => ?_) (fun h10 => ?_)
            · refine x_P 59 rfl rfl rfl ?_
              refine x_P 60 rfl rfl rfl ?_
              refine x_P 61 rfl rfl rfl ?_
              refine x_callV rfl rfl rfl rfl rfl ⟨rfl, rfl⟩ (fun x h => c_28 h) (S_28 d a0 o5 a2 th) (fun x8 hx8 => ?_)
              exact x_retI (x := (x8, th)) rfl
            · refine x_P 52 rfl rfl rfl ?_
              refine x_P 54 rfl rfl rfl ?_
              refine x_callV rfl rfl rfl rfl rfl ⟨rfl, rfl⟩ (fun x h => c_59 h) (S_59 (d + 2) a0 (Int8.ofInt (-2)).toInt32 th) (fun q9 hq9 => ?_)
              exact x_retI (x := (q9.1, q9.2)) rfl
        · exact x_lv (hj3 ()) ⟨rfl, trivial⟩
-- 78 NineTrees$Garden.squaredLength(II)I
noncomputable def m_78 (a0 : Nat) (a1 : Int32) (a2 : Int32) (th : tH) : Option (Int32) :=
  (gC th 2 a0).bind fun _ =>
  (m_72 a0 a1 th).bind fun x1 =>
  (m_72 a0 a2 th).bind fun x2 =>
  (m_73 a0 a1 th).bind fun x3 =>
  (m_73 a0 a2 th).bind fun x4 =>
  some (((x1 - x2) * (x1 - x2)) + ((x3 - x4) * (x3 - x4)))
theorem c_78 {a0 : Nat} {a1 : Int32} {a2 : Int32} {th : tH} {x : (Int32)} (h : m_78 a0 a1 a2 th = some x) : ∃ fs, th[a0]? = some (.inr (2, fs)) := gC_of h
theorem S_78 {L : Nat} (d : Nat) (a0 : Nat) (a1 : Int32) (a2 : Int32) (th : tH) : Wx L (fun x => (some (.int x), th)) (d + 1) 78 5 0 [(0, .ref a0), (1, .int a1), (2, .int a2)] [] th (m_78 a0 a1 a2 th) := by
  unfold m_78
  refine x_gC ?_
  refine x_P 1 rfl rfl rfl ?_
  refine x_P 2 rfl rfl rfl ?_
  refine x_callV rfl rfl rfl rfl rfl ⟨rfl, rfl⟩ (fun x h => c_72 h) (S_72 d a0 a1 th) (fun x1 hx1 => ?_)
  refine x_P 6 rfl rfl rfl ?_
  refine x_P 7 rfl rfl rfl ?_
  refine x_callV rfl rfl rfl rfl rfl ⟨rfl, rfl⟩ (fun x h => c_72 h) (S_72 d a0 a2 th) (fun x2 hx2 => ?_)
  refine x_P 11 rfl rfl rfl ?_
  refine x_P (lv' := [(3, .int (x1 - x2)), (0, .ref a0), (1, .int a1), (2, .int a2)]) 12 rfl rfl rfl ?_
  refine x_P 13 rfl rfl rfl ?_
  refine x_P 14 rfl rfl rfl ?_
  refine x_callV rfl rfl rfl rfl rfl ⟨rfl, rfl⟩ (fun x h => c_73 h) (S_73 d a0 a1 th) (fun x3 hx3 => ?_)
  refine x_P 18 rfl rfl rfl ?_
  refine x_P 19 rfl rfl rfl ?_
  refine x_callV rfl rfl rfl rfl rfl ⟨rfl, rfl⟩ (fun x h => c_73 h) (S_73 d a0 a2 th) (fun x4 hx4 => ?_)
  refine x_P 23 rfl rfl rfl ?_
  refine x_P (lv' := [(4, .int (x3 - x4)), (3, .int (x1 - x2)), (0, .ref a0), (1, .int a1), (2, .int a2)]) 25 rfl rfl rfl ?_
  refine x_P 26 rfl rfl rfl ?_
  refine x_P 27 rfl rfl rfl ?_
  refine x_P 28 rfl rfl rfl ?_
  refine x_P 30 rfl rfl rfl ?_
  refine x_P 32 rfl rfl rfl ?_
  refine x_P 33 rfl rfl rfl ?_
  refine x_P 34 rfl rfl rfl ?_
  exact x_retI (x := (((x1 - x2) * (x1 - x2)) + ((x3 - x4) * (x3 - x4)))) rfl
-- 127 NineTrees$Gap.offer(LNineTrees$Garden;II)V
noncomputable def m_127 (a0 : Nat) (a1 : Nat) (a2 : Int32) (a3 : Int32) (th : tH) : Option tH :=
  (gC th 1 a0).bind fun _ =>
  (m_65 a2 th).bind fun x1 =>
  (m_66 a2 th).bind fun x2 =>
  (m_81 a1 x1 th).bind fun x3 =>
  jn (fun (v4 : Unit) =>
      some th
    ) (fun j5 =>
      if x3 = 0 then
        j5 ()
      else
        (m_81 a1 x2 th).bind fun x6 =>
        if x6 = 0 then
          j5 ()
        else
          (gN th 2 a1 1).bind fun o7 =>
          (aI th o7 x1).bind fun x8 =>
          (gN th 2 a1 1).bind fun o9 =>
          (aI th o9 x2).bind fun x10 =>
          (gN th 2 a1 1).bind fun o11 =>
          (aI th o11 a3).bind fun x12 =>
          (m_79 a1 x8 x10 x12 th).bind fun x13 =>
          (gN th 2 a1 1).bind fun o14 =>
          (aI th o14 x1).bind fun x15 =>
          (gN th 2 a1 1).bind fun o16 =>
          (aI th o16 x2).bind fun x17 =>
          (m_78 a1 x15 x17 th).bind fun x18 =>
          (gI th 1 a0 1).bind fun x19 =>
          jn (fun (v20 : tH) =>
              some v20
            ) (fun j21 =>
              jn (fun (v22 : Unit) =>
                  (pI th 1 a0 0 a2).bind fun th24 =>
                  (pI th24 1 a0 1 a3).bind fun th25 =>
                  (pI th25 1 a0 2 (x13 * x13)).bind fun th26 =>
                  (pI th26 1 a0 3 x18).bind fun th27 =>
                  j21 th27
                ) (fun j23 =>
                  if x19 = (Int32.ofInt (-1)) then
                    j23 ()
                  else
                    (gI th 1 a0 3).bind fun x28 =>
                    (gI th 1 a0 2).bind fun x29 =>
                    if (x29 * x18) ≤ ((x13 * x13) * x28) then
                      j21 th
                    else
                      j23 ()
                )
            )
    )
theorem c_127 {a0 : Nat} {a1 : Nat} {a2 : Int32} {a3 : Int32} {th : tH} {x : tH} (h : m_127 a0 a1 a2 a3 th = some x) : ∃ fs, th[a0]? = some (.inr (1, fs)) := gC_of h
theorem S_127 {L : Nat} (d : Nat) (a0 : Nat) (a1 : Nat) (a2 : Int32) (a3 : Int32) (th : tH) : Wx L (fun x => (none, x)) (d + 2) 127 8 0 [(0, .ref a0), (1, .ref a1), (2, .int a2), (3, .int a3)] [] th (m_127 a0 a1 a2 a3 th) := by
  unfold m_127
  refine x_gC ?_
  refine x_P 1 rfl rfl rfl ?_
  refine x_callS rfl rfl rfl rfl rfl rfl ⟨rfl, rfl⟩ (S_65 d a2 th) (fun x1 hx1 => ?_)
  refine x_P (lv' := [(4, .int x1), (0, .ref a0), (1, .ref a1), (2, .int a2), (3, .int a3)]) 6 rfl rfl rfl ?_
  refine x_P 7 rfl rfl rfl ?_
  refine x_callS rfl rfl rfl rfl rfl rfl ⟨rfl, rfl⟩ (S_66 d a2 th) (fun x2 hx2 => ?_)
  refine x_P (lv' := [(5, .int x2), (4, .int x1), (0, .ref a0), (1, .ref a1), (2, .int a2), (3, .int a3)]) 12 rfl rfl rfl ?_
  refine x_P 13 rfl rfl rfl ?_
  refine x_P 15 rfl rfl rfl ?_
  refine x_callV rfl rfl rfl rfl rfl ⟨rfl, rfl⟩ (fun x h => c_81 h) (S_81 (d + 1) a1 x1 th) (fun x3 hx3 => ?_)
  refine x_jn 30 (fun v4 => []) (fun v4 => []) (fun v4 => th) (fun v4 => ?_) (fun j5 hj5 => ?_)
  · exact x_retV (x := th) rfl
  · refine x_if_eq rfl rfl (fun h33 => ?_) (fun h33 => ?_)
    · exact x_lv (hj5 ()) trivial
    · refine x_P 22 rfl rfl rfl ?_
      refine x_P 24 rfl rfl rfl ?_
      refine x_callV rfl rfl rfl rfl rfl ⟨rfl, rfl⟩ (fun x h => c_81 h) (S_81 (d + 1) a1 x2 th) (fun x6 hx6 => ?_)
      refine x_if_ne rfl rfl (fun h32 => ?_) (fun h32 => ?_)
      · exact x_lv (hj5 ()) trivial
      · refine x_P 32 rfl rfl rfl ?_
        refine x_P 33 rfl rfl rfl ?_
        refine x_gN rfl (fun o7 ho7 => ?_)
        refine x_P 38 rfl rfl rfl ?_
        refine x_aI rfl ⟨rfl, rfl⟩ (fun x8 hx8 => ?_)
        refine x_P 40 rfl rfl rfl ?_
        refine x_gN rfl (fun o9 ho9 => ?_)
        refine x_P 45 rfl rfl rfl ?_
        refine x_aI rfl ⟨rfl, rfl⟩ (fun x10 hx10 => ?_)
        refine x_P 47 rfl rfl rfl ?_
        refine x_gN rfl (fun o11 ho11 => ?_)
        refine x_P 51 rfl rfl rfl ?_
        refine x_aI rfl ⟨rfl, rfl⟩ (fun x12 hx12 => ?_)
        refine x_callV rfl rfl rfl rfl rfl ⟨rfl, rfl⟩ (fun x h => c_79 h) (S_79 d a1 x8 x10 x12 th) (fun x13 hx13 => ?_)
        refine x_P (lv' := [(6, .int x13), (5, .int x2), (4, .int x1), (0, .ref a0), (1, .ref a1), (2, .int a2), (3, .int a3)]) 57 rfl rfl rfl ?_
        refine x_P 58 rfl rfl rfl ?_
        refine x_P 59 rfl rfl rfl ?_
        refine x_gN rfl (fun o14 ho14 => ?_)
        refine x_P 64 rfl rfl rfl ?_
        refine x_aI rfl ⟨rfl, rfl⟩ (fun x15 hx15 => ?_)
        refine x_P 66 rfl rfl rfl ?_
        refine x_gN rfl (fun o16 ho16 => ?_)
        refine x_P 71 rfl rfl rfl ?_
        refine x_aI rfl ⟨rfl, rfl⟩ (fun x17 hx17 => ?_)
        refine x_callV rfl rfl rfl rfl rfl ⟨rfl, rfl⟩ (fun x h => c_78 h) (S_78 d a1 x15 x17 th) (fun x18 hx18 => ?_)
        refine x_P (lv' := [(7, .int x18), (6, .int x13), (5, .int x2), (4, .int x1), (0, .ref a0), (1, .ref a1), (2, .int a2), (3, .int a3)]) 77 rfl rfl rfl ?_
        refine x_P 78 rfl rfl rfl ?_
        refine x_gI rfl (fun x19 hx19 => ?_)
        refine x_P 82 rfl rfl rfl ?_
        refine x_jn 130 (fun v20 => []) (fun v20 => []) (fun v20 => v20) (fun v20 => ?_) (fun j21 hj21 => ?_)
        · exact x_retV (x := v20) rfl
        · refine x_jn 105 (fun v22 => [(0, .ref a0), (2, .int a2), (3, .int a3), (6, .int x13), (7, .int x18)]) (fun v22 => []) (fun v22 => th) (fun v22 => ?_) (fun j23 hj23 => ?_)
          · refine x_P 106 rfl rfl rfl ?_
            refine x_P 107 rfl rfl rfl ?_
            refine x_pI rfl (fun th24 hth24 => ?_)
            refine x_P 111 rfl rfl rfl ?_
            refine x_P 112 rfl rfl rfl ?_
            refine x_pI rfl (fun th25 hth25 => ?_)
            refine x_P 116 rfl rfl rfl ?_
            refine x_P 118 rfl rfl rfl ?_
            refine x_P 120 rfl rfl rfl ?_
            refine x_P 121 rfl rfl rfl ?_
            refine x_pI rfl (fun th26 hth26 => ?_)
            refine x_P 125 rfl rfl rfl ?_
            refine x_P 127 rfl rfl rfl ?_
            refine x_pI rfl (fun th27 hth27 => ?_)
            exact x_lv (hj21 th27) trivial
          · refine x_ic_eq rfl rfl (fun h31 => ?_) (fun h31 => ?_)
            · exact x_lv (hj23 ()) ⟨rfl, rfl, rfl, rfl, rfl, trivial⟩
            · refine x_P 87 rfl rfl rfl ?_
              refine x_P 89 rfl rfl rfl ?_
              refine x_P 90 rfl rfl rfl ?_
              refine x_P 91 rfl rfl rfl ?_
              refine x_gI rfl (fun x28 hx28 => ?_)
              refine x_P 95 rfl rfl rfl ?_
              refine x_P 96 rfl rfl rfl ?_
              refine x_gI rfl (fun x29 hx29 => ?_)
              refine x_P 101 rfl rfl rfl ?_
              refine x_P 102 rfl rfl rfl ?_
              refine x_ic_ge rfl rfl (fun h30 => ?_) (fun h30 => ?_)
              · exact x_lv (hj21 th) trivial
              · exact x_lv (hj23 ()) ⟨rfl, rfl, rfl, rfl, rfl, trivial⟩
-- 126 NineTrees$Gap.find(LNineTrees$Garden;LNineTrees$RowList;)V
noncomputable def m_126 (a0 : Nat) (a1 : Nat) (a2 : Nat) (th : tH) : Option tH :=
  (gC th 1 a0).bind fun _ =>
  (pI th 1 a0 1 (Int32.ofInt (-1))).bind fun th1 =>
  lp (fun (s2 : Int32 × tH) nx3 ex4 =>
      (gI s2.2 4 a2 1).bind fun x6 =>
      if x6 ≤ s2.1 then
        ex4 s2.2
      else
        lp (fun (s7 : Int32 × tH) nx8 ex9 =>
            (gI s7.2 2 a1 5).bind fun x11 =>
            if x11 ≤ s7.1 then
              ex9 s7.2
            else
              (gN s7.2 4 a2 0).bind fun o12 =>
              (aI s7.2 o12 s2.1).bind fun x13 =>
              jn (fun (v14 : tH) =>
                  nx8 ((s7.1 + Int32.ofInt 1), v14)
                ) (fun j15 =>
                  if (x13 &&& ((Int32.ofInt 1) <<< (s7.1 &&& 31))) = 0 then
                    (m_85 a1 s7.1 (Int32.ofInt 4) s7.2).bind fun x16 =>
                    if x16 = 0 then
                      (gN s7.2 4 a2 0).bind fun o17 =>
                      (aI s7.2 o17 s2.1).bind fun x18 =>
                      (m_127 a0 a1 x18 s7.1 s7.2).bind fun th19 =>
                      j15 th19
                    else
                      j15 s7.2
                  else
                    j15 s7.2
                )
          ) 4096 ((Int32.ofInt 0), s2.2) (fun (x10 : tH) =>
            nx3 ((s2.1 + Int32.ofInt 1), x10)
          )
    ) 4096 ((Int32.ofInt 0), th1) (fun (x5 : tH) =>
      some x5
    )
theorem c_126 {a0 : Nat} {a1 : Nat} {a2 : Nat} {th : tH} {x : tH} (h : m_126 a0 a1 a2 th = some x) : ∃ fs, th[a0]? = some (.inr (1, fs)) := gC_of h
theorem S_126 {L : Nat} (d : Nat) (a0 : Nat) (a1 : Nat) (a2 : Nat) (th : tH) : Wx L (fun x => (none, x)) (d + 3) 126 5 0 [(0, .ref a0), (1, .ref a1), (2, .ref a2)] [] th (m_126 a0 a1 a2 th) := by
  unfold m_126
  refine x_gC ?_
  refine x_P 1 rfl rfl rfl ?_
  refine x_P 2 rfl rfl rfl ?_
  refine x_pI rfl (fun th1 hth1 => ?_)
  refine x_P 6 rfl rfl rfl ?_
  refine x_P (lv' := [(3, .int (Int32.ofInt 0)), (0, .ref a0), (1, .ref a1), (2, .ref a2)]) 7 rfl rfl rfl ?_
  refine x_lv (lv := [(0, .ref a0), (1, .ref a1), (2, .ref a2), (3, .int (Int32.ofInt 0))]) (x_lp 76 (fun s2 => [(0, .ref a0), (1, .ref a1), (2, .ref a2), (3, .int s2.1)]) (fun s2 => s2.2) (fun x5 => []) (fun x5 => x5) (fun s2 nx3 hnx3 ex4 hex4 => ?_) (fun x5 => ?_) 4096 ((Int32.ofInt 0), th1)) ⟨rfl, rfl, rfl, rfl, trivial⟩
  · refine x_P 8 rfl rfl rfl ?_
    refine x_P 9 rfl rfl rfl ?_
    refine x_gI rfl (fun x6 hx6 => ?_)
    refine x_ic_ge rfl rfl (fun h23 => ?_) (fun h23 => ?_)
    · exact x_lv (hex4 s2.2) trivial
    · refine x_P 16 rfl rfl rfl ?_
      refine x_P (lv' := [(4, .int (Int32.ofInt 0)), (0, .ref a0), (1, .ref a1), (2, .ref a2), (3, .int s2.1)]) 18 rfl rfl rfl ?_
      refine x_lv (lv := [(0, .ref a0), (1, .ref a1), (2, .ref a2), (3, .int s2.1), (4, .int (Int32.ofInt 0))]) (x_lp 70 (fun s7 => [(0, .ref a0), (1, .ref a1), (2, .ref a2), (3, .int s2.1), (4, .int s7.1)]) (fun s7 => s7.2) (fun x10 => [(0, .ref a0), (1, .ref a1), (2, .ref a2), (3, .int s2.1)]) (fun x10 => x10) (fun s7 nx8 hnx8 ex9 hex9 => ?_) (fun x10 => ?_) 4096 ((Int32.ofInt 0), s2.2)) ⟨rfl, rfl, rfl, rfl, rfl, trivial⟩
      · refine x_P 20 rfl rfl rfl ?_
        refine x_P 21 rfl rfl rfl ?_
        refine x_gI rfl (fun x11 hx11 => ?_)
        refine x_ic_ge rfl rfl (fun h22 => ?_) (fun h22 => ?_)
        · exact x_lv (hex9 s7.2) ⟨rfl, rfl, rfl, rfl, trivial⟩
        · refine x_P 28 rfl rfl rfl ?_
          refine x_gN rfl (fun o12 ho12 => ?_)
          refine x_P 32 rfl rfl rfl ?_
          refine x_aI rfl ⟨rfl, rfl⟩ (fun x13 hx13 => ?_)
          refine x_P 34 rfl rfl rfl ?_
          refine x_P 36 rfl rfl rfl ?_
          refine x_P 37 rfl rfl rfl ?_
          refine x_P 38 rfl rfl rfl ?_
          refine x_jn 64 (fun v14 => [(0, .ref a0), (1, .ref a1), (2, .ref a2), (3, .int s2.1), (4, .int s7.1)]) (fun v14 => []) (fun v14 => v14) (fun v14 => ?_) (fun j15 hj15 => ?_)
          · refine x_P (lv' := [(4, .int (s7.1 + Int32.ofInt 1)), (0, .ref a0), (1, .ref a1), (2, .ref a2), (3, .int s2.1)]) 67 rfl rfl rfl ?_
            refine x_P 18 rfl rfl rfl ?_
            exact x_lv (hnx8 ((s7.1 + Int32.ofInt 1), v14)) ⟨rfl, rfl, rfl, rfl, rfl, trivial⟩
          · refine x_if_ne rfl rfl (fun h21 => ?_) (fun h21 => ?_)
            · refine x_P 42 rfl rfl rfl ?_
              refine x_P 44 rfl rfl rfl ?_
              refine x_P 45 rfl rfl rfl ?_
              refine x_callV rfl rfl rfl rfl rfl ⟨rfl, rfl⟩ (fun x h => c_85 h) (S_85 (d + 2) a1 s7.1 (Int32.ofInt 4) s7.2) (fun x16 hx16 => ?_)
              refine x_if_ne rfl rfl (fun h20 => ?_) (fun h20 => ?_)
              · refine x_P 52 rfl rfl rfl ?_
                refine x_P 53 rfl rfl rfl ?_
                refine x_P 54 rfl rfl rfl ?_
                refine x_gN rfl (fun o17 ho17 => ?_)
                refine x_P 58 rfl rfl rfl ?_
                refine x_aI rfl ⟨rfl, rfl⟩ (fun x18 hx18 => ?_)
                refine x_P 61 rfl rfl rfl ?_
                refine x_callW rfl rfl rfl rfl rfl ⟨rfl, rfl⟩ (fun x h => c_127 h) (S_127 d a0 a1 x18 s7.1 s7.2) (fun th19 hth19 => ?_)
                exact x_lv (hj15 th19) ⟨rfl, rfl, rfl, rfl, rfl, trivial⟩
              · exact x_lv (hj15 s7.2) ⟨rfl, rfl, rfl, rfl, rfl, trivial⟩
            · exact x_lv (hj15 s7.2) ⟨rfl, rfl, rfl, rfl, rfl, trivial⟩
      · refine x_P (lv' := [(3, .int (s2.1 + Int32.ofInt 1)), (0, .ref a0), (1, .ref a1), (2, .ref a2)]) 73 rfl rfl rfl ?_
        refine x_P 7 rfl rfl rfl ?_
        exact x_lv (hnx3 ((s2.1 + Int32.ofInt 1), x10)) ⟨rfl, rfl, rfl, rfl, trivial⟩
  · exact x_retV (x := x5) rfl
-- 30 NineTrees.gap(I)I
noncomputable def m_30 (a0 : Nat) (a1 : Int32) (th : tH) : Option (Int32 × tH) :=
  (gC th 7 a0).bind fun _ =>
  jn (fun (v1 : Unit) =>
      (m_59 a0 (Int8.ofInt (-2)).toInt32 th).bind fun q3 =>
      some (q3.1, q3.2)
    ) (fun j2 =>
      if a1 < 0 then
        j2 ()
      else
        if a1 ≤ (Int32.ofInt 1) then
          (gN th 7 a0 6).bind fun o4 =>
          (gN th 7 a0 0).bind fun o5 =>
          (m_63 a0 th).bind fun q6 =>
          (m_126 o4 o5 q6.1 q6.2).bind fun th7 =>
          (gN th7 7 a0 6).bind fun o8 =>
          (gI th7 1 o8 1).bind fun x9 =>
          if x9 = (Int32.ofInt (-1)) then
            (m_59 a0 (Int8.ofInt (-5)).toInt32 th7).bind fun q17 =>
            some (q17.1, q17.2)
          else
            jn (fun (v10 : Int32) =>
                some (v10, th7)
              ) (fun j11 =>
                if a1 = 0 then
                  (gN th7 7 a0 6).bind fun o14 =>
                  (gI th7 1 o14 0).bind fun x15 =>
                  j11 x15
                else
                  (gN th7 7 a0 6).bind fun o12 =>
                  (gI th7 1 o12 1).bind fun x13 =>
                  j11 x13
              )
        else
          j2 ()
    )
theorem c_30 {a0 : Nat} {a1 : Int32} {th : tH} {x : (Int32 × tH)} (h : m_30 a0 a1 th = some x) : ∃ fs, th[a0]? = some (.inr (7, fs)) := gC_of h
theorem S_30 {L : Nat} (d : Nat) (a0 : Nat) (a1 : Int32) (th : tH) : Wx L (fun x => (some (.int x.1), x.2)) (d + 5) 30 2 0 [(0, .ref a0), (1, .int a1)] [] th (m_30 a0 a1 th) := by
  unfold m_30
  refine x_gC ?_
  refine x_P 1 rfl rfl rfl ?_
  refine x_jn 9 (fun v1 => [(0, .ref a0)]) (fun v1 => []) (fun v1 => th) (fun v1 => ?_) (fun j2 hj2 => ?_)
  · refine x_P 10 rfl rfl rfl ?_
    refine x_P 12 rfl rfl rfl ?_
    refine x_callV rfl rfl rfl rfl rfl ⟨rfl, rfl⟩ (fun x h => c_59 h) (S_59 (d + 3) a0 (Int8.ofInt (-2)).toInt32 th) (fun q3 hq3 => ?_)
    exact x_retI (x := (q3.1, q3.2)) rfl
  · refine x_if_lt rfl rfl (fun h20 => ?_) (fun h20 => ?_)
    · exact x_lv (hj2 ()) ⟨rfl, trivial⟩
    · refine x_P 5 rfl rfl rfl ?_
      refine x_P 6 rfl rfl rfl ?_
      refine x_ic_le rfl rfl (fun h19 => ?_) (fun h19 => ?_)
      · refine x_P 17 rfl rfl rfl ?_
        refine x_gN rfl (fun o4 ho4 => ?_)
        refine x_P 21 rfl rfl rfl ?_
        refine x_gN rfl (fun o5 ho5 => ?_)
        refine x_P 25 rfl rfl rfl ?_
        refine x_callV rfl rfl rfl rfl rfl ⟨rfl, rfl⟩ (fun x h => c_63 h) (S_63 d a0 th) (fun q6 hq6 => ?_)
        refine x_callW rfl rfl rfl rfl rfl ⟨rfl, rfl⟩ (fun x h => c_126 h) (S_126 (d + 1) o4 o5 q6.1 q6.2) (fun th7 hth7 => ?_)
        refine x_P 32 rfl rfl rfl ?_
        refine x_gN rfl (fun o8 ho8 => ?_)
        refine x_gI rfl (fun x9 hx9 => ?_)
        refine x_P 39 rfl rfl rfl ?_
        refine x_ic_ne rfl rfl (fun h18 => ?_) (fun h18 => ?_)
        · refine x_P 43 rfl rfl rfl ?_
          refine x_P 45 rfl rfl rfl ?_
          refine x_callV rfl rfl rfl rfl rfl ⟨rfl, rfl⟩ (fun x h => c_59 h) (S_59 (d + 3) a0 (Int8.ofInt (-5)).toInt32 th7) (fun q17 hq17 => ?_)
          exact x_retI (x := (q17.1, q17.2)) rfl
        · refine x_P 50 rfl rfl rfl ?_
          refine x_jn 70 (fun v10 => []) (fun v10 => [.int v10]) (fun v10 => th7) (fun v10 => ?_) (fun j11 hj11 => ?_)
          · exact x_retI (x := (v10, th7)) rfl
          · refine x_if_ne rfl rfl (fun h16 => ?_) (fun h16 => ?_)
            · refine x_P 54 rfl rfl rfl ?_
              refine x_gN rfl (fun o14 ho14 => ?_)
              refine x_gI rfl (fun x15 hx15 => ?_)
              refine x_P 70 rfl rfl rfl ?_
              exact x_lv (hj11 x15) trivial
            · refine x_P 64 rfl rfl rfl ?_
              refine x_gN rfl (fun o12 ho12 => ?_)
              refine x_gI rfl (fun x13 hx13 => ?_)
              exact x_lv (hj11 x13) trivial
      · exact x_lv (hj2 ()) ⟨rfl, trivial⟩
-- 108 NineTrees$RowList.countOnlyBy(I)I
noncomputable def m_108 (a0 : Nat) (a1 : Int32) (th : tH) : Option (Int32) :=
  (gC th 4 a0).bind fun _ =>
  (m_107 a0 a1 (Int32.ofInt 3) th).bind fun x1 =>
  (m_107 a0 a1 (Int32.ofInt 4) th).bind fun x2 =>
  some (x1 - x2)
theorem c_108 {a0 : Nat} {a1 : Int32} {th : tH} {x : (Int32)} (h : m_108 a0 a1 th = some x) : ∃ fs, th[a0]? = some (.inr (4, fs)) := gC_of h
theorem S_108 {L : Nat} (d : Nat) (a0 : Nat) (a1 : Int32) (th : tH) : Wx L (fun x => (some (.int x), th)) (d + 2) 108 2 0 [(0, .ref a0), (1, .int a1)] [] th (m_108 a0 a1 th) := by
  unfold m_108
  refine x_gC ?_
  refine x_P 1 rfl rfl rfl ?_
  refine x_P 2 rfl rfl rfl ?_
  refine x_P 3 rfl rfl rfl ?_
  refine x_callV rfl rfl rfl rfl rfl ⟨rfl, rfl⟩ (fun x h => c_107 h) (S_107 d a0 a1 (Int32.ofInt 3) th) (fun x1 hx1 => ?_)
  refine x_P 7 rfl rfl rfl ?_
  refine x_P 8 rfl rfl rfl ?_
  refine x_P 9 rfl rfl rfl ?_
  refine x_callV rfl rfl rfl rfl rfl ⟨rfl, rfl⟩ (fun x h => c_107 h) (S_107 d a0 a1 (Int32.ofInt 4) th) (fun x2 hx2 => ?_)
  refine x_P 13 rfl rfl rfl ?_
  exact x_retI (x := (x1 - x2)) rfl
-- 31 NineTrees.missed(I)I
noncomputable def m_31 (a0 : Nat) (a1 : Int32) (th : tH) : Option (Int32 × tH) :=
  (gC th 7 a0).bind fun _ =>
  (gN th 7 a0 0).bind fun o1 =>
  (m_81 o1 a1 th).bind fun x2 =>
  jn (fun (v3 : Int32 × tH) =>
      some (v3.1, v3.2)
    ) (fun j4 =>
      if x2 = 0 then
        (m_59 a0 (Int8.ofInt (-2)).toInt32 th).bind fun q5 =>
        j4 (q5.1, q5.2)
      else
        (m_63 a0 th).bind fun q6 =>
        (m_108 q6.1 a1 q6.2).bind fun x7 =>
        j4 (x7, q6.2)
    )
theorem c_31 {a0 : Nat} {a1 : Int32} {th : tH} {x : (Int32 × tH)} (h : m_31 a0 a1 th = some x) : ∃ fs, th[a0]? = some (.inr (7, fs)) := gC_of h
theorem S_31 {L : Nat} (d : Nat) (a0 : Nat) (a1 : Int32) (th : tH) : Wx L (fun x => (some (.int x.1), x.2)) (d + 5) 31 2 0 [(0, .ref a0), (1, .int a1)] [] th (m_31 a0 a1 th) := by
  unfold m_31
  refine x_gC ?_
  refine x_P 1 rfl rfl rfl ?_
  refine x_gN rfl (fun o1 ho1 => ?_)
  refine x_P 5 rfl rfl rfl ?_
  refine x_callV rfl rfl rfl rfl rfl ⟨rfl, rfl⟩ (fun x h => c_81 h) (S_81 (d + 4) o1 a1 th) (fun x2 hx2 => ?_)
  refine x_jn 28 (fun v3 => []) (fun v3 => [.int v3.1]) (fun v3 => v3.2) (fun v3 => ?_) (fun j4 hj4 => ?_)
  · exact x_retI (x := (v3.1, v3.2)) rfl
  · refine x_if_eq rfl rfl (fun h8 => ?_) (fun h8 => ?_)
    · refine x_P 23 rfl rfl rfl ?_
      refine x_P 25 rfl rfl rfl ?_
      refine x_callV rfl rfl rfl rfl rfl ⟨rfl, rfl⟩ (fun x h => c_59 h) (S_59 (d + 3) a0 (Int8.ofInt (-2)).toInt32 th) (fun q5 hq5 => ?_)
      exact x_lv (hj4 (q5.1, q5.2)) trivial
    · refine x_P 12 rfl rfl rfl ?_
      refine x_callV rfl rfl rfl rfl rfl ⟨rfl, rfl⟩ (fun x h => c_63 h) (S_63 d a0 th) (fun q6 hq6 => ?_)
      refine x_P 16 rfl rfl rfl ?_
      refine x_callV rfl rfl rfl rfl rfl ⟨rfl, rfl⟩ (fun x h => c_108 h) (S_108 (d + 2) q6.1 a1 q6.2) (fun x7 hx7 => ?_)
      refine x_P 28 rfl rfl rfl ?_
      exact x_lv (hj4 (x7, q6.2)) trivial
-- 32 NineTrees.least()I
noncomputable def m_32 (a0 : Nat) (th : tH) : Option (Int32 × tH) :=
  (gC th 7 a0).bind fun _ =>
  (gN th 7 a0 0).bind fun o1 =>
  (gI th 2 o1 5).bind fun x2 =>
  if x2 = 0 then
    (m_59 a0 (Int8.ofInt (-5)).toInt32 th).bind fun q18 =>
    some (q18.1, q18.2)
  else
    (m_63 a0 th).bind fun q3 =>
    lp (fun (s4 : Int32 × Int32) nx5 ex6 =>
        (gN q3.2 7 a0 0).bind fun o8 =>
        (gI q3.2 2 o8 5).bind fun x9 =>
        if x9 ≤ s4.2 then
          ex6 s4.1
        else
          (gN q3.2 7 a0 3).bind fun o10 =>
          (m_108 o10 s4.2 q3.2).bind fun x11 =>
          (gN q3.2 7 a0 3).bind fun o12 =>
          (m_108 o12 s4.1 q3.2).bind fun x13 =>
          jn (fun (v14 : Int32) =>
              nx5 (v14, (s4.2 + Int32.ofInt 1))
            ) (fun j15 =>
              if x13 ≤ x11 then
                j15 s4.1
              else
                j15 s4.2
            )
      ) 4096 ((Int32.ofInt 0), (Int32.ofInt 1)) (fun (x7 : Int32) =>
        some (x7, q3.2)
      )
theorem c_32 {a0 : Nat} {th : tH} {x : (Int32 × tH)} (h : m_32 a0 th = some x) : ∃ fs, th[a0]? = some (.inr (7, fs)) := gC_of h
theorem S_32 {L : Nat} (d : Nat) (a0 : Nat) (th : tH) : Wx L (fun x => (some (.int x.1), x.2)) (d + 5) 32 3 0 [(0, .ref a0)] [] th (m_32 a0 th) := by
  unfold m_32
  refine x_gC ?_
  refine x_P 1 rfl rfl rfl ?_
  refine x_gN rfl (fun o1 ho1 => ?_)
  refine x_gI rfl (fun x2 hx2 => ?_)
  refine x_if_ne rfl rfl (fun h19 => ?_) (fun h19 => ?_)
  · refine x_P 11 rfl rfl rfl ?_
    refine x_P 13 rfl rfl rfl ?_
    refine x_callV rfl rfl rfl rfl rfl ⟨rfl, rfl⟩ (fun x h => c_59 h) (S_59 (d + 3) a0 (Int8.ofInt (-5)).toInt32 th) (fun q18 hq18 => ?_)
    exact x_retI (x := (q18.1, q18.2)) rfl
  · refine x_P 18 rfl rfl rfl ?_
    refine x_callV rfl rfl rfl rfl rfl ⟨rfl, rfl⟩ (fun x h => c_63 h) (S_63 d a0 th) (fun q3 hq3 => ?_)
    refine x_P 22 rfl rfl rfl ?_
    refine x_P 23 rfl rfl rfl ?_
    refine x_P (lv' := [(1, .int (Int32.ofInt 0)), (0, .ref a0)]) 24 rfl rfl rfl ?_
    refine x_P 25 rfl rfl rfl ?_
    refine x_P (lv' := [(2, .int (Int32.ofInt 1)), (1, .int (Int32.ofInt 0)), (0, .ref a0)]) 26 rfl rfl rfl ?_
    refine x_lv (lv := [(0, .ref a0), (1, .int (Int32.ofInt 0)), (2, .int (Int32.ofInt 1))]) (x_lp 64 (fun s4 => [(0, .ref a0), (1, .int s4.1), (2, .int s4.2)]) (fun s4 => q3.2) (fun x7 => [(1, .int x7)]) (fun x7 => q3.2) (fun s4 nx5 hnx5 ex6 hex6 => ?_) (fun x7 => ?_) 4096 ((Int32.ofInt 0), (Int32.ofInt 1))) ⟨rfl, rfl, rfl, trivial⟩
    · refine x_P 27 rfl rfl rfl ?_
      refine x_P 28 rfl rfl rfl ?_
      refine x_gN rfl (fun o8 ho8 => ?_)
      refine x_gI rfl (fun x9 hx9 => ?_)
      refine x_ic_ge rfl rfl (fun h17 => ?_) (fun h17 => ?_)
      · exact x_lv (hex6 s4.1) ⟨rfl, trivial⟩
      · refine x_P 38 rfl rfl rfl ?_
        refine x_gN rfl (fun o10 ho10 => ?_)
        refine x_P 42 rfl rfl rfl ?_
        refine x_callV rfl rfl rfl rfl rfl ⟨rfl, rfl⟩ (fun x h => c_108 h) (S_108 (d + 2) o10 s4.2 q3.2) (fun x11 hx11 => ?_)
        refine x_P 46 rfl rfl rfl ?_
        refine x_gN rfl (fun o12 ho12 => ?_)
        refine x_P 50 rfl rfl rfl ?_
        refine x_callV rfl rfl rfl rfl rfl ⟨rfl, rfl⟩ (fun x h => c_108 h) (S_108 (d + 2) o12 s4.1 q3.2) (fun x13 hx13 => ?_)
        refine x_jn 58 (fun v14 => [(0, .ref a0), (1, .int v14), (2, .int s4.2)]) (fun v14 => []) (fun v14 => q3.2) (fun v14 => ?_) (fun j15 hj15 => ?_)
        · refine x_P (lv' := [(2, .int (s4.2 + Int32.ofInt 1)), (0, .ref a0), (1, .int v14)]) 61 rfl rfl rfl ?_
          refine x_P 26 rfl rfl rfl ?_
          exact x_lv (hnx5 (v14, (s4.2 + Int32.ofInt 1))) ⟨rfl, rfl, rfl, trivial⟩
        · refine x_ic_ge rfl rfl (fun h16 => ?_) (fun h16 => ?_)
          · exact x_lv (hj15 s4.1) ⟨rfl, rfl, rfl, trivial⟩
          · refine x_P 57 rfl rfl rfl ?_
            refine x_P (lv' := [(1, .int s4.2), (0, .ref a0), (2, .int s4.2)]) 58 rfl rfl rfl ?_
            exact x_lv (hj15 s4.2) ⟨rfl, rfl, rfl, trivial⟩
    · refine x_P 65 rfl rfl rfl ?_
      exact x_retI (x := (x7, q3.2)) rfl
-- 122 NineTrees$Moves.forget()V
noncomputable def m_122 (a0 : Nat) (th : tH) : Option tH :=
  (gC th 3 a0).bind fun _ =>
  (pI th 3 a0 2 (Int32.ofInt (-1))).bind fun th1 =>
  (pI th1 3 a0 3 (Int32.ofInt (-1))).bind fun th2 =>
  (pI th2 3 a0 4 (Int32.ofInt (-1))).bind fun th3 =>
  some th3
theorem c_122 {a0 : Nat} {th : tH} {x : tH} (h : m_122 a0 th = some x) : ∃ fs, th[a0]? = some (.inr (3, fs)) := gC_of h
theorem S_122 {L : Nat} (d : Nat) (a0 : Nat) (th : tH) : Wx L (fun x => (none, x)) (d + 1) 122 1 0 [(0, .ref a0)] [] th (m_122 a0 th) := by
  unfold m_122
  refine x_gC ?_
  refine x_P 1 rfl rfl rfl ?_
  refine x_P 2 rfl rfl rfl ?_
  refine x_pI rfl (fun th1 hth1 => ?_)
  refine x_P 6 rfl rfl rfl ?_
  refine x_P 7 rfl rfl rfl ?_
  refine x_pI rfl (fun th2 hth2 => ?_)
  refine x_P 11 rfl rfl rfl ?_
  refine x_P 12 rfl rfl rfl ?_
  refine x_pI rfl (fun th3 hth3 => ?_)
  exact x_retV (x := th3) rfl
-- 113 NineTrees$Crossings.clear()V
noncomputable def m_113 (a0 : Nat) (th : tH) : Option tH :=
  (gC th 0 a0).bind fun _ =>
  lp (fun (s1 : Int32 × tH) nx2 ex3 =>
      (gN s1.2 0 a0 0).bind fun o5 =>
      (aL s1.2 o5).bind fun x6 =>
      if x6 ≤ s1.1 then
        ex3 s1.2
      else
        (gN s1.2 0 a0 0).bind fun o7 =>
        (sI s1.2 o7 s1.1 (Int32.ofInt 0)).bind fun th8 =>
        nx2 ((s1.1 + Int32.ofInt 1), th8)
    ) 4096 ((Int32.ofInt 0), th) (fun (x4 : tH) =>
      some x4
    )
theorem c_113 {a0 : Nat} {th : tH} {x : tH} (h : m_113 a0 th = some x) : ∃ fs, th[a0]? = some (.inr (0, fs)) := gC_of h
theorem S_113 {L : Nat} (d : Nat) (a0 : Nat) (th : tH) : Wx L (fun x => (none, x)) (d + 1) 113 2 0 [(0, .ref a0)] [] th (m_113 a0 th) := by
  unfold m_113
  refine x_gC ?_
  refine x_P 1 rfl rfl rfl ?_
  refine x_P (lv' := [(1, .int (Int32.ofInt 0)), (0, .ref a0)]) 2 rfl rfl rfl ?_
  refine x_lv (lv := [(0, .ref a0), (1, .int (Int32.ofInt 0))]) (x_lp 24 (fun s1 => [(0, .ref a0), (1, .int s1.1)]) (fun s1 => s1.2) (fun x4 => []) (fun x4 => x4) (fun s1 nx2 hnx2 ex3 hex3 => ?_) (fun x4 => ?_) 4096 ((Int32.ofInt 0), th)) ⟨rfl, rfl, trivial⟩
  · refine x_P 3 rfl rfl rfl ?_
    refine x_P 4 rfl rfl rfl ?_
    refine x_gN rfl (fun o5 ho5 => ?_)
    refine x_aL rfl ⟨rfl, rfl⟩ (fun x6 hx6 => ?_)
    refine x_ic_ge rfl rfl (fun h9 => ?_) (fun h9 => ?_)
    · exact x_lv (hex3 s1.2) trivial
    · refine x_P 12 rfl rfl rfl ?_
      refine x_gN rfl (fun o7 ho7 => ?_)
      refine x_P 16 rfl rfl rfl ?_
      refine x_P 17 rfl rfl rfl ?_
      refine x_sI rfl ⟨rfl, rfl⟩ (fun th8 hth8 => ?_)
      refine x_P (lv' := [(1, .int (s1.1 + Int32.ofInt 1)), (0, .ref a0)]) 21 rfl rfl rfl ?_
      refine x_P 2 rfl rfl rfl ?_
      exact x_lv (hnx2 ((s1.1 + Int32.ofInt 1), th8)) ⟨rfl, rfl, trivial⟩
  · exact x_retV (x := x4) rfl
-- 74 NineTrees$Garden.cellOf(II)I
noncomputable def m_74 (a0 : Nat) (a1 : Int32) (a2 : Int32) (th : tH) : Option (Int32) :=
  (gC th 2 a0).bind fun _ =>
  jn (fun (v1 : Int32) =>
      jn (fun (v3 : Int32) =>
          some v3
        ) (fun j4 =>
          if v1 = 0 then
            j4 (Int32.ofInt (-1))
          else
            (gI th 2 a0 4).bind fun x5 =>
            j4 ((a1 * x5) + a2)
        )
    ) (fun j2 =>
      jn (fun (v7 : Unit) =>
          j2 (Int32.ofInt 0)
        ) (fun j8 =>
          if a1 < 0 then
            j8 ()
          else
            (gI th 2 a0 4).bind fun x9 =>
            if x9 ≤ a1 then
              j8 ()
            else
              if a2 < 0 then
                j8 ()
              else
                (gI th 2 a0 4).bind fun x10 =>
                if x10 ≤ a2 then
                  j8 ()
                else
                  j2 (Int32.ofInt 1)
        )
    )
theorem c_74 {a0 : Nat} {a1 : Int32} {a2 : Int32} {th : tH} {x : (Int32)} (h : m_74 a0 a1 a2 th = some x) : ∃ fs, th[a0]? = some (.inr (2, fs)) := gC_of h
theorem S_74 {L : Nat} (d : Nat) (a0 : Nat) (a1 : Int32) (a2 : Int32) (th : tH) : Wx L (fun x => (some (.int x), th)) d 74 4 0 [(0, .ref a0), (1, .int a1), (2, .int a2)] [] th (m_74 a0 a1 a2 th) := by
  unfold m_74
  refine x_gC ?_
  refine x_P 1 rfl rfl rfl ?_
  refine x_jn 29 (fun v1 => [(0, .ref a0), (1, .int a1), (2, .int a2)]) (fun v1 => [.int v1]) (fun v1 => th) (fun v1 => ?_) (fun j2 hj2 => ?_)
  · refine x_P (lv' := [(3, .int v1), (0, .ref a0), (1, .int a1), (2, .int a2)]) 30 rfl rfl rfl ?_
    refine x_P 31 rfl rfl rfl ?_
    refine x_jn 46 (fun v3 => []) (fun v3 => [.int v3]) (fun v3 => th) (fun v3 => ?_) (fun j4 hj4 => ?_)
    · exact x_retI (x := v3) rfl
    · refine x_if_eq rfl rfl (fun h6 => ?_) (fun h6 => ?_)
      · refine x_P 46 rfl rfl rfl ?_
        exact x_lv (hj4 (Int32.ofInt (-1))) trivial
      · refine x_P 35 rfl rfl rfl ?_
        refine x_P 36 rfl rfl rfl ?_
        refine x_gI rfl (fun x5 hx5 => ?_)
        refine x_P 40 rfl rfl rfl ?_
        refine x_P 41 rfl rfl rfl ?_
        refine x_P 42 rfl rfl rfl ?_
        refine x_P 46 rfl rfl rfl ?_
        exact x_lv (hj4 ((a1 * x5) + a2)) trivial
  · refine x_jn 28 (fun v7 => [(0, .ref a0), (1, .int a1), (2, .int a2)]) (fun v7 => []) (fun v7 => th) (fun v7 => ?_) (fun j8 hj8 => ?_)
    · refine x_P 29 rfl rfl rfl ?_
      exact x_lv (hj2 (Int32.ofInt 0)) ⟨rfl, rfl, rfl, trivial⟩
    · refine x_if_lt rfl rfl (fun h14 => ?_) (fun h14 => ?_)
      · exact x_lv (hj8 ()) ⟨rfl, rfl, rfl, trivial⟩
      · refine x_P 5 rfl rfl rfl ?_
        refine x_P 6 rfl rfl rfl ?_
        refine x_gI rfl (fun x9 hx9 => ?_)
        refine x_ic_ge rfl rfl (fun h13 => ?_) (fun h13 => ?_)
        · exact x_lv (hj8 ()) ⟨rfl, rfl, rfl, trivial⟩
        · refine x_P 13 rfl rfl rfl ?_
          refine x_if_lt rfl rfl (fun h12 => ?_) (fun h12 => ?_)
          · exact x_lv (hj8 ()) ⟨rfl, rfl, rfl, trivial⟩
          · refine x_P 17 rfl rfl rfl ?_
            refine x_P 18 rfl rfl rfl ?_
            refine x_gI rfl (fun x10 hx10 => ?_)
            refine x_ic_ge rfl rfl (fun h11 => ?_) (fun h11 => ?_)
            · exact x_lv (hj8 ()) ⟨rfl, rfl, rfl, trivial⟩
            · refine x_P 25 rfl rfl rfl ?_
              refine x_P 29 rfl rfl rfl ?_
              exact x_lv (hj2 (Int32.ofInt 1)) ⟨rfl, rfl, rfl, trivial⟩
-- 115 NineTrees$Crossings.addLine(LNineTrees$Garden;I)V
noncomputable def m_115 (a0 : Nat) (a1 : Nat) (a2 : Int32) (th : tH) : Option tH :=
  (gC th 0 a0).bind fun _ =>
  (m_65 a2 th).bind fun x1 =>
  (m_66 a2 th).bind fun x2 =>
  (m_81 a1 x1 th).bind fun x3 =>
  jn (fun (v4 : Unit) =>
      some th
    ) (fun j5 =>
      if x3 = 0 then
        j5 ()
      else
        (m_81 a1 x2 th).bind fun x6 =>
        if x6 = 0 then
          j5 ()
        else
          (gN th 2 a1 1).bind fun o7 =>
          (aI th o7 x1).bind fun x8 =>
          (m_72 a1 x8 th).bind fun x9 =>
          (gN th 2 a1 1).bind fun o10 =>
          (aI th o10 x1).bind fun x11 =>
          (m_73 a1 x11 th).bind fun x12 =>
          (gN th 2 a1 1).bind fun o13 =>
          (aI th o13 x2).bind fun x14 =>
          (m_72 a1 x14 th).bind fun x15 =>
          (gN th 2 a1 1).bind fun o16 =>
          (aI th o16 x2).bind fun x17 =>
          (m_73 a1 x17 th).bind fun x18 =>
          lp (fun (s19 : Int32 × Int32 × Int32) nx20 ex21 =>
              if s19.2.2 ≤ (Int32.ofInt 1) then
                ex21 (s19.1, s19.2.1)
              else
                (rmI s19.1 s19.2.2).bind fun x35 =>
                jn (fun (v36 : Int32 × Int32) =>
                    nx20 (v36.1, v36.2, (s19.2.2 + Int32.ofInt (-1)))
                  ) (fun j37 =>
                    if x35 = 0 then
                      (rmI s19.2.1 s19.2.2).bind fun x38 =>
                      if x38 = 0 then
                        (dvI s19.1 s19.2.2).bind fun x39 =>
                        (dvI s19.2.1 s19.2.2).bind fun x40 =>
                        j37 (x39, x40)
                      else
                        j37 (s19.1, s19.2.1)
                    else
                      j37 (s19.1, s19.2.1)
                  )
            ) 4096 ((x15 - x9), (x18 - x12), (Int8.ofInt 8).toInt32) (fun (x22 : Int32 × Int32) =>
              lp (fun (s23 : Int32 × tH) nx24 ex25 =>
                  if (Int8.ofInt 8).toInt32 < s23.1 then
                    ex25 s23.2
                  else
                    (m_74 a1 (x9 + (s23.1 * x22.1)) (x12 + (s23.1 * x22.2)) s23.2).bind fun x27 =>
                    jn (fun (v28 : tH) =>
                        nx24 ((s23.1 + Int32.ofInt 1), v28)
                      ) (fun j29 =>
                        if x27 = (Int32.ofInt (-1)) then
                          j29 s23.2
                        else
                          (gN s23.2 0 a0 0).bind fun o30 =>
                          (aI s23.2 o30 x27).bind fun x31 =>
                          (sI s23.2 o30 x27 (x31 + (Int32.ofInt 1))).bind fun th32 =>
                          j29 th32
                      )
                ) 4096 ((Int8.ofInt (-8)).toInt32, th) (fun (x26 : tH) =>
                  some x26
                )
            )
    )
theorem c_115 {a0 : Nat} {a1 : Nat} {a2 : Int32} {th : tH} {x : tH} (h : m_115 a0 a1 a2 th = some x) : ∃ fs, th[a0]? = some (.inr (0, fs)) := gC_of h
theorem S_115 {L : Nat} (d : Nat) (a0 : Nat) (a1 : Nat) (a2 : Int32) (th : tH) : Wx L (fun x => (none, x)) (d + 2) 115 11 0 [(0, .ref a0), (1, .ref a1), (2, .int a2)] [] th (m_115 a0 a1 a2 th) := by
  unfold m_115
  refine x_gC ?_
  refine x_P 1 rfl rfl rfl ?_
  refine x_callS rfl rfl rfl rfl rfl rfl ⟨rfl, rfl⟩ (S_65 d a2 th) (fun x1 hx1 => ?_)
  refine x_P (lv' := [(3, .int x1), (0, .ref a0), (1, .ref a1), (2, .int a2)]) 5 rfl rfl rfl ?_
  refine x_P 6 rfl rfl rfl ?_
  refine x_callS rfl rfl rfl rfl rfl rfl ⟨rfl, rfl⟩ (S_66 d a2 th) (fun x2 hx2 => ?_)
  refine x_P (lv' := [(4, .int x2), (3, .int x1), (0, .ref a0), (1, .ref a1), (2, .int a2)]) 11 rfl rfl rfl ?_
  refine x_P 12 rfl rfl rfl ?_
  refine x_P 13 rfl rfl rfl ?_
  refine x_callV rfl rfl rfl rfl rfl ⟨rfl, rfl⟩ (fun x h => c_81 h) (S_81 (d + 1) a1 x1 th) (fun x3 hx3 => ?_)
  refine x_jn 28 (fun v4 => []) (fun v4 => []) (fun v4 => th) (fun v4 => ?_) (fun j5 hj5 => ?_)
  · exact x_retV (x := th) rfl
  · refine x_if_eq rfl rfl (fun h45 => ?_) (fun h45 => ?_)
    · exact x_lv (hj5 ()) trivial
    · refine x_P 20 rfl rfl rfl ?_
      refine x_P 22 rfl rfl rfl ?_
      refine x_callV rfl rfl rfl rfl rfl ⟨rfl, rfl⟩ (fun x h => c_81 h) (S_81 (d + 1) a1 x2 th) (fun x6 hx6 => ?_)
      refine x_if_ne rfl rfl (fun h44 => ?_) (fun h44 => ?_)
      · exact x_lv (hj5 ()) trivial
      · refine x_P 30 rfl rfl rfl ?_
        refine x_P 31 rfl rfl rfl ?_
        refine x_gN rfl (fun o7 ho7 => ?_)
        refine x_P 35 rfl rfl rfl ?_
        refine x_aI rfl ⟨rfl, rfl⟩ (fun x8 hx8 => ?_)
        refine x_callV rfl rfl rfl rfl rfl ⟨rfl, rfl⟩ (fun x h => c_72 h) (S_72 (d + 1) a1 x8 th) (fun x9 hx9 => ?_)
        refine x_P (lv' := [(5, .int x9), (4, .int x2), (3, .int x1), (0, .ref a0), (1, .ref a1), (2, .int a2)]) 41 rfl rfl rfl ?_
        refine x_P 42 rfl rfl rfl ?_
        refine x_P 43 rfl rfl rfl ?_
        refine x_gN rfl (fun o10 ho10 => ?_)
        refine x_P 47 rfl rfl rfl ?_
        refine x_aI rfl ⟨rfl, rfl⟩ (fun x11 hx11 => ?_)
        refine x_callV rfl rfl rfl rfl rfl ⟨rfl, rfl⟩ (fun x h => c_73 h) (S_73 (d + 1) a1 x11 th) (fun x12 hx12 => ?_)
        refine x_P (lv' := [(6, .int x12), (5, .int x9), (4, .int x2), (3, .int x1), (0, .ref a0), (1, .ref a1), (2, .int a2)]) 53 rfl rfl rfl ?_
        refine x_P 54 rfl rfl rfl ?_
        refine x_P 55 rfl rfl rfl ?_
        refine x_gN rfl (fun o13 ho13 => ?_)
        refine x_P 60 rfl rfl rfl ?_
        refine x_aI rfl ⟨rfl, rfl⟩ (fun x14 hx14 => ?_)
        refine x_callV rfl rfl rfl rfl rfl ⟨rfl, rfl⟩ (fun x h => c_72 h) (S_72 (d + 1) a1 x14 th) (fun x15 hx15 => ?_)
        refine x_P 66 rfl rfl rfl ?_
        refine x_P 67 rfl rfl rfl ?_
        refine x_P (lv' := [(7, .int (x15 - x9)), (6, .int x12), (5, .int x9), (4, .int x2), (3, .int x1), (0, .ref a0), (1, .ref a1), (2, .int a2)]) 69 rfl rfl rfl ?_
        refine x_P 70 rfl rfl rfl ?_
        refine x_P 71 rfl rfl rfl ?_
        refine x_gN rfl (fun o16 ho16 => ?_)
        refine x_P 76 rfl rfl rfl ?_
        refine x_aI rfl ⟨rfl, rfl⟩ (fun x17 hx17 => ?_)
        refine x_callV rfl rfl rfl rfl rfl ⟨rfl, rfl⟩ (fun x h => c_73 h) (S_73 (d + 1) a1 x17 th) (fun x18 hx18 => ?_)
        refine x_P 82 rfl rfl rfl ?_
        refine x_P 83 rfl rfl rfl ?_
        refine x_P (lv' := [(8, .int (x18 - x12)), (7, .int (x15 - x9)), (6, .int x12), (5, .int x9), (4, .int x2), (3, .int x1), (0, .ref a0), (1, .ref a1), (2, .int a2)]) 85 rfl rfl rfl ?_
        refine x_P 87 rfl rfl rfl ?_
        refine x_P (lv' := [(9, .int (Int8.ofInt 8).toInt32), (8, .int (x18 - x12)), (7, .int (x15 - x9)), (6, .int x12), (5, .int x9), (4, .int x2), (3, .int x1), (0, .ref a0), (1, .ref a1), (2, .int a2)]) 89 rfl rfl rfl ?_
        refine x_lv (lv := [(0, .ref a0), (1, .ref a1), (5, .int x9), (6, .int x12), (7, .int (x15 - x9)), (8, .int (x18 - x12)), (9, .int (Int8.ofInt 8).toInt32)]) (x_lp 131 (fun s19 => [(0, .ref a0), (1, .ref a1), (5, .int x9), (6, .int x12), (7, .int s19.1), (8, .int s19.2.1), (9, .int s19.2.2)]) (fun s19 => th) (fun x22 => [(0, .ref a0), (1, .ref a1), (5, .int x9), (6, .int x12), (7, .int x22.1), (8, .int x22.2)]) (fun x22 => th) (fun s19 nx20 hnx20 ex21 hex21 => ?_) (fun x22 => ?_) 4096 ((x15 - x9), (x18 - x12), (Int8.ofInt 8).toInt32)) ⟨rfl, rfl, rfl, rfl, rfl, rfl, rfl, trivial⟩
        · refine x_P 91 rfl rfl rfl ?_
          refine x_P 92 rfl rfl rfl ?_
          refine x_ic_le rfl rfl (fun h43 => ?_) (fun h43 => ?_)
          · exact x_lv (hex21 (s19.1, s19.2.1)) ⟨rfl, rfl, rfl, rfl, rfl, rfl, trivial⟩
          · refine x_P 97 rfl rfl rfl ?_
            refine x_P 99 rfl rfl rfl ?_
            refine x_rm rfl rfl (fun x35 hx35 => ?_)
            refine x_jn 125 (fun v36 => [(0, .ref a0), (1, .ref a1), (5, .int x9), (6, .int x12), (7, .int v36.1), (8, .int v36.2), (9, .int s19.2.2)]) (fun v36 => []) (fun v36 => th) (fun v36 => ?_) (fun j37 hj37 => ?_)
            · refine x_P (lv' := [(9, .int (s19.2.2 + Int32.ofInt (-1))), (0, .ref a0), (1, .ref a1), (5, .int x9), (6, .int x12), (7, .int v36.1), (8, .int v36.2)]) 128 rfl rfl rfl ?_
              refine x_P 89 rfl rfl rfl ?_
              exact x_lv (hnx20 (v36.1, v36.2, (s19.2.2 + Int32.ofInt (-1)))) ⟨rfl, rfl, rfl, rfl, rfl, rfl, rfl, trivial⟩
            · refine x_if_ne rfl rfl (fun h42 => ?_) (fun h42 => ?_)
              · refine x_P 105 rfl rfl rfl ?_
                refine x_P 107 rfl rfl rfl ?_
                refine x_rm rfl rfl (fun x38 hx38 => ?_)
                refine x_if_ne rfl rfl (fun h41 => ?_) (fun h41 => ?_)
                · refine x_P 113 rfl rfl rfl ?_
                  refine x_P 115 rfl rfl rfl ?_
                  refine x_dv rfl rfl (fun x39 hx39 => ?_)
                  refine x_P (lv' := [(7, .int x39), (0, .ref a0), (1, .ref a1), (5, .int x9), (6, .int x12), (8, .int s19.2.1), (9, .int s19.2.2)]) 118 rfl rfl rfl ?_
                  refine x_P 120 rfl rfl rfl ?_
                  refine x_P 122 rfl rfl rfl ?_
                  refine x_dv rfl rfl (fun x40 hx40 => ?_)
                  refine x_P (lv' := [(8, .int x40), (7, .int x39), (0, .ref a0), (1, .ref a1), (5, .int x9), (6, .int x12), (9, .int s19.2.2)]) 125 rfl rfl rfl ?_
                  exact x_lv (hj37 (x39, x40)) ⟨rfl, rfl, rfl, rfl, rfl, rfl, rfl, trivial⟩
                · exact x_lv (hj37 (s19.1, s19.2.1)) ⟨rfl, rfl, rfl, rfl, rfl, rfl, rfl, trivial⟩
              · exact x_lv (hj37 (s19.1, s19.2.1)) ⟨rfl, rfl, rfl, rfl, rfl, rfl, rfl, trivial⟩
        · refine x_P 133 rfl rfl rfl ?_
          refine x_P (lv' := [(9, .int (Int8.ofInt (-8)).toInt32), (0, .ref a0), (1, .ref a1), (5, .int x9), (6, .int x12), (7, .int x22.1), (8, .int x22.2)]) 135 rfl rfl rfl ?_
          refine x_lv (lv := [(0, .ref a0), (1, .ref a1), (5, .int x9), (6, .int x12), (7, .int x22.1), (8, .int x22.2), (9, .int (Int8.ofInt (-8)).toInt32)]) (x_lp 187 (fun s23 => [(0, .ref a0), (1, .ref a1), (5, .int x9), (6, .int x12), (7, .int x22.1), (8, .int x22.2), (9, .int s23.1)]) (fun s23 => s23.2) (fun x26 => []) (fun x26 => x26) (fun s23 nx24 hnx24 ex25 hex25 => ?_) (fun x26 => ?_) 4096 ((Int8.ofInt (-8)).toInt32, th)) ⟨rfl, rfl, rfl, rfl, rfl, rfl, rfl, trivial⟩
          · refine x_P 137 rfl rfl rfl ?_
            refine x_P 139 rfl rfl rfl ?_
            refine x_ic_gt rfl rfl (fun h34 => ?_) (fun h34 => ?_)
            · exact x_lv (hex25 s23.2) trivial
            · refine x_P 143 rfl rfl rfl ?_
              refine x_P 145 rfl rfl rfl ?_
              refine x_P 147 rfl rfl rfl ?_
              refine x_P 149 rfl rfl rfl ?_
              refine x_P 150 rfl rfl rfl ?_
              refine x_P 151 rfl rfl rfl ?_
              refine x_P 153 rfl rfl rfl ?_
              refine x_P 155 rfl rfl rfl ?_
              refine x_P 157 rfl rfl rfl ?_
              refine x_P 158 rfl rfl rfl ?_
              refine x_P 159 rfl rfl rfl ?_
              refine x_callV rfl rfl rfl rfl rfl ⟨rfl, rfl⟩ (fun x h => c_74 h) (S_74 (d + 1) a1 (x9 + (s23.1 * x22.1)) (x12 + (s23.1 * x22.2)) s23.2) (fun x27 hx27 => ?_)
              refine x_P (lv' := [(10, .int x27), (0, .ref a0), (1, .ref a1), (5, .int x9), (6, .int x12), (7, .int x22.1), (8, .int x22.2), (9, .int s23.1)]) 164 rfl rfl rfl ?_
              refine x_P 166 rfl rfl rfl ?_
              refine x_P 167 rfl rfl rfl ?_
              refine x_jn 181 (fun v28 => [(0, .ref a0), (1, .ref a1), (5, .int x9), (6, .int x12), (7, .int x22.1), (8, .int x22.2), (9, .int s23.1)]) (fun v28 => []) (fun v28 => v28) (fun v28 => ?_) (fun j29 hj29 => ?_)
              · refine x_P (lv' := [(9, .int (s23.1 + Int32.ofInt 1)), (0, .ref a0), (1, .ref a1), (5, .int x9), (6, .int x12), (7, .int x22.1), (8, .int x22.2)]) 184 rfl rfl rfl ?_
                refine x_P 135 rfl rfl rfl ?_
                exact x_lv (hnx24 ((s23.1 + Int32.ofInt 1), v28)) ⟨rfl, rfl, rfl, rfl, rfl, rfl, rfl, trivial⟩
              · refine x_ic_eq rfl rfl (fun h33 => ?_) (fun h33 => ?_)
                · exact x_lv (hj29 s23.2) ⟨rfl, rfl, rfl, rfl, rfl, rfl, rfl, trivial⟩
                · refine x_P 171 rfl rfl rfl ?_
                  refine x_gN rfl (fun o30 ho30 => ?_)
                  refine x_P 176 rfl rfl rfl ?_
                  refine x_P 177 rfl rfl rfl ?_
                  refine x_aI rfl ⟨rfl, rfl⟩ (fun x31 hx31 => ?_)
                  refine x_P 179 rfl rfl rfl ?_
                  refine x_P 180 rfl rfl rfl ?_
                  refine x_sI rfl ⟨rfl, rfl⟩ (fun th32 hth32 => ?_)
                  exact x_lv (hj29 th32) ⟨rfl, rfl, rfl, rfl, rfl, rfl, rfl, trivial⟩
          · exact x_retV (x := x26) rfl
end
