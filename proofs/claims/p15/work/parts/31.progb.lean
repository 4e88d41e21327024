/-! ===== programs ===== -/
-- 173 java/lang/Integer.bitCount(I)I
noncomputable def m_173 (a0 : Int32) (th : tH) : Option (Int32) :=
  some ((((((((a0 - ((Int32.toUInt32 a0 >>> (Int32.toUInt32 (Int32.ofInt 1) &&& Int32.toUInt32 31)).toInt32 &&& (Int32.ofNat 1431655765))) &&& (Int32.ofNat 858993459)) + ((Int32.toUInt32 (a0 - ((Int32.toUInt32 a0 >>> (Int32.toUInt32 (Int32.ofInt 1) &&& Int32.toUInt32 31)).toInt32 &&& (Int32.ofNat 1431655765))) >>> (Int32.toUInt32 (Int32.ofInt 2) &&& Int32.toUInt32 31)).toInt32 &&& (Int32.ofNat 858993459))) + (Int32.toUInt32 (((a0 - ((Int32.toUInt32 a0 >>> (Int32.toUInt32 (Int32.ofInt 1) &&& Int32.toUInt32 31)).toInt32 &&& (Int32.ofNat 1431655765))) &&& (Int32.ofNat 858993459)) + ((Int32.toUInt32 (a0 - ((Int32.toUInt32 a0 >>> (Int32.toUInt32 (Int32.ofInt 1) &&& Int32.toUInt32 31)).toInt32 &&& (Int32.ofNat 1431655765))) >>> (Int32.toUInt32 (Int32.ofInt 2) &&& Int32.toUInt32 31)).toInt32 &&& (Int32.ofNat 858993459))) >>> (Int32.toUInt32 (Int32.ofInt 4) &&& Int32.toUInt32 31)).toInt32) &&& (Int32.ofNat 252645135)) + (Int32.toUInt32 (((((a0 - ((Int32.toUInt32 a0 >>> (Int32.toUInt32 (Int32.ofInt 1) &&& Int32.toUInt32 31)).toInt32 &&& (Int32.ofNat 1431655765))) &&& (Int32.ofNat 858993459)) + ((Int32.toUInt32 (a0 - ((Int32.toUInt32 a0 >>> (Int32.toUInt32 (Int32.ofInt 1) &&& Int32.toUInt32 31)).toInt32 &&& (Int32.ofNat 1431655765))) >>> (Int32.toUInt32 (Int32.ofInt 2) &&& Int32.toUInt32 31)).toInt32 &&& (Int32.ofNat 858993459))) + (Int32.toUInt32 (((a0 - ((Int32.toUInt32 a0 >>> (Int32.toUInt32 (Int32.ofInt 1) &&& Int32.toUInt32 31)).toInt32 &&& (Int32.ofNat 1431655765))) &&& (Int32.ofNat 858993459)) + ((Int32.toUInt32 (a0 - ((Int32.toUInt32 a0 >>> (Int32.toUInt32 (Int32.ofInt 1) &&& Int32.toUInt32 31)).toInt32 &&& (Int32.ofNat 1431655765))) >>> (Int32.toUInt32 (Int32.ofInt 2) &&& Int32.toUInt32 31)).toInt32 &&& (Int32.ofNat 858993459))) >>> (Int32.toUInt32 (Int32.ofInt 4) &&& Int32.toUInt32 31)).toInt32) &&& (Int32.ofNat 252645135)) >>> (Int32.toUInt32 (Int8.ofInt 8).toInt32 &&& Int32.toUInt32 31)).toInt32) + (Int32.toUInt32 ((((((a0 - ((Int32.toUInt32 a0 >>> (Int32.toUInt32 (Int32.ofInt 1) &&& Int32.toUInt32 31)).toInt32 &&& (Int32.ofNat 1431655765))) &&& (Int32.ofNat 858993459)) + ((Int32.toUInt32 (a0 - ((Int32.toUInt32 a0 >>> (Int32.toUInt32 (Int32.ofInt 1) &&& Int32.toUInt32 31)).toInt32 &&& (Int32.ofNat 1431655765))) >>> (Int32.toUInt32 (Int32.ofInt 2) &&& Int32.toUInt32 31)).toInt32 &&& (Int32.ofNat 858993459))) + (Int32.toUInt32 (((a0 - ((Int32.toUInt32 a0 >>> (Int32.toUInt32 (Int32.ofInt 1) &&& Int32.toUInt32 31)).toInt32 &&& (Int32.ofNat 1431655765))) &&& (Int32.ofNat 858993459)) + ((Int32.toUInt32 (a0 - ((Int32.toUInt32 a0 >>> (Int32.toUInt32 (Int32.ofInt 1) &&& Int32.toUInt32 31)).toInt32 &&& (Int32.ofNat 1431655765))) >>> (Int32.toUInt32 (Int32.ofInt 2) &&& Int32.toUInt32 31)).toInt32 &&& (Int32.ofNat 858993459))) >>> (Int32.toUInt32 (Int32.ofInt 4) &&& Int32.toUInt32 31)).toInt32) &&& (Int32.ofNat 252645135)) + (Int32.toUInt32 (((((a0 - ((Int32.toUInt32 a0 >>> (Int32.toUInt32 (Int32.ofInt 1) &&& Int32.toUInt32 31)).toInt32 &&& (Int32.ofNat 1431655765))) &&& (Int32.ofNat 858993459)) + ((Int32.toUInt32 (a0 - ((Int32.toUInt32 a0 >>> (Int32.toUInt32 (Int32.ofInt 1) &&& Int32.toUInt32 31)).toInt32 &&& (Int32.ofNat 1431655765))) >>> (Int32.toUInt32 (Int32.ofInt 2) &&& Int32.toUInt32 31)).toInt32 &&& (Int32.ofNat 858993459))) + (Int32.toUInt32 (((a0 - ((Int32.toUInt32 a0 >>> (Int32.toUInt32 (Int32.ofInt 1) &&& Int32.toUInt32 31)).toInt32 &&& (Int32.ofNat 1431655765))) &&& (Int32.ofNat 858993459)) + ((Int32.toUInt32 (a0 - ((Int32.toUInt32 a0 >>> (Int32.toUInt32 (Int32.ofInt 1) &&& Int32.toUInt32 31)).toInt32 &&& (Int32.ofNat 1431655765))) >>> (Int32.toUInt32 (Int32.ofInt 2) &&& Int32.toUInt32 31)).toInt32 &&& (Int32.ofNat 858993459))) >>> (Int32.toUInt32 (Int32.ofInt 4) &&& Int32.toUInt32 31)).toInt32) &&& (Int32.ofNat 252645135)) >>> (Int32.toUInt32 (Int8.ofInt 8).toInt32 &&& Int32.toUInt32 31)).toInt32) >>> (Int32.toUInt32 (Int8.ofInt 16).toInt32 &&& Int32.toUInt32 31)).toInt32) &&& (Int8.ofInt 63).toInt32)
theorem S_173 {L : Nat} (d : Nat) (a0 : Int32) (th : tH) : Wx L (fun x => (some (.int x), th)) d 173 1 0 [(0, .int a0)] [] th (m_173 a0 th) := by
  unfold m_173
  refine x_P 1 rfl rfl rfl ?_
  refine x_P 2 rfl rfl rfl ?_
  refine x_P 3 rfl rfl rfl ?_
  refine x_P 4 rfl rfl rfl ?_
  refine x_P 7 rfl rfl rfl ?_
  refine x_P 8 rfl rfl rfl ?_
  refine x_P 9 rfl rfl rfl ?_
  refine x_P (lv' := [(0, .int (a0 - ((Int32.toUInt32 a0 >>> (Int32.toUInt32 (Int32.ofInt 1) &&& Int32.toUInt32 31)).toInt32 &&& (Int32.ofNat 1431655765))))]) 10 rfl rfl rfl ?_
  refine x_P 11 rfl rfl rfl ?_
  refine x_P 14 rfl rfl rfl ?_
  refine x_P 15 rfl rfl rfl ?_
  refine x_P 16 rfl rfl rfl ?_
  refine x_P 17 rfl rfl rfl ?_
  refine x_P 18 rfl rfl rfl ?_
  refine x_P 21 rfl rfl rfl ?_
  refine x_P 22 rfl rfl rfl ?_
  refine x_P 23 rfl rfl rfl ?_
  refine x_P (lv' := [(0, .int (((a0 - ((Int32.toUInt32 a0 >>> (Int32.toUInt32 (Int32.ofInt 1) &&& Int32.toUInt32 31)).toInt32 &&& (Int32.ofNat 1431655765))) &&& (Int32.ofNat 858993459)) + ((Int32.toUInt32 (a0 - ((Int32.toUInt32 a0 >>> (Int32.toUInt32 (Int32.ofInt 1) &&& Int32.toUInt32 31)).toInt32 &&& (Int32.ofNat 1431655765))) >>> (Int32.toUInt32 (Int32.ofInt 2) &&& Int32.toUInt32 31)).toInt32 &&& (Int32.ofNat 858993459))))]) 24 rfl rfl rfl ?_
  refine x_P 25 rfl rfl rfl ?_
  refine x_P 26 rfl rfl rfl ?_
  refine x_P 27 rfl rfl rfl ?_
  refine x_P 28 rfl rfl rfl ?_
  refine x_P 29 rfl rfl rfl ?_
  refine x_P 32 rfl rfl rfl ?_
  refine x_P 33 rfl rfl rfl ?_
  refine x_P (lv' := [(0, .int (((((a0 - ((Int32.toUInt32 a0 >>> (Int32.toUInt32 (Int32.ofInt 1) &&& Int32.toUInt32 31)).toInt32 &&& (Int32.ofNat 1431655765))) &&& (Int32.ofNat 858993459)) + ((Int32.toUInt32 (a0 - ((Int32.toUInt32 a0 >>> (Int32.toUInt32 (Int32.ofInt 1) &&& Int32.toUInt32 31)).toInt32 &&& (Int32.ofNat 1431655765))) >>> (Int32.toUInt32 (Int32.ofInt 2) &&& Int32.toUInt32 31)).toInt32 &&& (Int32.ofNat 858993459))) + (Int32.toUInt32 (((a0 - ((Int32.toUInt32 a0 >>> (Int32.toUInt32 (Int32.ofInt 1) &&& Int32.toUInt32 31)).toInt32 &&& (Int32.ofNat 1431655765))) &&& (Int32.ofNat 858993459)) + ((Int32.toUInt32 (a0 - ((Int32.toUInt32 a0 >>> (Int32.toUInt32 (Int32.ofInt 1) &&& Int32.toUInt32 31)).toInt32 &&& (Int32.ofNat 1431655765))) >>> (Int32.toUInt32 (Int32.ofInt 2) &&& Int32.toUInt32 31)).toInt32 &&& (Int32.ofNat 858993459))) >>> (Int32.toUInt32 (Int32.ofInt 4) &&& Int32.toUInt32 31)).toInt32) &&& (Int32.ofNat 252645135)))]) 34 rfl rfl rfl ?_
  refine x_P 35 rfl rfl rfl ?_
  refine x_P 36 rfl rfl rfl ?_
  refine x_P 38 rfl rfl rfl ?_
  refine x_P 39 rfl rfl rfl ?_
  refine x_P 40 rfl rfl rfl ?_
  refine x_P (lv' := [(0, .int ((((((a0 - ((Int32.toUInt32 a0 >>> (Int32.toUInt32 (Int32.ofInt 1) &&& Int32.toUInt32 31)).toInt32 &&& (Int32.ofNat 1431655765))) &&& (Int32.ofNat 858993459)) + ((Int32.toUInt32 (a0 - ((Int32.toUInt32 a0 >>> (Int32.toUInt32 (Int32.ofInt 1) &&& Int32.toUInt32 31)).toInt32 &&& (Int32.ofNat 1431655765))) >>> (Int32.toUInt32 (Int32.ofInt 2) &&& Int32.toUInt32 31)).toInt32 &&& (Int32.ofNat 858993459))) + (Int32.toUInt32 (((a0 - ((Int32.toUInt32 a0 >>> (Int32.toUInt32 (Int32.ofInt 1) &&& Int32.toUInt32 31)).toInt32 &&& (Int32.ofNat 1431655765))) &&& (Int32.ofNat 858993459)) + ((Int32.toUInt32 (a0 - ((Int32.toUInt32 a0 >>> (Int32.toUInt32 (Int32.ofInt 1) &&& Int32.toUInt32 31)).toInt32 &&& (Int32.ofNat 1431655765))) >>> (Int32.toUInt32 (Int32.ofInt 2) &&& Int32.toUInt32 31)).toInt32 &&& (Int32.ofNat 858993459))) >>> (Int32.toUInt32 (Int32.ofInt 4) &&& Int32.toUInt32 31)).toInt32) &&& (Int32.ofNat 252645135)) + (Int32.toUInt32 (((((a0 - ((Int32.toUInt32 a0 >>> (Int32.toUInt32 (Int32.ofInt 1) &&& Int32.toUInt32 31)).toInt32 &&& (Int32.ofNat 1431655765))) &&& (Int32.ofNat 858993459)) + ((Int32.toUInt32 (a0 - ((Int32.toUInt32 a0 >>> (Int32.toUInt32 (Int32.ofInt 1) &&& Int32.toUInt32 31)).toInt32 &&& (Int32.ofNat 1431655765))) >>> (Int32.toUInt32 (Int32.ofInt 2) &&& Int32.toUInt32 31)).toInt32 &&& (Int32.ofNat 858993459))) + (Int32.toUInt32 (((a0 - ((Int32.toUInt32 a0 >>> (Int32.toUInt32 (Int32.ofInt 1) &&& Int32.toUInt32 31)).toInt32 &&& (Int32.ofNat 1431655765))) &&& (Int32.ofNat 858993459)) + ((Int32.toUInt32 (a0 - ((Int32.toUInt32 a0 >>> (Int32.toUInt32 (Int32.ofInt 1) &&& Int32.toUInt32 31)).toInt32 &&& (Int32.ofNat 1431655765))) >>> (Int32.toUInt32 (Int32.ofInt 2) &&& Int32.toUInt32 31)).toInt32 &&& (Int32.ofNat 858993459))) >>> (Int32.toUInt32 (Int32.ofInt 4) &&& Int32.toUInt32 31)).toInt32) &&& (Int32.ofNat 252645135)) >>> (Int32.toUInt32 (Int8.ofInt 8).toInt32 &&& Int32.toUInt32 31)).toInt32))]) 41 rfl rfl rfl ?_
  refine x_P 42 rfl rfl rfl ?_
  refine x_P 43 rfl rfl rfl ?_
  refine x_P 45 rfl rfl rfl ?_
  refine x_P 46 rfl rfl rfl ?_
  refine x_P 47 rfl rfl rfl ?_
  refine x_P (lv' := [(0, .int (((((((a0 - ((Int32.toUInt32 a0 >>> (Int32.toUInt32 (Int32.ofInt 1) &&& Int32.toUInt32 31)).toInt32 &&& (Int32.ofNat 1431655765))) &&& (Int32.ofNat 858993459)) + ((Int32.toUInt32 (a0 - ((Int32.toUInt32 a0 >>> (Int32.toUInt32 (Int32.ofInt 1) &&& Int32.toUInt32 31)).toInt32 &&& (Int32.ofNat 1431655765))) >>> (Int32.toUInt32 (Int32.ofInt 2) &&& Int32.toUInt32 31)).toInt32 &&& (Int32.ofNat 858993459))) + (Int32.toUInt32 (((a0 - ((Int32.toUInt32 a0 >>> (Int32.toUInt32 (Int32.ofInt 1) &&& Int32.toUInt32 31)).toInt32 &&& (Int32.ofNat 1431655765))) &&& (Int32.ofNat 858993459)) + ((Int32.toUInt32 (a0 - ((Int32.toUInt32 a0 >>> (Int32.toUInt32 (Int32.ofInt 1) &&& Int32.toUInt32 31)).toInt32 &&& (Int32.ofNat 1431655765))) >>> (Int32.toUInt32 (Int32.ofInt 2) &&& Int32.toUInt32 31)).toInt32 &&& (Int32.ofNat 858993459))) >>> (Int32.toUInt32 (Int32.ofInt 4) &&& Int32.toUInt32 31)).toInt32) &&& (Int32.ofNat 252645135)) + (Int32.toUInt32 (((((a0 - ((Int32.toUInt32 a0 >>> (Int32.toUInt32 (Int32.ofInt 1) &&& Int32.toUInt32 31)).toInt32 &&& (Int32.ofNat 1431655765))) &&& (Int32.ofNat 858993459)) + ((Int32.toUInt32 (a0 - ((Int32.toUInt32 a0 >>> (Int32.toUInt32 (Int32.ofInt 1) &&& Int32.toUInt32 31)).toInt32 &&& (Int32.ofNat 1431655765))) >>> (Int32.toUInt32 (Int32.ofInt 2) &&& Int32.toUInt32 31)).toInt32 &&& (Int32.ofNat 858993459))) + (Int32.toUInt32 (((a0 - ((Int32.toUInt32 a0 >>> (Int32.toUInt32 (Int32.ofInt 1) &&& Int32.toUInt32 31)).toInt32 &&& (Int32.ofNat 1431655765))) &&& (Int32.ofNat 858993459)) + ((Int32.toUInt32 (a0 - ((Int32.toUInt32 a0 >>> (Int32.toUInt32 (Int32.ofInt 1) &&& Int32.toUInt32 31)).toInt32 &&& (Int32.ofNat 1431655765))) >>> (Int32.toUInt32 (Int32.ofInt 2) &&& Int32.toUInt32 31)).toInt32 &&& (Int32.ofNat 858993459))) >>> (Int32.toUInt32 (Int32.ofInt 4) &&& Int32.toUInt32 31)).toInt32) &&& (Int32.ofNat 252645135)) >>> (Int32.toUInt32 (Int8.ofInt 8).toInt32 &&& Int32.toUInt32 31)).toInt32) + (Int32.toUInt32 ((((((a0 - ((Int32.toUInt32 a0 >>> (Int32.toUInt32 (Int32.ofInt 1) &&& Int32.toUInt32 31)).toInt32 &&& (Int32.ofNat 1431655765))) &&& (Int32.ofNat 858993459)) + ((Int32.toUInt32 (a0 - ((Int32.toUInt32 a0 >>> (Int32.toUInt32 (Int32.ofInt 1) &&& Int32.toUInt32 31)).toInt32 &&& (Int32.ofNat 1431655765))) >>> (Int32.toUInt32 (Int32.ofInt 2) &&& Int32.toUInt32 31)).toInt32 &&& (Int32.ofNat 858993459))) + (Int32.toUInt32 (((a0 - ((Int32.toUInt32 a0 >>> (Int32.toUInt32 (Int32.ofInt 1) &&& Int32.toUInt32 31)).toInt32 &&& (Int32.ofNat 1431655765))) &&& (Int32.ofNat 858993459)) + ((Int32.toUInt32 (a0 - ((Int32.toUInt32 a0 >>> (Int32.toUInt32 (Int32.ofInt 1) &&& Int32.toUInt32 31)).toInt32 &&& (Int32.ofNat 1431655765))) >>> (Int32.toUInt32 (Int32.ofInt 2) &&& Int32.toUInt32 31)).toInt32 &&& (Int32.ofNat 858993459))) >>> (Int32.toUInt32 (Int32.ofInt 4) &&& Int32.toUInt32 31)).toInt32) &&& (Int32.ofNat 252645135)) + (Int32.toUInt32 (((((a0 - ((Int32.toUInt32 a0 >>> (Int32.toUInt32 (Int32.ofInt 1) &&& Int32.toUInt32 31)).toInt32 &&& (Int32.ofNat 1431655765))) &&& (Int32.ofNat 858993459)) + ((Int32.toUInt32 (a0 - ((Int32.toUInt32 a0 >>> (Int32.toUInt32 (Int32.ofInt 1) &&& Int32.toUInt32 31)).toInt32 &&& (Int32.ofNat 1431655765))) >>> (Int32.toUInt32 (Int32.ofInt 2) &&& Int32.toUInt32 31)).toInt32 &&& (Int32.ofNat 858993459))) + (Int32.toUInt32 (((a0 - ((Int32.toUInt32 a0 >>> (Int32.toUInt32 (Int32.ofInt 1) &&& Int32.toUInt32 31)).toInt32 &&& (Int32.ofNat 1431655765))) &&& (Int32.ofNat 858993459)) + ((Int32.toUInt32 (a0 - ((Int32.toUInt32 a0 >>> (Int32.toUInt32 (Int32.ofInt 1) &&& Int32.toUInt32 31)).toInt32 &&& (Int32.ofNat 1431655765))) >>> (Int32.toUInt32 (Int32.ofInt 2) &&& Int32.toUInt32 31)).toInt32 &&& (Int32.ofNat 858993459))) >>> (Int32.toUInt32 (Int32.ofInt 4) &&& Int32.toUInt32 31)).toInt32) &&& (Int32.ofNat 252645135)) >>> (Int32.toUInt32 (Int8.ofInt 8).toInt32 &&& Int32.toUInt32 31)).toInt32) >>> (Int32.toUInt32 (Int8.ofInt 16).toInt32 &&& Int32.toUInt32 31)).toInt32))]) 48 rfl rfl rfl ?_
  refine x_P 49 rfl rfl rfl ?_
  refine x_P 51 rfl rfl rfl ?_
  refine x_P 52 rfl rfl rfl ?_
  exact x_retI (x := ((((((((a0 - ((Int32.toUInt32 a0 >>> (Int32.toUInt32 (Int32.ofInt 1) &&& Int32.toUInt32 31)).toInt32 &&& (Int32.ofNat 1431655765))) &&& (Int32.ofNat 858993459)) + ((Int32.toUInt32 (a0 - ((Int32.toUInt32 a0 >>> (Int32.toUInt32 (Int32.ofInt 1) &&& Int32.toUInt32 31)).toInt32 &&& (Int32.ofNat 1431655765))) >>> (Int32.toUInt32 (Int32.ofInt 2) &&& Int32.toUInt32 31)).toInt32 &&& (Int32.ofNat 858993459))) + (Int32.toUInt32 (((a0 - ((Int32.toUInt32 a0 >>> (Int32.toUInt32 (Int32.ofInt 1) &&& Int32.toUInt32 31)).toInt32 &&& (Int32.ofNat 1431655765))) &&& (Int32.ofNat 858993459)) + ((Int32.toUInt32 (a0 - ((Int32.toUInt32 a0 >>> (Int32.toUInt32 (Int32.ofInt 1) &&& Int32.toUInt32 31)).toInt32 &&& (Int32.ofNat 1431655765))) >>> (Int32.toUInt32 (Int32.ofInt 2) &&& Int32.toUInt32 31)).toInt32 &&& (Int32.ofNat 858993459))) >>> (Int32.toUInt32 (Int32.ofInt 4) &&& Int32.toUInt32 31)).toInt32) &&& (Int32.ofNat 252645135)) + (Int32.toUInt32 (((((a0 - ((Int32.toUInt32 a0 >>> (Int32.toUInt32 (Int32.ofInt 1) &&& Int32.toUInt32 31)).toInt32 &&& (Int32.ofNat 1431655765))) &&& (Int32.ofNat 858993459)) + ((Int32.toUInt32 (a0 - ((Int32.toUInt32 a0 >>> (Int32.toUInt32 (Int32.ofInt 1) &&& Int32.toUInt32 31)).toInt32 &&& (Int32.ofNat 1431655765))) >>> (Int32.toUInt32 (Int32.ofInt 2) &&& Int32.toUInt32 31)).toInt32 &&& (Int32.ofNat 858993459))) + (Int32.toUInt32 (((a0 - ((Int32.toUInt32 a0 >>> (Int32.toUInt32 (Int32.ofInt 1) &&& Int32.toUInt32 31)).toInt32 &&& (Int32.ofNat 1431655765))) &&& (Int32.ofNat 858993459)) + ((Int32.toUInt32 (a0 - ((Int32.toUInt32 a0 >>> (Int32.toUInt32 (Int32.ofInt 1) &&& Int32.toUInt32 31)).toInt32 &&& (Int32.ofNat 1431655765))) >>> (Int32.toUInt32 (Int32.ofInt 2) &&& Int32.toUInt32 31)).toInt32 &&& (Int32.ofNat 858993459))) >>> (Int32.toUInt32 (Int32.ofInt 4) &&& Int32.toUInt32 31)).toInt32) &&& (Int32.ofNat 252645135)) >>> (Int32.toUInt32 (Int8.ofInt 8).toInt32 &&& Int32.toUInt32 31)).toInt32) + (Int32.toUInt32 ((((((a0 - ((Int32.toUInt32 a0 >>> (Int32.toUInt32 (Int32.ofInt 1) &&& Int32.toUInt32 31)).toInt32 &&& (Int32.ofNat 1431655765))) &&& (Int32.ofNat 858993459)) + ((Int32.toUInt32 (a0 - ((Int32.toUInt32 a0 >>> (Int32.toUInt32 (Int32.ofInt 1) &&& Int32.toUInt32 31)).toInt32 &&& (Int32.ofNat 1431655765))) >>> (Int32.toUInt32 (Int32.ofInt 2) &&& Int32.toUInt32 31)).toInt32 &&& (Int32.ofNat 858993459))) + (Int32.toUInt32 (((a0 - ((Int32.toUInt32 a0 >>> (Int32.toUInt32 (Int32.ofInt 1) &&& Int32.toUInt32 31)).toInt32 &&& (Int32.ofNat 1431655765))) &&& (Int32.ofNat 858993459)) + ((Int32.toUInt32 (a0 - ((Int32.toUInt32 a0 >>> (Int32.toUInt32 (Int32.ofInt 1) &&& Int32.toUInt32 31)).toInt32 &&& (Int32.ofNat 1431655765))) >>> (Int32.toUInt32 (Int32.ofInt 2) &&& Int32.toUInt32 31)).toInt32 &&& (Int32.ofNat 858993459))) >>> (Int32.toUInt32 (Int32.ofInt 4) &&& Int32.toUInt32 31)).toInt32) &&& (Int32.ofNat 252645135)) + (Int32.toUInt32 (((((a0 - ((Int32.toUInt32 a0 >>> (Int32.toUInt32 (Int32.ofInt 1) &&& Int32.toUInt32 31)).toInt32 &&& (Int32.ofNat 1431655765))) &&& (Int32.ofNat 858993459)) + ((Int32.toUInt32 (a0 - ((Int32.toUInt32 a0 >>> (Int32.toUInt32 (Int32.ofInt 1) &&& Int32.toUInt32 31)).toInt32 &&& (Int32.ofNat 1431655765))) >>> (Int32.toUInt32 (Int32.ofInt 2) &&& Int32.toUInt32 31)).toInt32 &&& (Int32.ofNat 858993459))) + (Int32.toUInt32 (((a0 - ((Int32.toUInt32 a0 >>> (Int32.toUInt32 (Int32.ofInt 1) &&& Int32.toUInt32 31)).toInt32 &&& (Int32.ofNat 1431655765))) &&& (Int32.ofNat 858993459)) + ((Int32.toUInt32 (a0 - ((Int32.toUInt32 a0 >>> (Int32.toUInt32 (Int32.ofInt 1) &&& Int32.toUInt32 31)).toInt32 &&& (Int32.ofNat 1431655765))) >>> (Int32.toUInt32 (Int32.ofInt 2) &&& Int32.toUInt32 31)).toInt32 &&& (Int32.ofNat 858993459))) >>> (Int32.toUInt32 (Int32.ofInt 4) &&& Int32.toUInt32 31)).toInt32) &&& (Int32.ofNat 252645135)) >>> (Int32.toUInt32 (Int8.ofInt 8).toInt32 &&& Int32.toUInt32 31)).toInt32) >>> (Int32.toUInt32 (Int8.ofInt 16).toInt32 &&& Int32.toUInt32 31)).toInt32) &&& (Int8.ofInt 63).toInt32)) rfl
-- 107 NineTrees$RowList.countWith(II)I
noncomputable def m_107 (a0 : Nat) (a1 : Int32) (a2 : Int32) (th : tH) : Option (Int32) :=
  (gC th 4 a0).bind fun _ =>
  lp (fun (s1 : Int32 × Int32) nx2 ex3 =>
      (gI th 4 a0 1).bind fun x5 =>
      if x5 ≤ s1.2 then
        ex3 s1.1
      else
        (gN th 4 a0 0).bind fun o6 =>
        (aI th o6 s1.2).bind fun x7 =>
        jn (fun (v8 : Int32) =>
            nx2 (v8, (s1.2 + Int32.ofInt 1))
          ) (fun j9 =>
            if (x7 &&& ((Int32.ofInt 1) <<< (a1 &&& 31))) = 0 then
              j9 s1.1
            else
              (gN th 4 a0 0).bind fun o10 =>
              (aI th o10 s1.2).bind fun x11 =>
              (m_173 x11 th).bind fun x12 =>
              if x12 < a2 then
                j9 s1.1
              else
                j9 (s1.1 + Int32.ofInt 1)
          )
    ) 4096 ((Int32.ofInt 0), (Int32.ofInt 0)) (fun (x4 : Int32) =>
      some x4
    )
theorem c_107 {a0 : Nat} {a1 : Int32} {a2 : Int32} {th : tH} {x : (Int32)} (h : m_107 a0 a1 a2 th = some x) : ∃ fs, th[a0]? = some (.inr (4, fs)) := gC_of h
theorem S_107 {L : Nat} (d : Nat) (a0 : Nat) (a1 : Int32) (a2 : Int32) (th : tH) : Wx L (fun x => (some (.int x), th)) (d + 1) 107 5 0 [(0, .ref a0), (1, .int a1), (2, .int a2)] [] th (m_107 a0 a1 a2 th) := by
  unfold m_107
  refine x_gC ?_
  refine x_P 1 rfl rfl rfl ?_
  refine x_P (lv' := [(3, .int (Int32.ofInt 0)), (0, .ref a0), (1, .int a1), (2, .int a2)]) 2 rfl rfl rfl ?_
  refine x_P 3 rfl rfl rfl ?_
  refine x_P (lv' := [(4, .int (Int32.ofInt 0)), (3, .int (Int32.ofInt 0)), (0, .ref a0), (1, .int a1), (2, .int a2)]) 5 rfl rfl rfl ?_
  refine x_lv (lv := [(0, .ref a0), (1, .int a1), (2, .int a2), (3, .int (Int32.ofInt 0)), (4, .int (Int32.ofInt 0))]) (x_lp 51 (fun s1 => [(0, .ref a0), (1, .int a1), (2, .int a2), (3, .int s1.1), (4, .int s1.2)]) (fun s1 => th) (fun x4 => [(3, .int x4)]) (fun x4 => th) (fun s1 nx2 hnx2 ex3 hex3 => ?_) (fun x4 => ?_) 4096 ((Int32.ofInt 0), (Int32.ofInt 0))) ⟨rfl, rfl, rfl, rfl, rfl, trivial⟩
  · refine x_P 7 rfl rfl rfl ?_
    refine x_P 8 rfl rfl rfl ?_
    refine x_gI rfl (fun x5 hx5 => ?_)
    refine x_ic_ge rfl rfl (fun h15 => ?_) (fun h15 => ?_)
    · exact x_lv (hex3 s1.1) ⟨rfl, trivial⟩
    · refine x_P 15 rfl rfl rfl ?_
      refine x_gN rfl (fun o6 ho6 => ?_)
      refine x_P 20 rfl rfl rfl ?_
      refine x_aI rfl ⟨rfl, rfl⟩ (fun x7 hx7 => ?_)
      refine x_P 22 rfl rfl rfl ?_
      refine x_P 23 rfl rfl rfl ?_
      refine x_P 24 rfl rfl rfl ?_
      refine x_P 25 rfl rfl rfl ?_
      refine x_jn 45 (fun v8 => [(0, .ref a0), (1, .int a1), (2, .int a2), (3, .int v8), (4, .int s1.2)]) (fun v8 => []) (fun v8 => th) (fun v8 => ?_) (fun j9 hj9 => ?_)
      · refine x_P (lv' := [(4, .int (s1.2 + Int32.ofInt 1)), (0, .ref a0), (1, .int a1), (2, .int a2), (3, .int v8)]) 48 rfl rfl rfl ?_
        refine x_P 5 rfl rfl rfl ?_
        exact x_lv (hnx2 (v8, (s1.2 + Int32.ofInt 1))) ⟨rfl, rfl, rfl, rfl, rfl, trivial⟩
      · refine x_if_eq rfl rfl (fun h14 => ?_) (fun h14 => ?_)
        · exact x_lv (hj9 s1.1) ⟨rfl, rfl, rfl, rfl, rfl, trivial⟩
        · refine x_P 29 rfl rfl rfl ?_
          refine x_gN rfl (fun o10 ho10 => ?_)
          refine x_P 34 rfl rfl rfl ?_
          refine x_aI rfl ⟨rfl, rfl⟩ (fun x11 hx11 => ?_)
          refine x_callS rfl rfl rfl rfl rfl rfl ⟨rfl, rfl⟩ (S_173 d x11 th) (fun x12 hx12 => ?_)
          refine x_P 39 rfl rfl rfl ?_
          refine x_ic_lt rfl rfl (fun h13 => ?_) (fun h13 => ?_)
          · exact x_lv (hj9 s1.1) ⟨rfl, rfl, rfl, rfl, rfl, trivial⟩
          · refine x_P (lv' := [(3, .int (s1.1 + Int32.ofInt 1)), (0, .ref a0), (1, .int a1), (2, .int a2), (4, .int s1.2)]) 45 rfl rfl rfl ?_
            exact x_lv (hj9 (s1.1 + Int32.ofInt 1)) ⟨rfl, rfl, rfl, rfl, rfl, trivial⟩
  · refine x_P 52 rfl rfl rfl ?_
    exact x_retI (x := x4) rfl
-- 97 NineTrees$Garden.wishesWith(I)I
noncomputable def m_97 (a0 : Nat) (a1 : Int32) (th : tH) : Option (Int32) :=
  (gC th 2 a0).bind fun _ =>
  lp (fun (s1 : Int32 × Int32) nx2 ex3 =>
      (gI th 2 a0 6).bind fun x5 =>
      if x5 ≤ s1.2 then
        ex3 s1.1
      else
        (gN th 2 a0 3).bind fun o6 =>
        (aI th o6 s1.2).bind fun x7 =>
        jn (fun (v8 : Int32) =>
            nx2 (v8, (s1.2 + Int32.ofInt 1))
          ) (fun j9 =>
            if (x7 &&& ((Int32.ofInt 1) <<< (a1 &&& 31))) = 0 then
              j9 s1.1
            else
              j9 (s1.1 + Int32.ofInt 1)
          )
    ) 4096 ((Int32.ofInt 0), (Int32.ofInt 0)) (fun (x4 : Int32) =>
      some x4
    )
theorem c_97 {a0 : Nat} {a1 : Int32} {th : tH} {x : (Int32)} (h : m_97 a0 a1 th = some x) : ∃ fs, th[a0]? = some (.inr (2, fs)) := gC_of h
theorem S_97 {L : Nat} (d : Nat) (a0 : Nat) (a1 : Int32) (th : tH) : Wx L (fun x => (some (.int x), th)) d 97 4 0 [(0, .ref a0), (1, .int a1)] [] th (m_97 a0 a1 th) := by
  unfold m_97
  refine x_gC ?_
  refine x_P 1 rfl rfl rfl ?_
  refine x_P (lv' := [(2, .int (Int32.ofInt 0)), (0, .ref a0), (1, .int a1)]) 2 rfl rfl rfl ?_
  refine x_P 3 rfl rfl rfl ?_
  refine x_P (lv' := [(3, .int (Int32.ofInt 0)), (2, .int (Int32.ofInt 0)), (0, .ref a0), (1, .int a1)]) 4 rfl rfl rfl ?_
  refine x_lv (lv := [(0, .ref a0), (1, .int a1), (2, .int (Int32.ofInt 0)), (3, .int (Int32.ofInt 0))]) (x_lp 34 (fun s1 => [(0, .ref a0), (1, .int a1), (2, .int s1.1), (3, .int s1.2)]) (fun s1 => th) (fun x4 => [(2, .int x4)]) (fun x4 => th) (fun s1 nx2 hnx2 ex3 hex3 => ?_) (fun x4 => ?_) 4096 ((Int32.ofInt 0), (Int32.ofInt 0))) ⟨rfl, rfl, rfl, rfl, trivial⟩
  · refine x_P 5 rfl rfl rfl ?_
    refine x_P 6 rfl rfl rfl ?_
    refine x_gI rfl (fun x5 hx5 => ?_)
    refine x_ic_ge rfl rfl (fun h11 => ?_) (fun h11 => ?_)
    · exact x_lv (hex3 s1.1) ⟨rfl, trivial⟩
    · refine x_P 13 rfl rfl rfl ?_
      refine x_gN rfl (fun o6 ho6 => ?_)
      refine x_P 17 rfl rfl rfl ?_
      refine x_aI rfl ⟨rfl, rfl⟩ (fun x7 hx7 => ?_)
      refine x_P 19 rfl rfl rfl ?_
      refine x_P 20 rfl rfl rfl ?_
      refine x_P 21 rfl rfl rfl ?_
      refine x_P 22 rfl rfl rfl ?_
      refine x_jn 28 (fun v8 => [(0, .ref a0), (1, .int a1), (2, .int v8), (3, .int s1.2)]) (fun v8 => []) (fun v8 => th) (fun v8 => ?_) (fun j9 hj9 => ?_)
      · refine x_P (lv' := [(3, .int (s1.2 + Int32.ofInt 1)), (0, .ref a0), (1, .int a1), (2, .int v8)]) 31 rfl rfl rfl ?_
        refine x_P 4 rfl rfl rfl ?_
        exact x_lv (hnx2 (v8, (s1.2 + Int32.ofInt 1))) ⟨rfl, rfl, rfl, rfl, trivial⟩
      · refine x_if_eq rfl rfl (fun h10 => ?_) (fun h10 => ?_)
        · exact x_lv (hj9 s1.1) ⟨rfl, rfl, rfl, rfl, trivial⟩
        · refine x_P (lv' := [(2, .int (s1.1 + Int32.ofInt 1)), (0, .ref a0), (1, .int a1), (3, .int s1.2)]) 28 rfl rfl rfl ?_
          exact x_lv (hj9 (s1.1 + Int32.ofInt 1)) ⟨rfl, rfl, rfl, rfl, trivial⟩
  · refine x_P 35 rfl rfl rfl ?_
    exact x_retI (x := x4) rfl
-- 80 NineTrees$Garden.isBetween(III)Z
noncomputable def m_80 (a0 : Nat) (a1 : Int32) (a2 : Int32) (a3 : Int32) (th : tH) : Option (Int32) :=
  (gC th 2 a0).bind fun _ =>
  (m_79 a0 a1 a2 a3 th).bind fun x1 =>
  if x1 = 0 then
    (m_72 a0 a2 th).bind fun x2 =>
    (m_72 a0 a1 th).bind fun x3 =>
    (m_72 a0 a3 th).bind fun x4 =>
    (m_72 a0 a1 th).bind fun x5 =>
    (m_73 a0 a2 th).bind fun x6 =>
    (m_73 a0 a1 th).bind fun x7 =>
    (m_73 a0 a3 th).bind fun x8 =>
    (m_73 a0 a1 th).bind fun x9 =>
    jn (fun (v10 : Int32) =>
        rB v10
      ) (fun j11 =>
        if 0 ≤ (((x2 - x3) * (x4 - x5)) + ((x6 - x7) * (x8 - x9))) then
          j11 (Int32.ofInt 0)
        else
          j11 (Int32.ofInt 1)
      )
  else
    rB (Int32.ofInt 0)
theorem c_80 {a0 : Nat} {a1 : Int32} {a2 : Int32} {a3 : Int32} {th : tH} {x : (Int32)} (h : m_80 a0 a1 a2 a3 th = some x) : ∃ fs, th[a0]? = some (.inr (2, fs)) := gC_of h
theorem S_80 {L : Nat} (d : Nat) (a0 : Nat) (a1 : Int32) (a2 : Int32) (a3 : Int32) (th : tH) : Wx L (fun x => (some (.int x), th)) (d + 2) 80 6 0 [(0, .ref a0), (1, .int a1), (2, .int a2), (3, .int a3)] [] th (m_80 a0 a1 a2 a3 th) := by
  unfold m_80
  refine x_gC ?_
  refine x_P 1 rfl rfl rfl ?_
  refine x_P 2 rfl rfl rfl ?_
  refine x_P 3 rfl rfl rfl ?_
  refine x_P 4 rfl rfl rfl ?_
  refine x_callV rfl rfl rfl rfl rfl ⟨rfl, rfl⟩ (fun x h => c_79 h) (S_79 d a0 a1 a2 a3 th) (fun x1 hx1 => ?_)
  refine x_if_eq rfl rfl (fun h13 => ?_) (fun h13 => ?_)
  · refine x_P 13 rfl rfl rfl ?_
    refine x_P 14 rfl rfl rfl ?_
    refine x_callV rfl rfl rfl rfl rfl ⟨rfl, rfl⟩ (fun x h => c_72 h) (S_72 (d + 1) a0 a2 th) (fun x2 hx2 => ?_)
    refine x_P 18 rfl rfl rfl ?_
    refine x_P 19 rfl rfl rfl ?_
    refine x_callV rfl rfl rfl rfl rfl ⟨rfl, rfl⟩ (fun x h => c_72 h) (S_72 (d + 1) a0 a1 th) (fun x3 hx3 => ?_)
    refine x_P 23 rfl rfl rfl ?_
    refine x_P 24 rfl rfl rfl ?_
    refine x_P 25 rfl rfl rfl ?_
    refine x_callV rfl rfl rfl rfl rfl ⟨rfl, rfl⟩ (fun x h => c_72 h) (S_72 (d + 1) a0 a3 th) (fun x4 hx4 => ?_)
    refine x_P 29 rfl rfl rfl ?_
    refine x_P 30 rfl rfl rfl ?_
    refine x_callV rfl rfl rfl rfl rfl ⟨rfl, rfl⟩ (fun x h => c_72 h) (S_72 (d + 1) a0 a1 th) (fun x5 hx5 => ?_)
    refine x_P 34 rfl rfl rfl ?_
    refine x_P 35 rfl rfl rfl ?_
    refine x_P (lv' := [(4, .int ((x2 - x3) * (x4 - x5))), (0, .ref a0), (1, .int a1), (2, .int a2), (3, .int a3)]) 37 rfl rfl rfl ?_
    refine x_P 38 rfl rfl rfl ?_
    refine x_P 39 rfl rfl rfl ?_
    refine x_callV rfl rfl rfl rfl rfl ⟨rfl, rfl⟩ (fun x h => c_73 h) (S_73 (d + 1) a0 a2 th) (fun x6 hx6 => ?_)
    refine x_P 43 rfl rfl rfl ?_
    refine x_P 44 rfl rfl rfl ?_
    refine x_callV rfl rfl rfl rfl rfl ⟨rfl, rfl⟩ (fun x h => c_73 h) (S_73 (d + 1) a0 a1 th) (fun x7 hx7 => ?_)
    refine x_P 48 rfl rfl rfl ?_
    refine x_P 49 rfl rfl rfl ?_
    refine x_P 50 rfl rfl rfl ?_
    refine x_callV rfl rfl rfl rfl rfl ⟨rfl, rfl⟩ (fun x h => c_73 h) (S_73 (d + 1) a0 a3 th) (fun x8 hx8 => ?_)
    refine x_P 54 rfl rfl rfl ?_
    refine x_P 55 rfl rfl rfl ?_
    refine x_callV rfl rfl rfl rfl rfl ⟨rfl, rfl⟩ (fun x h => c_73 h) (S_73 (d + 1) a0 a1 th) (fun x9 hx9 => ?_)
    refine x_P 59 rfl rfl rfl ?_
    refine x_P 60 rfl rfl rfl ?_
    refine x_P (lv' := [(5, .int ((x6 - x7) * (x8 - x9))), (4, .int ((x2 - x3) * (x4 - x5))), (0, .ref a0), (1, .int a1), (2, .int a2), (3, .int a3)]) 62 rfl rfl rfl ?_
    refine x_P 64 rfl rfl rfl ?_
    refine x_P 66 rfl rfl rfl ?_
    refine x_P 67 rfl rfl rfl ?_
    refine x_jn 75 (fun v10 => []) (fun v10 => [.int v10]) (fun v10 => th) (fun v10 => ?_) (fun j11 hj11 => ?_)
    · exact x_rB rfl
    · refine x_if_ge rfl rfl (fun h12 => ?_) (fun h12 => ?_)
      · refine x_P 75 rfl rfl rfl ?_
        exact x_lv (hj11 (Int32.ofInt 0)) trivial
      · refine x_P 71 rfl rfl rfl ?_
        refine x_P 75 rfl rfl rfl ?_
        exact x_lv (hj11 (Int32.ofInt 1)) trivial
  · refine x_P 11 rfl rfl rfl ?_
    exact x_rB rfl
-- 77 NineTrees$Garden.distance(II)I
noncomputable def m_77 (a0 : Nat) (a1 : Int32) (a2 : Int32) (th : tH) : Option (Int32) :=
  (gC th 2 a0).bind fun _ =>
  (m_72 a0 a1 th).bind fun x1 =>
  (m_72 a0 a2 th).bind fun x2 =>
  (m_73 a0 a1 th).bind fun x3 =>
  (m_73 a0 a2 th).bind fun x4 =>
  some ((abI (x1 - x2)) + (abI (x3 - x4)))
theorem c_77 {a0 : Nat} {a1 : Int32} {a2 : Int32} {th : tH} {x : (Int32)} (h : m_77 a0 a1 a2 th = some x) : ∃ fs, th[a0]? = some (.inr (2, fs)) := gC_of h
theorem S_77 {L : Nat} (d : Nat) (a0 : Nat) (a1 : Int32) (a2 : Int32) (th : tH) : Wx L (fun x => (some (.int x), th)) (d + 1) 77 3 0 [(0, .ref a0), (1, .int a1), (2, .int a2)] [] th (m_77 a0 a1 a2 th) := by
  unfold m_77
  refine x_gC ?_
  refine x_P 1 rfl rfl rfl ?_
  refine x_P 2 rfl rfl rfl ?_
  refine x_callV rfl rfl rfl rfl rfl ⟨rfl, rfl⟩ (fun x h => c_72 h) (S_72 d a0 a1 th) (fun x1 hx1 => ?_)
  refine x_P 6 rfl rfl rfl ?_
  refine x_P 7 rfl rfl rfl ?_
  refine x_callV rfl rfl rfl rfl rfl ⟨rfl, rfl⟩ (fun x h => c_72 h) (S_72 d a0 a2 th) (fun x2 hx2 => ?_)
  refine x_P 11 rfl rfl rfl ?_
  refine x_Mabs rfl rfl ?_
  refine x_P 15 rfl rfl rfl ?_
  refine x_P 16 rfl rfl rfl ?_
  refine x_callV rfl rfl rfl rfl rfl ⟨rfl, rfl⟩ (fun x h => c_73 h) (S_73 d a0 a1 th) (fun x3 hx3 => ?_)
  refine x_P 20 rfl rfl rfl ?_
  refine x_P 21 rfl rfl rfl ?_
  refine x_callV rfl rfl rfl rfl rfl ⟨rfl, rfl⟩ (fun x h => c_73 h) (S_73 d a0 a2 th) (fun x4 hx4 => ?_)
  refine x_P 25 rfl rfl rfl ?_
  refine x_Mabs rfl rfl ?_
  refine x_P 29 rfl rfl rfl ?_
  exact x_retI (x := ((abI (x1 - x2)) + (abI (x3 - x4)))) rfl
-- 144 NineTrees$Sight.isNearer(LNineTrees$Garden;III)Z
noncomputable def m_144 (a0 : Nat) (a1 : Int32) (a2 : Int32) (a3 : Int32) (th : tH) : Option (Int32) :=
  (gN th 2 a0 1).bind fun o1 =>
  (aI th o1 a1).bind fun x2 =>
  (m_77 a0 x2 a3 th).bind fun x3 =>
  (gN th 2 a0 1).bind fun o4 =>
  (aI th o4 a2).bind fun x5 =>
  (m_77 a0 x5 a3 th).bind fun x6 =>
  jn (fun (v7 : Int32) =>
      rB v7
    ) (fun j8 =>
      if x6 ≤ x3 then
        j8 (Int32.ofInt 0)
      else
        j8 (Int32.ofInt 1)
    )
theorem S_144 {L : Nat} (d : Nat) (a0 : Nat) (a1 : Int32) (a2 : Int32) (a3 : Int32) (th : tH) : Wx L (fun x => (some (.int x), th)) (d + 2) 144 4 0 [(0, .ref a0), (1, .int a1), (2, .int a2), (3, .int a3)] [] th (m_144 a0 a1 a2 a3 th) := by
  unfold m_144
  refine x_P 1 rfl rfl rfl ?_
  refine x_P 2 rfl rfl rfl ?_
  refine x_gN rfl (fun o1 ho1 => ?_)
  refine x_P 6 rfl rfl rfl ?_
  refine x_aI rfl ⟨rfl, rfl⟩ (fun x2 hx2 => ?_)
  refine x_P 8 rfl rfl rfl ?_
  refine x_callV rfl rfl rfl rfl rfl ⟨rfl, rfl⟩ (fun x h => c_77 h) (S_77 d a0 x2 a3 th) (fun x3 hx3 => ?_)
  refine x_P 12 rfl rfl rfl ?_
  refine x_P 13 rfl rfl rfl ?_
  refine x_gN rfl (fun o4 ho4 => ?_)
  refine x_P 17 rfl rfl rfl ?_
  refine x_aI rfl ⟨rfl, rfl⟩ (fun x5 hx5 => ?_)
  refine x_P 19 rfl rfl rfl ?_
  refine x_callV rfl rfl rfl rfl rfl ⟨rfl, rfl⟩ (fun x h => c_77 h) (S_77 d a0 x5 a3 th) (fun x6 hx6 => ?_)
  refine x_jn 30 (fun v7 => []) (fun v7 => [.int v7]) (fun v7 => th) (fun v7 => ?_) (fun j8 hj8 => ?_)
  · exact x_rB rfl
  · refine x_ic_ge rfl rfl (fun h9 => ?_) (fun h9 => ?_)
    · refine x_P 30 rfl rfl rfl ?_
      exact x_lv (hj8 (Int32.ofInt 0)) trivial
    · refine x_P 26 rfl rfl rfl ?_
      refine x_P 30 rfl rfl rfl ?_
      exact x_lv (hj8 (Int32.ofInt 1)) trivial
-- 143 NineTrees$Sight.hider(LNineTrees$Garden;II)I
noncomputable def m_143 (a0 : Nat) (a1 : Int32) (a2 : Int32) (th : tH) : Option (Int32) :=
  lp (fun (s1 : Int32 × Int32) nx2 ex3 =>
      (gI th 2 a0 5).bind fun x5 =>
      if x5 ≤ s1.2 then
        ex3 s1.1
      else
        (m_85 a0 s1.2 (Int32.ofInt 2) th).bind fun x6 =>
        jn (fun (v7 : Int32) =>
            nx2 (v7, (s1.2 + Int32.ofInt 1))
          ) (fun j8 =>
            if x6 = 0 then
              (gN th 2 a0 1).bind fun o9 =>
              (aI th o9 s1.2).bind fun x10 =>
              (gN th 2 a0 1).bind fun o11 =>
              (aI th o11 a1).bind fun x12 =>
              (m_80 a0 x10 x12 a2 th).bind fun x13 =>
              if x13 = 0 then
                j8 s1.1
              else
                jn (fun (v14 : Unit) =>
                    j8 s1.2
                  ) (fun j15 =>
                    if s1.1 = (Int32.ofInt (-1)) then
                      j15 ()
                    else
                      (m_144 a0 s1.2 s1.1 a2 th).bind fun x16 =>
                      if x16 = 0 then
                        j8 s1.1
                      else
                        j15 ()
                  )
            else
              j8 s1.1
          )
    ) 4096 ((Int32.ofInt (-1)), (Int32.ofInt 0)) (fun (x4 : Int32) =>
      some x4
    )
theorem S_143 {L : Nat} (d : Nat) (a0 : Nat) (a1 : Int32) (a2 : Int32) (th : tH) : Wx L (fun x => (some (.int x), th)) (d + 3) 143 5 0 [(0, .ref a0), (1, .int a1), (2, .int a2)] [] th (m_143 a0 a1 a2 th) := by
  unfold m_143
  refine x_P 1 rfl rfl rfl ?_
  refine x_P (lv' := [(3, .int (Int32.ofInt (-1))), (0, .ref a0), (1, .int a1), (2, .int a2)]) 2 rfl rfl rfl ?_
  refine x_P 3 rfl rfl rfl ?_
  refine x_P (lv' := [(4, .int (Int32.ofInt 0)), (3, .int (Int32.ofInt (-1))), (0, .ref a0), (1, .int a1), (2, .int a2)]) 5 rfl rfl rfl ?_
  refine x_lv (lv := [(0, .ref a0), (1, .int a1), (2, .int a2), (3, .int (Int32.ofInt (-1))), (4, .int (Int32.ofInt 0))]) (x_lp 70 (fun s1 => [(0, .ref a0), (1, .int a1), (2, .int a2), (3, .int s1.1), (4, .int s1.2)]) (fun s1 => th) (fun x4 => [(3, .int x4)]) (fun x4 => th) (fun s1 nx2 hnx2 ex3 hex3 => ?_) (fun x4 => ?_) 4096 ((Int32.ofInt (-1)), (Int32.ofInt 0))) ⟨rfl, rfl, rfl, rfl, rfl, trivial⟩
  · refine x_P 7 rfl rfl rfl ?_
    refine x_P 8 rfl rfl rfl ?_
    refine x_gI rfl (fun x5 hx5 => ?_)
    refine x_ic_ge rfl rfl (fun h21 => ?_) (fun h21 => ?_)
    · exact x_lv (hex3 s1.1) ⟨rfl, trivial⟩
    · refine x_P 15 rfl rfl rfl ?_
      refine x_P 17 rfl rfl rfl ?_
      refine x_P 18 rfl rfl rfl ?_
      refine x_callV rfl rfl rfl rfl rfl ⟨rfl, rfl⟩ (fun x h => c_85 h) (S_85 (d + 2) a0 s1.2 (Int32.ofInt 2) th) (fun x6 hx6 => ?_)
      refine x_jn 64 (fun v7 => [(0, .ref a0), (1, .int a1), (2, .int a2), (3, .int v7), (4, .int s1.2)]) (fun v7 => []) (fun v7 => th) (fun v7 => ?_) (fun j8 hj8 => ?_)
      · refine x_P (lv' := [(4, .int (s1.2 + Int32.ofInt 1)), (0, .ref a0), (1, .int a1), (2, .int a2), (3, .int v7)]) 67 rfl rfl rfl ?_
        refine x_P 5 rfl rfl rfl ?_
        exact x_lv (hnx2 (v7, (s1.2 + Int32.ofInt 1))) ⟨rfl, rfl, rfl, rfl, rfl, trivial⟩
      · refine x_if_ne rfl rfl (fun h20 => ?_) (fun h20 => ?_)
        · refine x_P 25 rfl rfl rfl ?_
          refine x_P 26 rfl rfl rfl ?_
          refine x_gN rfl (fun o9 ho9 => ?_)
          refine x_P 31 rfl rfl rfl ?_
          refine x_aI rfl ⟨rfl, rfl⟩ (fun x10 hx10 => ?_)
          refine x_P 33 rfl rfl rfl ?_
          refine x_gN rfl (fun o11 ho11 => ?_)
          refine x_P 37 rfl rfl rfl ?_
          refine x_aI rfl ⟨rfl, rfl⟩ (fun x12 hx12 => ?_)
          refine x_P 39 rfl rfl rfl ?_
          refine x_callV rfl rfl rfl rfl rfl ⟨rfl, rfl⟩ (fun x h => c_80 h) (S_80 d a0 x10 x12 a2 th) (fun x13 hx13 => ?_)
          refine x_if_eq rfl rfl (fun h19 => ?_) (fun h19 => ?_)
          · exact x_lv (hj8 s1.1) ⟨rfl, rfl, rfl, rfl, rfl, trivial⟩
          · refine x_P 46 rfl rfl rfl ?_
            refine x_P 47 rfl rfl rfl ?_
            refine x_jn 61 (fun v14 => [(0, .ref a0), (1, .int a1), (2, .int a2), (4, .int s1.2)]) (fun v14 => []) (fun v14 => th) (fun v14 => ?_) (fun j15 hj15 => ?_)
            · refine x_P 63 rfl rfl rfl ?_
              refine x_P (lv' := [(3, .int s1.2), (0, .ref a0), (1, .int a1), (2, .int a2), (4, .int s1.2)]) 64 rfl rfl rfl ?_
              exact x_lv (hj8 s1.2) ⟨rfl, rfl, rfl, rfl, rfl, trivial⟩
            · refine x_ic_eq rfl rfl (fun h18 => ?_) (fun h18 => ?_)
              · exact x_lv (hj15 ()) ⟨rfl, rfl, rfl, rfl, trivial⟩
              · refine x_P 51 rfl rfl rfl ?_
                refine x_P 53 rfl rfl rfl ?_
                refine x_P 54 rfl rfl rfl ?_
                refine x_P 55 rfl rfl rfl ?_
                refine x_callS rfl rfl rfl rfl rfl rfl ⟨rfl, rfl⟩ (S_144 d a0 s1.2 s1.1 a2 th) (fun x16 hx16 => ?_)
                refine x_if_eq rfl rfl (fun h17 => ?_) (fun h17 => ?_)
                · exact x_lv (hj8 s1.1) ⟨rfl, rfl, rfl, rfl, rfl, trivial⟩
                · exact x_lv (hj15 ()) ⟨rfl, rfl, rfl, rfl, trivial⟩
        · exact x_lv (hj8 s1.1) ⟨rfl, rfl, rfl, rfl, rfl, trivial⟩
  · refine x_P 71 rfl rfl rfl ?_
    exact x_retI (x := x4) rfl
-- 145 NineTrees$Sight.isSeen(LNineTrees$Garden;II)Z
noncomputable def m_145 (a0 : Nat) (a1 : Int32) (a2 : Int32) (th : tH) : Option (Int32) :=
  (gN th 2 a0 1).bind fun o1 =>
  (aI th o1 a1).bind fun x2 =>
  jn (fun (v3 : Int32) =>
      rB v3
    ) (fun j4 =>
      jn (fun (v5 : Unit) =>
          j4 (Int32.ofInt 0)
        ) (fun j6 =>
          if x2 = a2 then
            j6 ()
          else
            (m_143 a0 a1 a2 th).bind fun x7 =>
            if x7 = (Int32.ofInt (-1)) then
              j4 (Int32.ofInt 1)
            else
              j6 ()
        )
    )
theorem S_145 {L : Nat} (d : Nat) (a0 : Nat) (a1 : Int32) (a2 : Int32) (th : tH) : Wx L (fun x => (some (.int x), th)) (d + 4) 145 3 0 [(0, .ref a0), (1, .int a1), (2, .int a2)] [] th (m_145 a0 a1 a2 th) := by
  unfold m_145
  refine x_P 1 rfl rfl rfl ?_
  refine x_gN rfl (fun o1 ho1 => ?_)
  refine x_P 5 rfl rfl rfl ?_
  refine x_aI rfl ⟨rfl, rfl⟩ (fun x2 hx2 => ?_)
  refine x_P 7 rfl rfl rfl ?_
  refine x_jn 25 (fun v3 => []) (fun v3 => [.int v3]) (fun v3 => th) (fun v3 => ?_) (fun j4 hj4 => ?_)
  · exact x_rB rfl
  · refine x_jn 24 (fun v5 => []) (fun v5 => []) (fun v5 => th) (fun v5 => ?_) (fun j6 hj6 => ?_)
    · refine x_P 25 rfl rfl rfl ?_
      exact x_lv (hj4 (Int32.ofInt 0)) trivial
    · refine x_ic_eq rfl rfl (fun h9 => ?_) (fun h9 => ?_)
      · exact x_lv (hj6 ()) trivial
      · refine x_P 11 rfl rfl rfl ?_
        refine x_P 12 rfl rfl rfl ?_
        refine x_P 13 rfl rfl rfl ?_
        refine x_callS rfl rfl rfl rfl rfl rfl ⟨rfl, rfl⟩ (S_143 d a0 a1 a2 th) (fun x7 hx7 => ?_)
        refine x_P 17 rfl rfl rfl ?_
        refine x_ic_ne rfl rfl (fun h8 => ?_) (fun h8 => ?_)
        · refine x_P 21 rfl rfl rfl ?_
          refine x_P 25 rfl rfl rfl ?_
          exact x_lv (hj4 (Int32.ofInt 1)) trivial
        · exact x_lv (hj6 ()) trivial
-- 148 NineTrees$Sight.seers(LNineTrees$Garden;I)I
noncomputable def m_148 (a0 : Nat) (a1 : Int32) (th : tH) : Option (Int32) :=
  lp (fun (s1 : Int32 × Int32) nx2 ex3 =>
      (gI th 2 a0 5).bind fun x5 =>
      if x5 ≤ s1.2 then
        ex3 s1.1
      else
        (gN th 2 a0 1).bind fun o6 =>
        (aI th o6 s1.2).bind fun x7 =>
        (m_145 a0 a1 x7 th).bind fun x8 =>
        jn (fun (v9 : Int32) =>
            nx2 (v9, (s1.2 + Int32.ofInt 1))
          ) (fun j10 =>
            if x8 = 0 then
              j10 s1.1
            else
              j10 (s1.1 + Int32.ofInt 1)
          )
    ) 4096 ((Int32.ofInt 0), (Int32.ofInt 0)) (fun (x4 : Int32) =>
      some x4
    )
theorem S_148 {L : Nat} (d : Nat) (a0 : Nat) (a1 : Int32) (th : tH) : Wx L (fun x => (some (.int x), th)) (d + 5) 148 4 0 [(0, .ref a0), (1, .int a1)] [] th (m_148 a0 a1 th) := by
  unfold m_148
  refine x_P 1 rfl rfl rfl ?_
  refine x_P (lv' := [(2, .int (Int32.ofInt 0)), (0, .ref a0), (1, .int a1)]) 2 rfl rfl rfl ?_
  refine x_P 3 rfl rfl rfl ?_
  refine x_P (lv' := [(3, .int (Int32.ofInt 0)), (2, .int (Int32.ofInt 0)), (0, .ref a0), (1, .int a1)]) 4 rfl rfl rfl ?_
  refine x_lv (lv := [(0, .ref a0), (1, .int a1), (2, .int (Int32.ofInt 0)), (3, .int (Int32.ofInt 0))]) (x_lp 35 (fun s1 => [(0, .ref a0), (1, .int a1), (2, .int s1.1), (3, .int s1.2)]) (fun s1 => th) (fun x4 => [(2, .int x4)]) (fun x4 => th) (fun s1 nx2 hnx2 ex3 hex3 => ?_) (fun x4 => ?_) 4096 ((Int32.ofInt 0), (Int32.ofInt 0))) ⟨rfl, rfl, rfl, rfl, trivial⟩
  · refine x_P 5 rfl rfl rfl ?_
    refine x_P 6 rfl rfl rfl ?_
    refine x_gI rfl (fun x5 hx5 => ?_)
    refine x_ic_ge rfl rfl (fun h12 => ?_) (fun h12 => ?_)
    · exact x_lv (hex3 s1.1) ⟨rfl, trivial⟩
    · refine x_P 13 rfl rfl rfl ?_
      refine x_P 14 rfl rfl rfl ?_
      refine x_P 15 rfl rfl rfl ?_
      refine x_gN rfl (fun o6 ho6 => ?_)
      refine x_P 19 rfl rfl rfl ?_
      refine x_aI rfl ⟨rfl, rfl⟩ (fun x7 hx7 => ?_)
      refine x_callS rfl rfl rfl rfl rfl rfl ⟨rfl, rfl⟩ (S_145 d a0 a1 x7 th) (fun x8 hx8 => ?_)
      refine x_jn 29 (fun v9 => [(0, .ref a0), (1, .int a1), (2, .int v9), (3, .int s1.2)]) (fun v9 => []) (fun v9 => th) (fun v9 => ?_) (fun j10 hj10 => ?_)
      · refine x_P (lv' := [(3, .int (s1.2 + Int32.ofInt 1)), (0, .ref a0), (1, .int a1), (2, .int v9)]) 32 rfl rfl rfl ?_
        refine x_P 4 rfl rfl rfl ?_
        exact x_lv (hnx2 (v9, (s1.2 + Int32.ofInt 1))) ⟨rfl, rfl, rfl, rfl, trivial⟩
      · refine x_if_eq rfl rfl (fun h11 => ?_) (fun h11 => ?_)
        · exact x_lv (hj10 s1.1) ⟨rfl, rfl, rfl, rfl, trivial⟩
        · refine x_P (lv' := [(2, .int (s1.1 + Int32.ofInt 1)), (0, .ref a0), (1, .int a1), (3, .int s1.2)]) 29 rfl rfl rfl ?_
          exact x_lv (hj10 (s1.1 + Int32.ofInt 1)) ⟨rfl, rfl, rfl, rfl, trivial⟩
  · refine x_P 36 rfl rfl rfl ?_
    exact x_retI (x := x4) rfl
-- 128 NineTrees$Shapes.nearestTo(LNineTrees$Garden;I)I
noncomputable def m_128 (a0 : Nat) (a1 : Int32) (th : tH) : Option (Int32) :=
  lp (fun (s1 : Int32 × Int32) nx2 ex3 =>
      (gI th 2 a0 5).bind fun x5 =>
      if x5 ≤ s1.2 then
        ex3 s1.1
      else
        (gN th 2 a0 1).bind fun o6 =>
        (aI th o6 s1.2).bind fun x7 =>
        (gN th 2 a0 1).bind fun o8 =>
        (aI th o8 a1).bind fun x9 =>
        (m_77 a0 x7 x9 th).bind fun x10 =>
        jn (fun (v11 : Int32) =>
            nx2 (v11, (s1.2 + Int32.ofInt 1))
          ) (fun j12 =>
            if s1.2 = a1 then
              j12 s1.1
            else
              jn (fun (v13 : Unit) =>
                  j12 x10
                ) (fun j14 =>
                  if s1.1 = 0 then
                    j14 ()
                  else
                    if s1.1 ≤ x10 then
                      j12 s1.1
                    else
                      j14 ()
                )
          )
    ) 4096 ((Int32.ofInt 0), (Int32.ofInt 0)) (fun (x4 : Int32) =>
      some x4
    )
theorem S_128 {L : Nat} (d : Nat) (a0 : Nat) (a1 : Int32) (th : tH) : Wx L (fun x => (some (.int x), th)) (d + 2) 128 5 0 [(0, .ref a0), (1, .int a1)] [] th (m_128 a0 a1 th) := by
  unfold m_128
  refine x_P 1 rfl rfl rfl ?_
  refine x_P (lv' := [(2, .int (Int32.ofInt 0)), (0, .ref a0), (1, .int a1)]) 2 rfl rfl rfl ?_
  refine x_P 3 rfl rfl rfl ?_
  refine x_P (lv' := [(3, .int (Int32.ofInt 0)), (2, .int (Int32.ofInt 0)), (0, .ref a0), (1, .int a1)]) 4 rfl rfl rfl ?_
  refine x_lv (lv := [(0, .ref a0), (1, .int a1), (2, .int (Int32.ofInt 0)), (3, .int (Int32.ofInt 0))]) (x_lp 54 (fun s1 => [(0, .ref a0), (1, .int a1), (2, .int s1.1), (3, .int s1.2)]) (fun s1 => th) (fun x4 => [(2, .int x4)]) (fun x4 => th) (fun s1 nx2 hnx2 ex3 hex3 => ?_) (fun x4 => ?_) 4096 ((Int32.ofInt 0), (Int32.ofInt 0))) ⟨rfl, rfl, rfl, rfl, trivial⟩
  · refine x_P 5 rfl rfl rfl ?_
    refine x_P 6 rfl rfl rfl ?_
    refine x_gI rfl (fun x5 hx5 => ?_)
    refine x_ic_ge rfl rfl (fun h18 => ?_) (fun h18 => ?_)
    · exact x_lv (hex3 s1.1) ⟨rfl, trivial⟩
    · refine x_P 13 rfl rfl rfl ?_
      refine x_P 14 rfl rfl rfl ?_
      refine x_gN rfl (fun o6 ho6 => ?_)
      refine x_P 18 rfl rfl rfl ?_
      refine x_aI rfl ⟨rfl, rfl⟩ (fun x7 hx7 => ?_)
      refine x_P 20 rfl rfl rfl ?_
      refine x_gN rfl (fun o8 ho8 => ?_)
      refine x_P 24 rfl rfl rfl ?_
      refine x_aI rfl ⟨rfl, rfl⟩ (fun x9 hx9 => ?_)
      refine x_callV rfl rfl rfl rfl rfl ⟨rfl, rfl⟩ (fun x h => c_77 h) (S_77 d a0 x7 x9 th) (fun x10 hx10 => ?_)
      refine x_P (lv' := [(4, .int x10), (0, .ref a0), (1, .int a1), (2, .int s1.1), (3, .int s1.2)]) 30 rfl rfl rfl ?_
      refine x_P 31 rfl rfl rfl ?_
      refine x_P 32 rfl rfl rfl ?_
      refine x_jn 48 (fun v11 => [(0, .ref a0), (1, .int a1), (2, .int v11), (3, .int s1.2)]) (fun v11 => []) (fun v11 => th) (fun v11 => ?_) (fun j12 hj12 => ?_)
      · refine x_P (lv' := [(3, .int (s1.2 + Int32.ofInt 1)), (0, .ref a0), (1, .int a1), (2, .int v11)]) 51 rfl rfl rfl ?_
        refine x_P 4 rfl rfl rfl ?_
        exact x_lv (hnx2 (v11, (s1.2 + Int32.ofInt 1))) ⟨rfl, rfl, rfl, rfl, trivial⟩
      · refine x_ic_eq rfl rfl (fun h17 => ?_) (fun h17 => ?_)
        · exact x_lv (hj12 s1.1) ⟨rfl, rfl, rfl, rfl, trivial⟩
        · refine x_P 36 rfl rfl rfl ?_
          refine x_jn 45 (fun v13 => [(0, .ref a0), (1, .int a1), (3, .int s1.2), (4, .int x10)]) (fun v13 => []) (fun v13 => th) (fun v13 => ?_) (fun j14 hj14 => ?_)
          · refine x_P 47 rfl rfl rfl ?_
            refine x_P (lv' := [(2, .int x10), (0, .ref a0), (1, .int a1), (3, .int s1.2), (4, .int x10)]) 48 rfl rfl rfl ?_
            exact x_lv (hj12 x10) ⟨rfl, rfl, rfl, rfl, trivial⟩
          · refine x_if_eq rfl rfl (fun h16 => ?_) (fun h16 => ?_)
            · exact x_lv (hj14 ()) ⟨rfl, rfl, rfl, rfl, trivial⟩
            · refine x_P 41 rfl rfl rfl ?_
              refine x_P 42 rfl rfl rfl ?_
              refine x_ic_ge rfl rfl (fun h15 => ?_) (fun h15 => ?_)
              · exact x_lv (hj12 s1.1) ⟨rfl, rfl, rfl, rfl, trivial⟩
              · exact x_lv (hj14 ()) ⟨rfl, rfl, rfl, rfl, trivial⟩
  · refine x_P 55 rfl rfl rfl ?_
    exact x_retI (x := x4) rfl
-- 8 NineTrees.says(II)I
noncomputable def m_8 (a0 : Nat) (a1 : Int32) (a2 : Int32) (th : tH) : Option (Int32 × tH) :=
  (gC th 7 a0).bind fun _ =>
  (m_60 a0 a1 th).bind fun r1 =>
  jn (fun (v2 : Unit) =>
      (m_59 a0 (Int8.ofInt (-2)).toInt32 th).bind fun q4 =>
      some (q4.1, q4.2)
    ) (fun j3 =>
      match r1 with
      | none =>
        j3 ()
      | some o5 =>
        if a2 < 0 then
          j3 ()
        else
          if a2 ≤ (Int32.ofInt 5) then
            (m_150 o5 th).bind fun x6 =>
            jn (fun (v7 : Unit) =>
                (m_59 a0 (Int8.ofInt (-3)).toInt32 th).bind fun q9 =>
                some (q9.1, q9.2)
              ) (fun j8 =>
                if x6 = 0 then
                  (m_151 o5 th).bind fun x10 =>
                  jn (fun (v11 : Unit) =>
                      (m_151 o5 th).bind fun x13 =>
                      if x13 = 0 then
                        (m_59 a0 (Int8.ofInt (-4)).toInt32 th).bind fun q40 =>
                        some (q40.1, q40.2)
                      else
                        if a2 < 0 ∨ 4 < a2 then
                          (gN th 7 a0 0).bind fun o15 =>
                          (gN th 2 o15 2).bind fun o16 =>
                          (gI th 5 o5 3).bind fun x17 =>
                          (aI th o16 x17).bind fun x18 =>
                          some (x18, th)
                        else if a2 = 0 then
                          (m_63 a0 th).bind fun q20 =>
                          (gI q20.2 5 o5 3).bind fun x21 =>
                          (m_107 q20.1 x21 (Int32.ofInt 3) q20.2).bind fun x22 =>
                          some (x22, q20.2)
                        else if a2 = 1 then
                          (gN th 7 a0 0).bind fun o24 =>
                          (gI th 5 o5 3).bind fun x25 =>
                          (m_97 o24 x25 th).bind fun x26 =>
                          some (x26, th)
                        else if a2 = 2 then
                          (gN th 7 a0 0).bind fun o28 =>
                          (gI th 5 o5 3).bind fun x29 =>
                          (m_148 o28 x29 th).bind fun x30 =>
                          some (x30, th)
                        else if a2 = 3 then
                          (gN th 7 a0 0).bind fun o32 =>
                          (gN th 2 o32 2).bind fun o33 =>
                          (gI th 5 o5 3).bind fun x34 =>
                          (aI th o33 x34).bind fun x35 =>
                          some (x35, th)
                        else if a2 = 4 then
                          (gN th 7 a0 0).bind fun o37 =>
                          (gI th 5 o5 3).bind fun x38 =>
                          (m_128 o37 x38 th).bind fun x39 =>
                          some (x39, th)
                        else
                          none
                    ) (fun j12 =>
                      if x10 = 0 then
                        j12 ()
                      else
                        (gN th 7 a0 0).bind fun o42 =>
                        (gI th 5 o5 3).bind fun x43 =>
                        (m_85 o42 x43 a2 th).bind fun x44 =>
                        if x44 = 0 then
                          j8 ()
                        else
                          j12 ()
                    )
                else
                  j8 ()
              )
          else
            j3 ()
    )
theorem c_8 {a0 : Nat} {a1 : Int32} {a2 : Int32} {th : tH} {x : (Int32 × tH)} (h : m_8 a0 a1 a2 th = some x) : ∃ fs, th[a0]? = some (.inr (7, fs)) := gC_of h
theorem S_8 {L : Nat} (d : Nat) (a0 : Nat) (a1 : Int32) (a2 : Int32) (th : tH) : Wx L (fun x => (some (.int x.1), x.2)) (d + 6) 8 4 0 [(0, .ref a0), (1, .int a1), (2, .int a2)] [] th (m_8 a0 a1 a2 th) := by
  unfold m_8
  refine x_gC ?_
  refine x_P 1 rfl rfl rfl ?_
  refine x_P 2 rfl rfl rfl ?_
  refine x_callV rfl rfl rfl rfl rfl ⟨rfl, rfl⟩ (fun x h => c_60 h) (S_60 (d + 5) a0 a1 th) (fun r1 hr1 => ?_)
  refine x_P (lv' := [(3, va_rf r1), (0, .ref a0), (1, .int a1), (2, .int a2)]) (st' := []) 6 rfl rfl (by rcases r1 with _ | _ <;> rfl) ?_
  refine x_P 7 rfl rfl (t_P_ald_n rfl) ?_
  refine x_jn 19 (fun v2 => [(0, .ref a0)]) (fun v2 => []) (fun v2 => th) (fun v2 => ?_) (fun j3 hj3 => ?_)
  · refine x_P 20 rfl rfl rfl ?_
    refine x_P 22 rfl rfl rfl ?_
    refine x_callV rfl rfl rfl rfl rfl ⟨rfl, rfl⟩ (fun x h => c_59 h) (S_59 (d + 4) a0 (Int8.ofInt (-2)).toInt32 th) (fun q4 hq4 => ?_)
    exact x_retI (x := (q4.1, q4.2)) rfl
  · rcases r1 with _ | o5
    · refine x_P 19 rfl rfl rfl ?_
      exact x_lv (hj3 ()) ⟨rfl, trivial⟩
    · refine x_P 10 rfl rfl rfl ?_
      refine x_P 11 rfl rfl rfl ?_
      refine x_if_lt rfl rfl (fun h49 => ?_) (fun h49 => ?_)
      · exact x_lv (hj3 ()) ⟨rfl, trivial⟩
      · refine x_P 15 rfl rfl rfl ?_
        refine x_P 16 rfl rfl rfl ?_
        refine x_ic_le rfl rfl (fun h48 => ?_) (fun h48 => ?_)
        · refine x_P 27 rfl rfl rfl ?_
          refine x_callV rfl rfl rfl rfl rfl ⟨rfl, rfl⟩ (fun x h => c_150 h) (S_150 (d + 5) o5 th) (fun x6 hx6 => ?_)
          refine x_jn 55 (fun v7 => [(0, .ref a0)]) (fun v7 => []) (fun v7 => th) (fun v7 => ?_) (fun j8 hj8 => ?_)
          · refine x_P 56 rfl rfl rfl ?_
            refine x_P 58 rfl rfl rfl ?_
            refine x_callV rfl rfl rfl rfl rfl ⟨rfl, rfl⟩ (fun x h => c_59 h) (S_59 (d + 4) a0 (Int8.ofInt (-3)).toInt32 th) (fun q9 hq9 => ?_)
            exact x_retI (x := (q9.1, q9.2)) rfl
          · refine x_if_ne rfl rfl (fun h47 => ?_) (fun h47 => ?_)
            · refine x_P 34 rfl rfl rfl ?_
              refine x_callV rfl rfl rfl rfl rfl ⟨rfl, rfl⟩ (fun x h => c_151 h) (S_151 (d + 5) o5 th) (fun x10 hx10 => ?_)
              refine x_jn 62 (fun v11 => [(0, .ref a0), (2, .int a2), (3, .ref o5)]) (fun v11 => []) (fun v11 => th) (fun v11 => ?_) (fun j12 hj12 => ?_)
              · refine x_P 63 rfl rfl rfl ?_
                refine x_callV rfl rfl rfl rfl rfl ⟨rfl, rfl⟩ (fun x h => c_151 h) (S_151 (d + 5) o5 th) (fun x13 hx13 => ?_)
                refine x_if_ne rfl rfl (fun h41 => ?_) (fun h41 => ?_)
                · refine x_P 70 rfl rfl rfl ?_
                  refine x_P 72 rfl rfl rfl ?_
                  refine x_callV rfl rfl rfl rfl rfl ⟨rfl, rfl⟩ (fun x h => c_59 h) (S_59 (d + 4) a0 (Int8.ofInt (-4)).toInt32 th) (fun q40 hq40 => ?_)
                  exact x_retI (x := (q40.1, q40.2)) rfl
                · refine x_P 77 rfl rfl rfl ?_
                  refine x_ite (fun h14 => ?_) (fun h14 => ?_)
                  · refine x_P 161 rfl rfl (x_td h14 (by decide +kernel)) ?_
                    refine x_P 162 rfl rfl rfl ?_
                    refine x_gN rfl (fun o15 ho15 => ?_)
                    refine x_gN rfl (fun o16 ho16 => ?_)
                    refine x_P 169 rfl rfl rfl ?_
                    refine x_gI rfl (fun x17 hx17 => ?_)
                    refine x_aI rfl ⟨rfl, rfl⟩ (fun x18 hx18 => ?_)
                    exact x_retI (x := (x18, th)) rfl
                  · skip
                    refine x_ite (fun h19 => ?_) (fun h19 => ?_)
                    · refine x_P 112 rfl rfl (x_ts h19 (by decide +kernel)) ?_
                      refine x_P 113 rfl rfl rfl ?_
                      refine x_callV rfl rfl rfl rfl rfl ⟨rfl, rfl⟩ (fun x h => c_63 h) (S_63 (d + 1) a0 th) (fun q20 hq20 => ?_)
                      refine x_P 117 rfl rfl rfl ?_
                      refine x_gI rfl (fun x21 hx21 => ?_)
                      refine x_P 121 rfl rfl rfl ?_
                      refine x_callV rfl rfl rfl rfl rfl ⟨rfl, rfl⟩ (fun x h => c_107 h) (S_107 (d + 4) q20.1 x21 (Int32.ofInt 3) q20.2) (fun x22 hx22 => ?_)
                      exact x_retI (x := (x22, q20.2)) rfl
                    · skip
                      refine x_ite (fun h23 => ?_) (fun h23 => ?_)
                      · refine x_P 125 rfl rfl (x_ts h23 (by decide +kernel)) ?_
                        refine x_P 126 rfl rfl rfl ?_
                        refine x_gN rfl (fun o24 ho24 => ?_)
                        refine x_P 130 rfl rfl rfl ?_
                        refine x_gI rfl (fun x25 hx25 => ?_)
                        refine x_callV rfl rfl rfl rfl rfl ⟨rfl, rfl⟩ (fun x h => c_97 h) (S_97 (d + 5) o24 x25 th) (fun x26 hx26 => ?_)
                        exact x_retI (x := (x26, th)) rfl
                      · skip
                        refine x_ite (fun h27 => ?_) (fun h27 => ?_)
                        · refine x_P 137 rfl rfl (x_ts h27 (by decide +kernel)) ?_
                          refine x_P 138 rfl rfl rfl ?_
                          refine x_gN rfl (fun o28 ho28 => ?_)
                          refine x_P 142 rfl rfl rfl ?_
                          refine x_gI rfl (fun x29 hx29 => ?_)
                          refine x_callS rfl rfl rfl rfl rfl rfl ⟨rfl, rfl⟩ (S_148 d o28 x29 th) (fun x30 hx30 => ?_)
                          exact x_retI (x := (x30, th)) rfl
                        · skip
                          refine x_ite (fun h31 => ?_) (fun h31 => ?_)
                          · refine x_P 161 rfl rfl (x_ts h31 (by decide +kernel)) ?_
                            refine x_P 162 rfl rfl rfl ?_
                            refine x_gN rfl (fun o32 ho32 => ?_)
                            refine x_gN rfl (fun o33 ho33 => ?_)
                            refine x_P 169 rfl rfl rfl ?_
                            refine x_gI rfl (fun x34 hx34 => ?_)
                            refine x_aI rfl ⟨rfl, rfl⟩ (fun x35 hx35 => ?_)
                            exact x_retI (x := (x35, th)) rfl
                          · skip
                            refine x_ite (fun h36 => ?_) (fun h36 => ?_)
                            · refine x_P 149 rfl rfl (x_ts h36 (by decide +kernel)) ?_
                              refine x_P 150 rfl rfl rfl ?_
                              refine x_gN rfl (fun o37 ho37 => ?_)
                              refine x_P 154 rfl rfl rfl ?_
                              refine x_gI rfl (fun x38 hx38 => ?_)
                              refine x_callS rfl rfl rfl rfl rfl rfl ⟨rfl, rfl⟩ (S_128 (d + 3) o37 x38 th) (fun x39 hx39 => ?_)
                              exact x_retI (x := (x39, th)) rfl
                            · skip
                              exact x_none
              · refine x_if_eq rfl rfl (fun h46 => ?_) (fun h46 => ?_)
                · exact x_lv (hj12 ()) ⟨rfl, rfl, rfl, trivial⟩
                · refine x_P 41 rfl rfl rfl ?_
                  refine x_gN rfl (fun o42 ho42 => ?_)
                  refine x_P 45 rfl rfl rfl ?_
                  refine x_gI rfl (fun x43 hx43 => ?_)
                  refine x_P 49 rfl rfl rfl ?_
                  refine x_callV rfl rfl rfl rfl rfl ⟨rfl, rfl⟩ (fun x h => c_85 h) (S_85 (d + 5) o42 x43 a2 th) (fun x44 hx44 => ?_)
                  refine x_if_ne rfl rfl (fun h45 => ?_) (fun h45 => ?_)
                  · exact x_lv (hj8 ()) ⟨rfl, trivial⟩
                  · exact x_lv (hj12 ()) ⟨rfl, rfl, rfl, trivial⟩
            · exact x_lv (hj8 ()) ⟨rfl, trivial⟩
        · exact x_lv (hj3 ()) ⟨rfl, trivial⟩
-- 9 NineTrees.side(I)I
noncomputable def m_9 (a0 : Nat) (a1 : Int32) (th : tH) : Option (Int32 × tH) :=
  (gC th 7 a0).bind fun _ =>
  jn (fun (v1 : Unit) =>
      (m_59 a0 (Int8.ofInt (-2)).toInt32 th).bind fun q3 =>
      some (q3.1, q3.2)
    ) (fun j2 =>
      if a1 < (Int32.ofInt 3) then
        j2 ()
      else
        if a1 ≤ (Int8.ofInt 8).toInt32 then
          (gN th 7 a0 0).bind fun o4 =>
          (gI th 2 o4 5).bind fun x5 =>
          if x5 ≤ 0 then
            (gN th 7 a0 0).bind fun o6 =>
            (gI th 2 o6 4).bind fun x7 =>
            (gN th 7 a0 0).bind fun o8 =>
            (pI th 2 o8 4 a1).bind fun th9 =>
            some (x7, th9)
          else
            (m_59 a0 (Int8.ofInt (-5)).toInt32 th).bind fun q10 =>
            some (q10.1, q10.2)
        else
          j2 ()
    )
theorem c_9 {a0 : Nat} {a1 : Int32} {th : tH} {x : (Int32 × tH)} (h : m_9 a0 a1 th = some x) : ∃ fs, th[a0]? = some (.inr (7, fs)) := gC_of h
theorem S_9 {L : Nat} (d : Nat) (a0 : Nat) (a1 : Int32) (th : tH) : Wx L (fun x => (some (.int x.1), x.2)) (d + 2) 9 3 0 [(0, .ref a0), (1, .int a1)] [] th (m_9 a0 a1 th) := by
  unfold m_9
  refine x_gC ?_
  refine x_P 1 rfl rfl rfl ?_
  refine x_P 2 rfl rfl rfl ?_
  refine x_jn 11 (fun v1 => [(0, .ref a0)]) (fun v1 => []) (fun v1 => th) (fun v1 => ?_) (fun j2 hj2 => ?_)
  · refine x_P 12 rfl rfl rfl ?_
    refine x_P 14 rfl rfl rfl ?_
    refine x_callV rfl rfl rfl rfl rfl ⟨rfl, rfl⟩ (fun x h => c_59 h) (S_59 d a0 (Int8.ofInt (-2)).toInt32 th) (fun q3 hq3 => ?_)
    exact x_retI (x := (q3.1, q3.2)) rfl
  · refine x_ic_lt rfl rfl (fun h13 => ?_) (fun h13 => ?_)
    · exact x_lv (hj2 ()) ⟨rfl, trivial⟩
    · refine x_P 6 rfl rfl rfl ?_
      refine x_P 8 rfl rfl rfl ?_
      refine x_ic_le rfl rfl (fun h12 => ?_) (fun h12 => ?_)
      · refine x_P 19 rfl rfl rfl ?_
        refine x_gN rfl (fun o4 ho4 => ?_)
        refine x_gI rfl (fun x5 hx5 => ?_)
        refine x_if_le rfl rfl (fun h11 => ?_) (fun h11 => ?_)
        · refine x_P 36 rfl rfl rfl ?_
          refine x_gN rfl (fun o6 ho6 => ?_)
          refine x_gI rfl (fun x7 hx7 => ?_)
          refine x_P (lv' := [(2, .int x7), (0, .ref a0), (1, .int a1)]) 43 rfl rfl rfl ?_
          refine x_P 44 rfl rfl rfl ?_
          refine x_gN rfl (fun o8 ho8 => ?_)
          refine x_P 48 rfl rfl rfl ?_
          refine x_pI rfl (fun th9 hth9 => ?_)
          refine x_P 52 rfl rfl rfl ?_
          exact x_retI (x := (x7, th9)) rfl
        · refine x_P 29 rfl rfl rfl ?_
          refine x_P 31 rfl rfl rfl ?_
          refine x_callV rfl rfl rfl rfl rfl ⟨rfl, rfl⟩ (fun x h => c_59 h) (S_59 d a0 (Int8.ofInt (-5)).toInt32 th) (fun q10 hq10 => ?_)
          exact x_retI (x := (q10.1, q10.2)) rfl
      · exact x_lv (hj2 ()) ⟨rfl, trivial⟩
-- 70 NineTrees$Garden.cellCount()I
noncomputable def m_70 (a0 : Nat) (th : tH) : Option (Int32) :=
  (gC th 2 a0).bind fun _ =>
  (gI th 2 a0 4).bind fun x1 =>
  (gI th 2 a0 4).bind fun x2 =>
  some (x1 * x2)
theorem c_70 {a0 : Nat} {th : tH} {x : (Int32)} (h : m_70 a0 th = some x) : ∃ fs, th[a0]? = some (.inr (2, fs)) := gC_of h
theorem S_70 {L : Nat} (d : Nat) (a0 : Nat) (th : tH) : Wx L (fun x => (some (.int x), th)) d 70 1 0 [(0, .ref a0)] [] th (m_70 a0 th) := by
  unfold m_70
  refine x_gC ?_
  refine x_P 1 rfl rfl rfl ?_
  refine x_gI rfl (fun x1 hx1 => ?_)
  refine x_P 5 rfl rfl rfl ?_
  refine x_gI rfl (fun x2 hx2 => ?_)
  refine x_P 9 rfl rfl rfl ?_
  exact x_retI (x := (x1 * x2)) rfl
-- 71 NineTrees$Garden.isCell(I)Z
noncomputable def m_71 (a0 : Nat) (a1 : Int32) (th : tH) : Option (Int32) :=
  (gC th 2 a0).bind fun _ =>
  jn (fun (v1 : Int32) =>
      rB v1
    ) (fun j2 =>
      jn (fun (v3 : Unit) =>
          j2 (Int32.ofInt 0)
        ) (fun j4 =>
          if a1 < 0 then
            j4 ()
          else
            (m_70 a0 th).bind fun x5 =>
            if x5 ≤ a1 then
              j4 ()
            else
              j2 (Int32.ofInt 1)
        )
    )
theorem c_71 {a0 : Nat} {a1 : Int32} {th : tH} {x : (Int32)} (h : m_71 a0 a1 th = some x) : ∃ fs, th[a0]? = some (.inr (2, fs)) := gC_of h
theorem S_71 {L : Nat} (d : Nat) (a0 : Nat) (a1 : Int32) (th : tH) : Wx L (fun x => (some (.int x), th)) (d + 1) 71 2 0 [(0, .ref a0), (1, .int a1)] [] th (m_71 a0 a1 th) := by
  unfold m_71
  refine x_gC ?_
  refine x_P 1 rfl rfl rfl ?_
  refine x_jn 17 (fun v1 => []) (fun v1 => [.int v1]) (fun v1 => th) (fun v1 => ?_) (fun j2 hj2 => ?_)
  · exact x_rB rfl
  · refine x_jn 16 (fun v3 => []) (fun v3 => []) (fun v3 => th) (fun v3 => ?_) (fun j4 hj4 => ?_)
    · refine x_P 17 rfl rfl rfl ?_
      exact x_lv (hj2 (Int32.ofInt 0)) trivial
    · refine x_if_lt rfl rfl (fun h7 => ?_) (fun h7 => ?_)
      · exact x_lv (hj4 ()) trivial
      · refine x_P 5 rfl rfl rfl ?_
        refine x_P 6 rfl rfl rfl ?_
        refine x_callV rfl rfl rfl rfl rfl ⟨rfl, rfl⟩ (fun x h => c_70 h) (S_70 d a0 th) (fun x5 hx5 => ?_)
        refine x_ic_ge rfl rfl (fun h6 => ?_) (fun h6 => ?_)
        · exact x_lv (hj4 ()) trivial
        · refine x_P 13 rfl rfl rfl ?_
          refine x_P 17 rfl rfl rfl ?_
          exact x_lv (hj2 (Int32.ofInt 1)) trivial
-- 83 NineTrees$Garden.treeIn(I)I
noncomputable def m_83 (a0 : Nat) (a1 : Int32) (th : tH) : Option (Int32) :=
  (gC th 2 a0).bind fun _ =>
  lp (fun (s1 : Int32) nx2 ex3 =>
      (gI th 2 a0 5).bind fun x5 =>
      if x5 ≤ s1 then
        ex3 ()
      else
        (gN th 2 a0 1).bind fun o6 =>
        (aI th o6 s1).bind fun x7 =>
        if x7 = a1 then
          some s1
        else
          nx2 (s1 + Int32.ofInt 1)
    ) 4096 (Int32.ofInt 0) (fun (x4 : Unit) =>
      some (Int32.ofInt (-1))
    )
theorem c_83 {a0 : Nat} {a1 : Int32} {th : tH} {x : (Int32)} (h : m_83 a0 a1 th = some x) : ∃ fs, th[a0]? = some (.inr (2, fs)) := gC_of h
theorem S_83 {L : Nat} (d : Nat) (a0 : Nat) (a1 : Int32) (th : tH) : Wx L (fun x => (some (.int x), th)) d 83 3 0 [(0, .ref a0), (1, .int a1)] [] th (m_83 a0 a1 th) := by
  unfold m_83
  refine x_gC ?_
  refine x_P 1 rfl rfl rfl ?_
  refine x_P (lv' := [(2, .int (Int32.ofInt 0)), (0, .ref a0), (1, .int a1)]) 2 rfl rfl rfl ?_
  refine x_lv (lv := [(0, .ref a0), (1, .int a1), (2, .int (Int32.ofInt 0))]) (x_lp 28 (fun s1 => [(0, .ref a0), (1, .int a1), (2, .int s1)]) (fun s1 => th) (fun x4 => []) (fun x4 => th) (fun s1 nx2 hnx2 ex3 hex3 => ?_) (fun x4 => ?_) 4096 (Int32.ofInt 0)) ⟨rfl, rfl, rfl, trivial⟩
  · refine x_P 3 rfl rfl rfl ?_
    refine x_P 4 rfl rfl rfl ?_
    refine x_gI rfl (fun x5 hx5 => ?_)
    refine x_ic_ge rfl rfl (fun h9 => ?_) (fun h9 => ?_)
    · exact x_lv (hex3 ()) trivial
    · refine x_P 11 rfl rfl rfl ?_
      refine x_gN rfl (fun o6 ho6 => ?_)
      refine x_P 15 rfl rfl rfl ?_
      refine x_aI rfl ⟨rfl, rfl⟩ (fun x7 hx7 => ?_)
      refine x_P 17 rfl rfl rfl ?_
      refine x_ic_ne rfl rfl (fun h8 => ?_) (fun h8 => ?_)
      · refine x_P 21 rfl rfl rfl ?_
        exact x_retI (x := s1) rfl
      · refine x_P (lv' := [(2, .int (s1 + Int32.ofInt 1)), (0, .ref a0), (1, .int a1)]) 25 rfl rfl rfl ?_
        refine x_P 2 rfl rfl rfl ?_
        exact x_lv (hnx2 (s1 + Int32.ofInt 1)) ⟨rfl, rfl, rfl, trivial⟩
  · refine x_P 29 rfl rfl rfl ?_
    exact x_retI (x := (Int32.ofInt (-1))) rfl
-- 84 NineTrees$Garden.isFree(I)Z
noncomputable def m_84 (a0 : Nat) (a1 : Int32) (th : tH) : Option (Int32) :=
  (gC th 2 a0).bind fun _ =>
  (m_83 a0 a1 th).bind fun x1 =>
  jn (fun (v2 : Int32) =>
      rB v2
    ) (fun j3 =>
      if x1 = (Int32.ofInt (-1)) then
        j3 (Int32.ofInt 1)
      else
        j3 (Int32.ofInt 0)
    )
theorem c_84 {a0 : Nat} {a1 : Int32} {th : tH} {x : (Int32)} (h : m_84 a0 a1 th = some x) : ∃ fs, th[a0]? = some (.inr (2, fs)) := gC_of h
theorem S_84 {L : Nat} (d : Nat) (a0 : Nat) (a1 : Int32) (th : tH) : Wx L (fun x => (some (.int x), th)) (d + 1) 84 2 0 [(0, .ref a0), (1, .int a1)] [] th (m_84 a0 a1 th) := by
  unfold m_84
  refine x_gC ?_
  refine x_P 1 rfl rfl rfl ?_
  refine x_P 2 rfl rfl rfl ?_
  refine x_callV rfl rfl rfl rfl rfl ⟨rfl, rfl⟩ (fun x h => c_83 h) (S_83 d a0 a1 th) (fun x1 hx1 => ?_)
  refine x_P 6 rfl rfl rfl ?_
  refine x_jn 14 (fun v2 => []) (fun v2 => [.int v2]) (fun v2 => th) (fun v2 => ?_) (fun j3 hj3 => ?_)
  · exact x_rB rfl
  · refine x_ic_ne rfl rfl (fun h4 => ?_) (fun h4 => ?_)
    · refine x_P 10 rfl rfl rfl ?_
      refine x_P 14 rfl rfl rfl ?_
      exact x_lv (hj3 (Int32.ofInt 1)) trivial
    · refine x_P 14 rfl rfl rfl ?_
      exact x_lv (hj3 (Int32.ofInt 0)) trivial
-- 89 NineTrees$Garden.addTree(III)V
noncomputable def m_89 (a0 : Nat) (a1 : Int32) (a2 : Int32) (a3 : Int32) (th : tH) : Option tH :=
  (gC th 2 a0).bind fun _ =>
  (gI th 2 a0 5).bind fun x1 =>
  jn (fun (v2 : tH) =>
      some v2
    ) (fun j3 =>
      if (Int8.ofInt 12).toInt32 ≤ x1 then
        j3 th
      else
        (gN th 2 a0 0).bind fun o4 =>
        (gI th 2 a0 5).bind fun x5 =>
        (sI th o4 x5 a1).bind fun th6 =>
        (gN th6 2 a0 1).bind fun o7 =>
        (gI th6 2 a0 5).bind fun x8 =>
        (sI th6 o7 x8 a2).bind fun th9 =>
        (gN th9 2 a0 2).bind fun o10 =>
        (gI th9 2 a0 5).bind fun x11 =>
        (sI th9 o10 x11 a3).bind fun th12 =>
        (gI th12 2 a0 5).bind fun x13 =>
        (pI th12 2 a0 5 (x13 + (Int32.ofInt 1))).bind fun th14 =>
        j3 th14
    )
theorem c_89 {a0 : Nat} {a1 : Int32} {a2 : Int32} {a3 : Int32} {th : tH} {x : tH} (h : m_89 a0 a1 a2 a3 th = some x) : ∃ fs, th[a0]? = some (.inr (2, fs)) := gC_of h
theorem S_89 {L : Nat} (d : Nat) (a0 : Nat) (a1 : Int32) (a2 : Int32) (a3 : Int32) (th : tH) : Wx L (fun x => (none, x)) (d + 1) 89 4 0 [(0, .ref a0), (1, .int a1), (2, .int a2), (3, .int a3)] [] th (m_89 a0 a1 a2 a3 th) := by
  unfold m_89
  refine x_gC ?_
  refine x_P 1 rfl rfl rfl ?_
  refine x_gI rfl (fun x1 hx1 => ?_)
  refine x_P 6 rfl rfl rfl ?_
  refine x_jn 49 (fun v2 => []) (fun v2 => []) (fun v2 => v2) (fun v2 => ?_) (fun j3 hj3 => ?_)
  · exact x_retV (x := v2) rfl
  · refine x_ic_ge rfl rfl (fun h15 => ?_) (fun h15 => ?_)
    · exact x_lv (hj3 th) trivial
    · refine x_P 10 rfl rfl rfl ?_
      refine x_gN rfl (fun o4 ho4 => ?_)
      refine x_P 14 rfl rfl rfl ?_
      refine x_gI rfl (fun x5 hx5 => ?_)
      refine x_P 18 rfl rfl rfl ?_
      refine x_sI rfl ⟨rfl, rfl⟩ (fun th6 hth6 => ?_)
      refine x_P 20 rfl rfl rfl ?_
      refine x_gN rfl (fun o7 ho7 => ?_)
      refine x_P 24 rfl rfl rfl ?_
      refine x_gI rfl (fun x8 hx8 => ?_)
      refine x_P 28 rfl rfl rfl ?_
      refine x_sI rfl ⟨rfl, rfl⟩ (fun th9 hth9 => ?_)
      refine x_P 30 rfl rfl rfl ?_
      refine x_gN rfl (fun o10 ho10 => ?_)
      refine x_P 34 rfl rfl rfl ?_
      refine x_gI rfl (fun x11 hx11 => ?_)
      refine x_P 38 rfl rfl rfl ?_
      refine x_sI rfl ⟨rfl, rfl⟩ (fun th12 hth12 => ?_)
      refine x_P 40 rfl rfl rfl ?_
      refine x_P 41 rfl rfl rfl ?_
      refine x_gI rfl (fun x13 hx13 => ?_)
      refine x_P 45 rfl rfl rfl ?_
      refine x_P 46 rfl rfl rfl ?_
      refine x_pI rfl (fun th14 hth14 => ?_)
      exact x_lv (hj3 th14) trivial
-- 10 NineTrees.tree(III)I
noncomputable def m_10 (a0 : Nat) (a1 : Int32) (a2 : Int32) (a3 : Int32) (th : tH) : Option (Int32 × tH) :=
  (gC th 7 a0).bind fun _ =>
  jn (fun (v1 : Unit) =>
      (m_59 a0 (Int8.ofInt (-2)).toInt32 th).bind fun q3 =>
      some (q3.1, q3.2)
    ) (fun j2 =>
      if a1 < 0 then
        j2 ()
      else
        if (Int32.ofInt 5) < a1 then
          j2 ()
        else
          (gN th 7 a0 0).bind fun o4 =>
          (m_71 o4 a2 th).bind fun x5 =>
          if x5 = 0 then
            j2 ()
          else
            if a3 < 0 then
              j2 ()
            else
              if a3 ≤ (Int8.ofInt 9).toInt32 then
                (gN th 7 a0 0).bind fun o6 =>
                (m_84 o6 a2 th).bind fun x7 =>
                if x7 = 0 then
                  (m_59 a0 (Int8.ofInt (-5)).toInt32 th).bind fun q16 =>
                  some (q16.1, q16.2)
                else
                  (gN th 7 a0 0).bind fun o8 =>
                  (gI th 2 o8 5).bind fun x9 =>
                  if x9 < (Int8.ofInt 12).toInt32 then
                    (gN th 7 a0 0).bind fun o10 =>
                    (m_89 o10 a1 a2 a3 th).bind fun th11 =>
                    (gN th11 7 a0 0).bind fun o12 =>
                    (gI th11 2 o12 5).bind fun x13 =>
                    some ((x13 - (Int32.ofInt 1)), th11)
                  else
                    (m_59 a0 (Int8.ofInt (-6)).toInt32 th).bind fun q14 =>
                    some (q14.1, q14.2)
              else
                j2 ()
    )
theorem c_10 {a0 : Nat} {a1 : Int32} {a2 : Int32} {a3 : Int32} {th : tH} {x : (Int32 × tH)} (h : m_10 a0 a1 a2 a3 th = some x) : ∃ fs, th[a0]? = some (.inr (7, fs)) := gC_of h
theorem S_10 {L : Nat} (d : Nat) (a0 : Nat) (a1 : Int32) (a2 : Int32) (a3 : Int32) (th : tH) : Wx L (fun x => (some (.int x.1), x.2)) (d + 2) 10 4 0 [(0, .ref a0), (1, .int a1), (2, .int a2), (3, .int a3)] [] th (m_10 a0 a1 a2 a3 th) := by
  unfold m_10
  refine x_gC ?_
  refine x_P 1 rfl rfl rfl ?_
  refine x_jn 30 (fun v1 => [(0, .ref a0)]) (fun v1 => []) (fun v1 => th) (fun v1 => ?_) (fun j2 hj2 => ?_)
  · refine x_P 31 rfl rfl rfl ?_
    refine x_P 33 rfl rfl rfl ?_
    refine x_callV rfl rfl rfl rfl rfl ⟨rfl, rfl⟩ (fun x h => c_59 h) (S_59 d a0 (Int8.ofInt (-2)).toInt32 th) (fun q3 hq3 => ?_)
    exact x_retI (x := (q3.1, q3.2)) rfl
  · refine x_if_lt rfl rfl (fun h22 => ?_) (fun h22 => ?_)
    · exact x_lv (hj2 ()) ⟨rfl, trivial⟩
    · refine x_P 5 rfl rfl rfl ?_
      refine x_P 6 rfl rfl rfl ?_
      refine x_ic_gt rfl rfl (fun h21 => ?_) (fun h21 => ?_)
      · exact x_lv (hj2 ()) ⟨rfl, trivial⟩
      · refine x_P 10 rfl rfl rfl ?_
        refine x_gN rfl (fun o4 ho4 => ?_)
        refine x_P 14 rfl rfl rfl ?_
        refine x_callV rfl rfl rfl rfl rfl ⟨rfl, rfl⟩ (fun x h => c_71 h) (S_71 d o4 a2 th) (fun x5 hx5 => ?_)
        refine x_if_eq rfl rfl (fun h20 => ?_) (fun h20 => ?_)
        · exact x_lv (hj2 ()) ⟨rfl, trivial⟩
        · refine x_P 21 rfl rfl rfl ?_
          refine x_if_lt rfl rfl (fun h19 => ?_) (fun h19 => ?_)
          · exact x_lv (hj2 ()) ⟨rfl, trivial⟩
          · refine x_P 25 rfl rfl rfl ?_
            refine x_P 27 rfl rfl rfl ?_
            refine x_ic_le rfl rfl (fun h18 => ?_) (fun h18 => ?_)
            · refine x_P 38 rfl rfl rfl ?_
              refine x_gN rfl (fun o6 ho6 => ?_)
              refine x_P 42 rfl rfl rfl ?_
              refine x_callV rfl rfl rfl rfl rfl ⟨rfl, rfl⟩ (fun x h => c_84 h) (S_84 d o6 a2 th) (fun x7 hx7 => ?_)
              refine x_if_ne rfl rfl (fun h17 => ?_) (fun h17 => ?_)
              · refine x_P 49 rfl rfl rfl ?_
                refine x_P 51 rfl rfl rfl ?_
                refine x_callV rfl rfl rfl rfl rfl ⟨rfl, rfl⟩ (fun x h => c_59 h) (S_59 d a0 (Int8.ofInt (-5)).toInt32 th) (fun q16 hq16 => ?_)
                exact x_retI (x := (q16.1, q16.2)) rfl
              · refine x_P 56 rfl rfl rfl ?_
                refine x_gN rfl (fun o8 ho8 => ?_)
                refine x_gI rfl (fun x9 hx9 => ?_)
                refine x_P 64 rfl rfl rfl ?_
                refine x_ic_lt rfl rfl (fun h15 => ?_) (fun h15 => ?_)
                · refine x_P 75 rfl rfl rfl ?_
                  refine x_gN rfl (fun o10 ho10 => ?_)
                  refine x_P 79 rfl rfl rfl ?_
                  refine x_P 80 rfl rfl rfl ?_
                  refine x_P 81 rfl rfl rfl ?_
                  refine x_callW rfl rfl rfl rfl rfl ⟨rfl, rfl⟩ (fun x h => c_89 h) (S_89 d o10 a1 a2 a3 th) (fun th11 hth11 => ?_)
                  refine x_P 85 rfl rfl rfl ?_
                  refine x_gN rfl (fun o12 ho12 => ?_)
                  refine x_gI rfl (fun x13 hx13 => ?_)
                  refine x_P 92 rfl rfl rfl ?_
                  refine x_P 93 rfl rfl rfl ?_
                  exact x_retI (x := ((x13 - (Int32.ofInt 1)), th11)) rfl
                · refine x_P 68 rfl rfl rfl ?_
                  refine x_P 70 rfl rfl rfl ?_
                  refine x_callV rfl rfl rfl rfl rfl ⟨rfl, rfl⟩ (fun x h => c_59 h) (S_59 d a0 (Int8.ofInt (-6)).toInt32 th) (fun q14 hq14 => ?_)
                  exact x_retI (x := (q14.1, q14.2)) rfl
            · exact x_lv (hj2 ()) ⟨rfl, trivial⟩
-- 82 NineTrees$Garden.allTrees()I
noncomputable def m_82 (a0 : Nat) (th : tH) : Option (Int32) :=
  (gC th 2 a0).bind fun _ =>
  (gI th 2 a0 5).bind fun x1 =>
  some (((Int32.ofInt 1) <<< (x1 &&& 31)) - (Int32.ofInt 1))
theorem c_82 {a0 : Nat} {th : tH} {x : (Int32)} (h : m_82 a0 th = some x) : ∃ fs, th[a0]? = some (.inr (2, fs)) := gC_of h
theorem S_82 {L : Nat} (d : Nat) (a0 : Nat) (th : tH) : Wx L (fun x => (some (.int x), th)) d 82 1 0 [(0, .ref a0)] [] th (m_82 a0 th) := by
  unfold m_82
  refine x_gC ?_
  refine x_P 1 rfl rfl rfl ?_
  refine x_P 2 rfl rfl rfl ?_
  refine x_gI rfl (fun x1 hx1 => ?_)
  refine x_P 6 rfl rfl rfl ?_
  refine x_P 7 rfl rfl rfl ?_
  refine x_P 8 rfl rfl rfl ?_
  exact x_retI (x := (((Int32.ofInt 1) <<< (x1 &&& 31)) - (Int32.ofInt 1))) rfl
-- 93 NineTrees$Garden.isSetOfThree(I)Z
noncomputable def m_93 (a0 : Nat) (a1 : Int32) (th : tH) : Option (Int32) :=
  (gC th 2 a0).bind fun _ =>
  (m_82 a0 th).bind fun x1 =>
  jn (fun (v2 : Int32) =>
      rB v2
    ) (fun j3 =>
      jn (fun (v4 : Unit) =>
          j3 (Int32.ofInt 0)
        ) (fun j5 =>
          if (a1 &&& (x1 ^^^ (Int32.ofInt (-1)))) = 0 then
            (m_173 a1 th).bind fun x6 =>
            if x6 < (Int32.ofInt 3) then
              j5 ()
            else
              j3 (Int32.ofInt 1)
          else
            j5 ()
        )
    )
theorem c_93 {a0 : Nat} {a1 : Int32} {th : tH} {x : (Int32)} (h : m_93 a0 a1 th = some x) : ∃ fs, th[a0]? = some (.inr (2, fs)) := gC_of h
theorem S_93 {L : Nat} (d : Nat) (a0 : Nat) (a1 : Int32) (th : tH) : Wx L (fun x => (some (.int x), th)) (d + 1) 93 2 0 [(0, .ref a0), (1, .int a1)] [] th (m_93 a0 a1 th) := by
  unfold m_93
  refine x_gC ?_
  refine x_P 1 rfl rfl rfl ?_
  refine x_P 2 rfl rfl rfl ?_
  refine x_callV rfl rfl rfl rfl rfl ⟨rfl, rfl⟩ (fun x h => c_82 h) (S_82 d a0 th) (fun x1 hx1 => ?_)
  refine x_P 6 rfl rfl rfl ?_
  refine x_P 7 rfl rfl rfl ?_
  refine x_P 8 rfl rfl rfl ?_
  refine x_jn 24 (fun v2 => []) (fun v2 => [.int v2]) (fun v2 => th) (fun v2 => ?_) (fun j3 hj3 => ?_)
  · exact x_rB rfl
  · refine x_jn 23 (fun v4 => []) (fun v4 => []) (fun v4 => th) (fun v4 => ?_) (fun j5 hj5 => ?_)
    · refine x_P 24 rfl rfl rfl ?_
      exact x_lv (hj3 (Int32.ofInt 0)) trivial
    · refine x_if_ne rfl rfl (fun h8 => ?_) (fun h8 => ?_)
      · refine x_P 12 rfl rfl rfl ?_
        refine x_callS rfl rfl rfl rfl rfl rfl ⟨rfl, rfl⟩ (S_173 d a1 th) (fun x6 hx6 => ?_)
        refine x_P 16 rfl rfl rfl ?_
        refine x_ic_lt rfl rfl (fun h7 => ?_) (fun h7 => ?_)
        · exact x_lv (hj5 ()) trivial
        · refine x_P 20 rfl rfl rfl ?_
          refine x_P 24 rfl rfl rfl ?_
          exact x_lv (hj3 (Int32.ofInt 1)) trivial
      · exact x_lv (hj5 ()) trivial
-- 96 NineTrees$Garden.addWish(I)V
noncomputable def m_96 (a0 : Nat) (a1 : Int32) (th : tH) : Option tH :=
  (gC th 2 a0).bind fun _ =>
  (gI th 2 a0 6).bind fun x1 =>
  jn (fun (v2 : tH) =>
      some v2
    ) (fun j3 =>
      if (Int8.ofInt 8).toInt32 ≤ x1 then
        j3 th
      else
        (gN th 2 a0 3).bind fun o4 =>
        (gI th 2 a0 6).bind fun x5 =>
        (sI th o4 x5 a1).bind fun th6 =>
        (gI th6 2 a0 6).bind fun x7 =>
        (pI th6 2 a0 6 (x7 + (Int32.ofInt 1))).bind fun th8 =>
        j3 th8
    )
theorem c_96 {a0 : Nat} {a1 : Int32} {th : tH} {x : tH} (h : m_96 a0 a1 th = some x) : ∃ fs, th[a0]? = some (.inr (2, fs)) := gC_of h
theorem S_96 {L : Nat} (d : Nat) (a0 : Nat) (a1 : Int32) (th : tH) : Wx L (fun x => (none, x)) (d + 1) 96 2 0 [(0, .ref a0), (1, .int a1)] [] th (m_96 a0 a1 th) := by
  unfold m_96
  refine x_gC ?_
  refine x_P 1 rfl rfl rfl ?_
  refine x_gI rfl (fun x1 hx1 => ?_)
  refine x_P 6 rfl rfl rfl ?_
  refine x_jn 29 (fun v2 => []) (fun v2 => []) (fun v2 => v2) (fun v2 => ?_) (fun j3 hj3 => ?_)
  · exact x_retV (x := v2) rfl
  · refine x_ic_ge rfl rfl (fun h9 => ?_) (fun h9 => ?_)
    · exact x_lv (hj3 th) trivial
    · refine x_P 10 rfl rfl rfl ?_
      refine x_gN rfl (fun o4 ho4 => ?_)
      refine x_P 14 rfl rfl rfl ?_
      refine x_gI rfl (fun x5 hx5 => ?_)
      refine x_P 18 rfl rfl rfl ?_
      refine x_sI rfl ⟨rfl, rfl⟩ (fun th6 hth6 => ?_)
      refine x_P 20 rfl rfl rfl ?_
      refine x_P 21 rfl rfl rfl ?_
      refine x_gI rfl (fun x7 hx7 => ?_)
      refine x_P 25 rfl rfl rfl ?_
      refine x_P 26 rfl rfl rfl ?_
      refine x_pI rfl (fun th8 hth8 => ?_)
      exact x_lv (hj3 th8) trivial
-- 11 NineTrees.wish(I)I
noncomputable def m_11 (a0 : Nat) (a1 : Int32) (th : tH) : Option (Int32 × tH) :=
  (gC th 7 a0).bind fun _ =>
  (gN th 7 a0 0).bind fun o1 =>
  (m_93 o1 a1 th).bind fun x2 =>
  if x2 = 0 then
    (m_59 a0 (Int8.ofInt (-2)).toInt32 th).bind fun q11 =>
    some (q11.1, q11.2)
  else
    (gN th 7 a0 0).bind fun o3 =>
    (gI th 2 o3 6).bind fun x4 =>
    if x4 < (Int8.ofInt 8).toInt32 then
      (gN th 7 a0 0).bind fun o5 =>
      (m_96 o5 a1 th).bind fun th6 =>
      (gN th6 7 a0 0).bind fun o7 =>
      (gI th6 2 o7 6).bind fun x8 =>
      some ((x8 - (Int32.ofInt 1)), th6)
    else
      (m_59 a0 (Int8.ofInt (-6)).toInt32 th).bind fun q9 =>
      some (q9.1, q9.2)
theorem c_11 {a0 : Nat} {a1 : Int32} {th : tH} {x : (Int32 × tH)} (h : m_11 a0 a1 th = some x) : ∃ fs, th[a0]? = some (.inr (7, fs)) := gC_of h
theorem S_11 {L : Nat} (d : Nat) (a0 : Nat) (a1 : Int32) (th : tH) : Wx L (fun x => (some (.int x.1), x.2)) (d + 2) 11 2 0 [(0, .ref a0), (1, .int a1)] [] th (m_11 a0 a1 th) := by
  unfold m_11
  refine x_gC ?_
  refine x_P 1 rfl rfl rfl ?_
  refine x_gN rfl (fun o1 ho1 => ?_)
  refine x_P 5 rfl rfl rfl ?_
  refine x_callV rfl rfl rfl rfl rfl ⟨rfl, rfl⟩ (fun x h => c_93 h) (S_93 d o1 a1 th) (fun x2 hx2 => ?_)
  refine x_if_ne rfl rfl (fun h12 => ?_) (fun h12 => ?_)
  · refine x_P 12 rfl rfl rfl ?_
    refine x_P 14 rfl rfl rfl ?_
    refine x_callV rfl rfl rfl rfl rfl ⟨rfl, rfl⟩ (fun x h => c_59 h) (S_59 d a0 (Int8.ofInt (-2)).toInt32 th) (fun q11 hq11 => ?_)
    exact x_retI (x := (q11.1, q11.2)) rfl
  · refine x_P 19 rfl rfl rfl ?_
    refine x_gN rfl (fun o3 ho3 => ?_)
    refine x_gI rfl (fun x4 hx4 => ?_)
    refine x_P 27 rfl rfl rfl ?_
    refine x_ic_lt rfl rfl (fun h10 => ?_) (fun h10 => ?_)
    · refine x_P 38 rfl rfl rfl ?_
      refine x_gN rfl (fun o5 ho5 => ?_)
      refine x_P 42 rfl rfl rfl ?_
      refine x_callW rfl rfl rfl rfl rfl ⟨rfl, rfl⟩ (fun x h => c_96 h) (S_96 d o5 a1 th) (fun th6 hth6 => ?_)
      refine x_P 46 rfl rfl rfl ?_
      refine x_gN rfl (fun o7 ho7 => ?_)
      refine x_gI rfl (fun x8 hx8 => ?_)
      refine x_P 53 rfl rfl rfl ?_
      refine x_P 54 rfl rfl rfl ?_
      exact x_retI (x := ((x8 - (Int32.ofInt 1)), th6)) rfl
    · refine x_P 31 rfl rfl rfl ?_
      refine x_P 33 rfl rfl rfl ?_
      refine x_callV rfl rfl rfl rfl rfl ⟨rfl, rfl⟩ (fun x h => c_59 h) (S_59 d a0 (Int8.ofInt (-6)).toInt32 th) (fun q9 hq9 => ?_)
      exact x_retI (x := (q9.1, q9.2)) rfl
-- 12 NineTrees.content()I
noncomputable def m_12 (a0 : Nat) (th : tH) : Option (Int32 × tH) :=
  (gC th 7 a0).bind fun _ =>
  (gN th 7 a0 0).bind fun o1 =>
  (gI th 2 o1 6).bind fun x2 =>
  (gN th 7 a0 0).bind fun o3 =>
  (pI th 2 o3 6 (Int32.ofInt 0)).bind fun th4 =>
  some (x2, th4)
theorem c_12 {a0 : Nat} {th : tH} {x : (Int32 × tH)} (h : m_12 a0 th = some x) : ∃ fs, th[a0]? = some (.inr (7, fs)) := gC_of h
theorem S_12 {L : Nat} (d : Nat) (a0 : Nat) (th : tH) : Wx L (fun x => (some (.int x.1), x.2)) (d + 1) 12 2 0 [(0, .ref a0)] [] th (m_12 a0 th) := by
  unfold m_12
  refine x_gC ?_
  refine x_P 1 rfl rfl rfl ?_
  refine x_gN rfl (fun o1 ho1 => ?_)
  refine x_gI rfl (fun x2 hx2 => ?_)
  refine x_P (lv' := [(1, .int x2), (0, .ref a0)]) 8 rfl rfl rfl ?_
  refine x_P 9 rfl rfl rfl ?_
  refine x_gN rfl (fun o3 ho3 => ?_)
  refine x_P 13 rfl rfl rfl ?_
  refine x_pI rfl (fun th4 hth4 => ?_)
  refine x_P 17 rfl rfl rfl ?_
  exact x_retI (x := (x2, th4)) rfl
-- 87 NineTrees$Garden.isMovable(I)Z
noncomputable def m_87 (a0 : Nat) (a1 : Int32) (th : tH) : Option (Int32) :=
  (gC th 2 a0).bind fun _ =>
  (m_85 a0 a1 (Int32.ofInt 1) th).bind fun x1 =>
  jn (fun (v2 : Int32) =>
      rB v2
    ) (fun j3 =>
      if x1 = 0 then
        j3 (Int32.ofInt 1)
      else
        j3 (Int32.ofInt 0)
    )
theorem c_87 {a0 : Nat} {a1 : Int32} {th : tH} {x : (Int32)} (h : m_87 a0 a1 th = some x) : ∃ fs, th[a0]? = some (.inr (2, fs)) := gC_of h
theorem S_87 {L : Nat} (d : Nat) (a0 : Nat) (a1 : Int32) (th : tH) : Wx L (fun x => (some (.int x), th)) (d + 1) 87 2 0 [(0, .ref a0), (1, .int a1)] [] th (m_87 a0 a1 th) := by
  unfold m_87
  refine x_gC ?_
  refine x_P 1 rfl rfl rfl ?_
  refine x_P 2 rfl rfl rfl ?_
  refine x_P 3 rfl rfl rfl ?_
  refine x_callV rfl rfl rfl rfl rfl ⟨rfl, rfl⟩ (fun x h => c_85 h) (S_85 d a0 a1 (Int32.ofInt 1) th) (fun x1 hx1 => ?_)
  refine x_jn 14 (fun v2 => []) (fun v2 => [.int v2]) (fun v2 => th) (fun v2 => ?_) (fun j3 hj3 => ?_)
  · exact x_rB rfl
  · refine x_if_ne rfl rfl (fun h4 => ?_) (fun h4 => ?_)
    · refine x_P 10 rfl rfl rfl ?_
      refine x_P 14 rfl rfl rfl ?_
      exact x_lv (hj3 (Int32.ofInt 1)) trivial
    · refine x_P 14 rfl rfl rfl ?_
      exact x_lv (hj3 (Int32.ofInt 0)) trivial
-- 67 NineTrees.whyNoMove(II)I
noncomputable def m_67 (a0 : Nat) (a1 : Int32) (a2 : Int32) (th : tH) : Option (Int32) :=
  (gC th 7 a0).bind fun _ =>
  (gN th 7 a0 0).bind fun o1 =>
  (m_81 o1 a1 th).bind fun x2 =>
  jn (fun (v3 : Unit) =>
      some (Int8.ofInt (-2)).toInt32
    ) (fun j4 =>
      if x2 = 0 then
        j4 ()
      else
        (gN th 7 a0 0).bind fun o5 =>
        (m_71 o5 a2 th).bind fun x6 =>
        if x6 = 0 then
          j4 ()
        else
          (gN th 7 a0 0).bind fun o7 =>
          (m_87 o7 a1 th).bind fun x8 =>
          jn (fun (v9 : Int32) =>
              some v9
            ) (fun j10 =>
              jn (fun (v11 : Unit) =>
                  j10 (Int8.ofInt (-5)).toInt32
                ) (fun j12 =>
                  if x8 = 0 then
                    j12 ()
                  else
                    (gN th 7 a0 0).bind fun o13 =>
                    (m_84 o13 a2 th).bind fun x14 =>
                    if x14 = 0 then
                      j12 ()
                    else
                      j10 (Int32.ofInt 0)
                )
            )
    )
theorem c_67 {a0 : Nat} {a1 : Int32} {a2 : Int32} {th : tH} {x : (Int32)} (h : m_67 a0 a1 a2 th = some x) : ∃ fs, th[a0]? = some (.inr (7, fs)) := gC_of h
theorem S_67 {L : Nat} (d : Nat) (a0 : Nat) (a1 : Int32) (a2 : Int32) (th : tH) : Wx L (fun x => (some (.int x), th)) (d + 2) 67 3 0 [(0, .ref a0), (1, .int a1), (2, .int a2)] [] th (m_67 a0 a1 a2 th) := by
  unfold m_67
  refine x_gC ?_
  refine x_P 1 rfl rfl rfl ?_
  refine x_gN rfl (fun o1 ho1 => ?_)
  refine x_P 5 rfl rfl rfl ?_
  refine x_callV rfl rfl rfl rfl rfl ⟨rfl, rfl⟩ (fun x h => c_81 h) (S_81 (d + 1) o1 a1 th) (fun x2 hx2 => ?_)
  refine x_jn 22 (fun v3 => []) (fun v3 => []) (fun v3 => th) (fun v3 => ?_) (fun j4 hj4 => ?_)
  · refine x_P 24 rfl rfl rfl ?_
    exact x_retI (x := (Int8.ofInt (-2)).toInt32) rfl
  · refine x_if_eq rfl rfl (fun h18 => ?_) (fun h18 => ?_)
    · exact x_lv (hj4 ()) trivial
    · refine x_P 12 rfl rfl rfl ?_
      refine x_gN rfl (fun o5 ho5 => ?_)
      refine x_P 16 rfl rfl rfl ?_
      refine x_callV rfl rfl rfl rfl rfl ⟨rfl, rfl⟩ (fun x h => c_71 h) (S_71 d o5 a2 th) (fun x6 hx6 => ?_)
      refine x_if_ne rfl rfl (fun h17 => ?_) (fun h17 => ?_)
      · exact x_lv (hj4 ()) trivial
      · refine x_P 26 rfl rfl rfl ?_
        refine x_gN rfl (fun o7 ho7 => ?_)
        refine x_P 30 rfl rfl rfl ?_
        refine x_callV rfl rfl rfl rfl rfl ⟨rfl, rfl⟩ (fun x h => c_87 h) (S_87 d o7 a1 th) (fun x8 hx8 => ?_)
        refine x_jn 53 (fun v9 => []) (fun v9 => [.int v9]) (fun v9 => th) (fun v9 => ?_) (fun j10 hj10 => ?_)
        · exact x_retI (x := v9) rfl
        · refine x_jn 51 (fun v11 => []) (fun v11 => []) (fun v11 => th) (fun v11 => ?_) (fun j12 hj12 => ?_)
          · refine x_P 53 rfl rfl rfl ?_
            exact x_lv (hj10 (Int8.ofInt (-5)).toInt32) trivial
          · refine x_if_eq rfl rfl (fun h16 => ?_) (fun h16 => ?_)
            · exact x_lv (hj12 ()) trivial
            · refine x_P 37 rfl rfl rfl ?_
              refine x_gN rfl (fun o13 ho13 => ?_)
              refine x_P 41 rfl rfl rfl ?_
              refine x_callV rfl rfl rfl rfl rfl ⟨rfl, rfl⟩ (fun x h => c_84 h) (S_84 d o13 a2 th) (fun x14 hx14 => ?_)
              refine x_if_eq rfl rfl (fun h15 => ?_) (fun h15 => ?_)
              · exact x_lv (hj12 ()) trivial
              · refine x_P 48 rfl rfl rfl ?_
                refine x_P 53 rfl rfl rfl ?_
                exact x_lv (hj10 (Int32.ofInt 0)) trivial
-- 13 NineTrees.move(II)I
noncomputable def m_13 (a0 : Nat) (a1 : Int32) (a2 : Int32) (th : tH) : Option (Int32 × tH) :=
  (gC th 7 a0).bind fun _ =>
  (m_67 a0 a1 a2 th).bind fun x1 =>
  if x1 = 0 then
    (gN th 7 a0 0).bind fun o2 =>
    (gN th 2 o2 1).bind fun o3 =>
    (aI th o3 a1).bind fun x4 =>
    (gN th 7 a0 0).bind fun o5 =>
    (gN th 2 o5 1).bind fun o6 =>
    (sI th o6 a1 a2).bind fun th7 =>
    some (x4, th7)
  else
    (m_59 a0 x1 th).bind fun q8 =>
    some (q8.1, q8.2)
theorem c_13 {a0 : Nat} {a1 : Int32} {a2 : Int32} {th : tH} {x : (Int32 × tH)} (h : m_13 a0 a1 a2 th = some x) : ∃ fs, th[a0]? = some (.inr (7, fs)) := gC_of h
theorem S_13 {L : Nat} (d : Nat) (a0 : Nat) (a1 : Int32) (a2 : Int32) (th : tH) : Wx L (fun x => (some (.int x.1), x.2)) (d + 3) 13 5 0 [(0, .ref a0), (1, .int a1), (2, .int a2)] [] th (m_13 a0 a1 a2 th) := by
  unfold m_13
  refine x_gC ?_
  refine x_P 1 rfl rfl rfl ?_
  refine x_P 2 rfl rfl rfl ?_
  refine x_P 3 rfl rfl rfl ?_
  refine x_callV rfl rfl rfl rfl rfl ⟨rfl, rfl⟩ (fun x h => c_67 h) (S_67 d a0 a1 a2 th) (fun x1 hx1 => ?_)
  refine x_P (lv' := [(3, .int x1), (0, .ref a0), (1, .int a1), (2, .int a2)]) 7 rfl rfl rfl ?_
  refine x_P 8 rfl rfl rfl ?_
  refine x_if_eq rfl rfl (fun h9 => ?_) (fun h9 => ?_)
  · refine x_P 18 rfl rfl rfl ?_
    refine x_gN rfl (fun o2 ho2 => ?_)
    refine x_gN rfl (fun o3 ho3 => ?_)
    refine x_P 25 rfl rfl rfl ?_
    refine x_aI rfl ⟨rfl, rfl⟩ (fun x4 hx4 => ?_)
    refine x_P (lv' := [(4, .int x4), (3, .int x1), (0, .ref a0), (1, .int a1), (2, .int a2)]) 28 rfl rfl rfl ?_
    refine x_P 29 rfl rfl rfl ?_
    refine x_gN rfl (fun o5 ho5 => ?_)
    refine x_gN rfl (fun o6 ho6 => ?_)
    refine x_P 36 rfl rfl rfl ?_
    refine x_P 37 rfl rfl rfl ?_
    refine x_sI rfl ⟨rfl, rfl⟩ (fun th7 hth7 => ?_)
    refine x_P 40 rfl rfl rfl ?_
    exact x_retI (x := (x4, th7)) rfl
  · refine x_P 12 rfl rfl rfl ?_
    refine x_P 13 rfl rfl rfl ?_
    refine x_callV rfl rfl rfl rfl rfl ⟨rfl, rfl⟩ (fun x h => c_59 h) (S_59 (d + 1) a0 x1 th) (fun q8 hq8 => ?_)
    exact x_retI (x := (q8.1, q8.2)) rfl
-- 90 NineTrees$Garden.isLastFellable()Z
noncomputable def m_90 (a0 : Nat) (th : tH) : Option (Int32) :=
  (gC th 2 a0).bind fun _ =>
  (gI th 2 a0 5).bind fun x1 =>
  jn (fun (v2 : Int32) =>
      rB v2
    ) (fun j3 =>
      jn (fun (v4 : Unit) =>
          j3 (Int32.ofInt 0)
        ) (fun j5 =>
          if x1 ≤ 0 then
            j5 ()
          else
            (gI th 2 a0 5).bind fun x6 =>
            (m_97 a0 (x6 - (Int32.ofInt 1)) th).bind fun x7 =>
            if x7 = 0 then
              j3 (Int32.ofInt 1)
            else
              j5 ()
        )
    )
theorem c_90 {a0 : Nat} {th : tH} {x : (Int32)} (h : m_90 a0 th = some x) : ∃ fs, th[a0]? = some (.inr (2, fs)) := gC_of h
theorem S_90 {L : Nat} (d : Nat) (a0 : Nat) (th : tH) : Wx L (fun x => (some (.int x), th)) (d + 1) 90 1 0 [(0, .ref a0)] [] th (m_90 a0 th) := by
  unfold m_90
  refine x_gC ?_
  refine x_P 1 rfl rfl rfl ?_
  refine x_gI rfl (fun x1 hx1 => ?_)
  refine x_jn 25 (fun v2 => []) (fun v2 => [.int v2]) (fun v2 => th) (fun v2 => ?_) (fun j3 hj3 => ?_)
  · exact x_rB rfl
  · refine x_jn 24 (fun v4 => []) (fun v4 => []) (fun v4 => th) (fun v4 => ?_) (fun j5 hj5 => ?_)
    · refine x_P 25 rfl rfl rfl ?_
      exact x_lv (hj3 (Int32.ofInt 0)) trivial
    · refine x_if_le rfl rfl (fun h9 => ?_) (fun h9 => ?_)
      · exact x_lv (hj5 ()) trivial
      · refine x_P 8 rfl rfl rfl ?_
        refine x_P 9 rfl rfl rfl ?_
        refine x_gI rfl (fun x6 hx6 => ?_)
        refine x_P 13 rfl rfl rfl ?_
        refine x_P 14 rfl rfl rfl ?_
        refine x_callV rfl rfl rfl rfl rfl ⟨rfl, rfl⟩ (fun x h => c_97 h) (S_97 d a0 (x6 - (Int32.ofInt 1)) th) (fun x7 hx7 => ?_)
        refine x_if_ne rfl rfl (fun h8 => ?_) (fun h8 => ?_)
        · refine x_P 21 rfl rfl rfl ?_
          refine x_P 25 rfl rfl rfl ?_
          exact x_lv (hj3 (Int32.ofInt 1)) trivial
        · exact x_lv (hj5 ()) trivial
