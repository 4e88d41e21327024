/-! ===== the tables are right ===== -/
def t_ix (ins : Instr) : Nat := match ins with
  | .getfield k | .putfield k | .getstatic k | .invokevirtual k | .invokestatic k | .invokespecial k | .new k | .anewarray k | .ldc k | .ldc_w k | .ldc2_w k => k
  | .multianewarray k _ => k
  | .newarray .int => 70000
  | .newarray .long => 70001
  | _ => 80000
def t_look : List (Nat × tI) → Nat → tI → Bool
  | [], _, _ => false
  | q :: t, k, en => (Nat.beq q.1 k && decide (q.2 = en)) || t_look t k en
theorem t_look_of : ∀ {P : List (Nat × tI)} {k : Nat} {en : tI}, t_look P k en = true → ∃ q ∈ P, q.2 = en
  | [], _, _, h => by cases h
  | q :: t, k, en, h => by
    simp only [t_look, Bool.or_eq_true, Bool.and_eq_true, decide_eq_true_eq] at h
    rcases h with h | h
    · exact ⟨q, List.mem_cons_self, h.2⟩
    · obtain ⟨x, h1, h2⟩ := t_look_of h
      exact ⟨x, List.mem_cons_of_mem _ h1, h2⟩
def t_chk (q : t_M) (P : List (Nat × tI)) (pc : Nat) (i : Instr) (n : Nat) (f : Option tI) : Bool := match f with
  | none => true
  | some en => decide (en.2.1 = i) && ((Nat.beq (t_len i) 0 || Nat.beq (t_len i) n) && (t_okI q.1.cls q.1.name q.2.2.2.1 t_ys pc en && ((t_nd q.1.cls t_ys en).isEmpty || t_look P (t_ix en.2.1) en)))
def t_gap (f : Nat → Option tI) : Nat → Nat → Bool
  | _, 0 => true
  | a, k + 1 => (f a).isNone && t_gap f (a + 1) k
def t_walk (q : t_M) (P : List (Nat × tI)) (f : Nat → Option tI) : List (Instr × Nat) → Nat → Bool
  | [], _ => true
  | (i, n) :: t, pc => t_chk q P pc i n (f pc) && (t_gap f (pc + 1) (n - 1) && t_walk q P f t (pc + n))
theorem t_gap_of {f : Nat → Option tI} : ∀ {k a : Nat}, t_gap f a k = true → ∀ pc, a ≤ pc → pc < a + k → f pc = none
  | 0, a, _, pc, h1, h2 => by omega
  | k + 1, a, h, pc, h1, h2 => by
    simp only [t_gap, Bool.and_eq_true] at h
    by_cases e : pc = a
    · subst e; exact Option.isNone_iff_eq_none.mp h.1
    · exact t_gap_of h.2 pc (by omega) (by omega)
/-- what is checked of a method's table -/
def t_mth (i : Nat) (f : Nat → Option tI) : Prop := ∀ (pc : Nat) (en : tI), f pc = some en → ∃ q : t_M, t_ms[i]? = some q ∧ (∃ len, decode q.2.1 pc = .ok (en.2.1, len) ∧ (t_len en.2.1 = 0 ∨ t_len en.2.1 = len)) ∧ t_okI q.1.cls q.1.name q.2.2.2.1 t_ys pc en = true ∧ ∀ w ∈ t_nd q.1.cls t_ys en, w ∈ gt
theorem t_walk_of {f : Nat → Option tI} {q : t_M} {P : List (Nat × tI)} (hP : ∀ e ∈ P, ∀ w ∈ t_nd q.1.cls t_ys e.2, w ∈ gt) : ∀ (t : List (Instr × Nat)) (a : Nat), t_walk q P f t a = true → Jvm.Free.DS.Facts q.2.1 a t → ∀ (pc : Nat) (en : tI), a ≤ pc → pc < a + (t.map (·.2)).sum → f pc = some en → (∃ len, decode q.2.1 pc = .ok (en.2.1, len) ∧ (t_len en.2.1 = 0 ∨ t_len en.2.1 = len)) ∧ t_okI q.1.cls q.1.name q.2.2.2.1 t_ys pc en = true ∧ ∀ w ∈ t_nd q.1.cls t_ys en, w ∈ gt
  | [], a, _, _, pc, en, h1, h2, _ => by simp at h2; omega
  | (i, n) :: t, a, hw, hF, pc, en, h1, h2, he => by
    simp only [t_walk, Bool.and_eq_true] at hw
    obtain ⟨c1, c2, c3⟩ := hw
    obtain ⟨d1, d2⟩ := hF
    by_cases e : pc = a
    · subst e
      rw [he] at c1
      simp only [t_chk, Bool.and_eq_true, Bool.or_eq_true, decide_eq_true_eq] at c1
      obtain ⟨b1, b2, b3, b4⟩ := c1
      refine ⟨⟨n, by rw [b1]; exact d1, by rw [b1]; exact b2.elim (fun z => Or.inl (Nat.eq_of_beq_eq_true z)) (fun z => Or.inr (Nat.eq_of_beq_eq_true z))⟩, b3, fun w hw => ?_⟩
      rcases b4 with z | z
      · rw [List.isEmpty_iff] at z
        rw [z] at hw
        cases hw
      · obtain ⟨x, x1, x2⟩ := t_look_of z
        rw [← x2] at hw
        exact hP x x1 w hw
    · by_cases e2 : pc < a + n
      · have := t_gap_of c2 pc (by omega) (by omega)
        rw [this] at he
        cases he
      · simp only [List.map_cons, List.sum_cons] at h2
        exact t_walk_of hP t (a + n) c3 d2 pc en (by omega) (by omega) he
theorem t_mth_of {i : Nat} {f : Nat → Option tI} {q : t_M} {P : List (Nat × tI)} {I : List (Instr × Nat)} (n : Nat) (hq : t_ms[i]? = some q) (hP : ∀ e ∈ P, ∀ w ∈ t_nd q.1.cls t_ys e.2, w ∈ gt) (hz : ∀ pc en, f pc = some en → pc < n) (hn : (I.map (·.2)).sum = n) (hd : Jvm.Free.DS.chk (q.2.1.data.toList.drop 0) 0 I = true) (hs : 0 + (I.map (·.2)).sum ≤ q.2.1.size) (hc : t_walk q P f I 0 = true) : t_mth i f := by
  intro pc en he
  exact ⟨q, hq, t_walk_of hP I 0 hc (Jvm.Free.DS.facts 0 I hd hs) pc en (Nat.zero_le _) (by rw [hn]; have := hz pc en he; omega) he⟩
theorem t_lt {n pc : Nat} {en : tI} {a : Option tI} (h : (bif Nat.blt pc n then a else none) = some en) : pc < n := by
  cases hb : Nat.blt pc n with
  | false => rw [hb] at h; cases h
  | true => exact Nat.le_of_ble_eq_true hb
theorem t_flat {P : List (Nat × tI)} {own : String} {ps : List Nat} (h : t_in (P.flatMap (fun e => t_nd own t_ys e.2)) ps = true) : ∀ e ∈ P, ∀ w ∈ t_nd own t_ys e.2, w ∈ gt := fun e he w hw => t_in_of h w (List.mem_flatMap.mpr ⟨e, he, hw⟩)
theorem rd_bind {α β : Type} {r : Jvm.Free.DS.Rd α} {f : α → Jvm.Free.DS.Rd β} {A : ByteArray} {p s : Nat} {a : α} (h : r A p = .ok (a, s)) : (r >>= f) A p = f a A s := by
  show (do let (a, s) ← r A p; f a A s : Except DecodeError (β × Nat)) = _
  rw [h]
  rfl
theorem rd_map {α β : Type} {r : Jvm.Free.DS.Rd α} {g : α → β} {A : ByteArray} {p s : Nat} {a : α} (h : r A p = .ok (a, s)) : (g <$> r) A p = .ok (g a, s) := by
  show (do let (a, s) ← r A p; .ok (g a, s) : Except DecodeError (β × Nat)) = _
  rw [h]
  rfl
def t_by (A : ByteArray) (p k : Nat) : Prop := ∃ x : UInt8, A.data.toList[p]? = some x ∧ x.toNat = k
theorem rd_u1 {A : ByteArray} {p k : Nat} (h : t_by A p k) : (Reader.u1 : Jvm.Free.DS.Rd Nat) A p = .ok (k, p + 1) := by
  obtain ⟨x, hx, rfl⟩ := h
  have e : (Reader.u1 : Jvm.Free.DS.Rd Nat) A p = (if h : p < A.size then .ok (A[p].toNat, p + 1) else .error (HasTruncated.truncated p)) := by
    show (do if h : p < A.size then do set (p + 1); Pure.pure A[p].toNat else MonadExcept.throw (HasTruncated.truncated p) : Jvm.Free.DS.Rd Nat) A p = _
    by_cases hi : p < A.size
    · rw [dif_pos hi, dif_pos hi]; rfl
    · rw [dif_neg hi, dif_neg hi]; rfl
  have hp : p < A.size := Jvm.Free.DS.bt_lt hx
  rw [e, dif_pos hp]
  have h2 := Jvm.Free.DS.bt_some hp
  unfold Jvm.Free.DS.bt at h2
  rw [hx] at h2
  rw [Option.some.inj h2]
theorem rd_u2 {A : ByteArray} {p b c : Nat} (h1 : t_by A p b) (h2 : t_by A (p + 1) c) : (Reader.u2 : Jvm.Free.DS.Rd Nat) A p = .ok (b * 256 + c, p + 2) := by
  unfold Reader.u2
  rw [rd_bind (rd_u1 h1), rd_bind (rd_u1 h2)]
  rfl
theorem rd_s1 {A : ByteArray} {p k : Nat} (h : t_by A p k) : (Reader.s1 : Jvm.Free.DS.Rd Int) A p = .ok (Reader.signed 8 k, p + 1) := rd_map (rd_u1 h)
theorem rd_s2 {A : ByteArray} {p b c : Nat} (h1 : t_by A p b) (h2 : t_by A (p + 1) c) : (Reader.s2 : Jvm.Free.DS.Rd Int) A p = .ok (Reader.signed 16 (b * 256 + c), p + 2) := rd_map (rd_u2 h1 h2)
theorem rd_dec {A : ByteArray} {pc n : Nat} {i : Instr} (h : Decoder.instr pc A pc = .ok (i, pc + n)) : decode A pc = .ok (i, n) := by
  show (do let (j, s) ← Decoder.instr pc A pc; Pure.pure (j, s - pc) : Except DecodeError (Instr × Nat)) = _
  rw [h]
  show Except.ok (i, pc + n - pc) = _
  rw [Nat.add_sub_cancel_left]
/-- where these bytes stand this is read -/
def t_DP (o b c : Nat) (x : Instr × Nat) : Prop := ∀ (A : ByteArray) (pc : Nat), t_by A pc o → (1 < x.2 → t_by A (pc + 1) b) → (2 < x.2 → t_by A (pc + 2) c) → decode A pc = .ok x
theorem dp_z {o b c : Nat} {i : Instr} (h : ∀ (pc : Nat) (A : ByteArray) (p s : Nat), (Reader.u1 : Jvm.Free.DS.Rd Nat) A p = .ok (o, s) → Decoder.instr pc A p = .ok (i, s)) : t_DP o b c (i, 1) :=
  fun A pc h0 _ _ => rd_dec (h pc A pc _ (rd_u1 h0))
theorem dp_u1 {o b c : Nat} {f : Nat → Instr} (h : ∀ (pc : Nat) (A : ByteArray) (p s : Nat), (Reader.u1 : Jvm.Free.DS.Rd Nat) A p = .ok (o, s) → Decoder.instr pc A p = ((Reader.u1 : Jvm.Free.DS.Rd Nat) >>= fun k => pure (f k)) A s) : t_DP o b c (f b, 2) :=
  fun A pc h0 h1 _ => rd_dec (by rw [h pc A pc _ (rd_u1 h0), rd_bind (rd_u1 (h1 (show 1 < 2 by decide)))]; rfl)
theorem dp_s1 {o b c : Nat} {f : Int → Instr} (h : ∀ (pc : Nat) (A : ByteArray) (p s : Nat), (Reader.u1 : Jvm.Free.DS.Rd Nat) A p = .ok (o, s) → Decoder.instr pc A p = ((Reader.s1 : Jvm.Free.DS.Rd Int) >>= fun k => pure (f k)) A s) : t_DP o b c (f (Reader.signed 8 b), 2) :=
  fun A pc h0 h1 _ => rd_dec (by rw [h pc A pc _ (rd_u1 h0), rd_bind (rd_s1 (h1 (show 1 < 2 by decide)))]; rfl)
theorem dp_u2 {o b c : Nat} {f : Nat → Instr} (h : ∀ (pc : Nat) (A : ByteArray) (p s : Nat), (Reader.u1 : Jvm.Free.DS.Rd Nat) A p = .ok (o, s) → Decoder.instr pc A p = ((Reader.u2 : Jvm.Free.DS.Rd Nat) >>= fun k => pure (f k)) A s) : t_DP o b c (f (Nat.add (Nat.mul b 256) c), 3) :=
  fun A pc h0 h1 h2 => rd_dec (by rw [h pc A pc _ (rd_u1 h0), rd_bind (rd_u2 (h1 (show 1 < 3 by decide)) (h2 (show 2 < 3 by decide)))]; rfl)
theorem dp_s2 {o b c : Nat} {f : Int → Instr} (h : ∀ (pc : Nat) (A : ByteArray) (p s : Nat), (Reader.u1 : Jvm.Free.DS.Rd Nat) A p = .ok (o, s) → Decoder.instr pc A p = ((Reader.s2 : Jvm.Free.DS.Rd Int) >>= fun k => pure (f k)) A s) : t_DP o b c (f (Reader.signed 16 (Nat.add (Nat.mul b 256) c)), 3) :=
  fun A pc h0 h1 h2 => rd_dec (by rw [h pc A pc _ (rd_u1 h0), rd_bind (rd_s2 (h1 (show 1 < 3 by decide)) (h2 (show 2 < 3 by decide)))]; rfl)
theorem dp_ii {o b c : Nat} (h : ∀ (pc : Nat) (A : ByteArray) (p s : Nat), (Reader.u1 : Jvm.Free.DS.Rd Nat) A p = .ok (o, s) → Decoder.instr pc A p = ((Reader.u1 : Jvm.Free.DS.Rd Nat) >>= fun k => (Reader.s1 : Jvm.Free.DS.Rd Int) >>= fun d => pure (.iinc k d)) A s) : t_DP o b c (.iinc b (Reader.signed 8 c), 3) :=
  fun A pc h0 h1 h2 => rd_dec (by rw [h pc A pc _ (rd_u1 h0), rd_bind (rd_u1 (h1 (show 1 < 3 by decide))), rd_bind (rd_s1 (h2 (show 2 < 3 by decide)))]; rfl)
theorem dp_na {o b c : Nat} {i : Instr} (h : ∀ (pc : Nat) (A : ByteArray) (p s r : Nat), (Reader.u1 : Jvm.Free.DS.Rd Nat) A p = .ok (o, s) → (Reader.u1 : Jvm.Free.DS.Rd Nat) A s = .ok (b, r) → Decoder.instr pc A p = .ok (i, r)) : t_DP o b c (i, 2) :=
  fun A pc h0 h1 _ => rd_dec (h pc A pc _ _ (rd_u1 h0) (rd_u1 (h1 (show 1 < 2 by decide))))
theorem o_1 {b c : Nat} : t_DP 1 b c (.aconst_null, 1) := dp_z (fun pc A p s h => rd_bind h)
theorem o_2 {b c : Nat} : t_DP 2 b c ((.iconst (-1)), 1) := dp_z (fun pc A p s h => rd_bind h)
theorem o_3 {b c : Nat} : t_DP 3 b c ((.iconst 0), 1) := dp_z (fun pc A p s h => rd_bind h)
theorem o_4 {b c : Nat} : t_DP 4 b c ((.iconst 1), 1) := dp_z (fun pc A p s h => rd_bind h)
theorem o_5 {b c : Nat} : t_DP 5 b c ((.iconst 2), 1) := dp_z (fun pc A p s h => rd_bind h)
theorem o_6 {b c : Nat} : t_DP 6 b c ((.iconst 3), 1) := dp_z (fun pc A p s h => rd_bind h)
theorem o_7 {b c : Nat} : t_DP 7 b c ((.iconst 4), 1) := dp_z (fun pc A p s h => rd_bind h)
theorem o_8 {b c : Nat} : t_DP 8 b c ((.iconst 5), 1) := dp_z (fun pc A p s h => rd_bind h)
theorem o_9 {b c : Nat} : t_DP 9 b c ((.lconst 0), 1) := dp_z (fun pc A p s h => rd_bind h)
theorem o_10 {b c : Nat} : t_DP 10 b c ((.lconst 1), 1) := dp_z (fun pc A p s h => rd_bind h)
theorem o_16 {b c : Nat} : t_DP 16 b c (.bipush (Reader.signed 8 b), 2) := dp_s1 (f := fun k => .bipush k) (fun pc A p s h => rd_bind h)
theorem o_17 {b c : Nat} : t_DP 17 b c (.sipush (Reader.signed 16 (Nat.add (Nat.mul b 256) c)), 3) := dp_s2 (f := fun k => .sipush k) (fun pc A p s h => rd_bind h)
theorem o_18 {b c : Nat} : t_DP 18 b c (.ldc b, 2) := dp_u1 (f := fun k => .ldc k) (fun pc A p s h => rd_bind h)
theorem o_19 {b c : Nat} : t_DP 19 b c (.ldc_w (Nat.add (Nat.mul b 256) c), 3) := dp_u2 (f := fun k => .ldc_w k) (fun pc A p s h => rd_bind h)
theorem o_20 {b c : Nat} : t_DP 20 b c (.ldc2_w (Nat.add (Nat.mul b 256) c), 3) := dp_u2 (f := fun k => .ldc2_w k) (fun pc A p s h => rd_bind h)
theorem o_21 {b c : Nat} : t_DP 21 b c (.iload b, 2) := dp_u1 (f := fun k => .iload k) (fun pc A p s h => rd_bind h)
theorem o_22 {b c : Nat} : t_DP 22 b c (.lload b, 2) := dp_u1 (f := fun k => .lload k) (fun pc A p s h => rd_bind h)
theorem o_25 {b c : Nat} : t_DP 25 b c (.aload b, 2) := dp_u1 (f := fun k => .aload k) (fun pc A p s h => rd_bind h)
theorem o_26 {b c : Nat} : t_DP 26 b c ((.iload_n 0), 1) := dp_z (fun pc A p s h => rd_bind h)
theorem o_27 {b c : Nat} : t_DP 27 b c ((.iload_n 1), 1) := dp_z (fun pc A p s h => rd_bind h)
theorem o_28 {b c : Nat} : t_DP 28 b c ((.iload_n 2), 1) := dp_z (fun pc A p s h => rd_bind h)
theorem o_29 {b c : Nat} : t_DP 29 b c ((.iload_n 3), 1) := dp_z (fun pc A p s h => rd_bind h)
theorem o_30 {b c : Nat} : t_DP 30 b c ((.lload_n 0), 1) := dp_z (fun pc A p s h => rd_bind h)
theorem o_31 {b c : Nat} : t_DP 31 b c ((.lload_n 1), 1) := dp_z (fun pc A p s h => rd_bind h)
theorem o_32 {b c : Nat} : t_DP 32 b c ((.lload_n 2), 1) := dp_z (fun pc A p s h => rd_bind h)
theorem o_33 {b c : Nat} : t_DP 33 b c ((.lload_n 3), 1) := dp_z (fun pc A p s h => rd_bind h)
theorem o_42 {b c : Nat} : t_DP 42 b c ((.aload_n 0), 1) := dp_z (fun pc A p s h => rd_bind h)
theorem o_43 {b c : Nat} : t_DP 43 b c ((.aload_n 1), 1) := dp_z (fun pc A p s h => rd_bind h)
theorem o_44 {b c : Nat} : t_DP 44 b c ((.aload_n 2), 1) := dp_z (fun pc A p s h => rd_bind h)
theorem o_45 {b c : Nat} : t_DP 45 b c ((.aload_n 3), 1) := dp_z (fun pc A p s h => rd_bind h)
theorem o_46 {b c : Nat} : t_DP 46 b c (.iaload, 1) := dp_z (fun pc A p s h => rd_bind h)
theorem o_47 {b c : Nat} : t_DP 47 b c (.laload, 1) := dp_z (fun pc A p s h => rd_bind h)
theorem o_50 {b c : Nat} : t_DP 50 b c (.aaload, 1) := dp_z (fun pc A p s h => rd_bind h)
theorem o_51 {b c : Nat} : t_DP 51 b c (.baload, 1) := dp_z (fun pc A p s h => rd_bind h)
theorem o_54 {b c : Nat} : t_DP 54 b c (.istore b, 2) := dp_u1 (f := fun k => .istore k) (fun pc A p s h => rd_bind h)
theorem o_55 {b c : Nat} : t_DP 55 b c (.lstore b, 2) := dp_u1 (f := fun k => .lstore k) (fun pc A p s h => rd_bind h)
theorem o_58 {b c : Nat} : t_DP 58 b c (.astore b, 2) := dp_u1 (f := fun k => .astore k) (fun pc A p s h => rd_bind h)
theorem o_59 {b c : Nat} : t_DP 59 b c ((.istore_n 0), 1) := dp_z (fun pc A p s h => rd_bind h)
theorem o_60 {b c : Nat} : t_DP 60 b c ((.istore_n 1), 1) := dp_z (fun pc A p s h => rd_bind h)
theorem o_61 {b c : Nat} : t_DP 61 b c ((.istore_n 2), 1) := dp_z (fun pc A p s h => rd_bind h)
theorem o_62 {b c : Nat} : t_DP 62 b c ((.istore_n 3), 1) := dp_z (fun pc A p s h => rd_bind h)
theorem o_63 {b c : Nat} : t_DP 63 b c ((.lstore_n 0), 1) := dp_z (fun pc A p s h => rd_bind h)
theorem o_64 {b c : Nat} : t_DP 64 b c ((.lstore_n 1), 1) := dp_z (fun pc A p s h => rd_bind h)
theorem o_65 {b c : Nat} : t_DP 65 b c ((.lstore_n 2), 1) := dp_z (fun pc A p s h => rd_bind h)
theorem o_66 {b c : Nat} : t_DP 66 b c ((.lstore_n 3), 1) := dp_z (fun pc A p s h => rd_bind h)
theorem o_75 {b c : Nat} : t_DP 75 b c ((.astore_n 0), 1) := dp_z (fun pc A p s h => rd_bind h)
theorem o_76 {b c : Nat} : t_DP 76 b c ((.astore_n 1), 1) := dp_z (fun pc A p s h => rd_bind h)
theorem o_77 {b c : Nat} : t_DP 77 b c ((.astore_n 2), 1) := dp_z (fun pc A p s h => rd_bind h)
theorem o_78 {b c : Nat} : t_DP 78 b c ((.astore_n 3), 1) := dp_z (fun pc A p s h => rd_bind h)
theorem o_79 {b c : Nat} : t_DP 79 b c (.iastore, 1) := dp_z (fun pc A p s h => rd_bind h)
theorem o_80 {b c : Nat} : t_DP 80 b c (.lastore, 1) := dp_z (fun pc A p s h => rd_bind h)
theorem o_83 {b c : Nat} : t_DP 83 b c (.aastore, 1) := dp_z (fun pc A p s h => rd_bind h)
theorem o_87 {b c : Nat} : t_DP 87 b c (.pop, 1) := dp_z (fun pc A p s h => rd_bind h)
theorem o_88 {b c : Nat} : t_DP 88 b c (.pop2, 1) := dp_z (fun pc A p s h => rd_bind h)
theorem o_89 {b c : Nat} : t_DP 89 b c (.dup, 1) := dp_z (fun pc A p s h => rd_bind h)
theorem o_90 {b c : Nat} : t_DP 90 b c (.dup_x1, 1) := dp_z (fun pc A p s h => rd_bind h)
theorem o_92 {b c : Nat} : t_DP 92 b c (.dup2, 1) := dp_z (fun pc A p s h => rd_bind h)
theorem o_96 {b c : Nat} : t_DP 96 b c (.iadd, 1) := dp_z (fun pc A p s h => rd_bind h)
theorem o_100 {b c : Nat} : t_DP 100 b c (.isub, 1) := dp_z (fun pc A p s h => rd_bind h)
theorem o_104 {b c : Nat} : t_DP 104 b c (.imul, 1) := dp_z (fun pc A p s h => rd_bind h)
theorem o_105 {b c : Nat} : t_DP 105 b c (.lmul, 1) := dp_z (fun pc A p s h => rd_bind h)
theorem o_108 {b c : Nat} : t_DP 108 b c (.idiv, 1) := dp_z (fun pc A p s h => rd_bind h)
theorem o_112 {b c : Nat} : t_DP 112 b c (.irem, 1) := dp_z (fun pc A p s h => rd_bind h)
theorem o_116 {b c : Nat} : t_DP 116 b c (.ineg, 1) := dp_z (fun pc A p s h => rd_bind h)
theorem o_120 {b c : Nat} : t_DP 120 b c (.ishl, 1) := dp_z (fun pc A p s h => rd_bind h)
theorem o_121 {b c : Nat} : t_DP 121 b c (.lshl, 1) := dp_z (fun pc A p s h => rd_bind h)
theorem o_122 {b c : Nat} : t_DP 122 b c (.ishr, 1) := dp_z (fun pc A p s h => rd_bind h)
theorem o_124 {b c : Nat} : t_DP 124 b c (.iushr, 1) := dp_z (fun pc A p s h => rd_bind h)
theorem o_126 {b c : Nat} : t_DP 126 b c (.iand, 1) := dp_z (fun pc A p s h => rd_bind h)
theorem o_127 {b c : Nat} : t_DP 127 b c (.land, 1) := dp_z (fun pc A p s h => rd_bind h)
theorem o_128 {b c : Nat} : t_DP 128 b c (.ior, 1) := dp_z (fun pc A p s h => rd_bind h)
theorem o_129 {b c : Nat} : t_DP 129 b c (.lor, 1) := dp_z (fun pc A p s h => rd_bind h)
theorem o_130 {b c : Nat} : t_DP 130 b c (.ixor, 1) := dp_z (fun pc A p s h => rd_bind h)
theorem o_132 {b c : Nat} : t_DP 132 b c (.iinc b (Reader.signed 8 c), 3) := dp_ii (fun pc A p s h => rd_bind h)
theorem o_133 {b c : Nat} : t_DP 133 b c (.i2l, 1) := dp_z (fun pc A p s h => rd_bind h)
theorem o_136 {b c : Nat} : t_DP 136 b c (.l2i, 1) := dp_z (fun pc A p s h => rd_bind h)
theorem o_145 {b c : Nat} : t_DP 145 b c (.i2b, 1) := dp_z (fun pc A p s h => rd_bind h)
theorem o_146 {b c : Nat} : t_DP 146 b c (.i2c, 1) := dp_z (fun pc A p s h => rd_bind h)
theorem o_147 {b c : Nat} : t_DP 147 b c (.i2s, 1) := dp_z (fun pc A p s h => rd_bind h)
theorem o_148 {b c : Nat} : t_DP 148 b c (.lcmp, 1) := dp_z (fun pc A p s h => rd_bind h)
theorem o_153 {b c : Nat} : t_DP 153 b c (.ifCond .eq (Reader.signed 16 (Nat.add (Nat.mul b 256) c)), 3) := dp_s2 (f := fun k => .ifCond .eq k) (fun pc A p s h => rd_bind h)
theorem o_154 {b c : Nat} : t_DP 154 b c (.ifCond .ne (Reader.signed 16 (Nat.add (Nat.mul b 256) c)), 3) := dp_s2 (f := fun k => .ifCond .ne k) (fun pc A p s h => rd_bind h)
theorem o_155 {b c : Nat} : t_DP 155 b c (.ifCond .lt (Reader.signed 16 (Nat.add (Nat.mul b 256) c)), 3) := dp_s2 (f := fun k => .ifCond .lt k) (fun pc A p s h => rd_bind h)
theorem o_156 {b c : Nat} : t_DP 156 b c (.ifCond .ge (Reader.signed 16 (Nat.add (Nat.mul b 256) c)), 3) := dp_s2 (f := fun k => .ifCond .ge k) (fun pc A p s h => rd_bind h)
theorem o_157 {b c : Nat} : t_DP 157 b c (.ifCond .gt (Reader.signed 16 (Nat.add (Nat.mul b 256) c)), 3) := dp_s2 (f := fun k => .ifCond .gt k) (fun pc A p s h => rd_bind h)
theorem o_158 {b c : Nat} : t_DP 158 b c (.ifCond .le (Reader.signed 16 (Nat.add (Nat.mul b 256) c)), 3) := dp_s2 (f := fun k => .ifCond .le k) (fun pc A p s h => rd_bind h)
theorem o_159 {b c : Nat} : t_DP 159 b c (.if_icmp .eq (Reader.signed 16 (Nat.add (Nat.mul b 256) c)), 3) := dp_s2 (f := fun k => .if_icmp .eq k) (fun pc A p s h => rd_bind h)
theorem o_160 {b c : Nat} : t_DP 160 b c (.if_icmp .ne (Reader.signed 16 (Nat.add (Nat.mul b 256) c)), 3) := dp_s2 (f := fun k => .if_icmp .ne k) (fun pc A p s h => rd_bind h)
theorem o_161 {b c : Nat} : t_DP 161 b c (.if_icmp .lt (Reader.signed 16 (Nat.add (Nat.mul b 256) c)), 3) := dp_s2 (f := fun k => .if_icmp .lt k) (fun pc A p s h => rd_bind h)
theorem o_162 {b c : Nat} : t_DP 162 b c (.if_icmp .ge (Reader.signed 16 (Nat.add (Nat.mul b 256) c)), 3) := dp_s2 (f := fun k => .if_icmp .ge k) (fun pc A p s h => rd_bind h)
theorem o_163 {b c : Nat} : t_DP 163 b c (.if_icmp .gt (Reader.signed 16 (Nat.add (Nat.mul b 256) c)), 3) := dp_s2 (f := fun k => .if_icmp .gt k) (fun pc A p s h => rd_bind h)
theorem o_164 {b c : Nat} : t_DP 164 b c (.if_icmp .le (Reader.signed 16 (Nat.add (Nat.mul b 256) c)), 3) := dp_s2 (f := fun k => .if_icmp .le k) (fun pc A p s h => rd_bind h)
theorem o_167 {b c : Nat} : t_DP 167 b c (.goto (Reader.signed 16 (Nat.add (Nat.mul b 256) c)), 3) := dp_s2 (f := fun k => .goto k) (fun pc A p s h => rd_bind h)
theorem o_172 {b c : Nat} : t_DP 172 b c (.ireturn, 1) := dp_z (fun pc A p s h => rd_bind h)
theorem o_173 {b c : Nat} : t_DP 173 b c (.lreturn, 1) := dp_z (fun pc A p s h => rd_bind h)
theorem o_176 {b c : Nat} : t_DP 176 b c (.areturn, 1) := dp_z (fun pc A p s h => rd_bind h)
theorem o_177 {b c : Nat} : t_DP 177 b c (.return_, 1) := dp_z (fun pc A p s h => rd_bind h)
theorem o_178 {b c : Nat} : t_DP 178 b c (.getstatic (Nat.add (Nat.mul b 256) c), 3) := dp_u2 (f := fun k => .getstatic k) (fun pc A p s h => rd_bind h)
theorem o_180 {b c : Nat} : t_DP 180 b c (.getfield (Nat.add (Nat.mul b 256) c), 3) := dp_u2 (f := fun k => .getfield k) (fun pc A p s h => rd_bind h)
theorem o_181 {b c : Nat} : t_DP 181 b c (.putfield (Nat.add (Nat.mul b 256) c), 3) := dp_u2 (f := fun k => .putfield k) (fun pc A p s h => rd_bind h)
theorem o_182 {b c : Nat} : t_DP 182 b c (.invokevirtual (Nat.add (Nat.mul b 256) c), 3) := dp_u2 (f := fun k => .invokevirtual k) (fun pc A p s h => rd_bind h)
theorem o_183 {b c : Nat} : t_DP 183 b c (.invokespecial (Nat.add (Nat.mul b 256) c), 3) := dp_u2 (f := fun k => .invokespecial k) (fun pc A p s h => rd_bind h)
theorem o_184 {b c : Nat} : t_DP 184 b c (.invokestatic (Nat.add (Nat.mul b 256) c), 3) := dp_u2 (f := fun k => .invokestatic k) (fun pc A p s h => rd_bind h)
theorem o_187 {b c : Nat} : t_DP 187 b c (.new (Nat.add (Nat.mul b 256) c), 3) := dp_u2 (f := fun k => .new k) (fun pc A p s h => rd_bind h)
theorem o_189 {b c : Nat} : t_DP 189 b c (.anewarray (Nat.add (Nat.mul b 256) c), 3) := dp_u2 (f := fun k => .anewarray k) (fun pc A p s h => rd_bind h)
theorem o_190 {b c : Nat} : t_DP 190 b c (.arraylength, 1) := dp_z (fun pc A p s h => rd_bind h)
theorem o_198 {b c : Nat} : t_DP 198 b c (.ifnull (Reader.signed 16 (Nat.add (Nat.mul b 256) c)), 3) := dp_s2 (f := fun k => .ifnull k) (fun pc A p s h => rd_bind h)
theorem o_199 {b c : Nat} : t_DP 199 b c (.ifnonnull (Reader.signed 16 (Nat.add (Nat.mul b 256) c)), 3) := dp_s2 (f := fun k => .ifnonnull k) (fun pc A p s h => rd_bind h)
theorem o_188i {c : Nat} : t_DP 188 10 c (.newarray .int, 2) := dp_na (fun pc A p s r h h2 => (rd_bind h).trans (rd_bind h2))
theorem o_188l {c : Nat} : t_DP 188 11 c (.newarray .long, 2) := dp_na (fun pc A p s r h h2 => (rd_bind h).trans (rd_bind h2))
theorem e_u2 {o k : Nat} {f : Nat → Instr} (h : ∀ b c, t_DP o b c (f (Nat.add (Nat.mul b 256) c), 3)) : t_DP o (Nat.div k 256) (Nat.mod k 256) (f k, 3) := by
  have := h (Nat.div k 256) (Nat.mod k 256)
  rwa [show Nat.add (Nat.mul (Nat.div k 256) 256) (Nat.mod k 256) = k from Nat.div_add_mod' k 256] at this
def t_tw (w : Nat) : Int → Nat
  | .ofNat a => a
  | .negSucc a => Nat.sub w (Nat.add a 1)
abbrev t_E (i : Instr) : Type := Option {y : Nat × Nat × Nat × Nat // t_DP y.1 y.2.1 y.2.2.1 (i, y.2.2.2)}
def e_s2 (o : Nat) (f : Int → Instr) (h : ∀ b c, t_DP o b c (f (Reader.signed 16 (Nat.add (Nat.mul b 256) c)), 3)) (d : Int) : t_E (f d) :=
  if e : Reader.signed 16 (t_tw 65536 d) = d then some ⟨(o, Nat.div (t_tw 65536 d) 256, Nat.mod (t_tw 65536 d) 256, 3), by
    have := e_u2 (k := t_tw 65536 d) (f := fun k => f (Reader.signed 16 k)) h
    rw [e] at this
    exact this⟩ else none
def e_s1 (o : Nat) (f : Int → Instr) (h : ∀ b c, t_DP o b c (f (Reader.signed 8 b), 2)) (d : Int) : t_E (f d) :=
  if e : Reader.signed 8 (t_tw 256 d) = d then some ⟨(o, t_tw 256 d, 0, 2), by
    have := h (t_tw 256 d) 0
    rw [e] at this
    exact this⟩ else none
def e_ii (k : Nat) (d : Int) : t_E (.iinc k d) :=
  if e : Reader.signed 8 (t_tw 256 d) = d then some ⟨(132, k, t_tw 256 d, 3), by
    have := o_132 (b := k) (c := t_tw 256 d)
    rw [e] at this
    exact this⟩ else none
def t_ec : (i : Instr) → t_E i
  | .aaload => some ⟨(50, 0, 0, 1), o_50⟩
  | .aastore => some ⟨(83, 0, 0, 1), o_83⟩
  | .aconst_null => some ⟨(1, 0, 0, 1), o_1⟩
  | .aload k => some ⟨(25, k, 0, 2), o_25⟩
  | .aload_n k => if h : k = 0 then some ⟨(42, 0, 0, 1), h ▸ o_42⟩ else if h : k = 1 then some ⟨(43, 0, 0, 1), h ▸ o_43⟩ else if h : k = 2 then some ⟨(44, 0, 0, 1), h ▸ o_44⟩ else if h : k = 3 then some ⟨(45, 0, 0, 1), h ▸ o_45⟩ else none
  | .anewarray k => some ⟨(189, Nat.div k 256, Nat.mod k 256, 3), e_u2 (f := fun k => .anewarray k) (fun _ _ => o_189)⟩
  | .areturn => some ⟨(176, 0, 0, 1), o_176⟩
  | .arraylength => some ⟨(190, 0, 0, 1), o_190⟩
  | .astore k => some ⟨(58, k, 0, 2), o_58⟩
  | .astore_n k => if h : k = 0 then some ⟨(75, 0, 0, 1), h ▸ o_75⟩ else if h : k = 1 then some ⟨(76, 0, 0, 1), h ▸ o_76⟩ else if h : k = 2 then some ⟨(77, 0, 0, 1), h ▸ o_77⟩ else if h : k = 3 then some ⟨(78, 0, 0, 1), h ▸ o_78⟩ else none
  | .baload => some ⟨(51, 0, 0, 1), o_51⟩
  | .bipush d => e_s1 16 (fun d => .bipush d) (fun _ _ => o_16) d
  | .dup => some ⟨(89, 0, 0, 1), o_89⟩
  | .dup2 => some ⟨(92, 0, 0, 1), o_92⟩
  | .dup_x1 => some ⟨(90, 0, 0, 1), o_90⟩
  | .getfield k => some ⟨(180, Nat.div k 256, Nat.mod k 256, 3), e_u2 (f := fun k => .getfield k) (fun _ _ => o_180)⟩
  | .getstatic k => some ⟨(178, Nat.div k 256, Nat.mod k 256, 3), e_u2 (f := fun k => .getstatic k) (fun _ _ => o_178)⟩
  | .goto d => e_s2 167 (fun d => .goto d) (fun _ _ => o_167) d
  | .i2b => some ⟨(145, 0, 0, 1), o_145⟩
  | .i2c => some ⟨(146, 0, 0, 1), o_146⟩
  | .i2l => some ⟨(133, 0, 0, 1), o_133⟩
  | .i2s => some ⟨(147, 0, 0, 1), o_147⟩
  | .iadd => some ⟨(96, 0, 0, 1), o_96⟩
  | .iaload => some ⟨(46, 0, 0, 1), o_46⟩
  | .iand => some ⟨(126, 0, 0, 1), o_126⟩
  | .iastore => some ⟨(79, 0, 0, 1), o_79⟩
  | .iconst k => if h : k = (-1) then some ⟨(2, 0, 0, 1), h ▸ o_2⟩ else if h : k = 0 then some ⟨(3, 0, 0, 1), h ▸ o_3⟩ else if h : k = 1 then some ⟨(4, 0, 0, 1), h ▸ o_4⟩ else if h : k = 2 then some ⟨(5, 0, 0, 1), h ▸ o_5⟩ else if h : k = 3 then some ⟨(6, 0, 0, 1), h ▸ o_6⟩ else if h : k = 4 then some ⟨(7, 0, 0, 1), h ▸ o_7⟩ else if h : k = 5 then some ⟨(8, 0, 0, 1), h ▸ o_8⟩ else none
  | .idiv => some ⟨(108, 0, 0, 1), o_108⟩
  | .ifCond .eq d => e_s2 153 (fun d => .ifCond .eq d) (fun _ _ => o_153) d
  | .ifCond .ne d => e_s2 154 (fun d => .ifCond .ne d) (fun _ _ => o_154) d
  | .ifCond .lt d => e_s2 155 (fun d => .ifCond .lt d) (fun _ _ => o_155) d
  | .ifCond .ge d => e_s2 156 (fun d => .ifCond .ge d) (fun _ _ => o_156) d
  | .ifCond .gt d => e_s2 157 (fun d => .ifCond .gt d) (fun _ _ => o_157) d
  | .ifCond .le d => e_s2 158 (fun d => .ifCond .le d) (fun _ _ => o_158) d
  | .if_icmp .eq d => e_s2 159 (fun d => .if_icmp .eq d) (fun _ _ => o_159) d
  | .if_icmp .ne d => e_s2 160 (fun d => .if_icmp .ne d) (fun _ _ => o_160) d
  | .if_icmp .lt d => e_s2 161 (fun d => .if_icmp .lt d) (fun _ _ => o_161) d
  | .if_icmp .ge d => e_s2 162 (fun d => .if_icmp .ge d) (fun _ _ => o_162) d
  | .if_icmp .gt d => e_s2 163 (fun d => .if_icmp .gt d) (fun _ _ => o_163) d
  | .if_icmp .le d => e_s2 164 (fun d => .if_icmp .le d) (fun _ _ => o_164) d
  | .ifnonnull d => e_s2 199 (fun d => .ifnonnull d) (fun _ _ => o_199) d
  | .ifnull d => e_s2 198 (fun d => .ifnull d) (fun _ _ => o_198) d
  | .iinc k d => e_ii k d
  | .iload k => some ⟨(21, k, 0, 2), o_21⟩
  | .iload_n k => if h : k = 0 then some ⟨(26, 0, 0, 1), h ▸ o_26⟩ else if h : k = 1 then some ⟨(27, 0, 0, 1), h ▸ o_27⟩ else if h : k = 2 then some ⟨(28, 0, 0, 1), h ▸ o_28⟩ else if h : k = 3 then some ⟨(29, 0, 0, 1), h ▸ o_29⟩ else none
  | .imul => some ⟨(104, 0, 0, 1), o_104⟩
  | .ineg => some ⟨(116, 0, 0, 1), o_116⟩
  | .invokespecial k => some ⟨(183, Nat.div k 256, Nat.mod k 256, 3), e_u2 (f := fun k => .invokespecial k) (fun _ _ => o_183)⟩
  | .invokestatic k => some ⟨(184, Nat.div k 256, Nat.mod k 256, 3), e_u2 (f := fun k => .invokestatic k) (fun _ _ => o_184)⟩
  | .invokevirtual k => some ⟨(182, Nat.div k 256, Nat.mod k 256, 3), e_u2 (f := fun k => .invokevirtual k) (fun _ _ => o_182)⟩
  | .ior => some ⟨(128, 0, 0, 1), o_128⟩
  | .irem => some ⟨(112, 0, 0, 1), o_112⟩
  | .ireturn => some ⟨(172, 0, 0, 1), o_172⟩
  | .ishl => some ⟨(120, 0, 0, 1), o_120⟩
  | .ishr => some ⟨(122, 0, 0, 1), o_122⟩
  | .istore k => some ⟨(54, k, 0, 2), o_54⟩
  | .istore_n k => if h : k = 0 then some ⟨(59, 0, 0, 1), h ▸ o_59⟩ else if h : k = 1 then some ⟨(60, 0, 0, 1), h ▸ o_60⟩ else if h : k = 2 then some ⟨(61, 0, 0, 1), h ▸ o_61⟩ else if h : k = 3 then some ⟨(62, 0, 0, 1), h ▸ o_62⟩ else none
  | .isub => some ⟨(100, 0, 0, 1), o_100⟩
  | .iushr => some ⟨(124, 0, 0, 1), o_124⟩
  | .ixor => some ⟨(130, 0, 0, 1), o_130⟩
  | .l2i => some ⟨(136, 0, 0, 1), o_136⟩
  | .laload => some ⟨(47, 0, 0, 1), o_47⟩
  | .land => some ⟨(127, 0, 0, 1), o_127⟩
  | .lastore => some ⟨(80, 0, 0, 1), o_80⟩
  | .lcmp => some ⟨(148, 0, 0, 1), o_148⟩
  | .lconst k => if h : k = 0 then some ⟨(9, 0, 0, 1), h ▸ o_9⟩ else if h : k = 1 then some ⟨(10, 0, 0, 1), h ▸ o_10⟩ else none
  | .ldc k => some ⟨(18, k, 0, 2), o_18⟩
  | .ldc2_w k => some ⟨(20, Nat.div k 256, Nat.mod k 256, 3), e_u2 (f := fun k => .ldc2_w k) (fun _ _ => o_20)⟩
  | .ldc_w k => some ⟨(19, Nat.div k 256, Nat.mod k 256, 3), e_u2 (f := fun k => .ldc_w k) (fun _ _ => o_19)⟩
  | .lload k => some ⟨(22, k, 0, 2), o_22⟩
  | .lload_n k => if h : k = 0 then some ⟨(30, 0, 0, 1), h ▸ o_30⟩ else if h : k = 1 then some ⟨(31, 0, 0, 1), h ▸ o_31⟩ else if h : k = 2 then some ⟨(32, 0, 0, 1), h ▸ o_32⟩ else if h : k = 3 then some ⟨(33, 0, 0, 1), h ▸ o_33⟩ else none
  | .lmul => some ⟨(105, 0, 0, 1), o_105⟩
  | .lor => some ⟨(129, 0, 0, 1), o_129⟩
  | .lreturn => some ⟨(173, 0, 0, 1), o_173⟩
  | .lshl => some ⟨(121, 0, 0, 1), o_121⟩
  | .lstore k => some ⟨(55, k, 0, 2), o_55⟩
  | .lstore_n k => if h : k = 0 then some ⟨(63, 0, 0, 1), h ▸ o_63⟩ else if h : k = 1 then some ⟨(64, 0, 0, 1), h ▸ o_64⟩ else if h : k = 2 then some ⟨(65, 0, 0, 1), h ▸ o_65⟩ else if h : k = 3 then some ⟨(66, 0, 0, 1), h ▸ o_66⟩ else none
  | .new k => some ⟨(187, Nat.div k 256, Nat.mod k 256, 3), e_u2 (f := fun k => .new k) (fun _ _ => o_187)⟩
  | .newarray .int => some ⟨(188, 10, 0, 2), o_188i⟩
  | .newarray .long => some ⟨(188, 11, 0, 2), o_188l⟩
  | .pop => some ⟨(87, 0, 0, 1), o_87⟩
  | .pop2 => some ⟨(88, 0, 0, 1), o_88⟩
  | .putfield k => some ⟨(181, Nat.div k 256, Nat.mod k 256, 3), e_u2 (f := fun k => .putfield k) (fun _ _ => o_181)⟩
  | .return_ => some ⟨(177, 0, 0, 1), o_177⟩
  | .sipush d => e_s2 17 (fun d => .sipush d) (fun _ _ => o_17) d
  | _ => none
def t_m2 (n b c : Nat) : List UInt8 → Bool
  | [] => Nat.ble n 1
  | [x] => Nat.ble n 1 || (Nat.ble n 2 && Nat.beq x.toNat b)
  | x :: z :: _ => Nat.ble n 1 || (Nat.beq x.toNat b && (Nat.ble n 2 || Nat.beq z.toNat c))
theorem t_m2_1 {n b c : Nat} {l : List UInt8} (h : t_m2 n b c l = true) (hn : 1 < n) : ∃ x, l[0]? = some x ∧ x.toNat = b := by
  match l, h with
  | [], h => exact absurd (Nat.le_of_ble_eq_true h) (by omega)
  | [x], h =>
    simp only [t_m2, Bool.or_eq_true, Bool.and_eq_true] at h
    rcases h with h | h
    · exact absurd (Nat.le_of_ble_eq_true h) (by omega)
    · exact ⟨x, rfl, Nat.eq_of_beq_eq_true h.2⟩
  | x :: z :: _, h =>
    simp only [t_m2, Bool.or_eq_true, Bool.and_eq_true] at h
    rcases h with h | h
    · exact absurd (Nat.le_of_ble_eq_true h) (by omega)
    · exact ⟨x, rfl, Nat.eq_of_beq_eq_true h.1⟩
theorem t_m2_2 {n b c : Nat} {l : List UInt8} (h : t_m2 n b c l = true) (hn : 2 < n) : ∃ x, l[1]? = some x ∧ x.toNat = c := by
  match l, h with
  | [], h => exact absurd (Nat.le_of_ble_eq_true h) (by omega)
  | [x], h =>
    simp only [t_m2, Bool.or_eq_true, Bool.and_eq_true] at h
    rcases h with h | h
    · exact absurd (Nat.le_of_ble_eq_true h) (by omega)
    · exact absurd (Nat.le_of_ble_eq_true h.1) (by omega)
  | x :: z :: _, h =>
    simp only [t_m2, Bool.or_eq_true, Bool.and_eq_true] at h
    rcases h with h | ⟨_, h | h⟩
    · exact absurd (Nat.le_of_ble_eq_true h) (by omega)
    · exact absurd (Nat.le_of_ble_eq_true h) (by omega)
    · exact ⟨z, rfl, Nat.eq_of_beq_eq_true h⟩
def t_ch2 (q : t_M) (P : List (Nat × tI)) (pc : Nat) (x : UInt8) (l : List UInt8) (en : tI) : t_E en.2.1 → Bool
  | none => false
  | some y => (Nat.beq x.toNat y.1.1 && t_m2 y.1.2.2.2 y.1.2.1 y.1.2.2.1 l) && ((Nat.beq (t_len en.2.1) 0 || Nat.beq (t_len en.2.1) y.1.2.2.2) && (t_okI q.1.cls q.1.name q.2.2.2.1 t_ys pc en && ((t_nd q.1.cls t_ys en).isEmpty || t_look P (t_ix en.2.1) en)))
def t_ch1 (q : t_M) (P : List (Nat × tI)) (pc : Nat) (x : UInt8) (l : List UInt8) : Option tI → Bool
  | none => true
  | some en => t_ch2 q P pc x l en (t_ec en.2.1)
def t_wk (q : t_M) (P : List (Nat × tI)) (f : Nat → Option tI) (X : List (Nat × Instr × Nat)) : List UInt8 → Nat → Bool
  | [], _ => true
  | x :: l, pc => (X.any (fun z => Nat.beq z.1 pc) || t_ch1 q P pc x l (f pc)) && t_wk q P f X l (pc + 1)
def t_wX (q : t_M) (P : List (Nat × tI)) (f : Nat → Option tI) (X : List (Nat × Instr × Nat)) : Bool := X.all (fun z => Jvm.Free.DS.chk (q.2.1.data.toList.drop z.1) z.1 [(z.2.1, z.2.2)] && (Nat.ble (z.1 + z.2.2) q.2.1.size && t_chk q P z.1 z.2.1 z.2.2 (f z.1)))
def t_fct (q : t_M) (pc : Nat) (en : tI) : Prop := (∃ len, decode q.2.1 pc = .ok (en.2.1, len) ∧ (t_len en.2.1 = 0 ∨ t_len en.2.1 = len)) ∧ t_okI q.1.cls q.1.name q.2.2.2.1 t_ys pc en = true ∧ ∀ w ∈ t_nd q.1.cls t_ys en, w ∈ gt
theorem t_wk_of {f : Nat → Option tI} {q : t_M} {P : List (Nat × tI)} {X : List (Nat × Instr × Nat)} (hP : ∀ e ∈ P, ∀ w ∈ t_nd q.1.cls t_ys e.2, w ∈ gt) : ∀ (l : List UInt8) (a : Nat), t_wk q P f X l a = true → (∀ j, l[j]? = q.2.1.data.toList[a + j]?) → ∀ (pc : Nat) (en : tI), a ≤ pc → pc < a + l.length → f pc = some en → (∃ z ∈ X, z.1 = pc) ∨ t_fct q pc en
  | [], a, _, _, pc, en, h1, h2, _ => by simp at h2; omega
  | x :: l, a, hw, hl, pc, en, h1, h2, he => by
    simp only [t_wk, Bool.and_eq_true] at hw
    obtain ⟨c1, c2⟩ := hw
    by_cases e : pc = a
    · subst e
      rw [he, Bool.or_eq_true] at c1
      rcases c1 with c0 | c1
      · obtain ⟨z, z1, z2⟩ := List.any_eq_true.mp c0
        exact Or.inl ⟨z, z1, Nat.eq_of_beq_eq_true z2⟩
      refine Or.inr ?_
      have c1 : t_ch2 q P pc x l en (t_ec en.2.1) = true := c1
      cases hy : t_ec en.2.1 with
      | none => rw [hy] at c1; cases c1
      | some y =>
        rw [hy] at c1
        obtain ⟨⟨o, b, c, n⟩, hd⟩ := y
        simp only [t_ch2, Bool.and_eq_true, Bool.or_eq_true] at c1
        obtain ⟨⟨b0, b1⟩, b2, b3, b4⟩ := c1
        have g0 : t_by q.2.1 pc o := ⟨x, by rw [← Nat.add_zero pc, ← hl 0]; rfl, Nat.eq_of_beq_eq_true b0⟩
        have g1 : 1 < n → t_by q.2.1 (pc + 1) b := fun hn => by
          obtain ⟨y, y1, y2⟩ := t_m2_1 b1 hn
          exact ⟨y, by rw [← hl 1]; exact y1, y2⟩
        have g2 : 2 < n → t_by q.2.1 (pc + 2) c := fun hn => by
          obtain ⟨y, y1, y2⟩ := t_m2_2 b1 hn
          exact ⟨y, by rw [← hl 2]; exact y1, y2⟩
        refine ⟨⟨n, hd _ pc g0 g1 g2, b2.elim (fun z => Or.inl (Nat.eq_of_beq_eq_true z)) (fun z => Or.inr (Nat.eq_of_beq_eq_true z))⟩, b3, fun w hw => ?_⟩
        rcases b4 with z | z
        · rw [List.isEmpty_iff] at z
          rw [z] at hw
          cases hw
        · obtain ⟨x, x1, x2⟩ := t_look_of z
          rw [← x2] at hw
          exact hP x x1 w hw
    · rw [List.length_cons] at h2
      exact t_wk_of hP l (a + 1) c2 (fun j => by rw [show a + 1 + j = a + (j + 1) by omega, ← hl (j + 1)]; rfl) pc en (by omega) (by omega) he
theorem t_wX_of {f : Nat → Option tI} {q : t_M} {P : List (Nat × tI)} {X : List (Nat × Instr × Nat)} (hP : ∀ e ∈ P, ∀ w ∈ t_nd q.1.cls t_ys e.2, w ∈ gt) (h : t_wX q P f X = true) {z : Nat × Instr × Nat} (hz : z ∈ X) {en : tI} (he : f z.1 = some en) : t_fct q z.1 en := by
  have h1 := List.all_eq_true.mp h z hz
  simp only [Bool.and_eq_true] at h1
  obtain ⟨a1, a2, a3⟩ := h1
  have hF := Jvm.Free.DS.facts z.1 _ a1 (by have := Nat.le_of_ble_eq_true a2; simpa using this)
  rw [he] at a3
  simp only [t_chk, Bool.and_eq_true, Bool.or_eq_true, decide_eq_true_eq] at a3
  obtain ⟨b1, b2, b3, b4⟩ := a3
  refine ⟨⟨z.2.2, by rw [b1]; exact hF.1, by rw [b1]; exact b2.elim (fun z => Or.inl (Nat.eq_of_beq_eq_true z)) (fun z => Or.inr (Nat.eq_of_beq_eq_true z))⟩, b3, fun w hw => ?_⟩
  rcases b4 with z | z
  · rw [List.isEmpty_iff] at z
    rw [z] at hw
    cases hw
  · obtain ⟨x, x1, x2⟩ := t_look_of z
    rw [← x2] at hw
    exact hP x x1 w hw
theorem t_mth_wk {i : Nat} {f : Nat → Option tI} {q : t_M} {P : List (Nat × tI)} (n : Nat) (X : List (Nat × Instr × Nat)) (hq : t_ms[i]? = some q) (hP : ∀ e ∈ P, ∀ w ∈ t_nd q.1.cls t_ys e.2, w ∈ gt) (hz : ∀ pc en, f pc = some en → pc < n) (hs : (Nat.ble n q.2.1.size && (t_wX q P f X && t_wk q P f X q.2.1.data.toList 0)) = true) : t_mth i f := by
  intro pc en he
  simp only [Bool.and_eq_true] at hs
  have h1 := hz pc en he
  have h2 := Nat.le_of_ble_eq_true hs.1
  have h3 : q.2.1.data.toList.length = q.2.1.size := by simp
  refine ⟨q, hq, ?_⟩
  rcases t_wk_of hP _ 0 hs.2.2 (fun j => by rw [Nat.zero_add]) pc en (Nat.zero_le _) (by omega) he with ⟨z, z1, rfl⟩ | h
  · exact t_wX_of hP hs.2.1 z1 he
  · exact h
def P_0 : List (Nat × tI) := [(7, (15, .new 7, 7, 0)), (9, (22, .invokespecial 9, 1, 0)), (10, (15, .new 10, 8, 0)), (12, (22, .invokespecial 12, 188, 0)), (13, (20, .invokevirtual 13, 2, 0)), (17, (20, .invokevirtual 17, 199, 0)), (18, (2, .ldc2_w 18, 4294967295, 0)), (20, (20, .invokevirtual 20, 3, 0)), (24, (20, .invokevirtual 24, 202, 0)), (25, (20, .invokevirtual 25, 4, 0)), (29, (20, .invokevirtual 29, 203, 0)), (30, (20, .invokevirtual 30, 5, 0)), (34, (20, .invokevirtual 34, 204, 0)), (35, (20, .invokevirtual 35, 6, 0)), (39, (20, .invokevirtual 39, 205, 0)), (40, (20, .invokevirtual 40, 7, 0)), (44, (20, .invokevirtual 44, 206, 0)), (45, (20, .invokevirtual 45, 8, 0)), (48, (20, .invokevirtual 48, 209, 0)), (49, (20, .invokevirtual 49, 9, 0)), (52, (20, .invokevirtual 52, 211, 0)), (53, (20, .invokevirtual 53, 10, 0)), (56, (20, .invokevirtual 56, 213, 0)), (57, (20, .invokevirtual 57, 11, 0)), (60, (20, .invokevirtual 60, 214, 0)), (61, (20, .invokevirtual 61, 12, 0)), (65, (20, .invokevirtual 65, 215, 0)), (66, (20, .invokevirtual 66, 13, 0)), (69, (20, .invokevirtual 69, 217, 0)), (70, (20, .invokevirtual 70, 14, 0)), (73, (20, .invokevirtual 73, 219, 0)), (74, (20, .invokevirtual 74, 15, 0)), (77, (20, .invokevirtual 77, 220, 0)), (78, (20, .invokevirtual 78, 16, 0)), (81, (20, .invokevirtual 81, 221, 0)), (82, (20, .invokevirtual 82, 17, 0)), (85, (20, .invokevirtual 85, 234, 0)), (86, (20, .invokevirtual 86, 18, 0)), (89, (20, .invokevirtual 89, 244, 0)), (90, (20, .invokevirtual 90, 19, 0)), (93, (20, .invokevirtual 93, 245, 0)), (94, (20, .invokevirtual 94, 20, 0)), (97, (20, .invokevirtual 97, 246, 0)), (98, (20, .invokevirtual 98, 21, 0)), (101, (20, .invokevirtual 101, 247, 0)), (102, (20, .invokevirtual 102, 22, 0)), (105, (20, .invokevirtual 105, 248, 0)), (106, (20, .invokevirtual 106, 23, 0)), (109, (20, .invokevirtual 109, 249, 0)), (110, (20, .invokevirtual 110, 24, 0)), (113, (20, .invokevirtual 113, 250, 0)), (114, (20, .invokevirtual 114, 25, 0)), (117, (20, .invokevirtual 117, 251, 0)), (118, (20, .invokevirtual 118, 26, 0)), (121, (20, .invokevirtual 121, 253, 0)), (122, (20, .invokevirtual 122, 27, 0)), (125, (20, .invokevirtual 125, 254, 0)), (126, (20, .invokevirtual 126, 30, 0)), (129, (20, .invokevirtual 129, 256, 0)), (130, (20, .invokevirtual 130, 31, 0)), (133, (20, .invokevirtual 133, 259, 0)), (134, (20, .invokevirtual 134, 32, 0)), (137, (20, .invokevirtual 137, 260, 0)), (138, (20, .invokevirtual 138, 33, 0)), (141, (20, .invokevirtual 141, 264, 0)), (142, (20, .invokevirtual 142, 34, 0)), (145, (20, .invokevirtual 145, 266, 0)), (146, (20, .invokevirtual 146, 35, 0)), (150, (20, .invokevirtual 150, 269, 0)), (151, (20, .invokevirtual 151, 36, 0)), (154, (20, .invokevirtual 154, 270, 0)), (155, (20, .invokevirtual 155, 37, 0)), (158, (20, .invokevirtual 158, 274, 0)), (159, (20, .invokevirtual 159, 38, 0)), (162, (20, .invokevirtual 162, 275, 0)), (163, (20, .invokevirtual 163, 39, 0)), (166, (20, .invokevirtual 166, 276, 0)), (167, (20, .invokevirtual 167, 40, 0)), (170, (20, .invokevirtual 170, 278, 0)), (171, (20, .invokevirtual 171, 41, 0)), (174, (20, .invokevirtual 174, 279, 0)), (175, (20, .invokevirtual 175, 42, 0)), (178, (20, .invokevirtual 178, 280, 0)), (179, (20, .invokevirtual 179, 43, 0)), (182, (20, .invokevirtual 182, 265, 0)), (183, (20, .invokevirtual 183, 44, 0)), (186, (20, .invokevirtual 186, 283, 0)), (187, (20, .invokevirtual 187, 45, 0)), (190, (20, .invokevirtual 190, 284, 0)), (191, (20, .invokevirtual 191, 46, 0)), (194, (20, .invokevirtual 194, 285, 0)), (195, (20, .invokevirtual 195, 47, 0)), (198, (20, .invokevirtual 198, 286, 0)), (199, (20, .invokevirtual 199, 48, 0)), (202, (20, .invokevirtual 202, 288, 0)), (203, (20, .invokevirtual 203, 49, 0)), (206, (20, .invokevirtual 206, 291, 0)), (207, (20, .invokevirtual 207, 50, 0)), (210, (20, .invokevirtual 210, 271, 0)), (211, (20, .invokevirtual 211, 51, 0)), (214, (20, .invokevirtual 214, 293, 0)), (215, (20, .invokevirtual 215, 52, 0)), (218, (20, .invokevirtual 218, 294, 0)), (219, (20, .invokevirtual 219, 53, 0)), (222, (20, .invokevirtual 222, 267, 0)), (223, (20, .invokevirtual 223, 54, 0)), (226, (20, .invokevirtual 226, 296, 0)), (227, (20, .invokevirtual 227, 55, 0)), (230, (20, .invokevirtual 230, 297, 0)), (231, (20, .invokevirtual 231, 56, 0)), (234, (20, .invokevirtual 234, 301, 0)), (235, (20, .invokevirtual 235, 57, 0)), (238, (20, .invokevirtual 238, 302, 0)), (239, (20, .invokevirtual 239, 58, 0)), (242, (20, .invokevirtual 242, 303, 0))]
theorem P_0_ok : ∀ e ∈ P_0, ∀ w ∈ t_nd "NineTreesLaw" t_ys e.2, w ∈ gt := t_flat (ps := [96, 98, 99, 1095, 1097, 1098, 330, 331, 332, 1197, 1198, 1199, 1670, 346, 347, 348, 1211, 1212, 1213, 370, 371, 372, 1222, 1223, 1224, 382, 383, 384, 1226, 1227, 1228, 386, 387, 388, 1230, 1231, 1232, 390, 391, 392, 1234, 1235, 1236, 402, 403, 404, 1242, 1243, 1244, 491, 492, 493, 1300, 1301, 1302, 495, 496, 497, 1306, 1307, 1308, 519, 520, 521, 1327, 1328, 1329, 536, 537, 538, 1331, 1332, 1333, 540, 541, 542, 1335, 1336, 1337, 552, 553, 554, 1347, 1348, 1349, 569, 570, 571, 1359, 1360, 1361, 573, 574, 575, 1364, 1365, 1366, 577, 578, 579, 1368, 1369, 1370, 702, 703, 704, 1438, 1439, 1440, 706, 707, 708, 1442, 1443, 1444, 711, 712, 713, 1446, 1447, 1448, 722, 723, 724, 1452, 1453, 1454, 731, 732, 733, 1460, 1461, 1462, 739, 740, 741, 1464, 1465, 1466, 747, 748, 749, 1468, 1469, 1470, 756, 757, 758, 1472, 1473, 1474, 761, 762, 763, 1476, 1477, 1478, 773, 774, 775, 1484, 1485, 1486, 786, 787, 788, 1488, 1489, 1490, 807, 808, 809, 1495, 1496, 1497, 816, 817, 818, 1507, 1508, 1509, 820, 821, 822, 1511, 1512, 1513, 866, 867, 868, 1531, 1532, 1533, 874, 875, 876, 1539, 1540, 1541, 886, 887, 888, 1547, 1548, 1549, 890, 891, 892, 1555, 1556, 1557, 897, 898, 899, 1563, 1564, 1565, 904, 905, 906, 1567, 1568, 1569, 909, 910, 911, 1571, 1572, 1573, 922, 923, 924, 1579, 1580, 1581, 930, 931, 932, 1583, 1584, 1585, 939, 940, 941, 1527, 1528, 1529, 952, 953, 954, 1588, 1589, 1590, 972, 973, 974, 1600, 1601, 1602, 983, 984, 985, 1604, 1605, 1606, 990, 991, 992, 1608, 1609, 1610, 1002, 1003, 1004, 1612, 1613, 1614, 1016, 1017, 1018, 1620, 1621, 1622, 1030, 1031, 1032, 1551, 1552, 1553, 1034, 1035, 1036, 1632, 1633, 1634, 1043, 1044, 1045, 1640, 1641, 1642, 1048, 1049, 1050, 1535, 1536, 1537, 1052, 1053, 1054, 1644, 1645, 1646, 1075, 1076, 1077, 1653, 1654, 1655, 1079, 1080, 1081, 1657, 1658, 1659, 1083, 1084, 1085, 1661, 1662, 1663, 1087, 1088, 1089, 1665, 1666, 1667]) (by decide +kernel)
def P_1 : List (Nat × tI) := [(1, (26, .invokespecial 1, 0, 0)), (7, (15, .new 7, 2, 0)), (9, (25, .invokespecial 9, 68, 0)), (10, (11, .putfield 10, 7, 0)), (16, (11, .putfield 16, 7, 1)), (19, (11, .putfield 19, 7, 2)), (22, (15, .new 22, 4, 0)), (24, (25, .invokespecial 24, 102, 0)), (25, (11, .putfield 25, 7, 3)), (29, (15, .new 29, 0, 0)), (31, (25, .invokespecial 31, 112, 0)), (32, (11, .putfield 32, 7, 4)), (36, (15, .new 36, 3, 0)), (38, (25, .invokespecial 38, 116, 0)), (39, (11, .putfield 39, 7, 5)), (43, (15, .new 43, 1, 0)), (45, (25, .invokespecial 45, 125, 0)), (46, (11, .putfield 46, 7, 6)), (50, (15, .new 50, 6, 0)), (52, (25, .invokespecial 52, 158, 0)), (53, (11, .putfield 53, 7, 7)), (57, (17, .anewarray 57, 0, 0)), (59, (11, .putfield 59, 7, 8)), (70000, (16, .newarray .int, 0, 0)), (63, (11, .putfield 63, 7, 9)), (59, (3, .getfield 59, 7, 8)), (57, (15, .new 57, 5, 0)), (67, (25, .invokespecial 67, 149, 0)), (68, (20, .invokevirtual 68, 60, 0)), (72, (20, .invokevirtual 72, 59, 0)), (76, (20, .invokevirtual 76, 155, 0)), (80, (20, .invokevirtual 80, 150, 0)), (84, (20, .invokevirtual 84, 152, 0)), (88, (20, .invokevirtual 88, 153, 0)), (92, (3, .getfield 92, 5, 0)), (96, (20, .invokevirtual 96, 157, 0)), (100, (20, .invokevirtual 100, 151, 0)), (103, (3, .getfield 103, 5, 1)), (107, (20, .invokevirtual 107, 154, 0)), (111, (14, .invokestatic 111, 0, 0)), (117, (3, .getfield 117, 5, 3)), (10, (3, .getfield 10, 7, 0)), (120, (20, .invokevirtual 120, 81, 0)), (123, (20, .invokevirtual 123, 156, 0)), (127, (20, .invokevirtual 127, 85, 0)), (130, (20, .invokevirtual 130, 63, 0)), (134, (20, .invokevirtual 134, 107, 0)), (138, (20, .invokevirtual 138, 97, 0)), (141, (21, .invokestatic 141, 148, 0)), (147, (21, .invokestatic 147, 128, 0)), (152, (3, .getfield 152, 2, 2)), (155, (3, .getfield 155, 2, 5)), (158, (3, .getfield 158, 2, 4)), (158, (8, .putfield 158, 2, 4)), (161, (20, .invokevirtual 161, 71, 0)), (164, (20, .invokevirtual 164, 84, 0)), (167, (20, .invokevirtual 167, 89, 0)), (171, (20, .invokevirtual 171, 93, 0)), (174, (3, .getfield 174, 2, 6)), (177, (20, .invokevirtual 177, 96, 0)), (174, (8, .putfield 174, 2, 6)), (180, (20, .invokevirtual 180, 67, 0)), (183, (3, .getfield 183, 2, 1)), (186, (20, .invokevirtual 186, 90, 0)), (189, (20, .invokevirtual 189, 91, 0)), (192, (20, .invokevirtual 192, 62, 0)), (53, (3, .getfield 53, 7, 7)), (195, (3, .getfield 195, 6, 1)), (198, (3, .getfield 198, 6, 0)), (195, (8, .putfield 195, 6, 1)), (16, (3, .getfield 16, 7, 1)), (201, (20, .invokevirtual 201, 69, 0)), (205, (20, .invokevirtual 205, 159, 0)), (209, (3, .getfield 209, 6, 2)), (212, (3, .getfield 212, 2, 0)), (215, (20, .invokevirtual 215, 83, 0)), (218, (21, .invokestatic 218, 64, 0)), (221, (20, .invokevirtual 221, 105, 0)), (224, (20, .invokevirtual 224, 106, 0)), (227, (20, .invokevirtual 227, 110, 0)), (230, (20, .invokevirtual 230, 111, 0)), (233, (20, .invokevirtual 233, 82, 0)), (236, (20, .invokevirtual 236, 109, 0)), (239, (20, .invokevirtual 239, 92, 0)), (242, (20, .invokevirtual 242, 94, 0)), (245, (3, .getfield 245, 5, 2)), (246, (20, .invokevirtual 246, 28, 0)), (250, (20, .invokevirtual 250, 29, 0)), (254, (20, .invokevirtual 254, 79, 0)), (46, (3, .getfield 46, 7, 6)), (258, (20, .invokevirtual 258, 126, 0)), (262, (3, .getfield 262, 1, 1)), (263, (3, .getfield 263, 1, 0)), (266, (20, .invokevirtual 266, 108, 0)), (25, (3, .getfield 25, 7, 3)), (39, (3, .getfield 39, 7, 5)), (269, (20, .invokevirtual 269, 117, 0)), (272, (20, .invokevirtual 272, 124, 0)), (275, (20, .invokevirtual 275, 119, 0)), (32, (3, .getfield 32, 7, 4)), (279, (20, .invokevirtual 279, 114, 0)), (283, (20, .invokevirtual 283, 70, 0)), (286, (3, .getfield 286, 0, 0)), (289, (21, .invokestatic 289, 146, 0)), (292, (21, .invokestatic 292, 147, 0)), (296, (21, .invokestatic 296, 143, 0)), (300, (21, .invokestatic 300, 132, 0)), (303, (20, .invokevirtual 303, 95, 0)), (306, (3, .getfield 306, 2, 3)), (309, (20, .invokevirtual 309, 98, 0)), (312, (20, .invokevirtual 312, 118, 0)), (315, (21, .invokestatic 315, 134, 0)), (318, (21, .invokestatic 318, 130, 0)), (321, (21, .invokestatic 321, 129, 0)), (324, (21, .invokestatic 324, 136, 0)), (327, (21, .invokestatic 327, 137, 0)), (330, (21, .invokestatic 330, 140, 0)), (333, (20, .invokevirtual 333, 75, 0)), (336, (20, .invokevirtual 336, 86, 0)), (337, (20, .invokevirtual 337, 76, 0)), (340, (3, .getfield 340, 3, 2)), (341, (3, .getfield 341, 3, 4)), (344, (3, .getfield 344, 3, 3)), (347, (20, .invokevirtual 347, 88, 0)), (350, (20, .invokevirtual 350, 101, 0)), (353, (3, .getfield 353, 2, 7)), (353, (8, .putfield 353, 2, 7)), (19, (3, .getfield 19, 7, 2)), (356, (9, .putfield 356, 7, 10)), (356, (3, .getfield 356, 7, 10)), (360, (3, .getfield 360, 4, 1)), (363, (20, .invokevirtual 363, 61, 0)), (63, (3, .getfield 63, 7, 9)), (366, (20, .invokevirtual 366, 103, 0)), (369, (21, .invokestatic 369, 172, 0)), (374, (20, .invokevirtual 374, 87, 0))]
theorem P_1_ok : ∀ e ∈ P_1, ∀ w ∈ t_nd "NineTrees" t_ys e.2, w ∈ gt := t_flat (ps := [101, 102, 103, 104, 107, 296, 297, 298, 160, 163, 299, 180, 183, 300, 192, 195, 301, 219, 222, 302, 240, 243, 303, 271, 304, 159, 305, 304, 271, 275, 334, 336, 0, 338, 340, 1, 342, 343, 344, 350, 351, 352, 354, 355, 356, 362, 363, 364, 279, 366, 367, 368, 374, 359, 360, 281, 375, 376, 377, 379, 381, 380, 87, 285, 296, 394, 395, 396, 398, 399, 400, 406, 407, 408, 410, 412, 2, 449, 450, 451, 459, 460, 461, 463, 464, 487, 488, 120, 135, 127, 127, 499, 500, 501, 507, 508, 509, 515, 516, 517, 523, 524, 525, 139, 532, 533, 534, 139, 544, 546, 4, 118, 556, 557, 558, 561, 562, 563, 565, 567, 5, 303, 249, 247, 249, 297, 581, 582, 583, 586, 587, 588, 251, 111, 710, 512, 513, 715, 716, 718, 719, 720, 726, 727, 728, 735, 736, 737, 743, 744, 745, 751, 528, 529, 752, 753, 754, 760, 419, 420, 765, 766, 767, 283, 777, 779, 18, 781, 783, 19, 785, 424, 425, 302, 790, 791, 792, 228, 226, 811, 812, 813, 299, 301, 824, 825, 826, 862, 863, 864, 870, 871, 872, 300, 878, 879, 880, 885, 504, 505, 188, 894, 895, 901, 902, 908, 470, 913, 914, 926, 927, 928, 123, 934, 935, 936, 943, 944, 945, 956, 957, 976, 977, 987, 988, 994, 995, 1006, 1007, 1020, 1021, 1038, 963, 964, 1039, 1040, 1041, 1047, 968, 969, 203, 207, 205, 1056, 1057, 1058, 1060, 1061, 1062, 141, 141, 298, 306, 306, 174, 1091, 1093, 25, 305, 414, 415, 416, 438, 439, 548, 549, 550]) (by decide +kernel)
def P_2 : List (Nat × tI) := [(3, (26, .invokespecial 3, 0, 0)), (70000, (16, .newarray .int, 0, 0)), (9, (11, .putfield 9, 2, 0)), (15, (11, .putfield 15, 2, 1)), (18, (11, .putfield 18, 2, 2)), (21, (11, .putfield 21, 2, 3)), (24, (8, .putfield 24, 2, 4)), (28, (8, .putfield 28, 2, 7)), (9, (3, .getfield 9, 2, 0)), (31, (13, .invokestatic 31, 0, 0)), (15, (3, .getfield 15, 2, 1)), (18, (3, .getfield 18, 2, 2)), (21, (3, .getfield 21, 2, 3)), (24, (3, .getfield 24, 2, 4)), (37, (3, .getfield 37, 2, 5)), (37, (8, .putfield 37, 2, 5)), (40, (3, .getfield 40, 2, 6)), (40, (8, .putfield 40, 2, 6)), (28, (3, .getfield 28, 2, 7)), (43, (20, .invokevirtual 43, 70, 0)), (47, (20, .invokevirtual 47, 73, 0)), (51, (20, .invokevirtual 51, 72, 0)), (54, (20, .invokevirtual 54, 74, 0)), (58, (28, .invokestatic 58, 0, 2)), (63, (20, .invokevirtual 63, 79, 0)), (67, (20, .invokevirtual 67, 83, 0)), (70, (20, .invokevirtual 70, 85, 0)), (74, (20, .invokevirtual 74, 97, 0)), (77, (20, .invokevirtual 77, 82, 0)), (80, (21, .invokestatic 80, 173, 0)), (85, (24, .invokestatic 85, 65, 0)), (88, (24, .invokestatic 88, 66, 0)), (91, (20, .invokevirtual 91, 81, 0)), (95, (20, .invokevirtual 95, 92, 0)), (98, (20, .invokevirtual 98, 94, 0)), (101, (1, .ldc 101, 1103515245, 0)), (102, (20, .invokevirtual 102, 84, 0)), (105, (20, .invokevirtual 105, 99, 0)), (108, (20, .invokevirtual 108, 100, 0)), (111, (20, .invokevirtual 111, 89, 0))]
theorem P_2_ok : ∀ e ∈ P_2, ∀ w ∈ t_nd "NineTrees$Garden" t_ys e.2, w ∈ gt := t_flat (ps := [109, 102, 103, 159, 110, 112, 119, 121, 124, 140, 110, 585, 381, 380, 87, 112, 119, 121, 124, 134, 134, 136, 136, 140, 503, 504, 505, 431, 432, 433, 427, 428, 429, 966, 853, 854, 484, 485, 90, 486, 423, 424, 425, 511, 512, 513, 422, 407, 408, 560, 460, 461, 527, 528, 529, 531, 454, 436, 443, 771, 395, 396, 772, 419, 420, 938, 766, 767, 1068, 1073, 508, 509, 1064, 1065, 1066, 1069, 1070, 1071, 1074, 516, 517]) (by decide +kernel)
def P_3 : List (Nat × tI) := [(3, (26, .invokespecial 3, 0, 0)), (70000, (16, .newarray .int, 0, 0)), (9, (11, .putfield 9, 4, 0)), (15, (8, .putfield 15, 4, 1)), (19, (3, .getfield 19, 2, 5)), (24, (20, .invokevirtual 24, 92, 0)), (28, (24, .invokestatic 28, 65, 0)), (32, (24, .invokestatic 32, 66, 0)), (35, (20, .invokevirtual 35, 104, 0)), (15, (3, .getfield 15, 4, 1)), (9, (3, .getfield 9, 4, 0)), (39, (21, .invokestatic 39, 173, 0)), (44, (20, .invokevirtual 44, 105, 0)), (47, (20, .invokevirtual 47, 107, 0))]
theorem P_3_ok : ∀ e ∈ P_3, ∀ w ∈ t_nd "NineTrees$RowList" t_ys e.2, w ∈ gt := t_flat (ps := [165, 102, 103, 159, 166, 170, 132, 418, 419, 420, 436, 443, 445, 447, 3, 170, 166, 453, 454, 730, 719, 720, 815, 450, 451]) (by decide +kernel)
def P_4 : List (Nat × tI) := [(3, (26, .invokespecial 3, 0, 0)), (70000, (16, .newarray .int, 0, 0)), (9, (11, .putfield 9, 0, 0)), (9, (3, .getfield 9, 0, 0)), (15, (20, .invokevirtual 15, 113, 0)), (18, (3, .getfield 18, 4, 1)), (24, (3, .getfield 24, 4, 0)), (27, (21, .invokestatic 27, 173, 0)), (33, (20, .invokevirtual 33, 115, 0)), (37, (24, .invokestatic 37, 65, 0)), (40, (24, .invokestatic 40, 66, 0)), (43, (20, .invokevirtual 43, 81, 0)), (49, (3, .getfield 49, 2, 1)), (52, (20, .invokevirtual 52, 72, 0)), (55, (20, .invokevirtual 55, 73, 0)), (58, (20, .invokevirtual 58, 74, 0))]
theorem P_4_ok : ∀ e ∈ P_4, ∀ w ∈ t_nd "NineTrees$Crossings" t_ys e.2, w ∈ gt := t_flat (ps := [185, 102, 103, 159, 186, 186, 882, 838, 839, 172, 168, 883, 454, 884, 844, 845, 436, 443, 849, 395, 396, 116, 850, 428, 429, 851, 432, 433, 852, 853, 854]) (by decide +kernel)
def P_5 : List (Nat × tI) := [(3, (26, .invokespecial 3, 0, 0)), (9, (15, .new 9, 0, 0)), (11, (25, .invokespecial 11, 112, 0)), (12, (11, .putfield 12, 3, 0)), (18, (8, .putfield 18, 3, 2)), (22, (8, .putfield 22, 3, 3)), (25, (8, .putfield 25, 3, 4)), (28, (20, .invokevirtual 28, 122, 0)), (31, (3, .getfield 31, 2, 5)), (36, (20, .invokevirtual 36, 87, 0)), (40, (20, .invokevirtual 40, 120, 0)), (44, (20, .invokevirtual 44, 123, 0)), (48, (20, .invokevirtual 48, 121, 0)), (51, (3, .getfield 51, 3, 1)), (12, (3, .getfield 12, 3, 0)), (54, (3, .getfield 54, 0, 0)), (51, (8, .putfield 51, 3, 1)), (58, (20, .invokevirtual 58, 113, 0)), (61, (3, .getfield 61, 4, 1)), (66, (3, .getfield 66, 4, 0)), (69, (21, .invokestatic 69, 173, 0)), (75, (20, .invokevirtual 75, 85, 0)), (79, (20, .invokevirtual 79, 115, 0)), (82, (3, .getfield 82, 2, 6)), (85, (3, .getfield 85, 2, 3)), (88, (20, .invokevirtual 88, 94, 0)), (91, (20, .invokevirtual 91, 70, 0)), (25, (3, .getfield 25, 3, 4)), (95, (20, .invokevirtual 95, 84, 0)), (18, (3, .getfield 18, 3, 2)), (22, (3, .getfield 22, 3, 3))]
theorem P_5_ok : ∀ e ∈ P_5, ∀ w ∈ t_nd "NineTrees$Moves" t_ys e.2, w ∈ gt := t_flat (ps := [197, 102, 103, 198, 183, 200, 202, 204, 206, 828, 830, 21, 131, 832, 549, 550, 833, 835, 22, 856, 858, 23, 947, 949, 24, 201, 200, 187, 201, 837, 838, 839, 173, 169, 841, 454, 842, 407, 408, 843, 844, 845, 138, 122, 951, 766, 767, 860, 504, 505, 206, 861, 508, 509, 202, 204]) (by decide +kernel)
def P_6 : List (Nat × tI) := [(3, (26, .invokespecial 3, 0, 0)), (9, (8, .putfield 9, 1, 1)), (15, (3, .getfield 15, 4, 1)), (20, (3, .getfield 20, 2, 5)), (25, (3, .getfield 25, 4, 0)), (29, (20, .invokevirtual 29, 85, 0)), (33, (20, .invokevirtual 33, 127, 0)), (37, (24, .invokestatic 37, 65, 0)), (41, (24, .invokestatic 41, 66, 0)), (44, (20, .invokevirtual 44, 81, 0)), (48, (3, .getfield 48, 2, 1)), (51, (20, .invokevirtual 51, 79, 0)), (55, (20, .invokevirtual 55, 78, 0)), (9, (3, .getfield 9, 1, 1)), (59, (3, .getfield 59, 1, 3)), (62, (3, .getfield 62, 1, 2)), (65, (8, .putfield 65, 1, 0)), (62, (8, .putfield 62, 1, 2)), (59, (8, .putfield 59, 1, 3))]
theorem P_6_ok : ∀ e ∈ P_6, ∀ w ∈ t_nd "NineTrees$Gap" t_ys e.2, w ∈ gt := t_flat (ps := [224, 102, 103, 227, 171, 133, 167, 794, 407, 408, 795, 797, 20, 436, 443, 801, 395, 396, 115, 802, 424, 425, 803, 804, 805, 227, 230, 229, 225, 229, 230]) (by decide +kernel)
def P_7 : List (Nat × tI) := [(9, (3, .getfield 9, 2, 5)), (15, (3, .getfield 15, 2, 1)), (19, (20, .invokevirtual 19, 77, 0)), (23, (20, .invokevirtual 23, 70, 0)), (27, (21, .invokestatic 27, 131, 0)), (33, (21, .invokestatic 33, 133, 0)), (37, (3, .getfield 37, 2, 4)), (40, (21, .invokestatic 40, 173, 0)), (46, (20, .invokevirtual 46, 72, 0)), (49, (20, .invokevirtual 49, 73, 0)), (52, (21, .invokestatic 52, 135, 0)), (56, (20, .invokevirtual 56, 75, 0)), (59, (20, .invokevirtual 59, 76, 0)), (62, (20, .invokevirtual 62, 84, 0)), (66, (20, .invokevirtual 66, 79, 0)), (70, (28, .invokestatic 70, 0, 2)), (75, (28, .invokestatic 75, 0, 0)), (78, (21, .invokestatic 78, 138, 0)), (82, (21, .invokestatic 82, 139, 0)), (85, (20, .invokevirtual 85, 74, 0)), (88, (20, .invokevirtual 88, 80, 0)), (92, (21, .invokestatic 92, 141, 0)), (96, (21, .invokestatic 96, 142, 0))]
theorem P_7_ok : ∀ e ∈ P_7, ∀ w ∈ t_nd "NineTrees$Shapes" t_ys e.2, w ∈ gt := t_flat (ps := [129, 113, 490, 481, 482, 979, 504, 505, 980, 981, 916, 917, 126, 921, 454, 919, 428, 429, 920, 432, 433, 959, 960, 962, 963, 964, 967, 968, 969, 971, 508, 509, 997, 424, 425, 998, 485, 90, 486, 999, 1000, 90, 1001, 1009, 1010, 1012, 1013, 1015, 853, 854, 1023, 474, 475, 1024, 1025, 1027, 1028]) (by decide +kernel)
def P_8 : List (Nat × tI) := [(9, (3, .getfield 9, 2, 5)), (15, (20, .invokevirtual 15, 85, 0)), (19, (3, .getfield 19, 2, 1)), (23, (20, .invokevirtual 23, 80, 0)), (27, (21, .invokestatic 27, 144, 0)), (33, (20, .invokevirtual 33, 77, 0)), (37, (21, .invokestatic 37, 143, 0)), (41, (21, .invokestatic 41, 145, 0))]
theorem P_8_ok : ∀ e ∈ P_8, ∀ w ∈ t_nd "NineTrees$Sight" t_ys e.2, w ∈ gt := t_flat (ps := [130, 472, 407, 408, 114, 473, 474, 475, 477, 478, 480, 481, 482, 469, 470, 466, 467]) (by decide +kernel)
def P_9 : List (Nat × tI) := [(3, (26, .invokespecial 3, 0, 0)), (70001, (16, .newarray .long, 0, 0)), (9, (11, .putfield 9, 5, 0)), (15, (8, .putfield 15, 5, 1)), (19, (8, .putfield 19, 5, 3)), (15, (3, .getfield 15, 5, 1)), (19, (3, .getfield 19, 5, 3)), (22, (20, .invokevirtual 22, 151, 0)), (26, (3, .getfield 26, 5, 2)), (26, (8, .putfield 26, 5, 2)), (9, (3, .getfield 9, 5, 0))]
theorem P_9_ok : ∀ e ∈ P_9, ∀ w ∈ t_nd "NineTrees$Shelf" t_ys e.2, w ∈ gt := t_flat (ps := [277, 102, 103, 295, 278, 280, 284, 280, 284, 358, 359, 360, 282, 282, 278]) (by decide +kernel)
def P_10 : List (Nat × tI) := [(3, (26, .invokespecial 3, 0, 0)), (70000, (16, .newarray .int, 0, 0)), (9, (11, .putfield 9, 6, 0)), (15, (3, .getfield 15, 2, 5)), (21, (8, .putfield 21, 6, 2)), (24, (8, .putfield 24, 6, 5)), (27, (20, .invokevirtual 27, 169, 0)), (30, (3, .getfield 30, 6, 3)), (33, (20, .invokevirtual 33, 160, 0)), (37, (3, .getfield 37, 6, 4)), (42, (20, .invokevirtual 42, 168, 0)), (46, (20, .invokevirtual 46, 161, 0)), (51, (20, .invokevirtual 51, 162, 0)), (56, (20, .invokevirtual 56, 163, 0)), (61, (20, .invokevirtual 61, 164, 0)), (66, (20, .invokevirtual 66, 165, 0)), (69, (20, .invokevirtual 69, 166, 0)), (73, (3, .getfield 73, 6, 6)), (76, (8, .putfield 76, 2, 4)), (78, (20, .invokevirtual 78, 70, 0)), (82, (20, .invokevirtual 82, 84, 0)), (86, (20, .invokevirtual 86, 89, 0)), (90, (3, .getfield 90, 2, 6)), (93, (20, .invokevirtual 93, 167, 0)), (96, (20, .invokevirtual 96, 96, 0)), (100, (20, .invokevirtual 100, 87, 0)), (103, (3, .getfield 103, 2, 1)), (106, (20, .invokevirtual 106, 90, 0)), (110, (20, .invokevirtual 110, 91, 0)), (21, (3, .getfield 21, 6, 2)), (113, (28, .invokestatic 113, 0, 1)), (24, (3, .getfield 24, 6, 5)), (119, (27, .invokevirtual 119, 177, 0)), (9, (3, .getfield 9, 6, 0)), (124, (27, .invokevirtual 124, 178, 0)), (37, (8, .putfield 37, 6, 4)), (128, (3, .getfield 128, 6, 1)), (131, (20, .invokevirtual 131, 170, 0)), (30, (8, .putfield 30, 6, 3)), (135, (20, .invokevirtual 135, 171, 0)), (73, (8, .putfield 73, 6, 6))]
theorem P_10_ok : ∀ e ∈ P_10, ∀ w ∈ t_nd "NineTrees$Tape" t_ys e.2, w ∈ gt := t_flat (ps := [245, 102, 103, 159, 246, 128, 250, 254, 590, 592, 6, 252, 602, 604, 9, 253, 607, 609, 10, 659, 661, 11, 672, 674, 14, 680, 682, 15, 686, 688, 16, 692, 694, 17, 663, 665, 12, 255, 125, 676, 504, 505, 677, 508, 509, 678, 516, 517, 137, 667, 669, 13, 684, 533, 534, 690, 549, 550, 117, 696, 557, 558, 697, 562, 563, 250, 698, 699, 90, 700, 254, 611, 612, 613, 246, 621, 622, 623, 253, 248, 594, 596, 7, 252, 598, 600, 8, 255]) (by decide +kernel)
def P_11 : List (Nat × tI) := [(264, (1, .ldc_w 264, 65536, 0)), (265, (1, .ldc_w 265, 1431655765, 0)), (266, (1, .ldc_w 266, 858993459, 0)), (267, (1, .ldc_w 267, 252645135, 0))]
theorem P_11_ok : ∀ e ∈ P_11, ∀ w ∈ t_nd "java/lang/Integer" t_ys e.2, w ∈ gt := t_flat (ps := [441, 456, 457, 458]) (by decide +kernel)
def P_12 : List (Nat × tI) := []
theorem P_12_ok : ∀ e ∈ P_12, ∀ w ∈ t_nd "java/lang/Math" t_ys e.2, w ∈ gt := t_flat (ps := []) (by decide +kernel)
def P_13 : List (Nat × tI) := [(9, (7, .getfield 9, 0, 1)), (335, (27, .invokevirtual 335, 179, 0)), (492, (27, .invokevirtual 492, 180, 0)), (495, (21, .invokestatic 495, 182, 0)), (38, (6, .getstatic 38, 0, 0)), (15, (7, .getfield 15, 0, 0)), (1053, (6, .getstatic 1053, 1, 0)), (1059, (21, .invokestatic 1059, 183, 0))]
theorem P_13_ok : ∀ e ∈ P_13, ∀ w ∈ t_nd "java/lang/String" t_ys e.2, w ∈ gt := t_flat (ps := [1671, 615, 616, 617, 625, 626, 627, 629, 630, 619, 1672, 635, 637, 638]) (by decide +kernel)
def P_14 : List (Nat × tI) := [(9, (21, .invokestatic 9, 181, 0))]
theorem P_14_ok : ∀ e ∈ P_14, ∀ w ∈ t_nd "java/lang/StringLatin1" t_ys e.2, w ∈ gt := t_flat (ps := [632, 633]) (by decide +kernel)
def P_15 : List (Nat × tI) := []
theorem P_15_ok : ∀ e ∈ P_15, ∀ w ∈ t_nd "jdk/internal/util/Preconditions" t_ys e.2, w ∈ gt := t_flat (ps := []) (by decide +kernel)
def P_16 : List (Nat × tI) := [(414, (21, .invokestatic 414, 181, 0))]
theorem P_16_ok : ∀ e ∈ P_16, ∀ w ∈ t_nd "java/lang/StringUTF16" t_ys e.2, w ∈ gt := t_flat (ps := [649, 633]) (by decide +kernel)
def P_17 : List (Nat × tI) := [(1, (26, .invokespecial 1, 0, 0)), (70000, (16, .newarray .int, 0, 0)), (7, (11, .putfield 7, 8, 0)), (13, (11, .putfield 13, 8, 1)), (16, (11, .putfield 16, 8, 2)), (19, (18, .multianewarray 19 2, 0, 0)), (21, (11, .putfield 21, 8, 3)), (70001, (16, .newarray .long, 0, 0)), (24, (11, .putfield 24, 8, 4)), (28, (11, .putfield 28, 8, 5)), (31, (11, .putfield 31, 8, 6)), (34, (11, .putfield 34, 8, 8)), (37, (8, .putfield 37, 8, 9)), (41, (11, .putfield 41, 8, 11)), (44, (11, .putfield 44, 8, 12)), (47, (11, .putfield 47, 8, 13)), (50, (11, .putfield 50, 8, 15)), (53, (8, .putfield 53, 8, 16)), (56, (11, .putfield 56, 8, 24)), (59, (11, .putfield 59, 8, 26)), (34, (3, .getfield 34, 8, 8)), (62, (3, .getfield 62, 8, 10)), (65, (21, .invokestatic 65, 190, 0)), (37, (3, .getfield 37, 8, 9)), (69, (20, .invokevirtual 69, 192, 0)), (44, (3, .getfield 44, 8, 12)), (41, (3, .getfield 41, 8, 11)), (73, (2, .ldc2_w 73, 7, 0)), (75, (2, .ldc2_w 75, 4, 0)), (77, (2, .ldc2_w 77, 40, 0)), (79, (20, .invokevirtual 79, 189, 0)), (7, (3, .getfield 7, 8, 0)), (13, (3, .getfield 13, 8, 1)), (16, (3, .getfield 16, 8, 2)), (21, (3, .getfield 21, 8, 3)), (83, (20, .invokevirtual 83, 201, 0)), (86, (21, .invokestatic 86, 200, 0)), (24, (3, .getfield 24, 8, 4)), (28, (3, .getfield 28, 8, 5)), (90, (20, .invokevirtual 90, 191, 0)), (94, (2, .ldc2_w 94, 5, 0)), (96, (21, .invokestatic 96, 208, 0)), (100, (20, .invokevirtual 100, 242, 0)), (104, (20, .invokevirtual 104, 210, 0)), (107, (20, .invokevirtual 107, 272, 0)), (110, (20, .invokevirtual 110, 237, 0)), (47, (3, .getfield 47, 8, 13)), (113, (3, .getfield 113, 8, 14)), (50, (3, .getfield 50, 8, 15)), (116, (21, .invokestatic 116, 195, 0)), (119, (2, .ldc2_w 119, 3, 0)), (121, (2, .ldc2_w 121, 8, 0)), (62, (8, .putfield 62, 8, 10)), (123, (20, .invokevirtual 123, 193, 0)), (126, (2, .ldc2_w 126, 9, 0)), (128, (20, .invokevirtual 128, 194, 0)), (131, (20, .invokevirtual 131, 212, 0)), (135, (21, .invokestatic 135, 196, 0)), (113, (8, .putfield 113, 8, 14)), (138, (20, .invokevirtual 138, 197, 0)), (141, (20, .invokevirtual 141, 216, 0)), (144, (20, .invokevirtual 144, 218, 0)), (148, (20, .invokevirtual 148, 207, 0)), (151, (2, .ldc2_w 151, 255, 0)), (153, (3, .getfield 153, 8, 7)), (31, (3, .getfield 31, 8, 6)), (153, (8, .putfield 153, 8, 7)), (156, (3, .getfield 156, 8, 19)), (156, (8, .putfield 156, 8, 19)), (159, (8, .putfield 159, 8, 21)), (162, (8, .putfield 162, 8, 22)), (165, (8, .putfield 165, 8, 20)), (168, (21, .invokestatic 168, 222, 0)), (171, (21, .invokestatic 171, 223, 0)), (159, (3, .getfield 159, 8, 21)), (162, (3, .getfield 162, 8, 22)), (174, (8, .putfield 174, 8, 23)), (165, (3, .getfield 165, 8, 20)), (177, (27, .invokevirtual 177, 177, 0)), (182, (27, .invokevirtual 182, 178, 0)), (186, (20, .invokevirtual 186, 225, 0)), (56, (3, .getfield 56, 8, 24)), (189, (20, .invokevirtual 189, 224, 0)), (192, (20, .invokevirtual 192, 227, 0)), (196, (20, .invokevirtual 196, 229, 0)), (200, (20, .invokevirtual 200, 226, 0)), (204, (20, .invokevirtual 204, 228, 0)), (211, (20, .invokevirtual 211, 230, 0)), (216, (20, .invokevirtual 216, 231, 0)), (221, (8, .putfield 221, 8, 25)), (224, (20, .invokevirtual 224, 232, 0)), (221, (3, .getfield 221, 8, 25)), (227, (20, .invokevirtual 227, 298, 0)), (231, (20, .invokevirtual 231, 233, 0)), (234, (20, .invokevirtual 234, 300, 0)), (174, (3, .getfield 174, 8, 23)), (238, (20, .invokevirtual 238, 235, 0)), (242, (20, .invokevirtual 242, 236, 0)), (245, (8, .putfield 245, 8, 27)), (248, (20, .invokevirtual 248, 239, 0)), (251, (20, .invokevirtual 251, 241, 0)), (245, (3, .getfield 245, 8, 27)), (59, (3, .getfield 59, 8, 26)), (255, (20, .invokevirtual 255, 240, 0)), (258, (2, .ldc2_w 258, 2, 0)), (260, (2, .ldc2_w 260, 12, 0)), (262, (20, .invokevirtual 262, 243, 0)), (265, (20, .invokevirtual 265, 252, 0)), (268, (21, .invokestatic 268, 255, 0)), (271, (20, .invokevirtual 271, 238, 0)), (274, (20, .invokevirtual 274, 257, 0)), (277, (20, .invokevirtual 277, 258, 0)), (280, (8, .putfield 280, 8, 28)), (283, (8, .putfield 283, 8, 29)), (286, (8, .putfield 286, 8, 30)), (289, (20, .invokevirtual 289, 261, 0)), (286, (3, .getfield 286, 8, 30)), (292, (20, .invokevirtual 292, 262, 0)), (280, (3, .getfield 280, 8, 28)), (283, (3, .getfield 283, 8, 29)), (296, (20, .invokevirtual 296, 263, 0)), (300, (20, .invokevirtual 300, 268, 0)), (303, (20, .invokevirtual 303, 198, 0)), (306, (20, .invokevirtual 306, 273, 0)), (309, (20, .invokevirtual 309, 277, 0)), (312, (2, .ldc2_w 312, 18446744073709551615, 0)), (314, (20, .invokevirtual 314, 282, 0)), (317, (20, .invokevirtual 317, 281, 0)), (320, (20, .invokevirtual 320, 287, 0)), (322, (20, .invokevirtual 322, 289, 0)), (326, (20, .invokevirtual 326, 290, 0)), (329, (20, .invokevirtual 329, 292, 0)), (53, (3, .getfield 53, 8, 16)), (332, (1, .ldc_w 332, 1103515245, 0)), (333, (20, .invokevirtual 333, 295, 0)), (336, (3, .getfield 336, 8, 18)), (8, (15, .new 8, 8, 0)), (340, (22, .invokespecial 340, 188, 0)), (336, (10, .putfield 336, 8, 18)), (341, (21, .invokestatic 341, 299, 0)), (345, (3, .getfield 345, 8, 17)), (345, (10, .putfield 345, 8, 17)), (348, (2, .ldc2_w 348, 16, 0))]
theorem P_17_ok : ∀ e ∈ P_17, ∀ w ∈ t_nd "NineTreesModel" t_ys e.2, w ∈ gt := t_flat (ps := [1100, 102, 103, 159, 1103, 1104, 1105, 1101, 295, 1106, 295, 1107, 1108, 1109, 1111, 1112, 1114, 1115, 1116, 1118, 1119, 1127, 1129, 1111, 1113, 1202, 1203, 1112, 1314, 1316, 41, 1115, 1114, 1201, 1205, 1206, 1207, 1209, 26, 1103, 1104, 1105, 1106, 1215, 1217, 27, 1219, 1220, 1107, 1108, 1238, 1240, 28, 1246, 1247, 1248, 1250, 1252, 29, 1280, 1282, 35, 1284, 1286, 36, 1296, 1298, 39, 1116, 1117, 1118, 1274, 1275, 1304, 1305, 1113, 1310, 1312, 40, 1318, 1319, 1321, 42, 1323, 1325, 43, 1277, 1278, 1117, 1343, 1345, 45, 1339, 1341, 44, 1351, 1353, 46, 1355, 1357, 47, 1363, 1110, 1109, 1110, 1122, 1122, 1124, 1125, 1123, 1393, 1394, 1396, 1397, 1124, 1125, 1126, 1123, 1408, 612, 613, 1409, 622, 623, 1418, 1420, 56, 1127, 1389, 1391, 51, 1414, 1416, 55, 1423, 1425, 57, 1404, 1406, 53, 1410, 1412, 54, 1428, 1430, 58, 1433, 1435, 59, 1128, 1399, 1401, 52, 1128, 1372, 1374, 48, 1385, 1387, 50, 1378, 1380, 49, 1126, 1266, 1268, 33, 1262, 1264, 32, 1130, 1258, 1260, 31, 1270, 1272, 34, 1130, 1129, 1254, 1256, 30, 1450, 1451, 1456, 1458, 60, 1480, 1482, 61, 1492, 1493, 1292, 1294, 38, 1503, 1505, 63, 1499, 1501, 62, 1131, 1132, 1133, 1523, 1525, 66, 1133, 1519, 1521, 65, 1131, 1132, 1515, 1517, 64, 1543, 1545, 67, 1288, 1290, 37, 1559, 1561, 68, 1575, 1577, 69, 1587, 1592, 1594, 70, 1596, 1598, 71, 1616, 1618, 72, 1628, 1630, 74, 1624, 1626, 73, 1636, 1638, 75, 1119, 1652, 1648, 1650, 76, 1121, 1376, 1377, 1098, 1121, 1382, 1383, 1120, 1120, 1669]) (by decide +kernel)
