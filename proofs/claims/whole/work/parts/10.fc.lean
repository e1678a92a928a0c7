/-- the two rows that grow, doubled -/
def mk_gr (M : mm_M) : mm_M := (fun a b => if a = 70 then (if b < 6 * M.2.2 then M.1 70 b else 0) else M.1 a b, fun a b => if a = 71 then (if b < 20 * M.2.2 then M.2.1 71 b else 0) else M.2.1 a b, 2 * M.2.2)
def f_X9_makeRoom (M : mm_M) : Option mm_M :=
  if ((M.1 5 4) + 1) * 6 ≤ Int32.ofNat (6 * M.2.2) then some M else if 1 ≤ M.2.2 ∧ M.2.2 ≤ 65536 then some (mk_gr M) else none
theorem mo_X9_makeRoom {z M : mm_M} (hf : f_X9_makeRoom M = some z) : M.2.2 ≤ z.2.2 := by
  unfold f_X9_makeRoom at hf
  split at hf
  · cases hf; exact Nat.le_refl _
  · obtain ⟨_, hf⟩ := ck_e hf
    cases hf
    show M.2.2 ≤ 2 * M.2.2
    omega
def f_J6_bitCount_0f7a4 (x0 : Int32) : Int32 :=
  sq_ ((x0 - (((x0.toUInt32 >>> ((1 : Int32).toUInt32 &&& Int32.toUInt32 31)).toInt32) &&& 1431655765)) : Int32) fun y1 =>
  sq_ (((y1 &&& 858993459) + (((y1.toUInt32 >>> ((2 : Int32).toUInt32 &&& Int32.toUInt32 31)).toInt32) &&& 858993459)) : Int32) fun y2 =>
  sq_ (((y2 + ((y2.toUInt32 >>> ((4 : Int32).toUInt32 &&& Int32.toUInt32 31)).toInt32)) &&& 252645135) : Int32) fun y3 =>
  sq_ ((y3 + ((y3.toUInt32 >>> ((8 : Int32).toUInt32 &&& Int32.toUInt32 31)).toInt32)) : Int32) fun y4 =>
  sq_ ((y4 + ((y4.toUInt32 >>> ((16 : Int32).toUInt32 &&& Int32.toUInt32 31)).toInt32)) : Int32) fun y5 =>
  (y5 &&& 63)
def f_J7_fill_53178_5 (q5 : Int32 → Int32 → Int32 → mm_M → Option mm_M) (x1 : Int32) (x2 : Int32) (x3 : Int32) (M : mm_M) : Option mm_M :=
  if x3 ≤ x2 then (
    some M
  ) else (
    if ix_ok x2 400 then (
    sq_ (mm_si M 69 x2.toNatClampNeg x1) fun M3 =>
    sq_ (x2 + 1 : Int32) fun y4 =>
    q5 x1 y4 x3 M3
    ) else none
  )
def f_J7_fill_53178_5l : Nat → Int32 → Int32 → Int32 → mm_M → Option mm_M
  | 0, _, _, _, _ => none
  | n + 1, x1, x2, x3, M => f_J7_fill_53178_5 (f_J7_fill_53178_5l n) x1 x2 x3 M
def f_J7_fill_53178 (x1 : Int32) (M : mm_M) : Option mm_M :=
  f_J7_fill_53178_5l fu_ x1 (0 : Int32) (400 : Int32) M
theorem mo_J7_fill_53178_5 {z : mm_M} {x1 : Int32} {x2 : Int32} {x3 : Int32} {M : mm_M} {q5 : Int32 → Int32 → Int32 → mm_M → Option mm_M} (hq5 : ∀ (x1 : Int32) (x2 : Int32) (x3 : Int32) (M : mm_M), q5 x1 x2 x3 M = some z → M.2.2 ≤ z.2.2) (hf : f_J7_fill_53178_5 q5 x1 x2 x3 M = some z) : M.2.2 ≤ z.2.2 := by
  unfold f_J7_fill_53178_5 at hf
  by_cases c1 : x3 ≤ x2
  · rw [if_pos c1] at hf
    rw [← Option.some.inj hf]; show M.2.2 ≤ M.2.2; exact Nat.le_refl _
  · rw [if_neg c1] at hf
    obtain ⟨h2, hf⟩ := ck_e hf
    obtain ⟨M3, eM3, hf⟩ := sq_e hf
    have mM3 : M.2.2 ≤ M3.2.2 := by rw [eM3]; exact Nat.le_refl _
    obtain ⟨y4, ey4, hf⟩ := sq_e hf
    have hj := hq5 _ _ _ _ hf; omega
theorem mo_J7_fill_53178_5l {z : mm_M} : ∀ (n : Nat) (x1 : Int32) (x2 : Int32) (x3 : Int32) (M : mm_M), f_J7_fill_53178_5l n x1 x2 x3 M = some z → M.2.2 ≤ z.2.2 := by
  intro n
  induction n with
  | zero => intro x1 x2 x3 M hf; exact absurd hf (by simp [f_J7_fill_53178_5l])
  | succ n ih => intro x1 x2 x3 M hf; exact mo_J7_fill_53178_5 ih hf
theorem mo_J7_fill_53178 {z : mm_M} {x1 : Int32} {M : mm_M} (hf : f_J7_fill_53178 x1 M = some z) : M.2.2 ≤ z.2.2 := by
  unfold f_J7_fill_53178 at hf
  have hj := mo_J7_fill_53178_5l fu_ _ _ _ _ hf; omega
def f_X0_lengthOf (x0 : Int64) : Int32 :=
  ((((x0.toUInt64 >>> ((32 : Int32).toInt64.toUInt64 &&& Int64.toUInt64 63)).toInt64).toInt32) - 1)
def f_X0_soundAt (x0 : Int64) (x2 : Int32) : Int32 :=
  ((((x0.toUInt64 >>> ((4 * x2).toInt64.toUInt64 &&& Int64.toUInt64 63)).toInt64).toInt32) &&& 15)
def f_X0_of (x0 : Int64) (x2 : Int32) : Int64 :=
  ((((x2 + 1).toInt64) <<< ((32 : Int32).toInt64 &&& 63)) ||| x0)
def f_X0_tailOf_28 (x0 : Int64) (x3 : Int32) (x4 : Int32) : Option Int64 :=
  sq_ (f_X0_of (((x0 &&& 4294967295).toUInt64 >>> ((4 * x4).toInt64.toUInt64 &&& Int64.toUInt64 63)).toInt64) (x3 - x4)) fun z7 =>
  some z7
def f_X0_tailOf_10 (q10 : Int64 → Int32 → Int32 → Int32 → Option Int64) (x0 : Int64) (x2 : Int32) (x3 : Int32) (x4 : Int32) : Option Int64 :=
  if x4 < 0 then (
    some (0 : Int64)
  ) else (
    sq_ (f_X0_soundAt x0 x4) fun z4 =>
    if ((x2 >>> (z4 &&& 31)) &&& 1) = 0 then (
      sq_ (x4 + (-1) : Int32) fun y6 =>
      q10 x0 x2 x3 y6
    ) else (
      f_X0_tailOf_28 x0 x3 x4
    )
  )
def f_X0_tailOf_10l : Nat → Int64 → Int32 → Int32 → Int32 → Option Int64
  | 0, _, _, _, _ => none
  | n + 1, x0, x2, x3, x4 => f_X0_tailOf_10 (f_X0_tailOf_10l n) x0 x2 x3 x4
def f_X0_tailOf (x0 : Int64) (x2 : Int32) : Option Int64 :=
  sq_ (f_X0_lengthOf x0) fun z1 =>
  sq_ ((z1 - 1) : Int32) fun y2 =>
  f_X0_tailOf_10l fu_ x0 x2 z1 y2
def f_X0_beatsOf_11 (q11 : Int64 → Int32 → Int32 → Int32 → Int32 → Option Int32) (x0 : Int64) (x2 : Int32) (x3 : Int32) (x4 : Int32) (x5 : Int32) : Option Int32 :=
  if x3 ≤ x5 then (
    some x4
  ) else (
    sq_ (f_X0_soundAt x0 x5) fun z3 =>
    sq_ ((x4 + ((x2 >>> (z3 &&& 31)) &&& 1)) : Int32) fun y4 =>
    sq_ (x5 + 1 : Int32) fun y5 =>
    q11 x0 x2 x3 y4 y5
  )
def f_X0_beatsOf_11l : Nat → Int64 → Int32 → Int32 → Int32 → Int32 → Option Int32
  | 0, _, _, _, _, _ => none
  | n + 1, x0, x2, x3, x4, x5 => f_X0_beatsOf_11 (f_X0_beatsOf_11l n) x0 x2 x3 x4 x5
def f_X0_beatsOf (x0 : Int64) (x2 : Int32) : Option Int32 :=
  sq_ (f_X0_lengthOf x0) fun z1 =>
  f_X0_beatsOf_11l fu_ x0 x2 z1 (0 : Int32) (0 : Int32)
def f_X1_take_73 (k0 : Nat) (M : mm_M) : Option mm_M :=
  sq_ (mm_ai M (k0 + 3) (va_cpy (M.1 15) (M.1 (k0 + 3)) 0 0 (6 : Int32).toNatClampNeg)) fun M12 =>
  sq_ (mm_ai M12 (k0 + 4) (va_cpy (M12.1 7) (M12.1 (k0 + 4)) 0 0 (6 : Int32).toNatClampNeg)) fun M13 =>
  some M13
def f_X1_take_24 (q24 : Nat → Int32 → mm_M → Option mm_M) (k0 : Nat) (x4 : Int32) (M : mm_M) : Option mm_M :=
  if (M.1 k0 1) ≤ x4 then (
    f_X1_take_73 k0 M
  ) else (
    if ix_ok x4 16 then (
    if ix_ok x4 16 then (
    sq_ (mm_si M (k0 + 1) x4.toNatClampNeg (M.1 (22 + x4.toNatClampNeg) 6)) fun M7 =>
    if ix_ok x4 16 then (
    if ix_ok x4 16 then (
    sq_ (mm_si M7 (k0 + 2) x4.toNatClampNeg (M7.1 (22 + x4.toNatClampNeg) 7)) fun M10 =>
    sq_ (x4 + 1 : Int32) fun y11 =>
    q24 k0 y11 M10
    ) else none ) else none ) else none ) else none
  )
def f_X1_take_24l : Nat → Nat → Int32 → mm_M → Option mm_M
  | 0, _, _, _ => none
  | n + 1, k0, x4, M => f_X1_take_24 (f_X1_take_24l n) k0 x4 M
def f_X1_take (k0 : Nat) (M : mm_M) : Option mm_M :=
  sq_ (mm_si M k0 0 1) fun M1 =>
  sq_ (mm_si M1 k0 1 (M1.1 19 3)) fun M2 =>
  sq_ (mm_si M2 k0 2 (M2.1 19 4)) fun M3 =>
  f_X1_take_24l fu_ k0 (0 : Int32) M3
theorem mo_X1_take_73 {z : mm_M} {k0 : Nat} {M : mm_M} (hf : f_X1_take_73 k0 M = some z) : M.2.2 ≤ z.2.2 := by
  unfold f_X1_take_73 at hf
  obtain ⟨M12, eM12, hf⟩ := sq_e hf
  have mM12 : M.2.2 ≤ M12.2.2 := by rw [eM12]; exact Nat.le_refl _
  obtain ⟨M13, eM13, hf⟩ := sq_e hf
  have mM13 : M12.2.2 ≤ M13.2.2 := by rw [eM13]; exact Nat.le_refl _
  rw [← Option.some.inj hf]; show M.2.2 ≤ M13.2.2; omega
theorem mo_X1_take_24 {z : mm_M} {k0 : Nat} {x4 : Int32} {M : mm_M} {q24 : Nat → Int32 → mm_M → Option mm_M} (hq24 : ∀ (k0 : Nat) (x4 : Int32) (M : mm_M), q24 k0 x4 M = some z → M.2.2 ≤ z.2.2) (hf : f_X1_take_24 q24 k0 x4 M = some z) : M.2.2 ≤ z.2.2 := by
  unfold f_X1_take_24 at hf
  by_cases c4 : (M.1 k0 1) ≤ x4
  · rw [if_pos c4] at hf
    have hj := mo_X1_take_73 hf; omega
  · rw [if_neg c4] at hf
    obtain ⟨h5, hf⟩ := ck_e hf
    obtain ⟨h6, hf⟩ := ck_e hf
    obtain ⟨M7, eM7, hf⟩ := sq_e hf
    have mM7 : M.2.2 ≤ M7.2.2 := by rw [eM7]; exact Nat.le_refl _
    obtain ⟨h8, hf⟩ := ck_e hf
    obtain ⟨h9, hf⟩ := ck_e hf
    obtain ⟨M10, eM10, hf⟩ := sq_e hf
    have mM10 : M7.2.2 ≤ M10.2.2 := by rw [eM10]; exact Nat.le_refl _
    obtain ⟨y11, ey11, hf⟩ := sq_e hf
    have hj := hq24 _ _ _ hf; omega
theorem mo_X1_take_24l {z : mm_M} : ∀ (n : Nat) (k0 : Nat) (x4 : Int32) (M : mm_M), f_X1_take_24l n k0 x4 M = some z → M.2.2 ≤ z.2.2 := by
  intro n
  induction n with
  | zero => intro k0 x4 M hf; exact absurd hf (by simp [f_X1_take_24l])
  | succ n ih => intro k0 x4 M hf; exact mo_X1_take_24 ih hf
theorem mo_X1_take {z : mm_M} {k0 : Nat} {M : mm_M} (hf : f_X1_take k0 M = some z) : M.2.2 ≤ z.2.2 := by
  unfold f_X1_take at hf
  obtain ⟨M1, eM1, hf⟩ := sq_e hf
  have mM1 : M.2.2 ≤ M1.2.2 := by rw [eM1]; exact Nat.le_refl _
  obtain ⟨M2, eM2, hf⟩ := sq_e hf
  have mM2 : M1.2.2 ≤ M2.2.2 := by rw [eM2]; exact Nat.le_refl _
  obtain ⟨M3, eM3, hf⟩ := sq_e hf
  have mM3 : M2.2.2 ≤ M3.2.2 := by rw [eM3]; exact Nat.le_refl _
  have hj := mo_X1_take_24l fu_ _ _ _ hf; omega
def f_X1_giveBack_78 (k0 : Nat) (M : mm_M) : Option mm_M :=
  sq_ (mm_ai M 15 (va_cpy (M.1 (k0 + 3)) (M.1 15) 0 0 (6 : Int32).toNatClampNeg)) fun M11 =>
  some M11
def f_X1_giveBack_29 (q29 : Nat → Int32 → mm_M → Option mm_M) (k0 : Nat) (x4 : Int32) (M : mm_M) : Option mm_M :=
  if (M.1 k0 1) ≤ x4 then (
    f_X1_giveBack_78 k0 M
  ) else (
    if ix_ok x4 16 then (
    if ix_ok x4 16 then (
    sq_ (mm_si M (22 + x4.toNatClampNeg) 6 (M.1 (k0 + 1) x4.toNatClampNeg)) fun M6 =>
    if ix_ok x4 16 then (
    if ix_ok x4 16 then (
    sq_ (mm_si M6 (22 + x4.toNatClampNeg) 7 (M6.1 (k0 + 2) x4.toNatClampNeg)) fun M9 =>
    sq_ (x4 + 1 : Int32) fun y10 =>
    q29 k0 y10 M9
    ) else none ) else none ) else none ) else none
  )
def f_X1_giveBack_29l : Nat → Nat → Int32 → mm_M → Option mm_M
  | 0, _, _, _ => none
  | n + 1, k0, x4, M => f_X1_giveBack_29 (f_X1_giveBack_29l n) k0 x4 M
def f_X1_giveBack (k0 : Nat) (M : mm_M) : Option mm_M :=
  sq_ (((((1 : Int32) <<< ((M.1 k0 1) &&& 31)) - 1) ^^^ (-1)) : Int32) fun y1 =>
  sq_ (mm_si M 19 4 (((M.1 19 4) &&& y1) ||| (M.1 k0 2))) fun M2 =>
  f_X1_giveBack_29l fu_ k0 (0 : Int32) M2
theorem mo_X1_giveBack_78 {z : mm_M} {k0 : Nat} {M : mm_M} (hf : f_X1_giveBack_78 k0 M = some z) : M.2.2 ≤ z.2.2 := by
  unfold f_X1_giveBack_78 at hf
  obtain ⟨M11, eM11, hf⟩ := sq_e hf
  have mM11 : M.2.2 ≤ M11.2.2 := by rw [eM11]; exact Nat.le_refl _
  rw [← Option.some.inj hf]; show M.2.2 ≤ M11.2.2; omega
theorem mo_X1_giveBack_29 {z : mm_M} {k0 : Nat} {x4 : Int32} {M : mm_M} {q29 : Nat → Int32 → mm_M → Option mm_M} (hq29 : ∀ (k0 : Nat) (x4 : Int32) (M : mm_M), q29 k0 x4 M = some z → M.2.2 ≤ z.2.2) (hf : f_X1_giveBack_29 q29 k0 x4 M = some z) : M.2.2 ≤ z.2.2 := by
  unfold f_X1_giveBack_29 at hf
  by_cases c3 : (M.1 k0 1) ≤ x4
  · rw [if_pos c3] at hf
    have hj := mo_X1_giveBack_78 hf; omega
  · rw [if_neg c3] at hf
    obtain ⟨h4, hf⟩ := ck_e hf
    obtain ⟨h5, hf⟩ := ck_e hf
    obtain ⟨M6, eM6, hf⟩ := sq_e hf
    have mM6 : M.2.2 ≤ M6.2.2 := by rw [eM6]; exact Nat.le_refl _
    obtain ⟨h7, hf⟩ := ck_e hf
    obtain ⟨h8, hf⟩ := ck_e hf
    obtain ⟨M9, eM9, hf⟩ := sq_e hf
    have mM9 : M6.2.2 ≤ M9.2.2 := by rw [eM9]; exact Nat.le_refl _
    obtain ⟨y10, ey10, hf⟩ := sq_e hf
    have hj := hq29 _ _ _ hf; omega
theorem mo_X1_giveBack_29l {z : mm_M} : ∀ (n : Nat) (k0 : Nat) (x4 : Int32) (M : mm_M), f_X1_giveBack_29l n k0 x4 M = some z → M.2.2 ≤ z.2.2 := by
  intro n
  induction n with
  | zero => intro k0 x4 M hf; exact absurd hf (by simp [f_X1_giveBack_29l])
  | succ n ih => intro k0 x4 M hf; exact mo_X1_giveBack_29 ih hf
theorem mo_X1_giveBack {z : mm_M} {k0 : Nat} {M : mm_M} (hf : f_X1_giveBack k0 M = some z) : M.2.2 ≤ z.2.2 := by
  unfold f_X1_giveBack at hf
  obtain ⟨y1, ey1, hf⟩ := sq_e hf
  obtain ⟨M2, eM2, hf⟩ := sq_e hf
  have mM2 : M.2.2 ≤ M2.2.2 := by rw [eM2]; exact Nat.le_refl _
  have hj := mo_X1_giveBack_29l fu_ _ _ _ hf; omega
def f_X10_clear (M : mm_M) : mm_M :=
  sq_ (mm_si M 39 2 0) fun M1 =>
  M1
theorem mo_X10_clear {z : mm_M} {M : mm_M} (hf : f_X10_clear M = z) : M.2.2 ≤ z.2.2 := by
  unfold f_X10_clear at hf
  obtain ⟨M1, eM1, hf⟩ := sq_e hf
  have mM1 : M.2.2 ≤ M1.2.2 := by rw [eM1]; exact Nat.le_refl _
  rw [← hf]; show M.2.2 ≤ M1.2.2; omega
def f_X10_add_30 (x1 : Int64) (x3 : Int64) (x5 : Int32) (M : mm_M) : Option mm_M :=
  if (M.1 39 2) ≤ x5 then (
    if 600 ≤ (M.1 39 2) then (
      some M
    ) else (
      if ix_ok (M.1 39 2) 600 then (
      sq_ (mm_sl M 40 (M.1 39 2).toNatClampNeg x1) fun M8 =>
      if ix_ok (M8.1 39 2) 600 then (
      sq_ (mm_sl M8 41 (M8.1 39 2).toNatClampNeg x3) fun M10 =>
      sq_ (mm_si M10 39 2 ((M10.1 39 2) + 1)) fun M11 =>
      some M11
      ) else none ) else none
    )
  ) else (
    if ix_ok x5 600 then (
    if ix_ok x5 600 then (
    sq_ (mm_sl M 41 x5.toNatClampNeg ((M.2.1 41 x5.toNatClampNeg) + x3)) fun M14 =>
    some M14
    ) else none ) else none
  )
def f_X10_add_3 (q3 : Int64 → Int64 → Int32 → mm_M → Option mm_M) (x1 : Int64) (x3 : Int64) (x5 : Int32) (M : mm_M) : Option mm_M :=
  if (M.1 39 2) ≤ x5 then (
    f_X10_add_30 x1 x3 x5 M
  ) else (
    if ix_ok x5 600 then (
    if (M.2.1 40 x5.toNatClampNeg) = x1 then (
      f_X10_add_30 x1 x3 x5 M
    ) else (
      sq_ (x5 + 1 : Int32) fun y4 =>
      q3 x1 x3 y4 M
    )
    ) else none
  )
def f_X10_add_3l : Nat → Int64 → Int64 → Int32 → mm_M → Option mm_M
  | 0, _, _, _, _ => none
  | n + 1, x1, x3, x5, M => f_X10_add_3 (f_X10_add_3l n) x1 x3 x5 M
def f_X10_add (x1 : Int64) (x3 : Int64) (M : mm_M) : Option mm_M :=
  f_X10_add_3l fu_ x1 x3 (0 : Int32) M
theorem mo_X10_add_30 {z : mm_M} {x1 : Int64} {x3 : Int64} {x5 : Int32} {M : mm_M} (hf : f_X10_add_30 x1 x3 x5 M = some z) : M.2.2 ≤ z.2.2 := by
  unfold f_X10_add_30 at hf
  by_cases c5 : (M.1 39 2) ≤ x5
  · rw [if_pos c5] at hf
    by_cases c6 : 600 ≤ (M.1 39 2)
    · rw [if_pos c6] at hf
      rw [← Option.some.inj hf]; show M.2.2 ≤ M.2.2; exact Nat.le_refl _
    · rw [if_neg c6] at hf
      obtain ⟨h7, hf⟩ := ck_e hf
      obtain ⟨M8, eM8, hf⟩ := sq_e hf
      have mM8 : M.2.2 ≤ M8.2.2 := by rw [eM8]; exact Nat.le_refl _
      obtain ⟨h9, hf⟩ := ck_e hf
      obtain ⟨M10, eM10, hf⟩ := sq_e hf
      have mM10 : M8.2.2 ≤ M10.2.2 := by rw [eM10]; exact Nat.le_refl _
      obtain ⟨M11, eM11, hf⟩ := sq_e hf
      have mM11 : M10.2.2 ≤ M11.2.2 := by rw [eM11]; exact Nat.le_refl _
      rw [← Option.some.inj hf]; show M.2.2 ≤ M11.2.2; omega
  · rw [if_neg c5] at hf
    obtain ⟨h12, hf⟩ := ck_e hf
    obtain ⟨h13, hf⟩ := ck_e hf
    obtain ⟨M14, eM14, hf⟩ := sq_e hf
    have mM14 : M.2.2 ≤ M14.2.2 := by rw [eM14]; exact Nat.le_refl _
    rw [← Option.some.inj hf]; show M.2.2 ≤ M14.2.2; omega
theorem mo_X10_add_3 {z : mm_M} {x1 : Int64} {x3 : Int64} {x5 : Int32} {M : mm_M} {q3 : Int64 → Int64 → Int32 → mm_M → Option mm_M} (hq3 : ∀ (x1 : Int64) (x3 : Int64) (x5 : Int32) (M : mm_M), q3 x1 x3 x5 M = some z → M.2.2 ≤ z.2.2) (hf : f_X10_add_3 q3 x1 x3 x5 M = some z) : M.2.2 ≤ z.2.2 := by
  unfold f_X10_add_3 at hf
  by_cases c1 : (M.1 39 2) ≤ x5
  · rw [if_pos c1] at hf
    have hj := mo_X10_add_30 hf; omega
  · rw [if_neg c1] at hf
    obtain ⟨h2, hf⟩ := ck_e hf
    by_cases c3 : (M.2.1 40 x5.toNatClampNeg) = x1
    · rw [if_pos c3] at hf
      have hj := mo_X10_add_30 hf; omega
    · rw [if_neg c3] at hf
      obtain ⟨y4, ey4, hf⟩ := sq_e hf
      have hj := hq3 _ _ _ _ hf; omega
theorem mo_X10_add_3l {z : mm_M} : ∀ (n : Nat) (x1 : Int64) (x3 : Int64) (x5 : Int32) (M : mm_M), f_X10_add_3l n x1 x3 x5 M = some z → M.2.2 ≤ z.2.2 := by
  intro n
  induction n with
  | zero => intro x1 x3 x5 M hf; exact absurd hf (by simp [f_X10_add_3l])
  | succ n ih => intro x1 x3 x5 M hf; exact mo_X10_add_3 ih hf
theorem mo_X10_add {z : mm_M} {x1 : Int64} {x3 : Int64} {M : mm_M} (hf : f_X10_add x1 x3 M = some z) : M.2.2 ≤ z.2.2 := by
  unfold f_X10_add at hf
  have hj := mo_X10_add_3l fu_ _ _ _ _ hf; omega
def f_X10_heaviest_30 (q4 : Int32 → Int32 → Option Int32) (x1 : Int32) (x2 : Int32) (M : mm_M) : Option Int32 :=
  sq_ (x2 + 1 : Int32) fun y5 =>
  q4 x1 y5
def f_X10_heaviest_4 (q4 : Int32 → Int32 → Option Int32) (x1 : Int32) (x2 : Int32) (M : mm_M) : Option Int32 :=
  if (M.1 39 2) ≤ x2 then (
    some x1
  ) else (
    if ix_ok x2 600 then (
    if ix_ok x1 600 then (
    if (M.2.1 41 x2.toNatClampNeg) ≤ (M.2.1 41 x1.toNatClampNeg) then (
      f_X10_heaviest_30 q4 x1 x2 M
    ) else (
      f_X10_heaviest_30 q4 x2 x2 M
    )
    ) else none ) else none
  )
def f_X10_heaviest_4l (M : mm_M) : Nat → Int32 → Int32 → Option Int32
  | 0, _, _ => none
  | n + 1, x1, x2 => f_X10_heaviest_4 (f_X10_heaviest_4l M n) x1 x2 M
def f_X10_heaviest (M : mm_M) : Option Int32 :=
  f_X10_heaviest_4l M fu_ (0 : Int32) (1 : Int32)
def f_X10_shortest_5 (q5 : Int32 → Int32 → Option Int32) (x1 : Int32) (x2 : Int32) (M : mm_M) : Option Int32 :=
  if (M.1 39 2) ≤ x2 then (
    some x1
  ) else (
    if ix_ok x2 600 then (
    sq_ (f_X0_lengthOf (M.2.1 40 x2.toNatClampNeg)) fun z3 =>
    sq_ ((if z3 < x1 then z3 else x1) : Int32) fun y4 =>
    sq_ (x2 + 1 : Int32) fun y5 =>
    q5 y4 y5
    ) else none
  )
def f_X10_shortest_5l (M : mm_M) : Nat → Int32 → Int32 → Option Int32
  | 0, _, _ => none
  | n + 1, x1, x2 => f_X10_shortest_5 (f_X10_shortest_5l M n) x1 x2 M
def f_X10_shortest (M : mm_M) : Option Int32 :=
  f_X10_shortest_5l M fu_ (8 : Int32) (0 : Int32)
def f_X10_longest_4 (q4 : Int32 → Int32 → Option Int32) (x1 : Int32) (x2 : Int32) (M : mm_M) : Option Int32 :=
  if (M.1 39 2) ≤ x2 then (
    some x1
  ) else (
    if ix_ok x2 600 then (
    sq_ (f_X0_lengthOf (M.2.1 40 x2.toNatClampNeg)) fun z3 =>
    sq_ ((if x1 < z3 then z3 else x1) : Int32) fun y4 =>
    sq_ (x2 + 1 : Int32) fun y5 =>
    q4 y4 y5
    ) else none
  )
def f_X10_longest_4l (M : mm_M) : Nat → Int32 → Int32 → Option Int32
  | 0, _, _ => none
  | n + 1, x1, x2 => f_X10_longest_4 (f_X10_longest_4l M n) x1 x2 M
def f_X10_longest (M : mm_M) : Option Int32 :=
  f_X10_longest_4l M fu_ (0 : Int32) (0 : Int32)
def f_X8_takes_16 (q16 : Int32 → Int32 → mm_M → Option (Int32 × mm_M)) (x1 : Int32) (x2 : Int32) (M : mm_M) : Option (Int32 × mm_M) :=
  if x2 < 0 then (
    some ((1 : Int32), M)
  ) else (
    if ix_ok (M.1 1 1) 40 then (
    sq_ (mm_si M 2 (M.1 1 1).toNatClampNeg ((x1 >>> (x2 &&& 31)) &&& 255)) fun M4 =>
    sq_ (mm_si M4 1 1 ((M4.1 1 1) + 1)) fun M5 =>
    sq_ (x2 + (-8) : Int32) fun y6 =>
    q16 x1 y6 M5
    ) else none
  )
def f_X8_takes_16l : Nat → Int32 → Int32 → mm_M → Option (Int32 × mm_M)
  | 0, _, _, _ => none
  | n + 1, x1, x2, M => f_X8_takes_16 (f_X8_takes_16l n) x1 x2 M
def f_X8_takes (x1 : Int32) (M : mm_M) : Option (Int32 × mm_M) :=
  if ((M.1 1 1) + 4) ≤ 40 then (
    f_X8_takes_16l fu_ x1 (24 : Int32) M
  ) else (
    some ((0 : Int32), M)
  )
theorem mo_X8_takes_16 {z : (Int32 × mm_M)} {x1 : Int32} {x2 : Int32} {M : mm_M} {q16 : Int32 → Int32 → mm_M → Option (Int32 × mm_M)} (hq16 : ∀ (x1 : Int32) (x2 : Int32) (M : mm_M), q16 x1 x2 M = some z → M.2.2 ≤ z.2.2.2) (hf : f_X8_takes_16 q16 x1 x2 M = some z) : M.2.2 ≤ z.2.2.2 := by
  unfold f_X8_takes_16 at hf
  by_cases c2 : x2 < 0
  · rw [if_pos c2] at hf
    rw [← Option.some.inj hf]; show M.2.2 ≤ M.2.2; exact Nat.le_refl _
  · rw [if_neg c2] at hf
    obtain ⟨h3, hf⟩ := ck_e hf
    obtain ⟨M4, eM4, hf⟩ := sq_e hf
    have mM4 : M.2.2 ≤ M4.2.2 := by rw [eM4]; exact Nat.le_refl _
    obtain ⟨M5, eM5, hf⟩ := sq_e hf
    have mM5 : M4.2.2 ≤ M5.2.2 := by rw [eM5]; exact Nat.le_refl _
    obtain ⟨y6, ey6, hf⟩ := sq_e hf
    have hj := hq16 _ _ _ hf; omega
theorem mo_X8_takes_16l {z : (Int32 × mm_M)} : ∀ (n : Nat) (x1 : Int32) (x2 : Int32) (M : mm_M), f_X8_takes_16l n x1 x2 M = some z → M.2.2 ≤ z.2.2.2 := by
  intro n
  induction n with
  | zero => intro x1 x2 M hf; exact absurd hf (by simp [f_X8_takes_16l])
  | succ n ih => intro x1 x2 M hf; exact mo_X8_takes_16 ih hf
theorem mo_X8_takes {z : (Int32 × mm_M)} {x1 : Int32} {M : mm_M} (hf : f_X8_takes x1 M = some z) : M.2.2 ≤ z.2.2.2 := by
  unfold f_X8_takes at hf
  by_cases c1 : ((M.1 1 1) + 4) ≤ 40
  · rw [if_pos c1] at hf
    have hj := mo_X8_takes_16l fu_ _ _ _ hf; omega
  · rw [if_neg c1] at hf
    rw [← Option.some.inj hf]; show M.2.2 ≤ M.2.2; exact Nat.le_refl _
theorem bz_X8_takes_16 {z : (Int32 × mm_M)} {x1 : Int32} {x2 : Int32} {M : mm_M} {q16 : Int32 → Int32 → mm_M → Option (Int32 × mm_M)} (hq16 : ∀ (x1 : Int32) (x2 : Int32) (M : mm_M), q16 x1 x2 M = some z → z.1 = 0 ∨ z.1 = 1) (hf : f_X8_takes_16 q16 x1 x2 M = some z) : z.1 = 0 ∨ z.1 = 1 := by
  unfold f_X8_takes_16 at hf
  by_cases c2 : x2 < 0
  · rw [if_pos c2] at hf
    rw [← Option.some.inj hf]; exact (Or.inr rfl)
  · rw [if_neg c2] at hf
    obtain ⟨h3, hf⟩ := ck_e hf
    obtain ⟨M4, eM4, hf⟩ := sq_e hf
    obtain ⟨M5, eM5, hf⟩ := sq_e hf
    obtain ⟨y6, ey6, hf⟩ := sq_e hf
    exact hq16 _ _ _ hf
theorem bz_X8_takes_16l {z : (Int32 × mm_M)} : ∀ (n : Nat) (x1 : Int32) (x2 : Int32) (M : mm_M), f_X8_takes_16l n x1 x2 M = some z → z.1 = 0 ∨ z.1 = 1 := by
  intro n
  induction n with
  | zero => intro x1 x2 M hf; exact absurd hf (by simp [f_X8_takes_16l])
  | succ n ih => intro x1 x2 M hf; exact bz_X8_takes_16 ih hf
theorem bz_X8_takes {z : (Int32 × mm_M)} {x1 : Int32} {M : mm_M} (hf : f_X8_takes x1 M = some z) : z.1 = 0 ∨ z.1 = 1 := by
  unfold f_X8_takes at hf
  by_cases c1 : ((M.1 1 1) + 4) ≤ 40
  · rw [if_pos c1] at hf
    exact bz_X8_takes_16l fu_ _ _ _ hf
  · rw [if_neg c1] at hf
    rw [← Option.some.inj hf]; exact (Or.inl rfl)
def f_X11_sign (x1 : Int32) (M : mm_M) : Option (Int32 × mm_M) :=
  (f_X8_takes x1 M).bind fun z1 =>
  if z1.1 = 0 then (
    some (((-1) : Int32), z1.2)
  ) else (
    some ((z1.2.1 1 1), z1.2)
  )
theorem mo_X11_sign {z : (Int32 × mm_M)} {x1 : Int32} {M : mm_M} (hf : f_X11_sign x1 M = some z) : M.2.2 ≤ z.2.2.2 := by
  unfold f_X11_sign at hf
  obtain ⟨z1, ez1, hf⟩ := bd_e hf
  have mz1 : M.2.2 ≤ z1.2.2.2 := mo_X8_takes ez1
  by_cases c2 : z1.1 = 0
  · rw [if_pos c2] at hf
    rw [← Option.some.inj hf]; show M.2.2 ≤ z1.2.2.2; omega
  · rw [if_neg c2] at hf
    rw [← Option.some.inj hf]; show M.2.2 ≤ z1.2.2.2; omega
def f_X8_cutTo (x1 : Int32) (M : mm_M) : (Int32 × mm_M) :=
  if x1 < 0 then (
    ((0 : Int32), M)
  ) else (
    if x1 ≤ (M.1 1 1) then (
      sq_ (mm_si M 1 1 x1) fun M3 =>
      ((1 : Int32), M3)
    ) else (
      ((0 : Int32), M)
    )
  )
theorem mo_X8_cutTo {z : (Int32 × mm_M)} {x1 : Int32} {M : mm_M} (hf : f_X8_cutTo x1 M = z) : M.2.2 ≤ z.2.2.2 := by
  unfold f_X8_cutTo at hf
  by_cases c1 : x1 < 0
  · rw [if_pos c1] at hf
    rw [← hf]; show M.2.2 ≤ M.2.2; exact Nat.le_refl _
  · rw [if_neg c1] at hf
    by_cases c2 : x1 ≤ (M.1 1 1)
    · rw [if_pos c2] at hf
      obtain ⟨M3, eM3, hf⟩ := sq_e hf
      have mM3 : M.2.2 ≤ M3.2.2 := by rw [eM3]; exact Nat.le_refl _
      rw [← hf]; show M.2.2 ≤ M3.2.2; omega
    · rw [if_neg c2] at hf
      rw [← hf]; show M.2.2 ≤ M.2.2; exact Nat.le_refl _
theorem bz_X8_cutTo {z : (Int32 × mm_M)} {x1 : Int32} {M : mm_M} (hf : f_X8_cutTo x1 M = z) : z.1 = 0 ∨ z.1 = 1 := by
  unfold f_X8_cutTo at hf
  by_cases c1 : x1 < 0
  · rw [if_pos c1] at hf
    rw [← hf]; exact (Or.inl rfl)
  · rw [if_neg c1] at hf
    by_cases c2 : x1 ≤ (M.1 1 1)
    · rw [if_pos c2] at hf
      obtain ⟨M3, eM3, hf⟩ := sq_e hf
      rw [← hf]; exact (Or.inr rfl)
    · rw [if_neg c2] at hf
      rw [← hf]; exact (Or.inl rfl)
def f_X11_end (x1 : Int32) (M : mm_M) : (Int32 × mm_M) :=
  sq_ (f_X8_cutTo x1 M) fun z1 =>
  (z1.1, z1.2)
theorem mo_X11_end {z : (Int32 × mm_M)} {x1 : Int32} {M : mm_M} (hf : f_X11_end x1 M = z) : M.2.2 ≤ z.2.2.2 := by
  unfold f_X11_end at hf
  obtain ⟨z1, ez1, hf⟩ := sq_e hf
  have mz1 : M.2.2 ≤ z1.2.2.2 := mo_X8_cutTo ez1.symm
  rw [← hf]; show M.2.2 ≤ z1.2.2.2; omega
theorem bz_X11_end {z : (Int32 × mm_M)} {x1 : Int32} {M : mm_M} (hf : f_X11_end x1 M = z) : z.1 = 0 ∨ z.1 = 1 := by
  unfold f_X11_end at hf
  obtain ⟨z1, ez1, hf⟩ := sq_e hf
  rw [← hf]; exact (bz_X8_cutTo ez1.symm)
def f_X11_isBelow (x0 : Int32) (x1 : Int32) : Int32 :=
  if x0 < 0 then (
    (0 : Int32)
  ) else (
    if x1 ≤ x0 then (
      (0 : Int32)
    ) else (
      (1 : Int32)
    )
  )
theorem bz_X11_isBelow {z : Int32} {x0 : Int32} {x1 : Int32} (hf : f_X11_isBelow x0 x1 = z) : z = 0 ∨ z = 1 := by
  unfold f_X11_isBelow at hf
  by_cases c1 : x0 < 0
  · rw [if_pos c1] at hf
    rw [← hf]; exact (Or.inl rfl)
  · rw [if_neg c1] at hf
    by_cases c2 : x1 ≤ x0
    · rw [if_pos c2] at hf
      rw [← hf]; exact (Or.inl rfl)
    · rw [if_neg c2] at hf
      rw [← hf]; exact (Or.inr rfl)
def f_X8_isSound (x0 : Int32) : Int32 :=
  if x0 < 97 then (
    (0 : Int32)
  ) else (
    if 112 < x0 then (
      (0 : Int32)
    ) else (
      (1 : Int32)
    )
  )
theorem bz_X8_isSound {z : Int32} {x0 : Int32} (hf : f_X8_isSound x0 = z) : z = 0 ∨ z = 1 := by
  unfold f_X8_isSound at hf
  by_cases c1 : x0 < 97
  · rw [if_pos c1] at hf
    rw [← hf]; exact (Or.inl rfl)
  · rw [if_neg c1] at hf
    by_cases c2 : 112 < x0
    · rw [if_pos c2] at hf
      rw [← hf]; exact (Or.inl rfl)
    · rw [if_neg c2] at hf
      rw [← hf]; exact (Or.inr rfl)
def f_X2_setOf (x0 : Int32) (M : mm_M) : Option Int32 :=
  if x0 = (-1) then (
    some (131071 : Int32)
  ) else (
    if x0 = 35 then (
      some (65536 : Int32)
    ) else (
      sq_ (f_X8_isSound x0) fun z3 =>
      if z3 = 0 then (
        sq_ ((x0 - 65) : Int32) fun y5 =>
        sq_ (f_X11_isBelow y5 (6 : Int32)) fun z6 =>
        if z6 = 0 then (
          some (0 : Int32)
        ) else (
          if ix_ok y5 6 then (
          some (M.1 7 y5.toNatClampNeg)
          ) else none
        )
      ) else (
        some ((1 : Int32) <<< ((x0 - 97) &&& 31))
      )
    )
  )
def f_X2_tune (k0 : Nat) (M : mm_M) : Option mm_M :=
  (f_X2_setOf (M.1 k0 0) M).bind fun z1 =>
  sq_ (mm_si M k0 4 z1) fun M2 =>
  (f_X2_setOf (M2.1 k0 1) M2).bind fun z3 =>
  sq_ (mm_si M2 k0 5 z3) fun M4 =>
  (f_X2_setOf (M4.1 k0 2) M4).bind fun z5 =>
  sq_ (mm_si M4 k0 6 z5) fun M6 =>
  some M6
theorem mo_X2_tune {z : mm_M} {k0 : Nat} {M : mm_M} (hf : f_X2_tune k0 M = some z) : M.2.2 ≤ z.2.2 := by
  unfold f_X2_tune at hf
  obtain ⟨z1, ez1, hf⟩ := bd_e hf
  obtain ⟨M2, eM2, hf⟩ := sq_e hf
  have mM2 : M.2.2 ≤ M2.2.2 := by rw [eM2]; exact Nat.le_refl _
  obtain ⟨z3, ez3, hf⟩ := bd_e hf
  obtain ⟨M4, eM4, hf⟩ := sq_e hf
  have mM4 : M2.2.2 ≤ M4.2.2 := by rw [eM4]; exact Nat.le_refl _
  obtain ⟨z5, ez5, hf⟩ := bd_e hf
  obtain ⟨M6, eM6, hf⟩ := sq_e hf
  have mM6 : M4.2.2 ≤ M6.2.2 := by rw [eM6]; exact Nat.le_refl _
  rw [← Option.some.inj hf]; show M.2.2 ≤ M6.2.2; omega
def f_X9_forgetCourses_28 (M : mm_M) : Option mm_M :=
  sq_ (mm_si M 5 4 1) fun M6 =>
  some M6
def f_X9_forgetCourses_10 (q10 : Int32 → Int32 → mm_M → Option mm_M) (x1 : Int32) (x2 : Int32) (M : mm_M) : Option mm_M :=
  if x1 ≤ x2 then (
    f_X9_forgetCourses_28 M
  ) else (
    if ix_ok x2 (6 * M.2.2) then (
    sq_ (mm_si M 70 x2.toNatClampNeg 0) fun M4 =>
    sq_ (x2 + 1 : Int32) fun y5 =>
    q10 x1 y5 M4
    ) else none
  )
def f_X9_forgetCourses_10l : Nat → Int32 → Int32 → mm_M → Option mm_M
  | 0, _, _, _ => none
  | n + 1, x1, x2, M => f_X9_forgetCourses_10 (f_X9_forgetCourses_10l n) x1 x2 M
def f_X9_forgetCourses (M : mm_M) : Option mm_M :=
  sq_ (((M.1 5 4) * 6) : Int32) fun y1 =>
  f_X9_forgetCourses_10l fu_ y1 (0 : Int32) M
theorem mo_X9_forgetCourses_28 {z : mm_M} {M : mm_M} (hf : f_X9_forgetCourses_28 M = some z) : M.2.2 ≤ z.2.2 := by
  unfold f_X9_forgetCourses_28 at hf
  obtain ⟨M6, eM6, hf⟩ := sq_e hf
  have mM6 : M.2.2 ≤ M6.2.2 := by rw [eM6]; exact Nat.le_refl _
  rw [← Option.some.inj hf]; show M.2.2 ≤ M6.2.2; omega
theorem mo_X9_forgetCourses_10 {z : mm_M} {x1 : Int32} {x2 : Int32} {M : mm_M} {q10 : Int32 → Int32 → mm_M → Option mm_M} (hq10 : ∀ (x1 : Int32) (x2 : Int32) (M : mm_M), q10 x1 x2 M = some z → M.2.2 ≤ z.2.2) (hf : f_X9_forgetCourses_10 q10 x1 x2 M = some z) : M.2.2 ≤ z.2.2 := by
  unfold f_X9_forgetCourses_10 at hf
  by_cases c2 : x1 ≤ x2
  · rw [if_pos c2] at hf
    have hj := mo_X9_forgetCourses_28 hf; omega
  · rw [if_neg c2] at hf
    obtain ⟨h3, hf⟩ := ck_e hf
    obtain ⟨M4, eM4, hf⟩ := sq_e hf
    have mM4 : M.2.2 ≤ M4.2.2 := by rw [eM4]; exact Nat.le_refl _
    obtain ⟨y5, ey5, hf⟩ := sq_e hf
    have hj := hq10 _ _ _ hf; omega
theorem mo_X9_forgetCourses_10l {z : mm_M} : ∀ (n : Nat) (x1 : Int32) (x2 : Int32) (M : mm_M), f_X9_forgetCourses_10l n x1 x2 M = some z → M.2.2 ≤ z.2.2 := by
  intro n
  induction n with
  | zero => intro x1 x2 M hf; exact absurd hf (by simp [f_X9_forgetCourses_10l])
  | succ n ih => intro x1 x2 M hf; exact mo_X9_forgetCourses_10 ih hf
theorem mo_X9_forgetCourses {z : mm_M} {M : mm_M} (hf : f_X9_forgetCourses M = some z) : M.2.2 ≤ z.2.2 := by
  unfold f_X9_forgetCourses at hf
  obtain ⟨y1, ey1, hf⟩ := sq_e hf
  have hj := mo_X9_forgetCourses_10l fu_ _ _ _ hf; omega
def f_X9_setClass_36 (M : mm_M) : Option mm_M :=
  (f_X9_forgetCourses M).bind fun z7 =>
  some z7
def f_X9_setClass_9 (q9 : Int32 → mm_M → Option mm_M) (x3 : Int32) (M : mm_M) : Option mm_M :=
  if (M.1 5 1) ≤ x3 then (
    f_X9_setClass_36 M
  ) else (
    if ix_ok x3 6 then (
    (f_X2_tune (8 + x3.toNatClampNeg) M).bind fun z5 =>
    sq_ (x3 + 1 : Int32) fun y6 =>
    q9 y6 z5
    ) else none
  )
def f_X9_setClass_9l : Nat → Int32 → mm_M → Option mm_M
  | 0, _, _ => none
  | n + 1, x3, M => f_X9_setClass_9 (f_X9_setClass_9l n) x3 M
def f_X9_setClass (x1 : Int32) (x2 : Int32) (M : mm_M) : Option mm_M :=
  if ix_ok x1 6 then (
  sq_ (mm_si M 7 x1.toNatClampNeg x2) fun M2 =>
  f_X9_setClass_9l fu_ (0 : Int32) M2
  ) else none
theorem mo_X9_setClass_36 {z : mm_M} {M : mm_M} (hf : f_X9_setClass_36 M = some z) : M.2.2 ≤ z.2.2 := by
  unfold f_X9_setClass_36 at hf
  obtain ⟨z7, ez7, hf⟩ := bd_e hf
  have mz7 : M.2.2 ≤ z7.2.2 := mo_X9_forgetCourses ez7
  rw [← Option.some.inj hf]; show M.2.2 ≤ z7.2.2; omega
theorem mo_X9_setClass_9 {z : mm_M} {x3 : Int32} {M : mm_M} {q9 : Int32 → mm_M → Option mm_M} (hq9 : ∀ (x3 : Int32) (M : mm_M), q9 x3 M = some z → M.2.2 ≤ z.2.2) (hf : f_X9_setClass_9 q9 x3 M = some z) : M.2.2 ≤ z.2.2 := by
  unfold f_X9_setClass_9 at hf
  by_cases c3 : (M.1 5 1) ≤ x3
  · rw [if_pos c3] at hf
    have hj := mo_X9_setClass_36 hf; omega
  · rw [if_neg c3] at hf
    obtain ⟨h4, hf⟩ := ck_e hf
    obtain ⟨z5, ez5, hf⟩ := bd_e hf
    have mz5 : M.2.2 ≤ z5.2.2 := mo_X2_tune ez5
    obtain ⟨y6, ey6, hf⟩ := sq_e hf
    have hj := hq9 _ _ hf; omega
theorem mo_X9_setClass_9l {z : mm_M} : ∀ (n : Nat) (x3 : Int32) (M : mm_M), f_X9_setClass_9l n x3 M = some z → M.2.2 ≤ z.2.2 := by
  intro n
  induction n with
  | zero => intro x3 M hf; exact absurd hf (by simp [f_X9_setClass_9l])
  | succ n ih => intro x3 M hf; exact mo_X9_setClass_9 ih hf
theorem mo_X9_setClass {z : mm_M} {x1 : Int32} {x2 : Int32} {M : mm_M} (hf : f_X9_setClass x1 x2 M = some z) : M.2.2 ≤ z.2.2 := by
  unfold f_X9_setClass at hf
  obtain ⟨h1, hf⟩ := ck_e hf
  obtain ⟨M2, eM2, hf⟩ := sq_e hf
  have mM2 : M.2.2 ≤ M2.2.2 := by rw [eM2]; exact Nat.le_refl _
  have hj := mo_X9_setClass_9l fu_ _ _ hf; omega
def f_X6_doubtAll (M : mm_M) : mm_M :=
  sq_ (mm_si M 19 6 (((1 : Int32) <<< ((M.1 19 3) &&& 31)) - 1)) fun M1 =>
  M1
theorem mo_X6_doubtAll {z : mm_M} {M : mm_M} (hf : f_X6_doubtAll M = z) : M.2.2 ≤ z.2.2 := by
  unfold f_X6_doubtAll at hf
  obtain ⟨M1, eM1, hf⟩ := sq_e hf
  have mM1 : M.2.2 ≤ M1.2.2 := by rw [eM1]; exact Nat.le_refl _
  rw [← hf]; show M.2.2 ≤ M1.2.2; omega
def f_X11_group (x1 : Int32) (x2 : Int32) (M : mm_M) : Option (Int32 × mm_M) :=
  sq_ (f_X11_isBelow x1 (6 : Int32)) fun z1 =>
  if z1 = 0 then (
    some (((-1) : Int32), M)
  ) else (
    if x2 < 0 then (
      some (((-1) : Int32), M)
    ) else (
      if x2 ≤ 65535 then (
        if ix_ok x1 6 then (
        sq_ ((M.1 7 x1.toNatClampNeg) : Int32) fun y6 =>
        (f_X9_setClass x1 x2 M).bind fun z7 =>
        sq_ (f_X6_doubtAll z7) fun z8 =>
        some (y6, z8)
        ) else none
      ) else (
        some (((-1) : Int32), M)
      )
    )
  )
theorem mo_X11_group {z : (Int32 × mm_M)} {x1 : Int32} {x2 : Int32} {M : mm_M} (hf : f_X11_group x1 x2 M = some z) : M.2.2 ≤ z.2.2.2 := by
  unfold f_X11_group at hf
  obtain ⟨z1, ez1, hf⟩ := sq_e hf
  by_cases c2 : z1 = 0
  · rw [if_pos c2] at hf
    rw [← Option.some.inj hf]; show M.2.2 ≤ M.2.2; exact Nat.le_refl _
  · rw [if_neg c2] at hf
    by_cases c3 : x2 < 0
    · rw [if_pos c3] at hf
      rw [← Option.some.inj hf]; show M.2.2 ≤ M.2.2; exact Nat.le_refl _
    · rw [if_neg c3] at hf
      by_cases c4 : x2 ≤ 65535
      · rw [if_pos c4] at hf
        obtain ⟨h5, hf⟩ := ck_e hf
        obtain ⟨y6, ey6, hf⟩ := sq_e hf
        obtain ⟨z7, ez7, hf⟩ := bd_e hf
        have mz7 : M.2.2 ≤ z7.2.2 := mo_X9_setClass ez7
        obtain ⟨z8, ez8, hf⟩ := sq_e hf
        have mz8 : z7.2.2 ≤ z8.2.2 := mo_X6_doubtAll ez8.symm
        rw [← Option.some.inj hf]; show M.2.2 ≤ z8.2.2; omega
      · rw [if_neg c4] at hf
        rw [← Option.some.inj hf]; show M.2.2 ≤ M.2.2; exact Nat.le_refl _
def f_X8_firstNoWord_36 (M : mm_M) : Option Int32 :=
  if (M.1 1 1) = 0 then (
    some (0 : Int32)
  ) else (
    some ((-1) : Int32)
  )
def f_X8_firstNoWord_2 (q2 : Int32 → Option Int32) (x1 : Int32) (M : mm_M) : Option Int32 :=
  if (M.1 1 1) ≤ x1 then (
    f_X8_firstNoWord_36 M
  ) else (
    if x1 = 8 then (
      some x1
    ) else (
      if ix_ok x1 40 then (
      sq_ (f_X8_isSound (M.1 2 x1.toNatClampNeg)) fun z4 =>
      if z4 = 0 then (
        some x1
      ) else (
        sq_ (x1 + 1 : Int32) fun y6 =>
        q2 y6
      )
      ) else none
    )
  )
def f_X8_firstNoWord_2l (M : mm_M) : Nat → Int32 → Option Int32
  | 0, _ => none
  | n + 1, x1 => f_X8_firstNoWord_2 (f_X8_firstNoWord_2l M n) x1 M
def f_X8_firstNoWord (M : mm_M) : Option Int32 :=
  f_X8_firstNoWord_2l M fu_ (0 : Int32)
def f_X8_asForm_46 (x1 : Int32) (x2 : Int64) (M : mm_M) : Option Int64 :=
  sq_ (f_X0_of x2 x1) fun z6 =>
  some z6
def f_X8_asForm_15 (q15 : Int32 → Int64 → Int32 → Option Int64) (x1 : Int32) (x2 : Int64) (x4 : Int32) (M : mm_M) : Option Int64 :=
  if x1 ≤ x4 then (
    f_X8_asForm_46 x1 x2 M
  ) else (
    if ix_ok x4 40 then (
    sq_ ((x2 ||| ((((M.1 2 x4.toNatClampNeg) - 97).toInt64) <<< ((4 * x4).toInt64 &&& 63))) : Int64) fun y4 =>
    sq_ (x4 + 1 : Int32) fun y5 =>
    q15 x1 y4 y5
    ) else none
  )
def f_X8_asForm_15l (M : mm_M) : Nat → Int32 → Int64 → Int32 → Option Int64
  | 0, _, _, _ => none
  | n + 1, x1, x2, x4 => f_X8_asForm_15 (f_X8_asForm_15l M n) x1 x2 x4 M
def f_X8_asForm (M : mm_M) : Option Int64 :=
  sq_ ((if (8 : Int32) < (M.1 1 1) then (8 : Int32) else (M.1 1 1)) : Int32) fun y1 =>
  f_X8_asForm_15l M fu_ y1 (0 : Int64) (0 : Int32)
def f_X9_addWord (x1 : Int64) (M : mm_M) : Option (Int32 × mm_M) :=
  sq_ ((M.1 5 2) : Int32) fun y1 =>
  if ix_ok (0 + y1) (20 * M.2.2) then (
  sq_ (mm_sl M 71 (0 + y1).toNatClampNeg x1) fun M3 =>
  sq_ (mm_si M3 5 2 ((M3.1 5 2) + 1)) fun M4 =>
  (f_X9_forgetCourses M4).bind fun z5 =>
  some (y1, z5)
  ) else none
theorem mo_X9_addWord {z : (Int32 × mm_M)} {x1 : Int64} {M : mm_M} (hf : f_X9_addWord x1 M = some z) : M.2.2 ≤ z.2.2.2 := by
  unfold f_X9_addWord at hf
  obtain ⟨y1, ey1, hf⟩ := sq_e hf
  obtain ⟨h2, hf⟩ := ck_e hf
  obtain ⟨M3, eM3, hf⟩ := sq_e hf
  have mM3 : M.2.2 ≤ M3.2.2 := by rw [eM3]; exact Nat.le_refl _
  obtain ⟨M4, eM4, hf⟩ := sq_e hf
  have mM4 : M3.2.2 ≤ M4.2.2 := by rw [eM4]; exact Nat.le_refl _
  obtain ⟨z5, ez5, hf⟩ := bd_e hf
  have mz5 : M4.2.2 ≤ z5.2.2 := mo_X9_forgetCourses ez5
  rw [← Option.some.inj hf]; show M.2.2 ≤ z5.2.2; omega
def f_X11_wordFromText (M : mm_M) : Option (Int32 × mm_M) :=
  (f_X8_firstNoWord M).bind fun z1 =>
  if z1 = (-1) then (
    (f_X8_asForm M).bind fun z3 =>
    (f_X9_addWord z3 M).bind fun z4 =>
    some (z4.1, z4.2)
  ) else (
    some (((-1) - z1), M)
  )
theorem mo_X11_wordFromText {z : (Int32 × mm_M)} {M : mm_M} (hf : f_X11_wordFromText M = some z) : M.2.2 ≤ z.2.2.2 := by
  unfold f_X11_wordFromText at hf
  obtain ⟨z1, ez1, hf⟩ := bd_e hf
  by_cases c2 : z1 = (-1)
  · rw [if_pos c2] at hf
    obtain ⟨z3, ez3, hf⟩ := bd_e hf
    obtain ⟨z4, ez4, hf⟩ := bd_e hf
    have mz4 : M.2.2 ≤ z4.2.2.2 := mo_X9_addWord ez4
    rw [← Option.some.inj hf]; show M.2.2 ≤ z4.2.2.2; omega
  · rw [if_neg c2] at hf
    rw [← Option.some.inj hf]; show M.2.2 ≤ M.2.2; exact Nat.le_refl _
def f_X11_word_21 (t0 : Int32) (M : mm_M) : Option (Int32 × mm_M) :=
  sq_ (f_X8_cutTo (0 : Int32) M) fun z3 =>
  some (t0, z3.2)
def f_X11_word (M : mm_M) : Option (Int32 × mm_M) :=
  if (M.1 5 2) < 20 then (
    (f_X11_wordFromText M).bind fun z2 =>
    f_X11_word_21 z2.1 z2.2
  ) else (
    f_X11_word_21 ((-100) : Int32) M
  )
theorem mo_X11_word_21 {z : (Int32 × mm_M)} {t0 : Int32} {M : mm_M} (hf : f_X11_word_21 t0 M = some z) : M.2.2 ≤ z.2.2.2 := by
  unfold f_X11_word_21 at hf
  obtain ⟨z3, ez3, hf⟩ := sq_e hf
  have mz3 : M.2.2 ≤ z3.2.2.2 := mo_X8_cutTo ez3.symm
  rw [← Option.some.inj hf]; show M.2.2 ≤ z3.2.2.2; omega
theorem mo_X11_word {z : (Int32 × mm_M)} {M : mm_M} (hf : f_X11_word M = some z) : M.2.2 ≤ z.2.2.2 := by
  unfold f_X11_word at hf
  by_cases c1 : (M.1 5 2) < 20
  · rw [if_pos c1] at hf
    obtain ⟨z2, ez2, hf⟩ := bd_e hf
    have mz2 : M.2.2 ≤ z2.2.2.2 := mo_X11_wordFromText ez2
    have hj := mo_X11_word_21 hf; omega
  · rw [if_neg c1] at hf
    have hj := mo_X11_word_21 hf; omega
def f_X11_yearsOfLaw (x0 : Int32) (x1 : Int32) (x2 : Int32) : Option Int32 :=
  if x0 < 0 then (
    some (0 : Int32)
  ) else (
    if 400 < x1 then (
      some (0 : Int32)
    ) else (
      if x1 < x0 then (
        some (0 : Int32)
      ) else (
        if 1 ≤ x2 then (
          if ¬ x2 = 0 then (
          some (((x1 - x0) / x2) + 1)
          ) else none
        ) else (
          some (0 : Int32)
        )
      )
    )
  )
def f_X8_signAt (x1 : Int32) (M : mm_M) : Option Int32 :=
  if (M.1 1 1) ≤ x1 then (
    some ((-1) : Int32)
  ) else (
    if ix_ok x1 40 then (
    some (M.1 2 x1.toNatClampNeg)
    ) else none
  )
def f_X8_isSoundOrClass_19 : Int32 :=
  (1 : Int32)
def f_X8_isSoundOrClass (x0 : Int32) : Int32 :=
  sq_ (f_X8_isSound x0) fun z1 =>
  if z1 = 0 then (
    if x0 < 65 then (
      (0 : Int32)
    ) else (
      if 70 < x0 then (
        (0 : Int32)
      ) else (
        f_X8_isSoundOrClass_19
      )
    )
  ) else (
    f_X8_isSoundOrClass_19
  )
theorem bz_X8_isSoundOrClass_19 {z : Int32} (hf : f_X8_isSoundOrClass_19 = z) : z = 0 ∨ z = 1 := by
  unfold f_X8_isSoundOrClass_19 at hf
  rw [← hf]; exact (Or.inr rfl)
theorem bz_X8_isSoundOrClass {z : Int32} {x0 : Int32} (hf : f_X8_isSoundOrClass x0 = z) : z = 0 ∨ z = 1 := by
  unfold f_X8_isSoundOrClass at hf
  obtain ⟨z1, ez1, hf⟩ := sq_e hf
  by_cases c2 : z1 = 0
  · rw [if_pos c2] at hf
    by_cases c3 : x0 < 65
    · rw [if_pos c3] at hf
      rw [← hf]; exact (Or.inl rfl)
    · rw [if_neg c3] at hf
      by_cases c4 : 70 < x0
      · rw [if_pos c4] at hf
        rw [← hf]; exact (Or.inl rfl)
      · rw [if_neg c4] at hf
        exact bz_X8_isSoundOrClass_19 hf
  · rw [if_neg c2] at hf
    exact bz_X8_isSoundOrClass_19 hf
def f_X2_isSide_13 : Int32 :=
  (1 : Int32)
def f_X2_isSide (x0 : Int32) : Int32 :=
  if x0 = 35 then (
    f_X2_isSide_13
  ) else (
    sq_ (f_X8_isSoundOrClass x0) fun z2 =>
    if z2 = 0 then (
      (0 : Int32)
    ) else (
      f_X2_isSide_13
    )
  )
theorem bz_X2_isSide_13 {z : Int32} (hf : f_X2_isSide_13 = z) : z = 0 ∨ z = 1 := by
  unfold f_X2_isSide_13 at hf
  rw [← hf]; exact (Or.inr rfl)
theorem bz_X2_isSide {z : Int32} {x0 : Int32} (hf : f_X2_isSide x0 = z) : z = 0 ∨ z = 1 := by
  unfold f_X2_isSide at hf
  by_cases c1 : x0 = 35
  · rw [if_pos c1] at hf
    exact bz_X2_isSide_13 hf
  · rw [if_neg c1] at hf
    obtain ⟨z2, ez2, hf⟩ := sq_e hf
    by_cases c3 : z2 = 0
    · rw [if_pos c3] at hf
      rw [← hf]; exact (Or.inl rfl)
    · rw [if_neg c3] at hf
      exact bz_X2_isSide_13 hf
def f_X2_overAt (x1 : Int32) (M : mm_M) : Option Int32 :=
  (f_X8_signAt x1 M).bind fun z1 =>
  if z1 = (-1) then (
    some ((-1) : Int32)
  ) else (
    some x1
  )
def f_X2_readSides_63 (x3 : Int32) (M : mm_M) : Option (Int32 × mm_M) :=
  (f_X2_overAt x3 M).bind fun z16 =>
  some (z16, M)
def f_X2_readSides_25 (k0 : Nat) (x3 : Int32) (M : mm_M) : Option (Int32 × mm_M) :=
  (f_X8_signAt x3 M).bind fun z7 =>
  if z7 = 95 then (
    sq_ (x3 + 1 : Int32) fun y9 =>
    (f_X8_signAt y9 M).bind fun z10 =>
    sq_ (f_X2_isSide z10) fun z11 =>
    if z11 = 0 then (
      f_X2_readSides_63 y9 M
    ) else (
      (f_X8_signAt y9 M).bind fun z13 =>
      sq_ (mm_si M k0 2 z13) fun M14 =>
      sq_ (y9 + 1 : Int32) fun y15 =>
      f_X2_readSides_63 y15 M14
    )
  ) else (
    some (x3, M)
  )
def f_X2_readSides (k0 : Nat) (x2 : Int32) (M : mm_M) : Option (Int32 × mm_M) :=
  (f_X8_signAt x2 M).bind fun z1 =>
  sq_ (f_X2_isSide z1) fun z2 =>
  if z2 = 0 then (
    f_X2_readSides_25 k0 x2 M
  ) else (
    (f_X8_signAt x2 M).bind fun z4 =>
    sq_ (mm_si M k0 1 z4) fun M5 =>
    sq_ (x2 + 1 : Int32) fun y6 =>
    f_X2_readSides_25 k0 y6 M5
  )
theorem mo_X2_readSides_63 {z : (Int32 × mm_M)} {x3 : Int32} {M : mm_M} (hf : f_X2_readSides_63 x3 M = some z) : M.2.2 ≤ z.2.2.2 := by
  unfold f_X2_readSides_63 at hf
  obtain ⟨z16, ez16, hf⟩ := bd_e hf
  rw [← Option.some.inj hf]; show M.2.2 ≤ M.2.2; exact Nat.le_refl _
theorem mo_X2_readSides_25 {z : (Int32 × mm_M)} {k0 : Nat} {x3 : Int32} {M : mm_M} (hf : f_X2_readSides_25 k0 x3 M = some z) : M.2.2 ≤ z.2.2.2 := by
  unfold f_X2_readSides_25 at hf
  obtain ⟨z7, ez7, hf⟩ := bd_e hf
  by_cases c8 : z7 = 95
  · rw [if_pos c8] at hf
    obtain ⟨y9, ey9, hf⟩ := sq_e hf
    obtain ⟨z10, ez10, hf⟩ := bd_e hf
    obtain ⟨z11, ez11, hf⟩ := sq_e hf
    by_cases c12 : z11 = 0
    · rw [if_pos c12] at hf
      have hj := mo_X2_readSides_63 hf; omega
    · rw [if_neg c12] at hf
      obtain ⟨z13, ez13, hf⟩ := bd_e hf
      obtain ⟨M14, eM14, hf⟩ := sq_e hf
      have mM14 : M.2.2 ≤ M14.2.2 := by rw [eM14]; exact Nat.le_refl _
      obtain ⟨y15, ey15, hf⟩ := sq_e hf
      have hj := mo_X2_readSides_63 hf; omega
  · rw [if_neg c8] at hf
    rw [← Option.some.inj hf]; show M.2.2 ≤ M.2.2; exact Nat.le_refl _
theorem mo_X2_readSides {z : (Int32 × mm_M)} {k0 : Nat} {x2 : Int32} {M : mm_M} (hf : f_X2_readSides k0 x2 M = some z) : M.2.2 ≤ z.2.2.2 := by
  unfold f_X2_readSides at hf
  obtain ⟨z1, ez1, hf⟩ := bd_e hf
  obtain ⟨z2, ez2, hf⟩ := sq_e hf
  by_cases c3 : z2 = 0
  · rw [if_pos c3] at hf
    have hj := mo_X2_readSides_25 hf; omega
  · rw [if_neg c3] at hf
    obtain ⟨z4, ez4, hf⟩ := bd_e hf
    obtain ⟨M5, eM5, hf⟩ := sq_e hf
    have mM5 : M.2.2 ≤ M5.2.2 := by rw [eM5]; exact Nat.le_refl _
    obtain ⟨y6, ey6, hf⟩ := sq_e hf
    have hj := mo_X2_readSides_25 hf; omega
def f_X2_read_66 (k0 : Nat) (x2 : Int32) (M : mm_M) : Option (Int32 × mm_M) :=
  sq_ (mm_si M k0 1 (-1)) fun M14 =>
  sq_ (mm_si M14 k0 2 (-1)) fun M15 =>
  (f_X8_signAt x2 M15).bind fun z16 =>
  if z16 = 47 then (
    (f_X2_readSides k0 (x2 + 1) M15).bind fun z19 =>
    some (z19.1, z19.2)
  ) else (
    (f_X2_overAt x2 M15).bind fun z18 =>
    some (z18, M15)
  )
def f_X2_read (k0 : Nat) (M : mm_M) : Option (Int32 × mm_M) :=
  (f_X8_signAt (0 : Int32) M).bind fun z1 =>
  sq_ (mm_si M k0 0 z1) fun M2 =>
  sq_ (f_X8_isSoundOrClass (M2.1 k0 0)) fun z3 =>
  if z3 = 0 then (
    some ((0 : Int32), M2)
  ) else (
    (f_X8_signAt (1 : Int32) M2).bind fun z5 =>
    if z5 = 62 then (
      sq_ (mm_si M2 k0 3 (-1)) fun M7 =>
      (f_X8_signAt (2 : Int32) M7).bind fun z8 =>
      sq_ (f_X8_isSound z8) fun z9 =>
      if z9 = 0 then (
        f_X2_read_66 k0 (2 : Int32) M7
      ) else (
        (f_X8_signAt (2 : Int32) M7).bind fun z11 =>
        sq_ (mm_si M7 k0 3 (z11 - 97)) fun M12 =>
        sq_ (2 + 1 : Int32) fun y13 =>
        f_X2_read_66 k0 y13 M12
      )
    ) else (
      some ((1 : Int32), M2)
    )
  )
theorem mo_X2_read_66 {z : (Int32 × mm_M)} {k0 : Nat} {x2 : Int32} {M : mm_M} (hf : f_X2_read_66 k0 x2 M = some z) : M.2.2 ≤ z.2.2.2 := by
  unfold f_X2_read_66 at hf
  obtain ⟨M14, eM14, hf⟩ := sq_e hf
  have mM14 : M.2.2 ≤ M14.2.2 := by rw [eM14]; exact Nat.le_refl _
  obtain ⟨M15, eM15, hf⟩ := sq_e hf
  have mM15 : M14.2.2 ≤ M15.2.2 := by rw [eM15]; exact Nat.le_refl _
  obtain ⟨z16, ez16, hf⟩ := bd_e hf
  by_cases c17 : z16 = 47
  · rw [if_pos c17] at hf
    obtain ⟨z19, ez19, hf⟩ := bd_e hf
    have mz19 : M15.2.2 ≤ z19.2.2.2 := mo_X2_readSides ez19
    rw [← Option.some.inj hf]; show M.2.2 ≤ z19.2.2.2; omega
  · rw [if_neg c17] at hf
    obtain ⟨z18, ez18, hf⟩ := bd_e hf
    rw [← Option.some.inj hf]; show M.2.2 ≤ M15.2.2; omega
theorem mo_X2_read {z : (Int32 × mm_M)} {k0 : Nat} {M : mm_M} (hf : f_X2_read k0 M = some z) : M.2.2 ≤ z.2.2.2 := by
  unfold f_X2_read at hf
  obtain ⟨z1, ez1, hf⟩ := bd_e hf
  obtain ⟨M2, eM2, hf⟩ := sq_e hf
  have mM2 : M.2.2 ≤ M2.2.2 := by rw [eM2]; exact Nat.le_refl _
  obtain ⟨z3, ez3, hf⟩ := sq_e hf
  by_cases c4 : z3 = 0
  · rw [if_pos c4] at hf
    rw [← Option.some.inj hf]; show M.2.2 ≤ M2.2.2; omega
  · rw [if_neg c4] at hf
    obtain ⟨z5, ez5, hf⟩ := bd_e hf
    by_cases c6 : z5 = 62
    · rw [if_pos c6] at hf
      obtain ⟨M7, eM7, hf⟩ := sq_e hf
      have mM7 : M2.2.2 ≤ M7.2.2 := by rw [eM7]; exact Nat.le_refl _
      obtain ⟨z8, ez8, hf⟩ := bd_e hf
      obtain ⟨z9, ez9, hf⟩ := sq_e hf
      by_cases c10 : z9 = 0
      · rw [if_pos c10] at hf
        have hj := mo_X2_read_66 hf; omega
      · rw [if_neg c10] at hf
        obtain ⟨z11, ez11, hf⟩ := bd_e hf
        obtain ⟨M12, eM12, hf⟩ := sq_e hf
        have mM12 : M7.2.2 ≤ M12.2.2 := by rw [eM12]; exact Nat.le_refl _
        obtain ⟨y13, ey13, hf⟩ := sq_e hf
        have hj := mo_X2_read_66 hf; omega
    · rw [if_neg c6] at hf
      rw [← Option.some.inj hf]; show M.2.2 ≤ M2.2.2; omega
def f_X9_addLaw (M : mm_M) : Option (Int32 × mm_M) :=
  sq_ ((M.1 5 1) : Int32) fun y1 =>
  if ix_ok y1 6 then (
  (f_X2_tune (8 + y1.toNatClampNeg) M).bind fun z3 =>
  sq_ (mm_si z3 5 1 ((z3.1 5 1) + 1)) fun M4 =>
  some (y1, M4)
  ) else none
theorem mo_X9_addLaw {z : (Int32 × mm_M)} {M : mm_M} (hf : f_X9_addLaw M = some z) : M.2.2 ≤ z.2.2.2 := by
  unfold f_X9_addLaw at hf
  obtain ⟨y1, ey1, hf⟩ := sq_e hf
  obtain ⟨h2, hf⟩ := ck_e hf
  obtain ⟨z3, ez3, hf⟩ := bd_e hf
  have mz3 : M.2.2 ≤ z3.2.2 := mo_X2_tune ez3
  obtain ⟨M4, eM4, hf⟩ := sq_e hf
  have mM4 : z3.2.2 ≤ M4.2.2 := by rw [eM4]; exact Nat.le_refl _
  rw [← Option.some.inj hf]; show M.2.2 ≤ M4.2.2; omega
def f_X3_yearIn (x0 : Int64) (x2 : Int32) : Int32 :=
  (((x0 >>> ((9 * x2).toInt64 &&& 63)).toInt32) &&& 511)
def f_X3_insert_29 (x1 : Int32) (x2 : Int32) (x3 : Int64) (x5 : Int32) (x6 : Int32) (M : mm_M) : Option mm_M :=
  sq_ ((3 * x6) : Int32) fun y5 =>
  sq_ ((9 * x6) : Int32) fun y6 =>
  if ix_ok x1 600 then (
  sq_ (mm_si M 16 x1.toNatClampNeg (((x2 &&& (((1 : Int32) <<< (y5 &&& 31)) - 1)) ||| ((M.1 14 3) <<< (y5 &&& 31))) ||| ((x2 >>> (y5 &&& 31)) <<< ((y5 + 3) &&& 31)))) fun M8 =>
  if ix_ok x1 600 then (
  sq_ (mm_sl M8 17 x1.toNatClampNeg (((x3 &&& (((1 : Int64) <<< (y6.toInt64 &&& 63)) - 1)) ||| ((x5.toInt64) <<< (y6.toInt64 &&& 63))) ||| ((x3 >>> (y6.toInt64 &&& 63)) <<< ((y6 + 9).toInt64 &&& 63)))) fun M10 =>
  some M10
  ) else none ) else none
def f_X3_insert_3 (q3 : Int32 → Int32 → Int64 → Int32 → Int32 → mm_M → Option mm_M) (x1 : Int32) (x2 : Int32) (x3 : Int64) (x5 : Int32) (x6 : Int32) (M : mm_M) : Option mm_M :=
  if (M.1 14 3) ≤ x6 then (
    f_X3_insert_29 x1 x2 x3 x5 x6 M
  ) else (
    sq_ (f_X3_yearIn x3 x6) fun z2 =>
    if x5 < z2 then (
      f_X3_insert_29 x1 x2 x3 x5 x6 M
    ) else (
      sq_ (x6 + 1 : Int32) fun y4 =>
      q3 x1 x2 x3 x5 y4 M
    )
  )
def f_X3_insert_3l : Nat → Int32 → Int32 → Int64 → Int32 → Int32 → mm_M → Option mm_M
  | 0, _, _, _, _, _, _ => none
  | n + 1, x1, x2, x3, x5, x6, M => f_X3_insert_3 (f_X3_insert_3l n) x1 x2 x3 x5 x6 M
def f_X3_insert (x1 : Int32) (x2 : Int32) (x3 : Int64) (x5 : Int32) (M : mm_M) : Option mm_M :=
  f_X3_insert_3l fu_ x1 x2 x3 x5 (0 : Int32) M
theorem mo_X3_insert_29 {z : mm_M} {x1 : Int32} {x2 : Int32} {x3 : Int64} {x5 : Int32} {x6 : Int32} {M : mm_M} (hf : f_X3_insert_29 x1 x2 x3 x5 x6 M = some z) : M.2.2 ≤ z.2.2 := by
  unfold f_X3_insert_29 at hf
  obtain ⟨y5, ey5, hf⟩ := sq_e hf
  obtain ⟨y6, ey6, hf⟩ := sq_e hf
  obtain ⟨h7, hf⟩ := ck_e hf
  obtain ⟨M8, eM8, hf⟩ := sq_e hf
  have mM8 : M.2.2 ≤ M8.2.2 := by rw [eM8]; exact Nat.le_refl _
  obtain ⟨h9, hf⟩ := ck_e hf
  obtain ⟨M10, eM10, hf⟩ := sq_e hf
  have mM10 : M8.2.2 ≤ M10.2.2 := by rw [eM10]; exact Nat.le_refl _
  rw [← Option.some.inj hf]; show M.2.2 ≤ M10.2.2; omega
theorem mo_X3_insert_3 {z : mm_M} {x1 : Int32} {x2 : Int32} {x3 : Int64} {x5 : Int32} {x6 : Int32} {M : mm_M} {q3 : Int32 → Int32 → Int64 → Int32 → Int32 → mm_M → Option mm_M} (hq3 : ∀ (x1 : Int32) (x2 : Int32) (x3 : Int64) (x5 : Int32) (x6 : Int32) (M : mm_M), q3 x1 x2 x3 x5 x6 M = some z → M.2.2 ≤ z.2.2) (hf : f_X3_insert_3 q3 x1 x2 x3 x5 x6 M = some z) : M.2.2 ≤ z.2.2 := by
  unfold f_X3_insert_3 at hf
  by_cases c1 : (M.1 14 3) ≤ x6
  · rw [if_pos c1] at hf
    have hj := mo_X3_insert_29 hf; omega
  · rw [if_neg c1] at hf
    obtain ⟨z2, ez2, hf⟩ := sq_e hf
    by_cases c3 : x5 < z2
    · rw [if_pos c3] at hf
      have hj := mo_X3_insert_29 hf; omega
    · rw [if_neg c3] at hf
      obtain ⟨y4, ey4, hf⟩ := sq_e hf
      have hj := hq3 _ _ _ _ _ _ hf; omega
theorem mo_X3_insert_3l {z : mm_M} : ∀ (n : Nat) (x1 : Int32) (x2 : Int32) (x3 : Int64) (x5 : Int32) (x6 : Int32) (M : mm_M), f_X3_insert_3l n x1 x2 x3 x5 x6 M = some z → M.2.2 ≤ z.2.2 := by
  intro n
  induction n with
  | zero => intro x1 x2 x3 x5 x6 M hf; exact absurd hf (by simp [f_X3_insert_3l])
  | succ n ih => intro x1 x2 x3 x5 x6 M hf; exact mo_X3_insert_3 ih hf
theorem mo_X3_insert {z : mm_M} {x1 : Int32} {x2 : Int32} {x3 : Int64} {x5 : Int32} {M : mm_M} (hf : f_X3_insert x1 x2 x3 x5 M = some z) : M.2.2 ≤ z.2.2 := by
  unfold f_X3_insert at hf
  have hj := mo_X3_insert_3l fu_ _ _ _ _ _ _ hf; omega
def f_X3_addLaw_67 (q8 : Int32 → Int32 → Int32 → Int32 → mm_M → Option mm_M) (x1 : Int32) (x2 : Int32) (x3 : Int32) (x4 : Int32) (M : mm_M) : Option mm_M :=
  sq_ (x4 + (-1) : Int32) fun y14 =>
  q8 x1 x2 x3 y14 M
def f_X3_addLaw_34 (q8 : Int32 → Int32 → Int32 → Int32 → mm_M → Option mm_M) (q34 : Int32 → Int32 → Int32 → Int32 → Int32 → Int64 → Int32 → mm_M → Option mm_M) (x1 : Int32) (x2 : Int32) (x3 : Int32) (x4 : Int32) (x5 : Int32) (x6 : Int64) (x8 : Int32) (M : mm_M) : Option mm_M :=
  if x3 ≤ x8 then (
    f_X3_addLaw_67 q8 x1 x2 x3 x4 M
  ) else (
    (f_X3_insert ((x4 * x3) + x8) x5 x6 (x1 + (x8 * x2)) M).bind fun z12 =>
    sq_ (x8 + 1 : Int32) fun y13 =>
    q34 x1 x2 x3 x4 x5 x6 y13 z12
  )
def f_X3_addLaw_34l (q8 : Int32 → Int32 → Int32 → Int32 → mm_M → Option mm_M) : Nat → Int32 → Int32 → Int32 → Int32 → Int32 → Int64 → Int32 → mm_M → Option mm_M
  | 0, _, _, _, _, _, _, _, _ => none
  | n + 1, x1, x2, x3, x4, x5, x6, x8, M => f_X3_addLaw_34 q8 (f_X3_addLaw_34l q8 n) x1 x2 x3 x4 x5 x6 x8 M
def f_X3_addLaw_73 (x1 : Int32) (x3 : Int32) (M : mm_M) : Option mm_M :=
  if ix_ok (M.1 14 3) 6 then (
  sq_ (mm_si M 18 (M.1 14 3).toNatClampNeg x1) fun M8 =>
  sq_ (mm_si M8 14 3 ((M8.1 14 3) + 1)) fun M9 =>
  sq_ (mm_si M9 14 2 ((M9.1 14 2) * x3)) fun M10 =>
  some M10
  ) else none
def f_X3_addLaw_8 (q8 : Int32 → Int32 → Int32 → Int32 → mm_M → Option mm_M) (x1 : Int32) (x2 : Int32) (x3 : Int32) (x4 : Int32) (M : mm_M) : Option mm_M :=
  if x4 < 0 then (
    f_X3_addLaw_73 x1 x3 M
  ) else (
    if ix_ok x4 600 then (
    sq_ ((M.1 16 x4.toNatClampNeg) : Int32) fun y4 =>
    if ix_ok x4 600 then (
    sq_ ((M.2.1 17 x4.toNatClampNeg) : Int64) fun y6 =>
    f_X3_addLaw_34l q8 fu_ x1 x2 x3 x4 y4 y6 (0 : Int32) M
    ) else none ) else none
  )
def f_X3_addLaw_8l : Nat → Int32 → Int32 → Int32 → Int32 → mm_M → Option mm_M
  | 0, _, _, _, _, _ => none
  | n + 1, x1, x2, x3, x4, M => f_X3_addLaw_8 (f_X3_addLaw_8l n) x1 x2 x3 x4 M
def f_X3_addLaw (x1 : Int32) (x2 : Int32) (x3 : Int32) (M : mm_M) : Option mm_M :=
  sq_ (((M.1 14 2) - 1) : Int32) fun y1 =>
  f_X3_addLaw_8l fu_ x1 x2 x3 y1 M
theorem mo_X3_addLaw_67 {z : mm_M} {x1 : Int32} {x2 : Int32} {x3 : Int32} {x4 : Int32} {M : mm_M} {q8 : Int32 → Int32 → Int32 → Int32 → mm_M → Option mm_M} (hq8 : ∀ (x1 : Int32) (x2 : Int32) (x3 : Int32) (x4 : Int32) (M : mm_M), q8 x1 x2 x3 x4 M = some z → M.2.2 ≤ z.2.2) (hf : f_X3_addLaw_67 q8 x1 x2 x3 x4 M = some z) : M.2.2 ≤ z.2.2 := by
  unfold f_X3_addLaw_67 at hf
  obtain ⟨y14, ey14, hf⟩ := sq_e hf
  have hj := hq8 _ _ _ _ _ hf; omega
theorem mo_X3_addLaw_34 {z : mm_M} {x1 : Int32} {x2 : Int32} {x3 : Int32} {x4 : Int32} {x5 : Int32} {x6 : Int64} {x8 : Int32} {M : mm_M} {q8 : Int32 → Int32 → Int32 → Int32 → mm_M → Option mm_M} (hq8 : ∀ (x1 : Int32) (x2 : Int32) (x3 : Int32) (x4 : Int32) (M : mm_M), q8 x1 x2 x3 x4 M = some z → M.2.2 ≤ z.2.2) {q34 : Int32 → Int32 → Int32 → Int32 → Int32 → Int64 → Int32 → mm_M → Option mm_M} (hq34 : ∀ (x1 : Int32) (x2 : Int32) (x3 : Int32) (x4 : Int32) (x5 : Int32) (x6 : Int64) (x8 : Int32) (M : mm_M), q34 x1 x2 x3 x4 x5 x6 x8 M = some z → M.2.2 ≤ z.2.2) (hf : f_X3_addLaw_34 q8 q34 x1 x2 x3 x4 x5 x6 x8 M = some z) : M.2.2 ≤ z.2.2 := by
  unfold f_X3_addLaw_34 at hf
  by_cases c11 : x3 ≤ x8
  · rw [if_pos c11] at hf
    have hj := mo_X3_addLaw_67 hq8 hf; omega
  · rw [if_neg c11] at hf
    obtain ⟨z12, ez12, hf⟩ := bd_e hf
    have mz12 : M.2.2 ≤ z12.2.2 := mo_X3_insert ez12
    obtain ⟨y13, ey13, hf⟩ := sq_e hf
    have hj := hq34 _ _ _ _ _ _ _ _ hf; omega
theorem mo_X3_addLaw_34l {z : mm_M} {q8 : Int32 → Int32 → Int32 → Int32 → mm_M → Option mm_M} (hq8 : ∀ (x1 : Int32) (x2 : Int32) (x3 : Int32) (x4 : Int32) (M : mm_M), q8 x1 x2 x3 x4 M = some z → M.2.2 ≤ z.2.2) : ∀ (n : Nat) (x1 : Int32) (x2 : Int32) (x3 : Int32) (x4 : Int32) (x5 : Int32) (x6 : Int64) (x8 : Int32) (M : mm_M), f_X3_addLaw_34l q8 n x1 x2 x3 x4 x5 x6 x8 M = some z → M.2.2 ≤ z.2.2 := by
  intro n
  induction n with
  | zero => intro x1 x2 x3 x4 x5 x6 x8 M hf; exact absurd hf (by simp [f_X3_addLaw_34l])
  | succ n ih => intro x1 x2 x3 x4 x5 x6 x8 M hf; exact mo_X3_addLaw_34 hq8 ih hf
theorem mo_X3_addLaw_73 {z : mm_M} {x1 : Int32} {x3 : Int32} {M : mm_M} (hf : f_X3_addLaw_73 x1 x3 M = some z) : M.2.2 ≤ z.2.2 := by
  unfold f_X3_addLaw_73 at hf
  obtain ⟨h7, hf⟩ := ck_e hf
  obtain ⟨M8, eM8, hf⟩ := sq_e hf
  have mM8 : M.2.2 ≤ M8.2.2 := by rw [eM8]; exact Nat.le_refl _
  obtain ⟨M9, eM9, hf⟩ := sq_e hf
  have mM9 : M8.2.2 ≤ M9.2.2 := by rw [eM9]; exact Nat.le_refl _
  obtain ⟨M10, eM10, hf⟩ := sq_e hf
  have mM10 : M9.2.2 ≤ M10.2.2 := by rw [eM10]; exact Nat.le_refl _
  rw [← Option.some.inj hf]; show M.2.2 ≤ M10.2.2; omega
theorem mo_X3_addLaw_8 {z : mm_M} {x1 : Int32} {x2 : Int32} {x3 : Int32} {x4 : Int32} {M : mm_M} {q8 : Int32 → Int32 → Int32 → Int32 → mm_M → Option mm_M} (hq8 : ∀ (x1 : Int32) (x2 : Int32) (x3 : Int32) (x4 : Int32) (M : mm_M), q8 x1 x2 x3 x4 M = some z → M.2.2 ≤ z.2.2) (hf : f_X3_addLaw_8 q8 x1 x2 x3 x4 M = some z) : M.2.2 ≤ z.2.2 := by
  unfold f_X3_addLaw_8 at hf
  by_cases c2 : x4 < 0
  · rw [if_pos c2] at hf
    have hj := mo_X3_addLaw_73 hf; omega
  · rw [if_neg c2] at hf
    obtain ⟨h3, hf⟩ := ck_e hf
    obtain ⟨y4, ey4, hf⟩ := sq_e hf
    obtain ⟨h5, hf⟩ := ck_e hf
    obtain ⟨y6, ey6, hf⟩ := sq_e hf
    have hj := mo_X3_addLaw_34l hq8 fu_ _ _ _ _ _ _ _ _ hf; omega
theorem mo_X3_addLaw_8l {z : mm_M} : ∀ (n : Nat) (x1 : Int32) (x2 : Int32) (x3 : Int32) (x4 : Int32) (M : mm_M), f_X3_addLaw_8l n x1 x2 x3 x4 M = some z → M.2.2 ≤ z.2.2 := by
  intro n
  induction n with
  | zero => intro x1 x2 x3 x4 M hf; exact absurd hf (by simp [f_X3_addLaw_8l])
  | succ n ih => intro x1 x2 x3 x4 M hf; exact mo_X3_addLaw_8 ih hf
theorem mo_X3_addLaw {z : mm_M} {x1 : Int32} {x2 : Int32} {x3 : Int32} {M : mm_M} (hf : f_X3_addLaw x1 x2 x3 M = some z) : M.2.2 ≤ z.2.2 := by
  unfold f_X3_addLaw at hf
  obtain ⟨y1, ey1, hf⟩ := sq_e hf
  have hj := mo_X3_addLaw_8l fu_ _ _ _ _ _ hf; omega
def f_X11_lawFromText (x1 : Int32) (x2 : Int32) (x3 : Int32) (M : mm_M) : Option (Int32 × mm_M) :=
  if (M.1 5 1) < 6 then (
    (f_X11_yearsOfLaw x1 x2 x3).bind fun z2 =>
    if z2 < 1 then (
      some (((-101) : Int32), M)
    ) else (
      if z2 ≤ 8 then (
        if ((M.1 14 2) * z2) ≤ 600 then (
          if ix_ok (M.1 5 1) 6 then (
          (f_X2_read (8 + (M.1 5 1).toNatClampNeg) M).bind fun z7 =>
          if z7.1 = (-1) then (
            (f_X9_addLaw z7.2).bind fun z9 =>
            (f_X3_addLaw x1 x3 z2 z9.2).bind fun z10 =>
            sq_ (f_X6_doubtAll z10) fun z11 =>
            some (z9.1, z11)
          ) else (
            some (((-1) - z7.1), z7.2)
          )
          ) else none
        ) else (
          some (((-102) : Int32), M)
        )
      ) else (
        some (((-101) : Int32), M)
      )
    )
  ) else (
    some (((-100) : Int32), M)
  )
theorem mo_X11_lawFromText {z : (Int32 × mm_M)} {x1 : Int32} {x2 : Int32} {x3 : Int32} {M : mm_M} (hf : f_X11_lawFromText x1 x2 x3 M = some z) : M.2.2 ≤ z.2.2.2 := by
  unfold f_X11_lawFromText at hf
  by_cases c1 : (M.1 5 1) < 6
  · rw [if_pos c1] at hf
    obtain ⟨z2, ez2, hf⟩ := bd_e hf
    by_cases c3 : z2 < 1
    · rw [if_pos c3] at hf
      rw [← Option.some.inj hf]; show M.2.2 ≤ M.2.2; exact Nat.le_refl _
    · rw [if_neg c3] at hf
      by_cases c4 : z2 ≤ 8
      · rw [if_pos c4] at hf
        by_cases c5 : ((M.1 14 2) * z2) ≤ 600
        · rw [if_pos c5] at hf
          obtain ⟨h6, hf⟩ := ck_e hf
          obtain ⟨z7, ez7, hf⟩ := bd_e hf
          have mz7 : M.2.2 ≤ z7.2.2.2 := mo_X2_read ez7
          by_cases c8 : z7.1 = (-1)
          · rw [if_pos c8] at hf
            obtain ⟨z9, ez9, hf⟩ := bd_e hf
            have mz9 : z7.2.2.2 ≤ z9.2.2.2 := mo_X9_addLaw ez9
            obtain ⟨z10, ez10, hf⟩ := bd_e hf
            have mz10 : z9.2.2.2 ≤ z10.2.2 := mo_X3_addLaw ez10
            obtain ⟨z11, ez11, hf⟩ := sq_e hf
            have mz11 : z10.2.2 ≤ z11.2.2 := mo_X6_doubtAll ez11.symm
            rw [← Option.some.inj hf]; show M.2.2 ≤ z11.2.2; omega
          · rw [if_neg c8] at hf
            rw [← Option.some.inj hf]; show M.2.2 ≤ z7.2.2.2; omega
        · rw [if_neg c5] at hf
          rw [← Option.some.inj hf]; show M.2.2 ≤ M.2.2; exact Nat.le_refl _
      · rw [if_neg c4] at hf
        rw [← Option.some.inj hf]; show M.2.2 ≤ M.2.2; exact Nat.le_refl _
  · rw [if_neg c1] at hf
    rw [← Option.some.inj hf]; show M.2.2 ≤ M.2.2; exact Nat.le_refl _
def f_X11_law (x1 : Int32) (x2 : Int32) (x3 : Int32) (M : mm_M) : Option (Int32 × mm_M) :=
  (f_X11_lawFromText x1 x2 x3 M).bind fun z1 =>
  sq_ (f_X8_cutTo (0 : Int32) z1.2) fun z2 =>
  some (z1.1, z2.2)
theorem mo_X11_law {z : (Int32 × mm_M)} {x1 : Int32} {x2 : Int32} {x3 : Int32} {M : mm_M} (hf : f_X11_law x1 x2 x3 M = some z) : M.2.2 ≤ z.2.2.2 := by
  unfold f_X11_law at hf
  obtain ⟨z1, ez1, hf⟩ := bd_e hf
  have mz1 : M.2.2 ≤ z1.2.2.2 := mo_X11_lawFromText ez1
  obtain ⟨z2, ez2, hf⟩ := sq_e hf
  have mz2 : z1.2.2.2 ≤ z2.2.2.2 := mo_X8_cutTo ez2.symm
  rw [← Option.some.inj hf]; show M.2.2 ≤ z2.2.2.2; omega
def f_X11_isPlace (x0 : Int32) : Int32 :=
  sq_ (f_X11_isBelow x0 (6 : Int32)) fun z1 =>
  z1
theorem bz_X11_isPlace {z : Int32} {x0 : Int32} (hf : f_X11_isPlace x0 = z) : z = 0 ∨ z = 1 := by
  unfold f_X11_isPlace at hf
  obtain ⟨z1, ez1, hf⟩ := sq_e hf
  rw [← hf]; exact (bz_X11_isBelow ez1.symm)
def f_X6_atPlace_33 (q4 : Int32 → Int32 → Int32 → Option Int32) (x1 : Int32) (x3 : Int32) (t0 : Int32) (t1 : Int32) (M : mm_M) : Option Int32 :=
  sq_ ((t0 ||| t1) : Int32) fun y4 =>
  sq_ (x3 + 1 : Int32) fun y5 =>
  q4 x1 y4 y5
def f_X6_atPlace_4 (q4 : Int32 → Int32 → Int32 → Option Int32) (x1 : Int32) (x2 : Int32) (x3 : Int32) (M : mm_M) : Option Int32 :=
  if (M.1 19 3) ≤ x3 then (
    some x2
  ) else (
    if ix_ok x3 16 then (
    if (M.1 (22 + x3.toNatClampNeg) 5) = x1 then (
      f_X6_atPlace_33 q4 x1 x3 x2 ((1 : Int32) <<< (x3 &&& 31)) M
    ) else (
      f_X6_atPlace_33 q4 x1 x3 x2 (0 : Int32) M
    )
    ) else none
  )
def f_X6_atPlace_4l (M : mm_M) : Nat → Int32 → Int32 → Int32 → Option Int32
  | 0, _, _, _ => none
  | n + 1, x1, x2, x3 => f_X6_atPlace_4 (f_X6_atPlace_4l M n) x1 x2 x3 M
def f_X6_atPlace (x1 : Int32) (M : mm_M) : Option Int32 :=
  f_X6_atPlace_4l M fu_ x1 (0 : Int32) (0 : Int32)
def f_X6_doubtPlace (x1 : Int32) (M : mm_M) : Option mm_M :=
  (f_X6_atPlace x1 M).bind fun z1 =>
  sq_ (mm_si M 19 6 ((M.1 19 6) ||| z1)) fun M2 =>
  some M2
theorem mo_X6_doubtPlace {z : mm_M} {x1 : Int32} {M : mm_M} (hf : f_X6_doubtPlace x1 M = some z) : M.2.2 ≤ z.2.2 := by
  unfold f_X6_doubtPlace at hf
  obtain ⟨z1, ez1, hf⟩ := bd_e hf
  obtain ⟨M2, eM2, hf⟩ := sq_e hf
  have mM2 : M.2.2 ≤ M2.2.2 := by rw [eM2]; exact Nat.le_refl _
  rw [← Option.some.inj hf]; show M.2.2 ≤ M2.2.2; omega
def f_X11_lag (x1 : Int32) (x2 : Int32) (M : mm_M) : Option (Int32 × mm_M) :=
  sq_ (f_X11_isPlace x1) fun z1 =>
  if z1 = 0 then (
    some (((-1) : Int32), M)
  ) else (
    if x2 < 0 then (
      some (((-1) : Int32), M)
    ) else (
      if x2 ≤ 200 then (
        if ix_ok x1 6 then (
        sq_ ((M.1 15 x1.toNatClampNeg) : Int32) fun y6 =>
        if ix_ok x1 6 then (
        sq_ (mm_si M 15 x1.toNatClampNeg x2) fun M8 =>
        (f_X6_doubtPlace x1 M8).bind fun z9 =>
        some (y6, z9)
        ) else none ) else none
      ) else (
        some (((-1) : Int32), M)
      )
    )
  )
theorem mo_X11_lag {z : (Int32 × mm_M)} {x1 : Int32} {x2 : Int32} {M : mm_M} (hf : f_X11_lag x1 x2 M = some z) : M.2.2 ≤ z.2.2.2 := by
  unfold f_X11_lag at hf
  obtain ⟨z1, ez1, hf⟩ := sq_e hf
  by_cases c2 : z1 = 0
  · rw [if_pos c2] at hf
    rw [← Option.some.inj hf]; show M.2.2 ≤ M.2.2; exact Nat.le_refl _
  · rw [if_neg c2] at hf
    by_cases c3 : x2 < 0
    · rw [if_pos c3] at hf
      rw [← Option.some.inj hf]; show M.2.2 ≤ M.2.2; exact Nat.le_refl _
    · rw [if_neg c3] at hf
      by_cases c4 : x2 ≤ 200
      · rw [if_pos c4] at hf
        obtain ⟨h5, hf⟩ := ck_e hf
        obtain ⟨y6, ey6, hf⟩ := sq_e hf
        obtain ⟨h7, hf⟩ := ck_e hf
        obtain ⟨M8, eM8, hf⟩ := sq_e hf
        have mM8 : M.2.2 ≤ M8.2.2 := by rw [eM8]; exact Nat.le_refl _
        obtain ⟨z9, ez9, hf⟩ := bd_e hf
        have mz9 : M8.2.2 ≤ z9.2.2 := mo_X6_doubtPlace ez9
        rw [← Option.some.inj hf]; show M.2.2 ≤ z9.2.2; omega
      · rw [if_neg c4] at hf
        rw [← Option.some.inj hf]; show M.2.2 ≤ M.2.2; exact Nat.le_refl _
def f_X11_lagOnSheet_20 (t0 : Int32) : Int32 :=
  (if (0 : Int32) < (if t0 < (200 : Int32) then t0 else (200 : Int32)) then (if t0 < (200 : Int32) then t0 else (200 : Int32)) else (0 : Int32))
def f_X11_lagOnSheet (x0 : Int32) (x1 : Int32) : Int32 :=
  if x0 = 0 then (
    f_X11_lagOnSheet_20 (x1.toInt8.toInt32)
  ) else (
    if x0 = 1 then (
      f_X11_lagOnSheet_20 (x1.toInt16.toInt32)
    ) else (
      f_X11_lagOnSheet_20 x1
    )
  )
def f_X11_lags_87 (q58 : Int32 → Int32 → Int32 → Int32 → Int32 → Int32 → Int32 → mm_M → Option (Int32 × mm_M)) (x1 : Int32) (x3 : Int32) (x4 : Int32) (x5 : Int32) (x6 : Int32) (x7 : Int32) (x8 : Int32) (t0 : Int32) (M : mm_M) : Option (Int32 × mm_M) :=
  if ix_ok x8 6 then (
  sq_ (mm_si M 15 x8.toNatClampNeg t0) fun M14 =>
  sq_ ((x7 + t0) : Int32) fun y15 =>
  sq_ (x8 + 1 : Int32) fun y16 =>
  q58 x1 x3 x4 x5 x6 y15 y16 M14
  ) else none
def f_X11_lags_114 (x5 : Int32) (x7 : Int32) (M : mm_M) : Option (Int32 × mm_M) :=
  sq_ (f_X6_doubtAll M) fun z11 =>
  if x5 = 0 then (
    some (x7, z11)
  ) else (
    some (((-3) : Int32), z11)
  )
def f_X11_lags_58 (q58 : Int32 → Int32 → Int32 → Int32 → Int32 → Int32 → Int32 → mm_M → Option (Int32 × mm_M)) (x1 : Int32) (x3 : Int32) (x4 : Int32) (x5 : Int32) (x6 : Int32) (x7 : Int32) (x8 : Int32) (M : mm_M) : Option (Int32 × mm_M) :=
  if 6 ≤ x8 then (
    f_X11_lags_114 x5 x7 M
  ) else (
    if x6 ≤ x8 then (
      f_X11_lags_87 q58 x1 x3 x4 x5 x6 x7 x8 (0 : Int32) M
    ) else (
      sq_ (f_X11_lagOnSheet x1 (x3 + (x8 * x4))) fun z10 =>
      f_X11_lags_87 q58 x1 x3 x4 x5 x6 x7 x8 z10 M
    )
  )
def f_X11_lags_58l : Nat → Int32 → Int32 → Int32 → Int32 → Int32 → Int32 → Int32 → mm_M → Option (Int32 × mm_M)
  | 0, _, _, _, _, _, _, _, _ => none
  | n + 1, x1, x3, x4, x5, x6, x7, x8, M => f_X11_lags_58 (f_X11_lags_58l n) x1 x3 x4 x5 x6 x7 x8 M
def f_X11_lags_50 (x1 : Int32) (x3 : Int32) (x4 : Int32) (x5 : Int32) (t0 : Int32) (M : mm_M) : Option (Int32 × mm_M) :=
  f_X11_lags_58l fu_ x1 x3 x4 x5 t0 (0 : Int32) (0 : Int32) M
def f_X11_lags_40 (x1 : Int32) (x2 : Int32) (x3 : Int32) (x4 : Int32) (x5 : Int32) (M : mm_M) : Option (Int32 × mm_M) :=
  if x5 = 0 then (
    f_X11_lags_50 x1 x3 x4 x5 x2 M
  ) else (
    f_X11_lags_50 x1 x3 x4 x5 (0 : Int32) M
  )
def f_X11_lags_26 (x1 : Int32) (x2 : Int32) (x3 : Int32) (x4 : Int32) (t0 : Int32) (M : mm_M) : Option (Int32 × mm_M) :=
  if t0 = 0 then (
    if 0 ≤ x2 then (
      f_X11_lags_40 x1 x2 x3 x4 t0 M
    ) else (
      some (((-2) : Int32), M)
    )
  ) else (
    f_X11_lags_40 x1 x2 x3 x4 t0 M
  )
def f_X11_lags (x1 : Int32) (x2 : Int32) (x3 : Int32) (x4 : Int32) (M : mm_M) : Option (Int32 × mm_M) :=
  sq_ (f_X11_isBelow x1 (4 : Int32)) fun z1 =>
  if z1 = 0 then (
    some (((-1) : Int32), M)
  ) else (
    if x2 ≤ 6 then (
      if x1 = 3 then (
        f_X11_lags_26 x1 x2 x3 x4 (1 : Int32) M
      ) else (
        f_X11_lags_26 x1 x2 x3 x4 (0 : Int32) M
      )
    ) else (
      some (((-1) : Int32), M)
    )
  )
theorem mo_X11_lags_87 {z : (Int32 × mm_M)} {x1 : Int32} {x3 : Int32} {x4 : Int32} {x5 : Int32} {x6 : Int32} {x7 : Int32} {x8 : Int32} {t0 : Int32} {M : mm_M} {q58 : Int32 → Int32 → Int32 → Int32 → Int32 → Int32 → Int32 → mm_M → Option (Int32 × mm_M)} (hq58 : ∀ (x1 : Int32) (x3 : Int32) (x4 : Int32) (x5 : Int32) (x6 : Int32) (x7 : Int32) (x8 : Int32) (M : mm_M), q58 x1 x3 x4 x5 x6 x7 x8 M = some z → M.2.2 ≤ z.2.2.2) (hf : f_X11_lags_87 q58 x1 x3 x4 x5 x6 x7 x8 t0 M = some z) : M.2.2 ≤ z.2.2.2 := by
  unfold f_X11_lags_87 at hf
  obtain ⟨h13, hf⟩ := ck_e hf
  obtain ⟨M14, eM14, hf⟩ := sq_e hf
  have mM14 : M.2.2 ≤ M14.2.2 := by rw [eM14]; exact Nat.le_refl _
  obtain ⟨y15, ey15, hf⟩ := sq_e hf
  obtain ⟨y16, ey16, hf⟩ := sq_e hf
  have hj := hq58 _ _ _ _ _ _ _ _ hf; omega
theorem mo_X11_lags_114 {z : (Int32 × mm_M)} {x5 : Int32} {x7 : Int32} {M : mm_M} (hf : f_X11_lags_114 x5 x7 M = some z) : M.2.2 ≤ z.2.2.2 := by
  unfold f_X11_lags_114 at hf
  obtain ⟨z11, ez11, hf⟩ := sq_e hf
  have mz11 : M.2.2 ≤ z11.2.2 := mo_X6_doubtAll ez11.symm
  by_cases c12 : x5 = 0
  · rw [if_pos c12] at hf
    rw [← Option.some.inj hf]; show M.2.2 ≤ z11.2.2; omega
  · rw [if_neg c12] at hf
    rw [← Option.some.inj hf]; show M.2.2 ≤ z11.2.2; omega
theorem mo_X11_lags_58 {z : (Int32 × mm_M)} {x1 : Int32} {x3 : Int32} {x4 : Int32} {x5 : Int32} {x6 : Int32} {x7 : Int32} {x8 : Int32} {M : mm_M} {q58 : Int32 → Int32 → Int32 → Int32 → Int32 → Int32 → Int32 → mm_M → Option (Int32 × mm_M)} (hq58 : ∀ (x1 : Int32) (x3 : Int32) (x4 : Int32) (x5 : Int32) (x6 : Int32) (x7 : Int32) (x8 : Int32) (M : mm_M), q58 x1 x3 x4 x5 x6 x7 x8 M = some z → M.2.2 ≤ z.2.2.2) (hf : f_X11_lags_58 q58 x1 x3 x4 x5 x6 x7 x8 M = some z) : M.2.2 ≤ z.2.2.2 := by
  unfold f_X11_lags_58 at hf
  by_cases c8 : 6 ≤ x8
  · rw [if_pos c8] at hf
    have hj := mo_X11_lags_114 hf; omega
  · rw [if_neg c8] at hf
    by_cases c9 : x6 ≤ x8
    · rw [if_pos c9] at hf
      have hj := mo_X11_lags_87 hq58 hf; omega
    · rw [if_neg c9] at hf
      obtain ⟨z10, ez10, hf⟩ := sq_e hf
      have hj := mo_X11_lags_87 hq58 hf; omega
theorem mo_X11_lags_58l {z : (Int32 × mm_M)} : ∀ (n : Nat) (x1 : Int32) (x3 : Int32) (x4 : Int32) (x5 : Int32) (x6 : Int32) (x7 : Int32) (x8 : Int32) (M : mm_M), f_X11_lags_58l n x1 x3 x4 x5 x6 x7 x8 M = some z → M.2.2 ≤ z.2.2.2 := by
  intro n
  induction n with
  | zero => intro x1 x3 x4 x5 x6 x7 x8 M hf; exact absurd hf (by simp [f_X11_lags_58l])
  | succ n ih => intro x1 x3 x4 x5 x6 x7 x8 M hf; exact mo_X11_lags_58 ih hf
theorem mo_X11_lags_50 {z : (Int32 × mm_M)} {x1 : Int32} {x3 : Int32} {x4 : Int32} {x5 : Int32} {t0 : Int32} {M : mm_M} (hf : f_X11_lags_50 x1 x3 x4 x5 t0 M = some z) : M.2.2 ≤ z.2.2.2 := by
  unfold f_X11_lags_50 at hf
  have hj := mo_X11_lags_58l fu_ _ _ _ _ _ _ _ _ hf; omega
theorem mo_X11_lags_40 {z : (Int32 × mm_M)} {x1 : Int32} {x2 : Int32} {x3 : Int32} {x4 : Int32} {x5 : Int32} {M : mm_M} (hf : f_X11_lags_40 x1 x2 x3 x4 x5 M = some z) : M.2.2 ≤ z.2.2.2 := by
  unfold f_X11_lags_40 at hf
  by_cases c7 : x5 = 0
  · rw [if_pos c7] at hf
    have hj := mo_X11_lags_50 hf; omega
  · rw [if_neg c7] at hf
    have hj := mo_X11_lags_50 hf; omega
theorem mo_X11_lags_26 {z : (Int32 × mm_M)} {x1 : Int32} {x2 : Int32} {x3 : Int32} {x4 : Int32} {t0 : Int32} {M : mm_M} (hf : f_X11_lags_26 x1 x2 x3 x4 t0 M = some z) : M.2.2 ≤ z.2.2.2 := by
  unfold f_X11_lags_26 at hf
  by_cases c5 : t0 = 0
  · rw [if_pos c5] at hf
    by_cases c6 : 0 ≤ x2
    · rw [if_pos c6] at hf
      have hj := mo_X11_lags_40 hf; omega
    · rw [if_neg c6] at hf
      rw [← Option.some.inj hf]; show M.2.2 ≤ M.2.2; exact Nat.le_refl _
  · rw [if_neg c5] at hf
    have hj := mo_X11_lags_40 hf; omega
theorem mo_X11_lags {z : (Int32 × mm_M)} {x1 : Int32} {x2 : Int32} {x3 : Int32} {x4 : Int32} {M : mm_M} (hf : f_X11_lags x1 x2 x3 x4 M = some z) : M.2.2 ≤ z.2.2.2 := by
  unfold f_X11_lags at hf
  obtain ⟨z1, ez1, hf⟩ := sq_e hf
  by_cases c2 : z1 = 0
  · rw [if_pos c2] at hf
    rw [← Option.some.inj hf]; show M.2.2 ≤ M.2.2; exact Nat.le_refl _
  · rw [if_neg c2] at hf
    by_cases c3 : x2 ≤ 6
    · rw [if_pos c3] at hf
      by_cases c4 : x1 = 3
      · rw [if_pos c4] at hf
        have hj := mo_X11_lags_26 hf; omega
      · rw [if_neg c4] at hf
        have hj := mo_X11_lags_26 hf; omega
    · rw [if_neg c3] at hf
      rw [← Option.some.inj hf]; show M.2.2 ≤ M.2.2; exact Nat.le_refl _
def f_X11_isWord (x1 : Int32) (M : mm_M) : Int32 :=
  sq_ (f_X11_isBelow x1 (M.1 5 2)) fun z1 =>
  z1
theorem bz_X11_isWord {z : Int32} {x1 : Int32} {M : mm_M} (hf : f_X11_isWord x1 M = z) : z = 0 ∨ z = 1 := by
  unfold f_X11_isWord at hf
  obtain ⟨z1, ez1, hf⟩ := sq_e hf
  rw [← hf]; exact (bz_X11_isBelow ez1.symm)
def f_X11_isHistory (x1 : Int32) (M : mm_M) : Int32 :=
  sq_ (f_X11_isBelow x1 (M.1 14 2)) fun z1 =>
  z1
theorem bz_X11_isHistory {z : Int32} {x1 : Int32} {M : mm_M} (hf : f_X11_isHistory x1 M = z) : z = 0 ∨ z = 1 := by
  unfold f_X11_isHistory at hf
  obtain ⟨z1, ez1, hf⟩ := sq_e hf
  rw [← hf]; exact (bz_X11_isBelow ez1.symm)
def f_X11_isYear (x0 : Int32) : Int32 :=
  if x0 < 0 then (
    (0 : Int32)
  ) else (
    if 600 < x0 then (
      (0 : Int32)
    ) else (
      (1 : Int32)
    )
  )
theorem bz_X11_isYear {z : Int32} {x0 : Int32} (hf : f_X11_isYear x0 = z) : z = 0 ∨ z = 1 := by
  unfold f_X11_isYear at hf
  by_cases c1 : x0 < 0
  · rw [if_pos c1] at hf
    rw [← hf]; exact (Or.inl rfl)
  · rw [if_neg c1] at hf
    by_cases c2 : 600 < x0
    · rw [if_pos c2] at hf
      rw [← hf]; exact (Or.inl rfl)
    · rw [if_neg c2] at hf
      rw [← hf]; exact (Or.inr rfl)
def f_X11_isThenAndThere (x1 : Int32) (x2 : Int32) (x3 : Int32) (M : mm_M) : Int32 :=
  sq_ (f_X11_isHistory x1 M) fun z1 =>
  if z1 = 0 then (
    (0 : Int32)
  ) else (
    sq_ (f_X11_isYear x2) fun z3 =>
    if z3 = 0 then (
      (0 : Int32)
    ) else (
      sq_ (f_X11_isPlace x3) fun z5 =>
      if z5 = 0 then (
        (0 : Int32)
      ) else (
        (1 : Int32)
      )
    )
  )
theorem bz_X11_isThenAndThere {z : Int32} {x1 : Int32} {x2 : Int32} {x3 : Int32} {M : mm_M} (hf : f_X11_isThenAndThere x1 x2 x3 M = z) : z = 0 ∨ z = 1 := by
  unfold f_X11_isThenAndThere at hf
  obtain ⟨z1, ez1, hf⟩ := sq_e hf
  by_cases c2 : z1 = 0
  · rw [if_pos c2] at hf
    rw [← hf]; exact (Or.inl rfl)
  · rw [if_neg c2] at hf
    obtain ⟨z3, ez3, hf⟩ := sq_e hf
    by_cases c4 : z3 = 0
    · rw [if_pos c4] at hf
      rw [← hf]; exact (Or.inl rfl)
    · rw [if_neg c4] at hf
      obtain ⟨z5, ez5, hf⟩ := sq_e hf
      by_cases c6 : z5 = 0
      · rw [if_pos c6] at hf
        rw [← hf]; exact (Or.inl rfl)
      · rw [if_neg c6] at hf
        rw [← hf]; exact (Or.inr rfl)
def f_X4_clear (M : mm_M) : mm_M :=
  sq_ (mm_si M 3 1 0) fun M1 =>
  M1
theorem mo_X4_clear {z : mm_M} {M : mm_M} (hf : f_X4_clear M = z) : M.2.2 ≤ z.2.2 := by
  unfold f_X4_clear at hf
  obtain ⟨M1, eM1, hf⟩ := sq_e hf
  have mM1 : M.2.2 ≤ M1.2.2 := by rw [eM1]; exact Nat.le_refl _
  rw [← hf]; show M.2.2 ≤ M1.2.2; omega
def f_X3_lawAt (x1 : Int32) (x2 : Int32) (M : mm_M) : Option Int32 :=
  if ix_ok x1 600 then (
  some (((M.1 16 x1.toNatClampNeg) >>> ((3 * x2) &&& 31)) &&& 7)
  ) else none
def f_X2_workOn_128 (q18 : Nat → Int64 → Int32 → Int64 → Int32 → Int32 → Int32 → Option Int64) (k0 : Nat) (x1 : Int64) (x3 : Int32) (x4 : Int64) (x6 : Int32) (x8 : Int32) (x9 : Int32) (M : mm_M) : Option Int64 :=
  sq_ (x8 + 1 : Int32) fun y12 =>
  q18 k0 x1 x3 x4 x6 x9 y12
def f_X2_workOn_104 (q18 : Nat → Int64 → Int32 → Int64 → Int32 → Int32 → Int32 → Option Int64) (k0 : Nat) (x1 : Int64) (x3 : Int32) (x4 : Int64) (x6 : Int32) (x8 : Int32) (x9 : Int32) (t0 : Int32) (M : mm_M) : Option Int64 :=
  if t0 = (-1) then (
    f_X2_workOn_128 q18 k0 x1 x3 x4 x6 x8 x9 M
  ) else (
    sq_ ((x4 ||| ((t0.toInt64) <<< ((4 * x6).toInt64 &&& 63))) : Int64) fun y10 =>
    sq_ (x6 + 1 : Int32) fun y11 =>
    f_X2_workOn_128 q18 k0 x1 x3 y10 y11 x8 x9 M
  )
def f_X2_workOn_88 (q18 : Nat → Int64 → Int32 → Int64 → Int32 → Int32 → Int32 → Option Int64) (k0 : Nat) (x1 : Int64) (x3 : Int32) (x4 : Int64) (x6 : Int32) (x8 : Int32) (x9 : Int32) (t0 : Int32) (M : mm_M) : Option Int64 :=
  if t0 = 0 then (
    f_X2_workOn_104 q18 k0 x1 x3 x4 x6 x8 x9 x9 M
  ) else (
    f_X2_workOn_104 q18 k0 x1 x3 x4 x6 x8 x9 (M.1 k0 3) M
  )
def f_X2_workOn_53 (q18 : Nat → Int64 → Int32 → Int64 → Int32 → Int32 → Int32 → Option Int64) (k0 : Nat) (x1 : Int64) (x3 : Int32) (x4 : Int64) (x6 : Int32) (x7 : Int32) (x8 : Int32) (x9 : Int32) (t0 : Int32) (M : mm_M) : Option Int64 :=
  if (((((M.1 k0 4) >>> (x9 &&& 31)) &&& ((M.1 k0 5) >>> (x7 &&& 31))) &&& ((M.1 k0 6) >>> (t0 &&& 31))) &&& 1) = 0 then (
    f_X2_workOn_88 q18 k0 x1 x3 x4 x6 x8 x9 (0 : Int32) M
  ) else (
    f_X2_workOn_88 q18 k0 x1 x3 x4 x6 x8 x9 (1 : Int32) M
  )
def f_X2_workOn_138 (x4 : Int64) (x6 : Int32) (M : mm_M) : Option Int64 :=
  sq_ (f_X0_of x4 x6) fun z6 =>
  some z6
def f_X2_workOn_18 (q18 : Nat → Int64 → Int32 → Int64 → Int32 → Int32 → Int32 → Option Int64) (k0 : Nat) (x1 : Int64) (x3 : Int32) (x4 : Int64) (x6 : Int32) (x7 : Int32) (x8 : Int32) (M : mm_M) : Option Int64 :=
  if x3 ≤ x8 then (
    f_X2_workOn_138 x4 x6 M
  ) else (
    sq_ (f_X0_soundAt x1 x8) fun z3 =>
    if x3 ≤ (x8 + 1) then (
      f_X2_workOn_53 q18 k0 x1 x3 x4 x6 x7 x8 z3 (16 : Int32) M
    ) else (
      sq_ (f_X0_soundAt x1 (x8 + 1)) fun z5 =>
      f_X2_workOn_53 q18 k0 x1 x3 x4 x6 x7 x8 z3 z5 M
    )
  )
def f_X2_workOn_18l (M : mm_M) : Nat → Nat → Int64 → Int32 → Int64 → Int32 → Int32 → Int32 → Option Int64
  | 0, _, _, _, _, _, _, _ => none
  | n + 1, k0, x1, x3, x4, x6, x7, x8 => f_X2_workOn_18 (f_X2_workOn_18l M n) k0 x1 x3 x4 x6 x7 x8 M
def f_X2_workOn (k0 : Nat) (x1 : Int64) (M : mm_M) : Option Int64 :=
  sq_ (f_X0_lengthOf x1) fun z1 =>
  f_X2_workOn_18l M fu_ k0 x1 z1 (0 : Int64) (0 : Int32) (16 : Int32) (0 : Int32)
def f_X9_courseAfter_94 (x3 : Int32) (M : mm_M) : Option (Int32 × mm_M) :=
  if ix_ok x3 (6 * M.2.2) then (
  some ((M.1 70 x3.toNatClampNeg), M)
  ) else none
def f_X9_courseAfter_74 (x3 : Int32) (M : mm_M) : Option (Int32 × mm_M) :=
  if ix_ok x3 (6 * M.2.2) then (
  sq_ (mm_si M 70 x3.toNatClampNeg (M.1 5 4)) fun M14 =>
  sq_ (mm_si M14 5 4 ((M14.1 5 4) + 1)) fun M15 =>
  f_X9_courseAfter_94 x3 M15
  ) else none
def f_X9_courseAfter_23 (q23 : Int32 → Int32 → Int32 → Int32 → mm_M → Option (Int32 × mm_M)) (x1 : Int32) (x2 : Int32) (x3 : Int32) (x4 : Int32) (M : mm_M) : Option (Int32 × mm_M) :=
  if (M.1 5 2) ≤ x4 then (
    f_X9_courseAfter_74 x3 M
  ) else (
    if ix_ok x2 6 then (
    if ix_ok ((x1 * 20) + x4) (20 * M.2.2) then (
    (f_X2_workOn (8 + x2.toNatClampNeg) (M.2.1 71 ((x1 * 20) + x4).toNatClampNeg) M).bind fun z9 =>
    if ix_ok (((M.1 5 4) * 20) + x4) (20 * M.2.2) then (
    sq_ (mm_sl M 71 (((M.1 5 4) * 20) + x4).toNatClampNeg z9) fun M11 =>
    sq_ (x4 + 1 : Int32) fun y12 =>
    q23 x1 x2 x3 y12 M11
    ) else none ) else none ) else none
  )
def f_X9_courseAfter_23l : Nat → Int32 → Int32 → Int32 → Int32 → mm_M → Option (Int32 × mm_M)
  | 0, _, _, _, _, _ => none
  | n + 1, x1, x2, x3, x4, M => f_X9_courseAfter_23 (f_X9_courseAfter_23l n) x1 x2 x3 x4 M
def f_X9_courseAfter_20 (x1 : Int32) (x2 : Int32) (x3 : Int32) (M : mm_M) : Option (Int32 × mm_M) :=
  f_X9_courseAfter_23l fu_ x1 x2 x3 (0 : Int32) M
def f_X9_courseAfter (x1 : Int32) (x2 : Int32) (M : mm_M) : Option (Int32 × mm_M) :=
  sq_ (((x1 * 6) + x2) : Int32) fun y1 =>
  if ix_ok y1 (6 * M.2.2) then (
  if (M.1 70 y1.toNatClampNeg) = 0 then (
    (f_X9_makeRoom M).bind fun z4 =>
    f_X9_courseAfter_20 x1 x2 y1 z4
  ) else (
    f_X9_courseAfter_94 y1 M
  )
  ) else none
theorem mo_X9_courseAfter_94 {z : (Int32 × mm_M)} {x3 : Int32} {M : mm_M} (hf : f_X9_courseAfter_94 x3 M = some z) : M.2.2 ≤ z.2.2.2 := by
  unfold f_X9_courseAfter_94 at hf
  obtain ⟨h5, hf⟩ := ck_e hf
  rw [← Option.some.inj hf]; show M.2.2 ≤ M.2.2; exact Nat.le_refl _
theorem mo_X9_courseAfter_74 {z : (Int32 × mm_M)} {x3 : Int32} {M : mm_M} (hf : f_X9_courseAfter_74 x3 M = some z) : M.2.2 ≤ z.2.2.2 := by
  unfold f_X9_courseAfter_74 at hf
  obtain ⟨h13, hf⟩ := ck_e hf
  obtain ⟨M14, eM14, hf⟩ := sq_e hf
  have mM14 : M.2.2 ≤ M14.2.2 := by rw [eM14]; exact Nat.le_refl _
  obtain ⟨M15, eM15, hf⟩ := sq_e hf
  have mM15 : M14.2.2 ≤ M15.2.2 := by rw [eM15]; exact Nat.le_refl _
  have hj := mo_X9_courseAfter_94 hf; omega
theorem mo_X9_courseAfter_23 {z : (Int32 × mm_M)} {x1 : Int32} {x2 : Int32} {x3 : Int32} {x4 : Int32} {M : mm_M} {q23 : Int32 → Int32 → Int32 → Int32 → mm_M → Option (Int32 × mm_M)} (hq23 : ∀ (x1 : Int32) (x2 : Int32) (x3 : Int32) (x4 : Int32) (M : mm_M), q23 x1 x2 x3 x4 M = some z → M.2.2 ≤ z.2.2.2) (hf : f_X9_courseAfter_23 q23 x1 x2 x3 x4 M = some z) : M.2.2 ≤ z.2.2.2 := by
  unfold f_X9_courseAfter_23 at hf
  by_cases c6 : (M.1 5 2) ≤ x4
  · rw [if_pos c6] at hf
    have hj := mo_X9_courseAfter_74 hf; omega
  · rw [if_neg c6] at hf
    obtain ⟨h7, hf⟩ := ck_e hf
    obtain ⟨h8, hf⟩ := ck_e hf
    obtain ⟨z9, ez9, hf⟩ := bd_e hf
    obtain ⟨h10, hf⟩ := ck_e hf
    obtain ⟨M11, eM11, hf⟩ := sq_e hf
    have mM11 : M.2.2 ≤ M11.2.2 := by rw [eM11]; exact Nat.le_refl _
    obtain ⟨y12, ey12, hf⟩ := sq_e hf
    have hj := hq23 _ _ _ _ _ hf; omega
theorem mo_X9_courseAfter_23l {z : (Int32 × mm_M)} : ∀ (n : Nat) (x1 : Int32) (x2 : Int32) (x3 : Int32) (x4 : Int32) (M : mm_M), f_X9_courseAfter_23l n x1 x2 x3 x4 M = some z → M.2.2 ≤ z.2.2.2 := by
  intro n
  induction n with
  | zero => intro x1 x2 x3 x4 M hf; exact absurd hf (by simp [f_X9_courseAfter_23l])
  | succ n ih => intro x1 x2 x3 x4 M hf; exact mo_X9_courseAfter_23 ih hf
theorem mo_X9_courseAfter_20 {z : (Int32 × mm_M)} {x1 : Int32} {x2 : Int32} {x3 : Int32} {M : mm_M} (hf : f_X9_courseAfter_20 x1 x2 x3 M = some z) : M.2.2 ≤ z.2.2.2 := by
  unfold f_X9_courseAfter_20 at hf
  have hj := mo_X9_courseAfter_23l fu_ _ _ _ _ _ hf; omega
theorem mo_X9_courseAfter {z : (Int32 × mm_M)} {x1 : Int32} {x2 : Int32} {M : mm_M} (hf : f_X9_courseAfter x1 x2 M = some z) : M.2.2 ≤ z.2.2.2 := by
  unfold f_X9_courseAfter at hf
  obtain ⟨y1, ey1, hf⟩ := sq_e hf
  obtain ⟨h2, hf⟩ := ck_e hf
  by_cases c3 : (M.1 70 y1.toNatClampNeg) = 0
  · rw [if_pos c3] at hf
    obtain ⟨z4, ez4, hf⟩ := bd_e hf
    have mz4 : M.2.2 ≤ z4.2.2 := mo_X9_makeRoom ez4
    have hj := mo_X9_courseAfter_20 hf; omega
  · rw [if_neg c3] at hf
    have hj := mo_X9_courseAfter_94 hf; omega
def f_X3_courseAmong_65 (q14 : Int32 → Int32 → Int32 → Int32 → Int64 → Int32 → mm_M → Option (Int32 × mm_M)) (x1 : Int32) (x2 : Int32) (x3 : Int32) (x4 : Int32) (x5 : Int64) (x7 : Int32) (M : mm_M) : Option (Int32 × mm_M) :=
  sq_ (x7 + 1 : Int32) fun y9 =>
  q14 x1 x2 x3 x4 x5 y9 M
def f_X3_courseAmong_63 (q14 : Int32 → Int32 → Int32 → Int32 → Int64 → Int32 → mm_M → Option (Int32 × mm_M)) (x1 : Int32) (x2 : Int32) (x3 : Int32) (x5 : Int64) (x7 : Int32) (t0 : Int32) (M : mm_M) : Option (Int32 × mm_M) :=
  f_X3_courseAmong_65 q14 x1 x2 x3 t0 x5 x7 M
def f_X3_courseAmong_14 (q14 : Int32 → Int32 → Int32 → Int32 → Int64 → Int32 → mm_M → Option (Int32 × mm_M)) (x1 : Int32) (x2 : Int32) (x3 : Int32) (x4 : Int32) (x5 : Int64) (x7 : Int32) (M : mm_M) : Option (Int32 × mm_M) :=
  if (M.1 14 3) ≤ x7 then (
    some (x4, M)
  ) else (
    sq_ (f_X3_yearIn x5 x7) fun z4 =>
    if x2 < z4 then (
      some (x4, M)
    ) else (
      (f_X3_lawAt x1 x7 M).bind fun z6 =>
      if ((x3 >>> (z6 &&& 31)) &&& 1) = 0 then (
        f_X3_courseAmong_65 q14 x1 x2 x3 x4 x5 x7 M
      ) else (
        (f_X9_courseAfter x4 z6 M).bind fun z8 =>
        f_X3_courseAmong_63 q14 x1 x2 x3 x5 x7 z8.1 z8.2
      )
    )
  )
def f_X3_courseAmong_14l : Nat → Int32 → Int32 → Int32 → Int32 → Int64 → Int32 → mm_M → Option (Int32 × mm_M)
  | 0, _, _, _, _, _, _, _ => none
  | n + 1, x1, x2, x3, x4, x5, x7, M => f_X3_courseAmong_14 (f_X3_courseAmong_14l n) x1 x2 x3 x4 x5 x7 M
def f_X3_courseAmong (x1 : Int32) (x2 : Int32) (x3 : Int32) (M : mm_M) : Option (Int32 × mm_M) :=
  if ix_ok x1 600 then (
  sq_ ((M.2.1 17 x1.toNatClampNeg) : Int64) fun y2 =>
  f_X3_courseAmong_14l fu_ x1 x2 x3 (0 : Int32) y2 (0 : Int32) M
  ) else none
theorem mo_X3_courseAmong_65 {z : (Int32 × mm_M)} {x1 : Int32} {x2 : Int32} {x3 : Int32} {x4 : Int32} {x5 : Int64} {x7 : Int32} {M : mm_M} {q14 : Int32 → Int32 → Int32 → Int32 → Int64 → Int32 → mm_M → Option (Int32 × mm_M)} (hq14 : ∀ (x1 : Int32) (x2 : Int32) (x3 : Int32) (x4 : Int32) (x5 : Int64) (x7 : Int32) (M : mm_M), q14 x1 x2 x3 x4 x5 x7 M = some z → M.2.2 ≤ z.2.2.2) (hf : f_X3_courseAmong_65 q14 x1 x2 x3 x4 x5 x7 M = some z) : M.2.2 ≤ z.2.2.2 := by
  unfold f_X3_courseAmong_65 at hf
  obtain ⟨y9, ey9, hf⟩ := sq_e hf
  have hj := hq14 _ _ _ _ _ _ _ hf; omega
theorem mo_X3_courseAmong_63 {z : (Int32 × mm_M)} {x1 : Int32} {x2 : Int32} {x3 : Int32} {x5 : Int64} {x7 : Int32} {t0 : Int32} {M : mm_M} {q14 : Int32 → Int32 → Int32 → Int32 → Int64 → Int32 → mm_M → Option (Int32 × mm_M)} (hq14 : ∀ (x1 : Int32) (x2 : Int32) (x3 : Int32) (x4 : Int32) (x5 : Int64) (x7 : Int32) (M : mm_M), q14 x1 x2 x3 x4 x5 x7 M = some z → M.2.2 ≤ z.2.2.2) (hf : f_X3_courseAmong_63 q14 x1 x2 x3 x5 x7 t0 M = some z) : M.2.2 ≤ z.2.2.2 := by
  unfold f_X3_courseAmong_63 at hf
  have hj := mo_X3_courseAmong_65 hq14 hf; omega
theorem mo_X3_courseAmong_14 {z : (Int32 × mm_M)} {x1 : Int32} {x2 : Int32} {x3 : Int32} {x4 : Int32} {x5 : Int64} {x7 : Int32} {M : mm_M} {q14 : Int32 → Int32 → Int32 → Int32 → Int64 → Int32 → mm_M → Option (Int32 × mm_M)} (hq14 : ∀ (x1 : Int32) (x2 : Int32) (x3 : Int32) (x4 : Int32) (x5 : Int64) (x7 : Int32) (M : mm_M), q14 x1 x2 x3 x4 x5 x7 M = some z → M.2.2 ≤ z.2.2.2) (hf : f_X3_courseAmong_14 q14 x1 x2 x3 x4 x5 x7 M = some z) : M.2.2 ≤ z.2.2.2 := by
  unfold f_X3_courseAmong_14 at hf
  by_cases c3 : (M.1 14 3) ≤ x7
  · rw [if_pos c3] at hf
    rw [← Option.some.inj hf]; show M.2.2 ≤ M.2.2; exact Nat.le_refl _
  · rw [if_neg c3] at hf
    obtain ⟨z4, ez4, hf⟩ := sq_e hf
    by_cases c5 : x2 < z4
    · rw [if_pos c5] at hf
      rw [← Option.some.inj hf]; show M.2.2 ≤ M.2.2; exact Nat.le_refl _
    · rw [if_neg c5] at hf
      obtain ⟨z6, ez6, hf⟩ := bd_e hf
      by_cases c7 : ((x3 >>> (z6 &&& 31)) &&& 1) = 0
      · rw [if_pos c7] at hf
        have hj := mo_X3_courseAmong_65 hq14 hf; omega
      · rw [if_neg c7] at hf
        obtain ⟨z8, ez8, hf⟩ := bd_e hf
        have mz8 : M.2.2 ≤ z8.2.2.2 := mo_X9_courseAfter ez8
        have hj := mo_X3_courseAmong_63 hq14 hf; omega
theorem mo_X3_courseAmong_14l {z : (Int32 × mm_M)} : ∀ (n : Nat) (x1 : Int32) (x2 : Int32) (x3 : Int32) (x4 : Int32) (x5 : Int64) (x7 : Int32) (M : mm_M), f_X3_courseAmong_14l n x1 x2 x3 x4 x5 x7 M = some z → M.2.2 ≤ z.2.2.2 := by
  intro n
  induction n with
  | zero => intro x1 x2 x3 x4 x5 x7 M hf; exact absurd hf (by simp [f_X3_courseAmong_14l])
  | succ n ih => intro x1 x2 x3 x4 x5 x7 M hf; exact mo_X3_courseAmong_14 ih hf
theorem mo_X3_courseAmong {z : (Int32 × mm_M)} {x1 : Int32} {x2 : Int32} {x3 : Int32} {M : mm_M} (hf : f_X3_courseAmong x1 x2 x3 M = some z) : M.2.2 ≤ z.2.2.2 := by
  unfold f_X3_courseAmong at hf
  obtain ⟨h1, hf⟩ := ck_e hf
  obtain ⟨y2, ey2, hf⟩ := sq_e hf
  have hj := mo_X3_courseAmong_14l fu_ _ _ _ _ _ _ _ hf; omega
def f_X3_courseAt_15 (t0 : Int32) (M : mm_M) : Option (Int32 × mm_M) :=
  some (t0, M)
def f_X3_courseAt (x1 : Int32) (x2 : Int32) (x3 : Int32) (M : mm_M) : Option (Int32 × mm_M) :=
  if ix_ok x3 6 then (
  (f_X3_courseAmong x1 (x2 - (M.1 15 x3.toNatClampNeg)) (63 : Int32) M).bind fun z2 =>
  f_X3_courseAt_15 z2.1 z2.2
  ) else none
theorem mo_X3_courseAt_15 {z : (Int32 × mm_M)} {t0 : Int32} {M : mm_M} (hf : f_X3_courseAt_15 t0 M = some z) : M.2.2 ≤ z.2.2.2 := by
  unfold f_X3_courseAt_15 at hf
  rw [← Option.some.inj hf]; show M.2.2 ≤ M.2.2; exact Nat.le_refl _
theorem mo_X3_courseAt {z : (Int32 × mm_M)} {x1 : Int32} {x2 : Int32} {x3 : Int32} {M : mm_M} (hf : f_X3_courseAt x1 x2 x3 M = some z) : M.2.2 ≤ z.2.2.2 := by
  unfold f_X3_courseAt at hf
  obtain ⟨h1, hf⟩ := ck_e hf
  obtain ⟨z2, ez2, hf⟩ := bd_e hf
  have mz2 : M.2.2 ≤ z2.2.2.2 := mo_X3_courseAmong ez2
  have hj := mo_X3_courseAt_15 hf; omega
def f_X9_formOn (x1 : Int32) (x2 : Int32) (M : mm_M) : Option Int64 :=
  if ix_ok ((x1 * 20) + x2) (20 * M.2.2) then (
  some (M.2.1 71 ((x1 * 20) + x2).toNatClampNeg)
  ) else none
def f_X4_add (x1 : Int64) (M : mm_M) : Option mm_M :=
  if 24 ≤ (M.1 3 1) then (
    some M
  ) else (
    if ix_ok (M.1 3 1) 24 then (
    sq_ (mm_sl M 4 (M.1 3 1).toNatClampNeg x1) fun M3 =>
    sq_ (mm_si M3 3 1 ((M3.1 3 1) + 1)) fun M4 =>
    some M4
    ) else none
  )
theorem mo_X4_add {z : mm_M} {x1 : Int64} {M : mm_M} (hf : f_X4_add x1 M = some z) : M.2.2 ≤ z.2.2 := by
  unfold f_X4_add at hf
  by_cases c1 : 24 ≤ (M.1 3 1)
  · rw [if_pos c1] at hf
    rw [← Option.some.inj hf]; show M.2.2 ≤ M.2.2; exact Nat.le_refl _
  · rw [if_neg c1] at hf
    obtain ⟨h2, hf⟩ := ck_e hf
    obtain ⟨M3, eM3, hf⟩ := sq_e hf
    have mM3 : M.2.2 ≤ M3.2.2 := by rw [eM3]; exact Nat.le_refl _
    obtain ⟨M4, eM4, hf⟩ := sq_e hf
    have mM4 : M3.2.2 ≤ M4.2.2 := by rw [eM4]; exact Nat.le_refl _
    rw [← Option.some.inj hf]; show M.2.2 ≤ M4.2.2; omega
def f_X11_tellSounds_8 (q8 : Int64 → Int32 → Int32 → mm_M → Option (Int32 × mm_M)) (x1 : Int64) (x3 : Int32) (x4 : Int32) (M : mm_M) : Option (Int32 × mm_M) :=
  if x3 ≤ x4 then (
    some (x3, M)
  ) else (
    sq_ (f_X0_soundAt x1 x4) fun z3 =>
    (f_X4_add (z3.toInt64) M).bind fun z4 =>
    sq_ (x4 + 1 : Int32) fun y5 =>
    q8 x1 x3 y5 z4
  )
def f_X11_tellSounds_8l : Nat → Int64 → Int32 → Int32 → mm_M → Option (Int32 × mm_M)
  | 0, _, _, _, _ => none
  | n + 1, x1, x3, x4, M => f_X11_tellSounds_8 (f_X11_tellSounds_8l n) x1 x3 x4 M
def f_X11_tellSounds (x1 : Int64) (M : mm_M) : Option (Int32 × mm_M) :=
  sq_ (f_X0_lengthOf x1) fun z1 =>
  f_X11_tellSounds_8l fu_ x1 z1 (0 : Int32) M
theorem mo_X11_tellSounds_8 {z : (Int32 × mm_M)} {x1 : Int64} {x3 : Int32} {x4 : Int32} {M : mm_M} {q8 : Int64 → Int32 → Int32 → mm_M → Option (Int32 × mm_M)} (hq8 : ∀ (x1 : Int64) (x3 : Int32) (x4 : Int32) (M : mm_M), q8 x1 x3 x4 M = some z → M.2.2 ≤ z.2.2.2) (hf : f_X11_tellSounds_8 q8 x1 x3 x4 M = some z) : M.2.2 ≤ z.2.2.2 := by
  unfold f_X11_tellSounds_8 at hf
  by_cases c2 : x3 ≤ x4
  · rw [if_pos c2] at hf
    rw [← Option.some.inj hf]; show M.2.2 ≤ M.2.2; exact Nat.le_refl _
  · rw [if_neg c2] at hf
    obtain ⟨z3, ez3, hf⟩ := sq_e hf
    obtain ⟨z4, ez4, hf⟩ := bd_e hf
    have mz4 : M.2.2 ≤ z4.2.2 := mo_X4_add ez4
    obtain ⟨y5, ey5, hf⟩ := sq_e hf
    have hj := hq8 _ _ _ _ hf; omega
theorem mo_X11_tellSounds_8l {z : (Int32 × mm_M)} : ∀ (n : Nat) (x1 : Int64) (x3 : Int32) (x4 : Int32) (M : mm_M), f_X11_tellSounds_8l n x1 x3 x4 M = some z → M.2.2 ≤ z.2.2.2 := by
  intro n
  induction n with
  | zero => intro x1 x3 x4 M hf; exact absurd hf (by simp [f_X11_tellSounds_8l])
  | succ n ih => intro x1 x3 x4 M hf; exact mo_X11_tellSounds_8 ih hf
theorem mo_X11_tellSounds {z : (Int32 × mm_M)} {x1 : Int64} {M : mm_M} (hf : f_X11_tellSounds x1 M = some z) : M.2.2 ≤ z.2.2.2 := by
  unfold f_X11_tellSounds at hf
  obtain ⟨z1, ez1, hf⟩ := sq_e hf
  have hj := mo_X11_tellSounds_8l fu_ _ _ _ _ hf; omega
def f_X11_said_44 (x1 : Int32) (t2 : Int32) (M : mm_M) : Option (Int32 × mm_M) :=
  (f_X9_formOn t2 x1 M).bind fun z7 =>
  (f_X11_tellSounds z7 M).bind fun z8 =>
  some (z8.1, z8.2)
def f_X11_said (x1 : Int32) (x2 : Int32) (x3 : Int32) (x4 : Int32) (M : mm_M) : Option (Int32 × mm_M) :=
  sq_ (f_X11_isWord x1 M) fun z1 =>
  if z1 = 0 then (
    some (((-1) : Int32), M)
  ) else (
    sq_ (f_X11_isThenAndThere x2 x3 x4 M) fun z3 =>
    if z3 = 0 then (
      some (((-1) : Int32), M)
    ) else (
      sq_ (f_X4_clear M) fun z5 =>
      (f_X3_courseAt x2 x3 x4 z5).bind fun z6 =>
      f_X11_said_44 x1 z6.1 z6.2
    )
  )
theorem mo_X11_said_44 {z : (Int32 × mm_M)} {x1 : Int32} {t2 : Int32} {M : mm_M} (hf : f_X11_said_44 x1 t2 M = some z) : M.2.2 ≤ z.2.2.2 := by
  unfold f_X11_said_44 at hf
  obtain ⟨z7, ez7, hf⟩ := bd_e hf
  obtain ⟨z8, ez8, hf⟩ := bd_e hf
  have mz8 : M.2.2 ≤ z8.2.2.2 := mo_X11_tellSounds ez8
  rw [← Option.some.inj hf]; show M.2.2 ≤ z8.2.2.2; omega
theorem mo_X11_said {z : (Int32 × mm_M)} {x1 : Int32} {x2 : Int32} {x3 : Int32} {x4 : Int32} {M : mm_M} (hf : f_X11_said x1 x2 x3 x4 M = some z) : M.2.2 ≤ z.2.2.2 := by
  unfold f_X11_said at hf
  obtain ⟨z1, ez1, hf⟩ := sq_e hf
  by_cases c2 : z1 = 0
  · rw [if_pos c2] at hf
    rw [← Option.some.inj hf]; show M.2.2 ≤ M.2.2; exact Nat.le_refl _
  · rw [if_neg c2] at hf
    obtain ⟨z3, ez3, hf⟩ := sq_e hf
    by_cases c4 : z3 = 0
    · rw [if_pos c4] at hf
      rw [← Option.some.inj hf]; show M.2.2 ≤ M.2.2; exact Nat.le_refl _
    · rw [if_neg c4] at hf
      obtain ⟨z5, ez5, hf⟩ := sq_e hf
      have mz5 : M.2.2 ≤ z5.2.2 := mo_X4_clear ez5.symm
      obtain ⟨z6, ez6, hf⟩ := bd_e hf
      have mz6 : z5.2.2 ≤ z6.2.2.2 := mo_X3_courseAt ez6
      have hj := mo_X11_said_44 hf; omega
def f_X3_newsYear (x1 : Int32) (x2 : Int32) (x3 : Int32) (M : mm_M) : Option Int32 :=
  if x2 = 0 then (
    some (0 : Int32)
  ) else (
    if ix_ok x1 600 then (
    sq_ (f_X3_yearIn (M.2.1 17 x1.toNatClampNeg) (x2 - 1)) fun z3 =>
    if ix_ok x3 6 then (
    some (z3 + (M.1 15 x3.toNatClampNeg))
    ) else none ) else none
  )
def f_X11_changes_114 (q46 : Int32 → Int32 → Int32 → Int64 → Int32 → mm_M → Option (Int32 × mm_M)) (x1 : Int32) (x2 : Int32) (x3 : Int32) (x4 : Int64) (x6 : Int32) (M : mm_M) : Option (Int32 × mm_M) :=
  sq_ (x6 + 1 : Int32) fun y15 =>
  q46 x1 x2 x3 x4 y15 M
def f_X11_changes_86 (q46 : Int32 → Int32 → Int32 → Int64 → Int32 → mm_M → Option (Int32 × mm_M)) (x1 : Int32) (x2 : Int32) (x3 : Int32) (x4 : Int64) (x6 : Int32) (x7 : Int32) (t1 : Int32) (M : mm_M) : Option (Int32 × mm_M) :=
  (f_X9_formOn t1 x1 M).bind fun z12 =>
  if z12 = x4 then (
    f_X11_changes_114 q46 x1 x2 x3 x4 x6 M
  ) else (
    (f_X4_add (x7.toInt64) M).bind fun z14 =>
    f_X11_changes_114 q46 x1 x2 x3 z12 x6 z14
  )
def f_X11_changes_120 (M : mm_M) : Option (Int32 × mm_M) :=
  some ((M.1 3 1), M)
def f_X11_changes_46 (q46 : Int32 → Int32 → Int32 → Int64 → Int32 → mm_M → Option (Int32 × mm_M)) (x1 : Int32) (x2 : Int32) (x3 : Int32) (x4 : Int64) (x6 : Int32) (M : mm_M) : Option (Int32 × mm_M) :=
  if (M.1 5 1) < x6 then (
    f_X11_changes_120 M
  ) else (
    (f_X3_newsYear x2 x6 x3 M).bind fun z10 =>
    (f_X3_courseAt x2 z10 x3 M).bind fun z11 =>
    f_X11_changes_86 q46 x1 x2 x3 x4 x6 z10 z11.1 z11.2
  )
def f_X11_changes_46l : Nat → Int32 → Int32 → Int32 → Int64 → Int32 → mm_M → Option (Int32 × mm_M)
  | 0, _, _, _, _, _, _ => none
  | n + 1, x1, x2, x3, x4, x6, M => f_X11_changes_46 (f_X11_changes_46l n) x1 x2 x3 x4 x6 M
def f_X11_changes (x1 : Int32) (x2 : Int32) (x3 : Int32) (M : mm_M) : Option (Int32 × mm_M) :=
  sq_ (f_X11_isWord x1 M) fun z1 =>
  if z1 = 0 then (
    some (((-1) : Int32), M)
  ) else (
    sq_ (f_X11_isHistory x2 M) fun z3 =>
    if z3 = 0 then (
      some (((-1) : Int32), M)
    ) else (
      sq_ (f_X11_isPlace x3) fun z5 =>
      if z5 = 0 then (
        some (((-1) : Int32), M)
      ) else (
        sq_ (f_X4_clear M) fun z7 =>
        (f_X9_formOn (0 : Int32) x1 z7).bind fun z8 =>
        f_X11_changes_46l fu_ x1 x2 x3 z8 (0 : Int32) z7
      )
    )
  )
theorem mo_X11_changes_114 {z : (Int32 × mm_M)} {x1 : Int32} {x2 : Int32} {x3 : Int32} {x4 : Int64} {x6 : Int32} {M : mm_M} {q46 : Int32 → Int32 → Int32 → Int64 → Int32 → mm_M → Option (Int32 × mm_M)} (hq46 : ∀ (x1 : Int32) (x2 : Int32) (x3 : Int32) (x4 : Int64) (x6 : Int32) (M : mm_M), q46 x1 x2 x3 x4 x6 M = some z → M.2.2 ≤ z.2.2.2) (hf : f_X11_changes_114 q46 x1 x2 x3 x4 x6 M = some z) : M.2.2 ≤ z.2.2.2 := by
  unfold f_X11_changes_114 at hf
  obtain ⟨y15, ey15, hf⟩ := sq_e hf
  have hj := hq46 _ _ _ _ _ _ hf; omega
theorem mo_X11_changes_86 {z : (Int32 × mm_M)} {x1 : Int32} {x2 : Int32} {x3 : Int32} {x4 : Int64} {x6 : Int32} {x7 : Int32} {t1 : Int32} {M : mm_M} {q46 : Int32 → Int32 → Int32 → Int64 → Int32 → mm_M → Option (Int32 × mm_M)} (hq46 : ∀ (x1 : Int32) (x2 : Int32) (x3 : Int32) (x4 : Int64) (x6 : Int32) (M : mm_M), q46 x1 x2 x3 x4 x6 M = some z → M.2.2 ≤ z.2.2.2) (hf : f_X11_changes_86 q46 x1 x2 x3 x4 x6 x7 t1 M = some z) : M.2.2 ≤ z.2.2.2 := by
  unfold f_X11_changes_86 at hf
  obtain ⟨z12, ez12, hf⟩ := bd_e hf
  by_cases c13 : z12 = x4
  · rw [if_pos c13] at hf
    have hj := mo_X11_changes_114 hq46 hf; omega
  · rw [if_neg c13] at hf
    obtain ⟨z14, ez14, hf⟩ := bd_e hf
    have mz14 : M.2.2 ≤ z14.2.2 := mo_X4_add ez14
    have hj := mo_X11_changes_114 hq46 hf; omega
theorem mo_X11_changes_120 {z : (Int32 × mm_M)} {M : mm_M} (hf : f_X11_changes_120 M = some z) : M.2.2 ≤ z.2.2.2 := by
  unfold f_X11_changes_120 at hf
  rw [← Option.some.inj hf]; show M.2.2 ≤ M.2.2; exact Nat.le_refl _
theorem mo_X11_changes_46 {z : (Int32 × mm_M)} {x1 : Int32} {x2 : Int32} {x3 : Int32} {x4 : Int64} {x6 : Int32} {M : mm_M} {q46 : Int32 → Int32 → Int32 → Int64 → Int32 → mm_M → Option (Int32 × mm_M)} (hq46 : ∀ (x1 : Int32) (x2 : Int32) (x3 : Int32) (x4 : Int64) (x6 : Int32) (M : mm_M), q46 x1 x2 x3 x4 x6 M = some z → M.2.2 ≤ z.2.2.2) (hf : f_X11_changes_46 q46 x1 x2 x3 x4 x6 M = some z) : M.2.2 ≤ z.2.2.2 := by
  unfold f_X11_changes_46 at hf
  by_cases c9 : (M.1 5 1) < x6
  · rw [if_pos c9] at hf
    have hj := mo_X11_changes_120 hf; omega
  · rw [if_neg c9] at hf
    obtain ⟨z10, ez10, hf⟩ := bd_e hf
    obtain ⟨z11, ez11, hf⟩ := bd_e hf
    have mz11 : M.2.2 ≤ z11.2.2.2 := mo_X3_courseAt ez11
    have hj := mo_X11_changes_86 hq46 hf; omega
theorem mo_X11_changes_46l {z : (Int32 × mm_M)} : ∀ (n : Nat) (x1 : Int32) (x2 : Int32) (x3 : Int32) (x4 : Int64) (x6 : Int32) (M : mm_M), f_X11_changes_46l n x1 x2 x3 x4 x6 M = some z → M.2.2 ≤ z.2.2.2 := by
  intro n
  induction n with
  | zero => intro x1 x2 x3 x4 x6 M hf; exact absurd hf (by simp [f_X11_changes_46l])
  | succ n ih => intro x1 x2 x3 x4 x6 M hf; exact mo_X11_changes_46 ih hf
theorem mo_X11_changes {z : (Int32 × mm_M)} {x1 : Int32} {x2 : Int32} {x3 : Int32} {M : mm_M} (hf : f_X11_changes x1 x2 x3 M = some z) : M.2.2 ≤ z.2.2.2 := by
  unfold f_X11_changes at hf
  obtain ⟨z1, ez1, hf⟩ := sq_e hf
  by_cases c2 : z1 = 0
  · rw [if_pos c2] at hf
    rw [← Option.some.inj hf]; show M.2.2 ≤ M.2.2; exact Nat.le_refl _
  · rw [if_neg c2] at hf
    obtain ⟨z3, ez3, hf⟩ := sq_e hf
    by_cases c4 : z3 = 0
    · rw [if_pos c4] at hf
      rw [← Option.some.inj hf]; show M.2.2 ≤ M.2.2; exact Nat.le_refl _
    · rw [if_neg c4] at hf
      obtain ⟨z5, ez5, hf⟩ := sq_e hf
      by_cases c6 : z5 = 0
      · rw [if_pos c6] at hf
        rw [← Option.some.inj hf]; show M.2.2 ≤ M.2.2; exact Nat.le_refl _
      · rw [if_neg c6] at hf
        obtain ⟨z7, ez7, hf⟩ := sq_e hf
        have mz7 : M.2.2 ≤ z7.2.2 := mo_X4_clear ez7.symm
        obtain ⟨z8, ez8, hf⟩ := bd_e hf
        have hj := mo_X11_changes_46l fu_ _ _ _ _ _ _ hf; omega
def f_X9_vowels (M : mm_M) : Int32 :=
  (M.1 7 (0 : Int32).toNatClampNeg)
def f_X9_tailOn (x1 : Int32) (x2 : Int32) (M : mm_M) : Option Int64 :=
  (f_X9_formOn x1 x2 M).bind fun z1 =>
  sq_ (f_X9_vowels M) fun z2 =>
  (f_X0_tailOf z1 z2).bind fun z3 =>
  some z3
def f_X9_rhymeOn (x1 : Int32) (x2 : Int32) (x3 : Int32) (M : mm_M) : Option Int32 :=
  (f_X9_tailOn x1 x2 M).bind fun z1 =>
  if z1 = 0 then (
    some (0 : Int32)
  ) else (
    (f_X9_tailOn x1 x3 M).bind fun z3 =>
    if z1 = z3 then (
      some (1 : Int32)
    ) else (
      some (0 : Int32)
    )
  )
theorem bz_X9_rhymeOn {z : Int32} {x1 : Int32} {x2 : Int32} {x3 : Int32} {M : mm_M} (hf : f_X9_rhymeOn x1 x2 x3 M = some z) : z = 0 ∨ z = 1 := by
  unfold f_X9_rhymeOn at hf
  obtain ⟨z1, ez1, hf⟩ := bd_e hf
  by_cases c2 : z1 = 0
  · rw [if_pos c2] at hf
    rw [← Option.some.inj hf]; exact (Or.inl rfl)
  · rw [if_neg c2] at hf
    obtain ⟨z3, ez3, hf⟩ := bd_e hf
    by_cases c4 : z1 = z3
    · rw [if_pos c4] at hf
      rw [← Option.some.inj hf]; exact (Or.inr rfl)
    · rw [if_neg c4] at hf
      rw [← Option.some.inj hf]; exact (Or.inl rfl)
def f_X11_alike_42 (x1 : Int32) (x2 : Int32) (t0 : Int32) (M : mm_M) : Option (Int32 × mm_M) :=
  (f_X9_formOn t0 x1 M).bind fun z8 =>
  (f_X9_formOn t0 x2 M).bind fun z9 =>
  if z8 = z9 then (
    some ((2 : Int32), M)
  ) else (
    (f_X9_rhymeOn t0 x1 x2 M).bind fun z11 =>
    if z11 = 0 then (
      some ((0 : Int32), M)
    ) else (
      some ((1 : Int32), M)
    )
  )
def f_X11_alike (x1 : Int32) (x2 : Int32) (x3 : Int32) (x4 : Int32) (x5 : Int32) (M : mm_M) : Option (Int32 × mm_M) :=
  sq_ (f_X11_isWord x1 M) fun z1 =>
  if z1 = 0 then (
    some (((-1) : Int32), M)
  ) else (
    sq_ (f_X11_isWord x2 M) fun z3 =>
    if z3 = 0 then (
      some (((-1) : Int32), M)
    ) else (
      sq_ (f_X11_isThenAndThere x3 x4 x5 M) fun z5 =>
      if z5 = 0 then (
        some (((-1) : Int32), M)
      ) else (
        (f_X3_courseAt x3 x4 x5 M).bind fun z7 =>
        f_X11_alike_42 x1 x2 z7.1 z7.2
      )
    )
  )
theorem mo_X11_alike_42 {z : (Int32 × mm_M)} {x1 : Int32} {x2 : Int32} {t0 : Int32} {M : mm_M} (hf : f_X11_alike_42 x1 x2 t0 M = some z) : M.2.2 ≤ z.2.2.2 := by
  unfold f_X11_alike_42 at hf
  obtain ⟨z8, ez8, hf⟩ := bd_e hf
  obtain ⟨z9, ez9, hf⟩ := bd_e hf
  by_cases c10 : z8 = z9
  · rw [if_pos c10] at hf
    rw [← Option.some.inj hf]; show M.2.2 ≤ M.2.2; exact Nat.le_refl _
  · rw [if_neg c10] at hf
    obtain ⟨z11, ez11, hf⟩ := bd_e hf
    by_cases c12 : z11 = 0
    · rw [if_pos c12] at hf
      rw [← Option.some.inj hf]; show M.2.2 ≤ M.2.2; exact Nat.le_refl _
    · rw [if_neg c12] at hf
      rw [← Option.some.inj hf]; show M.2.2 ≤ M.2.2; exact Nat.le_refl _
theorem mo_X11_alike {z : (Int32 × mm_M)} {x1 : Int32} {x2 : Int32} {x3 : Int32} {x4 : Int32} {x5 : Int32} {M : mm_M} (hf : f_X11_alike x1 x2 x3 x4 x5 M = some z) : M.2.2 ≤ z.2.2.2 := by
  unfold f_X11_alike at hf
  obtain ⟨z1, ez1, hf⟩ := sq_e hf
  by_cases c2 : z1 = 0
  · rw [if_pos c2] at hf
    rw [← Option.some.inj hf]; show M.2.2 ≤ M.2.2; exact Nat.le_refl _
  · rw [if_neg c2] at hf
    obtain ⟨z3, ez3, hf⟩ := sq_e hf
    by_cases c4 : z3 = 0
    · rw [if_pos c4] at hf
      rw [← Option.some.inj hf]; show M.2.2 ≤ M.2.2; exact Nat.le_refl _
    · rw [if_neg c4] at hf
      obtain ⟨z5, ez5, hf⟩ := sq_e hf
      by_cases c6 : z5 = 0
      · rw [if_pos c6] at hf
        rw [← Option.some.inj hf]; show M.2.2 ≤ M.2.2; exact Nat.le_refl _
      · rw [if_neg c6] at hf
        obtain ⟨z7, ez7, hf⟩ := bd_e hf
        have mz7 : M.2.2 ≤ z7.2.2.2 := mo_X3_courseAt ez7
        have hj := mo_X11_alike_42 hf; omega
def f_X11_tellSpan (x1 : Int32) (x2 : Int32) (M : mm_M) : Option mm_M :=
  (f_X4_add (x1.toInt64) M).bind fun z1 =>
  (f_X4_add (x2.toInt64) z1).bind fun z2 =>
  some z2
theorem mo_X11_tellSpan {z : mm_M} {x1 : Int32} {x2 : Int32} {M : mm_M} (hf : f_X11_tellSpan x1 x2 M = some z) : M.2.2 ≤ z.2.2 := by
  unfold f_X11_tellSpan at hf
  obtain ⟨z1, ez1, hf⟩ := bd_e hf
  have mz1 : M.2.2 ≤ z1.2.2 := mo_X4_add ez1
  obtain ⟨z2, ez2, hf⟩ := bd_e hf
  have mz2 : z1.2.2 ≤ z2.2.2 := mo_X4_add ez2
  rw [← Option.some.inj hf]; show M.2.2 ≤ z2.2.2; omega
def f_X11_one_166 (q50 : Int32 → Int32 → Int32 → Int32 → Int32 → Int32 → Int32 → mm_M → Option (Int32 × mm_M)) (x1 : Int32) (x2 : Int32) (x3 : Int32) (x4 : Int32) (x5 : Int32) (x6 : Int32) (x7 : Int32) (M : mm_M) : Option (Int32 × mm_M) :=
  sq_ (x7 + 1 : Int32) fun y24 =>
  q50 x1 x2 x3 x4 x5 x6 y24 M
def f_X11_one_142 (q50 : Int32 → Int32 → Int32 → Int32 → Int32 → Int32 → Int32 → mm_M → Option (Int32 × mm_M)) (x1 : Int32) (x2 : Int32) (x3 : Int32) (x4 : Int32) (x5 : Int32) (x6 : Int32) (x7 : Int32) (x8 : Int32) (x10 : Int32) (M : mm_M) : Option (Int32 × mm_M) :=
  if x10 = 0 then (
    if x6 = (-1) then (
      f_X11_one_166 q50 x1 x2 x3 x4 x5 x6 x7 M
    ) else (
      (f_X11_tellSpan x6 (x8 - 1) M).bind fun z23 =>
      f_X11_one_166 q50 x1 x2 x3 x4 x5 ((-1) : Int32) x7 z23
    )
  ) else (
    f_X11_one_166 q50 x1 x2 x3 x4 x5 x6 x7 M
  )
def f_X11_one_119 (q50 : Int32 → Int32 → Int32 → Int32 → Int32 → Int32 → Int32 → mm_M → Option (Int32 × mm_M)) (x1 : Int32) (x2 : Int32) (x3 : Int32) (x4 : Int32) (x5 : Int32) (x6 : Int32) (x7 : Int32) (x8 : Int32) (t0 : Int32) (M : mm_M) : Option (Int32 × mm_M) :=
  if t0 = 0 then (
    f_X11_one_142 q50 x1 x2 x3 x4 x5 x6 x7 x8 t0 M
  ) else (
    if x6 = (-1) then (
      sq_ (x5 + 1 : Int32) fun y20 =>
      f_X11_one_166 q50 x1 x2 x3 x4 y20 x8 x7 M
    ) else (
      f_X11_one_142 q50 x1 x2 x3 x4 x5 x6 x7 x8 t0 M
    )
  )
def f_X11_one_88 (q50 : Int32 → Int32 → Int32 → Int32 → Int32 → Int32 → Int32 → mm_M → Option (Int32 × mm_M)) (x1 : Int32) (x2 : Int32) (x3 : Int32) (x4 : Int32) (x5 : Int32) (x6 : Int32) (x7 : Int32) (x8 : Int32) (t0 : Int32) (M : mm_M) : Option (Int32 × mm_M) :=
  (f_X9_formOn t0 x1 M).bind fun z15 =>
  (f_X9_formOn t0 x2 M).bind fun z16 =>
  if z15 = z16 then (
    f_X11_one_119 q50 x1 x2 x3 x4 x5 x6 x7 x8 (1 : Int32) M
  ) else (
    f_X11_one_119 q50 x1 x2 x3 x4 x5 x6 x7 x8 (0 : Int32) M
  )
def f_X11_one_172 (x5 : Int32) (x6 : Int32) (M : mm_M) : Option (Int32 × mm_M) :=
  if x6 = (-1) then (
    some (x5, M)
  ) else (
    (f_X11_tellSpan x6 (600 : Int32) M).bind fun z14 =>
    some (x5, z14)
  )
def f_X11_one_50 (q50 : Int32 → Int32 → Int32 → Int32 → Int32 → Int32 → Int32 → mm_M → Option (Int32 × mm_M)) (x1 : Int32) (x2 : Int32) (x3 : Int32) (x4 : Int32) (x5 : Int32) (x6 : Int32) (x7 : Int32) (M : mm_M) : Option (Int32 × mm_M) :=
  if (M.1 5 1) < x7 then (
    f_X11_one_172 x5 x6 M
  ) else (
    (f_X3_newsYear x3 x7 x4 M).bind fun z11 =>
    (f_X3_courseAt x3 z11 x4 M).bind fun z12 =>
    f_X11_one_88 q50 x1 x2 x3 x4 x5 x6 x7 z11 z12.1 z12.2
  )
def f_X11_one_50l : Nat → Int32 → Int32 → Int32 → Int32 → Int32 → Int32 → Int32 → mm_M → Option (Int32 × mm_M)
  | 0, _, _, _, _, _, _, _, _ => none
  | n + 1, x1, x2, x3, x4, x5, x6, x7, M => f_X11_one_50 (f_X11_one_50l n) x1 x2 x3 x4 x5 x6 x7 M
def f_X11_one (x1 : Int32) (x2 : Int32) (x3 : Int32) (x4 : Int32) (M : mm_M) : Option (Int32 × mm_M) :=
  sq_ (f_X11_isWord x1 M) fun z1 =>
  if z1 = 0 then (
    some (((-1) : Int32), M)
  ) else (
    sq_ (f_X11_isWord x2 M) fun z3 =>
    if z3 = 0 then (
      some (((-1) : Int32), M)
    ) else (
      sq_ (f_X11_isHistory x3 M) fun z5 =>
      if z5 = 0 then (
        some (((-1) : Int32), M)
      ) else (
        sq_ (f_X11_isPlace x4) fun z7 =>
        if z7 = 0 then (
          some (((-1) : Int32), M)
        ) else (
          sq_ (f_X4_clear M) fun z9 =>
          f_X11_one_50l fu_ x1 x2 x3 x4 (0 : Int32) ((-1) : Int32) (0 : Int32) z9
        )
      )
    )
  )
theorem mo_X11_one_166 {z : (Int32 × mm_M)} {x1 : Int32} {x2 : Int32} {x3 : Int32} {x4 : Int32} {x5 : Int32} {x6 : Int32} {x7 : Int32} {M : mm_M} {q50 : Int32 → Int32 → Int32 → Int32 → Int32 → Int32 → Int32 → mm_M → Option (Int32 × mm_M)} (hq50 : ∀ (x1 : Int32) (x2 : Int32) (x3 : Int32) (x4 : Int32) (x5 : Int32) (x6 : Int32) (x7 : Int32) (M : mm_M), q50 x1 x2 x3 x4 x5 x6 x7 M = some z → M.2.2 ≤ z.2.2.2) (hf : f_X11_one_166 q50 x1 x2 x3 x4 x5 x6 x7 M = some z) : M.2.2 ≤ z.2.2.2 := by
  unfold f_X11_one_166 at hf
  obtain ⟨y24, ey24, hf⟩ := sq_e hf
  have hj := hq50 _ _ _ _ _ _ _ _ hf; omega
theorem mo_X11_one_142 {z : (Int32 × mm_M)} {x1 : Int32} {x2 : Int32} {x3 : Int32} {x4 : Int32} {x5 : Int32} {x6 : Int32} {x7 : Int32} {x8 : Int32} {x10 : Int32} {M : mm_M} {q50 : Int32 → Int32 → Int32 → Int32 → Int32 → Int32 → Int32 → mm_M → Option (Int32 × mm_M)} (hq50 : ∀ (x1 : Int32) (x2 : Int32) (x3 : Int32) (x4 : Int32) (x5 : Int32) (x6 : Int32) (x7 : Int32) (M : mm_M), q50 x1 x2 x3 x4 x5 x6 x7 M = some z → M.2.2 ≤ z.2.2.2) (hf : f_X11_one_142 q50 x1 x2 x3 x4 x5 x6 x7 x8 x10 M = some z) : M.2.2 ≤ z.2.2.2 := by
  unfold f_X11_one_142 at hf
  by_cases c21 : x10 = 0
  · rw [if_pos c21] at hf
    by_cases c22 : x6 = (-1)
    · rw [if_pos c22] at hf
      have hj := mo_X11_one_166 hq50 hf; omega
    · rw [if_neg c22] at hf
      obtain ⟨z23, ez23, hf⟩ := bd_e hf
      have mz23 : M.2.2 ≤ z23.2.2 := mo_X11_tellSpan ez23
      have hj := mo_X11_one_166 hq50 hf; omega
  · rw [if_neg c21] at hf
    have hj := mo_X11_one_166 hq50 hf; omega
theorem mo_X11_one_119 {z : (Int32 × mm_M)} {x1 : Int32} {x2 : Int32} {x3 : Int32} {x4 : Int32} {x5 : Int32} {x6 : Int32} {x7 : Int32} {x8 : Int32} {t0 : Int32} {M : mm_M} {q50 : Int32 → Int32 → Int32 → Int32 → Int32 → Int32 → Int32 → mm_M → Option (Int32 × mm_M)} (hq50 : ∀ (x1 : Int32) (x2 : Int32) (x3 : Int32) (x4 : Int32) (x5 : Int32) (x6 : Int32) (x7 : Int32) (M : mm_M), q50 x1 x2 x3 x4 x5 x6 x7 M = some z → M.2.2 ≤ z.2.2.2) (hf : f_X11_one_119 q50 x1 x2 x3 x4 x5 x6 x7 x8 t0 M = some z) : M.2.2 ≤ z.2.2.2 := by
  unfold f_X11_one_119 at hf
  by_cases c18 : t0 = 0
  · rw [if_pos c18] at hf
    have hj := mo_X11_one_142 hq50 hf; omega
  · rw [if_neg c18] at hf
    by_cases c19 : x6 = (-1)
    · rw [if_pos c19] at hf
      obtain ⟨y20, ey20, hf⟩ := sq_e hf
      have hj := mo_X11_one_166 hq50 hf; omega
    · rw [if_neg c19] at hf
      have hj := mo_X11_one_142 hq50 hf; omega
theorem mo_X11_one_88 {z : (Int32 × mm_M)} {x1 : Int32} {x2 : Int32} {x3 : Int32} {x4 : Int32} {x5 : Int32} {x6 : Int32} {x7 : Int32} {x8 : Int32} {t0 : Int32} {M : mm_M} {q50 : Int32 → Int32 → Int32 → Int32 → Int32 → Int32 → Int32 → mm_M → Option (Int32 × mm_M)} (hq50 : ∀ (x1 : Int32) (x2 : Int32) (x3 : Int32) (x4 : Int32) (x5 : Int32) (x6 : Int32) (x7 : Int32) (M : mm_M), q50 x1 x2 x3 x4 x5 x6 x7 M = some z → M.2.2 ≤ z.2.2.2) (hf : f_X11_one_88 q50 x1 x2 x3 x4 x5 x6 x7 x8 t0 M = some z) : M.2.2 ≤ z.2.2.2 := by
  unfold f_X11_one_88 at hf
  obtain ⟨z15, ez15, hf⟩ := bd_e hf
  obtain ⟨z16, ez16, hf⟩ := bd_e hf
  by_cases c17 : z15 = z16
  · rw [if_pos c17] at hf
    have hj := mo_X11_one_119 hq50 hf; omega
  · rw [if_neg c17] at hf
    have hj := mo_X11_one_119 hq50 hf; omega
theorem mo_X11_one_172 {z : (Int32 × mm_M)} {x5 : Int32} {x6 : Int32} {M : mm_M} (hf : f_X11_one_172 x5 x6 M = some z) : M.2.2 ≤ z.2.2.2 := by
  unfold f_X11_one_172 at hf
  by_cases c13 : x6 = (-1)
  · rw [if_pos c13] at hf
    rw [← Option.some.inj hf]; show M.2.2 ≤ M.2.2; exact Nat.le_refl _
  · rw [if_neg c13] at hf
    obtain ⟨z14, ez14, hf⟩ := bd_e hf
    have mz14 : M.2.2 ≤ z14.2.2 := mo_X11_tellSpan ez14
    rw [← Option.some.inj hf]; show M.2.2 ≤ z14.2.2; omega
theorem mo_X11_one_50 {z : (Int32 × mm_M)} {x1 : Int32} {x2 : Int32} {x3 : Int32} {x4 : Int32} {x5 : Int32} {x6 : Int32} {x7 : Int32} {M : mm_M} {q50 : Int32 → Int32 → Int32 → Int32 → Int32 → Int32 → Int32 → mm_M → Option (Int32 × mm_M)} (hq50 : ∀ (x1 : Int32) (x2 : Int32) (x3 : Int32) (x4 : Int32) (x5 : Int32) (x6 : Int32) (x7 : Int32) (M : mm_M), q50 x1 x2 x3 x4 x5 x6 x7 M = some z → M.2.2 ≤ z.2.2.2) (hf : f_X11_one_50 q50 x1 x2 x3 x4 x5 x6 x7 M = some z) : M.2.2 ≤ z.2.2.2 := by
  unfold f_X11_one_50 at hf
  by_cases c10 : (M.1 5 1) < x7
  · rw [if_pos c10] at hf
    have hj := mo_X11_one_172 hf; omega
  · rw [if_neg c10] at hf
    obtain ⟨z11, ez11, hf⟩ := bd_e hf
    obtain ⟨z12, ez12, hf⟩ := bd_e hf
    have mz12 : M.2.2 ≤ z12.2.2.2 := mo_X3_courseAt ez12
    have hj := mo_X11_one_88 hq50 hf; omega
theorem mo_X11_one_50l {z : (Int32 × mm_M)} : ∀ (n : Nat) (x1 : Int32) (x2 : Int32) (x3 : Int32) (x4 : Int32) (x5 : Int32) (x6 : Int32) (x7 : Int32) (M : mm_M), f_X11_one_50l n x1 x2 x3 x4 x5 x6 x7 M = some z → M.2.2 ≤ z.2.2.2 := by
  intro n
  induction n with
  | zero => intro x1 x2 x3 x4 x5 x6 x7 M hf; exact absurd hf (by simp [f_X11_one_50l])
  | succ n ih => intro x1 x2 x3 x4 x5 x6 x7 M hf; exact mo_X11_one_50 ih hf
theorem mo_X11_one {z : (Int32 × mm_M)} {x1 : Int32} {x2 : Int32} {x3 : Int32} {x4 : Int32} {M : mm_M} (hf : f_X11_one x1 x2 x3 x4 M = some z) : M.2.2 ≤ z.2.2.2 := by
  unfold f_X11_one at hf
  obtain ⟨z1, ez1, hf⟩ := sq_e hf
  by_cases c2 : z1 = 0
  · rw [if_pos c2] at hf
    rw [← Option.some.inj hf]; show M.2.2 ≤ M.2.2; exact Nat.le_refl _
  · rw [if_neg c2] at hf
    obtain ⟨z3, ez3, hf⟩ := sq_e hf
    by_cases c4 : z3 = 0
    · rw [if_pos c4] at hf
      rw [← Option.some.inj hf]; show M.2.2 ≤ M.2.2; exact Nat.le_refl _
    · rw [if_neg c4] at hf
      obtain ⟨z5, ez5, hf⟩ := sq_e hf
      by_cases c6 : z5 = 0
      · rw [if_pos c6] at hf
        rw [← Option.some.inj hf]; show M.2.2 ≤ M.2.2; exact Nat.le_refl _
      · rw [if_neg c6] at hf
        obtain ⟨z7, ez7, hf⟩ := sq_e hf
        by_cases c8 : z7 = 0
        · rw [if_pos c8] at hf
          rw [← Option.some.inj hf]; show M.2.2 ≤ M.2.2; exact Nat.le_refl _
        · rw [if_neg c8] at hf
          obtain ⟨z9, ez9, hf⟩ := sq_e hf
          have mz9 : M.2.2 ≤ z9.2.2 := mo_X4_clear ez9.symm
          have hj := mo_X11_one_50l fu_ _ _ _ _ _ _ _ _ hf; omega
def f_X11_rhymes_87 (q44 : Int32 → Int32 → Int32 → mm_M → Option (Int32 × mm_M)) (x1 : Int32) (x5 : Int32) (x6 : Int32) (M : mm_M) : Option (Int32 × mm_M) :=
  sq_ (x6 + 1 : Int32) fun y12 =>
  q44 x1 x5 y12 M
def f_X11_rhymes_93 (M : mm_M) : Option (Int32 × mm_M) :=
  some ((M.1 3 1), M)
def f_X11_rhymes_44 (q44 : Int32 → Int32 → Int32 → mm_M → Option (Int32 × mm_M)) (x1 : Int32) (x5 : Int32) (x6 : Int32) (M : mm_M) : Option (Int32 × mm_M) :=
  if (M.1 5 2) ≤ x6 then (
    f_X11_rhymes_93 M
  ) else (
    if x6 = x1 then (
      f_X11_rhymes_87 q44 x1 x5 x6 M
    ) else (
      (f_X9_rhymeOn x5 x1 x6 M).bind fun z9 =>
      if z9 = 0 then (
        f_X11_rhymes_87 q44 x1 x5 x6 M
      ) else (
        (f_X4_add (x6.toInt64) M).bind fun z11 =>
        f_X11_rhymes_87 q44 x1 x5 x6 z11
      )
    )
  )
def f_X11_rhymes_44l : Nat → Int32 → Int32 → Int32 → mm_M → Option (Int32 × mm_M)
  | 0, _, _, _, _ => none
  | n + 1, x1, x5, x6, M => f_X11_rhymes_44 (f_X11_rhymes_44l n) x1 x5 x6 M
def f_X11_rhymes_32 (x1 : Int32) (t0 : Int32) (M : mm_M) : Option (Int32 × mm_M) :=
  sq_ (f_X4_clear M) fun z6 =>
  f_X11_rhymes_44l fu_ x1 t0 (0 : Int32) z6
def f_X11_rhymes (x1 : Int32) (x2 : Int32) (x3 : Int32) (x4 : Int32) (M : mm_M) : Option (Int32 × mm_M) :=
  sq_ (f_X11_isWord x1 M) fun z1 =>
  if z1 = 0 then (
    some (((-1) : Int32), M)
  ) else (
    sq_ (f_X11_isThenAndThere x2 x3 x4 M) fun z3 =>
    if z3 = 0 then (
      some (((-1) : Int32), M)
    ) else (
      (f_X3_courseAt x2 x3 x4 M).bind fun z5 =>
      f_X11_rhymes_32 x1 z5.1 z5.2
    )
  )
theorem mo_X11_rhymes_87 {z : (Int32 × mm_M)} {x1 : Int32} {x5 : Int32} {x6 : Int32} {M : mm_M} {q44 : Int32 → Int32 → Int32 → mm_M → Option (Int32 × mm_M)} (hq44 : ∀ (x1 : Int32) (x5 : Int32) (x6 : Int32) (M : mm_M), q44 x1 x5 x6 M = some z → M.2.2 ≤ z.2.2.2) (hf : f_X11_rhymes_87 q44 x1 x5 x6 M = some z) : M.2.2 ≤ z.2.2.2 := by
  unfold f_X11_rhymes_87 at hf
  obtain ⟨y12, ey12, hf⟩ := sq_e hf
  have hj := hq44 _ _ _ _ hf; omega
theorem mo_X11_rhymes_93 {z : (Int32 × mm_M)} {M : mm_M} (hf : f_X11_rhymes_93 M = some z) : M.2.2 ≤ z.2.2.2 := by
  unfold f_X11_rhymes_93 at hf
  rw [← Option.some.inj hf]; show M.2.2 ≤ M.2.2; exact Nat.le_refl _
theorem mo_X11_rhymes_44 {z : (Int32 × mm_M)} {x1 : Int32} {x5 : Int32} {x6 : Int32} {M : mm_M} {q44 : Int32 → Int32 → Int32 → mm_M → Option (Int32 × mm_M)} (hq44 : ∀ (x1 : Int32) (x5 : Int32) (x6 : Int32) (M : mm_M), q44 x1 x5 x6 M = some z → M.2.2 ≤ z.2.2.2) (hf : f_X11_rhymes_44 q44 x1 x5 x6 M = some z) : M.2.2 ≤ z.2.2.2 := by
  unfold f_X11_rhymes_44 at hf
  by_cases c7 : (M.1 5 2) ≤ x6
  · rw [if_pos c7] at hf
    have hj := mo_X11_rhymes_93 hf; omega
  · rw [if_neg c7] at hf
    by_cases c8 : x6 = x1
    · rw [if_pos c8] at hf
      have hj := mo_X11_rhymes_87 hq44 hf; omega
    · rw [if_neg c8] at hf
      obtain ⟨z9, ez9, hf⟩ := bd_e hf
      by_cases c10 : z9 = 0
      · rw [if_pos c10] at hf
        have hj := mo_X11_rhymes_87 hq44 hf; omega
      · rw [if_neg c10] at hf
        obtain ⟨z11, ez11, hf⟩ := bd_e hf
        have mz11 : M.2.2 ≤ z11.2.2 := mo_X4_add ez11
        have hj := mo_X11_rhymes_87 hq44 hf; omega
theorem mo_X11_rhymes_44l {z : (Int32 × mm_M)} : ∀ (n : Nat) (x1 : Int32) (x5 : Int32) (x6 : Int32) (M : mm_M), f_X11_rhymes_44l n x1 x5 x6 M = some z → M.2.2 ≤ z.2.2.2 := by
  intro n
  induction n with
  | zero => intro x1 x5 x6 M hf; exact absurd hf (by simp [f_X11_rhymes_44l])
  | succ n ih => intro x1 x5 x6 M hf; exact mo_X11_rhymes_44 ih hf
theorem mo_X11_rhymes_32 {z : (Int32 × mm_M)} {x1 : Int32} {t0 : Int32} {M : mm_M} (hf : f_X11_rhymes_32 x1 t0 M = some z) : M.2.2 ≤ z.2.2.2 := by
  unfold f_X11_rhymes_32 at hf
  obtain ⟨z6, ez6, hf⟩ := sq_e hf
  have mz6 : M.2.2 ≤ z6.2.2 := mo_X4_clear ez6.symm
  have hj := mo_X11_rhymes_44l fu_ _ _ _ _ hf; omega
theorem mo_X11_rhymes {z : (Int32 × mm_M)} {x1 : Int32} {x2 : Int32} {x3 : Int32} {x4 : Int32} {M : mm_M} (hf : f_X11_rhymes x1 x2 x3 x4 M = some z) : M.2.2 ≤ z.2.2.2 := by
  unfold f_X11_rhymes at hf
  obtain ⟨z1, ez1, hf⟩ := sq_e hf
  by_cases c2 : z1 = 0
  · rw [if_pos c2] at hf
    rw [← Option.some.inj hf]; show M.2.2 ≤ M.2.2; exact Nat.le_refl _
  · rw [if_neg c2] at hf
    obtain ⟨z3, ez3, hf⟩ := sq_e hf
    by_cases c4 : z3 = 0
    · rw [if_pos c4] at hf
      rw [← Option.some.inj hf]; show M.2.2 ≤ M.2.2; exact Nat.le_refl _
    · rw [if_neg c4] at hf
      obtain ⟨z5, ez5, hf⟩ := bd_e hf
      have mz5 : M.2.2 ≤ z5.2.2.2 := mo_X3_courseAt ez5
      have hj := mo_X11_rhymes_32 hf; omega
def f_X4_sharedDivisor_9 (q9 : Int64 → Int64 → Int32 → Option Int64) (x4 : Int64) (x6 : Int64) (x8 : Int32) : Option Int64 :=
  if 200 ≤ x8 then (
    some x4
  ) else (
    if x6 = 0 then (
      some x4
    ) else (
      if ¬ x6 = 0 then (
      sq_ ((x4 - x4 / x6 * x6) : Int64) fun y4 =>
      sq_ (x8 + 1 : Int32) fun y5 =>
      q9 x6 y4 y5
      ) else none
    )
  )
def f_X4_sharedDivisor_9l : Nat → Int64 → Int64 → Int32 → Option Int64
  | 0, _, _, _ => none
  | n + 1, x4, x6, x8 => f_X4_sharedDivisor_9 (f_X4_sharedDivisor_9l n) x4 x6 x8
def f_X4_sharedDivisor (x0 : Int64) (x2 : Int64) : Option Int64 :=
  f_X4_sharedDivisor_9l fu_ x0 x2 (0 : Int32)
def f_X4_addFraction (x1 : Int64) (x3 : Int64) (M : mm_M) : Option mm_M :=
  (f_X4_sharedDivisor x1 x3).bind fun z1 =>
  if z1 ≤ 0 then (
    some M
  ) else (
    if ¬ z1 = 0 then (
    (f_X4_add (x1 / z1) M).bind fun z4 =>
    if ¬ z1 = 0 then (
    (f_X4_add (x3 / z1) z4).bind fun z6 =>
    some z6
    ) else none ) else none
  )
theorem mo_X4_addFraction {z : mm_M} {x1 : Int64} {x3 : Int64} {M : mm_M} (hf : f_X4_addFraction x1 x3 M = some z) : M.2.2 ≤ z.2.2 := by
  unfold f_X4_addFraction at hf
  obtain ⟨z1, ez1, hf⟩ := bd_e hf
  by_cases c2 : z1 ≤ 0
  · rw [if_pos c2] at hf
    rw [← Option.some.inj hf]; show M.2.2 ≤ M.2.2; exact Nat.le_refl _
  · rw [if_neg c2] at hf
    obtain ⟨h3, hf⟩ := ck_e hf
    obtain ⟨z4, ez4, hf⟩ := bd_e hf
    have mz4 : M.2.2 ≤ z4.2.2 := mo_X4_add ez4
    obtain ⟨h5, hf⟩ := ck_e hf
    obtain ⟨z6, ez6, hf⟩ := bd_e hf
    have mz6 : z4.2.2 ≤ z6.2.2 := mo_X4_add ez6
    rw [← Option.some.inj hf]; show M.2.2 ≤ z6.2.2; omega
def f_X11_chance_91 (q61 : Int32 → Int32 → Int32 → Int32 → Int32 → mm_M → Option (Int32 × mm_M)) (x4 : Int32) (x5 : Int32) (x7 : Int32) (x8 : Int32) (t0 : Int32) (t1 : Int32) (M : mm_M) : Option (Int32 × mm_M) :=
  sq_ ((t0 + t1) : Int32) fun y14 =>
  sq_ (x8 + 1 : Int32) fun y15 =>
  q61 x4 x5 y14 x7 y15 M
def f_X11_chance_100 (q48 : Int32 → Int32 → Int32 → Int32 → mm_M → Option (Int32 × mm_M)) (x4 : Int32) (x5 : Int32) (x6 : Int32) (x7 : Int32) (M : mm_M) : Option (Int32 × mm_M) :=
  sq_ (x7 + 1 : Int32) fun y13 =>
  q48 x4 x5 x6 y13 M
def f_X11_chance_61 (q48 : Int32 → Int32 → Int32 → Int32 → mm_M → Option (Int32 × mm_M)) (q61 : Int32 → Int32 → Int32 → Int32 → Int32 → mm_M → Option (Int32 × mm_M)) (x4 : Int32) (x5 : Int32) (x6 : Int32) (x7 : Int32) (x8 : Int32) (M : mm_M) : Option (Int32 × mm_M) :=
  if x4 ≤ x8 then (
    f_X11_chance_100 q48 x4 x5 x6 x7 M
  ) else (
    (f_X9_rhymeOn x5 x7 x8 M).bind fun z11 =>
    if z11 = 0 then (
      f_X11_chance_91 q61 x4 x5 x7 x8 x6 (0 : Int32) M
    ) else (
      f_X11_chance_91 q61 x4 x5 x7 x8 x6 (1 : Int32) M
    )
  )
def f_X11_chance_61l (q48 : Int32 → Int32 → Int32 → Int32 → mm_M → Option (Int32 × mm_M)) : Nat → Int32 → Int32 → Int32 → Int32 → Int32 → mm_M → Option (Int32 × mm_M)
  | 0, _, _, _, _, _, _ => none
  | n + 1, x4, x5, x6, x7, x8, M => f_X11_chance_61 q48 (f_X11_chance_61l q48 n) x4 x5 x6 x7 x8 M
def f_X11_chance_106 (x4 : Int32) (x6 : Int32) (M : mm_M) : Option (Int32 × mm_M) :=
  sq_ (f_X4_clear M) fun z8 =>
  (f_X4_addFraction (x6.toInt64) (((x4 * (x4 - 1)) / 2).toInt64) z8).bind fun z9 =>
  some ((0 : Int32), z9)
def f_X11_chance_48 (q48 : Int32 → Int32 → Int32 → Int32 → mm_M → Option (Int32 × mm_M)) (x4 : Int32) (x5 : Int32) (x6 : Int32) (x7 : Int32) (M : mm_M) : Option (Int32 × mm_M) :=
  if x4 ≤ x7 then (
    f_X11_chance_106 x4 x6 M
  ) else (
    sq_ ((x7 + 1) : Int32) fun y7 =>
    f_X11_chance_61l q48 fu_ x4 x5 x6 x7 y7 M
  )
def f_X11_chance_48l : Nat → Int32 → Int32 → Int32 → Int32 → mm_M → Option (Int32 × mm_M)
  | 0, _, _, _, _, _ => none
  | n + 1, x4, x5, x6, x7, M => f_X11_chance_48 (f_X11_chance_48l n) x4 x5 x6 x7 M
def f_X11_chance_40 (x4 : Int32) (t0 : Int32) (M : mm_M) : Option (Int32 × mm_M) :=
  f_X11_chance_48l fu_ x4 t0 (0 : Int32) (0 : Int32) M
def f_X11_chance (x1 : Int32) (x2 : Int32) (x3 : Int32) (M : mm_M) : Option (Int32 × mm_M) :=
  sq_ (f_X11_isThenAndThere x1 x2 x3 M) fun z1 =>
  if z1 = 0 then (
    some (((-1) : Int32), M)
  ) else (
    sq_ ((M.1 5 2) : Int32) fun y3 =>
    if 2 ≤ y3 then (
      (f_X3_courseAt x1 x2 x3 M).bind fun z5 =>
      f_X11_chance_40 y3 z5.1 z5.2
    ) else (
      some (((-2) : Int32), M)
    )
  )
theorem mo_X11_chance_91 {z : (Int32 × mm_M)} {x4 : Int32} {x5 : Int32} {x7 : Int32} {x8 : Int32} {t0 : Int32} {t1 : Int32} {M : mm_M} {q61 : Int32 → Int32 → Int32 → Int32 → Int32 → mm_M → Option (Int32 × mm_M)} (hq61 : ∀ (x4 : Int32) (x5 : Int32) (x6 : Int32) (x7 : Int32) (x8 : Int32) (M : mm_M), q61 x4 x5 x6 x7 x8 M = some z → M.2.2 ≤ z.2.2.2) (hf : f_X11_chance_91 q61 x4 x5 x7 x8 t0 t1 M = some z) : M.2.2 ≤ z.2.2.2 := by
  unfold f_X11_chance_91 at hf
  obtain ⟨y14, ey14, hf⟩ := sq_e hf
  obtain ⟨y15, ey15, hf⟩ := sq_e hf
  have hj := hq61 _ _ _ _ _ _ hf; omega
theorem mo_X11_chance_100 {z : (Int32 × mm_M)} {x4 : Int32} {x5 : Int32} {x6 : Int32} {x7 : Int32} {M : mm_M} {q48 : Int32 → Int32 → Int32 → Int32 → mm_M → Option (Int32 × mm_M)} (hq48 : ∀ (x4 : Int32) (x5 : Int32) (x6 : Int32) (x7 : Int32) (M : mm_M), q48 x4 x5 x6 x7 M = some z → M.2.2 ≤ z.2.2.2) (hf : f_X11_chance_100 q48 x4 x5 x6 x7 M = some z) : M.2.2 ≤ z.2.2.2 := by
  unfold f_X11_chance_100 at hf
  obtain ⟨y13, ey13, hf⟩ := sq_e hf
  have hj := hq48 _ _ _ _ _ hf; omega
theorem mo_X11_chance_61 {z : (Int32 × mm_M)} {x4 : Int32} {x5 : Int32} {x6 : Int32} {x7 : Int32} {x8 : Int32} {M : mm_M} {q48 : Int32 → Int32 → Int32 → Int32 → mm_M → Option (Int32 × mm_M)} (hq48 : ∀ (x4 : Int32) (x5 : Int32) (x6 : Int32) (x7 : Int32) (M : mm_M), q48 x4 x5 x6 x7 M = some z → M.2.2 ≤ z.2.2.2) {q61 : Int32 → Int32 → Int32 → Int32 → Int32 → mm_M → Option (Int32 × mm_M)} (hq61 : ∀ (x4 : Int32) (x5 : Int32) (x6 : Int32) (x7 : Int32) (x8 : Int32) (M : mm_M), q61 x4 x5 x6 x7 x8 M = some z → M.2.2 ≤ z.2.2.2) (hf : f_X11_chance_61 q48 q61 x4 x5 x6 x7 x8 M = some z) : M.2.2 ≤ z.2.2.2 := by
  unfold f_X11_chance_61 at hf
  by_cases c10 : x4 ≤ x8
  · rw [if_pos c10] at hf
    have hj := mo_X11_chance_100 hq48 hf; omega
  · rw [if_neg c10] at hf
    obtain ⟨z11, ez11, hf⟩ := bd_e hf
    by_cases c12 : z11 = 0
    · rw [if_pos c12] at hf
      have hj := mo_X11_chance_91 hq61 hf; omega
    · rw [if_neg c12] at hf
      have hj := mo_X11_chance_91 hq61 hf; omega
theorem mo_X11_chance_61l {z : (Int32 × mm_M)} {q48 : Int32 → Int32 → Int32 → Int32 → mm_M → Option (Int32 × mm_M)} (hq48 : ∀ (x4 : Int32) (x5 : Int32) (x6 : Int32) (x7 : Int32) (M : mm_M), q48 x4 x5 x6 x7 M = some z → M.2.2 ≤ z.2.2.2) : ∀ (n : Nat) (x4 : Int32) (x5 : Int32) (x6 : Int32) (x7 : Int32) (x8 : Int32) (M : mm_M), f_X11_chance_61l q48 n x4 x5 x6 x7 x8 M = some z → M.2.2 ≤ z.2.2.2 := by
  intro n
  induction n with
  | zero => intro x4 x5 x6 x7 x8 M hf; exact absurd hf (by simp [f_X11_chance_61l])
  | succ n ih => intro x4 x5 x6 x7 x8 M hf; exact mo_X11_chance_61 hq48 ih hf
theorem mo_X11_chance_106 {z : (Int32 × mm_M)} {x4 : Int32} {x6 : Int32} {M : mm_M} (hf : f_X11_chance_106 x4 x6 M = some z) : M.2.2 ≤ z.2.2.2 := by
  unfold f_X11_chance_106 at hf
  obtain ⟨z8, ez8, hf⟩ := sq_e hf
  have mz8 : M.2.2 ≤ z8.2.2 := mo_X4_clear ez8.symm
  obtain ⟨z9, ez9, hf⟩ := bd_e hf
  have mz9 : z8.2.2 ≤ z9.2.2 := mo_X4_addFraction ez9
  rw [← Option.some.inj hf]; show M.2.2 ≤ z9.2.2; omega
theorem mo_X11_chance_48 {z : (Int32 × mm_M)} {x4 : Int32} {x5 : Int32} {x6 : Int32} {x7 : Int32} {M : mm_M} {q48 : Int32 → Int32 → Int32 → Int32 → mm_M → Option (Int32 × mm_M)} (hq48 : ∀ (x4 : Int32) (x5 : Int32) (x6 : Int32) (x7 : Int32) (M : mm_M), q48 x4 x5 x6 x7 M = some z → M.2.2 ≤ z.2.2.2) (hf : f_X11_chance_48 q48 x4 x5 x6 x7 M = some z) : M.2.2 ≤ z.2.2.2 := by
  unfold f_X11_chance_48 at hf
  by_cases c6 : x4 ≤ x7
  · rw [if_pos c6] at hf
    have hj := mo_X11_chance_106 hf; omega
  · rw [if_neg c6] at hf
    obtain ⟨y7, ey7, hf⟩ := sq_e hf
    have hj := mo_X11_chance_61l hq48 fu_ _ _ _ _ _ _ hf; omega
theorem mo_X11_chance_48l {z : (Int32 × mm_M)} : ∀ (n : Nat) (x4 : Int32) (x5 : Int32) (x6 : Int32) (x7 : Int32) (M : mm_M), f_X11_chance_48l n x4 x5 x6 x7 M = some z → M.2.2 ≤ z.2.2.2 := by
  intro n
  induction n with
  | zero => intro x4 x5 x6 x7 M hf; exact absurd hf (by simp [f_X11_chance_48l])
  | succ n ih => intro x4 x5 x6 x7 M hf; exact mo_X11_chance_48 ih hf
theorem mo_X11_chance_40 {z : (Int32 × mm_M)} {x4 : Int32} {t0 : Int32} {M : mm_M} (hf : f_X11_chance_40 x4 t0 M = some z) : M.2.2 ≤ z.2.2.2 := by
  unfold f_X11_chance_40 at hf
  have hj := mo_X11_chance_48l fu_ _ _ _ _ _ hf; omega
theorem mo_X11_chance {z : (Int32 × mm_M)} {x1 : Int32} {x2 : Int32} {x3 : Int32} {M : mm_M} (hf : f_X11_chance x1 x2 x3 M = some z) : M.2.2 ≤ z.2.2.2 := by
  unfold f_X11_chance at hf
  obtain ⟨z1, ez1, hf⟩ := sq_e hf
  by_cases c2 : z1 = 0
  · rw [if_pos c2] at hf
    rw [← Option.some.inj hf]; show M.2.2 ≤ M.2.2; exact Nat.le_refl _
  · rw [if_neg c2] at hf
    obtain ⟨y3, ey3, hf⟩ := sq_e hf
    by_cases c4 : 2 ≤ y3
    · rw [if_pos c4] at hf
      obtain ⟨z5, ez5, hf⟩ := bd_e hf
      have mz5 : M.2.2 ≤ z5.2.2.2 := mo_X3_courseAt ez5
      have hj := mo_X11_chance_40 hf; omega
    · rw [if_neg c4] at hf
      rw [← Option.some.inj hf]; show M.2.2 ≤ M.2.2; exact Nat.le_refl _
def f_X11_isLaw (x1 : Int32) (M : mm_M) : Int32 :=
  sq_ (f_X11_isBelow x1 (M.1 5 1)) fun z1 =>
  z1
theorem bz_X11_isLaw {z : Int32} {x1 : Int32} {M : mm_M} (hf : f_X11_isLaw x1 M = z) : z = 0 ∨ z = 1 := by
  unfold f_X11_isLaw at hf
  obtain ⟨z1, ez1, hf⟩ := sq_e hf
  rw [← hf]; exact (bz_X11_isBelow ez1.symm)
def f_X3_turnOf_2 (q2 : Int32 → Int32 → Int32 → Option Int32) (x1 : Int32) (x2 : Int32) (x3 : Int32) (M : mm_M) : Option Int32 :=
  if ((M.1 14 3) - 1) ≤ x3 then (
    some x3
  ) else (
    (f_X3_lawAt x1 x3 M).bind fun z2 =>
    if z2 = x2 then (
      some x3
    ) else (
      sq_ (x3 + 1 : Int32) fun y4 =>
      q2 x1 x2 y4
    )
  )
def f_X3_turnOf_2l (M : mm_M) : Nat → Int32 → Int32 → Int32 → Option Int32
  | 0, _, _, _ => none
  | n + 1, x1, x2, x3 => f_X3_turnOf_2 (f_X3_turnOf_2l M n) x1 x2 x3 M
def f_X3_turnOf (x1 : Int32) (x2 : Int32) (M : mm_M) : Option Int32 :=
  f_X3_turnOf_2l M fu_ x1 x2 (0 : Int32)
def f_X3_yearOf (x1 : Int32) (x2 : Int32) (M : mm_M) : Option Int32 :=
  if ix_ok x1 600 then (
  (f_X3_turnOf x1 x2 M).bind fun z2 =>
  sq_ (f_X3_yearIn (M.2.1 17 x1.toNatClampNeg) z2) fun z3 =>
  some z3
  ) else none
def f_X3_hasCome (x1 : Int32) (x2 : Int32) (x3 : Int32) (x4 : Int32) (M : mm_M) : Option Int32 :=
  (f_X3_yearOf x2 x1 M).bind fun z1 =>
  if ix_ok x4 6 then (
  if x3 < (z1 + (M.1 15 x4.toNatClampNeg)) then (
    some (0 : Int32)
  ) else (
    some (1 : Int32)
  )
  ) else none
theorem bz_X3_hasCome {z : Int32} {x1 : Int32} {x2 : Int32} {x3 : Int32} {x4 : Int32} {M : mm_M} (hf : f_X3_hasCome x1 x2 x3 x4 M = some z) : z = 0 ∨ z = 1 := by
  unfold f_X3_hasCome at hf
  obtain ⟨z1, ez1, hf⟩ := bd_e hf
  obtain ⟨h2, hf⟩ := ck_e hf
  by_cases c3 : x3 < (z1 + (M.1 15 x4.toNatClampNeg))
  · rw [if_pos c3] at hf
    rw [← Option.some.inj hf]; exact (Or.inl rfl)
  · rw [if_neg c3] at hf
    rw [← Option.some.inj hf]; exact (Or.inr rfl)
def f_X3_courseUpTo_40 (q5 : Int32 → Int32 → Int32 → Int32 → mm_M → Option (Int32 × mm_M)) (x1 : Int32) (x2 : Int32) (x4 : Int32) (t0 : Int32) (M : mm_M) : Option (Int32 × mm_M) :=
  sq_ (x4 + 1 : Int32) fun y6 =>
  q5 x1 x2 t0 y6 M
def f_X3_courseUpTo_5 (q5 : Int32 → Int32 → Int32 → Int32 → mm_M → Option (Int32 × mm_M)) (x1 : Int32) (x2 : Int32) (x3 : Int32) (x4 : Int32) (M : mm_M) : Option (Int32 × mm_M) :=
  if (M.1 14 3) ≤ x4 then (
    some (x3, M)
  ) else (
    (f_X3_lawAt x1 x4 M).bind fun z2 =>
    if z2 = x2 then (
      some (x3, M)
    ) else (
      (f_X3_lawAt x1 x4 M).bind fun z4 =>
      (f_X9_courseAfter x3 z4 M).bind fun z5 =>
      f_X3_courseUpTo_40 q5 x1 x2 x4 z5.1 z5.2
    )
  )
def f_X3_courseUpTo_5l : Nat → Int32 → Int32 → Int32 → Int32 → mm_M → Option (Int32 × mm_M)
  | 0, _, _, _, _, _ => none
  | n + 1, x1, x2, x3, x4, M => f_X3_courseUpTo_5 (f_X3_courseUpTo_5l n) x1 x2 x3 x4 M
def f_X3_courseUpTo (x1 : Int32) (x2 : Int32) (M : mm_M) : Option (Int32 × mm_M) :=
  f_X3_courseUpTo_5l fu_ x1 x2 (0 : Int32) (0 : Int32) M
theorem mo_X3_courseUpTo_40 {z : (Int32 × mm_M)} {x1 : Int32} {x2 : Int32} {x4 : Int32} {t0 : Int32} {M : mm_M} {q5 : Int32 → Int32 → Int32 → Int32 → mm_M → Option (Int32 × mm_M)} (hq5 : ∀ (x1 : Int32) (x2 : Int32) (x3 : Int32) (x4 : Int32) (M : mm_M), q5 x1 x2 x3 x4 M = some z → M.2.2 ≤ z.2.2.2) (hf : f_X3_courseUpTo_40 q5 x1 x2 x4 t0 M = some z) : M.2.2 ≤ z.2.2.2 := by
  unfold f_X3_courseUpTo_40 at hf
  obtain ⟨y6, ey6, hf⟩ := sq_e hf
  have hj := hq5 _ _ _ _ _ hf; omega
theorem mo_X3_courseUpTo_5 {z : (Int32 × mm_M)} {x1 : Int32} {x2 : Int32} {x3 : Int32} {x4 : Int32} {M : mm_M} {q5 : Int32 → Int32 → Int32 → Int32 → mm_M → Option (Int32 × mm_M)} (hq5 : ∀ (x1 : Int32) (x2 : Int32) (x3 : Int32) (x4 : Int32) (M : mm_M), q5 x1 x2 x3 x4 M = some z → M.2.2 ≤ z.2.2.2) (hf : f_X3_courseUpTo_5 q5 x1 x2 x3 x4 M = some z) : M.2.2 ≤ z.2.2.2 := by
  unfold f_X3_courseUpTo_5 at hf
  by_cases c1 : (M.1 14 3) ≤ x4
  · rw [if_pos c1] at hf
    rw [← Option.some.inj hf]; show M.2.2 ≤ M.2.2; exact Nat.le_refl _
  · rw [if_neg c1] at hf
    obtain ⟨z2, ez2, hf⟩ := bd_e hf
    by_cases c3 : z2 = x2
    · rw [if_pos c3] at hf
      rw [← Option.some.inj hf]; show M.2.2 ≤ M.2.2; exact Nat.le_refl _
    · rw [if_neg c3] at hf
      obtain ⟨z4, ez4, hf⟩ := bd_e hf
      obtain ⟨z5, ez5, hf⟩ := bd_e hf
      have mz5 : M.2.2 ≤ z5.2.2.2 := mo_X9_courseAfter ez5
      have hj := mo_X3_courseUpTo_40 hq5 hf; omega
theorem mo_X3_courseUpTo_5l {z : (Int32 × mm_M)} : ∀ (n : Nat) (x1 : Int32) (x2 : Int32) (x3 : Int32) (x4 : Int32) (M : mm_M), f_X3_courseUpTo_5l n x1 x2 x3 x4 M = some z → M.2.2 ≤ z.2.2.2 := by
  intro n
  induction n with
  | zero => intro x1 x2 x3 x4 M hf; exact absurd hf (by simp [f_X3_courseUpTo_5l])
  | succ n ih => intro x1 x2 x3 x4 M hf; exact mo_X3_courseUpTo_5 ih hf
theorem mo_X3_courseUpTo {z : (Int32 × mm_M)} {x1 : Int32} {x2 : Int32} {M : mm_M} (hf : f_X3_courseUpTo x1 x2 M = some z) : M.2.2 ≤ z.2.2.2 := by
  unfold f_X3_courseUpTo at hf
  have hj := mo_X3_courseUpTo_5l fu_ _ _ _ _ _ hf; omega
def f_X9_differing_41 (q5 : Int32 → Int32 → Int32 → Int32 → Option Int32) (x1 : Int32) (x2 : Int32) (x4 : Int32) (t0 : Int32) (t1 : Int32) (M : mm_M) : Option Int32 :=
  sq_ ((t0 ||| t1) : Int32) fun y5 =>
  sq_ (x4 + 1 : Int32) fun y6 =>
  q5 x1 x2 y5 y6
def f_X9_differing_5 (q5 : Int32 → Int32 → Int32 → Int32 → Option Int32) (x1 : Int32) (x2 : Int32) (x3 : Int32) (x4 : Int32) (M : mm_M) : Option Int32 :=
  if (M.1 5 2) ≤ x4 then (
    some x3
  ) else (
    (f_X9_formOn x1 x4 M).bind fun z2 =>
    (f_X9_formOn x2 x4 M).bind fun z3 =>
    if z2 = z3 then (
      f_X9_differing_41 q5 x1 x2 x4 x3 (0 : Int32) M
    ) else (
      f_X9_differing_41 q5 x1 x2 x4 x3 ((1 : Int32) <<< (x4 &&& 31)) M
    )
  )
def f_X9_differing_5l (M : mm_M) : Nat → Int32 → Int32 → Int32 → Int32 → Option Int32
  | 0, _, _, _, _ => none
  | n + 1, x1, x2, x3, x4 => f_X9_differing_5 (f_X9_differing_5l M n) x1 x2 x3 x4 M
def f_X9_differing (x1 : Int32) (x2 : Int32) (M : mm_M) : Option Int32 :=
  f_X9_differing_5l M fu_ x1 x2 (0 : Int32) (0 : Int32)
def f_X11_works_65 (t1 : Int32) (t2 : Int32) (M : mm_M) : Option (Int32 × mm_M) :=
  (f_X9_differing t1 t2 M).bind fun z9 =>
  some (z9, M)
def f_X11_works_47 (x1 : Int32) (t0 : Int32) (M : mm_M) : Option (Int32 × mm_M) :=
  (f_X9_courseAfter t0 x1 M).bind fun z8 =>
  f_X11_works_65 t0 z8.1 z8.2
def f_X11_works (x1 : Int32) (x2 : Int32) (x3 : Int32) (x4 : Int32) (M : mm_M) : Option (Int32 × mm_M) :=
  sq_ (f_X11_isLaw x1 M) fun z1 =>
  if z1 = 0 then (
    some (((-1) : Int32), M)
  ) else (
    sq_ (f_X11_isThenAndThere x2 x3 x4 M) fun z3 =>
    if z3 = 0 then (
      some (((-1) : Int32), M)
    ) else (
      (f_X3_hasCome x1 x2 x3 x4 M).bind fun z5 =>
      if z5 = 0 then (
        some ((0 : Int32), M)
      ) else (
        (f_X3_courseUpTo x2 x1 M).bind fun z7 =>
        f_X11_works_47 x1 z7.1 z7.2
      )
    )
  )
theorem mo_X11_works_65 {z : (Int32 × mm_M)} {t1 : Int32} {t2 : Int32} {M : mm_M} (hf : f_X11_works_65 t1 t2 M = some z) : M.2.2 ≤ z.2.2.2 := by
  unfold f_X11_works_65 at hf
  obtain ⟨z9, ez9, hf⟩ := bd_e hf
  rw [← Option.some.inj hf]; show M.2.2 ≤ M.2.2; exact Nat.le_refl _
theorem mo_X11_works_47 {z : (Int32 × mm_M)} {x1 : Int32} {t0 : Int32} {M : mm_M} (hf : f_X11_works_47 x1 t0 M = some z) : M.2.2 ≤ z.2.2.2 := by
  unfold f_X11_works_47 at hf
  obtain ⟨z8, ez8, hf⟩ := bd_e hf
  have mz8 : M.2.2 ≤ z8.2.2.2 := mo_X9_courseAfter ez8
  have hj := mo_X11_works_65 hf; omega
theorem mo_X11_works {z : (Int32 × mm_M)} {x1 : Int32} {x2 : Int32} {x3 : Int32} {x4 : Int32} {M : mm_M} (hf : f_X11_works x1 x2 x3 x4 M = some z) : M.2.2 ≤ z.2.2.2 := by
  unfold f_X11_works at hf
  obtain ⟨z1, ez1, hf⟩ := sq_e hf
  by_cases c2 : z1 = 0
  · rw [if_pos c2] at hf
    rw [← Option.some.inj hf]; show M.2.2 ≤ M.2.2; exact Nat.le_refl _
  · rw [if_neg c2] at hf
    obtain ⟨z3, ez3, hf⟩ := sq_e hf
    by_cases c4 : z3 = 0
    · rw [if_pos c4] at hf
      rw [← Option.some.inj hf]; show M.2.2 ≤ M.2.2; exact Nat.le_refl _
    · rw [if_neg c4] at hf
      obtain ⟨z5, ez5, hf⟩ := bd_e hf
      by_cases c6 : z5 = 0
      · rw [if_pos c6] at hf
        rw [← Option.some.inj hf]; show M.2.2 ≤ M.2.2; exact Nat.le_refl _
      · rw [if_neg c6] at hf
        obtain ⟨z7, ez7, hf⟩ := bd_e hf
        have mz7 : M.2.2 ≤ z7.2.2.2 := mo_X3_courseUpTo ez7
        have hj := mo_X11_works_47 hf; omega
def f_X11_mayBeSign (x1 : Int32) (x2 : Int32) (x3 : Int32) (x4 : Int32) (M : mm_M) : Int32 :=
  sq_ (f_X11_isWord x2 M) fun z1 =>
  if z1 = 0 then (
    (0 : Int32)
  ) else (
    if x1 = 0 then (
      sq_ (f_X11_isWord x3 M) fun z3 =>
      if z3 = 0 then (
        (0 : Int32)
      ) else (
        if x2 = x3 then (
          (0 : Int32)
        ) else (
          (1 : Int32)
        )
      )
    ) else
    if x1 = 1 then (
      sq_ (f_X11_isWord x3 M) fun z6 =>
      if z6 = 0 then (
        (0 : Int32)
      ) else (
        if x2 = x3 then (
          (0 : Int32)
        ) else (
          (1 : Int32)
        )
      )
    ) else
    if x1 = 2 then (
      if x4 < 0 then (
        (0 : Int32)
      ) else (
        if 8 < x4 then (
          (0 : Int32)
        ) else (
          (1 : Int32)
        )
      )
    ) else
    if x1 = 3 then (
      sq_ (f_X11_isBelow x4 (128 : Int32)) fun z11 =>
      z11
    ) else
    if x1 = 4 then (
      sq_ (f_X11_isWord x3 M) fun z12 =>
      if z12 = 0 then (
        (0 : Int32)
      ) else (
        if x2 = x3 then (
          (0 : Int32)
        ) else (
          (1 : Int32)
        )
      )
    ) else
    (
      (0 : Int32)
    )
  )
theorem bz_X11_mayBeSign {z : Int32} {x1 : Int32} {x2 : Int32} {x3 : Int32} {x4 : Int32} {M : mm_M} (hf : f_X11_mayBeSign x1 x2 x3 x4 M = z) : z = 0 ∨ z = 1 := by
  unfold f_X11_mayBeSign at hf
  obtain ⟨z1, ez1, hf⟩ := sq_e hf
  by_cases c2 : z1 = 0
  · rw [if_pos c2] at hf
    rw [← hf]; exact (Or.inl rfl)
  · rw [if_neg c2] at hf
    by_cases hs : x1 = 0
    · rw [if_pos hs] at hf
      obtain ⟨z3, ez3, hf⟩ := sq_e hf
      by_cases c4 : z3 = 0
      · rw [if_pos c4] at hf
        rw [← hf]; exact (Or.inl rfl)
      · rw [if_neg c4] at hf
        by_cases c5 : x2 = x3
        · rw [if_pos c5] at hf
          rw [← hf]; exact (Or.inl rfl)
        · rw [if_neg c5] at hf
          rw [← hf]; exact (Or.inr rfl)
    rw [if_neg hs] at hf
    by_cases hs : x1 = 1
    · rw [if_pos hs] at hf
      obtain ⟨z6, ez6, hf⟩ := sq_e hf
      by_cases c7 : z6 = 0
      · rw [if_pos c7] at hf
        rw [← hf]; exact (Or.inl rfl)
      · rw [if_neg c7] at hf
        by_cases c8 : x2 = x3
        · rw [if_pos c8] at hf
          rw [← hf]; exact (Or.inl rfl)
        · rw [if_neg c8] at hf
          rw [← hf]; exact (Or.inr rfl)
    rw [if_neg hs] at hf
    by_cases hs : x1 = 2
    · rw [if_pos hs] at hf
      by_cases c9 : x4 < 0
      · rw [if_pos c9] at hf
        rw [← hf]; exact (Or.inl rfl)
      · rw [if_neg c9] at hf
        by_cases c10 : 8 < x4
        · rw [if_pos c10] at hf
          rw [← hf]; exact (Or.inl rfl)
        · rw [if_neg c10] at hf
          rw [← hf]; exact (Or.inr rfl)
    rw [if_neg hs] at hf
    by_cases hs : x1 = 3
    · rw [if_pos hs] at hf
      obtain ⟨z11, ez11, hf⟩ := sq_e hf
      rw [← hf]; exact (bz_X11_isBelow ez11.symm)
    rw [if_neg hs] at hf
    by_cases hs : x1 = 4
    · rw [if_pos hs] at hf
      obtain ⟨z12, ez12, hf⟩ := sq_e hf
      by_cases c13 : z12 = 0
      · rw [if_pos c13] at hf
        rw [← hf]; exact (Or.inl rfl)
      · rw [if_neg c13] at hf
        by_cases c14 : x2 = x3
        · rw [if_pos c14] at hf
          rw [← hf]; exact (Or.inl rfl)
        · rw [if_neg c14] at hf
          rw [← hf]; exact (Or.inr rfl)
    rw [if_neg hs] at hf
    rw [← hf]; exact (Or.inl rfl)
def f_X5_tell_26 (k0 : Nat) (x4 : Int32) (ks0 : Nat) (t1 : Int32) (M : mm_M) : mm_M :=
  sq_ (mm_si M ks0 2 t1) fun M5 =>
  sq_ (mm_si M5 k0 3 x4) fun M6 =>
  M6
def f_X5_tell_21 (k0 : Nat) (x2 : Int32) (x4 : Int32) (ks0 : Nat) (M : mm_M) : mm_M :=
  f_X5_tell_26 k0 x4 ks0 x2 M
def f_X5_tell (k0 : Nat) (x1 : Int32) (x2 : Int32) (x3 : Int32) (x4 : Int32) (M : mm_M) : mm_M :=
  sq_ (mm_si M k0 0 x1) fun M1 =>
  sq_ (mm_si M1 k0 1 x2) fun M2 =>
  if x1 = 2 then (
    f_X5_tell_21 k0 x2 x4 k0 M2
  ) else (
    if x1 = 3 then (
      f_X5_tell_21 k0 x2 x4 k0 M2
    ) else (
      f_X5_tell_26 k0 x4 k0 x3 M2
    )
  )
theorem mo_X5_tell_26 {z : mm_M} {k0 : Nat} {x4 : Int32} {ks0 : Nat} {t1 : Int32} {M : mm_M} (hf : f_X5_tell_26 k0 x4 ks0 t1 M = z) : M.2.2 ≤ z.2.2 := by
  unfold f_X5_tell_26 at hf
  obtain ⟨M5, eM5, hf⟩ := sq_e hf
  have mM5 : M.2.2 ≤ M5.2.2 := by rw [eM5]; exact Nat.le_refl _
  obtain ⟨M6, eM6, hf⟩ := sq_e hf
  have mM6 : M5.2.2 ≤ M6.2.2 := by rw [eM6]; exact Nat.le_refl _
  rw [← hf]; show M.2.2 ≤ M6.2.2; omega
theorem mo_X5_tell_21 {z : mm_M} {k0 : Nat} {x2 : Int32} {x4 : Int32} {ks0 : Nat} {M : mm_M} (hf : f_X5_tell_21 k0 x2 x4 ks0 M = z) : M.2.2 ≤ z.2.2 := by
  unfold f_X5_tell_21 at hf
  have hj := mo_X5_tell_26 hf; omega
theorem mo_X5_tell {z : mm_M} {k0 : Nat} {x1 : Int32} {x2 : Int32} {x3 : Int32} {x4 : Int32} {M : mm_M} (hf : f_X5_tell k0 x1 x2 x3 x4 M = z) : M.2.2 ≤ z.2.2 := by
  unfold f_X5_tell at hf
  obtain ⟨M1, eM1, hf⟩ := sq_e hf
  have mM1 : M.2.2 ≤ M1.2.2 := by rw [eM1]; exact Nat.le_refl _
  obtain ⟨M2, eM2, hf⟩ := sq_e hf
  have mM2 : M1.2.2 ≤ M2.2.2 := by rw [eM2]; exact Nat.le_refl _
  by_cases c3 : x1 = 2
  · rw [if_pos c3] at hf
    have hj := mo_X5_tell_21 hf; omega
  · rw [if_neg c3] at hf
    by_cases c4 : x1 = 3
    · rw [if_pos c4] at hf
      have hj := mo_X5_tell_21 hf; omega
    · rw [if_neg c4] at hf
      have hj := mo_X5_tell_26 hf; omega
def f_X5_put (k0 : Nat) (x1 : Int32) (x2 : Int32) (M : mm_M) : mm_M :=
  sq_ (mm_si M k0 4 x1) fun M1 =>
  sq_ (mm_si M1 k0 5 x2) fun M2 =>
  M2
theorem mo_X5_put {z : mm_M} {k0 : Nat} {x1 : Int32} {x2 : Int32} {M : mm_M} (hf : f_X5_put k0 x1 x2 M = z) : M.2.2 ≤ z.2.2 := by
  unfold f_X5_put at hf
  obtain ⟨M1, eM1, hf⟩ := sq_e hf
  have mM1 : M.2.2 ≤ M1.2.2 := by rw [eM1]; exact Nat.le_refl _
  obtain ⟨M2, eM2, hf⟩ := sq_e hf
  have mM2 : M1.2.2 ≤ M2.2.2 := by rw [eM2]; exact Nat.le_refl _
  rw [← hf]; show M.2.2 ≤ M2.2.2; omega
def f_X6_addTold (M : mm_M) : (Int32 × mm_M) :=
  sq_ ((M.1 19 3) : Int32) fun y1 =>
  sq_ (mm_si M 19 3 ((M.1 19 3) + 1)) fun M2 =>
  sq_ (mm_si M2 19 4 ((M2.1 19 4) ||| ((1 : Int32) <<< (y1 &&& 31)))) fun M3 =>
  sq_ (mm_si M3 19 6 ((M3.1 19 6) ||| ((1 : Int32) <<< (y1 &&& 31)))) fun M4 =>
  (y1, M4)
theorem mo_X6_addTold {z : (Int32 × mm_M)} {M : mm_M} (hf : f_X6_addTold M = z) : M.2.2 ≤ z.2.2.2 := by
  unfold f_X6_addTold at hf
  obtain ⟨y1, ey1, hf⟩ := sq_e hf
  obtain ⟨M2, eM2, hf⟩ := sq_e hf
  have mM2 : M.2.2 ≤ M2.2.2 := by rw [eM2]; exact Nat.le_refl _
  obtain ⟨M3, eM3, hf⟩ := sq_e hf
  have mM3 : M2.2.2 ≤ M3.2.2 := by rw [eM3]; exact Nat.le_refl _
  obtain ⟨M4, eM4, hf⟩ := sq_e hf
  have mM4 : M3.2.2 ≤ M4.2.2 := by rw [eM4]; exact Nat.le_refl _
  rw [← hf]; show M.2.2 ≤ M4.2.2; omega
def f_X11_mark (x1 : Int32) (x2 : Int32) (x3 : Int32) (x4 : Int32) (x5 : Int32) (x6 : Int32) (M : mm_M) : Option (Int32 × mm_M) :=
  if 16 ≤ (M.1 19 3) then (
    some (((-1) : Int32), M)
  ) else (
    sq_ (f_X11_mayBeSign x1 x2 x3 x6 M) fun z2 =>
    if z2 = 0 then (
      some (((-1) : Int32), M)
    ) else (
      sq_ (f_X11_isYear x4) fun z4 =>
      if z4 = 0 then (
        some (((-1) : Int32), M)
      ) else (
        sq_ (f_X11_isPlace x5) fun z6 =>
        if z6 = 0 then (
          some (((-1) : Int32), M)
        ) else (
          if ix_ok (M.1 19 3) 16 then (
          sq_ (f_X5_tell (22 + (M.1 19 3).toNatClampNeg) x1 x2 x3 x6 M) fun z9 =>
          sq_ (f_X5_put (22 + (M.1 19 3).toNatClampNeg) x4 x5 z9) fun z10 =>
          sq_ (f_X6_addTold z10) fun z11 =>
          some (z11.1, z11.2)
          ) else none
        )
      )
    )
  )
theorem mo_X11_mark {z : (Int32 × mm_M)} {x1 : Int32} {x2 : Int32} {x3 : Int32} {x4 : Int32} {x5 : Int32} {x6 : Int32} {M : mm_M} (hf : f_X11_mark x1 x2 x3 x4 x5 x6 M = some z) : M.2.2 ≤ z.2.2.2 := by
  unfold f_X11_mark at hf
  by_cases c1 : 16 ≤ (M.1 19 3)
  · rw [if_pos c1] at hf
    rw [← Option.some.inj hf]; show M.2.2 ≤ M.2.2; exact Nat.le_refl _
  · rw [if_neg c1] at hf
    obtain ⟨z2, ez2, hf⟩ := sq_e hf
    by_cases c3 : z2 = 0
    · rw [if_pos c3] at hf
      rw [← Option.some.inj hf]; show M.2.2 ≤ M.2.2; exact Nat.le_refl _
    · rw [if_neg c3] at hf
      obtain ⟨z4, ez4, hf⟩ := sq_e hf
      by_cases c5 : z4 = 0
      · rw [if_pos c5] at hf
        rw [← Option.some.inj hf]; show M.2.2 ≤ M.2.2; exact Nat.le_refl _
      · rw [if_neg c5] at hf
        obtain ⟨z6, ez6, hf⟩ := sq_e hf
        by_cases c7 : z6 = 0
        · rw [if_pos c7] at hf
          rw [← Option.some.inj hf]; show M.2.2 ≤ M.2.2; exact Nat.le_refl _
        · rw [if_neg c7] at hf
          obtain ⟨h8, hf⟩ := ck_e hf
          obtain ⟨z9, ez9, hf⟩ := sq_e hf
          have mz9 : M.2.2 ≤ z9.2.2 := mo_X5_tell ez9.symm
          obtain ⟨z10, ez10, hf⟩ := sq_e hf
          have mz10 : z9.2.2 ≤ z10.2.2 := mo_X5_put ez10.symm
          obtain ⟨z11, ez11, hf⟩ := sq_e hf
          have mz11 : z10.2.2 ≤ z11.2.2.2 := mo_X6_addTold ez11.symm
          rw [← Option.some.inj hf]; show M.2.2 ≤ z11.2.2.2; omega
def f_X11_isSign (x1 : Int32) (M : mm_M) : Int32 :=
  sq_ (f_X11_isBelow x1 (M.1 19 3)) fun z1 =>
  z1
theorem bz_X11_isSign {z : Int32} {x1 : Int32} {M : mm_M} (hf : f_X11_isSign x1 M = z) : z = 0 ∨ z = 1 := by
  unfold f_X11_isSign at hf
  obtain ⟨z1, ez1, hf⟩ := sq_e hf
  rw [← hf]; exact (bz_X11_isBelow ez1.symm)
def f_X11_by (x1 : Int32) (x2 : Int32) (x3 : Int32) (M : mm_M) : Option (Int32 × mm_M) :=
  sq_ (f_X11_isSign x1 M) fun z1 =>
  if z1 = 0 then (
    some ((0 : Int32), M)
  ) else (
    sq_ (f_X11_isBelow x2 (6 : Int32)) fun z3 =>
    if z3 = 0 then (
      some ((0 : Int32), M)
    ) else (
      if x3 < 1 then (
        some ((0 : Int32), M)
      ) else (
        if x3 ≤ 9 then (
          if ix_ok x1 16 then (
          sq_ (mm_si M (22 + x1.toNatClampNeg) 6 x2) fun M8 =>
          if ix_ok x1 16 then (
          sq_ (mm_si M8 (22 + x1.toNatClampNeg) 7 x3) fun M10 =>
          some ((1 : Int32), M10)
          ) else none ) else none
        ) else (
          some ((0 : Int32), M)
        )
      )
    )
  )
theorem mo_X11_by {z : (Int32 × mm_M)} {x1 : Int32} {x2 : Int32} {x3 : Int32} {M : mm_M} (hf : f_X11_by x1 x2 x3 M = some z) : M.2.2 ≤ z.2.2.2 := by
  unfold f_X11_by at hf
  obtain ⟨z1, ez1, hf⟩ := sq_e hf
  by_cases c2 : z1 = 0
  · rw [if_pos c2] at hf
    rw [← Option.some.inj hf]; show M.2.2 ≤ M.2.2; exact Nat.le_refl _
  · rw [if_neg c2] at hf
    obtain ⟨z3, ez3, hf⟩ := sq_e hf
    by_cases c4 : z3 = 0
    · rw [if_pos c4] at hf
      rw [← Option.some.inj hf]; show M.2.2 ≤ M.2.2; exact Nat.le_refl _
    · rw [if_neg c4] at hf
      by_cases c5 : x3 < 1
      · rw [if_pos c5] at hf
        rw [← Option.some.inj hf]; show M.2.2 ≤ M.2.2; exact Nat.le_refl _
      · rw [if_neg c5] at hf
        by_cases c6 : x3 ≤ 9
        · rw [if_pos c6] at hf
          obtain ⟨h7, hf⟩ := ck_e hf
          obtain ⟨M8, eM8, hf⟩ := sq_e hf
          have mM8 : M.2.2 ≤ M8.2.2 := by rw [eM8]; exact Nat.le_refl _
          obtain ⟨h9, hf⟩ := ck_e hf
          obtain ⟨M10, eM10, hf⟩ := sq_e hf
          have mM10 : M8.2.2 ≤ M10.2.2 := by rw [eM10]; exact Nat.le_refl _
          rw [← Option.some.inj hf]; show M.2.2 ≤ M10.2.2; omega
        · rw [if_neg c6] at hf
          rw [← Option.some.inj hf]; show M.2.2 ≤ M.2.2; exact Nat.le_refl _
theorem bz_X11_by {z : (Int32 × mm_M)} {x1 : Int32} {x2 : Int32} {x3 : Int32} {M : mm_M} (hf : f_X11_by x1 x2 x3 M = some z) : z.1 = 0 ∨ z.1 = 1 := by
  unfold f_X11_by at hf
  obtain ⟨z1, ez1, hf⟩ := sq_e hf
  by_cases c2 : z1 = 0
  · rw [if_pos c2] at hf
    rw [← Option.some.inj hf]; exact (Or.inl rfl)
  · rw [if_neg c2] at hf
    obtain ⟨z3, ez3, hf⟩ := sq_e hf
    by_cases c4 : z3 = 0
    · rw [if_pos c4] at hf
      rw [← Option.some.inj hf]; exact (Or.inl rfl)
    · rw [if_neg c4] at hf
      by_cases c5 : x3 < 1
      · rw [if_pos c5] at hf
        rw [← Option.some.inj hf]; exact (Or.inl rfl)
      · rw [if_neg c5] at hf
        by_cases c6 : x3 ≤ 9
        · rw [if_pos c6] at hf
          obtain ⟨h7, hf⟩ := ck_e hf
          obtain ⟨M8, eM8, hf⟩ := sq_e hf
          obtain ⟨h9, hf⟩ := ck_e hf
          obtain ⟨M10, eM10, hf⟩ := sq_e hf
          rw [← Option.some.inj hf]; exact (Or.inr rfl)
        · rw [if_neg c6] at hf
          rw [← Option.some.inj hf]; exact (Or.inl rfl)
def f_X11_turn_45 (t1 : Int32) (M : mm_M) : (Int32 × mm_M) :=
  sq_ (mm_si M 19 4 t1) fun M4 =>
  ((1 : Int32), M4)
def f_X11_turn (x1 : Int32) (x2 : Int32) (M : mm_M) : (Int32 × mm_M) :=
  sq_ (f_X11_isSign x1 M) fun z1 =>
  if z1 = 0 then (
    ((0 : Int32), M)
  ) else (
    if x2 = 0 then (
      f_X11_turn_45 ((M.1 19 4) &&& (((1 : Int32) <<< (x1 &&& 31)) ^^^ (-1))) M
    ) else (
      f_X11_turn_45 ((M.1 19 4) ||| ((1 : Int32) <<< (x1 &&& 31))) M
    )
  )
theorem mo_X11_turn_45 {z : (Int32 × mm_M)} {t1 : Int32} {M : mm_M} (hf : f_X11_turn_45 t1 M = z) : M.2.2 ≤ z.2.2.2 := by
  unfold f_X11_turn_45 at hf
  obtain ⟨M4, eM4, hf⟩ := sq_e hf
  have mM4 : M.2.2 ≤ M4.2.2 := by rw [eM4]; exact Nat.le_refl _
  rw [← hf]; show M.2.2 ≤ M4.2.2; omega
theorem mo_X11_turn {z : (Int32 × mm_M)} {x1 : Int32} {x2 : Int32} {M : mm_M} (hf : f_X11_turn x1 x2 M = z) : M.2.2 ≤ z.2.2.2 := by
  unfold f_X11_turn at hf
  obtain ⟨z1, ez1, hf⟩ := sq_e hf
  by_cases c2 : z1 = 0
  · rw [if_pos c2] at hf
    rw [← hf]; show M.2.2 ≤ M.2.2; exact Nat.le_refl _
  · rw [if_neg c2] at hf
    by_cases c3 : x2 = 0
    · rw [if_pos c3] at hf
      have hj := mo_X11_turn_45 hf; omega
    · rw [if_neg c3] at hf
      have hj := mo_X11_turn_45 hf; omega
theorem bz_X11_turn_45 {z : (Int32 × mm_M)} {t1 : Int32} {M : mm_M} (hf : f_X11_turn_45 t1 M = z) : z.1 = 0 ∨ z.1 = 1 := by
  unfold f_X11_turn_45 at hf
  obtain ⟨M4, eM4, hf⟩ := sq_e hf
  rw [← hf]; exact (Or.inr rfl)
theorem bz_X11_turn {z : (Int32 × mm_M)} {x1 : Int32} {x2 : Int32} {M : mm_M} (hf : f_X11_turn x1 x2 M = z) : z.1 = 0 ∨ z.1 = 1 := by
  unfold f_X11_turn at hf
  obtain ⟨z1, ez1, hf⟩ := sq_e hf
  by_cases c2 : z1 = 0
  · rw [if_pos c2] at hf
    rw [← hf]; exact (Or.inl rfl)
  · rw [if_neg c2] at hf
    by_cases c3 : x2 = 0
    · rw [if_pos c3] at hf
      exact bz_X11_turn_45 hf
    · rw [if_neg c3] at hf
      exact bz_X11_turn_45 hf
def f_X5_isBooked (k0 : Nat) (x1 : Int64) (M : mm_M) : Int32 :=
  sq_ (((M.1 k0 3) >>> ((4 : Int32) &&& 31)) : Int32) fun y1 =>
  sq_ (f_X0_lengthOf x1) fun z2 =>
  if z2 ≤ y1 then (
    (0 : Int32)
  ) else (
    sq_ (f_X0_soundAt x1 y1) fun z4 =>
    if z4 = ((M.1 k0 3) &&& 15) then (
      (1 : Int32)
    ) else (
      (0 : Int32)
    )
  )
theorem bz_X5_isBooked {z : Int32} {k0 : Nat} {x1 : Int64} {M : mm_M} (hf : f_X5_isBooked k0 x1 M = z) : z = 0 ∨ z = 1 := by
  unfold f_X5_isBooked at hf
  obtain ⟨y1, ey1, hf⟩ := sq_e hf
  obtain ⟨z2, ez2, hf⟩ := sq_e hf
  by_cases c3 : z2 ≤ y1
  · rw [if_pos c3] at hf
    rw [← hf]; exact (Or.inl rfl)
  · rw [if_neg c3] at hf
    obtain ⟨z4, ez4, hf⟩ := sq_e hf
    by_cases c5 : z4 = ((M.1 k0 3) &&& 15)
    · rw [if_pos c5] at hf
      rw [← hf]; exact (Or.inr rfl)
    · rw [if_neg c5] at hf
      rw [← hf]; exact (Or.inl rfl)
def f_X5_areTailsSo_47 (t0 : Int32) (t1 : Int32) (M : mm_M) : Int32 :=
  if t0 = t1 then (
    (1 : Int32)
  ) else (
    (0 : Int32)
  )
def f_X5_areTailsSo_35 (k0 : Nat) (t0 : Int32) (M : mm_M) : Int32 :=
  if (M.1 k0 0) = 0 then (
    f_X5_areTailsSo_47 t0 (1 : Int32) M
  ) else (
    f_X5_areTailsSo_47 t0 (0 : Int32) M
  )
def f_X5_areTailsSo_17 (k0 : Nat) (x1 : Int64) (x3 : Int64) (t0 : Int32) (M : mm_M) : Int32 :=
  if t0 = 0 then (
    (0 : Int32)
  ) else (
    if x1 = x3 then (
      f_X5_areTailsSo_35 k0 (1 : Int32) M
    ) else (
      f_X5_areTailsSo_35 k0 (0 : Int32) M
    )
  )
def f_X5_areTailsSo_16 (k0 : Nat) (x1 : Int64) (x3 : Int64) (M : mm_M) : Int32 :=
  f_X5_areTailsSo_17 k0 x1 x3 (0 : Int32) M
def f_X5_areTailsSo (k0 : Nat) (x1 : Int64) (x3 : Int64) (M : mm_M) : Int32 :=
  if x1 = 0 then (
    f_X5_areTailsSo_16 k0 x1 x3 M
  ) else (
    if x3 = 0 then (
      f_X5_areTailsSo_16 k0 x1 x3 M
    ) else (
      f_X5_areTailsSo_17 k0 x1 x3 (1 : Int32) M
    )
  )
theorem bz_X5_areTailsSo_47 {z : Int32} {t0 : Int32} {t1 : Int32} {M : mm_M} (hf : f_X5_areTailsSo_47 t0 t1 M = z) : z = 0 ∨ z = 1 := by
  unfold f_X5_areTailsSo_47 at hf
  by_cases c6 : t0 = t1
  · rw [if_pos c6] at hf
    rw [← hf]; exact (Or.inr rfl)
  · rw [if_neg c6] at hf
    rw [← hf]; exact (Or.inl rfl)
theorem bz_X5_areTailsSo_35 {z : Int32} {k0 : Nat} {t0 : Int32} {M : mm_M} (hf : f_X5_areTailsSo_35 k0 t0 M = z) : z = 0 ∨ z = 1 := by
  unfold f_X5_areTailsSo_35 at hf
  by_cases c5 : (M.1 k0 0) = 0
  · rw [if_pos c5] at hf
    exact bz_X5_areTailsSo_47 hf
  · rw [if_neg c5] at hf
    exact bz_X5_areTailsSo_47 hf
theorem bz_X5_areTailsSo_17 {z : Int32} {k0 : Nat} {x1 : Int64} {x3 : Int64} {t0 : Int32} {M : mm_M} (hf : f_X5_areTailsSo_17 k0 x1 x3 t0 M = z) : z = 0 ∨ z = 1 := by
  unfold f_X5_areTailsSo_17 at hf
  by_cases c3 : t0 = 0
  · rw [if_pos c3] at hf
    rw [← hf]; exact (Or.inl rfl)
  · rw [if_neg c3] at hf
    by_cases c4 : x1 = x3
    · rw [if_pos c4] at hf
      exact bz_X5_areTailsSo_35 hf
    · rw [if_neg c4] at hf
      exact bz_X5_areTailsSo_35 hf
theorem bz_X5_areTailsSo_16 {z : Int32} {k0 : Nat} {x1 : Int64} {x3 : Int64} {M : mm_M} (hf : f_X5_areTailsSo_16 k0 x1 x3 M = z) : z = 0 ∨ z = 1 := by
  unfold f_X5_areTailsSo_16 at hf
  exact bz_X5_areTailsSo_17 hf
theorem bz_X5_areTailsSo {z : Int32} {k0 : Nat} {x1 : Int64} {x3 : Int64} {M : mm_M} (hf : f_X5_areTailsSo k0 x1 x3 M = z) : z = 0 ∨ z = 1 := by
  unfold f_X5_areTailsSo at hf
  by_cases c1 : x1 = 0
  · rw [if_pos c1] at hf
    exact bz_X5_areTailsSo_16 hf
  · rw [if_neg c1] at hf
    by_cases c2 : x3 = 0
    · rw [if_pos c2] at hf
      exact bz_X5_areTailsSo_16 hf
    · rw [if_neg c2] at hf
      exact bz_X5_areTailsSo_17 hf
def f_X5_isSoOf (k0 : Nat) (x1 : Int64) (x3 : Int64) (x5 : Int32) (M : mm_M) : Option Int32 :=
  if (M.1 k0 0) = 1 then (
    if x1 = x3 then (
      some (1 : Int32)
    ) else (
      some (0 : Int32)
    )
  ) else
  if (M.1 k0 0) = 2 then (
    (f_X0_beatsOf x1 x5).bind fun z2 =>
    if z2 = (M.1 k0 3) then (
      some (1 : Int32)
    ) else (
      some (0 : Int32)
    )
  ) else
  if (M.1 k0 0) = 3 then (
    sq_ (f_X5_isBooked k0 x1 M) fun z4 =>
    some z4
  ) else
  (
    (f_X0_tailOf x1 x5).bind fun z5 =>
    (f_X0_tailOf x3 x5).bind fun z6 =>
    sq_ (f_X5_areTailsSo k0 z5 z6 M) fun z7 =>
    some z7
  )
theorem bz_X5_isSoOf {z : Int32} {k0 : Nat} {x1 : Int64} {x3 : Int64} {x5 : Int32} {M : mm_M} (hf : f_X5_isSoOf k0 x1 x3 x5 M = some z) : z = 0 ∨ z = 1 := by
  unfold f_X5_isSoOf at hf
  by_cases hs : (M.1 k0 0) = 1
  · rw [if_pos hs] at hf
    by_cases c1 : x1 = x3
    · rw [if_pos c1] at hf
      rw [← Option.some.inj hf]; exact (Or.inr rfl)
    · rw [if_neg c1] at hf
      rw [← Option.some.inj hf]; exact (Or.inl rfl)
  rw [if_neg hs] at hf
  by_cases hs : (M.1 k0 0) = 2
  · rw [if_pos hs] at hf
    obtain ⟨z2, ez2, hf⟩ := bd_e hf
    by_cases c3 : z2 = (M.1 k0 3)
    · rw [if_pos c3] at hf
      rw [← Option.some.inj hf]; exact (Or.inr rfl)
    · rw [if_neg c3] at hf
      rw [← Option.some.inj hf]; exact (Or.inl rfl)
  rw [if_neg hs] at hf
  by_cases hs : (M.1 k0 0) = 3
  · rw [if_pos hs] at hf
    obtain ⟨z4, ez4, hf⟩ := sq_e hf
    rw [← Option.some.inj hf]; exact (bz_X5_isBooked ez4.symm)
  rw [if_neg hs] at hf
  obtain ⟨z5, ez5, hf⟩ := bd_e hf
  obtain ⟨z6, ez6, hf⟩ := bd_e hf
  obtain ⟨z7, ez7, hf⟩ := sq_e hf
  rw [← Option.some.inj hf]; exact (bz_X5_areTailsSo ez7.symm)
def f_X5_isSoOn (k0 : Nat) (x1 : Int32) (M : mm_M) : Option Int32 :=
  (f_X9_formOn x1 (M.1 k0 1) M).bind fun z1 =>
  (f_X9_formOn x1 (M.1 k0 2) M).bind fun z2 =>
  sq_ (f_X9_vowels M) fun z3 =>
  (f_X5_isSoOf k0 z1 z2 z3 M).bind fun z4 =>
  some z4
theorem bz_X5_isSoOn {z : Int32} {k0 : Nat} {x1 : Int32} {M : mm_M} (hf : f_X5_isSoOn k0 x1 M = some z) : z = 0 ∨ z = 1 := by
  unfold f_X5_isSoOn at hf
  obtain ⟨z1, ez1, hf⟩ := bd_e hf
  obtain ⟨z2, ez2, hf⟩ := bd_e hf
  obtain ⟨z3, ez3, hf⟩ := sq_e hf
  obtain ⟨z4, ez4, hf⟩ := bd_e hf
  rw [← Option.some.inj hf]; exact (bz_X5_isSoOf ez4)
def f_X6_lookAt_108 (q35 : Int32 → Int32 → Int32 → Int32 → mm_M → Option mm_M) (x1 : Int32) (x2 : Int32) (x3 : Int32) (x4 : Int32) (t1 : Int32) (t2 : Int32) (M : mm_M) : Option mm_M :=
  if ix_ok t1 600 then (
  sq_ (mm_si M 21 t1.toNatClampNeg t2) fun M14 =>
  sq_ (x4 + 1 : Int32) fun y15 =>
  q35 x1 x2 x3 y15 M14
  ) else none
def f_X6_lookAt_65 (q35 : Int32 → Int32 → Int32 → Int32 → mm_M → Option mm_M) (x1 : Int32) (x2 : Int32) (x3 : Int32) (x4 : Int32) (ks0 : Nat) (t1 : Int32) (M : mm_M) : Option mm_M :=
  (f_X5_isSoOn ks0 t1 M).bind fun z9 =>
  if z9 = 0 then (
    if ix_ok x4 600 then (
    f_X6_lookAt_108 q35 x1 x2 x3 x4 x4 ((M.1 21 x4.toNatClampNeg) &&& (x2 ^^^ (-1))) M
    ) else none
  ) else (
    if ix_ok x4 600 then (
    f_X6_lookAt_108 q35 x1 x2 x3 x4 x4 ((M.1 21 x4.toNatClampNeg) ||| x2) M
    ) else none
  )
def f_X6_lookAt_35 (q35 : Int32 → Int32 → Int32 → Int32 → mm_M → Option mm_M) (x1 : Int32) (x2 : Int32) (x3 : Int32) (x4 : Int32) (M : mm_M) : Option mm_M :=
  if (M.1 14 2) ≤ x4 then (
    some M
  ) else (
    if ix_ok x1 16 then (
    (f_X3_courseAmong x4 x3 (63 : Int32) M).bind fun z8 =>
    f_X6_lookAt_65 q35 x1 x2 x3 x4 (22 + x1.toNatClampNeg) z8.1 z8.2
    ) else none
  )
def f_X6_lookAt_35l : Nat → Int32 → Int32 → Int32 → Int32 → mm_M → Option mm_M
  | 0, _, _, _, _, _ => none
  | n + 1, x1, x2, x3, x4, M => f_X6_lookAt_35 (f_X6_lookAt_35l n) x1 x2 x3 x4 M
def f_X6_lookAt (x1 : Int32) (M : mm_M) : Option mm_M :=
  sq_ (((1 : Int32) <<< (x1 &&& 31)) : Int32) fun y1 =>
  if ix_ok x1 16 then (
  if ix_ok x1 16 then (
  if ix_ok (M.1 (22 + x1.toNatClampNeg) 5) 6 then (
  sq_ (((M.1 (22 + x1.toNatClampNeg) 4) - (M.1 15 (M.1 (22 + x1.toNatClampNeg) 5).toNatClampNeg)) : Int32) fun y5 =>
  f_X6_lookAt_35l fu_ x1 y1 y5 (0 : Int32) M
  ) else none ) else none ) else none
theorem mo_X6_lookAt_108 {z : mm_M} {x1 : Int32} {x2 : Int32} {x3 : Int32} {x4 : Int32} {t1 : Int32} {t2 : Int32} {M : mm_M} {q35 : Int32 → Int32 → Int32 → Int32 → mm_M → Option mm_M} (hq35 : ∀ (x1 : Int32) (x2 : Int32) (x3 : Int32) (x4 : Int32) (M : mm_M), q35 x1 x2 x3 x4 M = some z → M.2.2 ≤ z.2.2) (hf : f_X6_lookAt_108 q35 x1 x2 x3 x4 t1 t2 M = some z) : M.2.2 ≤ z.2.2 := by
  unfold f_X6_lookAt_108 at hf
  obtain ⟨h13, hf⟩ := ck_e hf
  obtain ⟨M14, eM14, hf⟩ := sq_e hf
  have mM14 : M.2.2 ≤ M14.2.2 := by rw [eM14]; exact Nat.le_refl _
  obtain ⟨y15, ey15, hf⟩ := sq_e hf
  have hj := hq35 _ _ _ _ _ hf; omega
theorem mo_X6_lookAt_65 {z : mm_M} {x1 : Int32} {x2 : Int32} {x3 : Int32} {x4 : Int32} {ks0 : Nat} {t1 : Int32} {M : mm_M} {q35 : Int32 → Int32 → Int32 → Int32 → mm_M → Option mm_M} (hq35 : ∀ (x1 : Int32) (x2 : Int32) (x3 : Int32) (x4 : Int32) (M : mm_M), q35 x1 x2 x3 x4 M = some z → M.2.2 ≤ z.2.2) (hf : f_X6_lookAt_65 q35 x1 x2 x3 x4 ks0 t1 M = some z) : M.2.2 ≤ z.2.2 := by
  unfold f_X6_lookAt_65 at hf
  obtain ⟨z9, ez9, hf⟩ := bd_e hf
  by_cases c10 : z9 = 0
  · rw [if_pos c10] at hf
    obtain ⟨h11, hf⟩ := ck_e hf
    have hj := mo_X6_lookAt_108 hq35 hf; omega
  · rw [if_neg c10] at hf
    obtain ⟨h12, hf⟩ := ck_e hf
    have hj := mo_X6_lookAt_108 hq35 hf; omega
theorem mo_X6_lookAt_35 {z : mm_M} {x1 : Int32} {x2 : Int32} {x3 : Int32} {x4 : Int32} {M : mm_M} {q35 : Int32 → Int32 → Int32 → Int32 → mm_M → Option mm_M} (hq35 : ∀ (x1 : Int32) (x2 : Int32) (x3 : Int32) (x4 : Int32) (M : mm_M), q35 x1 x2 x3 x4 M = some z → M.2.2 ≤ z.2.2) (hf : f_X6_lookAt_35 q35 x1 x2 x3 x4 M = some z) : M.2.2 ≤ z.2.2 := by
  unfold f_X6_lookAt_35 at hf
  by_cases c6 : (M.1 14 2) ≤ x4
  · rw [if_pos c6] at hf
    rw [← Option.some.inj hf]; show M.2.2 ≤ M.2.2; exact Nat.le_refl _
  · rw [if_neg c6] at hf
    obtain ⟨h7, hf⟩ := ck_e hf
    obtain ⟨z8, ez8, hf⟩ := bd_e hf
    have mz8 : M.2.2 ≤ z8.2.2.2 := mo_X3_courseAmong ez8
    have hj := mo_X6_lookAt_65 hq35 hf; omega
theorem mo_X6_lookAt_35l {z : mm_M} : ∀ (n : Nat) (x1 : Int32) (x2 : Int32) (x3 : Int32) (x4 : Int32) (M : mm_M), f_X6_lookAt_35l n x1 x2 x3 x4 M = some z → M.2.2 ≤ z.2.2 := by
  intro n
  induction n with
  | zero => intro x1 x2 x3 x4 M hf; exact absurd hf (by simp [f_X6_lookAt_35l])
  | succ n ih => intro x1 x2 x3 x4 M hf; exact mo_X6_lookAt_35 ih hf
theorem mo_X6_lookAt {z : mm_M} {x1 : Int32} {M : mm_M} (hf : f_X6_lookAt x1 M = some z) : M.2.2 ≤ z.2.2 := by
  unfold f_X6_lookAt at hf
  obtain ⟨y1, ey1, hf⟩ := sq_e hf
  obtain ⟨h2, hf⟩ := ck_e hf
  obtain ⟨h3, hf⟩ := ck_e hf
  obtain ⟨h4, hf⟩ := ck_e hf
  obtain ⟨y5, ey5, hf⟩ := sq_e hf
  have hj := mo_X6_lookAt_35l fu_ _ _ _ _ _ hf; omega
def f_X6_lookAnew_26 (q2 : Int32 → mm_M → Option mm_M) (x1 : Int32) (M : mm_M) : Option mm_M :=
  sq_ (x1 + 1 : Int32) fun y5 =>
  q2 y5 M
def f_X6_lookAnew_32 (M : mm_M) : Option mm_M :=
  sq_ (mm_si M 19 6 0) fun M4 =>
  some M4
def f_X6_lookAnew_2 (q2 : Int32 → mm_M → Option mm_M) (x1 : Int32) (M : mm_M) : Option mm_M :=
  if (M.1 19 3) ≤ x1 then (
    f_X6_lookAnew_32 M
  ) else (
    if (((M.1 19 6) >>> (x1 &&& 31)) &&& 1) = 0 then (
      f_X6_lookAnew_26 q2 x1 M
    ) else (
      (f_X6_lookAt x1 M).bind fun z3 =>
      f_X6_lookAnew_26 q2 x1 z3
    )
  )
def f_X6_lookAnew_2l : Nat → Int32 → mm_M → Option mm_M
  | 0, _, _ => none
  | n + 1, x1, M => f_X6_lookAnew_2 (f_X6_lookAnew_2l n) x1 M
def f_X6_lookAnew (M : mm_M) : Option mm_M :=
  f_X6_lookAnew_2l fu_ (0 : Int32) M
theorem mo_X6_lookAnew_26 {z : mm_M} {x1 : Int32} {M : mm_M} {q2 : Int32 → mm_M → Option mm_M} (hq2 : ∀ (x1 : Int32) (M : mm_M), q2 x1 M = some z → M.2.2 ≤ z.2.2) (hf : f_X6_lookAnew_26 q2 x1 M = some z) : M.2.2 ≤ z.2.2 := by
  unfold f_X6_lookAnew_26 at hf
  obtain ⟨y5, ey5, hf⟩ := sq_e hf
  have hj := hq2 _ _ hf; omega
theorem mo_X6_lookAnew_32 {z : mm_M} {M : mm_M} (hf : f_X6_lookAnew_32 M = some z) : M.2.2 ≤ z.2.2 := by
  unfold f_X6_lookAnew_32 at hf
  obtain ⟨M4, eM4, hf⟩ := sq_e hf
  have mM4 : M.2.2 ≤ M4.2.2 := by rw [eM4]; exact Nat.le_refl _
  rw [← Option.some.inj hf]; show M.2.2 ≤ M4.2.2; omega
theorem mo_X6_lookAnew_2 {z : mm_M} {x1 : Int32} {M : mm_M} {q2 : Int32 → mm_M → Option mm_M} (hq2 : ∀ (x1 : Int32) (M : mm_M), q2 x1 M = some z → M.2.2 ≤ z.2.2) (hf : f_X6_lookAnew_2 q2 x1 M = some z) : M.2.2 ≤ z.2.2 := by
  unfold f_X6_lookAnew_2 at hf
  by_cases c1 : (M.1 19 3) ≤ x1
  · rw [if_pos c1] at hf
    have hj := mo_X6_lookAnew_32 hf; omega
  · rw [if_neg c1] at hf
    by_cases c2 : (((M.1 19 6) >>> (x1 &&& 31)) &&& 1) = 0
    · rw [if_pos c2] at hf
      have hj := mo_X6_lookAnew_26 hq2 hf; omega
    · rw [if_neg c2] at hf
      obtain ⟨z3, ez3, hf⟩ := bd_e hf
      have mz3 : M.2.2 ≤ z3.2.2 := mo_X6_lookAt ez3
      have hj := mo_X6_lookAnew_26 hq2 hf; omega
theorem mo_X6_lookAnew_2l {z : mm_M} : ∀ (n : Nat) (x1 : Int32) (M : mm_M), f_X6_lookAnew_2l n x1 M = some z → M.2.2 ≤ z.2.2 := by
  intro n
  induction n with
  | zero => intro x1 M hf; exact absurd hf (by simp [f_X6_lookAnew_2l])
  | succ n ih => intro x1 M hf; exact mo_X6_lookAnew_2 ih hf
theorem mo_X6_lookAnew {z : mm_M} {M : mm_M} (hf : f_X6_lookAnew M = some z) : M.2.2 ≤ z.2.2 := by
  unfold f_X6_lookAnew at hf
  have hj := mo_X6_lookAnew_2l fu_ _ _ hf; omega
def f_X6_heldBy (x1 : Int32) (M : mm_M) : Option Int32 :=
  if ix_ok x1 600 then (
  some (M.1 21 x1.toNatClampNeg)
  ) else none
def f_X11_holds_25 (x1 : Int32) (x2 : Int32) (M : mm_M) : Option (Int32 × mm_M) :=
  (f_X6_heldBy x2 M).bind fun z6 =>
  some (((z6 >>> (x1 &&& 31)) &&& 1), M)
def f_X11_holds (x1 : Int32) (x2 : Int32) (M : mm_M) : Option (Int32 × mm_M) :=
  sq_ (f_X11_isSign x1 M) fun z1 =>
  if z1 = 0 then (
    some (((-1) : Int32), M)
  ) else (
    sq_ (f_X11_isHistory x2 M) fun z3 =>
    if z3 = 0 then (
      some (((-1) : Int32), M)
    ) else (
      (f_X6_lookAnew M).bind fun z5 =>
      f_X11_holds_25 x1 x2 z5
    )
  )
theorem mo_X11_holds_25 {z : (Int32 × mm_M)} {x1 : Int32} {x2 : Int32} {M : mm_M} (hf : f_X11_holds_25 x1 x2 M = some z) : M.2.2 ≤ z.2.2.2 := by
  unfold f_X11_holds_25 at hf
  obtain ⟨z6, ez6, hf⟩ := bd_e hf
  rw [← Option.some.inj hf]; show M.2.2 ≤ M.2.2; exact Nat.le_refl _
theorem mo_X11_holds {z : (Int32 × mm_M)} {x1 : Int32} {x2 : Int32} {M : mm_M} (hf : f_X11_holds x1 x2 M = some z) : M.2.2 ≤ z.2.2.2 := by
  unfold f_X11_holds at hf
  obtain ⟨z1, ez1, hf⟩ := sq_e hf
  by_cases c2 : z1 = 0
  · rw [if_pos c2] at hf
    rw [← Option.some.inj hf]; show M.2.2 ≤ M.2.2; exact Nat.le_refl _
  · rw [if_neg c2] at hf
    obtain ⟨z3, ez3, hf⟩ := sq_e hf
    by_cases c4 : z3 = 0
    · rw [if_pos c4] at hf
      rw [← Option.some.inj hf]; show M.2.2 ≤ M.2.2; exact Nat.le_refl _
    · rw [if_neg c4] at hf
      obtain ⟨z5, ez5, hf⟩ := bd_e hf
      have mz5 : M.2.2 ≤ z5.2.2 := mo_X6_lookAnew ez5
      have hj := mo_X11_holds_25 hf; omega
def f_X6_fitsTo (x1 : Int32) (M : mm_M) : Option Int32 :=
  if ix_ok x1 600 then (
  if ((M.1 19 4) &&& ((M.1 21 x1.toNatClampNeg) ^^^ (-1))) = 0 then (
    some (1 : Int32)
  ) else (
    some (0 : Int32)
  )
  ) else none
theorem bz_X6_fitsTo {z : Int32} {x1 : Int32} {M : mm_M} (hf : f_X6_fitsTo x1 M = some z) : z = 0 ∨ z = 1 := by
  unfold f_X6_fitsTo at hf
  obtain ⟨h1, hf⟩ := ck_e hf
  by_cases c2 : ((M.1 19 4) &&& ((M.1 21 x1.toNatClampNeg) ^^^ (-1))) = 0
  · rw [if_pos c2] at hf
    rw [← Option.some.inj hf]; exact (Or.inr rfl)
  · rw [if_neg c2] at hf
    rw [← Option.some.inj hf]; exact (Or.inl rfl)
def f_X11_fits_56 (q18 : Int32 → Int32 → mm_M → Option (Int32 × mm_M)) (x1 : Int32) (x2 : Int32) (M : mm_M) : Option (Int32 × mm_M) :=
  sq_ (x2 + 1 : Int32) fun y8 =>
  q18 x1 y8 M
def f_X11_fits_53 (q18 : Int32 → Int32 → mm_M → Option (Int32 × mm_M)) (x1 : Int32) (x2 : Int32) (M : mm_M) : Option (Int32 × mm_M) :=
  sq_ (x1 + 1 : Int32) fun y9 =>
  f_X11_fits_56 q18 y9 x2 M
def f_X11_fits_18 (q18 : Int32 → Int32 → mm_M → Option (Int32 × mm_M)) (x1 : Int32) (x2 : Int32) (M : mm_M) : Option (Int32 × mm_M) :=
  if (M.1 14 2) ≤ x2 then (
    some (x1, M)
  ) else (
    (f_X6_fitsTo x2 M).bind fun z4 =>
    if z4 = 0 then (
      f_X11_fits_56 q18 x1 x2 M
    ) else (
      if x1 = 0 then (
        (f_X4_add (x2.toInt64) M).bind fun z7 =>
        f_X11_fits_53 q18 x1 x2 z7
      ) else (
        f_X11_fits_53 q18 x1 x2 M
      )
    )
  )
def f_X11_fits_18l : Nat → Int32 → Int32 → mm_M → Option (Int32 × mm_M)
  | 0, _, _, _ => none
  | n + 1, x1, x2, M => f_X11_fits_18 (f_X11_fits_18l n) x1 x2 M
def f_X11_fits_7 (M : mm_M) : Option (Int32 × mm_M) :=
  sq_ (f_X4_clear M) fun z2 =>
  f_X11_fits_18l fu_ (0 : Int32) (0 : Int32) z2
def f_X11_fits (M : mm_M) : Option (Int32 × mm_M) :=
  (f_X6_lookAnew M).bind fun z1 =>
  f_X11_fits_7 z1
theorem mo_X11_fits_56 {z : (Int32 × mm_M)} {x1 : Int32} {x2 : Int32} {M : mm_M} {q18 : Int32 → Int32 → mm_M → Option (Int32 × mm_M)} (hq18 : ∀ (x1 : Int32) (x2 : Int32) (M : mm_M), q18 x1 x2 M = some z → M.2.2 ≤ z.2.2.2) (hf : f_X11_fits_56 q18 x1 x2 M = some z) : M.2.2 ≤ z.2.2.2 := by
  unfold f_X11_fits_56 at hf
  obtain ⟨y8, ey8, hf⟩ := sq_e hf
  have hj := hq18 _ _ _ hf; omega
theorem mo_X11_fits_53 {z : (Int32 × mm_M)} {x1 : Int32} {x2 : Int32} {M : mm_M} {q18 : Int32 → Int32 → mm_M → Option (Int32 × mm_M)} (hq18 : ∀ (x1 : Int32) (x2 : Int32) (M : mm_M), q18 x1 x2 M = some z → M.2.2 ≤ z.2.2.2) (hf : f_X11_fits_53 q18 x1 x2 M = some z) : M.2.2 ≤ z.2.2.2 := by
  unfold f_X11_fits_53 at hf
  obtain ⟨y9, ey9, hf⟩ := sq_e hf
  have hj := mo_X11_fits_56 hq18 hf; omega
theorem mo_X11_fits_18 {z : (Int32 × mm_M)} {x1 : Int32} {x2 : Int32} {M : mm_M} {q18 : Int32 → Int32 → mm_M → Option (Int32 × mm_M)} (hq18 : ∀ (x1 : Int32) (x2 : Int32) (M : mm_M), q18 x1 x2 M = some z → M.2.2 ≤ z.2.2.2) (hf : f_X11_fits_18 q18 x1 x2 M = some z) : M.2.2 ≤ z.2.2.2 := by
  unfold f_X11_fits_18 at hf
  by_cases c3 : (M.1 14 2) ≤ x2
  · rw [if_pos c3] at hf
    rw [← Option.some.inj hf]; show M.2.2 ≤ M.2.2; exact Nat.le_refl _
  · rw [if_neg c3] at hf
    obtain ⟨z4, ez4, hf⟩ := bd_e hf
    by_cases c5 : z4 = 0
    · rw [if_pos c5] at hf
      have hj := mo_X11_fits_56 hq18 hf; omega
    · rw [if_neg c5] at hf
      by_cases c6 : x1 = 0
      · rw [if_pos c6] at hf
        obtain ⟨z7, ez7, hf⟩ := bd_e hf
        have mz7 : M.2.2 ≤ z7.2.2 := mo_X4_add ez7
        have hj := mo_X11_fits_53 hq18 hf; omega
      · rw [if_neg c6] at hf
        have hj := mo_X11_fits_53 hq18 hf; omega
theorem mo_X11_fits_18l {z : (Int32 × mm_M)} : ∀ (n : Nat) (x1 : Int32) (x2 : Int32) (M : mm_M), f_X11_fits_18l n x1 x2 M = some z → M.2.2 ≤ z.2.2.2 := by
  intro n
  induction n with
  | zero => intro x1 x2 M hf; exact absurd hf (by simp [f_X11_fits_18l])
  | succ n ih => intro x1 x2 M hf; exact mo_X11_fits_18 ih hf
theorem mo_X11_fits_7 {z : (Int32 × mm_M)} {M : mm_M} (hf : f_X11_fits_7 M = some z) : M.2.2 ≤ z.2.2.2 := by
  unfold f_X11_fits_7 at hf
  obtain ⟨z2, ez2, hf⟩ := sq_e hf
  have mz2 : M.2.2 ≤ z2.2.2 := mo_X4_clear ez2.symm
  have hj := mo_X11_fits_18l fu_ _ _ _ hf; omega
theorem mo_X11_fits {z : (Int32 × mm_M)} {M : mm_M} (hf : f_X11_fits M = some z) : M.2.2 ≤ z.2.2.2 := by
  unfold f_X11_fits at hf
  obtain ⟨z1, ez1, hf⟩ := bd_e hf
  have mz1 : M.2.2 ≤ z1.2.2 := mo_X6_lookAnew ez1
  have hj := mo_X11_fits_7 hf; omega
def f_X11_further (x0 : Int32) (x1 : Int32) (x2 : Int32) : Int32 :=
  if x0 = (-2) then (
    x1
  ) else (
    if x2 = 0 then (
      (if x1 < x0 then x1 else x0)
    ) else (
      (if x0 < x1 then x1 else x0)
    )
  )
def f_X11_span_71 (q31 : Int32 → Int32 → Int32 → Int32 → mm_M → Option (Int32 × mm_M)) (x1 : Int32) (x2 : Int32) (x3 : Int32) (x4 : Int32) (M : mm_M) : Option (Int32 × mm_M) :=
  sq_ (x4 + 1 : Int32) fun y11 =>
  q31 x1 x2 x3 y11 M
def f_X11_span_31 (q31 : Int32 → Int32 → Int32 → Int32 → mm_M → Option (Int32 × mm_M)) (x1 : Int32) (x2 : Int32) (x3 : Int32) (x4 : Int32) (M : mm_M) : Option (Int32 × mm_M) :=
  if (M.1 14 2) ≤ x4 then (
    some (x3, M)
  ) else (
    (f_X6_fitsTo x4 M).bind fun z7 =>
    if z7 = 0 then (
      f_X11_span_71 q31 x1 x2 x3 x4 M
    ) else (
      (f_X3_yearOf x4 x1 M).bind fun z9 =>
      sq_ (f_X11_further x3 z9 x2) fun z10 =>
      f_X11_span_71 q31 x1 x2 z10 x4 M
    )
  )
def f_X11_span_31l : Nat → Int32 → Int32 → Int32 → Int32 → mm_M → Option (Int32 × mm_M)
  | 0, _, _, _, _, _ => none
  | n + 1, x1, x2, x3, x4, M => f_X11_span_31 (f_X11_span_31l n) x1 x2 x3 x4 M
def f_X11_span_25 (x1 : Int32) (x2 : Int32) (M : mm_M) : Option (Int32 × mm_M) :=
  f_X11_span_31l fu_ x1 x2 ((-2) : Int32) (0 : Int32) M
def f_X11_span (x1 : Int32) (x2 : Int32) (M : mm_M) : Option (Int32 × mm_M) :=
  sq_ (f_X11_isLaw x1 M) fun z1 =>
  if z1 = 0 then (
    some (((-1) : Int32), M)
  ) else (
    sq_ (f_X11_isBelow x2 (2 : Int32)) fun z3 =>
    if z3 = 0 then (
      some (((-1) : Int32), M)
    ) else (
      (f_X6_lookAnew M).bind fun z5 =>
      f_X11_span_25 x1 x2 z5
    )
  )
theorem mo_X11_span_71 {z : (Int32 × mm_M)} {x1 : Int32} {x2 : Int32} {x3 : Int32} {x4 : Int32} {M : mm_M} {q31 : Int32 → Int32 → Int32 → Int32 → mm_M → Option (Int32 × mm_M)} (hq31 : ∀ (x1 : Int32) (x2 : Int32) (x3 : Int32) (x4 : Int32) (M : mm_M), q31 x1 x2 x3 x4 M = some z → M.2.2 ≤ z.2.2.2) (hf : f_X11_span_71 q31 x1 x2 x3 x4 M = some z) : M.2.2 ≤ z.2.2.2 := by
  unfold f_X11_span_71 at hf
  obtain ⟨y11, ey11, hf⟩ := sq_e hf
  have hj := hq31 _ _ _ _ _ hf; omega
theorem mo_X11_span_31 {z : (Int32 × mm_M)} {x1 : Int32} {x2 : Int32} {x3 : Int32} {x4 : Int32} {M : mm_M} {q31 : Int32 → Int32 → Int32 → Int32 → mm_M → Option (Int32 × mm_M)} (hq31 : ∀ (x1 : Int32) (x2 : Int32) (x3 : Int32) (x4 : Int32) (M : mm_M), q31 x1 x2 x3 x4 M = some z → M.2.2 ≤ z.2.2.2) (hf : f_X11_span_31 q31 x1 x2 x3 x4 M = some z) : M.2.2 ≤ z.2.2.2 := by
  unfold f_X11_span_31 at hf
  by_cases c6 : (M.1 14 2) ≤ x4
  · rw [if_pos c6] at hf
    rw [← Option.some.inj hf]; show M.2.2 ≤ M.2.2; exact Nat.le_refl _
  · rw [if_neg c6] at hf
    obtain ⟨z7, ez7, hf⟩ := bd_e hf
    by_cases c8 : z7 = 0
    · rw [if_pos c8] at hf
      have hj := mo_X11_span_71 hq31 hf; omega
    · rw [if_neg c8] at hf
      obtain ⟨z9, ez9, hf⟩ := bd_e hf
      obtain ⟨z10, ez10, hf⟩ := sq_e hf
      have hj := mo_X11_span_71 hq31 hf; omega
theorem mo_X11_span_31l {z : (Int32 × mm_M)} : ∀ (n : Nat) (x1 : Int32) (x2 : Int32) (x3 : Int32) (x4 : Int32) (M : mm_M), f_X11_span_31l n x1 x2 x3 x4 M = some z → M.2.2 ≤ z.2.2.2 := by
  intro n
  induction n with
  | zero => intro x1 x2 x3 x4 M hf; exact absurd hf (by simp [f_X11_span_31l])
  | succ n ih => intro x1 x2 x3 x4 M hf; exact mo_X11_span_31 ih hf
theorem mo_X11_span_25 {z : (Int32 × mm_M)} {x1 : Int32} {x2 : Int32} {M : mm_M} (hf : f_X11_span_25 x1 x2 M = some z) : M.2.2 ≤ z.2.2.2 := by
  unfold f_X11_span_25 at hf
  have hj := mo_X11_span_31l fu_ _ _ _ _ _ hf; omega
theorem mo_X11_span {z : (Int32 × mm_M)} {x1 : Int32} {x2 : Int32} {M : mm_M} (hf : f_X11_span x1 x2 M = some z) : M.2.2 ≤ z.2.2.2 := by
  unfold f_X11_span at hf
  obtain ⟨z1, ez1, hf⟩ := sq_e hf
  by_cases c2 : z1 = 0
  · rw [if_pos c2] at hf
    rw [← Option.some.inj hf]; show M.2.2 ≤ M.2.2; exact Nat.le_refl _
  · rw [if_neg c2] at hf
    obtain ⟨z3, ez3, hf⟩ := sq_e hf
    by_cases c4 : z3 = 0
    · rw [if_pos c4] at hf
      rw [← Option.some.inj hf]; show M.2.2 ≤ M.2.2; exact Nat.le_refl _
    · rw [if_neg c4] at hf
      obtain ⟨z5, ez5, hf⟩ := bd_e hf
      have mz5 : M.2.2 ≤ z5.2.2 := mo_X6_lookAnew ez5
      have hj := mo_X11_span_25 hf; omega
def f_X11_order_98 (q38 : Int32 → Int32 → Int32 → Int32 → Int32 → mm_M → Option (Int32 × mm_M)) (x1 : Int32) (x2 : Int32) (x3 : Int32) (x4 : Int32) (x5 : Int32) (M : mm_M) : Option (Int32 × mm_M) :=
  sq_ (x5 + 1 : Int32) fun y17 =>
  q38 x1 x2 x3 x4 y17 M
def f_X11_order_95 (q38 : Int32 → Int32 → Int32 → Int32 → Int32 → mm_M → Option (Int32 × mm_M)) (x1 : Int32) (x2 : Int32) (x3 : Int32) (x5 : Int32) (t0 : Int32) (t1 : Int32) (M : mm_M) : Option (Int32 × mm_M) :=
  sq_ ((t0 + t1) : Int32) fun y18 =>
  f_X11_order_98 q38 x1 x2 x3 y18 x5 M
def f_X11_order_104 (x3 : Int32) (x4 : Int32) (M : mm_M) : Option (Int32 × mm_M) :=
  if x3 = 0 then (
    some (((-2) : Int32), M)
  ) else (
    if x4 = x3 then (
      some ((1 : Int32), M)
    ) else (
      if x4 = 0 then (
        some ((2 : Int32), M)
      ) else (
        some ((0 : Int32), M)
      )
    )
  )
def f_X11_order_38 (q38 : Int32 → Int32 → Int32 → Int32 → Int32 → mm_M → Option (Int32 × mm_M)) (x1 : Int32) (x2 : Int32) (x3 : Int32) (x4 : Int32) (x5 : Int32) (M : mm_M) : Option (Int32 × mm_M) :=
  if (M.1 14 2) ≤ x5 then (
    f_X11_order_104 x3 x4 M
  ) else (
    (f_X6_fitsTo x5 M).bind fun z8 =>
    if z8 = 0 then (
      f_X11_order_98 q38 x1 x2 x3 x4 x5 M
    ) else (
      sq_ (x3 + 1 : Int32) fun y10 =>
      (f_X3_turnOf x5 x1 M).bind fun z11 =>
      (f_X3_turnOf x5 x2 M).bind fun z12 =>
      if z12 ≤ z11 then (
        f_X11_order_95 q38 x1 x2 y10 x5 x4 (0 : Int32) M
      ) else (
        f_X11_order_95 q38 x1 x2 y10 x5 x4 (1 : Int32) M
      )
    )
  )
def f_X11_order_38l : Nat → Int32 → Int32 → Int32 → Int32 → Int32 → mm_M → Option (Int32 × mm_M)
  | 0, _, _, _, _, _, _ => none
  | n + 1, x1, x2, x3, x4, x5, M => f_X11_order_38 (f_X11_order_38l n) x1 x2 x3 x4 x5 M
def f_X11_order_30 (x1 : Int32) (x2 : Int32) (M : mm_M) : Option (Int32 × mm_M) :=
  f_X11_order_38l fu_ x1 x2 (0 : Int32) (0 : Int32) (0 : Int32) M
def f_X11_order (x1 : Int32) (x2 : Int32) (M : mm_M) : Option (Int32 × mm_M) :=
  sq_ (f_X11_isLaw x1 M) fun z1 =>
  if z1 = 0 then (
    some (((-1) : Int32), M)
  ) else (
    sq_ (f_X11_isLaw x2 M) fun z3 =>
    if z3 = 0 then (
      some (((-1) : Int32), M)
    ) else (
      if x1 = x2 then (
        some (((-1) : Int32), M)
      ) else (
        (f_X6_lookAnew M).bind fun z6 =>
        f_X11_order_30 x1 x2 z6
      )
    )
  )
theorem mo_X11_order_98 {z : (Int32 × mm_M)} {x1 : Int32} {x2 : Int32} {x3 : Int32} {x4 : Int32} {x5 : Int32} {M : mm_M} {q38 : Int32 → Int32 → Int32 → Int32 → Int32 → mm_M → Option (Int32 × mm_M)} (hq38 : ∀ (x1 : Int32) (x2 : Int32) (x3 : Int32) (x4 : Int32) (x5 : Int32) (M : mm_M), q38 x1 x2 x3 x4 x5 M = some z → M.2.2 ≤ z.2.2.2) (hf : f_X11_order_98 q38 x1 x2 x3 x4 x5 M = some z) : M.2.2 ≤ z.2.2.2 := by
  unfold f_X11_order_98 at hf
  obtain ⟨y17, ey17, hf⟩ := sq_e hf
  have hj := hq38 _ _ _ _ _ _ hf; omega
theorem mo_X11_order_95 {z : (Int32 × mm_M)} {x1 : Int32} {x2 : Int32} {x3 : Int32} {x5 : Int32} {t0 : Int32} {t1 : Int32} {M : mm_M} {q38 : Int32 → Int32 → Int32 → Int32 → Int32 → mm_M → Option (Int32 × mm_M)} (hq38 : ∀ (x1 : Int32) (x2 : Int32) (x3 : Int32) (x4 : Int32) (x5 : Int32) (M : mm_M), q38 x1 x2 x3 x4 x5 M = some z → M.2.2 ≤ z.2.2.2) (hf : f_X11_order_95 q38 x1 x2 x3 x5 t0 t1 M = some z) : M.2.2 ≤ z.2.2.2 := by
  unfold f_X11_order_95 at hf
  obtain ⟨y18, ey18, hf⟩ := sq_e hf
  have hj := mo_X11_order_98 hq38 hf; omega
theorem mo_X11_order_104 {z : (Int32 × mm_M)} {x3 : Int32} {x4 : Int32} {M : mm_M} (hf : f_X11_order_104 x3 x4 M = some z) : M.2.2 ≤ z.2.2.2 := by
  unfold f_X11_order_104 at hf
  by_cases c14 : x3 = 0
  · rw [if_pos c14] at hf
    rw [← Option.some.inj hf]; show M.2.2 ≤ M.2.2; exact Nat.le_refl _
  · rw [if_neg c14] at hf
    by_cases c15 : x4 = x3
    · rw [if_pos c15] at hf
      rw [← Option.some.inj hf]; show M.2.2 ≤ M.2.2; exact Nat.le_refl _
    · rw [if_neg c15] at hf
      by_cases c16 : x4 = 0
      · rw [if_pos c16] at hf
        rw [← Option.some.inj hf]; show M.2.2 ≤ M.2.2; exact Nat.le_refl _
      · rw [if_neg c16] at hf
        rw [← Option.some.inj hf]; show M.2.2 ≤ M.2.2; exact Nat.le_refl _
theorem mo_X11_order_38 {z : (Int32 × mm_M)} {x1 : Int32} {x2 : Int32} {x3 : Int32} {x4 : Int32} {x5 : Int32} {M : mm_M} {q38 : Int32 → Int32 → Int32 → Int32 → Int32 → mm_M → Option (Int32 × mm_M)} (hq38 : ∀ (x1 : Int32) (x2 : Int32) (x3 : Int32) (x4 : Int32) (x5 : Int32) (M : mm_M), q38 x1 x2 x3 x4 x5 M = some z → M.2.2 ≤ z.2.2.2) (hf : f_X11_order_38 q38 x1 x2 x3 x4 x5 M = some z) : M.2.2 ≤ z.2.2.2 := by
  unfold f_X11_order_38 at hf
  by_cases c7 : (M.1 14 2) ≤ x5
  · rw [if_pos c7] at hf
    have hj := mo_X11_order_104 hf; omega
  · rw [if_neg c7] at hf
    obtain ⟨z8, ez8, hf⟩ := bd_e hf
    by_cases c9 : z8 = 0
    · rw [if_pos c9] at hf
      have hj := mo_X11_order_98 hq38 hf; omega
    · rw [if_neg c9] at hf
      obtain ⟨y10, ey10, hf⟩ := sq_e hf
      obtain ⟨z11, ez11, hf⟩ := bd_e hf
      obtain ⟨z12, ez12, hf⟩ := bd_e hf
      by_cases c13 : z12 ≤ z11
      · rw [if_pos c13] at hf
        have hj := mo_X11_order_95 hq38 hf; omega
      · rw [if_neg c13] at hf
        have hj := mo_X11_order_95 hq38 hf; omega
theorem mo_X11_order_38l {z : (Int32 × mm_M)} : ∀ (n : Nat) (x1 : Int32) (x2 : Int32) (x3 : Int32) (x4 : Int32) (x5 : Int32) (M : mm_M), f_X11_order_38l n x1 x2 x3 x4 x5 M = some z → M.2.2 ≤ z.2.2.2 := by
  intro n
  induction n with
  | zero => intro x1 x2 x3 x4 x5 M hf; exact absurd hf (by simp [f_X11_order_38l])
  | succ n ih => intro x1 x2 x3 x4 x5 M hf; exact mo_X11_order_38 ih hf
theorem mo_X11_order_30 {z : (Int32 × mm_M)} {x1 : Int32} {x2 : Int32} {M : mm_M} (hf : f_X11_order_30 x1 x2 M = some z) : M.2.2 ≤ z.2.2.2 := by
  unfold f_X11_order_30 at hf
  have hj := mo_X11_order_38l fu_ _ _ _ _ _ _ hf; omega
theorem mo_X11_order {z : (Int32 × mm_M)} {x1 : Int32} {x2 : Int32} {M : mm_M} (hf : f_X11_order x1 x2 M = some z) : M.2.2 ≤ z.2.2.2 := by
  unfold f_X11_order at hf
  obtain ⟨z1, ez1, hf⟩ := sq_e hf
  by_cases c2 : z1 = 0
  · rw [if_pos c2] at hf
    rw [← Option.some.inj hf]; show M.2.2 ≤ M.2.2; exact Nat.le_refl _
  · rw [if_neg c2] at hf
    obtain ⟨z3, ez3, hf⟩ := sq_e hf
    by_cases c4 : z3 = 0
    · rw [if_pos c4] at hf
      rw [← Option.some.inj hf]; show M.2.2 ≤ M.2.2; exact Nat.le_refl _
    · rw [if_neg c4] at hf
      by_cases c5 : x1 = x2
      · rw [if_pos c5] at hf
        rw [← Option.some.inj hf]; show M.2.2 ≤ M.2.2; exact Nat.le_refl _
      · rw [if_neg c5] at hf
        obtain ⟨z6, ez6, hf⟩ := bd_e hf
        have mz6 : M.2.2 ≤ z6.2.2 := mo_X6_lookAnew ez6
        have hj := mo_X11_order_30 hf; omega
def f_X6_failingBy (x1 : Int32) (M : mm_M) : Option Int32 :=
  if ix_ok x1 600 then (
  some ((M.1 19 4) &&& ((M.1 21 x1.toNatClampNeg) ^^^ (-1)))
  ) else none
def f_X11_wrong_49 (q11 : Int32 → Int32 → mm_M → Option (Int32 × mm_M)) (x1 : Int32) (x2 : Int32) (M : mm_M) : Option (Int32 × mm_M) :=
  sq_ (x2 + 1 : Int32) fun y13 =>
  q11 x1 y13 M
def f_X11_wrong_55 (x1 : Int32) (M : mm_M) : Option (Int32 × mm_M) :=
  (f_X6_failingBy x1 M).bind fun z8 =>
  sq_ (f_X4_clear M) fun z9 =>
  (f_X4_add (x1.toInt64) z9).bind fun z10 =>
  (f_X4_add (z8.toInt64) z10).bind fun z11 =>
  sq_ (f_J6_bitCount_0f7a4 z8) fun z12 =>
  some (z12, z11)
def f_X11_wrong_11 (q11 : Int32 → Int32 → mm_M → Option (Int32 × mm_M)) (x1 : Int32) (x2 : Int32) (M : mm_M) : Option (Int32 × mm_M) :=
  if (M.1 14 2) ≤ x2 then (
    f_X11_wrong_55 x1 M
  ) else (
    (f_X6_failingBy x2 M).bind fun z3 =>
    sq_ (f_J6_bitCount_0f7a4 z3) fun z4 =>
    (f_X6_failingBy x1 M).bind fun z5 =>
    sq_ (f_J6_bitCount_0f7a4 z5) fun z6 =>
    if z6 ≤ z4 then (
      f_X11_wrong_49 q11 x1 x2 M
    ) else (
      f_X11_wrong_49 q11 x2 x2 M
    )
  )
def f_X11_wrong_11l : Nat → Int32 → Int32 → mm_M → Option (Int32 × mm_M)
  | 0, _, _, _ => none
  | n + 1, x1, x2, M => f_X11_wrong_11 (f_X11_wrong_11l n) x1 x2 M
def f_X11_wrong_7 (M : mm_M) : Option (Int32 × mm_M) :=
  f_X11_wrong_11l fu_ (0 : Int32) (1 : Int32) M
def f_X11_wrong (M : mm_M) : Option (Int32 × mm_M) :=
  (f_X6_lookAnew M).bind fun z1 =>
  f_X11_wrong_7 z1
theorem mo_X11_wrong_49 {z : (Int32 × mm_M)} {x1 : Int32} {x2 : Int32} {M : mm_M} {q11 : Int32 → Int32 → mm_M → Option (Int32 × mm_M)} (hq11 : ∀ (x1 : Int32) (x2 : Int32) (M : mm_M), q11 x1 x2 M = some z → M.2.2 ≤ z.2.2.2) (hf : f_X11_wrong_49 q11 x1 x2 M = some z) : M.2.2 ≤ z.2.2.2 := by
  unfold f_X11_wrong_49 at hf
  obtain ⟨y13, ey13, hf⟩ := sq_e hf
  have hj := hq11 _ _ _ hf; omega
theorem mo_X11_wrong_55 {z : (Int32 × mm_M)} {x1 : Int32} {M : mm_M} (hf : f_X11_wrong_55 x1 M = some z) : M.2.2 ≤ z.2.2.2 := by
  unfold f_X11_wrong_55 at hf
  obtain ⟨z8, ez8, hf⟩ := bd_e hf
  obtain ⟨z9, ez9, hf⟩ := sq_e hf
  have mz9 : M.2.2 ≤ z9.2.2 := mo_X4_clear ez9.symm
  obtain ⟨z10, ez10, hf⟩ := bd_e hf
  have mz10 : z9.2.2 ≤ z10.2.2 := mo_X4_add ez10
  obtain ⟨z11, ez11, hf⟩ := bd_e hf
  have mz11 : z10.2.2 ≤ z11.2.2 := mo_X4_add ez11
  obtain ⟨z12, ez12, hf⟩ := sq_e hf
  rw [← Option.some.inj hf]; show M.2.2 ≤ z11.2.2; omega
theorem mo_X11_wrong_11 {z : (Int32 × mm_M)} {x1 : Int32} {x2 : Int32} {M : mm_M} {q11 : Int32 → Int32 → mm_M → Option (Int32 × mm_M)} (hq11 : ∀ (x1 : Int32) (x2 : Int32) (M : mm_M), q11 x1 x2 M = some z → M.2.2 ≤ z.2.2.2) (hf : f_X11_wrong_11 q11 x1 x2 M = some z) : M.2.2 ≤ z.2.2.2 := by
  unfold f_X11_wrong_11 at hf
  by_cases c2 : (M.1 14 2) ≤ x2
  · rw [if_pos c2] at hf
    have hj := mo_X11_wrong_55 hf; omega
  · rw [if_neg c2] at hf
    obtain ⟨z3, ez3, hf⟩ := bd_e hf
    obtain ⟨z4, ez4, hf⟩ := sq_e hf
    obtain ⟨z5, ez5, hf⟩ := bd_e hf
    obtain ⟨z6, ez6, hf⟩ := sq_e hf
    by_cases c7 : z6 ≤ z4
    · rw [if_pos c7] at hf
      have hj := mo_X11_wrong_49 hq11 hf; omega
    · rw [if_neg c7] at hf
      have hj := mo_X11_wrong_49 hq11 hf; omega
theorem mo_X11_wrong_11l {z : (Int32 × mm_M)} : ∀ (n : Nat) (x1 : Int32) (x2 : Int32) (M : mm_M), f_X11_wrong_11l n x1 x2 M = some z → M.2.2 ≤ z.2.2.2 := by
  intro n
  induction n with
  | zero => intro x1 x2 M hf; exact absurd hf (by simp [f_X11_wrong_11l])
  | succ n ih => intro x1 x2 M hf; exact mo_X11_wrong_11 ih hf
theorem mo_X11_wrong_7 {z : (Int32 × mm_M)} {M : mm_M} (hf : f_X11_wrong_7 M = some z) : M.2.2 ≤ z.2.2.2 := by
  unfold f_X11_wrong_7 at hf
  have hj := mo_X11_wrong_11l fu_ _ _ _ hf; omega
theorem mo_X11_wrong {z : (Int32 × mm_M)} {M : mm_M} (hf : f_X11_wrong M = some z) : M.2.2 ≤ z.2.2.2 := by
  unfold f_X11_wrong at hf
  obtain ⟨z1, ez1, hf⟩ := bd_e hf
  have mz1 : M.2.2 ≤ z1.2.2 := mo_X6_lookAnew ez1
  have hj := mo_X11_wrong_7 hf; omega
def f_X11_blunder_49 (q11 : Int32 → Int32 → mm_M → Option (Int32 × mm_M)) (x1 : Int32) (x2 : Int32) (M : mm_M) : Option (Int32 × mm_M) :=
  sq_ (x2 + 1 : Int32) fun y8 =>
  q11 x1 y8 M
def f_X11_blunder_11 (q11 : Int32 → Int32 → mm_M → Option (Int32 × mm_M)) (x1 : Int32) (x2 : Int32) (M : mm_M) : Option (Int32 × mm_M) :=
  if (M.1 14 2) ≤ x2 then (
    some (x1, M)
  ) else (
    (f_X6_failingBy x2 M).bind fun z3 =>
    if z3 = 0 then (
      some ((0 : Int32), M)
    ) else (
      sq_ (f_J6_bitCount_0f7a4 z3) fun z5 =>
      if z5 = 1 then (
        sq_ ((x1 ||| z3) : Int32) fun y7 =>
        f_X11_blunder_49 q11 y7 x2 M
      ) else (
        f_X11_blunder_49 q11 x1 x2 M
      )
    )
  )
def f_X11_blunder_11l : Nat → Int32 → Int32 → mm_M → Option (Int32 × mm_M)
  | 0, _, _, _ => none
  | n + 1, x1, x2, M => f_X11_blunder_11 (f_X11_blunder_11l n) x1 x2 M
def f_X11_blunder_7 (M : mm_M) : Option (Int32 × mm_M) :=
  f_X11_blunder_11l fu_ (0 : Int32) (0 : Int32) M
def f_X11_blunder (M : mm_M) : Option (Int32 × mm_M) :=
  (f_X6_lookAnew M).bind fun z1 =>
  f_X11_blunder_7 z1
theorem mo_X11_blunder_49 {z : (Int32 × mm_M)} {x1 : Int32} {x2 : Int32} {M : mm_M} {q11 : Int32 → Int32 → mm_M → Option (Int32 × mm_M)} (hq11 : ∀ (x1 : Int32) (x2 : Int32) (M : mm_M), q11 x1 x2 M = some z → M.2.2 ≤ z.2.2.2) (hf : f_X11_blunder_49 q11 x1 x2 M = some z) : M.2.2 ≤ z.2.2.2 := by
  unfold f_X11_blunder_49 at hf
  obtain ⟨y8, ey8, hf⟩ := sq_e hf
  have hj := hq11 _ _ _ hf; omega
theorem mo_X11_blunder_11 {z : (Int32 × mm_M)} {x1 : Int32} {x2 : Int32} {M : mm_M} {q11 : Int32 → Int32 → mm_M → Option (Int32 × mm_M)} (hq11 : ∀ (x1 : Int32) (x2 : Int32) (M : mm_M), q11 x1 x2 M = some z → M.2.2 ≤ z.2.2.2) (hf : f_X11_blunder_11 q11 x1 x2 M = some z) : M.2.2 ≤ z.2.2.2 := by
  unfold f_X11_blunder_11 at hf
  by_cases c2 : (M.1 14 2) ≤ x2
  · rw [if_pos c2] at hf
    rw [← Option.some.inj hf]; show M.2.2 ≤ M.2.2; exact Nat.le_refl _
  · rw [if_neg c2] at hf
    obtain ⟨z3, ez3, hf⟩ := bd_e hf
    by_cases c4 : z3 = 0
    · rw [if_pos c4] at hf
      rw [← Option.some.inj hf]; show M.2.2 ≤ M.2.2; exact Nat.le_refl _
    · rw [if_neg c4] at hf
      obtain ⟨z5, ez5, hf⟩ := sq_e hf
      by_cases c6 : z5 = 1
      · rw [if_pos c6] at hf
        obtain ⟨y7, ey7, hf⟩ := sq_e hf
        have hj := mo_X11_blunder_49 hq11 hf; omega
      · rw [if_neg c6] at hf
        have hj := mo_X11_blunder_49 hq11 hf; omega
theorem mo_X11_blunder_11l {z : (Int32 × mm_M)} : ∀ (n : Nat) (x1 : Int32) (x2 : Int32) (M : mm_M), f_X11_blunder_11l n x1 x2 M = some z → M.2.2 ≤ z.2.2.2 := by
  intro n
  induction n with
  | zero => intro x1 x2 M hf; exact absurd hf (by simp [f_X11_blunder_11l])
  | succ n ih => intro x1 x2 M hf; exact mo_X11_blunder_11 ih hf
theorem mo_X11_blunder_7 {z : (Int32 × mm_M)} {M : mm_M} (hf : f_X11_blunder_7 M = some z) : M.2.2 ≤ z.2.2.2 := by
  unfold f_X11_blunder_7 at hf
  have hj := mo_X11_blunder_11l fu_ _ _ _ hf; omega
theorem mo_X11_blunder {z : (Int32 × mm_M)} {M : mm_M} (hf : f_X11_blunder M = some z) : M.2.2 ≤ z.2.2.2 := by
  unfold f_X11_blunder at hf
  obtain ⟨z1, ez1, hf⟩ := bd_e hf
  have mz1 : M.2.2 ≤ z1.2.2 := mo_X6_lookAnew ez1
  have hj := mo_X11_blunder_7 hf; omega
def f_X11_sure_92 (q41 : Int32 → Int32 → Int32 → Int32 → mm_M → Option (Int32 × mm_M)) (x1 : Int32) (x2 : Int32) (x3 : Int32) (x4 : Int32) (M : mm_M) : Option (Int32 × mm_M) :=
  sq_ (x4 + 1 : Int32) fun y19 =>
  q41 x1 x2 x3 y19 M
def f_X11_sure_84 (q41 : Int32 → Int32 → Int32 → Int32 → mm_M → Option (Int32 × mm_M)) (x1 : Int32) (x2 : Int32) (x3 : Int32) (x4 : Int32) (t2 : Int32) (M : mm_M) : Option (Int32 × mm_M) :=
  (f_X9_formOn t2 x1 M).bind fun z20 =>
  (f_X10_add z20 (1 : Int64) M).bind fun z21 =>
  f_X11_sure_92 q41 x1 x2 x3 x4 z21
def f_X11_sure_98 (M : mm_M) : Option (Int32 × mm_M) :=
  if (M.1 39 2) = 0 then (
    some (((-2) : Int32), M)
  ) else (
    sq_ (f_X4_clear M) fun z14 =>
    (f_X10_shortest z14).bind fun z15 =>
    (f_X4_add (z15.toInt64) z14).bind fun z16 =>
    (f_X10_longest z16).bind fun z17 =>
    (f_X4_add (z17.toInt64) z16).bind fun z18 =>
    some ((z18.1 39 2), z18)
  )
def f_X11_sure_41 (q41 : Int32 → Int32 → Int32 → Int32 → mm_M → Option (Int32 × mm_M)) (x1 : Int32) (x2 : Int32) (x3 : Int32) (x4 : Int32) (M : mm_M) : Option (Int32 × mm_M) :=
  if (M.1 14 2) ≤ x4 then (
    f_X11_sure_98 M
  ) else (
    (f_X6_fitsTo x4 M).bind fun z10 =>
    if z10 = 0 then (
      f_X11_sure_92 q41 x1 x2 x3 x4 M
    ) else (
      (f_X3_courseAt x4 x2 x3 M).bind fun z12 =>
      f_X11_sure_84 q41 x1 x2 x3 x4 z12.1 z12.2
    )
  )
def f_X11_sure_41l : Nat → Int32 → Int32 → Int32 → Int32 → mm_M → Option (Int32 × mm_M)
  | 0, _, _, _, _, _ => none
  | n + 1, x1, x2, x3, x4, M => f_X11_sure_41 (f_X11_sure_41l n) x1 x2 x3 x4 M
def f_X11_sure_31 (x1 : Int32) (x2 : Int32) (x3 : Int32) (M : mm_M) : Option (Int32 × mm_M) :=
  sq_ (f_X10_clear M) fun z8 =>
  f_X11_sure_41l fu_ x1 x2 x3 (0 : Int32) z8
def f_X11_sure (x1 : Int32) (x2 : Int32) (x3 : Int32) (M : mm_M) : Option (Int32 × mm_M) :=
  sq_ (f_X11_isWord x1 M) fun z1 =>
  if z1 = 0 then (
    some (((-1) : Int32), M)
  ) else (
    sq_ (f_X11_isYear x2) fun z3 =>
    if z3 = 0 then (
      some (((-1) : Int32), M)
    ) else (
      sq_ (f_X11_isPlace x3) fun z5 =>
      if z5 = 0 then (
        some (((-1) : Int32), M)
      ) else (
        (f_X6_lookAnew M).bind fun z7 =>
        f_X11_sure_31 x1 x2 x3 z7
      )
    )
  )
theorem mo_X11_sure_92 {z : (Int32 × mm_M)} {x1 : Int32} {x2 : Int32} {x3 : Int32} {x4 : Int32} {M : mm_M} {q41 : Int32 → Int32 → Int32 → Int32 → mm_M → Option (Int32 × mm_M)} (hq41 : ∀ (x1 : Int32) (x2 : Int32) (x3 : Int32) (x4 : Int32) (M : mm_M), q41 x1 x2 x3 x4 M = some z → M.2.2 ≤ z.2.2.2) (hf : f_X11_sure_92 q41 x1 x2 x3 x4 M = some z) : M.2.2 ≤ z.2.2.2 := by
  unfold f_X11_sure_92 at hf
  obtain ⟨y19, ey19, hf⟩ := sq_e hf
  have hj := hq41 _ _ _ _ _ hf; omega
theorem mo_X11_sure_84 {z : (Int32 × mm_M)} {x1 : Int32} {x2 : Int32} {x3 : Int32} {x4 : Int32} {t2 : Int32} {M : mm_M} {q41 : Int32 → Int32 → Int32 → Int32 → mm_M → Option (Int32 × mm_M)} (hq41 : ∀ (x1 : Int32) (x2 : Int32) (x3 : Int32) (x4 : Int32) (M : mm_M), q41 x1 x2 x3 x4 M = some z → M.2.2 ≤ z.2.2.2) (hf : f_X11_sure_84 q41 x1 x2 x3 x4 t2 M = some z) : M.2.2 ≤ z.2.2.2 := by
  unfold f_X11_sure_84 at hf
  obtain ⟨z20, ez20, hf⟩ := bd_e hf
  obtain ⟨z21, ez21, hf⟩ := bd_e hf
  have mz21 : M.2.2 ≤ z21.2.2 := mo_X10_add ez21
  have hj := mo_X11_sure_92 hq41 hf; omega
theorem mo_X11_sure_98 {z : (Int32 × mm_M)} {M : mm_M} (hf : f_X11_sure_98 M = some z) : M.2.2 ≤ z.2.2.2 := by
  unfold f_X11_sure_98 at hf
  by_cases c13 : (M.1 39 2) = 0
  · rw [if_pos c13] at hf
    rw [← Option.some.inj hf]; show M.2.2 ≤ M.2.2; exact Nat.le_refl _
  · rw [if_neg c13] at hf
    obtain ⟨z14, ez14, hf⟩ := sq_e hf
    have mz14 : M.2.2 ≤ z14.2.2 := mo_X4_clear ez14.symm
    obtain ⟨z15, ez15, hf⟩ := bd_e hf
    obtain ⟨z16, ez16, hf⟩ := bd_e hf
    have mz16 : z14.2.2 ≤ z16.2.2 := mo_X4_add ez16
    obtain ⟨z17, ez17, hf⟩ := bd_e hf
    obtain ⟨z18, ez18, hf⟩ := bd_e hf
    have mz18 : z16.2.2 ≤ z18.2.2 := mo_X4_add ez18
    rw [← Option.some.inj hf]; show M.2.2 ≤ z18.2.2; omega
theorem mo_X11_sure_41 {z : (Int32 × mm_M)} {x1 : Int32} {x2 : Int32} {x3 : Int32} {x4 : Int32} {M : mm_M} {q41 : Int32 → Int32 → Int32 → Int32 → mm_M → Option (Int32 × mm_M)} (hq41 : ∀ (x1 : Int32) (x2 : Int32) (x3 : Int32) (x4 : Int32) (M : mm_M), q41 x1 x2 x3 x4 M = some z → M.2.2 ≤ z.2.2.2) (hf : f_X11_sure_41 q41 x1 x2 x3 x4 M = some z) : M.2.2 ≤ z.2.2.2 := by
  unfold f_X11_sure_41 at hf
  by_cases c9 : (M.1 14 2) ≤ x4
  · rw [if_pos c9] at hf
    have hj := mo_X11_sure_98 hf; omega
  · rw [if_neg c9] at hf
    obtain ⟨z10, ez10, hf⟩ := bd_e hf
    by_cases c11 : z10 = 0
    · rw [if_pos c11] at hf
      have hj := mo_X11_sure_92 hq41 hf; omega
    · rw [if_neg c11] at hf
      obtain ⟨z12, ez12, hf⟩ := bd_e hf
      have mz12 : M.2.2 ≤ z12.2.2.2 := mo_X3_courseAt ez12
      have hj := mo_X11_sure_84 hq41 hf; omega
theorem mo_X11_sure_41l {z : (Int32 × mm_M)} : ∀ (n : Nat) (x1 : Int32) (x2 : Int32) (x3 : Int32) (x4 : Int32) (M : mm_M), f_X11_sure_41l n x1 x2 x3 x4 M = some z → M.2.2 ≤ z.2.2.2 := by
  intro n
  induction n with
  | zero => intro x1 x2 x3 x4 M hf; exact absurd hf (by simp [f_X11_sure_41l])
  | succ n ih => intro x1 x2 x3 x4 M hf; exact mo_X11_sure_41 ih hf
theorem mo_X11_sure_31 {z : (Int32 × mm_M)} {x1 : Int32} {x2 : Int32} {x3 : Int32} {M : mm_M} (hf : f_X11_sure_31 x1 x2 x3 M = some z) : M.2.2 ≤ z.2.2.2 := by
  unfold f_X11_sure_31 at hf
  obtain ⟨z8, ez8, hf⟩ := sq_e hf
  have mz8 : M.2.2 ≤ z8.2.2 := mo_X10_clear ez8.symm
  have hj := mo_X11_sure_41l fu_ _ _ _ _ _ hf; omega
theorem mo_X11_sure {z : (Int32 × mm_M)} {x1 : Int32} {x2 : Int32} {x3 : Int32} {M : mm_M} (hf : f_X11_sure x1 x2 x3 M = some z) : M.2.2 ≤ z.2.2.2 := by
  unfold f_X11_sure at hf
  obtain ⟨z1, ez1, hf⟩ := sq_e hf
  by_cases c2 : z1 = 0
  · rw [if_pos c2] at hf
    rw [← Option.some.inj hf]; show M.2.2 ≤ M.2.2; exact Nat.le_refl _
  · rw [if_neg c2] at hf
    obtain ⟨z3, ez3, hf⟩ := sq_e hf
    by_cases c4 : z3 = 0
    · rw [if_pos c4] at hf
      rw [← Option.some.inj hf]; show M.2.2 ≤ M.2.2; exact Nat.le_refl _
    · rw [if_neg c4] at hf
      obtain ⟨z5, ez5, hf⟩ := sq_e hf
      by_cases c6 : z5 = 0
      · rw [if_pos c6] at hf
        rw [← Option.some.inj hf]; show M.2.2 ≤ M.2.2; exact Nat.le_refl _
      · rw [if_neg c6] at hf
        obtain ⟨z7, ez7, hf⟩ := bd_e hf
        have mz7 : M.2.2 ≤ z7.2.2 := mo_X6_lookAnew ez7
        have hj := mo_X11_sure_31 hf; omega
def f_X6_allAreSoAmong_82 (q3 : Int32 → Int32 → Int32 → Int32 → mm_M → Option (Int32 × mm_M)) (x1 : Int32) (x2 : Int32) (x3 : Int32) (x4 : Int32) (M : mm_M) : Option (Int32 × mm_M) :=
  sq_ (x4 + 1 : Int32) fun y9 =>
  q3 x1 x2 x3 y9 M
def f_X6_allAreSoAmong_70 (q3 : Int32 → Int32 → Int32 → Int32 → mm_M → Option (Int32 × mm_M)) (x1 : Int32) (x2 : Int32) (x3 : Int32) (x4 : Int32) (ks0 : Nat) (t1 : Int32) (M : mm_M) : Option (Int32 × mm_M) :=
  (f_X5_isSoOn ks0 t1 M).bind fun z10 =>
  if z10 = 0 then (
    some ((0 : Int32), M)
  ) else (
    f_X6_allAreSoAmong_82 q3 x1 x2 x3 x4 M
  )
def f_X6_allAreSoAmong_3 (q3 : Int32 → Int32 → Int32 → Int32 → mm_M → Option (Int32 × mm_M)) (x1 : Int32) (x2 : Int32) (x3 : Int32) (x4 : Int32) (M : mm_M) : Option (Int32 × mm_M) :=
  if (M.1 19 3) ≤ x4 then (
    some ((1 : Int32), M)
  ) else (
    if ((x1 >>> (x4 &&& 31)) &&& 1) = 0 then (
      f_X6_allAreSoAmong_82 q3 x1 x2 x3 x4 M
    ) else (
      if ix_ok x4 16 then (
      if ix_ok x4 16 then (
      if ix_ok (M.1 (22 + x4.toNatClampNeg) 5) 6 then (
      sq_ (((M.1 (22 + x4.toNatClampNeg) 4) - (M.1 15 (M.1 (22 + x4.toNatClampNeg) 5).toNatClampNeg)) : Int32) fun y6 =>
      if ix_ok x4 16 then (
      (f_X3_courseAmong x2 y6 x3 M).bind fun z8 =>
      f_X6_allAreSoAmong_70 q3 x1 x2 x3 x4 (22 + x4.toNatClampNeg) z8.1 z8.2
      ) else none ) else none ) else none ) else none
    )
  )
def f_X6_allAreSoAmong_3l : Nat → Int32 → Int32 → Int32 → Int32 → mm_M → Option (Int32 × mm_M)
  | 0, _, _, _, _, _ => none
  | n + 1, x1, x2, x3, x4, M => f_X6_allAreSoAmong_3 (f_X6_allAreSoAmong_3l n) x1 x2 x3 x4 M
def f_X6_allAreSoAmong (x1 : Int32) (x2 : Int32) (x3 : Int32) (M : mm_M) : Option (Int32 × mm_M) :=
  f_X6_allAreSoAmong_3l fu_ x1 x2 x3 (0 : Int32) M
theorem mo_X6_allAreSoAmong_82 {z : (Int32 × mm_M)} {x1 : Int32} {x2 : Int32} {x3 : Int32} {x4 : Int32} {M : mm_M} {q3 : Int32 → Int32 → Int32 → Int32 → mm_M → Option (Int32 × mm_M)} (hq3 : ∀ (x1 : Int32) (x2 : Int32) (x3 : Int32) (x4 : Int32) (M : mm_M), q3 x1 x2 x3 x4 M = some z → M.2.2 ≤ z.2.2.2) (hf : f_X6_allAreSoAmong_82 q3 x1 x2 x3 x4 M = some z) : M.2.2 ≤ z.2.2.2 := by
  unfold f_X6_allAreSoAmong_82 at hf
  obtain ⟨y9, ey9, hf⟩ := sq_e hf
  have hj := hq3 _ _ _ _ _ hf; omega
theorem mo_X6_allAreSoAmong_70 {z : (Int32 × mm_M)} {x1 : Int32} {x2 : Int32} {x3 : Int32} {x4 : Int32} {ks0 : Nat} {t1 : Int32} {M : mm_M} {q3 : Int32 → Int32 → Int32 → Int32 → mm_M → Option (Int32 × mm_M)} (hq3 : ∀ (x1 : Int32) (x2 : Int32) (x3 : Int32) (x4 : Int32) (M : mm_M), q3 x1 x2 x3 x4 M = some z → M.2.2 ≤ z.2.2.2) (hf : f_X6_allAreSoAmong_70 q3 x1 x2 x3 x4 ks0 t1 M = some z) : M.2.2 ≤ z.2.2.2 := by
  unfold f_X6_allAreSoAmong_70 at hf
  obtain ⟨z10, ez10, hf⟩ := bd_e hf
  by_cases c11 : z10 = 0
  · rw [if_pos c11] at hf
    rw [← Option.some.inj hf]; show M.2.2 ≤ M.2.2; exact Nat.le_refl _
  · rw [if_neg c11] at hf
    have hj := mo_X6_allAreSoAmong_82 hq3 hf; omega
theorem mo_X6_allAreSoAmong_3 {z : (Int32 × mm_M)} {x1 : Int32} {x2 : Int32} {x3 : Int32} {x4 : Int32} {M : mm_M} {q3 : Int32 → Int32 → Int32 → Int32 → mm_M → Option (Int32 × mm_M)} (hq3 : ∀ (x1 : Int32) (x2 : Int32) (x3 : Int32) (x4 : Int32) (M : mm_M), q3 x1 x2 x3 x4 M = some z → M.2.2 ≤ z.2.2.2) (hf : f_X6_allAreSoAmong_3 q3 x1 x2 x3 x4 M = some z) : M.2.2 ≤ z.2.2.2 := by
  unfold f_X6_allAreSoAmong_3 at hf
  by_cases c1 : (M.1 19 3) ≤ x4
  · rw [if_pos c1] at hf
    rw [← Option.some.inj hf]; show M.2.2 ≤ M.2.2; exact Nat.le_refl _
  · rw [if_neg c1] at hf
    by_cases c2 : ((x1 >>> (x4 &&& 31)) &&& 1) = 0
    · rw [if_pos c2] at hf
      have hj := mo_X6_allAreSoAmong_82 hq3 hf; omega
    · rw [if_neg c2] at hf
      obtain ⟨h3, hf⟩ := ck_e hf
      obtain ⟨h4, hf⟩ := ck_e hf
      obtain ⟨h5, hf⟩ := ck_e hf
      obtain ⟨y6, ey6, hf⟩ := sq_e hf
      obtain ⟨h7, hf⟩ := ck_e hf
      obtain ⟨z8, ez8, hf⟩ := bd_e hf
      have mz8 : M.2.2 ≤ z8.2.2.2 := mo_X3_courseAmong ez8
      have hj := mo_X6_allAreSoAmong_70 hq3 hf; omega
theorem mo_X6_allAreSoAmong_3l {z : (Int32 × mm_M)} : ∀ (n : Nat) (x1 : Int32) (x2 : Int32) (x3 : Int32) (x4 : Int32) (M : mm_M), f_X6_allAreSoAmong_3l n x1 x2 x3 x4 M = some z → M.2.2 ≤ z.2.2.2 := by
  intro n
  induction n with
  | zero => intro x1 x2 x3 x4 M hf; exact absurd hf (by simp [f_X6_allAreSoAmong_3l])
  | succ n ih => intro x1 x2 x3 x4 M hf; exact mo_X6_allAreSoAmong_3 ih hf
theorem mo_X6_allAreSoAmong {z : (Int32 × mm_M)} {x1 : Int32} {x2 : Int32} {x3 : Int32} {M : mm_M} (hf : f_X6_allAreSoAmong x1 x2 x3 M = some z) : M.2.2 ≤ z.2.2.2 := by
  unfold f_X6_allAreSoAmong at hf
  have hj := mo_X6_allAreSoAmong_3l fu_ _ _ _ _ _ hf; omega
theorem bz_X6_allAreSoAmong_82 {z : (Int32 × mm_M)} {x1 : Int32} {x2 : Int32} {x3 : Int32} {x4 : Int32} {M : mm_M} {q3 : Int32 → Int32 → Int32 → Int32 → mm_M → Option (Int32 × mm_M)} (hq3 : ∀ (x1 : Int32) (x2 : Int32) (x3 : Int32) (x4 : Int32) (M : mm_M), q3 x1 x2 x3 x4 M = some z → z.1 = 0 ∨ z.1 = 1) (hf : f_X6_allAreSoAmong_82 q3 x1 x2 x3 x4 M = some z) : z.1 = 0 ∨ z.1 = 1 := by
  unfold f_X6_allAreSoAmong_82 at hf
  obtain ⟨y9, ey9, hf⟩ := sq_e hf
  exact hq3 _ _ _ _ _ hf
theorem bz_X6_allAreSoAmong_70 {z : (Int32 × mm_M)} {x1 : Int32} {x2 : Int32} {x3 : Int32} {x4 : Int32} {ks0 : Nat} {t1 : Int32} {M : mm_M} {q3 : Int32 → Int32 → Int32 → Int32 → mm_M → Option (Int32 × mm_M)} (hq3 : ∀ (x1 : Int32) (x2 : Int32) (x3 : Int32) (x4 : Int32) (M : mm_M), q3 x1 x2 x3 x4 M = some z → z.1 = 0 ∨ z.1 = 1) (hf : f_X6_allAreSoAmong_70 q3 x1 x2 x3 x4 ks0 t1 M = some z) : z.1 = 0 ∨ z.1 = 1 := by
  unfold f_X6_allAreSoAmong_70 at hf
  obtain ⟨z10, ez10, hf⟩ := bd_e hf
  by_cases c11 : z10 = 0
  · rw [if_pos c11] at hf
    rw [← Option.some.inj hf]; exact (Or.inl rfl)
  · rw [if_neg c11] at hf
    exact bz_X6_allAreSoAmong_82 hq3 hf
theorem bz_X6_allAreSoAmong_3 {z : (Int32 × mm_M)} {x1 : Int32} {x2 : Int32} {x3 : Int32} {x4 : Int32} {M : mm_M} {q3 : Int32 → Int32 → Int32 → Int32 → mm_M → Option (Int32 × mm_M)} (hq3 : ∀ (x1 : Int32) (x2 : Int32) (x3 : Int32) (x4 : Int32) (M : mm_M), q3 x1 x2 x3 x4 M = some z → z.1 = 0 ∨ z.1 = 1) (hf : f_X6_allAreSoAmong_3 q3 x1 x2 x3 x4 M = some z) : z.1 = 0 ∨ z.1 = 1 := by
  unfold f_X6_allAreSoAmong_3 at hf
  by_cases c1 : (M.1 19 3) ≤ x4
  · rw [if_pos c1] at hf
    rw [← Option.some.inj hf]; exact (Or.inr rfl)
  · rw [if_neg c1] at hf
    by_cases c2 : ((x1 >>> (x4 &&& 31)) &&& 1) = 0
    · rw [if_pos c2] at hf
      exact bz_X6_allAreSoAmong_82 hq3 hf
    · rw [if_neg c2] at hf
      obtain ⟨h3, hf⟩ := ck_e hf
      obtain ⟨h4, hf⟩ := ck_e hf
      obtain ⟨h5, hf⟩ := ck_e hf
      obtain ⟨y6, ey6, hf⟩ := sq_e hf
      obtain ⟨h7, hf⟩ := ck_e hf
      obtain ⟨z8, ez8, hf⟩ := bd_e hf
      exact bz_X6_allAreSoAmong_70 hq3 hf
theorem bz_X6_allAreSoAmong_3l {z : (Int32 × mm_M)} : ∀ (n : Nat) (x1 : Int32) (x2 : Int32) (x3 : Int32) (x4 : Int32) (M : mm_M), f_X6_allAreSoAmong_3l n x1 x2 x3 x4 M = some z → z.1 = 0 ∨ z.1 = 1 := by
  intro n
  induction n with
  | zero => intro x1 x2 x3 x4 M hf; exact absurd hf (by simp [f_X6_allAreSoAmong_3l])
  | succ n ih => intro x1 x2 x3 x4 M hf; exact bz_X6_allAreSoAmong_3 ih hf
theorem bz_X6_allAreSoAmong {z : (Int32 × mm_M)} {x1 : Int32} {x2 : Int32} {x3 : Int32} {M : mm_M} (hf : f_X6_allAreSoAmong x1 x2 x3 M = some z) : z.1 = 0 ∨ z.1 = 1 := by
  unfold f_X6_allAreSoAmong at hf
  exact bz_X6_allAreSoAmong_3l fu_ _ _ _ _ _ hf
def f_X11_shows_105 (q58 : Int32 → Int32 → Int32 → Int32 → Int32 → mm_M → Option (Int32 × mm_M)) (x2 : Int32) (x3 : Int32) (x4 : Int32) (x5 : Int32) (x6 : Int32) (M : mm_M) : Option (Int32 × mm_M) :=
  sq_ (x6 + 1 : Int32) fun y13 =>
  q58 x2 x3 x4 x5 y13 M
def f_X11_shows_95 (q58 : Int32 → Int32 → Int32 → Int32 → Int32 → mm_M → Option (Int32 × mm_M)) (x2 : Int32) (x3 : Int32) (x4 : Int32) (x5 : Int32) (x6 : Int32) (x7 : Int32) (t0 : Int32) (M : mm_M) : Option (Int32 × mm_M) :=
  if t0 = 0 then (
    sq_ ((x5 ||| x7) : Int32) fun y15 =>
    f_X11_shows_105 q58 x2 x3 x4 y15 x6 M
  ) else (
    f_X11_shows_105 q58 x2 x3 x4 x5 x6 M
  )
def f_X11_shows_58 (q58 : Int32 → Int32 → Int32 → Int32 → Int32 → mm_M → Option (Int32 × mm_M)) (x2 : Int32) (x3 : Int32) (x4 : Int32) (x5 : Int32) (x6 : Int32) (M : mm_M) : Option (Int32 × mm_M) :=
  if (M.1 19 3) ≤ x6 then (
    some (x5, M)
  ) else (
    sq_ ((x3 &&& ((1 : Int32) <<< (x6 &&& 31))) : Int32) fun y10 =>
    if y10 = 0 then (
      f_X11_shows_105 q58 x2 x3 x4 x5 x6 M
    ) else (
      (f_X6_allAreSoAmong y10 x2 x4 M).bind fun z12 =>
      f_X11_shows_95 q58 x2 x3 x4 x5 x6 y10 z12.1 z12.2
    )
  )
def f_X11_shows_58l : Nat → Int32 → Int32 → Int32 → Int32 → Int32 → mm_M → Option (Int32 × mm_M)
  | 0, _, _, _, _, _, _ => none
  | n + 1, x2, x3, x4, x5, x6, M => f_X11_shows_58 (f_X11_shows_58l n) x2 x3 x4 x5 x6 M
def f_X11_shows_25 (x1 : Int32) (x2 : Int32) (M : mm_M) : Option (Int32 × mm_M) :=
  (f_X6_heldBy x2 M).bind fun z6 =>
  sq_ (((M.1 19 4) &&& z6) : Int32) fun y7 =>
  sq_ ((63 &&& (((1 : Int32) <<< (x1 &&& 31)) ^^^ (-1))) : Int32) fun y8 =>
  f_X11_shows_58l fu_ x2 y7 y8 (0 : Int32) (0 : Int32) M
def f_X11_shows (x1 : Int32) (x2 : Int32) (M : mm_M) : Option (Int32 × mm_M) :=
  sq_ (f_X11_isLaw x1 M) fun z1 =>
  if z1 = 0 then (
    some (((-1) : Int32), M)
  ) else (
    sq_ (f_X11_isHistory x2 M) fun z3 =>
    if z3 = 0 then (
      some (((-1) : Int32), M)
    ) else (
      (f_X6_lookAnew M).bind fun z5 =>
      f_X11_shows_25 x1 x2 z5
    )
  )
theorem mo_X11_shows_105 {z : (Int32 × mm_M)} {x2 : Int32} {x3 : Int32} {x4 : Int32} {x5 : Int32} {x6 : Int32} {M : mm_M} {q58 : Int32 → Int32 → Int32 → Int32 → Int32 → mm_M → Option (Int32 × mm_M)} (hq58 : ∀ (x2 : Int32) (x3 : Int32) (x4 : Int32) (x5 : Int32) (x6 : Int32) (M : mm_M), q58 x2 x3 x4 x5 x6 M = some z → M.2.2 ≤ z.2.2.2) (hf : f_X11_shows_105 q58 x2 x3 x4 x5 x6 M = some z) : M.2.2 ≤ z.2.2.2 := by
  unfold f_X11_shows_105 at hf
  obtain ⟨y13, ey13, hf⟩ := sq_e hf
  have hj := hq58 _ _ _ _ _ _ hf; omega
theorem mo_X11_shows_95 {z : (Int32 × mm_M)} {x2 : Int32} {x3 : Int32} {x4 : Int32} {x5 : Int32} {x6 : Int32} {x7 : Int32} {t0 : Int32} {M : mm_M} {q58 : Int32 → Int32 → Int32 → Int32 → Int32 → mm_M → Option (Int32 × mm_M)} (hq58 : ∀ (x2 : Int32) (x3 : Int32) (x4 : Int32) (x5 : Int32) (x6 : Int32) (M : mm_M), q58 x2 x3 x4 x5 x6 M = some z → M.2.2 ≤ z.2.2.2) (hf : f_X11_shows_95 q58 x2 x3 x4 x5 x6 x7 t0 M = some z) : M.2.2 ≤ z.2.2.2 := by
  unfold f_X11_shows_95 at hf
  by_cases c14 : t0 = 0
  · rw [if_pos c14] at hf
    obtain ⟨y15, ey15, hf⟩ := sq_e hf
    have hj := mo_X11_shows_105 hq58 hf; omega
  · rw [if_neg c14] at hf
    have hj := mo_X11_shows_105 hq58 hf; omega
theorem mo_X11_shows_58 {z : (Int32 × mm_M)} {x2 : Int32} {x3 : Int32} {x4 : Int32} {x5 : Int32} {x6 : Int32} {M : mm_M} {q58 : Int32 → Int32 → Int32 → Int32 → Int32 → mm_M → Option (Int32 × mm_M)} (hq58 : ∀ (x2 : Int32) (x3 : Int32) (x4 : Int32) (x5 : Int32) (x6 : Int32) (M : mm_M), q58 x2 x3 x4 x5 x6 M = some z → M.2.2 ≤ z.2.2.2) (hf : f_X11_shows_58 q58 x2 x3 x4 x5 x6 M = some z) : M.2.2 ≤ z.2.2.2 := by
  unfold f_X11_shows_58 at hf
  by_cases c9 : (M.1 19 3) ≤ x6
  · rw [if_pos c9] at hf
    rw [← Option.some.inj hf]; show M.2.2 ≤ M.2.2; exact Nat.le_refl _
  · rw [if_neg c9] at hf
    obtain ⟨y10, ey10, hf⟩ := sq_e hf
    by_cases c11 : y10 = 0
    · rw [if_pos c11] at hf
      have hj := mo_X11_shows_105 hq58 hf; omega
    · rw [if_neg c11] at hf
      obtain ⟨z12, ez12, hf⟩ := bd_e hf
      have mz12 : M.2.2 ≤ z12.2.2.2 := mo_X6_allAreSoAmong ez12
      have hj := mo_X11_shows_95 hq58 hf; omega
theorem mo_X11_shows_58l {z : (Int32 × mm_M)} : ∀ (n : Nat) (x2 : Int32) (x3 : Int32) (x4 : Int32) (x5 : Int32) (x6 : Int32) (M : mm_M), f_X11_shows_58l n x2 x3 x4 x5 x6 M = some z → M.2.2 ≤ z.2.2.2 := by
  intro n
  induction n with
  | zero => intro x2 x3 x4 x5 x6 M hf; exact absurd hf (by simp [f_X11_shows_58l])
  | succ n ih => intro x2 x3 x4 x5 x6 M hf; exact mo_X11_shows_58 ih hf
theorem mo_X11_shows_25 {z : (Int32 × mm_M)} {x1 : Int32} {x2 : Int32} {M : mm_M} (hf : f_X11_shows_25 x1 x2 M = some z) : M.2.2 ≤ z.2.2.2 := by
  unfold f_X11_shows_25 at hf
  obtain ⟨z6, ez6, hf⟩ := bd_e hf
  obtain ⟨y7, ey7, hf⟩ := sq_e hf
  obtain ⟨y8, ey8, hf⟩ := sq_e hf
  have hj := mo_X11_shows_58l fu_ _ _ _ _ _ _ hf; omega
theorem mo_X11_shows {z : (Int32 × mm_M)} {x1 : Int32} {x2 : Int32} {M : mm_M} (hf : f_X11_shows x1 x2 M = some z) : M.2.2 ≤ z.2.2.2 := by
  unfold f_X11_shows at hf
  obtain ⟨z1, ez1, hf⟩ := sq_e hf
  by_cases c2 : z1 = 0
  · rw [if_pos c2] at hf
    rw [← Option.some.inj hf]; show M.2.2 ≤ M.2.2; exact Nat.le_refl _
  · rw [if_neg c2] at hf
    obtain ⟨z3, ez3, hf⟩ := sq_e hf
    by_cases c4 : z3 = 0
    · rw [if_pos c4] at hf
      rw [← Option.some.inj hf]; show M.2.2 ≤ M.2.2; exact Nat.le_refl _
    · rw [if_neg c4] at hf
      obtain ⟨z5, ez5, hf⟩ := bd_e hf
      have mz5 : M.2.2 ≤ z5.2.2 := mo_X6_lookAnew ez5
      have hj := mo_X11_shows_25 hf; omega
def f_X3_isFirstBut_35 (q2 : Int32 → Int32 → Int32 → Option Int32) (x1 : Int32) (x2 : Int32) (x3 : Int32) (M : mm_M) : Option Int32 :=
  sq_ (x3 + 1 : Int32) fun y6 =>
  q2 x1 x2 y6
def f_X3_isFirstBut_2 (q2 : Int32 → Int32 → Int32 → Option Int32) (x1 : Int32) (x2 : Int32) (x3 : Int32) (M : mm_M) : Option Int32 :=
  if (M.1 14 3) ≤ x3 then (
    some (1 : Int32)
  ) else (
    if ((x2 >>> (x3 &&& 31)) &&& 1) = 0 then (
      (f_X3_yearOf x1 x3 M).bind fun z3 =>
      if ix_ok x3 6 then (
      if z3 = (M.1 18 x3.toNatClampNeg) then (
        f_X3_isFirstBut_35 q2 x1 x2 x3 M
      ) else (
        some (0 : Int32)
      )
      ) else none
    ) else (
      f_X3_isFirstBut_35 q2 x1 x2 x3 M
    )
  )
def f_X3_isFirstBut_2l (M : mm_M) : Nat → Int32 → Int32 → Int32 → Option Int32
  | 0, _, _, _ => none
  | n + 1, x1, x2, x3 => f_X3_isFirstBut_2 (f_X3_isFirstBut_2l M n) x1 x2 x3 M
def f_X3_isFirstBut (x1 : Int32) (x2 : Int32) (M : mm_M) : Option Int32 :=
  f_X3_isFirstBut_2l M fu_ x1 x2 (0 : Int32)
theorem bz_X3_isFirstBut_35 {z : Int32} {x1 : Int32} {x2 : Int32} {x3 : Int32} {M : mm_M} {q2 : Int32 → Int32 → Int32 → Option Int32} (hq2 : ∀ (x1 : Int32) (x2 : Int32) (x3 : Int32), q2 x1 x2 x3 = some z → z = 0 ∨ z = 1) (hf : f_X3_isFirstBut_35 q2 x1 x2 x3 M = some z) : z = 0 ∨ z = 1 := by
  unfold f_X3_isFirstBut_35 at hf
  obtain ⟨y6, ey6, hf⟩ := sq_e hf
  exact hq2 _ _ _ hf
theorem bz_X3_isFirstBut_2 {z : Int32} {x1 : Int32} {x2 : Int32} {x3 : Int32} {M : mm_M} {q2 : Int32 → Int32 → Int32 → Option Int32} (hq2 : ∀ (x1 : Int32) (x2 : Int32) (x3 : Int32), q2 x1 x2 x3 = some z → z = 0 ∨ z = 1) (hf : f_X3_isFirstBut_2 q2 x1 x2 x3 M = some z) : z = 0 ∨ z = 1 := by
  unfold f_X3_isFirstBut_2 at hf
  by_cases c1 : (M.1 14 3) ≤ x3
  · rw [if_pos c1] at hf
    rw [← Option.some.inj hf]; exact (Or.inr rfl)
  · rw [if_neg c1] at hf
    by_cases c2 : ((x2 >>> (x3 &&& 31)) &&& 1) = 0
    · rw [if_pos c2] at hf
      obtain ⟨z3, ez3, hf⟩ := bd_e hf
      obtain ⟨h4, hf⟩ := ck_e hf
      by_cases c5 : z3 = (M.1 18 x3.toNatClampNeg)
      · rw [if_pos c5] at hf
        exact bz_X3_isFirstBut_35 hq2 hf
      · rw [if_neg c5] at hf
        rw [← Option.some.inj hf]; exact (Or.inl rfl)
    · rw [if_neg c2] at hf
      exact bz_X3_isFirstBut_35 hq2 hf
theorem bz_X3_isFirstBut_2l {z : Int32} {M : mm_M} : ∀ (n : Nat) (x1 : Int32) (x2 : Int32) (x3 : Int32), f_X3_isFirstBut_2l M n x1 x2 x3 = some z → z = 0 ∨ z = 1 := by
  intro n
  induction n with
  | zero => intro x1 x2 x3 hf; exact absurd hf (by simp [f_X3_isFirstBut_2l])
  | succ n ih => intro x1 x2 x3 hf; exact bz_X3_isFirstBut_2 ih hf
theorem bz_X3_isFirstBut {z : Int32} {x1 : Int32} {x2 : Int32} {M : mm_M} (hf : f_X3_isFirstBut x1 x2 M = some z) : z = 0 ∨ z = 1 := by
  unfold f_X3_isFirstBut at hf
  exact bz_X3_isFirstBut_2l fu_ _ _ _ hf
def f_X11_firstFittingAmong_46 (q2 : Int32 → Int32 → mm_M → Option (Int32 × mm_M)) (x1 : Int32) (x2 : Int32) (M : mm_M) : Option (Int32 × mm_M) :=
  sq_ (x2 + 1 : Int32) fun y5 =>
  q2 x1 y5 M
def f_X11_firstFittingAmong_41 (q2 : Int32 → Int32 → mm_M → Option (Int32 × mm_M)) (x1 : Int32) (x2 : Int32) (t0 : Int32) (M : mm_M) : Option (Int32 × mm_M) :=
  if t0 = 0 then (
    f_X11_firstFittingAmong_46 q2 x1 x2 M
  ) else (
    some (x2, M)
  )
def f_X11_firstFittingAmong_2 (q2 : Int32 → Int32 → mm_M → Option (Int32 × mm_M)) (x1 : Int32) (x2 : Int32) (M : mm_M) : Option (Int32 × mm_M) :=
  if (M.1 14 2) ≤ x2 then (
    some (((-1) : Int32), M)
  ) else (
    (f_X3_isFirstBut x2 x1 M).bind fun z2 =>
    if z2 = 0 then (
      f_X11_firstFittingAmong_46 q2 x1 x2 M
    ) else (
      (f_X6_allAreSoAmong (M.1 19 4) x2 x1 M).bind fun z4 =>
      f_X11_firstFittingAmong_41 q2 x1 x2 z4.1 z4.2
    )
  )
def f_X11_firstFittingAmong_2l : Nat → Int32 → Int32 → mm_M → Option (Int32 × mm_M)
  | 0, _, _, _ => none
  | n + 1, x1, x2, M => f_X11_firstFittingAmong_2 (f_X11_firstFittingAmong_2l n) x1 x2 M
def f_X11_firstFittingAmong (x1 : Int32) (M : mm_M) : Option (Int32 × mm_M) :=
  f_X11_firstFittingAmong_2l fu_ x1 (0 : Int32) M
theorem mo_X11_firstFittingAmong_46 {z : (Int32 × mm_M)} {x1 : Int32} {x2 : Int32} {M : mm_M} {q2 : Int32 → Int32 → mm_M → Option (Int32 × mm_M)} (hq2 : ∀ (x1 : Int32) (x2 : Int32) (M : mm_M), q2 x1 x2 M = some z → M.2.2 ≤ z.2.2.2) (hf : f_X11_firstFittingAmong_46 q2 x1 x2 M = some z) : M.2.2 ≤ z.2.2.2 := by
  unfold f_X11_firstFittingAmong_46 at hf
  obtain ⟨y5, ey5, hf⟩ := sq_e hf
  have hj := hq2 _ _ _ hf; omega
theorem mo_X11_firstFittingAmong_41 {z : (Int32 × mm_M)} {x1 : Int32} {x2 : Int32} {t0 : Int32} {M : mm_M} {q2 : Int32 → Int32 → mm_M → Option (Int32 × mm_M)} (hq2 : ∀ (x1 : Int32) (x2 : Int32) (M : mm_M), q2 x1 x2 M = some z → M.2.2 ≤ z.2.2.2) (hf : f_X11_firstFittingAmong_41 q2 x1 x2 t0 M = some z) : M.2.2 ≤ z.2.2.2 := by
  unfold f_X11_firstFittingAmong_41 at hf
  by_cases c6 : t0 = 0
  · rw [if_pos c6] at hf
    have hj := mo_X11_firstFittingAmong_46 hq2 hf; omega
  · rw [if_neg c6] at hf
    rw [← Option.some.inj hf]; show M.2.2 ≤ M.2.2; exact Nat.le_refl _
theorem mo_X11_firstFittingAmong_2 {z : (Int32 × mm_M)} {x1 : Int32} {x2 : Int32} {M : mm_M} {q2 : Int32 → Int32 → mm_M → Option (Int32 × mm_M)} (hq2 : ∀ (x1 : Int32) (x2 : Int32) (M : mm_M), q2 x1 x2 M = some z → M.2.2 ≤ z.2.2.2) (hf : f_X11_firstFittingAmong_2 q2 x1 x2 M = some z) : M.2.2 ≤ z.2.2.2 := by
  unfold f_X11_firstFittingAmong_2 at hf
  by_cases c1 : (M.1 14 2) ≤ x2
  · rw [if_pos c1] at hf
    rw [← Option.some.inj hf]; show M.2.2 ≤ M.2.2; exact Nat.le_refl _
  · rw [if_neg c1] at hf
    obtain ⟨z2, ez2, hf⟩ := bd_e hf
    by_cases c3 : z2 = 0
    · rw [if_pos c3] at hf
      have hj := mo_X11_firstFittingAmong_46 hq2 hf; omega
    · rw [if_neg c3] at hf
      obtain ⟨z4, ez4, hf⟩ := bd_e hf
      have mz4 : M.2.2 ≤ z4.2.2.2 := mo_X6_allAreSoAmong ez4
      have hj := mo_X11_firstFittingAmong_41 hq2 hf; omega
theorem mo_X11_firstFittingAmong_2l {z : (Int32 × mm_M)} : ∀ (n : Nat) (x1 : Int32) (x2 : Int32) (M : mm_M), f_X11_firstFittingAmong_2l n x1 x2 M = some z → M.2.2 ≤ z.2.2.2 := by
  intro n
  induction n with
  | zero => intro x1 x2 M hf; exact absurd hf (by simp [f_X11_firstFittingAmong_2l])
  | succ n ih => intro x1 x2 M hf; exact mo_X11_firstFittingAmong_2 ih hf
theorem mo_X11_firstFittingAmong {z : (Int32 × mm_M)} {x1 : Int32} {M : mm_M} (hf : f_X11_firstFittingAmong x1 M = some z) : M.2.2 ≤ z.2.2.2 := by
  unfold f_X11_firstFittingAmong at hf
  have hj := mo_X11_firstFittingAmong_2l fu_ _ _ _ hf; omega
def f_X11_least_55 (x2 : Int32) (x3 : Int32) (x4 : Int32) (M : mm_M) : Option (Int32 × mm_M) :=
  sq_ (f_X4_clear M) fun z10 =>
  (f_X4_add (x3.toInt64) z10).bind fun z11 =>
  (f_X4_add (x4.toInt64) z11).bind fun z12 =>
  some (x2, z12)
def f_X11_least_47 (q25 : Int32 → Int32 → Int32 → mm_M → Option (Int32 × mm_M)) (x1 : Int32) (x2 : Int32) (x3 : Int32) (t0 : Int32) (M : mm_M) : Option (Int32 × mm_M) :=
  if t0 = (-1) then (
    sq_ (x3 + 1 : Int32) fun y9 =>
    q25 x1 x2 y9 M
  ) else (
    f_X11_least_55 x2 x3 t0 M
  )
def f_X11_least_43 (q25 : Int32 → Int32 → Int32 → mm_M → Option (Int32 × mm_M)) (x1 : Int32) (x2 : Int32) (x3 : Int32) (t0 : Int32) (M : mm_M) : Option (Int32 × mm_M) :=
  f_X11_least_47 q25 x1 x2 x3 t0 M
def f_X11_least_89 (q12 : Int32 → Int32 → mm_M → Option (Int32 × mm_M)) (x1 : Int32) (x2 : Int32) (M : mm_M) : Option (Int32 × mm_M) :=
  sq_ (x2 + 1 : Int32) fun y7 =>
  q12 x1 y7 M
def f_X11_least_25 (q12 : Int32 → Int32 → mm_M → Option (Int32 × mm_M)) (q25 : Int32 → Int32 → Int32 → mm_M → Option (Int32 × mm_M)) (x1 : Int32) (x2 : Int32) (x3 : Int32) (M : mm_M) : Option (Int32 × mm_M) :=
  if x1 ≤ x3 then (
    f_X11_least_89 q12 x1 x2 M
  ) else (
    sq_ (f_J6_bitCount_0f7a4 x3) fun z4 =>
    if z4 = x2 then (
      (f_X11_firstFittingAmong x3 M).bind fun z6 =>
      f_X11_least_43 q25 x1 x2 x3 z6.1 z6.2
    ) else (
      f_X11_least_47 q25 x1 x2 x3 ((-1) : Int32) M
    )
  )
def f_X11_least_25l (q12 : Int32 → Int32 → mm_M → Option (Int32 × mm_M)) : Nat → Int32 → Int32 → Int32 → mm_M → Option (Int32 × mm_M)
  | 0, _, _, _, _ => none
  | n + 1, x1, x2, x3, M => f_X11_least_25 q12 (f_X11_least_25l q12 n) x1 x2 x3 M
def f_X11_least_12 (q12 : Int32 → Int32 → mm_M → Option (Int32 × mm_M)) (x1 : Int32) (x2 : Int32) (M : mm_M) : Option (Int32 × mm_M) :=
  if (M.1 5 1) < x2 then (
    some (((-2) : Int32), M)
  ) else (
    f_X11_least_25l q12 fu_ x1 x2 (0 : Int32) M
  )
def f_X11_least_12l : Nat → Int32 → Int32 → mm_M → Option (Int32 × mm_M)
  | 0, _, _, _ => none
  | n + 1, x1, x2, M => f_X11_least_12 (f_X11_least_12l n) x1 x2 M
def f_X11_least (M : mm_M) : Option (Int32 × mm_M) :=
  sq_ (((1 : Int32) <<< ((M.1 5 1) &&& 31)) : Int32) fun y1 =>
  f_X11_least_12l fu_ y1 (0 : Int32) M
theorem mo_X11_least_55 {z : (Int32 × mm_M)} {x2 : Int32} {x3 : Int32} {x4 : Int32} {M : mm_M} (hf : f_X11_least_55 x2 x3 x4 M = some z) : M.2.2 ≤ z.2.2.2 := by
  unfold f_X11_least_55 at hf
  obtain ⟨z10, ez10, hf⟩ := sq_e hf
  have mz10 : M.2.2 ≤ z10.2.2 := mo_X4_clear ez10.symm
  obtain ⟨z11, ez11, hf⟩ := bd_e hf
  have mz11 : z10.2.2 ≤ z11.2.2 := mo_X4_add ez11
  obtain ⟨z12, ez12, hf⟩ := bd_e hf
  have mz12 : z11.2.2 ≤ z12.2.2 := mo_X4_add ez12
  rw [← Option.some.inj hf]; show M.2.2 ≤ z12.2.2; omega
theorem mo_X11_least_47 {z : (Int32 × mm_M)} {x1 : Int32} {x2 : Int32} {x3 : Int32} {t0 : Int32} {M : mm_M} {q25 : Int32 → Int32 → Int32 → mm_M → Option (Int32 × mm_M)} (hq25 : ∀ (x1 : Int32) (x2 : Int32) (x3 : Int32) (M : mm_M), q25 x1 x2 x3 M = some z → M.2.2 ≤ z.2.2.2) (hf : f_X11_least_47 q25 x1 x2 x3 t0 M = some z) : M.2.2 ≤ z.2.2.2 := by
  unfold f_X11_least_47 at hf
  by_cases c8 : t0 = (-1)
  · rw [if_pos c8] at hf
    obtain ⟨y9, ey9, hf⟩ := sq_e hf
    have hj := hq25 _ _ _ _ hf; omega
  · rw [if_neg c8] at hf
    have hj := mo_X11_least_55 hf; omega
theorem mo_X11_least_43 {z : (Int32 × mm_M)} {x1 : Int32} {x2 : Int32} {x3 : Int32} {t0 : Int32} {M : mm_M} {q25 : Int32 → Int32 → Int32 → mm_M → Option (Int32 × mm_M)} (hq25 : ∀ (x1 : Int32) (x2 : Int32) (x3 : Int32) (M : mm_M), q25 x1 x2 x3 M = some z → M.2.2 ≤ z.2.2.2) (hf : f_X11_least_43 q25 x1 x2 x3 t0 M = some z) : M.2.2 ≤ z.2.2.2 := by
  unfold f_X11_least_43 at hf
  have hj := mo_X11_least_47 hq25 hf; omega
theorem mo_X11_least_89 {z : (Int32 × mm_M)} {x1 : Int32} {x2 : Int32} {M : mm_M} {q12 : Int32 → Int32 → mm_M → Option (Int32 × mm_M)} (hq12 : ∀ (x1 : Int32) (x2 : Int32) (M : mm_M), q12 x1 x2 M = some z → M.2.2 ≤ z.2.2.2) (hf : f_X11_least_89 q12 x1 x2 M = some z) : M.2.2 ≤ z.2.2.2 := by
  unfold f_X11_least_89 at hf
  obtain ⟨y7, ey7, hf⟩ := sq_e hf
  have hj := hq12 _ _ _ hf; omega
theorem mo_X11_least_25 {z : (Int32 × mm_M)} {x1 : Int32} {x2 : Int32} {x3 : Int32} {M : mm_M} {q12 : Int32 → Int32 → mm_M → Option (Int32 × mm_M)} (hq12 : ∀ (x1 : Int32) (x2 : Int32) (M : mm_M), q12 x1 x2 M = some z → M.2.2 ≤ z.2.2.2) {q25 : Int32 → Int32 → Int32 → mm_M → Option (Int32 × mm_M)} (hq25 : ∀ (x1 : Int32) (x2 : Int32) (x3 : Int32) (M : mm_M), q25 x1 x2 x3 M = some z → M.2.2 ≤ z.2.2.2) (hf : f_X11_least_25 q12 q25 x1 x2 x3 M = some z) : M.2.2 ≤ z.2.2.2 := by
  unfold f_X11_least_25 at hf
  by_cases c3 : x1 ≤ x3
  · rw [if_pos c3] at hf
    have hj := mo_X11_least_89 hq12 hf; omega
  · rw [if_neg c3] at hf
    obtain ⟨z4, ez4, hf⟩ := sq_e hf
    by_cases c5 : z4 = x2
    · rw [if_pos c5] at hf
      obtain ⟨z6, ez6, hf⟩ := bd_e hf
      have mz6 : M.2.2 ≤ z6.2.2.2 := mo_X11_firstFittingAmong ez6
      have hj := mo_X11_least_43 hq25 hf; omega
    · rw [if_neg c5] at hf
      have hj := mo_X11_least_47 hq25 hf; omega
theorem mo_X11_least_25l {z : (Int32 × mm_M)} {q12 : Int32 → Int32 → mm_M → Option (Int32 × mm_M)} (hq12 : ∀ (x1 : Int32) (x2 : Int32) (M : mm_M), q12 x1 x2 M = some z → M.2.2 ≤ z.2.2.2) : ∀ (n : Nat) (x1 : Int32) (x2 : Int32) (x3 : Int32) (M : mm_M), f_X11_least_25l q12 n x1 x2 x3 M = some z → M.2.2 ≤ z.2.2.2 := by
  intro n
  induction n with
  | zero => intro x1 x2 x3 M hf; exact absurd hf (by simp [f_X11_least_25l])
  | succ n ih => intro x1 x2 x3 M hf; exact mo_X11_least_25 hq12 ih hf
theorem mo_X11_least_12 {z : (Int32 × mm_M)} {x1 : Int32} {x2 : Int32} {M : mm_M} {q12 : Int32 → Int32 → mm_M → Option (Int32 × mm_M)} (hq12 : ∀ (x1 : Int32) (x2 : Int32) (M : mm_M), q12 x1 x2 M = some z → M.2.2 ≤ z.2.2.2) (hf : f_X11_least_12 q12 x1 x2 M = some z) : M.2.2 ≤ z.2.2.2 := by
  unfold f_X11_least_12 at hf
  by_cases c2 : (M.1 5 1) < x2
  · rw [if_pos c2] at hf
    rw [← Option.some.inj hf]; show M.2.2 ≤ M.2.2; exact Nat.le_refl _
  · rw [if_neg c2] at hf
    have hj := mo_X11_least_25l hq12 fu_ _ _ _ _ hf; omega
theorem mo_X11_least_12l {z : (Int32 × mm_M)} : ∀ (n : Nat) (x1 : Int32) (x2 : Int32) (M : mm_M), f_X11_least_12l n x1 x2 M = some z → M.2.2 ≤ z.2.2.2 := by
  intro n
  induction n with
  | zero => intro x1 x2 M hf; exact absurd hf (by simp [f_X11_least_12l])
  | succ n ih => intro x1 x2 M hf; exact mo_X11_least_12 ih hf
theorem mo_X11_least {z : (Int32 × mm_M)} {M : mm_M} (hf : f_X11_least M = some z) : M.2.2 ≤ z.2.2.2 := by
  unfold f_X11_least at hf
  obtain ⟨y1, ey1, hf⟩ := sq_e hf
  have hj := mo_X11_least_12l fu_ _ _ _ hf; omega
def f_X6_weightOf_73 (q13 : Int32 → Int32 → Int64 → Int32 → Option Int64) (x2 : Int32) (x3 : Int32) (x4 : Int64) (x6 : Int32) (M : mm_M) : Option Int64 :=
  sq_ (x6 + 1 : Int32) fun y8 =>
  q13 x2 x3 x4 y8
def f_X6_weightOf_70 (q13 : Int32 → Int32 → Int64 → Int32 → Option Int64) (x2 : Int32) (x3 : Int32) (x6 : Int32) (t0 : Int64) (t1 : Int64) (M : mm_M) : Option Int64 :=
  sq_ ((t0 * t1) : Int64) fun y9 =>
  f_X6_weightOf_73 q13 x2 x3 y9 x6 M
def f_X6_weightOf_13 (q13 : Int32 → Int32 → Int64 → Int32 → Option Int64) (x2 : Int32) (x3 : Int32) (x4 : Int64) (x6 : Int32) (M : mm_M) : Option Int64 :=
  if (M.1 19 3) ≤ x6 then (
    some x4
  ) else (
    if ((x2 >>> (x6 &&& 31)) &&& 1) = 0 then (
      f_X6_weightOf_73 q13 x2 x3 x4 x6 M
    ) else (
      if ((x3 >>> (x6 &&& 31)) &&& 1) = 0 then (
        if ix_ok x6 16 then (
        f_X6_weightOf_70 q13 x2 x3 x6 x4 ((10 - (M.1 (22 + x6.toNatClampNeg) 7)).toInt64) M
        ) else none
      ) else (
        if ix_ok x6 16 then (
        f_X6_weightOf_70 q13 x2 x3 x6 x4 ((M.1 (22 + x6.toNatClampNeg) 7).toInt64) M
        ) else none
      )
    )
  )
def f_X6_weightOf_13l (M : mm_M) : Nat → Int32 → Int32 → Int64 → Int32 → Option Int64
  | 0, _, _, _, _ => none
  | n + 1, x2, x3, x4, x6 => f_X6_weightOf_13 (f_X6_weightOf_13l M n) x2 x3 x4 x6 M
def f_X6_weightOf (x1 : Int32) (x2 : Int32) (M : mm_M) : Option Int64 :=
  if ix_ok x1 600 then (
  sq_ ((M.1 21 x1.toNatClampNeg) : Int32) fun y2 =>
  f_X6_weightOf_13l M fu_ x2 y2 (1 : Int64) (0 : Int32)
  ) else none
def f_X11_weighAll_5 (q5 : Int32 → Int64 → Int32 → mm_M → Option (Int64 × mm_M)) (x1 : Int32) (x2 : Int64) (x4 : Int32) (M : mm_M) : Option (Int64 × mm_M) :=
  if (M.1 14 2) ≤ x4 then (
    some (x2, M)
  ) else (
    (f_X6_weightOf x4 x1 M).bind fun z2 =>
    if ix_ok x4 600 then (
    sq_ (mm_sl M 67 x4.toNatClampNeg z2) fun M4 =>
    if ix_ok x4 600 then (
    sq_ ((x2 + (M4.2.1 67 x4.toNatClampNeg)) : Int64) fun y6 =>
    sq_ (x4 + 1 : Int32) fun y7 =>
    q5 x1 y6 y7 M4
    ) else none ) else none
  )
def f_X11_weighAll_5l : Nat → Int32 → Int64 → Int32 → mm_M → Option (Int64 × mm_M)
  | 0, _, _, _, _ => none
  | n + 1, x1, x2, x4, M => f_X11_weighAll_5 (f_X11_weighAll_5l n) x1 x2 x4 M
def f_X11_weighAll (x1 : Int32) (M : mm_M) : Option (Int64 × mm_M) :=
  f_X11_weighAll_5l fu_ x1 (0 : Int64) (0 : Int32) M
theorem mo_X11_weighAll_5 {z : (Int64 × mm_M)} {x1 : Int32} {x2 : Int64} {x4 : Int32} {M : mm_M} {q5 : Int32 → Int64 → Int32 → mm_M → Option (Int64 × mm_M)} (hq5 : ∀ (x1 : Int32) (x2 : Int64) (x4 : Int32) (M : mm_M), q5 x1 x2 x4 M = some z → M.2.2 ≤ z.2.2.2) (hf : f_X11_weighAll_5 q5 x1 x2 x4 M = some z) : M.2.2 ≤ z.2.2.2 := by
  unfold f_X11_weighAll_5 at hf
  by_cases c1 : (M.1 14 2) ≤ x4
  · rw [if_pos c1] at hf
    rw [← Option.some.inj hf]; show M.2.2 ≤ M.2.2; exact Nat.le_refl _
  · rw [if_neg c1] at hf
    obtain ⟨z2, ez2, hf⟩ := bd_e hf
    obtain ⟨h3, hf⟩ := ck_e hf
    obtain ⟨M4, eM4, hf⟩ := sq_e hf
    have mM4 : M.2.2 ≤ M4.2.2 := by rw [eM4]; exact Nat.le_refl _
    obtain ⟨h5, hf⟩ := ck_e hf
    obtain ⟨y6, ey6, hf⟩ := sq_e hf
    obtain ⟨y7, ey7, hf⟩ := sq_e hf
    have hj := hq5 _ _ _ _ hf; omega
theorem mo_X11_weighAll_5l {z : (Int64 × mm_M)} : ∀ (n : Nat) (x1 : Int32) (x2 : Int64) (x4 : Int32) (M : mm_M), f_X11_weighAll_5l n x1 x2 x4 M = some z → M.2.2 ≤ z.2.2.2 := by
  intro n
  induction n with
  | zero => intro x1 x2 x4 M hf; exact absurd hf (by simp [f_X11_weighAll_5l])
  | succ n ih => intro x1 x2 x4 M hf; exact mo_X11_weighAll_5 ih hf
theorem mo_X11_weighAll {z : (Int64 × mm_M)} {x1 : Int32} {M : mm_M} (hf : f_X11_weighAll x1 M = some z) : M.2.2 ≤ z.2.2.2 := by
  unfold f_X11_weighAll at hf
  have hj := mo_X11_weighAll_5l fu_ _ _ _ _ hf; omega
def f_X11_odds_94 (q54 : Int32 → Int64 → Int64 → Int32 → mm_M → Option (Int32 × mm_M)) (x1 : Int32) (x3 : Int64) (x5 : Int64) (x7 : Int32) (M : mm_M) : Option (Int32 × mm_M) :=
  sq_ (x7 + 1 : Int32) fun y15 =>
  q54 x1 x3 x5 y15 M
def f_X11_odds_100 (x3 : Int64) (x5 : Int64) (M : mm_M) : Option (Int32 × mm_M) :=
  sq_ (f_X4_clear M) fun z13 =>
  (f_X4_addFraction x5 x3 z13).bind fun z14 =>
  some ((0 : Int32), z14)
def f_X11_odds_54 (q54 : Int32 → Int64 → Int64 → Int32 → mm_M → Option (Int32 × mm_M)) (x1 : Int32) (x3 : Int64) (x5 : Int64) (x7 : Int32) (M : mm_M) : Option (Int32 × mm_M) :=
  if (M.1 14 2) ≤ x7 then (
    f_X11_odds_100 x3 x5 M
  ) else (
    (f_X6_heldBy x7 M).bind fun z9 =>
    if ((z9 >>> (x1 &&& 31)) &&& 1) = 0 then (
      f_X11_odds_94 q54 x1 x3 x5 x7 M
    ) else (
      if ix_ok x7 600 then (
      sq_ ((x5 + (M.2.1 67 x7.toNatClampNeg)) : Int64) fun y12 =>
      f_X11_odds_94 q54 x1 x3 y12 x7 M
      ) else none
    )
  )
def f_X11_odds_54l : Nat → Int32 → Int64 → Int64 → Int32 → mm_M → Option (Int32 × mm_M)
  | 0, _, _, _, _, _ => none
  | n + 1, x1, x3, x5, x7, M => f_X11_odds_54 (f_X11_odds_54l n) x1 x3 x5 x7 M
def f_X11_odds_42 (x1 : Int32) (x2 : Int32) (M : mm_M) : Option (Int32 × mm_M) :=
  (f_X11_weighAll x2 M).bind fun z7 =>
  f_X11_odds_54l fu_ x1 z7.1 (0 : Int64) (0 : Int32) z7.2
def f_X11_odds (x1 : Int32) (M : mm_M) : Option (Int32 × mm_M) :=
  sq_ (f_X11_isSign x1 M) fun z1 =>
  if z1 = 0 then (
    some (((-1) : Int32), M)
  ) else (
    sq_ (((M.1 19 4) &&& (((1 : Int32) <<< (x1 &&& 31)) ^^^ (-1))) : Int32) fun y3 =>
    sq_ (f_J6_bitCount_0f7a4 y3) fun z4 =>
    if z4 ≤ 12 then (
      (f_X6_lookAnew M).bind fun z6 =>
      f_X11_odds_42 x1 y3 z6
    ) else (
      some (((-1) : Int32), M)
    )
  )
theorem mo_X11_odds_94 {z : (Int32 × mm_M)} {x1 : Int32} {x3 : Int64} {x5 : Int64} {x7 : Int32} {M : mm_M} {q54 : Int32 → Int64 → Int64 → Int32 → mm_M → Option (Int32 × mm_M)} (hq54 : ∀ (x1 : Int32) (x3 : Int64) (x5 : Int64) (x7 : Int32) (M : mm_M), q54 x1 x3 x5 x7 M = some z → M.2.2 ≤ z.2.2.2) (hf : f_X11_odds_94 q54 x1 x3 x5 x7 M = some z) : M.2.2 ≤ z.2.2.2 := by
  unfold f_X11_odds_94 at hf
  obtain ⟨y15, ey15, hf⟩ := sq_e hf
  have hj := hq54 _ _ _ _ _ hf; omega
theorem mo_X11_odds_100 {z : (Int32 × mm_M)} {x3 : Int64} {x5 : Int64} {M : mm_M} (hf : f_X11_odds_100 x3 x5 M = some z) : M.2.2 ≤ z.2.2.2 := by
  unfold f_X11_odds_100 at hf
  obtain ⟨z13, ez13, hf⟩ := sq_e hf
  have mz13 : M.2.2 ≤ z13.2.2 := mo_X4_clear ez13.symm
  obtain ⟨z14, ez14, hf⟩ := bd_e hf
  have mz14 : z13.2.2 ≤ z14.2.2 := mo_X4_addFraction ez14
  rw [← Option.some.inj hf]; show M.2.2 ≤ z14.2.2; omega
theorem mo_X11_odds_54 {z : (Int32 × mm_M)} {x1 : Int32} {x3 : Int64} {x5 : Int64} {x7 : Int32} {M : mm_M} {q54 : Int32 → Int64 → Int64 → Int32 → mm_M → Option (Int32 × mm_M)} (hq54 : ∀ (x1 : Int32) (x3 : Int64) (x5 : Int64) (x7 : Int32) (M : mm_M), q54 x1 x3 x5 x7 M = some z → M.2.2 ≤ z.2.2.2) (hf : f_X11_odds_54 q54 x1 x3 x5 x7 M = some z) : M.2.2 ≤ z.2.2.2 := by
  unfold f_X11_odds_54 at hf
  by_cases c8 : (M.1 14 2) ≤ x7
  · rw [if_pos c8] at hf
    have hj := mo_X11_odds_100 hf; omega
  · rw [if_neg c8] at hf
    obtain ⟨z9, ez9, hf⟩ := bd_e hf
    by_cases c10 : ((z9 >>> (x1 &&& 31)) &&& 1) = 0
    · rw [if_pos c10] at hf
      have hj := mo_X11_odds_94 hq54 hf; omega
    · rw [if_neg c10] at hf
      obtain ⟨h11, hf⟩ := ck_e hf
      obtain ⟨y12, ey12, hf⟩ := sq_e hf
      have hj := mo_X11_odds_94 hq54 hf; omega
theorem mo_X11_odds_54l {z : (Int32 × mm_M)} : ∀ (n : Nat) (x1 : Int32) (x3 : Int64) (x5 : Int64) (x7 : Int32) (M : mm_M), f_X11_odds_54l n x1 x3 x5 x7 M = some z → M.2.2 ≤ z.2.2.2 := by
  intro n
  induction n with
  | zero => intro x1 x3 x5 x7 M hf; exact absurd hf (by simp [f_X11_odds_54l])
  | succ n ih => intro x1 x3 x5 x7 M hf; exact mo_X11_odds_54 ih hf
theorem mo_X11_odds_42 {z : (Int32 × mm_M)} {x1 : Int32} {x2 : Int32} {M : mm_M} (hf : f_X11_odds_42 x1 x2 M = some z) : M.2.2 ≤ z.2.2.2 := by
  unfold f_X11_odds_42 at hf
  obtain ⟨z7, ez7, hf⟩ := bd_e hf
  have mz7 : M.2.2 ≤ z7.2.2.2 := mo_X11_weighAll ez7
  have hj := mo_X11_odds_54l fu_ _ _ _ _ _ hf; omega
theorem mo_X11_odds {z : (Int32 × mm_M)} {x1 : Int32} {M : mm_M} (hf : f_X11_odds x1 M = some z) : M.2.2 ≤ z.2.2.2 := by
  unfold f_X11_odds at hf
  obtain ⟨z1, ez1, hf⟩ := sq_e hf
  by_cases c2 : z1 = 0
  · rw [if_pos c2] at hf
    rw [← Option.some.inj hf]; show M.2.2 ≤ M.2.2; exact Nat.le_refl _
  · rw [if_neg c2] at hf
    obtain ⟨y3, ey3, hf⟩ := sq_e hf
    obtain ⟨z4, ez4, hf⟩ := sq_e hf
    by_cases c5 : z4 ≤ 12
    · rw [if_pos c5] at hf
      obtain ⟨z6, ez6, hf⟩ := bd_e hf
      have mz6 : M.2.2 ≤ z6.2.2 := mo_X6_lookAnew ez6
      have hj := mo_X11_odds_42 hf; omega
    · rw [if_neg c5] at hf
      rw [← Option.some.inj hf]; show M.2.2 ≤ M.2.2; exact Nat.le_refl _
def f_X11_tooManyToWeigh (M : mm_M) : Int32 :=
  sq_ (f_J6_bitCount_0f7a4 (M.1 19 4)) fun z1 =>
  if z1 ≤ 12 then (
    (0 : Int32)
  ) else (
    (1 : Int32)
  )
theorem bz_X11_tooManyToWeigh {z : Int32} {M : mm_M} (hf : f_X11_tooManyToWeigh M = z) : z = 0 ∨ z = 1 := by
  unfold f_X11_tooManyToWeigh at hf
  obtain ⟨z1, ez1, hf⟩ := sq_e hf
  by_cases c2 : z1 ≤ 12
  · rw [if_pos c2] at hf
    rw [← hf]; exact (Or.inl rfl)
  · rw [if_neg c2] at hf
    rw [← hf]; exact (Or.inr rfl)
def f_X11_walkAll_28 (q2 : Int32 → Int32 → Int32 → mm_M → Option mm_M) (x1 : Int32) (x2 : Int32) (x3 : Int32) (t1 : Int32) (t2 : Int32) (M : mm_M) : Option mm_M :=
  if ix_ok t1 600 then (
  sq_ (mm_si M 66 t1.toNatClampNeg t2) fun M4 =>
  sq_ (x3 + 1 : Int32) fun y5 =>
  q2 x1 x2 y5 M4
  ) else none
def f_X11_walkAll_2 (q2 : Int32 → Int32 → Int32 → mm_M → Option mm_M) (x1 : Int32) (x2 : Int32) (x3 : Int32) (M : mm_M) : Option mm_M :=
  if (M.1 14 2) ≤ x3 then (
    some M
  ) else (
    (f_X3_courseAt x3 x1 x2 M).bind fun z2 =>
    f_X11_walkAll_28 q2 x1 x2 x3 x3 z2.1 z2.2
  )
def f_X11_walkAll_2l : Nat → Int32 → Int32 → Int32 → mm_M → Option mm_M
  | 0, _, _, _, _ => none
  | n + 1, x1, x2, x3, M => f_X11_walkAll_2 (f_X11_walkAll_2l n) x1 x2 x3 M
def f_X11_walkAll (x1 : Int32) (x2 : Int32) (M : mm_M) : Option mm_M :=
  f_X11_walkAll_2l fu_ x1 x2 (0 : Int32) M
theorem mo_X11_walkAll_28 {z : mm_M} {x1 : Int32} {x2 : Int32} {x3 : Int32} {t1 : Int32} {t2 : Int32} {M : mm_M} {q2 : Int32 → Int32 → Int32 → mm_M → Option mm_M} (hq2 : ∀ (x1 : Int32) (x2 : Int32) (x3 : Int32) (M : mm_M), q2 x1 x2 x3 M = some z → M.2.2 ≤ z.2.2) (hf : f_X11_walkAll_28 q2 x1 x2 x3 t1 t2 M = some z) : M.2.2 ≤ z.2.2 := by
  unfold f_X11_walkAll_28 at hf
  obtain ⟨h3, hf⟩ := ck_e hf
  obtain ⟨M4, eM4, hf⟩ := sq_e hf
  have mM4 : M.2.2 ≤ M4.2.2 := by rw [eM4]; exact Nat.le_refl _
  obtain ⟨y5, ey5, hf⟩ := sq_e hf
  have hj := hq2 _ _ _ _ hf; omega
theorem mo_X11_walkAll_2 {z : mm_M} {x1 : Int32} {x2 : Int32} {x3 : Int32} {M : mm_M} {q2 : Int32 → Int32 → Int32 → mm_M → Option mm_M} (hq2 : ∀ (x1 : Int32) (x2 : Int32) (x3 : Int32) (M : mm_M), q2 x1 x2 x3 M = some z → M.2.2 ≤ z.2.2) (hf : f_X11_walkAll_2 q2 x1 x2 x3 M = some z) : M.2.2 ≤ z.2.2 := by
  unfold f_X11_walkAll_2 at hf
  by_cases c1 : (M.1 14 2) ≤ x3
  · rw [if_pos c1] at hf
    rw [← Option.some.inj hf]; show M.2.2 ≤ M.2.2; exact Nat.le_refl _
  · rw [if_neg c1] at hf
    obtain ⟨z2, ez2, hf⟩ := bd_e hf
    have mz2 : M.2.2 ≤ z2.2.2.2 := mo_X3_courseAt ez2
    have hj := mo_X11_walkAll_28 hq2 hf; omega
theorem mo_X11_walkAll_2l {z : mm_M} : ∀ (n : Nat) (x1 : Int32) (x2 : Int32) (x3 : Int32) (M : mm_M), f_X11_walkAll_2l n x1 x2 x3 M = some z → M.2.2 ≤ z.2.2 := by
  intro n
  induction n with
  | zero => intro x1 x2 x3 M hf; exact absurd hf (by simp [f_X11_walkAll_2l])
  | succ n ih => intro x1 x2 x3 M hf; exact mo_X11_walkAll_2 ih hf
theorem mo_X11_walkAll {z : mm_M} {x1 : Int32} {x2 : Int32} {M : mm_M} (hf : f_X11_walkAll x1 x2 M = some z) : M.2.2 ≤ z.2.2 := by
  unfold f_X11_walkAll at hf
  have hj := mo_X11_walkAll_2l fu_ _ _ _ _ hf; omega
def f_X11_likeliestWay_53 (M : mm_M) : Option (Int32 × mm_M) :=
  (f_X10_heaviest M).bind fun z8 =>
  some (z8, M)
def f_X11_likeliestWay_9 (q9 : Int32 → Int32 → mm_M → Option (Int32 × mm_M)) (x1 : Int32) (x2 : Int32) (M : mm_M) : Option (Int32 × mm_M) :=
  if (M.1 14 2) ≤ x2 then (
    f_X11_likeliestWay_53 M
  ) else (
    if ix_ok x2 600 then (
    (f_X9_formOn (M.1 66 x2.toNatClampNeg) x1 M).bind fun z4 =>
    if ix_ok x2 600 then (
    (f_X10_add z4 (M.2.1 67 x2.toNatClampNeg) M).bind fun z6 =>
    sq_ (x2 + 1 : Int32) fun y7 =>
    q9 x1 y7 z6
    ) else none ) else none
  )
def f_X11_likeliestWay_9l : Nat → Int32 → Int32 → mm_M → Option (Int32 × mm_M)
  | 0, _, _, _ => none
  | n + 1, x1, x2, M => f_X11_likeliestWay_9 (f_X11_likeliestWay_9l n) x1 x2 M
def f_X11_likeliestWay (x1 : Int32) (M : mm_M) : Option (Int32 × mm_M) :=
  sq_ (f_X10_clear M) fun z1 =>
  f_X11_likeliestWay_9l fu_ x1 (0 : Int32) z1
theorem mo_X11_likeliestWay_53 {z : (Int32 × mm_M)} {M : mm_M} (hf : f_X11_likeliestWay_53 M = some z) : M.2.2 ≤ z.2.2.2 := by
  unfold f_X11_likeliestWay_53 at hf
  obtain ⟨z8, ez8, hf⟩ := bd_e hf
  rw [← Option.some.inj hf]; show M.2.2 ≤ M.2.2; exact Nat.le_refl _
theorem mo_X11_likeliestWay_9 {z : (Int32 × mm_M)} {x1 : Int32} {x2 : Int32} {M : mm_M} {q9 : Int32 → Int32 → mm_M → Option (Int32 × mm_M)} (hq9 : ∀ (x1 : Int32) (x2 : Int32) (M : mm_M), q9 x1 x2 M = some z → M.2.2 ≤ z.2.2.2) (hf : f_X11_likeliestWay_9 q9 x1 x2 M = some z) : M.2.2 ≤ z.2.2.2 := by
  unfold f_X11_likeliestWay_9 at hf
  by_cases c2 : (M.1 14 2) ≤ x2
  · rw [if_pos c2] at hf
    have hj := mo_X11_likeliestWay_53 hf; omega
  · rw [if_neg c2] at hf
    obtain ⟨h3, hf⟩ := ck_e hf
    obtain ⟨z4, ez4, hf⟩ := bd_e hf
    obtain ⟨h5, hf⟩ := ck_e hf
    obtain ⟨z6, ez6, hf⟩ := bd_e hf
    have mz6 : M.2.2 ≤ z6.2.2 := mo_X10_add ez6
    obtain ⟨y7, ey7, hf⟩ := sq_e hf
    have hj := hq9 _ _ _ hf; omega
theorem mo_X11_likeliestWay_9l {z : (Int32 × mm_M)} : ∀ (n : Nat) (x1 : Int32) (x2 : Int32) (M : mm_M), f_X11_likeliestWay_9l n x1 x2 M = some z → M.2.2 ≤ z.2.2.2 := by
  intro n
  induction n with
  | zero => intro x1 x2 M hf; exact absurd hf (by simp [f_X11_likeliestWay_9l])
  | succ n ih => intro x1 x2 M hf; exact mo_X11_likeliestWay_9 ih hf
theorem mo_X11_likeliestWay {z : (Int32 × mm_M)} {x1 : Int32} {M : mm_M} (hf : f_X11_likeliestWay x1 M = some z) : M.2.2 ≤ z.2.2.2 := by
  unfold f_X11_likeliestWay at hf
  obtain ⟨z1, ez1, hf⟩ := sq_e hf
  have mz1 : M.2.2 ≤ z1.2.2 := mo_X10_clear ez1.symm
  have hj := mo_X11_likeliestWay_9l fu_ _ _ _ hf; omega
def f_X11_then_57 (x1 : Int32) (x4 : Int64) (M : mm_M) : Option (Int32 × mm_M) :=
  (f_X11_likeliestWay x1 M).bind fun z12 =>
  sq_ (f_X4_clear z12.2) fun z13 =>
  if ix_ok z12.1 600 then (
  (f_X4_addFraction (z13.2.1 41 z12.1.toNatClampNeg) x4 z13).bind fun z15 =>
  if ix_ok z12.1 600 then (
  (f_X11_tellSounds (z15.2.1 40 z12.1.toNatClampNeg) z15).bind fun z17 =>
  some (z17.1, z17.2)
  ) else none ) else none
def f_X11_then_38 (x1 : Int32) (x2 : Int32) (x3 : Int32) (M : mm_M) : Option (Int32 × mm_M) :=
  (f_X11_weighAll (M.1 19 4) M).bind fun z10 =>
  (f_X11_walkAll x2 x3 z10.2).bind fun z11 =>
  f_X11_then_57 x1 z10.1 z11
def f_X11_then (x1 : Int32) (x2 : Int32) (x3 : Int32) (M : mm_M) : Option (Int32 × mm_M) :=
  sq_ (f_X11_isWord x1 M) fun z1 =>
  if z1 = 0 then (
    some (((-1) : Int32), M)
  ) else (
    sq_ (f_X11_isYear x2) fun z3 =>
    if z3 = 0 then (
      some (((-1) : Int32), M)
    ) else (
      sq_ (f_X11_isPlace x3) fun z5 =>
      if z5 = 0 then (
        some (((-1) : Int32), M)
      ) else (
        sq_ (f_X11_tooManyToWeigh M) fun z7 =>
        if z7 = 0 then (
          (f_X6_lookAnew M).bind fun z9 =>
          f_X11_then_38 x1 x2 x3 z9
        ) else (
          some (((-1) : Int32), M)
        )
      )
    )
  )
theorem mo_X11_then_57 {z : (Int32 × mm_M)} {x1 : Int32} {x4 : Int64} {M : mm_M} (hf : f_X11_then_57 x1 x4 M = some z) : M.2.2 ≤ z.2.2.2 := by
  unfold f_X11_then_57 at hf
  obtain ⟨z12, ez12, hf⟩ := bd_e hf
  have mz12 : M.2.2 ≤ z12.2.2.2 := mo_X11_likeliestWay ez12
  obtain ⟨z13, ez13, hf⟩ := sq_e hf
  have mz13 : z12.2.2.2 ≤ z13.2.2 := mo_X4_clear ez13.symm
  obtain ⟨h14, hf⟩ := ck_e hf
  obtain ⟨z15, ez15, hf⟩ := bd_e hf
  have mz15 : z13.2.2 ≤ z15.2.2 := mo_X4_addFraction ez15
  obtain ⟨h16, hf⟩ := ck_e hf
  obtain ⟨z17, ez17, hf⟩ := bd_e hf
  have mz17 : z15.2.2 ≤ z17.2.2.2 := mo_X11_tellSounds ez17
  rw [← Option.some.inj hf]; show M.2.2 ≤ z17.2.2.2; omega
theorem mo_X11_then_38 {z : (Int32 × mm_M)} {x1 : Int32} {x2 : Int32} {x3 : Int32} {M : mm_M} (hf : f_X11_then_38 x1 x2 x3 M = some z) : M.2.2 ≤ z.2.2.2 := by
  unfold f_X11_then_38 at hf
  obtain ⟨z10, ez10, hf⟩ := bd_e hf
  have mz10 : M.2.2 ≤ z10.2.2.2 := mo_X11_weighAll ez10
  obtain ⟨z11, ez11, hf⟩ := bd_e hf
  have mz11 : z10.2.2.2 ≤ z11.2.2 := mo_X11_walkAll ez11
  have hj := mo_X11_then_57 hf; omega
theorem mo_X11_then {z : (Int32 × mm_M)} {x1 : Int32} {x2 : Int32} {x3 : Int32} {M : mm_M} (hf : f_X11_then x1 x2 x3 M = some z) : M.2.2 ≤ z.2.2.2 := by
  unfold f_X11_then at hf
  obtain ⟨z1, ez1, hf⟩ := sq_e hf
  by_cases c2 : z1 = 0
  · rw [if_pos c2] at hf
    rw [← Option.some.inj hf]; show M.2.2 ≤ M.2.2; exact Nat.le_refl _
  · rw [if_neg c2] at hf
    obtain ⟨z3, ez3, hf⟩ := sq_e hf
    by_cases c4 : z3 = 0
    · rw [if_pos c4] at hf
      rw [← Option.some.inj hf]; show M.2.2 ≤ M.2.2; exact Nat.le_refl _
    · rw [if_neg c4] at hf
      obtain ⟨z5, ez5, hf⟩ := sq_e hf
      by_cases c6 : z5 = 0
      · rw [if_pos c6] at hf
        rw [← Option.some.inj hf]; show M.2.2 ≤ M.2.2; exact Nat.le_refl _
      · rw [if_neg c6] at hf
        obtain ⟨z7, ez7, hf⟩ := sq_e hf
        by_cases c8 : z7 = 0
        · rw [if_pos c8] at hf
          obtain ⟨z9, ez9, hf⟩ := bd_e hf
          have mz9 : M.2.2 ≤ z9.2.2 := mo_X6_lookAnew ez9
          have hj := mo_X11_then_38 hf; omega
        · rw [if_neg c8] at hf
          rw [← Option.some.inj hf]; show M.2.2 ≤ M.2.2; exact Nat.le_refl _
def f_X11_right_104 (q50 : Int32 → Int32 → Int32 → mm_M → Option (Int32 × mm_M)) (x1 : Int32) (x4 : Int32) (x5 : Int32) (M : mm_M) : Option (Int32 × mm_M) :=
  sq_ (x5 + 1 : Int32) fun y18 =>
  q50 x1 x4 y18 M
def f_X11_right_110 (x4 : Int32) (M : mm_M) : Option (Int32 × mm_M) :=
  sq_ (f_X4_clear M) fun z15 =>
  (f_X4_add (x4.toInt64) z15).bind fun z16 =>
  sq_ (f_J6_bitCount_0f7a4 x4) fun z17 =>
  some (z17, z16)
def f_X11_right_50 (q50 : Int32 → Int32 → Int32 → mm_M → Option (Int32 × mm_M)) (x1 : Int32) (x4 : Int32) (x5 : Int32) (M : mm_M) : Option (Int32 × mm_M) :=
  if (M.1 5 2) ≤ x5 then (
    f_X11_right_110 x4 M
  ) else (
    (f_X11_likeliestWay x5 M).bind fun z9 =>
    if ix_ok z9.1 600 then (
    if ix_ok x1 600 then (
    (f_X9_formOn (z9.2.1 66 x1.toNatClampNeg) x5 z9.2).bind fun z12 =>
    if (z9.2.2.1 40 z9.1.toNatClampNeg) = z12 then (
      sq_ ((x4 ||| ((1 : Int32) <<< (x5 &&& 31))) : Int32) fun y14 =>
      f_X11_right_104 q50 x1 y14 x5 z9.2
    ) else (
      f_X11_right_104 q50 x1 x4 x5 z9.2
    )
    ) else none ) else none
  )
def f_X11_right_50l : Nat → Int32 → Int32 → Int32 → mm_M → Option (Int32 × mm_M)
  | 0, _, _, _, _ => none
  | n + 1, x1, x4, x5, M => f_X11_right_50 (f_X11_right_50l n) x1 x4 x5 M
def f_X11_right_44 (x1 : Int32) (M : mm_M) : Option (Int32 × mm_M) :=
  f_X11_right_50l fu_ x1 (0 : Int32) (0 : Int32) M
def f_X11_right_26 (x1 : Int32) (x2 : Int32) (x3 : Int32) (M : mm_M) : Option (Int32 × mm_M) :=
  (f_X11_weighAll (M.1 19 4) M).bind fun z6 =>
  (f_X11_walkAll x2 x3 z6.2).bind fun z7 =>
  f_X11_right_44 x1 z7
def f_X11_right (x1 : Int32) (x2 : Int32) (x3 : Int32) (M : mm_M) : Option (Int32 × mm_M) :=
  sq_ (f_X11_isThenAndThere x1 x2 x3 M) fun z1 =>
  if z1 = 0 then (
    some (((-1) : Int32), M)
  ) else (
    sq_ (f_X11_tooManyToWeigh M) fun z3 =>
    if z3 = 0 then (
      (f_X6_lookAnew M).bind fun z5 =>
      f_X11_right_26 x1 x2 x3 z5
    ) else (
      some (((-1) : Int32), M)
    )
  )
theorem mo_X11_right_104 {z : (Int32 × mm_M)} {x1 : Int32} {x4 : Int32} {x5 : Int32} {M : mm_M} {q50 : Int32 → Int32 → Int32 → mm_M → Option (Int32 × mm_M)} (hq50 : ∀ (x1 : Int32) (x4 : Int32) (x5 : Int32) (M : mm_M), q50 x1 x4 x5 M = some z → M.2.2 ≤ z.2.2.2) (hf : f_X11_right_104 q50 x1 x4 x5 M = some z) : M.2.2 ≤ z.2.2.2 := by
  unfold f_X11_right_104 at hf
  obtain ⟨y18, ey18, hf⟩ := sq_e hf
  have hj := hq50 _ _ _ _ hf; omega
theorem mo_X11_right_110 {z : (Int32 × mm_M)} {x4 : Int32} {M : mm_M} (hf : f_X11_right_110 x4 M = some z) : M.2.2 ≤ z.2.2.2 := by
  unfold f_X11_right_110 at hf
  obtain ⟨z15, ez15, hf⟩ := sq_e hf
  have mz15 : M.2.2 ≤ z15.2.2 := mo_X4_clear ez15.symm
  obtain ⟨z16, ez16, hf⟩ := bd_e hf
  have mz16 : z15.2.2 ≤ z16.2.2 := mo_X4_add ez16
  obtain ⟨z17, ez17, hf⟩ := sq_e hf
  rw [← Option.some.inj hf]; show M.2.2 ≤ z16.2.2; omega
theorem mo_X11_right_50 {z : (Int32 × mm_M)} {x1 : Int32} {x4 : Int32} {x5 : Int32} {M : mm_M} {q50 : Int32 → Int32 → Int32 → mm_M → Option (Int32 × mm_M)} (hq50 : ∀ (x1 : Int32) (x4 : Int32) (x5 : Int32) (M : mm_M), q50 x1 x4 x5 M = some z → M.2.2 ≤ z.2.2.2) (hf : f_X11_right_50 q50 x1 x4 x5 M = some z) : M.2.2 ≤ z.2.2.2 := by
  unfold f_X11_right_50 at hf
  by_cases c8 : (M.1 5 2) ≤ x5
  · rw [if_pos c8] at hf
    have hj := mo_X11_right_110 hf; omega
  · rw [if_neg c8] at hf
    obtain ⟨z9, ez9, hf⟩ := bd_e hf
    have mz9 : M.2.2 ≤ z9.2.2.2 := mo_X11_likeliestWay ez9
    obtain ⟨h10, hf⟩ := ck_e hf
    obtain ⟨h11, hf⟩ := ck_e hf
    obtain ⟨z12, ez12, hf⟩ := bd_e hf
    by_cases c13 : (z9.2.2.1 40 z9.1.toNatClampNeg) = z12
    · rw [if_pos c13] at hf
      obtain ⟨y14, ey14, hf⟩ := sq_e hf
      have hj := mo_X11_right_104 hq50 hf; omega
    · rw [if_neg c13] at hf
      have hj := mo_X11_right_104 hq50 hf; omega
theorem mo_X11_right_50l {z : (Int32 × mm_M)} : ∀ (n : Nat) (x1 : Int32) (x4 : Int32) (x5 : Int32) (M : mm_M), f_X11_right_50l n x1 x4 x5 M = some z → M.2.2 ≤ z.2.2.2 := by
  intro n
  induction n with
  | zero => intro x1 x4 x5 M hf; exact absurd hf (by simp [f_X11_right_50l])
  | succ n ih => intro x1 x4 x5 M hf; exact mo_X11_right_50 ih hf
theorem mo_X11_right_44 {z : (Int32 × mm_M)} {x1 : Int32} {M : mm_M} (hf : f_X11_right_44 x1 M = some z) : M.2.2 ≤ z.2.2.2 := by
  unfold f_X11_right_44 at hf
  have hj := mo_X11_right_50l fu_ _ _ _ _ hf; omega
theorem mo_X11_right_26 {z : (Int32 × mm_M)} {x1 : Int32} {x2 : Int32} {x3 : Int32} {M : mm_M} (hf : f_X11_right_26 x1 x2 x3 M = some z) : M.2.2 ≤ z.2.2.2 := by
  unfold f_X11_right_26 at hf
  obtain ⟨z6, ez6, hf⟩ := bd_e hf
  have mz6 : M.2.2 ≤ z6.2.2.2 := mo_X11_weighAll ez6
  obtain ⟨z7, ez7, hf⟩ := bd_e hf
  have mz7 : z6.2.2.2 ≤ z7.2.2 := mo_X11_walkAll ez7
  have hj := mo_X11_right_44 hf; omega
theorem mo_X11_right {z : (Int32 × mm_M)} {x1 : Int32} {x2 : Int32} {x3 : Int32} {M : mm_M} (hf : f_X11_right x1 x2 x3 M = some z) : M.2.2 ≤ z.2.2.2 := by
  unfold f_X11_right at hf
  obtain ⟨z1, ez1, hf⟩ := sq_e hf
  by_cases c2 : z1 = 0
  · rw [if_pos c2] at hf
    rw [← Option.some.inj hf]; show M.2.2 ≤ M.2.2; exact Nat.le_refl _
  · rw [if_neg c2] at hf
    obtain ⟨z3, ez3, hf⟩ := sq_e hf
    by_cases c4 : z3 = 0
    · rw [if_pos c4] at hf
      obtain ⟨z5, ez5, hf⟩ := bd_e hf
      have mz5 : M.2.2 ≤ z5.2.2 := mo_X6_lookAnew ez5
      have hj := mo_X11_right_26 hf; omega
    · rw [if_neg c4] at hf
      rw [← Option.some.inj hf]; show M.2.2 ≤ M.2.2; exact Nat.le_refl _
def f_X11_likely_65 (q33 : Int64 → Int32 → Int32 → mm_M → Option (Int32 × mm_M)) (x1 : Int64) (x3 : Int32) (x4 : Int32) (M : mm_M) : Option (Int32 × mm_M) :=
  sq_ (x4 + 1 : Int32) fun y12 =>
  q33 x1 x3 y12 M
def f_X11_likely_71 (x1 : Int64) (x3 : Int32) (M : mm_M) : Option (Int32 × mm_M) :=
  sq_ (f_X4_clear M) fun z9 =>
  if ix_ok x3 600 then (
  (f_X4_addFraction (z9.2.1 67 x3.toNatClampNeg) x1 z9).bind fun z11 =>
  some (x3, z11)
  ) else none
def f_X11_likely_33 (q33 : Int64 → Int32 → Int32 → mm_M → Option (Int32 × mm_M)) (x1 : Int64) (x3 : Int32) (x4 : Int32) (M : mm_M) : Option (Int32 × mm_M) :=
  if (M.1 14 2) ≤ x4 then (
    f_X11_likely_71 x1 x3 M
  ) else (
    if ix_ok x4 600 then (
    if ix_ok x3 600 then (
    if (M.2.1 67 x4.toNatClampNeg) ≤ (M.2.1 67 x3.toNatClampNeg) then (
      f_X11_likely_65 q33 x1 x3 x4 M
    ) else (
      f_X11_likely_65 q33 x1 x4 x4 M
    )
    ) else none ) else none
  )
def f_X11_likely_33l : Nat → Int64 → Int32 → Int32 → mm_M → Option (Int32 × mm_M)
  | 0, _, _, _, _ => none
  | n + 1, x1, x3, x4, M => f_X11_likely_33 (f_X11_likely_33l n) x1 x3 x4 M
def f_X11_likely_16 (M : mm_M) : Option (Int32 × mm_M) :=
  (f_X11_weighAll (M.1 19 4) M).bind fun z4 =>
  f_X11_likely_33l fu_ z4.1 (0 : Int32) (1 : Int32) z4.2
def f_X11_likely (M : mm_M) : Option (Int32 × mm_M) :=
  sq_ (f_X11_tooManyToWeigh M) fun z1 =>
  if z1 = 0 then (
    (f_X6_lookAnew M).bind fun z3 =>
    f_X11_likely_16 z3
  ) else (
    some (((-1) : Int32), M)
  )
theorem mo_X11_likely_65 {z : (Int32 × mm_M)} {x1 : Int64} {x3 : Int32} {x4 : Int32} {M : mm_M} {q33 : Int64 → Int32 → Int32 → mm_M → Option (Int32 × mm_M)} (hq33 : ∀ (x1 : Int64) (x3 : Int32) (x4 : Int32) (M : mm_M), q33 x1 x3 x4 M = some z → M.2.2 ≤ z.2.2.2) (hf : f_X11_likely_65 q33 x1 x3 x4 M = some z) : M.2.2 ≤ z.2.2.2 := by
  unfold f_X11_likely_65 at hf
  obtain ⟨y12, ey12, hf⟩ := sq_e hf
  have hj := hq33 _ _ _ _ hf; omega
theorem mo_X11_likely_71 {z : (Int32 × mm_M)} {x1 : Int64} {x3 : Int32} {M : mm_M} (hf : f_X11_likely_71 x1 x3 M = some z) : M.2.2 ≤ z.2.2.2 := by
  unfold f_X11_likely_71 at hf
  obtain ⟨z9, ez9, hf⟩ := sq_e hf
  have mz9 : M.2.2 ≤ z9.2.2 := mo_X4_clear ez9.symm
  obtain ⟨h10, hf⟩ := ck_e hf
  obtain ⟨z11, ez11, hf⟩ := bd_e hf
  have mz11 : z9.2.2 ≤ z11.2.2 := mo_X4_addFraction ez11
  rw [← Option.some.inj hf]; show M.2.2 ≤ z11.2.2; omega
theorem mo_X11_likely_33 {z : (Int32 × mm_M)} {x1 : Int64} {x3 : Int32} {x4 : Int32} {M : mm_M} {q33 : Int64 → Int32 → Int32 → mm_M → Option (Int32 × mm_M)} (hq33 : ∀ (x1 : Int64) (x3 : Int32) (x4 : Int32) (M : mm_M), q33 x1 x3 x4 M = some z → M.2.2 ≤ z.2.2.2) (hf : f_X11_likely_33 q33 x1 x3 x4 M = some z) : M.2.2 ≤ z.2.2.2 := by
  unfold f_X11_likely_33 at hf
  by_cases c5 : (M.1 14 2) ≤ x4
  · rw [if_pos c5] at hf
    have hj := mo_X11_likely_71 hf; omega
  · rw [if_neg c5] at hf
    obtain ⟨h6, hf⟩ := ck_e hf
    obtain ⟨h7, hf⟩ := ck_e hf
    by_cases c8 : (M.2.1 67 x4.toNatClampNeg) ≤ (M.2.1 67 x3.toNatClampNeg)
    · rw [if_pos c8] at hf
      have hj := mo_X11_likely_65 hq33 hf; omega
    · rw [if_neg c8] at hf
      have hj := mo_X11_likely_65 hq33 hf; omega
theorem mo_X11_likely_33l {z : (Int32 × mm_M)} : ∀ (n : Nat) (x1 : Int64) (x3 : Int32) (x4 : Int32) (M : mm_M), f_X11_likely_33l n x1 x3 x4 M = some z → M.2.2 ≤ z.2.2.2 := by
  intro n
  induction n with
  | zero => intro x1 x3 x4 M hf; exact absurd hf (by simp [f_X11_likely_33l])
  | succ n ih => intro x1 x3 x4 M hf; exact mo_X11_likely_33 ih hf
theorem mo_X11_likely_16 {z : (Int32 × mm_M)} {M : mm_M} (hf : f_X11_likely_16 M = some z) : M.2.2 ≤ z.2.2.2 := by
  unfold f_X11_likely_16 at hf
  obtain ⟨z4, ez4, hf⟩ := bd_e hf
  have mz4 : M.2.2 ≤ z4.2.2.2 := mo_X11_weighAll ez4
  have hj := mo_X11_likely_33l fu_ _ _ _ _ hf; omega
theorem mo_X11_likely {z : (Int32 × mm_M)} {M : mm_M} (hf : f_X11_likely M = some z) : M.2.2 ≤ z.2.2.2 := by
  unfold f_X11_likely at hf
  obtain ⟨z1, ez1, hf⟩ := sq_e hf
  by_cases c2 : z1 = 0
  · rw [if_pos c2] at hf
    obtain ⟨z3, ez3, hf⟩ := bd_e hf
    have mz3 : M.2.2 ≤ z3.2.2 := mo_X6_lookAnew ez3
    have hj := mo_X11_likely_16 hf; omega
  · rw [if_neg c2] at hf
    rw [← Option.some.inj hf]; show M.2.2 ≤ M.2.2; exact Nat.le_refl _
def f_X6_fitCount_29 (q4 : Int32 → Int32 → Option Int32) (x2 : Int32) (t0 : Int32) (t1 : Int32) (M : mm_M) : Option Int32 :=
  sq_ ((t0 + t1) : Int32) fun y4 =>
  sq_ (x2 + 1 : Int32) fun y5 =>
  q4 y4 y5
def f_X6_fitCount_4 (q4 : Int32 → Int32 → Option Int32) (x1 : Int32) (x2 : Int32) (M : mm_M) : Option Int32 :=
  if (M.1 14 2) ≤ x2 then (
    some x1
  ) else (
    (f_X6_fitsTo x2 M).bind fun z2 =>
    if z2 = 0 then (
      f_X6_fitCount_29 q4 x2 x1 (0 : Int32) M
    ) else (
      f_X6_fitCount_29 q4 x2 x1 (1 : Int32) M
    )
  )
def f_X6_fitCount_4l (M : mm_M) : Nat → Int32 → Int32 → Option Int32
  | 0, _, _ => none
  | n + 1, x1, x2 => f_X6_fitCount_4 (f_X6_fitCount_4l M n) x1 x2 M
def f_X6_fitCount (M : mm_M) : Option Int32 :=
  f_X6_fitCount_4l M fu_ (0 : Int32) (0 : Int32)
def f_X6_fitCountHolding_38 (q4 : Int32 → Int32 → Int32 → Option Int32) (x1 : Int32) (x3 : Int32) (t0 : Int32) (t1 : Int32) (M : mm_M) : Option Int32 :=
  sq_ ((t0 + t1) : Int32) fun y5 =>
  sq_ (x3 + 1 : Int32) fun y6 =>
  q4 x1 y5 y6
def f_X6_fitCountHolding_4 (q4 : Int32 → Int32 → Int32 → Option Int32) (x1 : Int32) (x2 : Int32) (x3 : Int32) (M : mm_M) : Option Int32 :=
  if (M.1 14 2) ≤ x3 then (
    some x2
  ) else (
    (f_X6_fitsTo x3 M).bind fun z2 =>
    if z2 = 0 then (
      f_X6_fitCountHolding_38 q4 x1 x3 x2 (0 : Int32) M
    ) else (
      if ix_ok x3 600 then (
      f_X6_fitCountHolding_38 q4 x1 x3 x2 (((M.1 21 x3.toNatClampNeg) >>> (x1 &&& 31)) &&& 1) M
      ) else none
    )
  )
def f_X6_fitCountHolding_4l (M : mm_M) : Nat → Int32 → Int32 → Int32 → Option Int32
  | 0, _, _, _ => none
  | n + 1, x1, x2, x3 => f_X6_fitCountHolding_4 (f_X6_fitCountHolding_4l M n) x1 x2 x3 M
def f_X6_fitCountHolding (x1 : Int32) (M : mm_M) : Option Int32 :=
  f_X6_fitCountHolding_4l M fu_ x1 (0 : Int32) (0 : Int32)
def f_X11_isMoreEven (x0 : Int32) (x1 : Int32) (x2 : Int32) : Int32 :=
  if (if 0 ≤ ((2 * x1) - x2) then ((2 * x1) - x2) else 0 - ((2 * x1) - x2)) ≤ (if 0 ≤ ((2 * x0) - x2) then ((2 * x0) - x2) else 0 - ((2 * x0) - x2)) then (
    (0 : Int32)
  ) else (
    (1 : Int32)
  )
theorem bz_X11_isMoreEven {z : Int32} {x0 : Int32} {x1 : Int32} {x2 : Int32} (hf : f_X11_isMoreEven x0 x1 x2 = z) : z = 0 ∨ z = 1 := by
  unfold f_X11_isMoreEven at hf
  by_cases c1 : (if 0 ≤ ((2 * x1) - x2) then ((2 * x1) - x2) else 0 - ((2 * x1) - x2)) ≤ (if 0 ≤ ((2 * x0) - x2) then ((2 * x0) - x2) else 0 - ((2 * x0) - x2))
  · rw [if_pos c1] at hf
    rw [← hf]; exact (Or.inl rfl)
  · rw [if_neg c1] at hf
    rw [← hf]; exact (Or.inr rfl)
def f_X11_next_111 (q52 : Int32 → Int32 → Int32 → Int32 → mm_M → Option (Int32 × mm_M)) (x1 : Int32) (x2 : Int32) (x3 : Int32) (x4 : Int32) (M : mm_M) : Option (Int32 × mm_M) :=
  sq_ (x4 + 1 : Int32) fun y13 =>
  q52 x1 x2 x3 y13 M
def f_X11_next_105 (q52 : Int32 → Int32 → Int32 → Int32 → mm_M → Option (Int32 × mm_M)) (x1 : Int32) (x4 : Int32) (x5 : Int32) (M : mm_M) : Option (Int32 × mm_M) :=
  f_X11_next_111 q52 x1 x4 x5 x4 M
def f_X11_next_117 (x2 : Int32) (x3 : Int32) (M : mm_M) : Option (Int32 × mm_M) :=
  sq_ (f_X4_clear M) fun z11 =>
  (f_X4_add (x3.toInt64) z11).bind fun z12 =>
  some (x2, z12)
def f_X11_next_52 (q52 : Int32 → Int32 → Int32 → Int32 → mm_M → Option (Int32 × mm_M)) (x1 : Int32) (x2 : Int32) (x3 : Int32) (x4 : Int32) (M : mm_M) : Option (Int32 × mm_M) :=
  if (M.1 19 3) ≤ x4 then (
    f_X11_next_117 x2 x3 M
  ) else (
    if (((M.1 19 4) >>> (x4 &&& 31)) &&& 1) = 0 then (
      (f_X6_fitCountHolding x4 M).bind fun z7 =>
      if x2 = (-1) then (
        f_X11_next_105 q52 x1 x4 z7 M
      ) else (
        sq_ (f_X11_isMoreEven z7 x3 x1) fun z9 =>
        if z9 = 0 then (
          f_X11_next_111 q52 x1 x2 x3 x4 M
        ) else (
          f_X11_next_105 q52 x1 x4 z7 M
        )
      )
    ) else (
      f_X11_next_111 q52 x1 x2 x3 x4 M
    )
  )
def f_X11_next_52l : Nat → Int32 → Int32 → Int32 → Int32 → mm_M → Option (Int32 × mm_M)
  | 0, _, _, _, _, _ => none
  | n + 1, x1, x2, x3, x4, M => f_X11_next_52 (f_X11_next_52l n) x1 x2 x3 x4 M
def f_X11_next_30 (M : mm_M) : Option (Int32 × mm_M) :=
  (f_X6_fitCount M).bind fun z3 =>
  if z3 = 0 then (
    some (((-2) : Int32), M)
  ) else (
    f_X11_next_52l fu_ z3 ((-1) : Int32) (0 : Int32) (0 : Int32) M
  )
def f_X11_next (M : mm_M) : Option (Int32 × mm_M) :=
  if (M.1 19 4) = (((1 : Int32) <<< ((M.1 19 3) &&& 31)) - 1) then (
    some (((-1) : Int32), M)
  ) else (
    (f_X6_lookAnew M).bind fun z2 =>
    f_X11_next_30 z2
  )
theorem mo_X11_next_111 {z : (Int32 × mm_M)} {x1 : Int32} {x2 : Int32} {x3 : Int32} {x4 : Int32} {M : mm_M} {q52 : Int32 → Int32 → Int32 → Int32 → mm_M → Option (Int32 × mm_M)} (hq52 : ∀ (x1 : Int32) (x2 : Int32) (x3 : Int32) (x4 : Int32) (M : mm_M), q52 x1 x2 x3 x4 M = some z → M.2.2 ≤ z.2.2.2) (hf : f_X11_next_111 q52 x1 x2 x3 x4 M = some z) : M.2.2 ≤ z.2.2.2 := by
  unfold f_X11_next_111 at hf
  obtain ⟨y13, ey13, hf⟩ := sq_e hf
  have hj := hq52 _ _ _ _ _ hf; omega
theorem mo_X11_next_105 {z : (Int32 × mm_M)} {x1 : Int32} {x4 : Int32} {x5 : Int32} {M : mm_M} {q52 : Int32 → Int32 → Int32 → Int32 → mm_M → Option (Int32 × mm_M)} (hq52 : ∀ (x1 : Int32) (x2 : Int32) (x3 : Int32) (x4 : Int32) (M : mm_M), q52 x1 x2 x3 x4 M = some z → M.2.2 ≤ z.2.2.2) (hf : f_X11_next_105 q52 x1 x4 x5 M = some z) : M.2.2 ≤ z.2.2.2 := by
  unfold f_X11_next_105 at hf
  have hj := mo_X11_next_111 hq52 hf; omega
theorem mo_X11_next_117 {z : (Int32 × mm_M)} {x2 : Int32} {x3 : Int32} {M : mm_M} (hf : f_X11_next_117 x2 x3 M = some z) : M.2.2 ≤ z.2.2.2 := by
  unfold f_X11_next_117 at hf
  obtain ⟨z11, ez11, hf⟩ := sq_e hf
  have mz11 : M.2.2 ≤ z11.2.2 := mo_X4_clear ez11.symm
  obtain ⟨z12, ez12, hf⟩ := bd_e hf
  have mz12 : z11.2.2 ≤ z12.2.2 := mo_X4_add ez12
  rw [← Option.some.inj hf]; show M.2.2 ≤ z12.2.2; omega
theorem mo_X11_next_52 {z : (Int32 × mm_M)} {x1 : Int32} {x2 : Int32} {x3 : Int32} {x4 : Int32} {M : mm_M} {q52 : Int32 → Int32 → Int32 → Int32 → mm_M → Option (Int32 × mm_M)} (hq52 : ∀ (x1 : Int32) (x2 : Int32) (x3 : Int32) (x4 : Int32) (M : mm_M), q52 x1 x2 x3 x4 M = some z → M.2.2 ≤ z.2.2.2) (hf : f_X11_next_52 q52 x1 x2 x3 x4 M = some z) : M.2.2 ≤ z.2.2.2 := by
  unfold f_X11_next_52 at hf
  by_cases c5 : (M.1 19 3) ≤ x4
  · rw [if_pos c5] at hf
    have hj := mo_X11_next_117 hf; omega
  · rw [if_neg c5] at hf
    by_cases c6 : (((M.1 19 4) >>> (x4 &&& 31)) &&& 1) = 0
    · rw [if_pos c6] at hf
      obtain ⟨z7, ez7, hf⟩ := bd_e hf
      by_cases c8 : x2 = (-1)
      · rw [if_pos c8] at hf
        have hj := mo_X11_next_105 hq52 hf; omega
      · rw [if_neg c8] at hf
        obtain ⟨z9, ez9, hf⟩ := sq_e hf
        by_cases c10 : z9 = 0
        · rw [if_pos c10] at hf
          have hj := mo_X11_next_111 hq52 hf; omega
        · rw [if_neg c10] at hf
          have hj := mo_X11_next_105 hq52 hf; omega
    · rw [if_neg c6] at hf
      have hj := mo_X11_next_111 hq52 hf; omega
theorem mo_X11_next_52l {z : (Int32 × mm_M)} : ∀ (n : Nat) (x1 : Int32) (x2 : Int32) (x3 : Int32) (x4 : Int32) (M : mm_M), f_X11_next_52l n x1 x2 x3 x4 M = some z → M.2.2 ≤ z.2.2.2 := by
  intro n
  induction n with
  | zero => intro x1 x2 x3 x4 M hf; exact absurd hf (by simp [f_X11_next_52l])
  | succ n ih => intro x1 x2 x3 x4 M hf; exact mo_X11_next_52 ih hf
theorem mo_X11_next_30 {z : (Int32 × mm_M)} {M : mm_M} (hf : f_X11_next_30 M = some z) : M.2.2 ≤ z.2.2.2 := by
  unfold f_X11_next_30 at hf
  obtain ⟨z3, ez3, hf⟩ := bd_e hf
  by_cases c4 : z3 = 0
  · rw [if_pos c4] at hf
    rw [← Option.some.inj hf]; show M.2.2 ≤ M.2.2; exact Nat.le_refl _
  · rw [if_neg c4] at hf
    have hj := mo_X11_next_52l fu_ _ _ _ _ _ hf; omega
theorem mo_X11_next {z : (Int32 × mm_M)} {M : mm_M} (hf : f_X11_next M = some z) : M.2.2 ≤ z.2.2.2 := by
  unfold f_X11_next at hf
  by_cases c1 : (M.1 19 4) = (((1 : Int32) <<< ((M.1 19 3) &&& 31)) - 1)
  · rw [if_pos c1] at hf
    rw [← Option.some.inj hf]; show M.2.2 ≤ M.2.2; exact Nat.le_refl _
  · rw [if_neg c1] at hf
    obtain ⟨z2, ez2, hf⟩ := bd_e hf
    have mz2 : M.2.2 ≤ z2.2.2 := mo_X6_lookAnew ez2
    have hj := mo_X11_next_30 hf; omega
def f_X6_rhymesOf_45 (q4 : Int32 → Int32 → Int32 → Option Int32) (x1 : Int32) (x3 : Int32) (t0 : Int32) (t1 : Int32) (M : mm_M) : Option Int32 :=
  sq_ ((t0 ||| t1) : Int32) fun y6 =>
  sq_ (x3 + 1 : Int32) fun y7 =>
  q4 x1 y6 y7
def f_X6_rhymesOf_44 (q4 : Int32 → Int32 → Int32 → Option Int32) (x1 : Int32) (x3 : Int32) (t0 : Int32) (M : mm_M) : Option Int32 :=
  f_X6_rhymesOf_45 q4 x1 x3 t0 (0 : Int32) M
def f_X6_rhymesOf_4 (q4 : Int32 → Int32 → Int32 → Option Int32) (x1 : Int32) (x2 : Int32) (x3 : Int32) (M : mm_M) : Option Int32 :=
  if (M.1 19 3) ≤ x3 then (
    some x2
  ) else (
    if ix_ok x3 16 then (
    if (M.1 (22 + x3.toNatClampNeg) 0) = 0 then (
      if ix_ok x3 16 then (
      if (M.1 (22 + x3.toNatClampNeg) 6) = x1 then (
        f_X6_rhymesOf_45 q4 x1 x3 x2 ((1 : Int32) <<< (x3 &&& 31)) M
      ) else (
        f_X6_rhymesOf_44 q4 x1 x3 x2 M
      )
      ) else none
    ) else (
      f_X6_rhymesOf_44 q4 x1 x3 x2 M
    )
    ) else none
  )
def f_X6_rhymesOf_4l (M : mm_M) : Nat → Int32 → Int32 → Int32 → Option Int32
  | 0, _, _, _ => none
  | n + 1, x1, x2, x3 => f_X6_rhymesOf_4 (f_X6_rhymesOf_4l M n) x1 x2 x3 M
def f_X6_rhymesOf (x1 : Int32) (M : mm_M) : Option Int32 :=
  f_X6_rhymesOf_4l M fu_ x1 (0 : Int32) (0 : Int32)
def f_X11_eye_192 (q50 : Int32 → Int32 → Int32 → Int32 → Int32 → Int32 → Int32 → mm_M → Option (Int32 × mm_M)) (x2 : Int32) (x3 : Int32) (x4 : Int32) (x5 : Int32) (x6 : Int32) (x7 : Int32) (x8 : Int32) (M : mm_M) : Option (Int32 × mm_M) :=
  sq_ (x8 + 1 : Int32) fun y16 =>
  q50 x2 x3 x4 x5 x6 x7 y16 M
def f_X11_eye_189 (q50 : Int32 → Int32 → Int32 → Int32 → Int32 → Int32 → Int32 → mm_M → Option (Int32 × mm_M)) (x2 : Int32) (x3 : Int32) (x4 : Int32) (x6 : Int32) (x7 : Int32) (x8 : Int32) (t0 : Int32) (t1 : Int32) (M : mm_M) : Option (Int32 × mm_M) :=
  sq_ ((t0 + t1) : Int32) fun y29 =>
  f_X11_eye_192 q50 x2 x3 x4 y29 x6 x7 x8 M
def f_X11_eye_188 (q50 : Int32 → Int32 → Int32 → Int32 → Int32 → Int32 → Int32 → mm_M → Option (Int32 × mm_M)) (x2 : Int32) (x3 : Int32) (x4 : Int32) (x6 : Int32) (x7 : Int32) (x8 : Int32) (t0 : Int32) (M : mm_M) : Option (Int32 × mm_M) :=
  f_X11_eye_189 q50 x2 x3 x4 x6 x7 x8 t0 (0 : Int32) M
def f_X11_eye_169 (q50 : Int32 → Int32 → Int32 → Int32 → Int32 → Int32 → Int32 → mm_M → Option (Int32 × mm_M)) (x2 : Int32) (x3 : Int32) (x5 : Int32) (x6 : Int32) (x7 : Int32) (x8 : Int32) (x9 : Int32) (x10 : Int32) (t0 : Int32) (t1 : Int32) (M : mm_M) : Option (Int32 × mm_M) :=
  sq_ ((t0 + t1) : Int32) fun y26 =>
  if x9 = 0 then (
    if x10 = 0 then (
      f_X11_eye_188 q50 x2 x3 y26 x6 x7 x8 x5 M
    ) else (
      f_X11_eye_189 q50 x2 x3 y26 x6 x7 x8 x5 (1 : Int32) M
    )
  ) else (
    f_X11_eye_188 q50 x2 x3 y26 x6 x7 x8 x5 M
  )
def f_X11_eye_168 (q50 : Int32 → Int32 → Int32 → Int32 → Int32 → Int32 → Int32 → mm_M → Option (Int32 × mm_M)) (x2 : Int32) (x3 : Int32) (x5 : Int32) (x6 : Int32) (x7 : Int32) (x8 : Int32) (x9 : Int32) (x10 : Int32) (t0 : Int32) (M : mm_M) : Option (Int32 × mm_M) :=
  f_X11_eye_169 q50 x2 x3 x5 x6 x7 x8 x9 x10 t0 (0 : Int32) M
def f_X11_eye_150 (q50 : Int32 → Int32 → Int32 → Int32 → Int32 → Int32 → Int32 → mm_M → Option (Int32 × mm_M)) (x2 : Int32) (x4 : Int32) (x5 : Int32) (x6 : Int32) (x7 : Int32) (x8 : Int32) (x9 : Int32) (x10 : Int32) (t0 : Int32) (t1 : Int32) (M : mm_M) : Option (Int32 × mm_M) :=
  sq_ ((t0 + t1) : Int32) fun y23 =>
  if x9 = 0 then (
    f_X11_eye_168 q50 x2 y23 x5 x6 x7 x8 x9 x10 x4 M
  ) else (
    if x10 = 0 then (
      f_X11_eye_169 q50 x2 y23 x5 x6 x7 x8 x9 x10 x4 (1 : Int32) M
    ) else (
      f_X11_eye_168 q50 x2 y23 x5 x6 x7 x8 x9 x10 x4 M
    )
  )
def f_X11_eye_149 (q50 : Int32 → Int32 → Int32 → Int32 → Int32 → Int32 → Int32 → mm_M → Option (Int32 × mm_M)) (x2 : Int32) (x4 : Int32) (x5 : Int32) (x6 : Int32) (x7 : Int32) (x8 : Int32) (x9 : Int32) (x10 : Int32) (t0 : Int32) (M : mm_M) : Option (Int32 × mm_M) :=
  f_X11_eye_150 q50 x2 x4 x5 x6 x7 x8 x9 x10 t0 (0 : Int32) M
def f_X11_eye_93 (q50 : Int32 → Int32 → Int32 → Int32 → Int32 → Int32 → Int32 → mm_M → Option (Int32 × mm_M)) (x2 : Int32) (x3 : Int32) (x4 : Int32) (x5 : Int32) (x6 : Int32) (x7 : Int32) (x8 : Int32) (t0 : Int32) (M : mm_M) : Option (Int32 × mm_M) :=
  if ix_ok x8 16 then (
  if ix_ok x8 16 then (
  (f_X9_rhymeOn (0 : Int32) (M.1 (22 + x8.toNatClampNeg) 1) (M.1 (22 + x8.toNatClampNeg) 2) M).bind fun z19 =>
  sq_ (x6 + 1 : Int32) fun y20 =>
  if t0 = 0 then (
    f_X11_eye_149 q50 x2 x4 x5 y20 x7 x8 t0 z19 x3 M
  ) else (
    if z19 = 0 then (
      f_X11_eye_149 q50 x2 x4 x5 y20 x7 x8 t0 z19 x3 M
    ) else (
      f_X11_eye_150 q50 x2 x4 x5 y20 x7 x8 t0 z19 x3 (1 : Int32) M
    )
  )
  ) else none ) else none
def f_X11_eye_198 (x3 : Int32) (x4 : Int32) (x5 : Int32) (x6 : Int32) (M : mm_M) : Option (Int32 × mm_M) :=
  sq_ (f_X4_clear M) fun z11 =>
  (f_X4_add (x3.toInt64) z11).bind fun z12 =>
  (f_X4_add (x4.toInt64) z12).bind fun z13 =>
  (f_X4_add (x5.toInt64) z13).bind fun z14 =>
  (f_X4_add ((((x6 - x3) - x4) - x5).toInt64) z14).bind fun z15 =>
  some (x6, z15)
def f_X11_eye_50 (q50 : Int32 → Int32 → Int32 → Int32 → Int32 → Int32 → Int32 → mm_M → Option (Int32 × mm_M)) (x2 : Int32) (x3 : Int32) (x4 : Int32) (x5 : Int32) (x6 : Int32) (x7 : Int32) (x8 : Int32) (M : mm_M) : Option (Int32 × mm_M) :=
  if (M.1 19 3) ≤ x8 then (
    f_X11_eye_198 x3 x4 x5 x6 M
  ) else (
    if ((x7 >>> (x8 &&& 31)) &&& 1) = 0 then (
      f_X11_eye_192 q50 x2 x3 x4 x5 x6 x7 x8 M
    ) else (
      (f_X6_heldBy x2 M).bind fun z9 =>
      if ((z9 >>> (x8 &&& 31)) &&& 1) = 0 then (
        f_X11_eye_93 q50 x2 x3 x4 x5 x6 x7 x8 (0 : Int32) M
      ) else (
        f_X11_eye_93 q50 x2 x3 x4 x5 x6 x7 x8 (1 : Int32) M
      )
    )
  )
def f_X11_eye_50l : Nat → Int32 → Int32 → Int32 → Int32 → Int32 → Int32 → Int32 → mm_M → Option (Int32 × mm_M)
  | 0, _, _, _, _, _, _, _, _ => none
  | n + 1, x2, x3, x4, x5, x6, x7, x8, M => f_X11_eye_50 (f_X11_eye_50l n) x2 x3 x4 x5 x6 x7 x8 M
def f_X11_eye_26 (x1 : Int32) (x2 : Int32) (M : mm_M) : Option (Int32 × mm_M) :=
  (f_X6_rhymesOf x1 M).bind fun z6 =>
  f_X11_eye_50l fu_ x2 (0 : Int32) (0 : Int32) (0 : Int32) (0 : Int32) z6 (0 : Int32) M
def f_X11_eye (x1 : Int32) (x2 : Int32) (M : mm_M) : Option (Int32 × mm_M) :=
  sq_ (f_X11_isBelow x1 (6 : Int32)) fun z1 =>
  if z1 = 0 then (
    some (((-1) : Int32), M)
  ) else (
    sq_ (f_X11_isHistory x2 M) fun z3 =>
    if z3 = 0 then (
      some (((-1) : Int32), M)
    ) else (
      (f_X6_lookAnew M).bind fun z5 =>
      f_X11_eye_26 x1 x2 z5
    )
  )
theorem mo_X11_eye_192 {z : (Int32 × mm_M)} {x2 : Int32} {x3 : Int32} {x4 : Int32} {x5 : Int32} {x6 : Int32} {x7 : Int32} {x8 : Int32} {M : mm_M} {q50 : Int32 → Int32 → Int32 → Int32 → Int32 → Int32 → Int32 → mm_M → Option (Int32 × mm_M)} (hq50 : ∀ (x2 : Int32) (x3 : Int32) (x4 : Int32) (x5 : Int32) (x6 : Int32) (x7 : Int32) (x8 : Int32) (M : mm_M), q50 x2 x3 x4 x5 x6 x7 x8 M = some z → M.2.2 ≤ z.2.2.2) (hf : f_X11_eye_192 q50 x2 x3 x4 x5 x6 x7 x8 M = some z) : M.2.2 ≤ z.2.2.2 := by
  unfold f_X11_eye_192 at hf
  obtain ⟨y16, ey16, hf⟩ := sq_e hf
  have hj := hq50 _ _ _ _ _ _ _ _ hf; omega
theorem mo_X11_eye_189 {z : (Int32 × mm_M)} {x2 : Int32} {x3 : Int32} {x4 : Int32} {x6 : Int32} {x7 : Int32} {x8 : Int32} {t0 : Int32} {t1 : Int32} {M : mm_M} {q50 : Int32 → Int32 → Int32 → Int32 → Int32 → Int32 → Int32 → mm_M → Option (Int32 × mm_M)} (hq50 : ∀ (x2 : Int32) (x3 : Int32) (x4 : Int32) (x5 : Int32) (x6 : Int32) (x7 : Int32) (x8 : Int32) (M : mm_M), q50 x2 x3 x4 x5 x6 x7 x8 M = some z → M.2.2 ≤ z.2.2.2) (hf : f_X11_eye_189 q50 x2 x3 x4 x6 x7 x8 t0 t1 M = some z) : M.2.2 ≤ z.2.2.2 := by
  unfold f_X11_eye_189 at hf
  obtain ⟨y29, ey29, hf⟩ := sq_e hf
  have hj := mo_X11_eye_192 hq50 hf; omega
theorem mo_X11_eye_188 {z : (Int32 × mm_M)} {x2 : Int32} {x3 : Int32} {x4 : Int32} {x6 : Int32} {x7 : Int32} {x8 : Int32} {t0 : Int32} {M : mm_M} {q50 : Int32 → Int32 → Int32 → Int32 → Int32 → Int32 → Int32 → mm_M → Option (Int32 × mm_M)} (hq50 : ∀ (x2 : Int32) (x3 : Int32) (x4 : Int32) (x5 : Int32) (x6 : Int32) (x7 : Int32) (x8 : Int32) (M : mm_M), q50 x2 x3 x4 x5 x6 x7 x8 M = some z → M.2.2 ≤ z.2.2.2) (hf : f_X11_eye_188 q50 x2 x3 x4 x6 x7 x8 t0 M = some z) : M.2.2 ≤ z.2.2.2 := by
  unfold f_X11_eye_188 at hf
  have hj := mo_X11_eye_189 hq50 hf; omega
theorem mo_X11_eye_169 {z : (Int32 × mm_M)} {x2 : Int32} {x3 : Int32} {x5 : Int32} {x6 : Int32} {x7 : Int32} {x8 : Int32} {x9 : Int32} {x10 : Int32} {t0 : Int32} {t1 : Int32} {M : mm_M} {q50 : Int32 → Int32 → Int32 → Int32 → Int32 → Int32 → Int32 → mm_M → Option (Int32 × mm_M)} (hq50 : ∀ (x2 : Int32) (x3 : Int32) (x4 : Int32) (x5 : Int32) (x6 : Int32) (x7 : Int32) (x8 : Int32) (M : mm_M), q50 x2 x3 x4 x5 x6 x7 x8 M = some z → M.2.2 ≤ z.2.2.2) (hf : f_X11_eye_169 q50 x2 x3 x5 x6 x7 x8 x9 x10 t0 t1 M = some z) : M.2.2 ≤ z.2.2.2 := by
  unfold f_X11_eye_169 at hf
  obtain ⟨y26, ey26, hf⟩ := sq_e hf
  by_cases c27 : x9 = 0
  · rw [if_pos c27] at hf
    by_cases c28 : x10 = 0
    · rw [if_pos c28] at hf
      have hj := mo_X11_eye_188 hq50 hf; omega
    · rw [if_neg c28] at hf
      have hj := mo_X11_eye_189 hq50 hf; omega
  · rw [if_neg c27] at hf
    have hj := mo_X11_eye_188 hq50 hf; omega
theorem mo_X11_eye_168 {z : (Int32 × mm_M)} {x2 : Int32} {x3 : Int32} {x5 : Int32} {x6 : Int32} {x7 : Int32} {x8 : Int32} {x9 : Int32} {x10 : Int32} {t0 : Int32} {M : mm_M} {q50 : Int32 → Int32 → Int32 → Int32 → Int32 → Int32 → Int32 → mm_M → Option (Int32 × mm_M)} (hq50 : ∀ (x2 : Int32) (x3 : Int32) (x4 : Int32) (x5 : Int32) (x6 : Int32) (x7 : Int32) (x8 : Int32) (M : mm_M), q50 x2 x3 x4 x5 x6 x7 x8 M = some z → M.2.2 ≤ z.2.2.2) (hf : f_X11_eye_168 q50 x2 x3 x5 x6 x7 x8 x9 x10 t0 M = some z) : M.2.2 ≤ z.2.2.2 := by
  unfold f_X11_eye_168 at hf
  have hj := mo_X11_eye_169 hq50 hf; omega
theorem mo_X11_eye_150 {z : (Int32 × mm_M)} {x2 : Int32} {x4 : Int32} {x5 : Int32} {x6 : Int32} {x7 : Int32} {x8 : Int32} {x9 : Int32} {x10 : Int32} {t0 : Int32} {t1 : Int32} {M : mm_M} {q50 : Int32 → Int32 → Int32 → Int32 → Int32 → Int32 → Int32 → mm_M → Option (Int32 × mm_M)} (hq50 : ∀ (x2 : Int32) (x3 : Int32) (x4 : Int32) (x5 : Int32) (x6 : Int32) (x7 : Int32) (x8 : Int32) (M : mm_M), q50 x2 x3 x4 x5 x6 x7 x8 M = some z → M.2.2 ≤ z.2.2.2) (hf : f_X11_eye_150 q50 x2 x4 x5 x6 x7 x8 x9 x10 t0 t1 M = some z) : M.2.2 ≤ z.2.2.2 := by
  unfold f_X11_eye_150 at hf
  obtain ⟨y23, ey23, hf⟩ := sq_e hf
  by_cases c24 : x9 = 0
  · rw [if_pos c24] at hf
    have hj := mo_X11_eye_168 hq50 hf; omega
  · rw [if_neg c24] at hf
    by_cases c25 : x10 = 0
    · rw [if_pos c25] at hf
      have hj := mo_X11_eye_169 hq50 hf; omega
    · rw [if_neg c25] at hf
      have hj := mo_X11_eye_168 hq50 hf; omega
theorem mo_X11_eye_149 {z : (Int32 × mm_M)} {x2 : Int32} {x4 : Int32} {x5 : Int32} {x6 : Int32} {x7 : Int32} {x8 : Int32} {x9 : Int32} {x10 : Int32} {t0 : Int32} {M : mm_M} {q50 : Int32 → Int32 → Int32 → Int32 → Int32 → Int32 → Int32 → mm_M → Option (Int32 × mm_M)} (hq50 : ∀ (x2 : Int32) (x3 : Int32) (x4 : Int32) (x5 : Int32) (x6 : Int32) (x7 : Int32) (x8 : Int32) (M : mm_M), q50 x2 x3 x4 x5 x6 x7 x8 M = some z → M.2.2 ≤ z.2.2.2) (hf : f_X11_eye_149 q50 x2 x4 x5 x6 x7 x8 x9 x10 t0 M = some z) : M.2.2 ≤ z.2.2.2 := by
  unfold f_X11_eye_149 at hf
  have hj := mo_X11_eye_150 hq50 hf; omega
theorem mo_X11_eye_93 {z : (Int32 × mm_M)} {x2 : Int32} {x3 : Int32} {x4 : Int32} {x5 : Int32} {x6 : Int32} {x7 : Int32} {x8 : Int32} {t0 : Int32} {M : mm_M} {q50 : Int32 → Int32 → Int32 → Int32 → Int32 → Int32 → Int32 → mm_M → Option (Int32 × mm_M)} (hq50 : ∀ (x2 : Int32) (x3 : Int32) (x4 : Int32) (x5 : Int32) (x6 : Int32) (x7 : Int32) (x8 : Int32) (M : mm_M), q50 x2 x3 x4 x5 x6 x7 x8 M = some z → M.2.2 ≤ z.2.2.2) (hf : f_X11_eye_93 q50 x2 x3 x4 x5 x6 x7 x8 t0 M = some z) : M.2.2 ≤ z.2.2.2 := by
  unfold f_X11_eye_93 at hf
  obtain ⟨h17, hf⟩ := ck_e hf
  obtain ⟨h18, hf⟩ := ck_e hf
  obtain ⟨z19, ez19, hf⟩ := bd_e hf
  obtain ⟨y20, ey20, hf⟩ := sq_e hf
  by_cases c21 : t0 = 0
  · rw [if_pos c21] at hf
    have hj := mo_X11_eye_149 hq50 hf; omega
  · rw [if_neg c21] at hf
    by_cases c22 : z19 = 0
    · rw [if_pos c22] at hf
      have hj := mo_X11_eye_149 hq50 hf; omega
    · rw [if_neg c22] at hf
      have hj := mo_X11_eye_150 hq50 hf; omega
theorem mo_X11_eye_198 {z : (Int32 × mm_M)} {x3 : Int32} {x4 : Int32} {x5 : Int32} {x6 : Int32} {M : mm_M} (hf : f_X11_eye_198 x3 x4 x5 x6 M = some z) : M.2.2 ≤ z.2.2.2 := by
  unfold f_X11_eye_198 at hf
  obtain ⟨z11, ez11, hf⟩ := sq_e hf
  have mz11 : M.2.2 ≤ z11.2.2 := mo_X4_clear ez11.symm
  obtain ⟨z12, ez12, hf⟩ := bd_e hf
  have mz12 : z11.2.2 ≤ z12.2.2 := mo_X4_add ez12
  obtain ⟨z13, ez13, hf⟩ := bd_e hf
  have mz13 : z12.2.2 ≤ z13.2.2 := mo_X4_add ez13
  obtain ⟨z14, ez14, hf⟩ := bd_e hf
  have mz14 : z13.2.2 ≤ z14.2.2 := mo_X4_add ez14
  obtain ⟨z15, ez15, hf⟩ := bd_e hf
  have mz15 : z14.2.2 ≤ z15.2.2 := mo_X4_add ez15
  rw [← Option.some.inj hf]; show M.2.2 ≤ z15.2.2; omega
theorem mo_X11_eye_50 {z : (Int32 × mm_M)} {x2 : Int32} {x3 : Int32} {x4 : Int32} {x5 : Int32} {x6 : Int32} {x7 : Int32} {x8 : Int32} {M : mm_M} {q50 : Int32 → Int32 → Int32 → Int32 → Int32 → Int32 → Int32 → mm_M → Option (Int32 × mm_M)} (hq50 : ∀ (x2 : Int32) (x3 : Int32) (x4 : Int32) (x5 : Int32) (x6 : Int32) (x7 : Int32) (x8 : Int32) (M : mm_M), q50 x2 x3 x4 x5 x6 x7 x8 M = some z → M.2.2 ≤ z.2.2.2) (hf : f_X11_eye_50 q50 x2 x3 x4 x5 x6 x7 x8 M = some z) : M.2.2 ≤ z.2.2.2 := by
  unfold f_X11_eye_50 at hf
  by_cases c7 : (M.1 19 3) ≤ x8
  · rw [if_pos c7] at hf
    have hj := mo_X11_eye_198 hf; omega
  · rw [if_neg c7] at hf
    by_cases c8 : ((x7 >>> (x8 &&& 31)) &&& 1) = 0
    · rw [if_pos c8] at hf
      have hj := mo_X11_eye_192 hq50 hf; omega
    · rw [if_neg c8] at hf
      obtain ⟨z9, ez9, hf⟩ := bd_e hf
      by_cases c10 : ((z9 >>> (x8 &&& 31)) &&& 1) = 0
      · rw [if_pos c10] at hf
        have hj := mo_X11_eye_93 hq50 hf; omega
      · rw [if_neg c10] at hf
        have hj := mo_X11_eye_93 hq50 hf; omega
theorem mo_X11_eye_50l {z : (Int32 × mm_M)} : ∀ (n : Nat) (x2 : Int32) (x3 : Int32) (x4 : Int32) (x5 : Int32) (x6 : Int32) (x7 : Int32) (x8 : Int32) (M : mm_M), f_X11_eye_50l n x2 x3 x4 x5 x6 x7 x8 M = some z → M.2.2 ≤ z.2.2.2 := by
  intro n
  induction n with
  | zero => intro x2 x3 x4 x5 x6 x7 x8 M hf; exact absurd hf (by simp [f_X11_eye_50l])
  | succ n ih => intro x2 x3 x4 x5 x6 x7 x8 M hf; exact mo_X11_eye_50 ih hf
theorem mo_X11_eye_26 {z : (Int32 × mm_M)} {x1 : Int32} {x2 : Int32} {M : mm_M} (hf : f_X11_eye_26 x1 x2 M = some z) : M.2.2 ≤ z.2.2.2 := by
  unfold f_X11_eye_26 at hf
  obtain ⟨z6, ez6, hf⟩ := bd_e hf
  have hj := mo_X11_eye_50l fu_ _ _ _ _ _ _ _ _ hf; omega
theorem mo_X11_eye {z : (Int32 × mm_M)} {x1 : Int32} {x2 : Int32} {M : mm_M} (hf : f_X11_eye x1 x2 M = some z) : M.2.2 ≤ z.2.2.2 := by
  unfold f_X11_eye at hf
  obtain ⟨z1, ez1, hf⟩ := sq_e hf
  by_cases c2 : z1 = 0
  · rw [if_pos c2] at hf
    rw [← Option.some.inj hf]; show M.2.2 ≤ M.2.2; exact Nat.le_refl _
  · rw [if_neg c2] at hf
    obtain ⟨z3, ez3, hf⟩ := sq_e hf
    by_cases c4 : z3 = 0
    · rw [if_pos c4] at hf
      rw [← Option.some.inj hf]; show M.2.2 ≤ M.2.2; exact Nat.le_refl _
    · rw [if_neg c4] at hf
      obtain ⟨z5, ez5, hf⟩ := bd_e hf
      have mz5 : M.2.2 ≤ z5.2.2 := mo_X6_lookAnew ez5
      have hj := mo_X11_eye_26 hf; omega
def f_X11_lean_92 (q42 : Int32 → Int32 → Int32 → Int32 → mm_M → Option (Int32 × mm_M)) (x2 : Int32) (x3 : Int32) (x4 : Int32) (x5 : Int32) (M : mm_M) : Option (Int32 × mm_M) :=
  sq_ (x5 + 1 : Int32) fun y13 =>
  q42 x2 x3 x4 y13 M
def f_X11_lean_42 (q42 : Int32 → Int32 → Int32 → Int32 → mm_M → Option (Int32 × mm_M)) (x2 : Int32) (x3 : Int32) (x4 : Int32) (x5 : Int32) (M : mm_M) : Option (Int32 × mm_M) :=
  if (M.1 14 2) ≤ x5 then (
    some (x4, M)
  ) else (
    (f_X6_failingBy x5 M).bind fun z8 =>
    if (z8 &&& (x3 ^^^ (-1))) = 0 then (
      (f_X6_heldBy x5 M).bind fun z10 =>
      sq_ (f_J6_bitCount_0f7a4 (z10 &&& x3)) fun z11 =>
      sq_ (f_X11_further x4 z11 x2) fun z12 =>
      f_X11_lean_92 q42 x2 x3 z12 x5 M
    ) else (
      f_X11_lean_92 q42 x2 x3 x4 x5 M
    )
  )
def f_X11_lean_42l : Nat → Int32 → Int32 → Int32 → Int32 → mm_M → Option (Int32 × mm_M)
  | 0, _, _, _, _, _ => none
  | n + 1, x2, x3, x4, x5, M => f_X11_lean_42 (f_X11_lean_42l n) x2 x3 x4 x5 M
def f_X11_lean_26 (x1 : Int32) (x2 : Int32) (M : mm_M) : Option (Int32 × mm_M) :=
  (f_X6_rhymesOf x1 M).bind fun z6 =>
  f_X11_lean_42l fu_ x2 z6 ((-2) : Int32) (0 : Int32) M
def f_X11_lean (x1 : Int32) (x2 : Int32) (M : mm_M) : Option (Int32 × mm_M) :=
  sq_ (f_X11_isBelow x1 (6 : Int32)) fun z1 =>
  if z1 = 0 then (
    some (((-1) : Int32), M)
  ) else (
    sq_ (f_X11_isBelow x2 (2 : Int32)) fun z3 =>
    if z3 = 0 then (
      some (((-1) : Int32), M)
    ) else (
      (f_X6_lookAnew M).bind fun z5 =>
      f_X11_lean_26 x1 x2 z5
    )
  )
theorem mo_X11_lean_92 {z : (Int32 × mm_M)} {x2 : Int32} {x3 : Int32} {x4 : Int32} {x5 : Int32} {M : mm_M} {q42 : Int32 → Int32 → Int32 → Int32 → mm_M → Option (Int32 × mm_M)} (hq42 : ∀ (x2 : Int32) (x3 : Int32) (x4 : Int32) (x5 : Int32) (M : mm_M), q42 x2 x3 x4 x5 M = some z → M.2.2 ≤ z.2.2.2) (hf : f_X11_lean_92 q42 x2 x3 x4 x5 M = some z) : M.2.2 ≤ z.2.2.2 := by
  unfold f_X11_lean_92 at hf
  obtain ⟨y13, ey13, hf⟩ := sq_e hf
  have hj := hq42 _ _ _ _ _ hf; omega
theorem mo_X11_lean_42 {z : (Int32 × mm_M)} {x2 : Int32} {x3 : Int32} {x4 : Int32} {x5 : Int32} {M : mm_M} {q42 : Int32 → Int32 → Int32 → Int32 → mm_M → Option (Int32 × mm_M)} (hq42 : ∀ (x2 : Int32) (x3 : Int32) (x4 : Int32) (x5 : Int32) (M : mm_M), q42 x2 x3 x4 x5 M = some z → M.2.2 ≤ z.2.2.2) (hf : f_X11_lean_42 q42 x2 x3 x4 x5 M = some z) : M.2.2 ≤ z.2.2.2 := by
  unfold f_X11_lean_42 at hf
  by_cases c7 : (M.1 14 2) ≤ x5
  · rw [if_pos c7] at hf
    rw [← Option.some.inj hf]; show M.2.2 ≤ M.2.2; exact Nat.le_refl _
  · rw [if_neg c7] at hf
    obtain ⟨z8, ez8, hf⟩ := bd_e hf
    by_cases c9 : (z8 &&& (x3 ^^^ (-1))) = 0
    · rw [if_pos c9] at hf
      obtain ⟨z10, ez10, hf⟩ := bd_e hf
      obtain ⟨z11, ez11, hf⟩ := sq_e hf
      obtain ⟨z12, ez12, hf⟩ := sq_e hf
      have hj := mo_X11_lean_92 hq42 hf; omega
    · rw [if_neg c9] at hf
      have hj := mo_X11_lean_92 hq42 hf; omega
theorem mo_X11_lean_42l {z : (Int32 × mm_M)} : ∀ (n : Nat) (x2 : Int32) (x3 : Int32) (x4 : Int32) (x5 : Int32) (M : mm_M), f_X11_lean_42l n x2 x3 x4 x5 M = some z → M.2.2 ≤ z.2.2.2 := by
  intro n
  induction n with
  | zero => intro x2 x3 x4 x5 M hf; exact absurd hf (by simp [f_X11_lean_42l])
  | succ n ih => intro x2 x3 x4 x5 M hf; exact mo_X11_lean_42 ih hf
theorem mo_X11_lean_26 {z : (Int32 × mm_M)} {x1 : Int32} {x2 : Int32} {M : mm_M} (hf : f_X11_lean_26 x1 x2 M = some z) : M.2.2 ≤ z.2.2.2 := by
  unfold f_X11_lean_26 at hf
  obtain ⟨z6, ez6, hf⟩ := bd_e hf
  have hj := mo_X11_lean_42l fu_ _ _ _ _ _ hf; omega
theorem mo_X11_lean {z : (Int32 × mm_M)} {x1 : Int32} {x2 : Int32} {M : mm_M} (hf : f_X11_lean x1 x2 M = some z) : M.2.2 ≤ z.2.2.2 := by
  unfold f_X11_lean at hf
  obtain ⟨z1, ez1, hf⟩ := sq_e hf
  by_cases c2 : z1 = 0
  · rw [if_pos c2] at hf
    rw [← Option.some.inj hf]; show M.2.2 ≤ M.2.2; exact Nat.le_refl _
  · rw [if_neg c2] at hf
    obtain ⟨z3, ez3, hf⟩ := sq_e hf
    by_cases c4 : z3 = 0
    · rw [if_pos c4] at hf
      rw [← Option.some.inj hf]; show M.2.2 ≤ M.2.2; exact Nat.le_refl _
    · rw [if_neg c4] at hf
      obtain ⟨z5, ez5, hf⟩ := bd_e hf
      have mz5 : M.2.2 ≤ z5.2.2 := mo_X6_lookAnew ez5
      have hj := mo_X11_lean_26 hf; omega
def f_X6_allAreSoWithLag_66 (q3 : Int32 → Int32 → Int32 → Int32 → mm_M → Option (Int32 × mm_M)) (x1 : Int32) (x2 : Int32) (x3 : Int32) (x4 : Int32) (M : mm_M) : Option (Int32 × mm_M) :=
  sq_ (x4 + 1 : Int32) fun y7 =>
  q3 x1 x2 x3 y7 M
def f_X6_allAreSoWithLag_54 (q3 : Int32 → Int32 → Int32 → Int32 → mm_M → Option (Int32 × mm_M)) (x1 : Int32) (x2 : Int32) (x3 : Int32) (x4 : Int32) (ks0 : Nat) (t1 : Int32) (M : mm_M) : Option (Int32 × mm_M) :=
  (f_X5_isSoOn ks0 t1 M).bind fun z8 =>
  if z8 = 0 then (
    some ((0 : Int32), M)
  ) else (
    f_X6_allAreSoWithLag_66 q3 x1 x2 x3 x4 M
  )
def f_X6_allAreSoWithLag_3 (q3 : Int32 → Int32 → Int32 → Int32 → mm_M → Option (Int32 × mm_M)) (x1 : Int32) (x2 : Int32) (x3 : Int32) (x4 : Int32) (M : mm_M) : Option (Int32 × mm_M) :=
  if (M.1 19 3) ≤ x4 then (
    some ((1 : Int32), M)
  ) else (
    if ((x1 >>> (x4 &&& 31)) &&& 1) = 0 then (
      f_X6_allAreSoWithLag_66 q3 x1 x2 x3 x4 M
    ) else (
      if ix_ok x4 16 then (
      sq_ (((M.1 (22 + x4.toNatClampNeg) 4) - x3) : Int32) fun y4 =>
      if ix_ok x4 16 then (
      (f_X3_courseAmong x2 y4 (63 : Int32) M).bind fun z6 =>
      f_X6_allAreSoWithLag_54 q3 x1 x2 x3 x4 (22 + x4.toNatClampNeg) z6.1 z6.2
      ) else none ) else none
    )
  )
def f_X6_allAreSoWithLag_3l : Nat → Int32 → Int32 → Int32 → Int32 → mm_M → Option (Int32 × mm_M)
  | 0, _, _, _, _, _ => none
  | n + 1, x1, x2, x3, x4, M => f_X6_allAreSoWithLag_3 (f_X6_allAreSoWithLag_3l n) x1 x2 x3 x4 M
def f_X6_allAreSoWithLag (x1 : Int32) (x2 : Int32) (x3 : Int32) (M : mm_M) : Option (Int32 × mm_M) :=
  f_X6_allAreSoWithLag_3l fu_ x1 x2 x3 (0 : Int32) M
theorem mo_X6_allAreSoWithLag_66 {z : (Int32 × mm_M)} {x1 : Int32} {x2 : Int32} {x3 : Int32} {x4 : Int32} {M : mm_M} {q3 : Int32 → Int32 → Int32 → Int32 → mm_M → Option (Int32 × mm_M)} (hq3 : ∀ (x1 : Int32) (x2 : Int32) (x3 : Int32) (x4 : Int32) (M : mm_M), q3 x1 x2 x3 x4 M = some z → M.2.2 ≤ z.2.2.2) (hf : f_X6_allAreSoWithLag_66 q3 x1 x2 x3 x4 M = some z) : M.2.2 ≤ z.2.2.2 := by
  unfold f_X6_allAreSoWithLag_66 at hf
  obtain ⟨y7, ey7, hf⟩ := sq_e hf
  have hj := hq3 _ _ _ _ _ hf; omega
theorem mo_X6_allAreSoWithLag_54 {z : (Int32 × mm_M)} {x1 : Int32} {x2 : Int32} {x3 : Int32} {x4 : Int32} {ks0 : Nat} {t1 : Int32} {M : mm_M} {q3 : Int32 → Int32 → Int32 → Int32 → mm_M → Option (Int32 × mm_M)} (hq3 : ∀ (x1 : Int32) (x2 : Int32) (x3 : Int32) (x4 : Int32) (M : mm_M), q3 x1 x2 x3 x4 M = some z → M.2.2 ≤ z.2.2.2) (hf : f_X6_allAreSoWithLag_54 q3 x1 x2 x3 x4 ks0 t1 M = some z) : M.2.2 ≤ z.2.2.2 := by
  unfold f_X6_allAreSoWithLag_54 at hf
  obtain ⟨z8, ez8, hf⟩ := bd_e hf
  by_cases c9 : z8 = 0
  · rw [if_pos c9] at hf
    rw [← Option.some.inj hf]; show M.2.2 ≤ M.2.2; exact Nat.le_refl _
  · rw [if_neg c9] at hf
    have hj := mo_X6_allAreSoWithLag_66 hq3 hf; omega
theorem mo_X6_allAreSoWithLag_3 {z : (Int32 × mm_M)} {x1 : Int32} {x2 : Int32} {x3 : Int32} {x4 : Int32} {M : mm_M} {q3 : Int32 → Int32 → Int32 → Int32 → mm_M → Option (Int32 × mm_M)} (hq3 : ∀ (x1 : Int32) (x2 : Int32) (x3 : Int32) (x4 : Int32) (M : mm_M), q3 x1 x2 x3 x4 M = some z → M.2.2 ≤ z.2.2.2) (hf : f_X6_allAreSoWithLag_3 q3 x1 x2 x3 x4 M = some z) : M.2.2 ≤ z.2.2.2 := by
  unfold f_X6_allAreSoWithLag_3 at hf
  by_cases c1 : (M.1 19 3) ≤ x4
  · rw [if_pos c1] at hf
    rw [← Option.some.inj hf]; show M.2.2 ≤ M.2.2; exact Nat.le_refl _
  · rw [if_neg c1] at hf
    by_cases c2 : ((x1 >>> (x4 &&& 31)) &&& 1) = 0
    · rw [if_pos c2] at hf
      have hj := mo_X6_allAreSoWithLag_66 hq3 hf; omega
    · rw [if_neg c2] at hf
      obtain ⟨h3, hf⟩ := ck_e hf
      obtain ⟨y4, ey4, hf⟩ := sq_e hf
      obtain ⟨h5, hf⟩ := ck_e hf
      obtain ⟨z6, ez6, hf⟩ := bd_e hf
      have mz6 : M.2.2 ≤ z6.2.2.2 := mo_X3_courseAmong ez6
      have hj := mo_X6_allAreSoWithLag_54 hq3 hf; omega
theorem mo_X6_allAreSoWithLag_3l {z : (Int32 × mm_M)} : ∀ (n : Nat) (x1 : Int32) (x2 : Int32) (x3 : Int32) (x4 : Int32) (M : mm_M), f_X6_allAreSoWithLag_3l n x1 x2 x3 x4 M = some z → M.2.2 ≤ z.2.2.2 := by
  intro n
  induction n with
  | zero => intro x1 x2 x3 x4 M hf; exact absurd hf (by simp [f_X6_allAreSoWithLag_3l])
  | succ n ih => intro x1 x2 x3 x4 M hf; exact mo_X6_allAreSoWithLag_3 ih hf
theorem mo_X6_allAreSoWithLag {z : (Int32 × mm_M)} {x1 : Int32} {x2 : Int32} {x3 : Int32} {M : mm_M} (hf : f_X6_allAreSoWithLag x1 x2 x3 M = some z) : M.2.2 ≤ z.2.2.2 := by
  unfold f_X6_allAreSoWithLag at hf
  have hj := mo_X6_allAreSoWithLag_3l fu_ _ _ _ _ _ hf; omega
theorem bz_X6_allAreSoWithLag_66 {z : (Int32 × mm_M)} {x1 : Int32} {x2 : Int32} {x3 : Int32} {x4 : Int32} {M : mm_M} {q3 : Int32 → Int32 → Int32 → Int32 → mm_M → Option (Int32 × mm_M)} (hq3 : ∀ (x1 : Int32) (x2 : Int32) (x3 : Int32) (x4 : Int32) (M : mm_M), q3 x1 x2 x3 x4 M = some z → z.1 = 0 ∨ z.1 = 1) (hf : f_X6_allAreSoWithLag_66 q3 x1 x2 x3 x4 M = some z) : z.1 = 0 ∨ z.1 = 1 := by
  unfold f_X6_allAreSoWithLag_66 at hf
  obtain ⟨y7, ey7, hf⟩ := sq_e hf
  exact hq3 _ _ _ _ _ hf
theorem bz_X6_allAreSoWithLag_54 {z : (Int32 × mm_M)} {x1 : Int32} {x2 : Int32} {x3 : Int32} {x4 : Int32} {ks0 : Nat} {t1 : Int32} {M : mm_M} {q3 : Int32 → Int32 → Int32 → Int32 → mm_M → Option (Int32 × mm_M)} (hq3 : ∀ (x1 : Int32) (x2 : Int32) (x3 : Int32) (x4 : Int32) (M : mm_M), q3 x1 x2 x3 x4 M = some z → z.1 = 0 ∨ z.1 = 1) (hf : f_X6_allAreSoWithLag_54 q3 x1 x2 x3 x4 ks0 t1 M = some z) : z.1 = 0 ∨ z.1 = 1 := by
  unfold f_X6_allAreSoWithLag_54 at hf
  obtain ⟨z8, ez8, hf⟩ := bd_e hf
  by_cases c9 : z8 = 0
  · rw [if_pos c9] at hf
    rw [← Option.some.inj hf]; exact (Or.inl rfl)
  · rw [if_neg c9] at hf
    exact bz_X6_allAreSoWithLag_66 hq3 hf
theorem bz_X6_allAreSoWithLag_3 {z : (Int32 × mm_M)} {x1 : Int32} {x2 : Int32} {x3 : Int32} {x4 : Int32} {M : mm_M} {q3 : Int32 → Int32 → Int32 → Int32 → mm_M → Option (Int32 × mm_M)} (hq3 : ∀ (x1 : Int32) (x2 : Int32) (x3 : Int32) (x4 : Int32) (M : mm_M), q3 x1 x2 x3 x4 M = some z → z.1 = 0 ∨ z.1 = 1) (hf : f_X6_allAreSoWithLag_3 q3 x1 x2 x3 x4 M = some z) : z.1 = 0 ∨ z.1 = 1 := by
  unfold f_X6_allAreSoWithLag_3 at hf
  by_cases c1 : (M.1 19 3) ≤ x4
  · rw [if_pos c1] at hf
    rw [← Option.some.inj hf]; exact (Or.inr rfl)
  · rw [if_neg c1] at hf
    by_cases c2 : ((x1 >>> (x4 &&& 31)) &&& 1) = 0
    · rw [if_pos c2] at hf
      exact bz_X6_allAreSoWithLag_66 hq3 hf
    · rw [if_neg c2] at hf
      obtain ⟨h3, hf⟩ := ck_e hf
      obtain ⟨y4, ey4, hf⟩ := sq_e hf
      obtain ⟨h5, hf⟩ := ck_e hf
      obtain ⟨z6, ez6, hf⟩ := bd_e hf
      exact bz_X6_allAreSoWithLag_54 hq3 hf
theorem bz_X6_allAreSoWithLag_3l {z : (Int32 × mm_M)} : ∀ (n : Nat) (x1 : Int32) (x2 : Int32) (x3 : Int32) (x4 : Int32) (M : mm_M), f_X6_allAreSoWithLag_3l n x1 x2 x3 x4 M = some z → z.1 = 0 ∨ z.1 = 1 := by
  intro n
  induction n with
  | zero => intro x1 x2 x3 x4 M hf; exact absurd hf (by simp [f_X6_allAreSoWithLag_3l])
  | succ n ih => intro x1 x2 x3 x4 M hf; exact bz_X6_allAreSoWithLag_3 ih hf
theorem bz_X6_allAreSoWithLag {z : (Int32 × mm_M)} {x1 : Int32} {x2 : Int32} {x3 : Int32} {M : mm_M} (hf : f_X6_allAreSoWithLag x1 x2 x3 M = some z) : z.1 = 0 ∨ z.1 = 1 := by
  unfold f_X6_allAreSoWithLag at hf
  exact bz_X6_allAreSoWithLag_3l fu_ _ _ _ _ _ hf
def f_X6_someFitsWithLag_52 (q14 : Int32 → Int32 → Int32 → mm_M → Option (Int32 × mm_M)) (x2 : Int32) (x3 : Int32) (x4 : Int32) (M : mm_M) : Option (Int32 × mm_M) :=
  sq_ (x4 + 1 : Int32) fun y7 =>
  q14 x2 x3 y7 M
def f_X6_someFitsWithLag_47 (q14 : Int32 → Int32 → Int32 → mm_M → Option (Int32 × mm_M)) (x2 : Int32) (x3 : Int32) (x4 : Int32) (t0 : Int32) (M : mm_M) : Option (Int32 × mm_M) :=
  if t0 = 0 then (
    f_X6_someFitsWithLag_52 q14 x2 x3 x4 M
  ) else (
    some ((1 : Int32), M)
  )
def f_X6_someFitsWithLag_14 (q14 : Int32 → Int32 → Int32 → mm_M → Option (Int32 × mm_M)) (x2 : Int32) (x3 : Int32) (x4 : Int32) (M : mm_M) : Option (Int32 × mm_M) :=
  if (M.1 14 2) ≤ x4 then (
    some ((0 : Int32), M)
  ) else (
    (f_X6_failingBy x4 M).bind fun z4 =>
    if (z4 &&& (x3 ^^^ (-1))) = 0 then (
      (f_X6_allAreSoWithLag x3 x4 x2 M).bind fun z6 =>
      f_X6_someFitsWithLag_47 q14 x2 x3 x4 z6.1 z6.2
    ) else (
      f_X6_someFitsWithLag_52 q14 x2 x3 x4 M
    )
  )
def f_X6_someFitsWithLag_14l : Nat → Int32 → Int32 → Int32 → mm_M → Option (Int32 × mm_M)
  | 0, _, _, _, _ => none
  | n + 1, x2, x3, x4, M => f_X6_someFitsWithLag_14 (f_X6_someFitsWithLag_14l n) x2 x3 x4 M
def f_X6_someFitsWithLag (x1 : Int32) (x2 : Int32) (M : mm_M) : Option (Int32 × mm_M) :=
  (f_X6_atPlace x1 M).bind fun z1 =>
  sq_ (((M.1 19 4) &&& z1) : Int32) fun y2 =>
  f_X6_someFitsWithLag_14l fu_ x2 y2 (0 : Int32) M
theorem mo_X6_someFitsWithLag_52 {z : (Int32 × mm_M)} {x2 : Int32} {x3 : Int32} {x4 : Int32} {M : mm_M} {q14 : Int32 → Int32 → Int32 → mm_M → Option (Int32 × mm_M)} (hq14 : ∀ (x2 : Int32) (x3 : Int32) (x4 : Int32) (M : mm_M), q14 x2 x3 x4 M = some z → M.2.2 ≤ z.2.2.2) (hf : f_X6_someFitsWithLag_52 q14 x2 x3 x4 M = some z) : M.2.2 ≤ z.2.2.2 := by
  unfold f_X6_someFitsWithLag_52 at hf
  obtain ⟨y7, ey7, hf⟩ := sq_e hf
  have hj := hq14 _ _ _ _ hf; omega
theorem mo_X6_someFitsWithLag_47 {z : (Int32 × mm_M)} {x2 : Int32} {x3 : Int32} {x4 : Int32} {t0 : Int32} {M : mm_M} {q14 : Int32 → Int32 → Int32 → mm_M → Option (Int32 × mm_M)} (hq14 : ∀ (x2 : Int32) (x3 : Int32) (x4 : Int32) (M : mm_M), q14 x2 x3 x4 M = some z → M.2.2 ≤ z.2.2.2) (hf : f_X6_someFitsWithLag_47 q14 x2 x3 x4 t0 M = some z) : M.2.2 ≤ z.2.2.2 := by
  unfold f_X6_someFitsWithLag_47 at hf
  by_cases c8 : t0 = 0
  · rw [if_pos c8] at hf
    have hj := mo_X6_someFitsWithLag_52 hq14 hf; omega
  · rw [if_neg c8] at hf
    rw [← Option.some.inj hf]; show M.2.2 ≤ M.2.2; exact Nat.le_refl _
theorem mo_X6_someFitsWithLag_14 {z : (Int32 × mm_M)} {x2 : Int32} {x3 : Int32} {x4 : Int32} {M : mm_M} {q14 : Int32 → Int32 → Int32 → mm_M → Option (Int32 × mm_M)} (hq14 : ∀ (x2 : Int32) (x3 : Int32) (x4 : Int32) (M : mm_M), q14 x2 x3 x4 M = some z → M.2.2 ≤ z.2.2.2) (hf : f_X6_someFitsWithLag_14 q14 x2 x3 x4 M = some z) : M.2.2 ≤ z.2.2.2 := by
  unfold f_X6_someFitsWithLag_14 at hf
  by_cases c3 : (M.1 14 2) ≤ x4
  · rw [if_pos c3] at hf
    rw [← Option.some.inj hf]; show M.2.2 ≤ M.2.2; exact Nat.le_refl _
  · rw [if_neg c3] at hf
    obtain ⟨z4, ez4, hf⟩ := bd_e hf
    by_cases c5 : (z4 &&& (x3 ^^^ (-1))) = 0
    · rw [if_pos c5] at hf
      obtain ⟨z6, ez6, hf⟩ := bd_e hf
      have mz6 : M.2.2 ≤ z6.2.2.2 := mo_X6_allAreSoWithLag ez6
      have hj := mo_X6_someFitsWithLag_47 hq14 hf; omega
    · rw [if_neg c5] at hf
      have hj := mo_X6_someFitsWithLag_52 hq14 hf; omega
theorem mo_X6_someFitsWithLag_14l {z : (Int32 × mm_M)} : ∀ (n : Nat) (x2 : Int32) (x3 : Int32) (x4 : Int32) (M : mm_M), f_X6_someFitsWithLag_14l n x2 x3 x4 M = some z → M.2.2 ≤ z.2.2.2 := by
  intro n
  induction n with
  | zero => intro x2 x3 x4 M hf; exact absurd hf (by simp [f_X6_someFitsWithLag_14l])
  | succ n ih => intro x2 x3 x4 M hf; exact mo_X6_someFitsWithLag_14 ih hf
theorem mo_X6_someFitsWithLag {z : (Int32 × mm_M)} {x1 : Int32} {x2 : Int32} {M : mm_M} (hf : f_X6_someFitsWithLag x1 x2 M = some z) : M.2.2 ≤ z.2.2.2 := by
  unfold f_X6_someFitsWithLag at hf
  obtain ⟨z1, ez1, hf⟩ := bd_e hf
  obtain ⟨y2, ey2, hf⟩ := sq_e hf
  have hj := mo_X6_someFitsWithLag_14l fu_ _ _ _ _ hf; omega
theorem bz_X6_someFitsWithLag_52 {z : (Int32 × mm_M)} {x2 : Int32} {x3 : Int32} {x4 : Int32} {M : mm_M} {q14 : Int32 → Int32 → Int32 → mm_M → Option (Int32 × mm_M)} (hq14 : ∀ (x2 : Int32) (x3 : Int32) (x4 : Int32) (M : mm_M), q14 x2 x3 x4 M = some z → z.1 = 0 ∨ z.1 = 1) (hf : f_X6_someFitsWithLag_52 q14 x2 x3 x4 M = some z) : z.1 = 0 ∨ z.1 = 1 := by
  unfold f_X6_someFitsWithLag_52 at hf
  obtain ⟨y7, ey7, hf⟩ := sq_e hf
  exact hq14 _ _ _ _ hf
theorem bz_X6_someFitsWithLag_47 {z : (Int32 × mm_M)} {x2 : Int32} {x3 : Int32} {x4 : Int32} {t0 : Int32} {M : mm_M} {q14 : Int32 → Int32 → Int32 → mm_M → Option (Int32 × mm_M)} (hq14 : ∀ (x2 : Int32) (x3 : Int32) (x4 : Int32) (M : mm_M), q14 x2 x3 x4 M = some z → z.1 = 0 ∨ z.1 = 1) (hf : f_X6_someFitsWithLag_47 q14 x2 x3 x4 t0 M = some z) : z.1 = 0 ∨ z.1 = 1 := by
  unfold f_X6_someFitsWithLag_47 at hf
  by_cases c8 : t0 = 0
  · rw [if_pos c8] at hf
    exact bz_X6_someFitsWithLag_52 hq14 hf
  · rw [if_neg c8] at hf
    rw [← Option.some.inj hf]; exact (Or.inr rfl)
theorem bz_X6_someFitsWithLag_14 {z : (Int32 × mm_M)} {x2 : Int32} {x3 : Int32} {x4 : Int32} {M : mm_M} {q14 : Int32 → Int32 → Int32 → mm_M → Option (Int32 × mm_M)} (hq14 : ∀ (x2 : Int32) (x3 : Int32) (x4 : Int32) (M : mm_M), q14 x2 x3 x4 M = some z → z.1 = 0 ∨ z.1 = 1) (hf : f_X6_someFitsWithLag_14 q14 x2 x3 x4 M = some z) : z.1 = 0 ∨ z.1 = 1 := by
  unfold f_X6_someFitsWithLag_14 at hf
  by_cases c3 : (M.1 14 2) ≤ x4
  · rw [if_pos c3] at hf
    rw [← Option.some.inj hf]; exact (Or.inl rfl)
  · rw [if_neg c3] at hf
    obtain ⟨z4, ez4, hf⟩ := bd_e hf
    by_cases c5 : (z4 &&& (x3 ^^^ (-1))) = 0
    · rw [if_pos c5] at hf
      obtain ⟨z6, ez6, hf⟩ := bd_e hf
      exact bz_X6_someFitsWithLag_47 hq14 hf
    · rw [if_neg c5] at hf
      exact bz_X6_someFitsWithLag_52 hq14 hf
theorem bz_X6_someFitsWithLag_14l {z : (Int32 × mm_M)} : ∀ (n : Nat) (x2 : Int32) (x3 : Int32) (x4 : Int32) (M : mm_M), f_X6_someFitsWithLag_14l n x2 x3 x4 M = some z → z.1 = 0 ∨ z.1 = 1 := by
  intro n
  induction n with
  | zero => intro x2 x3 x4 M hf; exact absurd hf (by simp [f_X6_someFitsWithLag_14l])
  | succ n ih => intro x2 x3 x4 M hf; exact bz_X6_someFitsWithLag_14 ih hf
theorem bz_X6_someFitsWithLag {z : (Int32 × mm_M)} {x1 : Int32} {x2 : Int32} {M : mm_M} (hf : f_X6_someFitsWithLag x1 x2 M = some z) : z.1 = 0 ∨ z.1 = 1 := by
  unfold f_X6_someFitsWithLag at hf
  obtain ⟨z1, ez1, hf⟩ := bd_e hf
  obtain ⟨y2, ey2, hf⟩ := sq_e hf
  exact bz_X6_someFitsWithLag_14l fu_ _ _ _ _ hf
def f_X11_ahead_58 (q26 : Int32 → Int32 → Int32 → mm_M → Option (Int32 × mm_M)) (x1 : Int32) (x2 : Int32) (x3 : Int32) (x4 : Int32) (t0 : Int32) (M : mm_M) : Option (Int32 × mm_M) :=
  if t0 = 0 then (
    sq_ (x3 + 10 : Int32) fun y10 =>
    q26 x1 x2 y10 M
  ) else (
    some (x4, M)
  )
def f_X11_ahead_46 (q26 : Int32 → Int32 → Int32 → mm_M → Option (Int32 × mm_M)) (x1 : Int32) (x2 : Int32) (x3 : Int32) (t0 : Int32) (M : mm_M) : Option (Int32 × mm_M) :=
  (f_X6_someFitsWithLag x1 t0 M).bind fun z8 =>
  f_X11_ahead_58 q26 x1 x2 x3 t0 z8.1 z8.2
def f_X11_ahead_26 (q26 : Int32 → Int32 → Int32 → mm_M → Option (Int32 × mm_M)) (x1 : Int32) (x2 : Int32) (x3 : Int32) (M : mm_M) : Option (Int32 × mm_M) :=
  if 200 < x3 then (
    some (((-2) : Int32), M)
  ) else (
    if x2 = 0 then (
      f_X11_ahead_46 q26 x1 x2 x3 x3 M
    ) else (
      f_X11_ahead_46 q26 x1 x2 x3 (200 - x3) M
    )
  )
def f_X11_ahead_26l : Nat → Int32 → Int32 → Int32 → mm_M → Option (Int32 × mm_M)
  | 0, _, _, _, _ => none
  | n + 1, x1, x2, x3, M => f_X11_ahead_26 (f_X11_ahead_26l n) x1 x2 x3 M
def f_X11_ahead_24 (x1 : Int32) (x2 : Int32) (M : mm_M) : Option (Int32 × mm_M) :=
  f_X11_ahead_26l fu_ x1 x2 (0 : Int32) M
def f_X11_ahead (x1 : Int32) (x2 : Int32) (M : mm_M) : Option (Int32 × mm_M) :=
  sq_ (f_X11_isPlace x1) fun z1 =>
  if z1 = 0 then (
    some (((-1) : Int32), M)
  ) else (
    sq_ (f_X11_isBelow x2 (2 : Int32)) fun z3 =>
    if z3 = 0 then (
      some (((-1) : Int32), M)
    ) else (
      (f_X6_lookAnew M).bind fun z5 =>
      f_X11_ahead_24 x1 x2 z5
    )
  )
theorem mo_X11_ahead_58 {z : (Int32 × mm_M)} {x1 : Int32} {x2 : Int32} {x3 : Int32} {x4 : Int32} {t0 : Int32} {M : mm_M} {q26 : Int32 → Int32 → Int32 → mm_M → Option (Int32 × mm_M)} (hq26 : ∀ (x1 : Int32) (x2 : Int32) (x3 : Int32) (M : mm_M), q26 x1 x2 x3 M = some z → M.2.2 ≤ z.2.2.2) (hf : f_X11_ahead_58 q26 x1 x2 x3 x4 t0 M = some z) : M.2.2 ≤ z.2.2.2 := by
  unfold f_X11_ahead_58 at hf
  by_cases c9 : t0 = 0
  · rw [if_pos c9] at hf
    obtain ⟨y10, ey10, hf⟩ := sq_e hf
    have hj := hq26 _ _ _ _ hf; omega
  · rw [if_neg c9] at hf
    rw [← Option.some.inj hf]; show M.2.2 ≤ M.2.2; exact Nat.le_refl _
theorem mo_X11_ahead_46 {z : (Int32 × mm_M)} {x1 : Int32} {x2 : Int32} {x3 : Int32} {t0 : Int32} {M : mm_M} {q26 : Int32 → Int32 → Int32 → mm_M → Option (Int32 × mm_M)} (hq26 : ∀ (x1 : Int32) (x2 : Int32) (x3 : Int32) (M : mm_M), q26 x1 x2 x3 M = some z → M.2.2 ≤ z.2.2.2) (hf : f_X11_ahead_46 q26 x1 x2 x3 t0 M = some z) : M.2.2 ≤ z.2.2.2 := by
  unfold f_X11_ahead_46 at hf
  obtain ⟨z8, ez8, hf⟩ := bd_e hf
  have mz8 : M.2.2 ≤ z8.2.2.2 := mo_X6_someFitsWithLag ez8
  have hj := mo_X11_ahead_58 hq26 hf; omega
theorem mo_X11_ahead_26 {z : (Int32 × mm_M)} {x1 : Int32} {x2 : Int32} {x3 : Int32} {M : mm_M} {q26 : Int32 → Int32 → Int32 → mm_M → Option (Int32 × mm_M)} (hq26 : ∀ (x1 : Int32) (x2 : Int32) (x3 : Int32) (M : mm_M), q26 x1 x2 x3 M = some z → M.2.2 ≤ z.2.2.2) (hf : f_X11_ahead_26 q26 x1 x2 x3 M = some z) : M.2.2 ≤ z.2.2.2 := by
  unfold f_X11_ahead_26 at hf
  by_cases c6 : 200 < x3
  · rw [if_pos c6] at hf
    rw [← Option.some.inj hf]; show M.2.2 ≤ M.2.2; exact Nat.le_refl _
  · rw [if_neg c6] at hf
    by_cases c7 : x2 = 0
    · rw [if_pos c7] at hf
      have hj := mo_X11_ahead_46 hq26 hf; omega
    · rw [if_neg c7] at hf
      have hj := mo_X11_ahead_46 hq26 hf; omega
theorem mo_X11_ahead_26l {z : (Int32 × mm_M)} : ∀ (n : Nat) (x1 : Int32) (x2 : Int32) (x3 : Int32) (M : mm_M), f_X11_ahead_26l n x1 x2 x3 M = some z → M.2.2 ≤ z.2.2.2 := by
  intro n
  induction n with
  | zero => intro x1 x2 x3 M hf; exact absurd hf (by simp [f_X11_ahead_26l])
  | succ n ih => intro x1 x2 x3 M hf; exact mo_X11_ahead_26 ih hf
theorem mo_X11_ahead_24 {z : (Int32 × mm_M)} {x1 : Int32} {x2 : Int32} {M : mm_M} (hf : f_X11_ahead_24 x1 x2 M = some z) : M.2.2 ≤ z.2.2.2 := by
  unfold f_X11_ahead_24 at hf
  have hj := mo_X11_ahead_26l fu_ _ _ _ _ hf; omega
theorem mo_X11_ahead {z : (Int32 × mm_M)} {x1 : Int32} {x2 : Int32} {M : mm_M} (hf : f_X11_ahead x1 x2 M = some z) : M.2.2 ≤ z.2.2.2 := by
  unfold f_X11_ahead at hf
  obtain ⟨z1, ez1, hf⟩ := sq_e hf
  by_cases c2 : z1 = 0
  · rw [if_pos c2] at hf
    rw [← Option.some.inj hf]; show M.2.2 ≤ M.2.2; exact Nat.le_refl _
  · rw [if_neg c2] at hf
    obtain ⟨z3, ez3, hf⟩ := sq_e hf
    by_cases c4 : z3 = 0
    · rw [if_pos c4] at hf
      rw [← Option.some.inj hf]; show M.2.2 ≤ M.2.2; exact Nat.le_refl _
    · rw [if_neg c4] at hf
      obtain ⟨z5, ez5, hf⟩ := bd_e hf
      have mz5 : M.2.2 ≤ z5.2.2 := mo_X6_lookAnew ez5
      have hj := mo_X11_ahead_24 hf; omega
def f_X7_clear (M : mm_M) : mm_M :=
  sq_ (mm_si M 42 0 0) fun M1 =>
  sq_ (mm_si M1 42 1 0) fun M2 =>
  sq_ (mm_si M2 42 6 0) fun M3 =>
  M3
theorem mo_X7_clear {z : mm_M} {M : mm_M} (hf : f_X7_clear M = z) : M.2.2 ≤ z.2.2 := by
  unfold f_X7_clear at hf
  obtain ⟨M1, eM1, hf⟩ := sq_e hf
  have mM1 : M.2.2 ≤ M1.2.2 := by rw [eM1]; exact Nat.le_refl _
  obtain ⟨M2, eM2, hf⟩ := sq_e hf
  have mM2 : M1.2.2 ≤ M2.2.2 := by rw [eM2]; exact Nat.le_refl _
  obtain ⟨M3, eM3, hf⟩ := sq_e hf
  have mM3 : M2.2.2 ≤ M3.2.2 := by rw [eM3]; exact Nat.le_refl _
  rw [← hf]; show M.2.2 ≤ M3.2.2; omega
def f_X6_isStaged_36 (M : mm_M) : Option Int32 :=
  some (1 : Int32)
def f_X6_isStaged (x1 : Int32) (M : mm_M) : Option Int32 :=
  if (((M.1 19 4) >>> (x1 &&& 31)) &&& 1) = 0 then (
    some (0 : Int32)
  ) else (
    if ix_ok x1 16 then (
    if (M.1 (22 + x1.toNatClampNeg) 0) = 0 then (
      f_X6_isStaged_36 M
    ) else (
      if ix_ok x1 16 then (
      if (M.1 (22 + x1.toNatClampNeg) 0) = 1 then (
        f_X6_isStaged_36 M
      ) else (
        some (0 : Int32)
      )
      ) else none
    )
    ) else none
  )
theorem bz_X6_isStaged_36 {z : Int32} {M : mm_M} (hf : f_X6_isStaged_36 M = some z) : z = 0 ∨ z = 1 := by
  unfold f_X6_isStaged_36 at hf
  rw [← Option.some.inj hf]; exact (Or.inr rfl)
theorem bz_X6_isStaged {z : Int32} {x1 : Int32} {M : mm_M} (hf : f_X6_isStaged x1 M = some z) : z = 0 ∨ z = 1 := by
  unfold f_X6_isStaged at hf
  by_cases c1 : (((M.1 19 4) >>> (x1 &&& 31)) &&& 1) = 0
  · rw [if_pos c1] at hf
    rw [← Option.some.inj hf]; exact (Or.inl rfl)
  · rw [if_neg c1] at hf
    obtain ⟨h2, hf⟩ := ck_e hf
    by_cases c3 : (M.1 (22 + x1.toNatClampNeg) 0) = 0
    · rw [if_pos c3] at hf
      exact bz_X6_isStaged_36 hf
    · rw [if_neg c3] at hf
      obtain ⟨h4, hf⟩ := ck_e hf
      by_cases c5 : (M.1 (22 + x1.toNatClampNeg) 0) = 1
      · rw [if_pos c5] at hf
        exact bz_X6_isStaged_36 hf
      · rw [if_neg c5] at hf
        rw [← Option.some.inj hf]; exact (Or.inl rfl)
def f_X7_invite (x1 : Int32) (M : mm_M) : mm_M :=
  sq_ (mm_si M 42 0 ((M.1 42 0) ||| ((1 : Int32) <<< (x1 &&& 31)))) fun M1 =>
  M1
theorem mo_X7_invite {z : mm_M} {x1 : Int32} {M : mm_M} (hf : f_X7_invite x1 M = z) : M.2.2 ≤ z.2.2 := by
  unfold f_X7_invite at hf
  obtain ⟨M1, eM1, hf⟩ := sq_e hf
  have mM1 : M.2.2 ≤ M1.2.2 := by rw [eM1]; exact Nat.le_refl _
  rw [← hf]; show M.2.2 ≤ M1.2.2; omega
def f_X7_seat_48 (q2 : Int32 → mm_M → Option mm_M) (x1 : Int32) (M : mm_M) : Option mm_M :=
  sq_ (x1 + 1 : Int32) fun y7 =>
  q2 y7 M
def f_X7_seat_2 (q2 : Int32 → mm_M → Option mm_M) (x1 : Int32) (M : mm_M) : Option mm_M :=
  if 20 ≤ x1 then (
    some M
  ) else (
    if (((M.1 42 0) >>> (x1 &&& 31)) &&& 1) = 0 then (
      f_X7_seat_48 q2 x1 M
    ) else (
      if 7 ≤ (M.1 42 1) then (
        f_X7_seat_48 q2 x1 M
      ) else (
        if ix_ok (M.1 42 1) 7 then (
        sq_ (mm_si M 43 (M.1 42 1).toNatClampNeg x1) fun M5 =>
        sq_ (mm_si M5 42 1 ((M5.1 42 1) + 1)) fun M6 =>
        f_X7_seat_48 q2 x1 M6
        ) else none
      )
    )
  )
def f_X7_seat_2l : Nat → Int32 → mm_M → Option mm_M
  | 0, _, _ => none
  | n + 1, x1, M => f_X7_seat_2 (f_X7_seat_2l n) x1 M
def f_X7_seat (M : mm_M) : Option mm_M :=
  f_X7_seat_2l fu_ (0 : Int32) M
theorem mo_X7_seat_48 {z : mm_M} {x1 : Int32} {M : mm_M} {q2 : Int32 → mm_M → Option mm_M} (hq2 : ∀ (x1 : Int32) (M : mm_M), q2 x1 M = some z → M.2.2 ≤ z.2.2) (hf : f_X7_seat_48 q2 x1 M = some z) : M.2.2 ≤ z.2.2 := by
  unfold f_X7_seat_48 at hf
  obtain ⟨y7, ey7, hf⟩ := sq_e hf
  have hj := hq2 _ _ hf; omega
theorem mo_X7_seat_2 {z : mm_M} {x1 : Int32} {M : mm_M} {q2 : Int32 → mm_M → Option mm_M} (hq2 : ∀ (x1 : Int32) (M : mm_M), q2 x1 M = some z → M.2.2 ≤ z.2.2) (hf : f_X7_seat_2 q2 x1 M = some z) : M.2.2 ≤ z.2.2 := by
  unfold f_X7_seat_2 at hf
  by_cases c1 : 20 ≤ x1
  · rw [if_pos c1] at hf
    rw [← Option.some.inj hf]; show M.2.2 ≤ M.2.2; exact Nat.le_refl _
  · rw [if_neg c1] at hf
    by_cases c2 : (((M.1 42 0) >>> (x1 &&& 31)) &&& 1) = 0
    · rw [if_pos c2] at hf
      have hj := mo_X7_seat_48 hq2 hf; omega
    · rw [if_neg c2] at hf
      by_cases c3 : 7 ≤ (M.1 42 1)
      · rw [if_pos c3] at hf
        have hj := mo_X7_seat_48 hq2 hf; omega
      · rw [if_neg c3] at hf
        obtain ⟨h4, hf⟩ := ck_e hf
        obtain ⟨M5, eM5, hf⟩ := sq_e hf
        have mM5 : M.2.2 ≤ M5.2.2 := by rw [eM5]; exact Nat.le_refl _
        obtain ⟨M6, eM6, hf⟩ := sq_e hf
        have mM6 : M5.2.2 ≤ M6.2.2 := by rw [eM6]; exact Nat.le_refl _
        have hj := mo_X7_seat_48 hq2 hf; omega
theorem mo_X7_seat_2l {z : mm_M} : ∀ (n : Nat) (x1 : Int32) (M : mm_M), f_X7_seat_2l n x1 M = some z → M.2.2 ≤ z.2.2 := by
  intro n
  induction n with
  | zero => intro x1 M hf; exact absurd hf (by simp [f_X7_seat_2l])
  | succ n ih => intro x1 M hf; exact mo_X7_seat_2 ih hf
theorem mo_X7_seat {z : mm_M} {M : mm_M} (hf : f_X7_seat M = some z) : M.2.2 ≤ z.2.2 := by
  unfold f_X7_seat at hf
  have hj := mo_X7_seat_2l fu_ _ _ hf; omega
def f_X7_seatOf_2 (q2 : Int32 → Int32 → Option Int32) (x1 : Int32) (x2 : Int32) (M : mm_M) : Option Int32 :=
  if (M.1 42 1) ≤ x2 then (
    some ((-1) : Int32)
  ) else (
    if ix_ok x2 7 then (
    if (M.1 43 x2.toNatClampNeg) = x1 then (
      some x2
    ) else (
      sq_ (x2 + 1 : Int32) fun y4 =>
      q2 x1 y4
    )
    ) else none
  )
def f_X7_seatOf_2l (M : mm_M) : Nat → Int32 → Int32 → Option Int32
  | 0, _, _ => none
  | n + 1, x1, x2 => f_X7_seatOf_2 (f_X7_seatOf_2l M n) x1 x2 M
def f_X7_seatOf (x1 : Int32) (M : mm_M) : Option Int32 :=
  f_X7_seatOf_2l M fu_ x1 (0 : Int32)
def f_X7_addPair_161 (q83 : Nat → Int32 → Int32 → mm_M → Option mm_M) (k1 : Nat) (x5 : Int32) (x6 : Int32) (t1 : Int32) (t2 : Int32) (t3 : Int32) (M : mm_M) : Option mm_M :=
  if ix_ok t1 16 then (
  sq_ (mm_si M 49 t1.toNatClampNeg (t2 ||| t3)) fun M25 =>
  sq_ (x6 + 1 : Int32) fun y26 =>
  q83 k1 x5 y26 M25
  ) else none
def f_X7_addPair_169 (q74 : Nat → Int32 → mm_M → Option mm_M) (k1 : Nat) (x5 : Int32) (M : mm_M) : Option mm_M :=
  sq_ (x5 + 1 : Int32) fun y23 =>
  q74 k1 y23 M
def f_X7_addPair_83 (q74 : Nat → Int32 → mm_M → Option mm_M) (q83 : Nat → Int32 → Int32 → mm_M → Option mm_M) (k1 : Nat) (x5 : Int32) (x6 : Int32) (M : mm_M) : Option mm_M :=
  if 3 ≤ x6 then (
    f_X7_addPair_169 q74 k1 x5 M
  ) else (
    if ix_ok x5 3 then (
    (f_X9_formOn (M.1 45 x5.toNatClampNeg) (M.1 k1 1) M).bind fun z16 =>
    if ix_ok x6 3 then (
    (f_X9_formOn (M.1 45 x6.toNatClampNeg) (M.1 k1 2) M).bind fun z18 =>
    if ix_ok (M.1 42 6) 16 then (
    sq_ (f_X9_vowels M) fun z20 =>
    (f_X5_isSoOf k1 z16 z18 z20 M).bind fun z21 =>
    if z21 = 0 then (
      f_X7_addPair_161 q83 k1 x5 x6 (M.1 42 6) (M.1 49 (M.1 42 6).toNatClampNeg) (0 : Int32) M
    ) else (
      f_X7_addPair_161 q83 k1 x5 x6 (M.1 42 6) (M.1 49 (M.1 42 6).toNatClampNeg) ((1 : Int32) <<< (((x5 * 3) + x6) &&& 31)) M
    )
    ) else none ) else none ) else none
  )
def f_X7_addPair_83l (q74 : Nat → Int32 → mm_M → Option mm_M) : Nat → Nat → Int32 → Int32 → mm_M → Option mm_M
  | 0, _, _, _, _ => none
  | n + 1, k1, x5, x6, M => f_X7_addPair_83 q74 (f_X7_addPair_83l q74 n) k1 x5 x6 M
def f_X7_addPair_175 (M : mm_M) : Option mm_M :=
  sq_ (mm_si M 42 6 ((M.1 42 6) + 1)) fun M13 =>
  some M13
def f_X7_addPair_74 (q74 : Nat → Int32 → mm_M → Option mm_M) (k1 : Nat) (x5 : Int32) (M : mm_M) : Option mm_M :=
  if 3 ≤ x5 then (
    f_X7_addPair_175 M
  ) else (
    f_X7_addPair_83l q74 fu_ k1 x5 (0 : Int32) M
  )
def f_X7_addPair_74l : Nat → Nat → Int32 → mm_M → Option mm_M
  | 0, _, _, _ => none
  | n + 1, k1, x5, M => f_X7_addPair_74 (f_X7_addPair_74l n) k1 x5 M
def f_X7_addPair (k1 : Nat) (M : mm_M) : Option mm_M :=
  (f_X7_seatOf (M.1 k1 1) M).bind fun z1 =>
  (f_X7_seatOf (M.1 k1 2) M).bind fun z2 =>
  if z1 = (-1) then (
    some M
  ) else (
    if z2 = (-1) then (
      some M
    ) else (
      if (M.1 42 6) < 16 then (
        if ix_ok (M.1 42 6) 16 then (
        sq_ (mm_si M 47 (M.1 42 6).toNatClampNeg z1) fun M7 =>
        if ix_ok (M7.1 42 6) 16 then (
        sq_ (mm_si M7 48 (M7.1 42 6).toNatClampNeg z2) fun M9 =>
        if ix_ok (M9.1 42 6) 16 then (
        sq_ (mm_si M9 49 (M9.1 42 6).toNatClampNeg 0) fun M11 =>
        f_X7_addPair_74l fu_ k1 (0 : Int32) M11
        ) else none ) else none ) else none
      ) else (
        some M
      )
    )
  )
theorem mo_X7_addPair_161 {z : mm_M} {k1 : Nat} {x5 : Int32} {x6 : Int32} {t1 : Int32} {t2 : Int32} {t3 : Int32} {M : mm_M} {q83 : Nat → Int32 → Int32 → mm_M → Option mm_M} (hq83 : ∀ (k1 : Nat) (x5 : Int32) (x6 : Int32) (M : mm_M), q83 k1 x5 x6 M = some z → M.2.2 ≤ z.2.2) (hf : f_X7_addPair_161 q83 k1 x5 x6 t1 t2 t3 M = some z) : M.2.2 ≤ z.2.2 := by
  unfold f_X7_addPair_161 at hf
  obtain ⟨h24, hf⟩ := ck_e hf
  obtain ⟨M25, eM25, hf⟩ := sq_e hf
  have mM25 : M.2.2 ≤ M25.2.2 := by rw [eM25]; exact Nat.le_refl _
  obtain ⟨y26, ey26, hf⟩ := sq_e hf
  have hj := hq83 _ _ _ _ hf; omega
theorem mo_X7_addPair_169 {z : mm_M} {k1 : Nat} {x5 : Int32} {M : mm_M} {q74 : Nat → Int32 → mm_M → Option mm_M} (hq74 : ∀ (k1 : Nat) (x5 : Int32) (M : mm_M), q74 k1 x5 M = some z → M.2.2 ≤ z.2.2) (hf : f_X7_addPair_169 q74 k1 x5 M = some z) : M.2.2 ≤ z.2.2 := by
  unfold f_X7_addPair_169 at hf
  obtain ⟨y23, ey23, hf⟩ := sq_e hf
  have hj := hq74 _ _ _ hf; omega
theorem mo_X7_addPair_83 {z : mm_M} {k1 : Nat} {x5 : Int32} {x6 : Int32} {M : mm_M} {q74 : Nat → Int32 → mm_M → Option mm_M} (hq74 : ∀ (k1 : Nat) (x5 : Int32) (M : mm_M), q74 k1 x5 M = some z → M.2.2 ≤ z.2.2) {q83 : Nat → Int32 → Int32 → mm_M → Option mm_M} (hq83 : ∀ (k1 : Nat) (x5 : Int32) (x6 : Int32) (M : mm_M), q83 k1 x5 x6 M = some z → M.2.2 ≤ z.2.2) (hf : f_X7_addPair_83 q74 q83 k1 x5 x6 M = some z) : M.2.2 ≤ z.2.2 := by
  unfold f_X7_addPair_83 at hf
  by_cases c14 : 3 ≤ x6
  · rw [if_pos c14] at hf
    have hj := mo_X7_addPair_169 hq74 hf; omega
  · rw [if_neg c14] at hf
    obtain ⟨h15, hf⟩ := ck_e hf
    obtain ⟨z16, ez16, hf⟩ := bd_e hf
    obtain ⟨h17, hf⟩ := ck_e hf
    obtain ⟨z18, ez18, hf⟩ := bd_e hf
    obtain ⟨h19, hf⟩ := ck_e hf
    obtain ⟨z20, ez20, hf⟩ := sq_e hf
    obtain ⟨z21, ez21, hf⟩ := bd_e hf
    by_cases c22 : z21 = 0
    · rw [if_pos c22] at hf
      have hj := mo_X7_addPair_161 hq83 hf; omega
    · rw [if_neg c22] at hf
      have hj := mo_X7_addPair_161 hq83 hf; omega
theorem mo_X7_addPair_83l {z : mm_M} {q74 : Nat → Int32 → mm_M → Option mm_M} (hq74 : ∀ (k1 : Nat) (x5 : Int32) (M : mm_M), q74 k1 x5 M = some z → M.2.2 ≤ z.2.2) : ∀ (n : Nat) (k1 : Nat) (x5 : Int32) (x6 : Int32) (M : mm_M), f_X7_addPair_83l q74 n k1 x5 x6 M = some z → M.2.2 ≤ z.2.2 := by
  intro n
  induction n with
  | zero => intro k1 x5 x6 M hf; exact absurd hf (by simp [f_X7_addPair_83l])
  | succ n ih => intro k1 x5 x6 M hf; exact mo_X7_addPair_83 hq74 ih hf
theorem mo_X7_addPair_175 {z : mm_M} {M : mm_M} (hf : f_X7_addPair_175 M = some z) : M.2.2 ≤ z.2.2 := by
  unfold f_X7_addPair_175 at hf
  obtain ⟨M13, eM13, hf⟩ := sq_e hf
  have mM13 : M.2.2 ≤ M13.2.2 := by rw [eM13]; exact Nat.le_refl _
  rw [← Option.some.inj hf]; show M.2.2 ≤ M13.2.2; omega
theorem mo_X7_addPair_74 {z : mm_M} {k1 : Nat} {x5 : Int32} {M : mm_M} {q74 : Nat → Int32 → mm_M → Option mm_M} (hq74 : ∀ (k1 : Nat) (x5 : Int32) (M : mm_M), q74 k1 x5 M = some z → M.2.2 ≤ z.2.2) (hf : f_X7_addPair_74 q74 k1 x5 M = some z) : M.2.2 ≤ z.2.2 := by
  unfold f_X7_addPair_74 at hf
  by_cases c12 : 3 ≤ x5
  · rw [if_pos c12] at hf
    have hj := mo_X7_addPair_175 hf; omega
  · rw [if_neg c12] at hf
    have hj := mo_X7_addPair_83l hq74 fu_ _ _ _ _ hf; omega
theorem mo_X7_addPair_74l {z : mm_M} : ∀ (n : Nat) (k1 : Nat) (x5 : Int32) (M : mm_M), f_X7_addPair_74l n k1 x5 M = some z → M.2.2 ≤ z.2.2 := by
  intro n
  induction n with
  | zero => intro k1 x5 M hf; exact absurd hf (by simp [f_X7_addPair_74l])
  | succ n ih => intro k1 x5 M hf; exact mo_X7_addPair_74 ih hf
theorem mo_X7_addPair {z : mm_M} {k1 : Nat} {M : mm_M} (hf : f_X7_addPair k1 M = some z) : M.2.2 ≤ z.2.2 := by
  unfold f_X7_addPair at hf
  obtain ⟨z1, ez1, hf⟩ := bd_e hf
  obtain ⟨z2, ez2, hf⟩ := bd_e hf
  by_cases c3 : z1 = (-1)
  · rw [if_pos c3] at hf
    rw [← Option.some.inj hf]; show M.2.2 ≤ M.2.2; exact Nat.le_refl _
  · rw [if_neg c3] at hf
    by_cases c4 : z2 = (-1)
    · rw [if_pos c4] at hf
      rw [← Option.some.inj hf]; show M.2.2 ≤ M.2.2; exact Nat.le_refl _
    · rw [if_neg c4] at hf
      by_cases c5 : (M.1 42 6) < 16
      · rw [if_pos c5] at hf
        obtain ⟨h6, hf⟩ := ck_e hf
        obtain ⟨M7, eM7, hf⟩ := sq_e hf
        have mM7 : M.2.2 ≤ M7.2.2 := by rw [eM7]; exact Nat.le_refl _
        obtain ⟨h8, hf⟩ := ck_e hf
        obtain ⟨M9, eM9, hf⟩ := sq_e hf
        have mM9 : M7.2.2 ≤ M9.2.2 := by rw [eM9]; exact Nat.le_refl _
        obtain ⟨h10, hf⟩ := ck_e hf
        obtain ⟨M11, eM11, hf⟩ := sq_e hf
        have mM11 : M9.2.2 ≤ M11.2.2 := by rw [eM11]; exact Nat.le_refl _
        have hj := mo_X7_addPair_74l fu_ _ _ _ hf; omega
      · rw [if_neg c5] at hf
        rw [← Option.some.inj hf]; show M.2.2 ≤ M.2.2; exact Nat.le_refl _
def f_X7_countSo_4 (q4 : Int32 → Int32 → Option Int32) (x1 : Int32) (x2 : Int32) (M : mm_M) : Option Int32 :=
  if (M.1 42 6) ≤ x2 then (
    some x1
  ) else (
    if ix_ok x2 16 then (
    if ix_ok x2 16 then (
    if ix_ok (M.1 47 x2.toNatClampNeg) 7 then (
    if ix_ok x2 16 then (
    if ix_ok (M.1 48 x2.toNatClampNeg) 7 then (
    sq_ ((x1 + (((M.1 49 x2.toNatClampNeg) >>> ((((M.1 46 (M.1 47 x2.toNatClampNeg).toNatClampNeg) * 3) + (M.1 46 (M.1 48 x2.toNatClampNeg).toNatClampNeg)) &&& 31)) &&& 1)) : Int32) fun y7 =>
    sq_ (x2 + 1 : Int32) fun y8 =>
    q4 y7 y8
    ) else none ) else none ) else none ) else none ) else none
  )
def f_X7_countSo_4l (M : mm_M) : Nat → Int32 → Int32 → Option Int32
  | 0, _, _ => none
  | n + 1, x1, x2 => f_X7_countSo_4 (f_X7_countSo_4l M n) x1 x2 M
def f_X7_countSo (M : mm_M) : Option Int32 :=
  f_X7_countSo_4l M fu_ (0 : Int32) (0 : Int32)
def f_X7_chooseNext_34 (x1 : Int32) (M : mm_M) : Option mm_M :=
  if x1 < 0 then (
    some M
  ) else (
    if ix_ok x1 7 then (
    if ix_ok x1 7 then (
    sq_ (mm_si M 46 x1.toNatClampNeg ((M.1 46 x1.toNatClampNeg) + 1)) fun M11 =>
    some M11
    ) else none ) else none
  )
def f_X7_chooseNext_7 (q7 : Int32 → mm_M → Option mm_M) (x1 : Int32) (M : mm_M) : Option mm_M :=
  if x1 < 0 then (
    f_X7_chooseNext_34 x1 M
  ) else (
    if ix_ok x1 7 then (
    if (M.1 46 x1.toNatClampNeg) = 2 then (
      if ix_ok x1 7 then (
      sq_ (mm_si M 46 x1.toNatClampNeg 0) fun M6 =>
      sq_ (x1 + (-1) : Int32) fun y7 =>
      q7 y7 M6
      ) else none
    ) else (
      f_X7_chooseNext_34 x1 M
    )
    ) else none
  )
def f_X7_chooseNext_7l : Nat → Int32 → mm_M → Option mm_M
  | 0, _, _ => none
  | n + 1, x1, M => f_X7_chooseNext_7 (f_X7_chooseNext_7l n) x1 M
def f_X7_chooseNext (M : mm_M) : Option mm_M :=
  sq_ (((M.1 42 1) - 1) : Int32) fun y1 =>
  f_X7_chooseNext_7l fu_ y1 M
theorem mo_X7_chooseNext_34 {z : mm_M} {x1 : Int32} {M : mm_M} (hf : f_X7_chooseNext_34 x1 M = some z) : M.2.2 ≤ z.2.2 := by
  unfold f_X7_chooseNext_34 at hf
  by_cases c8 : x1 < 0
  · rw [if_pos c8] at hf
    rw [← Option.some.inj hf]; show M.2.2 ≤ M.2.2; exact Nat.le_refl _
  · rw [if_neg c8] at hf
    obtain ⟨h9, hf⟩ := ck_e hf
    obtain ⟨h10, hf⟩ := ck_e hf
    obtain ⟨M11, eM11, hf⟩ := sq_e hf
    have mM11 : M.2.2 ≤ M11.2.2 := by rw [eM11]; exact Nat.le_refl _
    rw [← Option.some.inj hf]; show M.2.2 ≤ M11.2.2; omega
theorem mo_X7_chooseNext_7 {z : mm_M} {x1 : Int32} {M : mm_M} {q7 : Int32 → mm_M → Option mm_M} (hq7 : ∀ (x1 : Int32) (M : mm_M), q7 x1 M = some z → M.2.2 ≤ z.2.2) (hf : f_X7_chooseNext_7 q7 x1 M = some z) : M.2.2 ≤ z.2.2 := by
  unfold f_X7_chooseNext_7 at hf
  by_cases c2 : x1 < 0
  · rw [if_pos c2] at hf
    have hj := mo_X7_chooseNext_34 hf; omega
  · rw [if_neg c2] at hf
    obtain ⟨h3, hf⟩ := ck_e hf
    by_cases c4 : (M.1 46 x1.toNatClampNeg) = 2
    · rw [if_pos c4] at hf
      obtain ⟨h5, hf⟩ := ck_e hf
      obtain ⟨M6, eM6, hf⟩ := sq_e hf
      have mM6 : M.2.2 ≤ M6.2.2 := by rw [eM6]; exact Nat.le_refl _
      obtain ⟨y7, ey7, hf⟩ := sq_e hf
      have hj := hq7 _ _ hf; omega
    · rw [if_neg c4] at hf
      have hj := mo_X7_chooseNext_34 hf; omega
theorem mo_X7_chooseNext_7l {z : mm_M} : ∀ (n : Nat) (x1 : Int32) (M : mm_M), f_X7_chooseNext_7l n x1 M = some z → M.2.2 ≤ z.2.2 := by
  intro n
  induction n with
  | zero => intro x1 M hf; exact absurd hf (by simp [f_X7_chooseNext_7l])
  | succ n ih => intro x1 M hf; exact mo_X7_chooseNext_7 ih hf
theorem mo_X7_chooseNext {z : mm_M} {M : mm_M} (hf : f_X7_chooseNext M = some z) : M.2.2 ≤ z.2.2 := by
  unfold f_X7_chooseNext at hf
  obtain ⟨y1, ey1, hf⟩ := sq_e hf
  have hj := mo_X7_chooseNext_7l fu_ _ _ hf; omega
def f_X7_play_70 (q33 : Int32 → Int32 → Int32 → mm_M → Option (Int32 × mm_M)) (x1 : Int32) (x2 : Int32) (x3 : Int32) (M : mm_M) : Option (Int32 × mm_M) :=
  (f_X7_chooseNext M).bind fun z11 =>
  sq_ (x3 + 1 : Int32) fun y12 =>
  q33 x1 x2 y12 z11
def f_X7_play_33 (q33 : Int32 → Int32 → Int32 → mm_M → Option (Int32 × mm_M)) (x1 : Int32) (x2 : Int32) (x3 : Int32) (M : mm_M) : Option (Int32 × mm_M) :=
  if x2 ≤ x3 then (
    some (x1, M)
  ) else (
    (f_X7_countSo M).bind fun z7 =>
    if z7 ≤ x1 then (
      f_X7_play_70 q33 x1 x2 x3 M
    ) else (
      if ¬ (M.1 42 1) < 0 ∧ (M.1 42 1).toNatClampNeg ≤ 7 then (
      sq_ (mm_ai M 44 (va_cpy (M.1 46) (M.1 44) 0 0 (M.1 42 1).toNatClampNeg)) fun M10 =>
      f_X7_play_70 q33 z7 x2 x3 M10
      ) else none
    )
  )
def f_X7_play_33l : Nat → Int32 → Int32 → Int32 → mm_M → Option (Int32 × mm_M)
  | 0, _, _, _, _ => none
  | n + 1, x1, x2, x3, M => f_X7_play_33 (f_X7_play_33l n) x1 x2 x3 M
def f_X7_play_31 (x1 : Int32) (x2 : Int32) (M : mm_M) : Option (Int32 × mm_M) :=
  f_X7_play_33l fu_ x1 x2 (0 : Int32) M
def f_X7_play_6 (q6 : Int32 → Int32 → Int32 → mm_M → Option (Int32 × mm_M)) (x1 : Int32) (x2 : Int32) (x3 : Int32) (M : mm_M) : Option (Int32 × mm_M) :=
  if (M.1 42 1) ≤ x3 then (
    f_X7_play_31 x1 x2 M
  ) else (
    if ix_ok x3 7 then (
    sq_ (mm_si M 46 x3.toNatClampNeg 0) fun M3 =>
    sq_ ((x2 * 3) : Int32) fun y4 =>
    sq_ (x3 + 1 : Int32) fun y5 =>
    q6 x1 y4 y5 M3
    ) else none
  )
def f_X7_play_6l : Nat → Int32 → Int32 → Int32 → mm_M → Option (Int32 × mm_M)
  | 0, _, _, _, _ => none
  | n + 1, x1, x2, x3, M => f_X7_play_6 (f_X7_play_6l n) x1 x2 x3 M
def f_X7_play (M : mm_M) : Option (Int32 × mm_M) :=
  f_X7_play_6l fu_ ((-1) : Int32) (1 : Int32) (0 : Int32) M
theorem mo_X7_play_70 {z : (Int32 × mm_M)} {x1 : Int32} {x2 : Int32} {x3 : Int32} {M : mm_M} {q33 : Int32 → Int32 → Int32 → mm_M → Option (Int32 × mm_M)} (hq33 : ∀ (x1 : Int32) (x2 : Int32) (x3 : Int32) (M : mm_M), q33 x1 x2 x3 M = some z → M.2.2 ≤ z.2.2.2) (hf : f_X7_play_70 q33 x1 x2 x3 M = some z) : M.2.2 ≤ z.2.2.2 := by
  unfold f_X7_play_70 at hf
  obtain ⟨z11, ez11, hf⟩ := bd_e hf
  have mz11 : M.2.2 ≤ z11.2.2 := mo_X7_chooseNext ez11
  obtain ⟨y12, ey12, hf⟩ := sq_e hf
  have hj := hq33 _ _ _ _ hf; omega
theorem mo_X7_play_33 {z : (Int32 × mm_M)} {x1 : Int32} {x2 : Int32} {x3 : Int32} {M : mm_M} {q33 : Int32 → Int32 → Int32 → mm_M → Option (Int32 × mm_M)} (hq33 : ∀ (x1 : Int32) (x2 : Int32) (x3 : Int32) (M : mm_M), q33 x1 x2 x3 M = some z → M.2.2 ≤ z.2.2.2) (hf : f_X7_play_33 q33 x1 x2 x3 M = some z) : M.2.2 ≤ z.2.2.2 := by
  unfold f_X7_play_33 at hf
  by_cases c6 : x2 ≤ x3
  · rw [if_pos c6] at hf
    rw [← Option.some.inj hf]; show M.2.2 ≤ M.2.2; exact Nat.le_refl _
  · rw [if_neg c6] at hf
    obtain ⟨z7, ez7, hf⟩ := bd_e hf
    by_cases c8 : z7 ≤ x1
    · rw [if_pos c8] at hf
      have hj := mo_X7_play_70 hq33 hf; omega
    · rw [if_neg c8] at hf
      obtain ⟨h9, hf⟩ := ck_e hf
      obtain ⟨M10, eM10, hf⟩ := sq_e hf
      have mM10 : M.2.2 ≤ M10.2.2 := by rw [eM10]; exact Nat.le_refl _
      have hj := mo_X7_play_70 hq33 hf; omega
theorem mo_X7_play_33l {z : (Int32 × mm_M)} : ∀ (n : Nat) (x1 : Int32) (x2 : Int32) (x3 : Int32) (M : mm_M), f_X7_play_33l n x1 x2 x3 M = some z → M.2.2 ≤ z.2.2.2 := by
  intro n
  induction n with
  | zero => intro x1 x2 x3 M hf; exact absurd hf (by simp [f_X7_play_33l])
  | succ n ih => intro x1 x2 x3 M hf; exact mo_X7_play_33 ih hf
theorem mo_X7_play_31 {z : (Int32 × mm_M)} {x1 : Int32} {x2 : Int32} {M : mm_M} (hf : f_X7_play_31 x1 x2 M = some z) : M.2.2 ≤ z.2.2.2 := by
  unfold f_X7_play_31 at hf
  have hj := mo_X7_play_33l fu_ _ _ _ _ hf; omega
theorem mo_X7_play_6 {z : (Int32 × mm_M)} {x1 : Int32} {x2 : Int32} {x3 : Int32} {M : mm_M} {q6 : Int32 → Int32 → Int32 → mm_M → Option (Int32 × mm_M)} (hq6 : ∀ (x1 : Int32) (x2 : Int32) (x3 : Int32) (M : mm_M), q6 x1 x2 x3 M = some z → M.2.2 ≤ z.2.2.2) (hf : f_X7_play_6 q6 x1 x2 x3 M = some z) : M.2.2 ≤ z.2.2.2 := by
  unfold f_X7_play_6 at hf
  by_cases c1 : (M.1 42 1) ≤ x3
  · rw [if_pos c1] at hf
    have hj := mo_X7_play_31 hf; omega
  · rw [if_neg c1] at hf
    obtain ⟨h2, hf⟩ := ck_e hf
    obtain ⟨M3, eM3, hf⟩ := sq_e hf
    have mM3 : M.2.2 ≤ M3.2.2 := by rw [eM3]; exact Nat.le_refl _
    obtain ⟨y4, ey4, hf⟩ := sq_e hf
    obtain ⟨y5, ey5, hf⟩ := sq_e hf
    have hj := hq6 _ _ _ _ hf; omega
theorem mo_X7_play_6l {z : (Int32 × mm_M)} : ∀ (n : Nat) (x1 : Int32) (x2 : Int32) (x3 : Int32) (M : mm_M), f_X7_play_6l n x1 x2 x3 M = some z → M.2.2 ≤ z.2.2.2 := by
  intro n
  induction n with
  | zero => intro x1 x2 x3 M hf; exact absurd hf (by simp [f_X7_play_6l])
  | succ n ih => intro x1 x2 x3 M hf; exact mo_X7_play_6 ih hf
theorem mo_X7_play {z : (Int32 × mm_M)} {M : mm_M} (hf : f_X7_play M = some z) : M.2.2 ≤ z.2.2.2 := by
  unfold f_X7_play at hf
  have hj := mo_X7_play_6l fu_ _ _ _ _ hf; omega
def f_X11_stage_102 (q38 : Int32 → Int32 → Int32 → Int32 → Int32 → Int32 → mm_M → Option (Int32 × mm_M)) (x1 : Int32) (x2 : Int32) (x3 : Int32) (x4 : Int32) (x5 : Int32) (x6 : Int32) (M : mm_M) : Option (Int32 × mm_M) :=
  sq_ (x6 + 1 : Int32) fun y17 =>
  q38 x1 x2 x3 x4 x5 y17 M
def f_X11_stage_222 (q177 : Int32 → mm_M → Option (Int32 × mm_M)) (x6 : Int32) (M : mm_M) : Option (Int32 × mm_M) :=
  sq_ (x6 + 1 : Int32) fun y33 =>
  q177 y33 M
def f_X11_stage_247 (q247 : Int32 → Int32 → mm_M → Option (Int32 × mm_M)) (x6 : Int32) (x7 : Int32) (M : mm_M) : Option (Int32 × mm_M) :=
  if (M.1 42 1) ≤ x7 then (
    some (x6, M)
  ) else (
    if ix_ok x7 7 then (
    (f_X4_add ((M.1 43 x7.toNatClampNeg).toInt64) M).bind fun z36 =>
    if ix_ok x7 7 then (
    (f_X4_add ((z36.1 44 x7.toNatClampNeg).toInt64) z36).bind fun z38 =>
    sq_ (x7 + 1 : Int32) fun y39 =>
    q247 x6 y39 z38
    ) else none ) else none
  )
def f_X11_stage_247l : Nat → Int32 → Int32 → mm_M → Option (Int32 × mm_M)
  | 0, _, _, _ => none
  | n + 1, x6, x7, M => f_X11_stage_247 (f_X11_stage_247l n) x6 x7 M
def f_X11_stage_228 (M : mm_M) : Option (Int32 × mm_M) :=
  (f_X7_play M).bind fun z31 =>
  sq_ (f_X4_clear z31.2) fun z32 =>
  f_X11_stage_247l fu_ z31.1 (0 : Int32) z32
def f_X11_stage_177 (q177 : Int32 → mm_M → Option (Int32 × mm_M)) (x6 : Int32) (M : mm_M) : Option (Int32 × mm_M) :=
  if (M.1 19 3) ≤ x6 then (
    f_X11_stage_228 M
  ) else (
    (f_X6_isStaged x6 M).bind fun z27 =>
    if z27 = 0 then (
      f_X11_stage_222 q177 x6 M
    ) else (
      if ix_ok x6 16 then (
      (f_X7_addPair (22 + x6.toNatClampNeg) M).bind fun z30 =>
      f_X11_stage_222 q177 x6 z30
      ) else none
    )
  )
def f_X11_stage_177l : Nat → Int32 → mm_M → Option (Int32 × mm_M)
  | 0, _, _ => none
  | n + 1, x6, M => f_X11_stage_177 (f_X11_stage_177l n) x6 M
def f_X11_stage_173 (t1 : Int32) (t2 : Int32) (M : mm_M) : Option (Int32 × mm_M) :=
  if ix_ok t1 3 then (
  sq_ (mm_si M 45 t1.toNatClampNeg t2) fun M25 =>
  f_X11_stage_177l fu_ (0 : Int32) M25
  ) else none
def f_X11_stage_153 (x1 : Int32) (x2 : Int32) (x5 : Int32) (t1 : Int32) (t2 : Int32) (M : mm_M) : Option (Int32 × mm_M) :=
  if ix_ok t1 3 then (
  sq_ (mm_si M 45 t1.toNatClampNeg t2) fun M22 =>
  (f_X3_courseAt x1 x5 x2 M22).bind fun z23 =>
  f_X11_stage_173 (2 : Int32) z23.1 z23.2
  ) else none
def f_X11_stage_133 (x1 : Int32) (x2 : Int32) (x4 : Int32) (x5 : Int32) (t1 : Int32) (t2 : Int32) (M : mm_M) : Option (Int32 × mm_M) :=
  if ix_ok t1 3 then (
  sq_ (mm_si M 45 t1.toNatClampNeg t2) fun M19 =>
  (f_X3_courseAt x1 x4 x2 M19).bind fun z20 =>
  f_X11_stage_153 x1 x2 x5 (1 : Int32) z20.1 z20.2
  ) else none
def f_X11_stage_108 (x1 : Int32) (x2 : Int32) (x3 : Int32) (x4 : Int32) (x5 : Int32) (M : mm_M) : Option (Int32 × mm_M) :=
  (f_X7_seat M).bind fun z15 =>
  (f_X3_courseAt x1 x3 x2 z15).bind fun z16 =>
  f_X11_stage_133 x1 x2 x4 x5 (0 : Int32) z16.1 z16.2
def f_X11_stage_38 (q38 : Int32 → Int32 → Int32 → Int32 → Int32 → Int32 → mm_M → Option (Int32 × mm_M)) (x1 : Int32) (x2 : Int32) (x3 : Int32) (x4 : Int32) (x5 : Int32) (x6 : Int32) (M : mm_M) : Option (Int32 × mm_M) :=
  if (M.1 19 3) ≤ x6 then (
    f_X11_stage_108 x1 x2 x3 x4 x5 M
  ) else (
    (f_X6_isStaged x6 M).bind fun z9 =>
    if z9 = 0 then (
      f_X11_stage_102 q38 x1 x2 x3 x4 x5 x6 M
    ) else (
      if ix_ok x6 16 then (
      sq_ (f_X7_invite (M.1 (22 + x6.toNatClampNeg) 1) M) fun z12 =>
      if ix_ok x6 16 then (
      sq_ (f_X7_invite (z12.1 (22 + x6.toNatClampNeg) 2) z12) fun z14 =>
      f_X11_stage_102 q38 x1 x2 x3 x4 x5 x6 z14
      ) else none ) else none
    )
  )
def f_X11_stage_38l : Nat → Int32 → Int32 → Int32 → Int32 → Int32 → Int32 → mm_M → Option (Int32 × mm_M)
  | 0, _, _, _, _, _, _, _ => none
  | n + 1, x1, x2, x3, x4, x5, x6, M => f_X11_stage_38 (f_X11_stage_38l n) x1 x2 x3 x4 x5 x6 M
def f_X11_stage (x1 : Int32) (x2 : Int32) (x3 : Int32) (x4 : Int32) (x5 : Int32) (M : mm_M) : Option (Int32 × mm_M) :=
  sq_ (f_X11_isThenAndThere x1 x3 x2 M) fun z1 =>
  if z1 = 0 then (
    some (((-1) : Int32), M)
  ) else (
    sq_ (f_X11_isYear x4) fun z3 =>
    if z3 = 0 then (
      some (((-1) : Int32), M)
    ) else (
      sq_ (f_X11_isYear x5) fun z5 =>
      if z5 = 0 then (
        some (((-1) : Int32), M)
      ) else (
        sq_ (f_X7_clear M) fun z7 =>
        f_X11_stage_38l fu_ x1 x2 x3 x4 x5 (0 : Int32) z7
      )
    )
  )
theorem mo_X11_stage_102 {z : (Int32 × mm_M)} {x1 : Int32} {x2 : Int32} {x3 : Int32} {x4 : Int32} {x5 : Int32} {x6 : Int32} {M : mm_M} {q38 : Int32 → Int32 → Int32 → Int32 → Int32 → Int32 → mm_M → Option (Int32 × mm_M)} (hq38 : ∀ (x1 : Int32) (x2 : Int32) (x3 : Int32) (x4 : Int32) (x5 : Int32) (x6 : Int32) (M : mm_M), q38 x1 x2 x3 x4 x5 x6 M = some z → M.2.2 ≤ z.2.2.2) (hf : f_X11_stage_102 q38 x1 x2 x3 x4 x5 x6 M = some z) : M.2.2 ≤ z.2.2.2 := by
  unfold f_X11_stage_102 at hf
  obtain ⟨y17, ey17, hf⟩ := sq_e hf
  have hj := hq38 _ _ _ _ _ _ _ hf; omega
theorem mo_X11_stage_222 {z : (Int32 × mm_M)} {x6 : Int32} {M : mm_M} {q177 : Int32 → mm_M → Option (Int32 × mm_M)} (hq177 : ∀ (x6 : Int32) (M : mm_M), q177 x6 M = some z → M.2.2 ≤ z.2.2.2) (hf : f_X11_stage_222 q177 x6 M = some z) : M.2.2 ≤ z.2.2.2 := by
  unfold f_X11_stage_222 at hf
  obtain ⟨y33, ey33, hf⟩ := sq_e hf
  have hj := hq177 _ _ hf; omega
theorem mo_X11_stage_247 {z : (Int32 × mm_M)} {x6 : Int32} {x7 : Int32} {M : mm_M} {q247 : Int32 → Int32 → mm_M → Option (Int32 × mm_M)} (hq247 : ∀ (x6 : Int32) (x7 : Int32) (M : mm_M), q247 x6 x7 M = some z → M.2.2 ≤ z.2.2.2) (hf : f_X11_stage_247 q247 x6 x7 M = some z) : M.2.2 ≤ z.2.2.2 := by
  unfold f_X11_stage_247 at hf
  by_cases c34 : (M.1 42 1) ≤ x7
  · rw [if_pos c34] at hf
    rw [← Option.some.inj hf]; show M.2.2 ≤ M.2.2; exact Nat.le_refl _
  · rw [if_neg c34] at hf
    obtain ⟨h35, hf⟩ := ck_e hf
    obtain ⟨z36, ez36, hf⟩ := bd_e hf
    have mz36 : M.2.2 ≤ z36.2.2 := mo_X4_add ez36
    obtain ⟨h37, hf⟩ := ck_e hf
    obtain ⟨z38, ez38, hf⟩ := bd_e hf
    have mz38 : z36.2.2 ≤ z38.2.2 := mo_X4_add ez38
    obtain ⟨y39, ey39, hf⟩ := sq_e hf
    have hj := hq247 _ _ _ hf; omega
theorem mo_X11_stage_247l {z : (Int32 × mm_M)} : ∀ (n : Nat) (x6 : Int32) (x7 : Int32) (M : mm_M), f_X11_stage_247l n x6 x7 M = some z → M.2.2 ≤ z.2.2.2 := by
  intro n
  induction n with
  | zero => intro x6 x7 M hf; exact absurd hf (by simp [f_X11_stage_247l])
  | succ n ih => intro x6 x7 M hf; exact mo_X11_stage_247 ih hf
theorem mo_X11_stage_228 {z : (Int32 × mm_M)} {M : mm_M} (hf : f_X11_stage_228 M = some z) : M.2.2 ≤ z.2.2.2 := by
  unfold f_X11_stage_228 at hf
  obtain ⟨z31, ez31, hf⟩ := bd_e hf
  have mz31 : M.2.2 ≤ z31.2.2.2 := mo_X7_play ez31
  obtain ⟨z32, ez32, hf⟩ := sq_e hf
  have mz32 : z31.2.2.2 ≤ z32.2.2 := mo_X4_clear ez32.symm
  have hj := mo_X11_stage_247l fu_ _ _ _ hf; omega
theorem mo_X11_stage_177 {z : (Int32 × mm_M)} {x6 : Int32} {M : mm_M} {q177 : Int32 → mm_M → Option (Int32 × mm_M)} (hq177 : ∀ (x6 : Int32) (M : mm_M), q177 x6 M = some z → M.2.2 ≤ z.2.2.2) (hf : f_X11_stage_177 q177 x6 M = some z) : M.2.2 ≤ z.2.2.2 := by
  unfold f_X11_stage_177 at hf
  by_cases c26 : (M.1 19 3) ≤ x6
  · rw [if_pos c26] at hf
    have hj := mo_X11_stage_228 hf; omega
  · rw [if_neg c26] at hf
    obtain ⟨z27, ez27, hf⟩ := bd_e hf
    by_cases c28 : z27 = 0
    · rw [if_pos c28] at hf
      have hj := mo_X11_stage_222 hq177 hf; omega
    · rw [if_neg c28] at hf
      obtain ⟨h29, hf⟩ := ck_e hf
      obtain ⟨z30, ez30, hf⟩ := bd_e hf
      have mz30 : M.2.2 ≤ z30.2.2 := mo_X7_addPair ez30
      have hj := mo_X11_stage_222 hq177 hf; omega
theorem mo_X11_stage_177l {z : (Int32 × mm_M)} : ∀ (n : Nat) (x6 : Int32) (M : mm_M), f_X11_stage_177l n x6 M = some z → M.2.2 ≤ z.2.2.2 := by
  intro n
  induction n with
  | zero => intro x6 M hf; exact absurd hf (by simp [f_X11_stage_177l])
  | succ n ih => intro x6 M hf; exact mo_X11_stage_177 ih hf
theorem mo_X11_stage_173 {z : (Int32 × mm_M)} {t1 : Int32} {t2 : Int32} {M : mm_M} (hf : f_X11_stage_173 t1 t2 M = some z) : M.2.2 ≤ z.2.2.2 := by
  unfold f_X11_stage_173 at hf
  obtain ⟨h24, hf⟩ := ck_e hf
  obtain ⟨M25, eM25, hf⟩ := sq_e hf
  have mM25 : M.2.2 ≤ M25.2.2 := by rw [eM25]; exact Nat.le_refl _
  have hj := mo_X11_stage_177l fu_ _ _ hf; omega
theorem mo_X11_stage_153 {z : (Int32 × mm_M)} {x1 : Int32} {x2 : Int32} {x5 : Int32} {t1 : Int32} {t2 : Int32} {M : mm_M} (hf : f_X11_stage_153 x1 x2 x5 t1 t2 M = some z) : M.2.2 ≤ z.2.2.2 := by
  unfold f_X11_stage_153 at hf
  obtain ⟨h21, hf⟩ := ck_e hf
  obtain ⟨M22, eM22, hf⟩ := sq_e hf
  have mM22 : M.2.2 ≤ M22.2.2 := by rw [eM22]; exact Nat.le_refl _
  obtain ⟨z23, ez23, hf⟩ := bd_e hf
  have mz23 : M22.2.2 ≤ z23.2.2.2 := mo_X3_courseAt ez23
  have hj := mo_X11_stage_173 hf; omega
theorem mo_X11_stage_133 {z : (Int32 × mm_M)} {x1 : Int32} {x2 : Int32} {x4 : Int32} {x5 : Int32} {t1 : Int32} {t2 : Int32} {M : mm_M} (hf : f_X11_stage_133 x1 x2 x4 x5 t1 t2 M = some z) : M.2.2 ≤ z.2.2.2 := by
  unfold f_X11_stage_133 at hf
  obtain ⟨h18, hf⟩ := ck_e hf
  obtain ⟨M19, eM19, hf⟩ := sq_e hf
  have mM19 : M.2.2 ≤ M19.2.2 := by rw [eM19]; exact Nat.le_refl _
  obtain ⟨z20, ez20, hf⟩ := bd_e hf
  have mz20 : M19.2.2 ≤ z20.2.2.2 := mo_X3_courseAt ez20
  have hj := mo_X11_stage_153 hf; omega
theorem mo_X11_stage_108 {z : (Int32 × mm_M)} {x1 : Int32} {x2 : Int32} {x3 : Int32} {x4 : Int32} {x5 : Int32} {M : mm_M} (hf : f_X11_stage_108 x1 x2 x3 x4 x5 M = some z) : M.2.2 ≤ z.2.2.2 := by
  unfold f_X11_stage_108 at hf
  obtain ⟨z15, ez15, hf⟩ := bd_e hf
  have mz15 : M.2.2 ≤ z15.2.2 := mo_X7_seat ez15
  obtain ⟨z16, ez16, hf⟩ := bd_e hf
  have mz16 : z15.2.2 ≤ z16.2.2.2 := mo_X3_courseAt ez16
  have hj := mo_X11_stage_133 hf; omega
theorem mo_X11_stage_38 {z : (Int32 × mm_M)} {x1 : Int32} {x2 : Int32} {x3 : Int32} {x4 : Int32} {x5 : Int32} {x6 : Int32} {M : mm_M} {q38 : Int32 → Int32 → Int32 → Int32 → Int32 → Int32 → mm_M → Option (Int32 × mm_M)} (hq38 : ∀ (x1 : Int32) (x2 : Int32) (x3 : Int32) (x4 : Int32) (x5 : Int32) (x6 : Int32) (M : mm_M), q38 x1 x2 x3 x4 x5 x6 M = some z → M.2.2 ≤ z.2.2.2) (hf : f_X11_stage_38 q38 x1 x2 x3 x4 x5 x6 M = some z) : M.2.2 ≤ z.2.2.2 := by
  unfold f_X11_stage_38 at hf
  by_cases c8 : (M.1 19 3) ≤ x6
  · rw [if_pos c8] at hf
    have hj := mo_X11_stage_108 hf; omega
  · rw [if_neg c8] at hf
    obtain ⟨z9, ez9, hf⟩ := bd_e hf
    by_cases c10 : z9 = 0
    · rw [if_pos c10] at hf
      have hj := mo_X11_stage_102 hq38 hf; omega
    · rw [if_neg c10] at hf
      obtain ⟨h11, hf⟩ := ck_e hf
      obtain ⟨z12, ez12, hf⟩ := sq_e hf
      have mz12 : M.2.2 ≤ z12.2.2 := mo_X7_invite ez12.symm
      obtain ⟨h13, hf⟩ := ck_e hf
      obtain ⟨z14, ez14, hf⟩ := sq_e hf
      have mz14 : z12.2.2 ≤ z14.2.2 := mo_X7_invite ez14.symm
      have hj := mo_X11_stage_102 hq38 hf; omega
theorem mo_X11_stage_38l {z : (Int32 × mm_M)} : ∀ (n : Nat) (x1 : Int32) (x2 : Int32) (x3 : Int32) (x4 : Int32) (x5 : Int32) (x6 : Int32) (M : mm_M), f_X11_stage_38l n x1 x2 x3 x4 x5 x6 M = some z → M.2.2 ≤ z.2.2.2 := by
  intro n
  induction n with
  | zero => intro x1 x2 x3 x4 x5 x6 M hf; exact absurd hf (by simp [f_X11_stage_38l])
  | succ n ih => intro x1 x2 x3 x4 x5 x6 M hf; exact mo_X11_stage_38 ih hf
theorem mo_X11_stage {z : (Int32 × mm_M)} {x1 : Int32} {x2 : Int32} {x3 : Int32} {x4 : Int32} {x5 : Int32} {M : mm_M} (hf : f_X11_stage x1 x2 x3 x4 x5 M = some z) : M.2.2 ≤ z.2.2.2 := by
  unfold f_X11_stage at hf
  obtain ⟨z1, ez1, hf⟩ := sq_e hf
  by_cases c2 : z1 = 0
  · rw [if_pos c2] at hf
    rw [← Option.some.inj hf]; show M.2.2 ≤ M.2.2; exact Nat.le_refl _
  · rw [if_neg c2] at hf
    obtain ⟨z3, ez3, hf⟩ := sq_e hf
    by_cases c4 : z3 = 0
    · rw [if_pos c4] at hf
      rw [← Option.some.inj hf]; show M.2.2 ≤ M.2.2; exact Nat.le_refl _
    · rw [if_neg c4] at hf
      obtain ⟨z5, ez5, hf⟩ := sq_e hf
      by_cases c6 : z5 = 0
      · rw [if_pos c6] at hf
        rw [← Option.some.inj hf]; show M.2.2 ≤ M.2.2; exact Nat.le_refl _
      · rw [if_neg c6] at hf
        obtain ⟨z7, ez7, hf⟩ := sq_e hf
        have mz7 : M.2.2 ≤ z7.2.2 := mo_X7_clear ez7.symm
        have hj := mo_X11_stage_38l fu_ _ _ _ _ _ _ _ hf; omega
def f_X11_might_122 (q58 : Int32 → Int32 → Int32 → Int32 → Int32 → mm_M → Option (Int32 × mm_M)) (x4 : Int32) (x5 : Int32) (x7 : Int32) (x8 : Int32) (x9 : Int32) (M : mm_M) : Option (Int32 × mm_M) :=
  sq_ (x9 + 1 : Int32) fun y17 =>
  q58 x4 x5 x7 x8 y17 M
def f_X11_might_119 (q58 : Int32 → Int32 → Int32 → Int32 → Int32 → mm_M → Option (Int32 × mm_M)) (x4 : Int32) (x5 : Int32) (x7 : Int32) (x9 : Int32) (t0 : Int32) (t1 : Int32) (M : mm_M) : Option (Int32 × mm_M) :=
  sq_ ((t0 + t1) : Int32) fun y20 =>
  f_X11_might_122 q58 x4 x5 x7 y20 x9 M
def f_X11_might_104 (q58 : Int32 → Int32 → Int32 → Int32 → Int32 → mm_M → Option (Int32 × mm_M)) (x4 : Int32) (x5 : Int32) (x7 : Int32) (x9 : Int32) (t0 : Int32) (t2 : Int32) (M : mm_M) : Option (Int32 × mm_M) :=
  (f_X5_isSoOn 38 t2 M).bind fun z18 =>
  if z18 = 0 then (
    f_X11_might_119 q58 x4 x5 x7 x9 t0 (0 : Int32) M
  ) else (
    f_X11_might_119 q58 x4 x5 x7 x9 t0 (1 : Int32) M
  )
def f_X11_might_128 (x7 : Int32) (x8 : Int32) (M : mm_M) : Option (Int32 × mm_M) :=
  sq_ (f_X4_clear M) fun z14 =>
  (f_X4_add (x8.toInt64) z14).bind fun z15 =>
  (f_X4_add ((x7 - x8).toInt64) z15).bind fun z16 =>
  some (x7, z16)
def f_X11_might_58 (q58 : Int32 → Int32 → Int32 → Int32 → Int32 → mm_M → Option (Int32 × mm_M)) (x4 : Int32) (x5 : Int32) (x7 : Int32) (x8 : Int32) (x9 : Int32) (M : mm_M) : Option (Int32 × mm_M) :=
  if (M.1 14 2) ≤ x9 then (
    f_X11_might_128 x7 x8 M
  ) else (
    (f_X6_fitsTo x9 M).bind fun z10 =>
    if z10 = 0 then (
      f_X11_might_122 q58 x4 x5 x7 x8 x9 M
    ) else (
      sq_ (x7 + 1 : Int32) fun y12 =>
      (f_X3_courseAt x9 x4 x5 M).bind fun z13 =>
      f_X11_might_104 q58 x4 x5 y12 x9 x8 z13.1 z13.2
    )
  )
def f_X11_might_58l : Nat → Int32 → Int32 → Int32 → Int32 → Int32 → mm_M → Option (Int32 × mm_M)
  | 0, _, _, _, _, _, _ => none
  | n + 1, x4, x5, x7, x8, x9, M => f_X11_might_58 (f_X11_might_58l n) x4 x5 x7 x8 x9 M
def f_X11_might_37 (x1 : Int32) (x2 : Int32) (x3 : Int32) (x4 : Int32) (x5 : Int32) (x6 : Int32) (M : mm_M) : Option (Int32 × mm_M) :=
  sq_ (f_X5_tell 38 x1 x2 x3 x6 M) fun z8 =>
  f_X11_might_58l fu_ x4 x5 (0 : Int32) (0 : Int32) (0 : Int32) z8
def f_X11_might (x1 : Int32) (x2 : Int32) (x3 : Int32) (x4 : Int32) (x5 : Int32) (x6 : Int32) (M : mm_M) : Option (Int32 × mm_M) :=
  sq_ (f_X11_mayBeSign x1 x2 x3 x6 M) fun z1 =>
  if z1 = 0 then (
    some (((-1) : Int32), M)
  ) else (
    sq_ (f_X11_isYear x4) fun z3 =>
    if z3 = 0 then (
      some (((-1) : Int32), M)
    ) else (
      sq_ (f_X11_isPlace x5) fun z5 =>
      if z5 = 0 then (
        some (((-1) : Int32), M)
      ) else (
        (f_X6_lookAnew M).bind fun z7 =>
        f_X11_might_37 x1 x2 x3 x4 x5 x6 z7
      )
    )
  )
theorem mo_X11_might_122 {z : (Int32 × mm_M)} {x4 : Int32} {x5 : Int32} {x7 : Int32} {x8 : Int32} {x9 : Int32} {M : mm_M} {q58 : Int32 → Int32 → Int32 → Int32 → Int32 → mm_M → Option (Int32 × mm_M)} (hq58 : ∀ (x4 : Int32) (x5 : Int32) (x7 : Int32) (x8 : Int32) (x9 : Int32) (M : mm_M), q58 x4 x5 x7 x8 x9 M = some z → M.2.2 ≤ z.2.2.2) (hf : f_X11_might_122 q58 x4 x5 x7 x8 x9 M = some z) : M.2.2 ≤ z.2.2.2 := by
  unfold f_X11_might_122 at hf
  obtain ⟨y17, ey17, hf⟩ := sq_e hf
  have hj := hq58 _ _ _ _ _ _ hf; omega
theorem mo_X11_might_119 {z : (Int32 × mm_M)} {x4 : Int32} {x5 : Int32} {x7 : Int32} {x9 : Int32} {t0 : Int32} {t1 : Int32} {M : mm_M} {q58 : Int32 → Int32 → Int32 → Int32 → Int32 → mm_M → Option (Int32 × mm_M)} (hq58 : ∀ (x4 : Int32) (x5 : Int32) (x7 : Int32) (x8 : Int32) (x9 : Int32) (M : mm_M), q58 x4 x5 x7 x8 x9 M = some z → M.2.2 ≤ z.2.2.2) (hf : f_X11_might_119 q58 x4 x5 x7 x9 t0 t1 M = some z) : M.2.2 ≤ z.2.2.2 := by
  unfold f_X11_might_119 at hf
  obtain ⟨y20, ey20, hf⟩ := sq_e hf
  have hj := mo_X11_might_122 hq58 hf; omega
theorem mo_X11_might_104 {z : (Int32 × mm_M)} {x4 : Int32} {x5 : Int32} {x7 : Int32} {x9 : Int32} {t0 : Int32} {t2 : Int32} {M : mm_M} {q58 : Int32 → Int32 → Int32 → Int32 → Int32 → mm_M → Option (Int32 × mm_M)} (hq58 : ∀ (x4 : Int32) (x5 : Int32) (x7 : Int32) (x8 : Int32) (x9 : Int32) (M : mm_M), q58 x4 x5 x7 x8 x9 M = some z → M.2.2 ≤ z.2.2.2) (hf : f_X11_might_104 q58 x4 x5 x7 x9 t0 t2 M = some z) : M.2.2 ≤ z.2.2.2 := by
  unfold f_X11_might_104 at hf
  obtain ⟨z18, ez18, hf⟩ := bd_e hf
  by_cases c19 : z18 = 0
  · rw [if_pos c19] at hf
    have hj := mo_X11_might_119 hq58 hf; omega
  · rw [if_neg c19] at hf
    have hj := mo_X11_might_119 hq58 hf; omega
theorem mo_X11_might_128 {z : (Int32 × mm_M)} {x7 : Int32} {x8 : Int32} {M : mm_M} (hf : f_X11_might_128 x7 x8 M = some z) : M.2.2 ≤ z.2.2.2 := by
  unfold f_X11_might_128 at hf
  obtain ⟨z14, ez14, hf⟩ := sq_e hf
  have mz14 : M.2.2 ≤ z14.2.2 := mo_X4_clear ez14.symm
  obtain ⟨z15, ez15, hf⟩ := bd_e hf
  have mz15 : z14.2.2 ≤ z15.2.2 := mo_X4_add ez15
  obtain ⟨z16, ez16, hf⟩ := bd_e hf
  have mz16 : z15.2.2 ≤ z16.2.2 := mo_X4_add ez16
  rw [← Option.some.inj hf]; show M.2.2 ≤ z16.2.2; omega
theorem mo_X11_might_58 {z : (Int32 × mm_M)} {x4 : Int32} {x5 : Int32} {x7 : Int32} {x8 : Int32} {x9 : Int32} {M : mm_M} {q58 : Int32 → Int32 → Int32 → Int32 → Int32 → mm_M → Option (Int32 × mm_M)} (hq58 : ∀ (x4 : Int32) (x5 : Int32) (x7 : Int32) (x8 : Int32) (x9 : Int32) (M : mm_M), q58 x4 x5 x7 x8 x9 M = some z → M.2.2 ≤ z.2.2.2) (hf : f_X11_might_58 q58 x4 x5 x7 x8 x9 M = some z) : M.2.2 ≤ z.2.2.2 := by
  unfold f_X11_might_58 at hf
  by_cases c9 : (M.1 14 2) ≤ x9
  · rw [if_pos c9] at hf
    have hj := mo_X11_might_128 hf; omega
  · rw [if_neg c9] at hf
    obtain ⟨z10, ez10, hf⟩ := bd_e hf
    by_cases c11 : z10 = 0
    · rw [if_pos c11] at hf
      have hj := mo_X11_might_122 hq58 hf; omega
    · rw [if_neg c11] at hf
      obtain ⟨y12, ey12, hf⟩ := sq_e hf
      obtain ⟨z13, ez13, hf⟩ := bd_e hf
      have mz13 : M.2.2 ≤ z13.2.2.2 := mo_X3_courseAt ez13
      have hj := mo_X11_might_104 hq58 hf; omega
theorem mo_X11_might_58l {z : (Int32 × mm_M)} : ∀ (n : Nat) (x4 : Int32) (x5 : Int32) (x7 : Int32) (x8 : Int32) (x9 : Int32) (M : mm_M), f_X11_might_58l n x4 x5 x7 x8 x9 M = some z → M.2.2 ≤ z.2.2.2 := by
  intro n
  induction n with
  | zero => intro x4 x5 x7 x8 x9 M hf; exact absurd hf (by simp [f_X11_might_58l])
  | succ n ih => intro x4 x5 x7 x8 x9 M hf; exact mo_X11_might_58 ih hf
theorem mo_X11_might_37 {z : (Int32 × mm_M)} {x1 : Int32} {x2 : Int32} {x3 : Int32} {x4 : Int32} {x5 : Int32} {x6 : Int32} {M : mm_M} (hf : f_X11_might_37 x1 x2 x3 x4 x5 x6 M = some z) : M.2.2 ≤ z.2.2.2 := by
  unfold f_X11_might_37 at hf
  obtain ⟨z8, ez8, hf⟩ := sq_e hf
  have mz8 : M.2.2 ≤ z8.2.2 := mo_X5_tell ez8.symm
  have hj := mo_X11_might_58l fu_ _ _ _ _ _ _ hf; omega
theorem mo_X11_might {z : (Int32 × mm_M)} {x1 : Int32} {x2 : Int32} {x3 : Int32} {x4 : Int32} {x5 : Int32} {x6 : Int32} {M : mm_M} (hf : f_X11_might x1 x2 x3 x4 x5 x6 M = some z) : M.2.2 ≤ z.2.2.2 := by
  unfold f_X11_might at hf
  obtain ⟨z1, ez1, hf⟩ := sq_e hf
  by_cases c2 : z1 = 0
  · rw [if_pos c2] at hf
    rw [← Option.some.inj hf]; show M.2.2 ≤ M.2.2; exact Nat.le_refl _
  · rw [if_neg c2] at hf
    obtain ⟨z3, ez3, hf⟩ := sq_e hf
    by_cases c4 : z3 = 0
    · rw [if_pos c4] at hf
      rw [← Option.some.inj hf]; show M.2.2 ≤ M.2.2; exact Nat.le_refl _
    · rw [if_neg c4] at hf
      obtain ⟨z5, ez5, hf⟩ := sq_e hf
      by_cases c6 : z5 = 0
      · rw [if_pos c6] at hf
        rw [← Option.some.inj hf]; show M.2.2 ≤ M.2.2; exact Nat.le_refl _
      · rw [if_neg c6] at hf
        obtain ⟨z7, ez7, hf⟩ := bd_e hf
        have mz7 : M.2.2 ≤ z7.2.2 := mo_X6_lookAnew ez7
        have hj := mo_X11_might_37 hf; omega
def f_X11_countPairsOn_104 (q51 : Int32 → Int32 → mm_M → Option mm_M) (x2 : Int32) (x3 : Int32) (M : mm_M) : Option mm_M :=
  sq_ (x3 + 1 : Int32) fun y18 =>
  q51 x2 y18 M
def f_X11_countPairsOn_110 (q36 : Int32 → mm_M → Option mm_M) (x2 : Int32) (M : mm_M) : Option mm_M :=
  sq_ (x2 + 1 : Int32) fun y17 =>
  q36 y17 M
def f_X11_countPairsOn_51 (q36 : Int32 → mm_M → Option mm_M) (q51 : Int32 → Int32 → mm_M → Option mm_M) (x2 : Int32) (x3 : Int32) (M : mm_M) : Option mm_M :=
  if (M.1 5 2) ≤ x3 then (
    f_X11_countPairsOn_110 q36 x2 M
  ) else (
    if ix_ok x2 20 then (
    if (M.2.1 68 x2.toNatClampNeg) = 0 then (
      f_X11_countPairsOn_110 q36 x2 M
    ) else (
      if ix_ok x2 20 then (
      if ix_ok x3 20 then (
      if (M.2.1 68 x2.toNatClampNeg) = (M.2.1 68 x3.toNatClampNeg) then (
        if ix_ok ((x2 * 20) + x3) 400 then (
        if ix_ok ((x2 * 20) + x3) 400 then (
        sq_ (mm_si M 69 ((x2 * 20) + x3).toNatClampNeg ((M.1 69 ((x2 * 20) + x3).toNatClampNeg) + 1)) fun M16 =>
        f_X11_countPairsOn_104 q51 x2 x3 M16
        ) else none ) else none
      ) else (
        f_X11_countPairsOn_104 q51 x2 x3 M
      )
      ) else none ) else none
    )
    ) else none
  )
def f_X11_countPairsOn_51l (q36 : Int32 → mm_M → Option mm_M) : Nat → Int32 → Int32 → mm_M → Option mm_M
  | 0, _, _, _ => none
  | n + 1, x2, x3, M => f_X11_countPairsOn_51 q36 (f_X11_countPairsOn_51l q36 n) x2 x3 M
def f_X11_countPairsOn_36 (q36 : Int32 → mm_M → Option mm_M) (x2 : Int32) (M : mm_M) : Option mm_M :=
  if (M.1 5 2) ≤ x2 then (
    some M
  ) else (
    sq_ ((x2 + 1) : Int32) fun y7 =>
    f_X11_countPairsOn_51l q36 fu_ x2 y7 M
  )
def f_X11_countPairsOn_36l : Nat → Int32 → mm_M → Option mm_M
  | 0, _, _ => none
  | n + 1, x2, M => f_X11_countPairsOn_36 (f_X11_countPairsOn_36l n) x2 M
def f_X11_countPairsOn_34 (M : mm_M) : Option mm_M :=
  f_X11_countPairsOn_36l fu_ (0 : Int32) M
def f_X11_countPairsOn_2 (q2 : Int32 → Int32 → mm_M → Option mm_M) (x1 : Int32) (x2 : Int32) (M : mm_M) : Option mm_M :=
  if (M.1 5 2) ≤ x2 then (
    f_X11_countPairsOn_34 M
  ) else (
    (f_X9_tailOn x1 x2 M).bind fun z2 =>
    if ix_ok x2 20 then (
    sq_ (mm_sl M 68 x2.toNatClampNeg z2) fun M4 =>
    sq_ (x2 + 1 : Int32) fun y5 =>
    q2 x1 y5 M4
    ) else none
  )
def f_X11_countPairsOn_2l : Nat → Int32 → Int32 → mm_M → Option mm_M
  | 0, _, _, _ => none
  | n + 1, x1, x2, M => f_X11_countPairsOn_2 (f_X11_countPairsOn_2l n) x1 x2 M
def f_X11_countPairsOn (x1 : Int32) (M : mm_M) : Option mm_M :=
  f_X11_countPairsOn_2l fu_ x1 (0 : Int32) M
theorem mo_X11_countPairsOn_104 {z : mm_M} {x2 : Int32} {x3 : Int32} {M : mm_M} {q51 : Int32 → Int32 → mm_M → Option mm_M} (hq51 : ∀ (x2 : Int32) (x3 : Int32) (M : mm_M), q51 x2 x3 M = some z → M.2.2 ≤ z.2.2) (hf : f_X11_countPairsOn_104 q51 x2 x3 M = some z) : M.2.2 ≤ z.2.2 := by
  unfold f_X11_countPairsOn_104 at hf
  obtain ⟨y18, ey18, hf⟩ := sq_e hf
  have hj := hq51 _ _ _ hf; omega
theorem mo_X11_countPairsOn_110 {z : mm_M} {x2 : Int32} {M : mm_M} {q36 : Int32 → mm_M → Option mm_M} (hq36 : ∀ (x2 : Int32) (M : mm_M), q36 x2 M = some z → M.2.2 ≤ z.2.2) (hf : f_X11_countPairsOn_110 q36 x2 M = some z) : M.2.2 ≤ z.2.2 := by
  unfold f_X11_countPairsOn_110 at hf
  obtain ⟨y17, ey17, hf⟩ := sq_e hf
  have hj := hq36 _ _ hf; omega
theorem mo_X11_countPairsOn_51 {z : mm_M} {x2 : Int32} {x3 : Int32} {M : mm_M} {q36 : Int32 → mm_M → Option mm_M} (hq36 : ∀ (x2 : Int32) (M : mm_M), q36 x2 M = some z → M.2.2 ≤ z.2.2) {q51 : Int32 → Int32 → mm_M → Option mm_M} (hq51 : ∀ (x2 : Int32) (x3 : Int32) (M : mm_M), q51 x2 x3 M = some z → M.2.2 ≤ z.2.2) (hf : f_X11_countPairsOn_51 q36 q51 x2 x3 M = some z) : M.2.2 ≤ z.2.2 := by
  unfold f_X11_countPairsOn_51 at hf
  by_cases c8 : (M.1 5 2) ≤ x3
  · rw [if_pos c8] at hf
    have hj := mo_X11_countPairsOn_110 hq36 hf; omega
  · rw [if_neg c8] at hf
    obtain ⟨h9, hf⟩ := ck_e hf
    by_cases c10 : (M.2.1 68 x2.toNatClampNeg) = 0
    · rw [if_pos c10] at hf
      have hj := mo_X11_countPairsOn_110 hq36 hf; omega
    · rw [if_neg c10] at hf
      obtain ⟨h11, hf⟩ := ck_e hf
      obtain ⟨h12, hf⟩ := ck_e hf
      by_cases c13 : (M.2.1 68 x2.toNatClampNeg) = (M.2.1 68 x3.toNatClampNeg)
      · rw [if_pos c13] at hf
        obtain ⟨h14, hf⟩ := ck_e hf
        obtain ⟨h15, hf⟩ := ck_e hf
        obtain ⟨M16, eM16, hf⟩ := sq_e hf
        have mM16 : M.2.2 ≤ M16.2.2 := by rw [eM16]; exact Nat.le_refl _
        have hj := mo_X11_countPairsOn_104 hq51 hf; omega
      · rw [if_neg c13] at hf
        have hj := mo_X11_countPairsOn_104 hq51 hf; omega
theorem mo_X11_countPairsOn_51l {z : mm_M} {q36 : Int32 → mm_M → Option mm_M} (hq36 : ∀ (x2 : Int32) (M : mm_M), q36 x2 M = some z → M.2.2 ≤ z.2.2) : ∀ (n : Nat) (x2 : Int32) (x3 : Int32) (M : mm_M), f_X11_countPairsOn_51l q36 n x2 x3 M = some z → M.2.2 ≤ z.2.2 := by
  intro n
  induction n with
  | zero => intro x2 x3 M hf; exact absurd hf (by simp [f_X11_countPairsOn_51l])
  | succ n ih => intro x2 x3 M hf; exact mo_X11_countPairsOn_51 hq36 ih hf
theorem mo_X11_countPairsOn_36 {z : mm_M} {x2 : Int32} {M : mm_M} {q36 : Int32 → mm_M → Option mm_M} (hq36 : ∀ (x2 : Int32) (M : mm_M), q36 x2 M = some z → M.2.2 ≤ z.2.2) (hf : f_X11_countPairsOn_36 q36 x2 M = some z) : M.2.2 ≤ z.2.2 := by
  unfold f_X11_countPairsOn_36 at hf
  by_cases c6 : (M.1 5 2) ≤ x2
  · rw [if_pos c6] at hf
    rw [← Option.some.inj hf]; show M.2.2 ≤ M.2.2; exact Nat.le_refl _
  · rw [if_neg c6] at hf
    obtain ⟨y7, ey7, hf⟩ := sq_e hf
    have hj := mo_X11_countPairsOn_51l hq36 fu_ _ _ _ hf; omega
theorem mo_X11_countPairsOn_36l {z : mm_M} : ∀ (n : Nat) (x2 : Int32) (M : mm_M), f_X11_countPairsOn_36l n x2 M = some z → M.2.2 ≤ z.2.2 := by
  intro n
  induction n with
  | zero => intro x2 M hf; exact absurd hf (by simp [f_X11_countPairsOn_36l])
  | succ n ih => intro x2 M hf; exact mo_X11_countPairsOn_36 ih hf
theorem mo_X11_countPairsOn_34 {z : mm_M} {M : mm_M} (hf : f_X11_countPairsOn_34 M = some z) : M.2.2 ≤ z.2.2 := by
  unfold f_X11_countPairsOn_34 at hf
  have hj := mo_X11_countPairsOn_36l fu_ _ _ hf; omega
theorem mo_X11_countPairsOn_2 {z : mm_M} {x1 : Int32} {x2 : Int32} {M : mm_M} {q2 : Int32 → Int32 → mm_M → Option mm_M} (hq2 : ∀ (x1 : Int32) (x2 : Int32) (M : mm_M), q2 x1 x2 M = some z → M.2.2 ≤ z.2.2) (hf : f_X11_countPairsOn_2 q2 x1 x2 M = some z) : M.2.2 ≤ z.2.2 := by
  unfold f_X11_countPairsOn_2 at hf
  by_cases c1 : (M.1 5 2) ≤ x2
  · rw [if_pos c1] at hf
    have hj := mo_X11_countPairsOn_34 hf; omega
  · rw [if_neg c1] at hf
    obtain ⟨z2, ez2, hf⟩ := bd_e hf
    obtain ⟨h3, hf⟩ := ck_e hf
    obtain ⟨M4, eM4, hf⟩ := sq_e hf
    have mM4 : M.2.2 ≤ M4.2.2 := by rw [eM4]; exact Nat.le_refl _
    obtain ⟨y5, ey5, hf⟩ := sq_e hf
    have hj := hq2 _ _ _ hf; omega
theorem mo_X11_countPairsOn_2l {z : mm_M} : ∀ (n : Nat) (x1 : Int32) (x2 : Int32) (M : mm_M), f_X11_countPairsOn_2l n x1 x2 M = some z → M.2.2 ≤ z.2.2 := by
  intro n
  induction n with
  | zero => intro x1 x2 M hf; exact absurd hf (by simp [f_X11_countPairsOn_2l])
  | succ n ih => intro x1 x2 M hf; exact mo_X11_countPairsOn_2 ih hf
theorem mo_X11_countPairsOn {z : mm_M} {x1 : Int32} {M : mm_M} (hf : f_X11_countPairsOn x1 M = some z) : M.2.2 ≤ z.2.2 := by
  unfold f_X11_countPairsOn at hf
  have hj := mo_X11_countPairsOn_2l fu_ _ _ _ hf; omega
def f_X11_countPairs_55 (q13 : Int32 → Int32 → Int32 → Int32 → mm_M → Option (Int32 × mm_M)) (x1 : Int32) (x2 : Int32) (x3 : Int32) (x4 : Int32) (M : mm_M) : Option (Int32 × mm_M) :=
  sq_ (x4 + 1 : Int32) fun y7 =>
  q13 x1 x2 x3 y7 M
def f_X11_countPairs_52 (q13 : Int32 → Int32 → Int32 → Int32 → mm_M → Option (Int32 × mm_M)) (x1 : Int32) (x2 : Int32) (x3 : Int32) (x4 : Int32) (t1 : Int32) (M : mm_M) : Option (Int32 × mm_M) :=
  (f_X11_countPairsOn t1 M).bind fun z8 =>
  f_X11_countPairs_55 q13 x1 x2 x3 x4 z8
def f_X11_countPairs_13 (q13 : Int32 → Int32 → Int32 → Int32 → mm_M → Option (Int32 × mm_M)) (x1 : Int32) (x2 : Int32) (x3 : Int32) (x4 : Int32) (M : mm_M) : Option (Int32 × mm_M) :=
  if (M.1 14 2) ≤ x4 then (
    some (x3, M)
  ) else (
    (f_X6_fitsTo x4 M).bind fun z3 =>
    if z3 = 0 then (
      f_X11_countPairs_55 q13 x1 x2 x3 x4 M
    ) else (
      sq_ (x3 + 1 : Int32) fun y5 =>
      (f_X3_courseAt x4 x1 x2 M).bind fun z6 =>
      f_X11_countPairs_52 q13 x1 x2 y5 x4 z6.1 z6.2
    )
  )
def f_X11_countPairs_13l : Nat → Int32 → Int32 → Int32 → Int32 → mm_M → Option (Int32 × mm_M)
  | 0, _, _, _, _, _ => none
  | n + 1, x1, x2, x3, x4, M => f_X11_countPairs_13 (f_X11_countPairs_13l n) x1 x2 x3 x4 M
def f_X11_countPairs (x1 : Int32) (x2 : Int32) (M : mm_M) : Option (Int32 × mm_M) :=
  (f_J7_fill_53178 (0 : Int32) M).bind fun z1 =>
  f_X11_countPairs_13l fu_ x1 x2 (0 : Int32) (0 : Int32) z1
theorem mo_X11_countPairs_55 {z : (Int32 × mm_M)} {x1 : Int32} {x2 : Int32} {x3 : Int32} {x4 : Int32} {M : mm_M} {q13 : Int32 → Int32 → Int32 → Int32 → mm_M → Option (Int32 × mm_M)} (hq13 : ∀ (x1 : Int32) (x2 : Int32) (x3 : Int32) (x4 : Int32) (M : mm_M), q13 x1 x2 x3 x4 M = some z → M.2.2 ≤ z.2.2.2) (hf : f_X11_countPairs_55 q13 x1 x2 x3 x4 M = some z) : M.2.2 ≤ z.2.2.2 := by
  unfold f_X11_countPairs_55 at hf
  obtain ⟨y7, ey7, hf⟩ := sq_e hf
  have hj := hq13 _ _ _ _ _ hf; omega
theorem mo_X11_countPairs_52 {z : (Int32 × mm_M)} {x1 : Int32} {x2 : Int32} {x3 : Int32} {x4 : Int32} {t1 : Int32} {M : mm_M} {q13 : Int32 → Int32 → Int32 → Int32 → mm_M → Option (Int32 × mm_M)} (hq13 : ∀ (x1 : Int32) (x2 : Int32) (x3 : Int32) (x4 : Int32) (M : mm_M), q13 x1 x2 x3 x4 M = some z → M.2.2 ≤ z.2.2.2) (hf : f_X11_countPairs_52 q13 x1 x2 x3 x4 t1 M = some z) : M.2.2 ≤ z.2.2.2 := by
  unfold f_X11_countPairs_52 at hf
  obtain ⟨z8, ez8, hf⟩ := bd_e hf
  have mz8 : M.2.2 ≤ z8.2.2 := mo_X11_countPairsOn ez8
  have hj := mo_X11_countPairs_55 hq13 hf; omega
theorem mo_X11_countPairs_13 {z : (Int32 × mm_M)} {x1 : Int32} {x2 : Int32} {x3 : Int32} {x4 : Int32} {M : mm_M} {q13 : Int32 → Int32 → Int32 → Int32 → mm_M → Option (Int32 × mm_M)} (hq13 : ∀ (x1 : Int32) (x2 : Int32) (x3 : Int32) (x4 : Int32) (M : mm_M), q13 x1 x2 x3 x4 M = some z → M.2.2 ≤ z.2.2.2) (hf : f_X11_countPairs_13 q13 x1 x2 x3 x4 M = some z) : M.2.2 ≤ z.2.2.2 := by
  unfold f_X11_countPairs_13 at hf
  by_cases c2 : (M.1 14 2) ≤ x4
  · rw [if_pos c2] at hf
    rw [← Option.some.inj hf]; show M.2.2 ≤ M.2.2; exact Nat.le_refl _
  · rw [if_neg c2] at hf
    obtain ⟨z3, ez3, hf⟩ := bd_e hf
    by_cases c4 : z3 = 0
    · rw [if_pos c4] at hf
      have hj := mo_X11_countPairs_55 hq13 hf; omega
    · rw [if_neg c4] at hf
      obtain ⟨y5, ey5, hf⟩ := sq_e hf
      obtain ⟨z6, ez6, hf⟩ := bd_e hf
      have mz6 : M.2.2 ≤ z6.2.2.2 := mo_X3_courseAt ez6
      have hj := mo_X11_countPairs_52 hq13 hf; omega
theorem mo_X11_countPairs_13l {z : (Int32 × mm_M)} : ∀ (n : Nat) (x1 : Int32) (x2 : Int32) (x3 : Int32) (x4 : Int32) (M : mm_M), f_X11_countPairs_13l n x1 x2 x3 x4 M = some z → M.2.2 ≤ z.2.2.2 := by
  intro n
  induction n with
  | zero => intro x1 x2 x3 x4 M hf; exact absurd hf (by simp [f_X11_countPairs_13l])
  | succ n ih => intro x1 x2 x3 x4 M hf; exact mo_X11_countPairs_13 ih hf
theorem mo_X11_countPairs {z : (Int32 × mm_M)} {x1 : Int32} {x2 : Int32} {M : mm_M} (hf : f_X11_countPairs x1 x2 M = some z) : M.2.2 ≤ z.2.2.2 := by
  unfold f_X11_countPairs at hf
  obtain ⟨z1, ez1, hf⟩ := bd_e hf
  have mz1 : M.2.2 ≤ z1.2.2 := mo_J7_fill_53178 ez1
  have hj := mo_X11_countPairs_13l fu_ _ _ _ _ _ hf; omega
def f_X11_look_122 (q72 : Int32 → Int32 → Int32 → Int32 → mm_M → Option (Int32 × mm_M)) (x3 : Int32) (x5 : Int32) (x6 : Int32) (t0 : Int32) (M : mm_M) : Option (Int32 × mm_M) :=
  sq_ (x6 + 1 : Int32) fun y22 =>
  q72 x3 t0 x5 y22 M
def f_X11_look_130 (q54 : Int32 → Int32 → Int32 → mm_M → Option (Int32 × mm_M)) (x3 : Int32) (x4 : Int32) (x5 : Int32) (M : mm_M) : Option (Int32 × mm_M) :=
  sq_ (x5 + 1 : Int32) fun y21 =>
  q54 x3 x4 y21 M
def f_X11_look_72 (q54 : Int32 → Int32 → Int32 → mm_M → Option (Int32 × mm_M)) (q72 : Int32 → Int32 → Int32 → Int32 → mm_M → Option (Int32 × mm_M)) (x3 : Int32) (x4 : Int32) (x5 : Int32) (x6 : Int32) (M : mm_M) : Option (Int32 × mm_M) :=
  if (M.1 5 2) ≤ x6 then (
    f_X11_look_130 q54 x3 x4 x5 M
  ) else (
    sq_ (((x5 * 20) + x6) : Int32) fun y16 =>
    if ix_ok y16 400 then (
    if ix_ok x4 400 then (
    sq_ (f_X11_isMoreEven (M.1 69 y16.toNatClampNeg) (M.1 69 x4.toNatClampNeg) x3) fun z19 =>
    if z19 = 0 then (
      f_X11_look_122 q72 x3 x5 x6 x4 M
    ) else (
      f_X11_look_122 q72 x3 x5 x6 y16 M
    )
    ) else none ) else none
  )
def f_X11_look_72l (q54 : Int32 → Int32 → Int32 → mm_M → Option (Int32 × mm_M)) : Nat → Int32 → Int32 → Int32 → Int32 → mm_M → Option (Int32 × mm_M)
  | 0, _, _, _, _, _ => none
  | n + 1, x3, x4, x5, x6, M => f_X11_look_72 q54 (f_X11_look_72l q54 n) x3 x4 x5 x6 M
def f_X11_look_136 (x4 : Int32) (M : mm_M) : Option (Int32 × mm_M) :=
  sq_ (f_X4_clear M) fun z11 =>
  (f_X4_add ((x4 / 20).toInt64) z11).bind fun z12 =>
  (f_X4_add ((x4 - x4 / 20 * 20).toInt64) z12).bind fun z13 =>
  if ix_ok x4 400 then (
  some ((z13.1 69 x4.toNatClampNeg), z13)
  ) else none
def f_X11_look_54 (q54 : Int32 → Int32 → Int32 → mm_M → Option (Int32 × mm_M)) (x3 : Int32) (x4 : Int32) (x5 : Int32) (M : mm_M) : Option (Int32 × mm_M) :=
  if (M.1 5 2) ≤ x5 then (
    f_X11_look_136 x4 M
  ) else (
    sq_ ((x5 + 1) : Int32) fun y10 =>
    f_X11_look_72l q54 fu_ x3 x4 x5 y10 M
  )
def f_X11_look_54l : Nat → Int32 → Int32 → Int32 → mm_M → Option (Int32 × mm_M)
  | 0, _, _, _, _ => none
  | n + 1, x3, x4, x5, M => f_X11_look_54 (f_X11_look_54l n) x3 x4 x5 M
def f_X11_look_40 (t0 : Int32) (M : mm_M) : Option (Int32 × mm_M) :=
  if t0 = 0 then (
    some (((-2) : Int32), M)
  ) else (
    f_X11_look_54l fu_ t0 (1 : Int32) (0 : Int32) M
  )
def f_X11_look_34 (x1 : Int32) (x2 : Int32) (M : mm_M) : Option (Int32 × mm_M) :=
  (f_X11_countPairs x1 x2 M).bind fun z7 =>
  f_X11_look_40 z7.1 z7.2
def f_X11_look (x1 : Int32) (x2 : Int32) (M : mm_M) : Option (Int32 × mm_M) :=
  sq_ (f_X11_isYear x1) fun z1 =>
  if z1 = 0 then (
    some (((-1) : Int32), M)
  ) else (
    sq_ (f_X11_isPlace x2) fun z3 =>
    if z3 = 0 then (
      some (((-1) : Int32), M)
    ) else (
      if 2 ≤ (M.1 5 2) then (
        (f_X6_lookAnew M).bind fun z6 =>
        f_X11_look_34 x1 x2 z6
      ) else (
        some (((-1) : Int32), M)
      )
    )
  )
theorem mo_X11_look_122 {z : (Int32 × mm_M)} {x3 : Int32} {x5 : Int32} {x6 : Int32} {t0 : Int32} {M : mm_M} {q72 : Int32 → Int32 → Int32 → Int32 → mm_M → Option (Int32 × mm_M)} (hq72 : ∀ (x3 : Int32) (x4 : Int32) (x5 : Int32) (x6 : Int32) (M : mm_M), q72 x3 x4 x5 x6 M = some z → M.2.2 ≤ z.2.2.2) (hf : f_X11_look_122 q72 x3 x5 x6 t0 M = some z) : M.2.2 ≤ z.2.2.2 := by
  unfold f_X11_look_122 at hf
  obtain ⟨y22, ey22, hf⟩ := sq_e hf
  have hj := hq72 _ _ _ _ _ hf; omega
theorem mo_X11_look_130 {z : (Int32 × mm_M)} {x3 : Int32} {x4 : Int32} {x5 : Int32} {M : mm_M} {q54 : Int32 → Int32 → Int32 → mm_M → Option (Int32 × mm_M)} (hq54 : ∀ (x3 : Int32) (x4 : Int32) (x5 : Int32) (M : mm_M), q54 x3 x4 x5 M = some z → M.2.2 ≤ z.2.2.2) (hf : f_X11_look_130 q54 x3 x4 x5 M = some z) : M.2.2 ≤ z.2.2.2 := by
  unfold f_X11_look_130 at hf
  obtain ⟨y21, ey21, hf⟩ := sq_e hf
  have hj := hq54 _ _ _ _ hf; omega
theorem mo_X11_look_72 {z : (Int32 × mm_M)} {x3 : Int32} {x4 : Int32} {x5 : Int32} {x6 : Int32} {M : mm_M} {q54 : Int32 → Int32 → Int32 → mm_M → Option (Int32 × mm_M)} (hq54 : ∀ (x3 : Int32) (x4 : Int32) (x5 : Int32) (M : mm_M), q54 x3 x4 x5 M = some z → M.2.2 ≤ z.2.2.2) {q72 : Int32 → Int32 → Int32 → Int32 → mm_M → Option (Int32 × mm_M)} (hq72 : ∀ (x3 : Int32) (x4 : Int32) (x5 : Int32) (x6 : Int32) (M : mm_M), q72 x3 x4 x5 x6 M = some z → M.2.2 ≤ z.2.2.2) (hf : f_X11_look_72 q54 q72 x3 x4 x5 x6 M = some z) : M.2.2 ≤ z.2.2.2 := by
  unfold f_X11_look_72 at hf
  by_cases c15 : (M.1 5 2) ≤ x6
  · rw [if_pos c15] at hf
    have hj := mo_X11_look_130 hq54 hf; omega
  · rw [if_neg c15] at hf
    obtain ⟨y16, ey16, hf⟩ := sq_e hf
    obtain ⟨h17, hf⟩ := ck_e hf
    obtain ⟨h18, hf⟩ := ck_e hf
    obtain ⟨z19, ez19, hf⟩ := sq_e hf
    by_cases c20 : z19 = 0
    · rw [if_pos c20] at hf
      have hj := mo_X11_look_122 hq72 hf; omega
    · rw [if_neg c20] at hf
      have hj := mo_X11_look_122 hq72 hf; omega
theorem mo_X11_look_72l {z : (Int32 × mm_M)} {q54 : Int32 → Int32 → Int32 → mm_M → Option (Int32 × mm_M)} (hq54 : ∀ (x3 : Int32) (x4 : Int32) (x5 : Int32) (M : mm_M), q54 x3 x4 x5 M = some z → M.2.2 ≤ z.2.2.2) : ∀ (n : Nat) (x3 : Int32) (x4 : Int32) (x5 : Int32) (x6 : Int32) (M : mm_M), f_X11_look_72l q54 n x3 x4 x5 x6 M = some z → M.2.2 ≤ z.2.2.2 := by
  intro n
  induction n with
  | zero => intro x3 x4 x5 x6 M hf; exact absurd hf (by simp [f_X11_look_72l])
  | succ n ih => intro x3 x4 x5 x6 M hf; exact mo_X11_look_72 hq54 ih hf
theorem mo_X11_look_136 {z : (Int32 × mm_M)} {x4 : Int32} {M : mm_M} (hf : f_X11_look_136 x4 M = some z) : M.2.2 ≤ z.2.2.2 := by
  unfold f_X11_look_136 at hf
  obtain ⟨z11, ez11, hf⟩ := sq_e hf
  have mz11 : M.2.2 ≤ z11.2.2 := mo_X4_clear ez11.symm
  obtain ⟨z12, ez12, hf⟩ := bd_e hf
  have mz12 : z11.2.2 ≤ z12.2.2 := mo_X4_add ez12
  obtain ⟨z13, ez13, hf⟩ := bd_e hf
  have mz13 : z12.2.2 ≤ z13.2.2 := mo_X4_add ez13
  obtain ⟨h14, hf⟩ := ck_e hf
  rw [← Option.some.inj hf]; show M.2.2 ≤ z13.2.2; omega
theorem mo_X11_look_54 {z : (Int32 × mm_M)} {x3 : Int32} {x4 : Int32} {x5 : Int32} {M : mm_M} {q54 : Int32 → Int32 → Int32 → mm_M → Option (Int32 × mm_M)} (hq54 : ∀ (x3 : Int32) (x4 : Int32) (x5 : Int32) (M : mm_M), q54 x3 x4 x5 M = some z → M.2.2 ≤ z.2.2.2) (hf : f_X11_look_54 q54 x3 x4 x5 M = some z) : M.2.2 ≤ z.2.2.2 := by
  unfold f_X11_look_54 at hf
  by_cases c9 : (M.1 5 2) ≤ x5
  · rw [if_pos c9] at hf
    have hj := mo_X11_look_136 hf; omega
  · rw [if_neg c9] at hf
    obtain ⟨y10, ey10, hf⟩ := sq_e hf
    have hj := mo_X11_look_72l hq54 fu_ _ _ _ _ _ hf; omega
theorem mo_X11_look_54l {z : (Int32 × mm_M)} : ∀ (n : Nat) (x3 : Int32) (x4 : Int32) (x5 : Int32) (M : mm_M), f_X11_look_54l n x3 x4 x5 M = some z → M.2.2 ≤ z.2.2.2 := by
  intro n
  induction n with
  | zero => intro x3 x4 x5 M hf; exact absurd hf (by simp [f_X11_look_54l])
  | succ n ih => intro x3 x4 x5 M hf; exact mo_X11_look_54 ih hf
theorem mo_X11_look_40 {z : (Int32 × mm_M)} {t0 : Int32} {M : mm_M} (hf : f_X11_look_40 t0 M = some z) : M.2.2 ≤ z.2.2.2 := by
  unfold f_X11_look_40 at hf
  by_cases c8 : t0 = 0
  · rw [if_pos c8] at hf
    rw [← Option.some.inj hf]; show M.2.2 ≤ M.2.2; exact Nat.le_refl _
  · rw [if_neg c8] at hf
    have hj := mo_X11_look_54l fu_ _ _ _ _ hf; omega
theorem mo_X11_look_34 {z : (Int32 × mm_M)} {x1 : Int32} {x2 : Int32} {M : mm_M} (hf : f_X11_look_34 x1 x2 M = some z) : M.2.2 ≤ z.2.2.2 := by
  unfold f_X11_look_34 at hf
  obtain ⟨z7, ez7, hf⟩ := bd_e hf
  have mz7 : M.2.2 ≤ z7.2.2.2 := mo_X11_countPairs ez7
  have hj := mo_X11_look_40 hf; omega
theorem mo_X11_look {z : (Int32 × mm_M)} {x1 : Int32} {x2 : Int32} {M : mm_M} (hf : f_X11_look x1 x2 M = some z) : M.2.2 ≤ z.2.2.2 := by
  unfold f_X11_look at hf
  obtain ⟨z1, ez1, hf⟩ := sq_e hf
  by_cases c2 : z1 = 0
  · rw [if_pos c2] at hf
    rw [← Option.some.inj hf]; show M.2.2 ≤ M.2.2; exact Nat.le_refl _
  · rw [if_neg c2] at hf
    obtain ⟨z3, ez3, hf⟩ := sq_e hf
    by_cases c4 : z3 = 0
    · rw [if_pos c4] at hf
      rw [← Option.some.inj hf]; show M.2.2 ≤ M.2.2; exact Nat.le_refl _
    · rw [if_neg c4] at hf
      by_cases c5 : 2 ≤ (M.1 5 2)
      · rw [if_pos c5] at hf
        obtain ⟨z6, ez6, hf⟩ := bd_e hf
        have mz6 : M.2.2 ≤ z6.2.2 := mo_X6_lookAnew ez6
        have hj := mo_X11_look_34 hf; omega
      · rw [if_neg c5] at hf
        rw [← Option.some.inj hf]; show M.2.2 ≤ M.2.2; exact Nat.le_refl _
def f_X11_isOneWay_72 (q6 : Int32 → Int32 → Int32 → Int64 → Int32 → mm_M → Option (Int32 × mm_M)) (x1 : Int32) (x2 : Int32) (x3 : Int32) (x4 : Int64) (x6 : Int32) (M : mm_M) : Option (Int32 × mm_M) :=
  sq_ (x6 + 1 : Int32) fun y5 =>
  q6 x1 x2 x3 x4 y5 M
def f_X11_isOneWay_68 (q6 : Int32 → Int32 → Int32 → Int64 → Int32 → mm_M → Option (Int32 × mm_M)) (x1 : Int32) (x2 : Int32) (x3 : Int32) (x6 : Int32) (x7 : Int64) (M : mm_M) : Option (Int32 × mm_M) :=
  f_X11_isOneWay_72 q6 x1 x2 x3 x7 x6 M
def f_X11_isOneWay_45 (q6 : Int32 → Int32 → Int32 → Int64 → Int32 → mm_M → Option (Int32 × mm_M)) (x1 : Int32) (x2 : Int32) (x3 : Int32) (x4 : Int64) (x6 : Int32) (t1 : Int32) (M : mm_M) : Option (Int32 × mm_M) :=
  (f_X9_formOn t1 x1 M).bind fun z6 =>
  if x4 = 0 then (
    f_X11_isOneWay_68 q6 x1 x2 x3 x6 z6 M
  ) else (
    if z6 = x4 then (
      f_X11_isOneWay_68 q6 x1 x2 x3 x6 z6 M
    ) else (
      some ((0 : Int32), M)
    )
  )
def f_X11_isOneWay_6 (q6 : Int32 → Int32 → Int32 → Int64 → Int32 → mm_M → Option (Int32 × mm_M)) (x1 : Int32) (x2 : Int32) (x3 : Int32) (x4 : Int64) (x6 : Int32) (M : mm_M) : Option (Int32 × mm_M) :=
  if (M.1 14 2) ≤ x6 then (
    some ((1 : Int32), M)
  ) else (
    (f_X6_fitsTo x6 M).bind fun z2 =>
    if z2 = 0 then (
      f_X11_isOneWay_72 q6 x1 x2 x3 x4 x6 M
    ) else (
      (f_X3_courseAt x6 x2 x3 M).bind fun z4 =>
      f_X11_isOneWay_45 q6 x1 x2 x3 x4 x6 z4.1 z4.2
    )
  )
def f_X11_isOneWay_6l : Nat → Int32 → Int32 → Int32 → Int64 → Int32 → mm_M → Option (Int32 × mm_M)
  | 0, _, _, _, _, _, _ => none
  | n + 1, x1, x2, x3, x4, x6, M => f_X11_isOneWay_6 (f_X11_isOneWay_6l n) x1 x2 x3 x4 x6 M
def f_X11_isOneWay (x1 : Int32) (x2 : Int32) (x3 : Int32) (M : mm_M) : Option (Int32 × mm_M) :=
  f_X11_isOneWay_6l fu_ x1 x2 x3 (0 : Int64) (0 : Int32) M
theorem mo_X11_isOneWay_72 {z : (Int32 × mm_M)} {x1 : Int32} {x2 : Int32} {x3 : Int32} {x4 : Int64} {x6 : Int32} {M : mm_M} {q6 : Int32 → Int32 → Int32 → Int64 → Int32 → mm_M → Option (Int32 × mm_M)} (hq6 : ∀ (x1 : Int32) (x2 : Int32) (x3 : Int32) (x4 : Int64) (x6 : Int32) (M : mm_M), q6 x1 x2 x3 x4 x6 M = some z → M.2.2 ≤ z.2.2.2) (hf : f_X11_isOneWay_72 q6 x1 x2 x3 x4 x6 M = some z) : M.2.2 ≤ z.2.2.2 := by
  unfold f_X11_isOneWay_72 at hf
  obtain ⟨y5, ey5, hf⟩ := sq_e hf
  have hj := hq6 _ _ _ _ _ _ hf; omega
theorem mo_X11_isOneWay_68 {z : (Int32 × mm_M)} {x1 : Int32} {x2 : Int32} {x3 : Int32} {x6 : Int32} {x7 : Int64} {M : mm_M} {q6 : Int32 → Int32 → Int32 → Int64 → Int32 → mm_M → Option (Int32 × mm_M)} (hq6 : ∀ (x1 : Int32) (x2 : Int32) (x3 : Int32) (x4 : Int64) (x6 : Int32) (M : mm_M), q6 x1 x2 x3 x4 x6 M = some z → M.2.2 ≤ z.2.2.2) (hf : f_X11_isOneWay_68 q6 x1 x2 x3 x6 x7 M = some z) : M.2.2 ≤ z.2.2.2 := by
  unfold f_X11_isOneWay_68 at hf
  have hj := mo_X11_isOneWay_72 hq6 hf; omega
theorem mo_X11_isOneWay_45 {z : (Int32 × mm_M)} {x1 : Int32} {x2 : Int32} {x3 : Int32} {x4 : Int64} {x6 : Int32} {t1 : Int32} {M : mm_M} {q6 : Int32 → Int32 → Int32 → Int64 → Int32 → mm_M → Option (Int32 × mm_M)} (hq6 : ∀ (x1 : Int32) (x2 : Int32) (x3 : Int32) (x4 : Int64) (x6 : Int32) (M : mm_M), q6 x1 x2 x3 x4 x6 M = some z → M.2.2 ≤ z.2.2.2) (hf : f_X11_isOneWay_45 q6 x1 x2 x3 x4 x6 t1 M = some z) : M.2.2 ≤ z.2.2.2 := by
  unfold f_X11_isOneWay_45 at hf
  obtain ⟨z6, ez6, hf⟩ := bd_e hf
  by_cases c7 : x4 = 0
  · rw [if_pos c7] at hf
    have hj := mo_X11_isOneWay_68 hq6 hf; omega
  · rw [if_neg c7] at hf
    by_cases c8 : z6 = x4
    · rw [if_pos c8] at hf
      have hj := mo_X11_isOneWay_68 hq6 hf; omega
    · rw [if_neg c8] at hf
      rw [← Option.some.inj hf]; show M.2.2 ≤ M.2.2; exact Nat.le_refl _
theorem mo_X11_isOneWay_6 {z : (Int32 × mm_M)} {x1 : Int32} {x2 : Int32} {x3 : Int32} {x4 : Int64} {x6 : Int32} {M : mm_M} {q6 : Int32 → Int32 → Int32 → Int64 → Int32 → mm_M → Option (Int32 × mm_M)} (hq6 : ∀ (x1 : Int32) (x2 : Int32) (x3 : Int32) (x4 : Int64) (x6 : Int32) (M : mm_M), q6 x1 x2 x3 x4 x6 M = some z → M.2.2 ≤ z.2.2.2) (hf : f_X11_isOneWay_6 q6 x1 x2 x3 x4 x6 M = some z) : M.2.2 ≤ z.2.2.2 := by
  unfold f_X11_isOneWay_6 at hf
  by_cases c1 : (M.1 14 2) ≤ x6
  · rw [if_pos c1] at hf
    rw [← Option.some.inj hf]; show M.2.2 ≤ M.2.2; exact Nat.le_refl _
  · rw [if_neg c1] at hf
    obtain ⟨z2, ez2, hf⟩ := bd_e hf
    by_cases c3 : z2 = 0
    · rw [if_pos c3] at hf
      have hj := mo_X11_isOneWay_72 hq6 hf; omega
    · rw [if_neg c3] at hf
      obtain ⟨z4, ez4, hf⟩ := bd_e hf
      have mz4 : M.2.2 ≤ z4.2.2.2 := mo_X3_courseAt ez4
      have hj := mo_X11_isOneWay_45 hq6 hf; omega
theorem mo_X11_isOneWay_6l {z : (Int32 × mm_M)} : ∀ (n : Nat) (x1 : Int32) (x2 : Int32) (x3 : Int32) (x4 : Int64) (x6 : Int32) (M : mm_M), f_X11_isOneWay_6l n x1 x2 x3 x4 x6 M = some z → M.2.2 ≤ z.2.2.2 := by
  intro n
  induction n with
  | zero => intro x1 x2 x3 x4 x6 M hf; exact absurd hf (by simp [f_X11_isOneWay_6l])
  | succ n ih => intro x1 x2 x3 x4 x6 M hf; exact mo_X11_isOneWay_6 ih hf
theorem mo_X11_isOneWay {z : (Int32 × mm_M)} {x1 : Int32} {x2 : Int32} {x3 : Int32} {M : mm_M} (hf : f_X11_isOneWay x1 x2 x3 M = some z) : M.2.2 ≤ z.2.2.2 := by
  unfold f_X11_isOneWay at hf
  have hj := mo_X11_isOneWay_6l fu_ _ _ _ _ _ _ hf; omega
theorem bz_X11_isOneWay_72 {z : (Int32 × mm_M)} {x1 : Int32} {x2 : Int32} {x3 : Int32} {x4 : Int64} {x6 : Int32} {M : mm_M} {q6 : Int32 → Int32 → Int32 → Int64 → Int32 → mm_M → Option (Int32 × mm_M)} (hq6 : ∀ (x1 : Int32) (x2 : Int32) (x3 : Int32) (x4 : Int64) (x6 : Int32) (M : mm_M), q6 x1 x2 x3 x4 x6 M = some z → z.1 = 0 ∨ z.1 = 1) (hf : f_X11_isOneWay_72 q6 x1 x2 x3 x4 x6 M = some z) : z.1 = 0 ∨ z.1 = 1 := by
  unfold f_X11_isOneWay_72 at hf
  obtain ⟨y5, ey5, hf⟩ := sq_e hf
  exact hq6 _ _ _ _ _ _ hf
theorem bz_X11_isOneWay_68 {z : (Int32 × mm_M)} {x1 : Int32} {x2 : Int32} {x3 : Int32} {x6 : Int32} {x7 : Int64} {M : mm_M} {q6 : Int32 → Int32 → Int32 → Int64 → Int32 → mm_M → Option (Int32 × mm_M)} (hq6 : ∀ (x1 : Int32) (x2 : Int32) (x3 : Int32) (x4 : Int64) (x6 : Int32) (M : mm_M), q6 x1 x2 x3 x4 x6 M = some z → z.1 = 0 ∨ z.1 = 1) (hf : f_X11_isOneWay_68 q6 x1 x2 x3 x6 x7 M = some z) : z.1 = 0 ∨ z.1 = 1 := by
  unfold f_X11_isOneWay_68 at hf
  exact bz_X11_isOneWay_72 hq6 hf
theorem bz_X11_isOneWay_45 {z : (Int32 × mm_M)} {x1 : Int32} {x2 : Int32} {x3 : Int32} {x4 : Int64} {x6 : Int32} {t1 : Int32} {M : mm_M} {q6 : Int32 → Int32 → Int32 → Int64 → Int32 → mm_M → Option (Int32 × mm_M)} (hq6 : ∀ (x1 : Int32) (x2 : Int32) (x3 : Int32) (x4 : Int64) (x6 : Int32) (M : mm_M), q6 x1 x2 x3 x4 x6 M = some z → z.1 = 0 ∨ z.1 = 1) (hf : f_X11_isOneWay_45 q6 x1 x2 x3 x4 x6 t1 M = some z) : z.1 = 0 ∨ z.1 = 1 := by
  unfold f_X11_isOneWay_45 at hf
  obtain ⟨z6, ez6, hf⟩ := bd_e hf
  by_cases c7 : x4 = 0
  · rw [if_pos c7] at hf
    exact bz_X11_isOneWay_68 hq6 hf
  · rw [if_neg c7] at hf
    by_cases c8 : z6 = x4
    · rw [if_pos c8] at hf
      exact bz_X11_isOneWay_68 hq6 hf
    · rw [if_neg c8] at hf
      rw [← Option.some.inj hf]; exact (Or.inl rfl)
theorem bz_X11_isOneWay_6 {z : (Int32 × mm_M)} {x1 : Int32} {x2 : Int32} {x3 : Int32} {x4 : Int64} {x6 : Int32} {M : mm_M} {q6 : Int32 → Int32 → Int32 → Int64 → Int32 → mm_M → Option (Int32 × mm_M)} (hq6 : ∀ (x1 : Int32) (x2 : Int32) (x3 : Int32) (x4 : Int64) (x6 : Int32) (M : mm_M), q6 x1 x2 x3 x4 x6 M = some z → z.1 = 0 ∨ z.1 = 1) (hf : f_X11_isOneWay_6 q6 x1 x2 x3 x4 x6 M = some z) : z.1 = 0 ∨ z.1 = 1 := by
  unfold f_X11_isOneWay_6 at hf
  by_cases c1 : (M.1 14 2) ≤ x6
  · rw [if_pos c1] at hf
    rw [← Option.some.inj hf]; exact (Or.inr rfl)
  · rw [if_neg c1] at hf
    obtain ⟨z2, ez2, hf⟩ := bd_e hf
    by_cases c3 : z2 = 0
    · rw [if_pos c3] at hf
      exact bz_X11_isOneWay_72 hq6 hf
    · rw [if_neg c3] at hf
      obtain ⟨z4, ez4, hf⟩ := bd_e hf
      exact bz_X11_isOneWay_45 hq6 hf
theorem bz_X11_isOneWay_6l {z : (Int32 × mm_M)} : ∀ (n : Nat) (x1 : Int32) (x2 : Int32) (x3 : Int32) (x4 : Int64) (x6 : Int32) (M : mm_M), f_X11_isOneWay_6l n x1 x2 x3 x4 x6 M = some z → z.1 = 0 ∨ z.1 = 1 := by
  intro n
  induction n with
  | zero => intro x1 x2 x3 x4 x6 M hf; exact absurd hf (by simp [f_X11_isOneWay_6l])
  | succ n ih => intro x1 x2 x3 x4 x6 M hf; exact bz_X11_isOneWay_6 ih hf
theorem bz_X11_isOneWay {z : (Int32 × mm_M)} {x1 : Int32} {x2 : Int32} {x3 : Int32} {M : mm_M} (hf : f_X11_isOneWay x1 x2 x3 M = some z) : z.1 = 0 ∨ z.1 = 1 := by
  unfold f_X11_isOneWay at hf
  exact bz_X11_isOneWay_6l fu_ _ _ _ _ _ _ hf
def f_X11_settled_58 (q45 : Int32 → Int32 → Int32 → Int32 → mm_M → Option (Int32 × mm_M)) (x1 : Int32) (x2 : Int32) (x3 : Int32) (x4 : Int32) (t0 : Int32) (M : mm_M) : Option (Int32 × mm_M) :=
  if t0 = 0 then (
    some (x3, M)
  ) else (
    sq_ (x4 + (-10) : Int32) fun y11 =>
    q45 x1 x2 x4 y11 M
  )
def f_X11_settled_45 (q45 : Int32 → Int32 → Int32 → Int32 → mm_M → Option (Int32 × mm_M)) (x1 : Int32) (x2 : Int32) (x3 : Int32) (x4 : Int32) (M : mm_M) : Option (Int32 × mm_M) :=
  if x4 < 0 then (
    some (x3, M)
  ) else (
    (f_X11_isOneWay x1 x4 x2 M).bind fun z9 =>
    f_X11_settled_58 q45 x1 x2 x3 x4 z9.1 z9.2
  )
def f_X11_settled_45l : Nat → Int32 → Int32 → Int32 → Int32 → mm_M → Option (Int32 × mm_M)
  | 0, _, _, _, _, _ => none
  | n + 1, x1, x2, x3, x4, M => f_X11_settled_45 (f_X11_settled_45l n) x1 x2 x3 x4 M
def f_X11_settled_24 (x1 : Int32) (x2 : Int32) (M : mm_M) : Option (Int32 × mm_M) :=
  (f_X6_fitCount M).bind fun z6 =>
  if z6 = 0 then (
    some (((-2) : Int32), M)
  ) else (
    f_X11_settled_45l fu_ x1 x2 ((-2) : Int32) (600 : Int32) M
  )
def f_X11_settled (x1 : Int32) (x2 : Int32) (M : mm_M) : Option (Int32 × mm_M) :=
  sq_ (f_X11_isWord x1 M) fun z1 =>
  if z1 = 0 then (
    some (((-1) : Int32), M)
  ) else (
    sq_ (f_X11_isPlace x2) fun z3 =>
    if z3 = 0 then (
      some (((-1) : Int32), M)
    ) else (
      (f_X6_lookAnew M).bind fun z5 =>
      f_X11_settled_24 x1 x2 z5
    )
  )
theorem mo_X11_settled_58 {z : (Int32 × mm_M)} {x1 : Int32} {x2 : Int32} {x3 : Int32} {x4 : Int32} {t0 : Int32} {M : mm_M} {q45 : Int32 → Int32 → Int32 → Int32 → mm_M → Option (Int32 × mm_M)} (hq45 : ∀ (x1 : Int32) (x2 : Int32) (x3 : Int32) (x4 : Int32) (M : mm_M), q45 x1 x2 x3 x4 M = some z → M.2.2 ≤ z.2.2.2) (hf : f_X11_settled_58 q45 x1 x2 x3 x4 t0 M = some z) : M.2.2 ≤ z.2.2.2 := by
  unfold f_X11_settled_58 at hf
  by_cases c10 : t0 = 0
  · rw [if_pos c10] at hf
    rw [← Option.some.inj hf]; show M.2.2 ≤ M.2.2; exact Nat.le_refl _
  · rw [if_neg c10] at hf
    obtain ⟨y11, ey11, hf⟩ := sq_e hf
    have hj := hq45 _ _ _ _ _ hf; omega
theorem mo_X11_settled_45 {z : (Int32 × mm_M)} {x1 : Int32} {x2 : Int32} {x3 : Int32} {x4 : Int32} {M : mm_M} {q45 : Int32 → Int32 → Int32 → Int32 → mm_M → Option (Int32 × mm_M)} (hq45 : ∀ (x1 : Int32) (x2 : Int32) (x3 : Int32) (x4 : Int32) (M : mm_M), q45 x1 x2 x3 x4 M = some z → M.2.2 ≤ z.2.2.2) (hf : f_X11_settled_45 q45 x1 x2 x3 x4 M = some z) : M.2.2 ≤ z.2.2.2 := by
  unfold f_X11_settled_45 at hf
  by_cases c8 : x4 < 0
  · rw [if_pos c8] at hf
    rw [← Option.some.inj hf]; show M.2.2 ≤ M.2.2; exact Nat.le_refl _
  · rw [if_neg c8] at hf
    obtain ⟨z9, ez9, hf⟩ := bd_e hf
    have mz9 : M.2.2 ≤ z9.2.2.2 := mo_X11_isOneWay ez9
    have hj := mo_X11_settled_58 hq45 hf; omega
theorem mo_X11_settled_45l {z : (Int32 × mm_M)} : ∀ (n : Nat) (x1 : Int32) (x2 : Int32) (x3 : Int32) (x4 : Int32) (M : mm_M), f_X11_settled_45l n x1 x2 x3 x4 M = some z → M.2.2 ≤ z.2.2.2 := by
  intro n
  induction n with
  | zero => intro x1 x2 x3 x4 M hf; exact absurd hf (by simp [f_X11_settled_45l])
  | succ n ih => intro x1 x2 x3 x4 M hf; exact mo_X11_settled_45 ih hf
theorem mo_X11_settled_24 {z : (Int32 × mm_M)} {x1 : Int32} {x2 : Int32} {M : mm_M} (hf : f_X11_settled_24 x1 x2 M = some z) : M.2.2 ≤ z.2.2.2 := by
  unfold f_X11_settled_24 at hf
  obtain ⟨z6, ez6, hf⟩ := bd_e hf
  by_cases c7 : z6 = 0
  · rw [if_pos c7] at hf
    rw [← Option.some.inj hf]; show M.2.2 ≤ M.2.2; exact Nat.le_refl _
  · rw [if_neg c7] at hf
    have hj := mo_X11_settled_45l fu_ _ _ _ _ _ hf; omega
theorem mo_X11_settled {z : (Int32 × mm_M)} {x1 : Int32} {x2 : Int32} {M : mm_M} (hf : f_X11_settled x1 x2 M = some z) : M.2.2 ≤ z.2.2.2 := by
  unfold f_X11_settled at hf
  obtain ⟨z1, ez1, hf⟩ := sq_e hf
  by_cases c2 : z1 = 0
  · rw [if_pos c2] at hf
    rw [← Option.some.inj hf]; show M.2.2 ≤ M.2.2; exact Nat.le_refl _
  · rw [if_neg c2] at hf
    obtain ⟨z3, ez3, hf⟩ := sq_e hf
    by_cases c4 : z3 = 0
    · rw [if_pos c4] at hf
      rw [← Option.some.inj hf]; show M.2.2 ≤ M.2.2; exact Nat.le_refl _
    · rw [if_neg c4] at hf
      obtain ⟨z5, ez5, hf⟩ := bd_e hf
      have mz5 : M.2.2 ≤ z5.2.2 := mo_X6_lookAnew ez5
      have hj := mo_X11_settled_24 hf; omega
def f_X9_saidLike_40 (q5 : Int32 → Int32 → Int32 → Int32 → Option Int32) (x1 : Int32) (x2 : Int32) (x4 : Int32) (t0 : Int32) (t1 : Int32) (M : mm_M) : Option Int32 :=
  sq_ ((t0 ||| t1) : Int32) fun y5 =>
  sq_ (x4 + 1 : Int32) fun y6 =>
  q5 x1 x2 y5 y6
def f_X9_saidLike_5 (q5 : Int32 → Int32 → Int32 → Int32 → Option Int32) (x1 : Int32) (x2 : Int32) (x3 : Int32) (x4 : Int32) (M : mm_M) : Option Int32 :=
  if (M.1 5 2) ≤ x4 then (
    some x3
  ) else (
    (f_X9_formOn x1 x4 M).bind fun z2 =>
    (f_X9_formOn x1 x2 M).bind fun z3 =>
    if z2 = z3 then (
      f_X9_saidLike_40 q5 x1 x2 x4 x3 ((1 : Int32) <<< (x4 &&& 31)) M
    ) else (
      f_X9_saidLike_40 q5 x1 x2 x4 x3 (0 : Int32) M
    )
  )
def f_X9_saidLike_5l (M : mm_M) : Nat → Int32 → Int32 → Int32 → Int32 → Option Int32
  | 0, _, _, _, _ => none
  | n + 1, x1, x2, x3, x4 => f_X9_saidLike_5 (f_X9_saidLike_5l M n) x1 x2 x3 x4 M
def f_X9_saidLike (x1 : Int32) (x2 : Int32) (M : mm_M) : Option Int32 :=
  f_X9_saidLike_5l M fu_ x1 x2 (0 : Int32) (0 : Int32)
def f_X11_fell_87 (q42 : Int32 → Int32 → Int32 → mm_M → Option (Int32 × mm_M)) (x4 : Int32) (x6 : Int32) (t0 : Int32) (M : mm_M) : Option (Int32 × mm_M) :=
  sq_ (x6 + 1 : Int32) fun y13 =>
  q42 x4 t0 y13 M
def f_X11_fell_95 (x5 : Int32) (M : mm_M) : Option (Int32 × mm_M) :=
  sq_ (f_X4_clear M) fun z10 =>
  (f_X4_add (x5.toInt64) z10).bind fun z11 =>
  sq_ (f_J6_bitCount_0f7a4 x5) fun z12 =>
  some (z12, z11)
def f_X11_fell_42 (q42 : Int32 → Int32 → Int32 → mm_M → Option (Int32 × mm_M)) (x4 : Int32) (x5 : Int32) (x6 : Int32) (M : mm_M) : Option (Int32 × mm_M) :=
  if (M.1 5 2) ≤ x6 then (
    f_X11_fell_95 x5 M
  ) else (
    (f_X9_saidLike x4 x6 M).bind fun z6 =>
    sq_ (f_J6_bitCount_0f7a4 z6) fun z7 =>
    sq_ (f_J6_bitCount_0f7a4 x5) fun z8 =>
    if z7 ≤ z8 then (
      f_X11_fell_87 q42 x4 x6 x5 M
    ) else (
      f_X11_fell_87 q42 x4 x6 z6 M
    )
  )
def f_X11_fell_42l : Nat → Int32 → Int32 → Int32 → mm_M → Option (Int32 × mm_M)
  | 0, _, _, _, _ => none
  | n + 1, x4, x5, x6, M => f_X11_fell_42 (f_X11_fell_42l n) x4 x5 x6 M
def f_X11_fell_34 (t0 : Int32) (M : mm_M) : Option (Int32 × mm_M) :=
  f_X11_fell_42l fu_ t0 (0 : Int32) (0 : Int32) M
def f_X11_fell (x1 : Int32) (x2 : Int32) (x3 : Int32) (M : mm_M) : Option (Int32 × mm_M) :=
  sq_ (f_X11_isThenAndThere x1 x2 x3 M) fun z1 =>
  if z1 = 0 then (
    some (((-1) : Int32), M)
  ) else (
    if (M.1 5 2) = 0 then (
      some ((0 : Int32), M)
    ) else (
      (f_X3_courseAt x1 x2 x3 M).bind fun z4 =>
      f_X11_fell_34 z4.1 z4.2
    )
  )
theorem mo_X11_fell_87 {z : (Int32 × mm_M)} {x4 : Int32} {x6 : Int32} {t0 : Int32} {M : mm_M} {q42 : Int32 → Int32 → Int32 → mm_M → Option (Int32 × mm_M)} (hq42 : ∀ (x4 : Int32) (x5 : Int32) (x6 : Int32) (M : mm_M), q42 x4 x5 x6 M = some z → M.2.2 ≤ z.2.2.2) (hf : f_X11_fell_87 q42 x4 x6 t0 M = some z) : M.2.2 ≤ z.2.2.2 := by
  unfold f_X11_fell_87 at hf
  obtain ⟨y13, ey13, hf⟩ := sq_e hf
  have hj := hq42 _ _ _ _ hf; omega
theorem mo_X11_fell_95 {z : (Int32 × mm_M)} {x5 : Int32} {M : mm_M} (hf : f_X11_fell_95 x5 M = some z) : M.2.2 ≤ z.2.2.2 := by
  unfold f_X11_fell_95 at hf
  obtain ⟨z10, ez10, hf⟩ := sq_e hf
  have mz10 : M.2.2 ≤ z10.2.2 := mo_X4_clear ez10.symm
  obtain ⟨z11, ez11, hf⟩ := bd_e hf
  have mz11 : z10.2.2 ≤ z11.2.2 := mo_X4_add ez11
  obtain ⟨z12, ez12, hf⟩ := sq_e hf
  rw [← Option.some.inj hf]; show M.2.2 ≤ z11.2.2; omega
theorem mo_X11_fell_42 {z : (Int32 × mm_M)} {x4 : Int32} {x5 : Int32} {x6 : Int32} {M : mm_M} {q42 : Int32 → Int32 → Int32 → mm_M → Option (Int32 × mm_M)} (hq42 : ∀ (x4 : Int32) (x5 : Int32) (x6 : Int32) (M : mm_M), q42 x4 x5 x6 M = some z → M.2.2 ≤ z.2.2.2) (hf : f_X11_fell_42 q42 x4 x5 x6 M = some z) : M.2.2 ≤ z.2.2.2 := by
  unfold f_X11_fell_42 at hf
  by_cases c5 : (M.1 5 2) ≤ x6
  · rw [if_pos c5] at hf
    have hj := mo_X11_fell_95 hf; omega
  · rw [if_neg c5] at hf
    obtain ⟨z6, ez6, hf⟩ := bd_e hf
    obtain ⟨z7, ez7, hf⟩ := sq_e hf
    obtain ⟨z8, ez8, hf⟩ := sq_e hf
    by_cases c9 : z7 ≤ z8
    · rw [if_pos c9] at hf
      have hj := mo_X11_fell_87 hq42 hf; omega
    · rw [if_neg c9] at hf
      have hj := mo_X11_fell_87 hq42 hf; omega
theorem mo_X11_fell_42l {z : (Int32 × mm_M)} : ∀ (n : Nat) (x4 : Int32) (x5 : Int32) (x6 : Int32) (M : mm_M), f_X11_fell_42l n x4 x5 x6 M = some z → M.2.2 ≤ z.2.2.2 := by
  intro n
  induction n with
  | zero => intro x4 x5 x6 M hf; exact absurd hf (by simp [f_X11_fell_42l])
  | succ n ih => intro x4 x5 x6 M hf; exact mo_X11_fell_42 ih hf
theorem mo_X11_fell_34 {z : (Int32 × mm_M)} {t0 : Int32} {M : mm_M} (hf : f_X11_fell_34 t0 M = some z) : M.2.2 ≤ z.2.2.2 := by
  unfold f_X11_fell_34 at hf
  have hj := mo_X11_fell_42l fu_ _ _ _ _ hf; omega
theorem mo_X11_fell {z : (Int32 × mm_M)} {x1 : Int32} {x2 : Int32} {x3 : Int32} {M : mm_M} (hf : f_X11_fell x1 x2 x3 M = some z) : M.2.2 ≤ z.2.2.2 := by
  unfold f_X11_fell at hf
  obtain ⟨z1, ez1, hf⟩ := sq_e hf
  by_cases c2 : z1 = 0
  · rw [if_pos c2] at hf
    rw [← Option.some.inj hf]; show M.2.2 ≤ M.2.2; exact Nat.le_refl _
  · rw [if_neg c2] at hf
    by_cases c3 : (M.1 5 2) = 0
    · rw [if_pos c3] at hf
      rw [← Option.some.inj hf]; show M.2.2 ≤ M.2.2; exact Nat.le_refl _
    · rw [if_neg c3] at hf
      obtain ⟨z4, ez4, hf⟩ := bd_e hf
      have mz4 : M.2.2 ≤ z4.2.2.2 := mo_X3_courseAt ez4
      have hj := mo_X11_fell_34 hf; omega
def f_X11_firstSaidSo_47 (q3 : Int32 → Int64 → Int32 → Int32 → Int32 → mm_M → Option (Int32 × mm_M)) (x1 : Int32) (x2 : Int64) (x4 : Int32) (x5 : Int32) (x6 : Int32) (x7 : Int32) (t1 : Int32) (M : mm_M) : Option (Int32 × mm_M) :=
  (f_X9_formOn t1 x1 M).bind fun z4 =>
  if z4 = x2 then (
    some (x7, M)
  ) else (
    sq_ (x6 + 1 : Int32) fun y6 =>
    q3 x1 x2 x4 x5 y6 M
  )
def f_X11_firstSaidSo_3 (q3 : Int32 → Int64 → Int32 → Int32 → Int32 → mm_M → Option (Int32 × mm_M)) (x1 : Int32) (x2 : Int64) (x4 : Int32) (x5 : Int32) (x6 : Int32) (M : mm_M) : Option (Int32 × mm_M) :=
  if (M.1 5 1) < x6 then (
    some (((-1) : Int32), M)
  ) else (
    (f_X3_newsYear x4 x6 x5 M).bind fun z2 =>
    (f_X3_courseAt x4 z2 x5 M).bind fun z3 =>
    f_X11_firstSaidSo_47 q3 x1 x2 x4 x5 x6 z2 z3.1 z3.2
  )
def f_X11_firstSaidSo_3l : Nat → Int32 → Int64 → Int32 → Int32 → Int32 → mm_M → Option (Int32 × mm_M)
  | 0, _, _, _, _, _, _ => none
  | n + 1, x1, x2, x4, x5, x6, M => f_X11_firstSaidSo_3 (f_X11_firstSaidSo_3l n) x1 x2 x4 x5 x6 M
def f_X11_firstSaidSo (x1 : Int32) (x2 : Int64) (x4 : Int32) (x5 : Int32) (M : mm_M) : Option (Int32 × mm_M) :=
  f_X11_firstSaidSo_3l fu_ x1 x2 x4 x5 (0 : Int32) M
theorem mo_X11_firstSaidSo_47 {z : (Int32 × mm_M)} {x1 : Int32} {x2 : Int64} {x4 : Int32} {x5 : Int32} {x6 : Int32} {x7 : Int32} {t1 : Int32} {M : mm_M} {q3 : Int32 → Int64 → Int32 → Int32 → Int32 → mm_M → Option (Int32 × mm_M)} (hq3 : ∀ (x1 : Int32) (x2 : Int64) (x4 : Int32) (x5 : Int32) (x6 : Int32) (M : mm_M), q3 x1 x2 x4 x5 x6 M = some z → M.2.2 ≤ z.2.2.2) (hf : f_X11_firstSaidSo_47 q3 x1 x2 x4 x5 x6 x7 t1 M = some z) : M.2.2 ≤ z.2.2.2 := by
  unfold f_X11_firstSaidSo_47 at hf
  obtain ⟨z4, ez4, hf⟩ := bd_e hf
  by_cases c5 : z4 = x2
  · rw [if_pos c5] at hf
    rw [← Option.some.inj hf]; show M.2.2 ≤ M.2.2; exact Nat.le_refl _
  · rw [if_neg c5] at hf
    obtain ⟨y6, ey6, hf⟩ := sq_e hf
    have hj := hq3 _ _ _ _ _ _ hf; omega
theorem mo_X11_firstSaidSo_3 {z : (Int32 × mm_M)} {x1 : Int32} {x2 : Int64} {x4 : Int32} {x5 : Int32} {x6 : Int32} {M : mm_M} {q3 : Int32 → Int64 → Int32 → Int32 → Int32 → mm_M → Option (Int32 × mm_M)} (hq3 : ∀ (x1 : Int32) (x2 : Int64) (x4 : Int32) (x5 : Int32) (x6 : Int32) (M : mm_M), q3 x1 x2 x4 x5 x6 M = some z → M.2.2 ≤ z.2.2.2) (hf : f_X11_firstSaidSo_3 q3 x1 x2 x4 x5 x6 M = some z) : M.2.2 ≤ z.2.2.2 := by
  unfold f_X11_firstSaidSo_3 at hf
  by_cases c1 : (M.1 5 1) < x6
  · rw [if_pos c1] at hf
    rw [← Option.some.inj hf]; show M.2.2 ≤ M.2.2; exact Nat.le_refl _
  · rw [if_neg c1] at hf
    obtain ⟨z2, ez2, hf⟩ := bd_e hf
    obtain ⟨z3, ez3, hf⟩ := bd_e hf
    have mz3 : M.2.2 ≤ z3.2.2.2 := mo_X3_courseAt ez3
    have hj := mo_X11_firstSaidSo_47 hq3 hf; omega
theorem mo_X11_firstSaidSo_3l {z : (Int32 × mm_M)} : ∀ (n : Nat) (x1 : Int32) (x2 : Int64) (x4 : Int32) (x5 : Int32) (x6 : Int32) (M : mm_M), f_X11_firstSaidSo_3l n x1 x2 x4 x5 x6 M = some z → M.2.2 ≤ z.2.2.2 := by
  intro n
  induction n with
  | zero => intro x1 x2 x4 x5 x6 M hf; exact absurd hf (by simp [f_X11_firstSaidSo_3l])
  | succ n ih => intro x1 x2 x4 x5 x6 M hf; exact mo_X11_firstSaidSo_3 ih hf
theorem mo_X11_firstSaidSo {z : (Int32 × mm_M)} {x1 : Int32} {x2 : Int64} {x4 : Int32} {x5 : Int32} {M : mm_M} (hf : f_X11_firstSaidSo x1 x2 x4 x5 M = some z) : M.2.2 ≤ z.2.2.2 := by
  unfold f_X11_firstSaidSo at hf
  have hj := mo_X11_firstSaidSo_3l fu_ _ _ _ _ _ _ hf; omega
def f_X11_town_94 (q51 : Int32 → Int32 → Int64 → Int32 → Int32 → Int32 → mm_M → Option (Int32 × mm_M)) (x1 : Int32) (x2 : Int32) (x5 : Int64) (x7 : Int32) (x8 : Int32) (x9 : Int32) (M : mm_M) : Option (Int32 × mm_M) :=
  sq_ (x9 + 1 : Int32) fun y13 =>
  q51 x1 x2 x5 x7 x8 y13 M
def f_X11_town_68 (q51 : Int32 → Int32 → Int64 → Int32 → Int32 → Int32 → mm_M → Option (Int32 × mm_M)) (x1 : Int32) (x2 : Int32) (x5 : Int64) (x7 : Int32) (x8 : Int32) (x9 : Int32) (t0 : Int32) (M : mm_M) : Option (Int32 × mm_M) :=
  if t0 = (-1) then (
    some (((-2) : Int32), M)
  ) else (
    if t0 ≤ x7 then (
      f_X11_town_94 q51 x1 x2 x5 x7 x8 x9 M
    ) else (
      f_X11_town_94 q51 x1 x2 x5 t0 x9 x9 M
    )
  )
def f_X11_town_100 (x7 : Int32) (x8 : Int32) (M : mm_M) : Option (Int32 × mm_M) :=
  sq_ (f_X4_clear M) fun z9 =>
  (f_X4_add (x8.toInt64) z9).bind fun z10 =>
  some (x7, z10)
def f_X11_town_51 (q51 : Int32 → Int32 → Int64 → Int32 → Int32 → Int32 → mm_M → Option (Int32 × mm_M)) (x1 : Int32) (x2 : Int32) (x5 : Int64) (x7 : Int32) (x8 : Int32) (x9 : Int32) (M : mm_M) : Option (Int32 × mm_M) :=
  if 6 ≤ x9 then (
    f_X11_town_100 x7 x8 M
  ) else (
    (f_X11_firstSaidSo x1 x5 x2 x9 M).bind fun z8 =>
    f_X11_town_68 q51 x1 x2 x5 x7 x8 x9 z8.1 z8.2
  )
def f_X11_town_51l : Nat → Int32 → Int32 → Int64 → Int32 → Int32 → Int32 → mm_M → Option (Int32 × mm_M)
  | 0, _, _, _, _, _, _, _ => none
  | n + 1, x1, x2, x5, x7, x8, x9, M => f_X11_town_51 (f_X11_town_51l n) x1 x2 x5 x7 x8 x9 M
def f_X11_town_36 (x1 : Int32) (x2 : Int32) (t1 : Int32) (M : mm_M) : Option (Int32 × mm_M) :=
  (f_X9_formOn t1 x1 M).bind fun z6 =>
  f_X11_town_51l fu_ x1 x2 z6 ((-1) : Int32) (0 : Int32) (0 : Int32) M
def f_X11_town (x1 : Int32) (x2 : Int32) (x3 : Int32) (x4 : Int32) (M : mm_M) : Option (Int32 × mm_M) :=
  sq_ (f_X11_isWord x1 M) fun z1 =>
  if z1 = 0 then (
    some (((-1) : Int32), M)
  ) else (
    sq_ (f_X11_isThenAndThere x2 x3 x4 M) fun z3 =>
    if z3 = 0 then (
      some (((-1) : Int32), M)
    ) else (
      (f_X3_courseAt x2 x3 x4 M).bind fun z5 =>
      f_X11_town_36 x1 x2 z5.1 z5.2
    )
  )
theorem mo_X11_town_94 {z : (Int32 × mm_M)} {x1 : Int32} {x2 : Int32} {x5 : Int64} {x7 : Int32} {x8 : Int32} {x9 : Int32} {M : mm_M} {q51 : Int32 → Int32 → Int64 → Int32 → Int32 → Int32 → mm_M → Option (Int32 × mm_M)} (hq51 : ∀ (x1 : Int32) (x2 : Int32) (x5 : Int64) (x7 : Int32) (x8 : Int32) (x9 : Int32) (M : mm_M), q51 x1 x2 x5 x7 x8 x9 M = some z → M.2.2 ≤ z.2.2.2) (hf : f_X11_town_94 q51 x1 x2 x5 x7 x8 x9 M = some z) : M.2.2 ≤ z.2.2.2 := by
  unfold f_X11_town_94 at hf
  obtain ⟨y13, ey13, hf⟩ := sq_e hf
  have hj := hq51 _ _ _ _ _ _ _ hf; omega
theorem mo_X11_town_68 {z : (Int32 × mm_M)} {x1 : Int32} {x2 : Int32} {x5 : Int64} {x7 : Int32} {x8 : Int32} {x9 : Int32} {t0 : Int32} {M : mm_M} {q51 : Int32 → Int32 → Int64 → Int32 → Int32 → Int32 → mm_M → Option (Int32 × mm_M)} (hq51 : ∀ (x1 : Int32) (x2 : Int32) (x5 : Int64) (x7 : Int32) (x8 : Int32) (x9 : Int32) (M : mm_M), q51 x1 x2 x5 x7 x8 x9 M = some z → M.2.2 ≤ z.2.2.2) (hf : f_X11_town_68 q51 x1 x2 x5 x7 x8 x9 t0 M = some z) : M.2.2 ≤ z.2.2.2 := by
  unfold f_X11_town_68 at hf
  by_cases c11 : t0 = (-1)
  · rw [if_pos c11] at hf
    rw [← Option.some.inj hf]; show M.2.2 ≤ M.2.2; exact Nat.le_refl _
  · rw [if_neg c11] at hf
    by_cases c12 : t0 ≤ x7
    · rw [if_pos c12] at hf
      have hj := mo_X11_town_94 hq51 hf; omega
    · rw [if_neg c12] at hf
      have hj := mo_X11_town_94 hq51 hf; omega
theorem mo_X11_town_100 {z : (Int32 × mm_M)} {x7 : Int32} {x8 : Int32} {M : mm_M} (hf : f_X11_town_100 x7 x8 M = some z) : M.2.2 ≤ z.2.2.2 := by
  unfold f_X11_town_100 at hf
  obtain ⟨z9, ez9, hf⟩ := sq_e hf
  have mz9 : M.2.2 ≤ z9.2.2 := mo_X4_clear ez9.symm
  obtain ⟨z10, ez10, hf⟩ := bd_e hf
  have mz10 : z9.2.2 ≤ z10.2.2 := mo_X4_add ez10
  rw [← Option.some.inj hf]; show M.2.2 ≤ z10.2.2; omega
theorem mo_X11_town_51 {z : (Int32 × mm_M)} {x1 : Int32} {x2 : Int32} {x5 : Int64} {x7 : Int32} {x8 : Int32} {x9 : Int32} {M : mm_M} {q51 : Int32 → Int32 → Int64 → Int32 → Int32 → Int32 → mm_M → Option (Int32 × mm_M)} (hq51 : ∀ (x1 : Int32) (x2 : Int32) (x5 : Int64) (x7 : Int32) (x8 : Int32) (x9 : Int32) (M : mm_M), q51 x1 x2 x5 x7 x8 x9 M = some z → M.2.2 ≤ z.2.2.2) (hf : f_X11_town_51 q51 x1 x2 x5 x7 x8 x9 M = some z) : M.2.2 ≤ z.2.2.2 := by
  unfold f_X11_town_51 at hf
  by_cases c7 : 6 ≤ x9
  · rw [if_pos c7] at hf
    have hj := mo_X11_town_100 hf; omega
  · rw [if_neg c7] at hf
    obtain ⟨z8, ez8, hf⟩ := bd_e hf
    have mz8 : M.2.2 ≤ z8.2.2.2 := mo_X11_firstSaidSo ez8
    have hj := mo_X11_town_68 hq51 hf; omega
theorem mo_X11_town_51l {z : (Int32 × mm_M)} : ∀ (n : Nat) (x1 : Int32) (x2 : Int32) (x5 : Int64) (x7 : Int32) (x8 : Int32) (x9 : Int32) (M : mm_M), f_X11_town_51l n x1 x2 x5 x7 x8 x9 M = some z → M.2.2 ≤ z.2.2.2 := by
  intro n
  induction n with
  | zero => intro x1 x2 x5 x7 x8 x9 M hf; exact absurd hf (by simp [f_X11_town_51l])
  | succ n ih => intro x1 x2 x5 x7 x8 x9 M hf; exact mo_X11_town_51 ih hf
theorem mo_X11_town_36 {z : (Int32 × mm_M)} {x1 : Int32} {x2 : Int32} {t1 : Int32} {M : mm_M} (hf : f_X11_town_36 x1 x2 t1 M = some z) : M.2.2 ≤ z.2.2.2 := by
  unfold f_X11_town_36 at hf
  obtain ⟨z6, ez6, hf⟩ := bd_e hf
  have hj := mo_X11_town_51l fu_ _ _ _ _ _ _ _ hf; omega
theorem mo_X11_town {z : (Int32 × mm_M)} {x1 : Int32} {x2 : Int32} {x3 : Int32} {x4 : Int32} {M : mm_M} (hf : f_X11_town x1 x2 x3 x4 M = some z) : M.2.2 ≤ z.2.2.2 := by
  unfold f_X11_town at hf
  obtain ⟨z1, ez1, hf⟩ := sq_e hf
  by_cases c2 : z1 = 0
  · rw [if_pos c2] at hf
    rw [← Option.some.inj hf]; show M.2.2 ≤ M.2.2; exact Nat.le_refl _
  · rw [if_neg c2] at hf
    obtain ⟨z3, ez3, hf⟩ := sq_e hf
    by_cases c4 : z3 = 0
    · rw [if_pos c4] at hf
      rw [← Option.some.inj hf]; show M.2.2 ≤ M.2.2; exact Nat.le_refl _
    · rw [if_neg c4] at hf
      obtain ⟨z5, ez5, hf⟩ := bd_e hf
      have mz5 : M.2.2 ≤ z5.2.2.2 := mo_X3_courseAt ez5
      have hj := mo_X11_town_36 hf; omega
def f_X3_courseSwapped_72 (q6 : Int32 → Int32 → Int32 → Int32 → Int32 → Int32 → mm_M → Option (Int32 × mm_M)) (x1 : Int32) (x2 : Int32) (x3 : Int32) (x4 : Int32) (x6 : Int32) (t0 : Int32) (M : mm_M) : Option (Int32 × mm_M) :=
  sq_ (x6 + 1 : Int32) fun y9 =>
  q6 x1 x2 x3 x4 t0 y9 M
def f_X3_courseSwapped_69 (q6 : Int32 → Int32 → Int32 → Int32 → Int32 → Int32 → mm_M → Option (Int32 × mm_M)) (x1 : Int32) (x2 : Int32) (x3 : Int32) (x4 : Int32) (x6 : Int32) (t1 : Int32) (t2 : Int32) (M : mm_M) : Option (Int32 × mm_M) :=
  (f_X9_courseAfter t1 t2 M).bind fun z8 =>
  f_X3_courseSwapped_72 q6 x1 x2 x3 x4 x6 z8.1 z8.2
def f_X3_courseSwapped_6 (q6 : Int32 → Int32 → Int32 → Int32 → Int32 → Int32 → mm_M → Option (Int32 × mm_M)) (x1 : Int32) (x2 : Int32) (x3 : Int32) (x4 : Int32) (x5 : Int32) (x6 : Int32) (M : mm_M) : Option (Int32 × mm_M) :=
  if (M.1 14 3) ≤ x6 then (
    some (x5, M)
  ) else (
    if ix_ok x1 600 then (
    sq_ (f_X3_yearIn (M.2.1 17 x1.toNatClampNeg) x6) fun z3 =>
    if x2 < z3 then (
      some (x5, M)
    ) else (
      (f_X3_lawAt x1 x6 M).bind fun z5 =>
      if z5 = x3 then (
        f_X3_courseSwapped_69 q6 x1 x2 x3 x4 x6 x5 x4 M
      ) else (
        if z5 = x4 then (
          f_X3_courseSwapped_69 q6 x1 x2 x3 x4 x6 x5 x3 M
        ) else (
          f_X3_courseSwapped_69 q6 x1 x2 x3 x4 x6 x5 z5 M
        )
      )
    )
    ) else none
  )
def f_X3_courseSwapped_6l : Nat → Int32 → Int32 → Int32 → Int32 → Int32 → Int32 → mm_M → Option (Int32 × mm_M)
  | 0, _, _, _, _, _, _, _ => none
  | n + 1, x1, x2, x3, x4, x5, x6, M => f_X3_courseSwapped_6 (f_X3_courseSwapped_6l n) x1 x2 x3 x4 x5 x6 M
def f_X3_courseSwapped (x1 : Int32) (x2 : Int32) (x3 : Int32) (x4 : Int32) (M : mm_M) : Option (Int32 × mm_M) :=
  f_X3_courseSwapped_6l fu_ x1 x2 x3 x4 (0 : Int32) (0 : Int32) M
theorem mo_X3_courseSwapped_72 {z : (Int32 × mm_M)} {x1 : Int32} {x2 : Int32} {x3 : Int32} {x4 : Int32} {x6 : Int32} {t0 : Int32} {M : mm_M} {q6 : Int32 → Int32 → Int32 → Int32 → Int32 → Int32 → mm_M → Option (Int32 × mm_M)} (hq6 : ∀ (x1 : Int32) (x2 : Int32) (x3 : Int32) (x4 : Int32) (x5 : Int32) (x6 : Int32) (M : mm_M), q6 x1 x2 x3 x4 x5 x6 M = some z → M.2.2 ≤ z.2.2.2) (hf : f_X3_courseSwapped_72 q6 x1 x2 x3 x4 x6 t0 M = some z) : M.2.2 ≤ z.2.2.2 := by
  unfold f_X3_courseSwapped_72 at hf
  obtain ⟨y9, ey9, hf⟩ := sq_e hf
  have hj := hq6 _ _ _ _ _ _ _ hf; omega
theorem mo_X3_courseSwapped_69 {z : (Int32 × mm_M)} {x1 : Int32} {x2 : Int32} {x3 : Int32} {x4 : Int32} {x6 : Int32} {t1 : Int32} {t2 : Int32} {M : mm_M} {q6 : Int32 → Int32 → Int32 → Int32 → Int32 → Int32 → mm_M → Option (Int32 × mm_M)} (hq6 : ∀ (x1 : Int32) (x2 : Int32) (x3 : Int32) (x4 : Int32) (x5 : Int32) (x6 : Int32) (M : mm_M), q6 x1 x2 x3 x4 x5 x6 M = some z → M.2.2 ≤ z.2.2.2) (hf : f_X3_courseSwapped_69 q6 x1 x2 x3 x4 x6 t1 t2 M = some z) : M.2.2 ≤ z.2.2.2 := by
  unfold f_X3_courseSwapped_69 at hf
  obtain ⟨z8, ez8, hf⟩ := bd_e hf
  have mz8 : M.2.2 ≤ z8.2.2.2 := mo_X9_courseAfter ez8
  have hj := mo_X3_courseSwapped_72 hq6 hf; omega
theorem mo_X3_courseSwapped_6 {z : (Int32 × mm_M)} {x1 : Int32} {x2 : Int32} {x3 : Int32} {x4 : Int32} {x5 : Int32} {x6 : Int32} {M : mm_M} {q6 : Int32 → Int32 → Int32 → Int32 → Int32 → Int32 → mm_M → Option (Int32 × mm_M)} (hq6 : ∀ (x1 : Int32) (x2 : Int32) (x3 : Int32) (x4 : Int32) (x5 : Int32) (x6 : Int32) (M : mm_M), q6 x1 x2 x3 x4 x5 x6 M = some z → M.2.2 ≤ z.2.2.2) (hf : f_X3_courseSwapped_6 q6 x1 x2 x3 x4 x5 x6 M = some z) : M.2.2 ≤ z.2.2.2 := by
  unfold f_X3_courseSwapped_6 at hf
  by_cases c1 : (M.1 14 3) ≤ x6
  · rw [if_pos c1] at hf
    rw [← Option.some.inj hf]; show M.2.2 ≤ M.2.2; exact Nat.le_refl _
  · rw [if_neg c1] at hf
    obtain ⟨h2, hf⟩ := ck_e hf
    obtain ⟨z3, ez3, hf⟩ := sq_e hf
    by_cases c4 : x2 < z3
    · rw [if_pos c4] at hf
      rw [← Option.some.inj hf]; show M.2.2 ≤ M.2.2; exact Nat.le_refl _
    · rw [if_neg c4] at hf
      obtain ⟨z5, ez5, hf⟩ := bd_e hf
      by_cases c6 : z5 = x3
      · rw [if_pos c6] at hf
        have hj := mo_X3_courseSwapped_69 hq6 hf; omega
      · rw [if_neg c6] at hf
        by_cases c7 : z5 = x4
        · rw [if_pos c7] at hf
          have hj := mo_X3_courseSwapped_69 hq6 hf; omega
        · rw [if_neg c7] at hf
          have hj := mo_X3_courseSwapped_69 hq6 hf; omega
theorem mo_X3_courseSwapped_6l {z : (Int32 × mm_M)} : ∀ (n : Nat) (x1 : Int32) (x2 : Int32) (x3 : Int32) (x4 : Int32) (x5 : Int32) (x6 : Int32) (M : mm_M), f_X3_courseSwapped_6l n x1 x2 x3 x4 x5 x6 M = some z → M.2.2 ≤ z.2.2.2 := by
  intro n
  induction n with
  | zero => intro x1 x2 x3 x4 x5 x6 M hf; exact absurd hf (by simp [f_X3_courseSwapped_6l])
  | succ n ih => intro x1 x2 x3 x4 x5 x6 M hf; exact mo_X3_courseSwapped_6 ih hf
theorem mo_X3_courseSwapped {z : (Int32 × mm_M)} {x1 : Int32} {x2 : Int32} {x3 : Int32} {x4 : Int32} {M : mm_M} (hf : f_X3_courseSwapped x1 x2 x3 x4 M = some z) : M.2.2 ≤ z.2.2.2 := by
  unfold f_X3_courseSwapped at hf
  have hj := mo_X3_courseSwapped_6l fu_ _ _ _ _ _ _ _ hf; omega
def f_X11_swap_110 (x6 : Int32) (t1 : Int32) (M : mm_M) : Option (Int32 × mm_M) :=
  (f_X9_differing t1 x6 M).bind fun z15 =>
  some (z15, M)
def f_X11_swap_92 (x3 : Int32) (x4 : Int32) (x5 : Int32) (t0 : Int32) (M : mm_M) : Option (Int32 × mm_M) :=
  (f_X3_courseAt x3 x4 x5 M).bind fun z14 =>
  f_X11_swap_110 t0 z14.1 z14.2
def f_X11_swap (x1 : Int32) (x2 : Int32) (x3 : Int32) (x4 : Int32) (x5 : Int32) (M : mm_M) : Option (Int32 × mm_M) :=
  sq_ (f_X11_isLaw x1 M) fun z1 =>
  if z1 = 0 then (
    some (((-1) : Int32), M)
  ) else (
    sq_ (f_X11_isLaw x2 M) fun z3 =>
    if z3 = 0 then (
      some (((-1) : Int32), M)
    ) else (
      if x1 = x2 then (
        some (((-1) : Int32), M)
      ) else (
        sq_ (f_X11_isThenAndThere x3 x4 x5 M) fun z6 =>
        if z6 = 0 then (
          some (((-1) : Int32), M)
        ) else (
          (f_X3_hasCome x1 x3 x4 x5 M).bind fun z8 =>
          if z8 = 0 then (
            some (((-1) : Int32), M)
          ) else (
            (f_X3_hasCome x2 x3 x4 x5 M).bind fun z10 =>
            if z10 = 0 then (
              some (((-1) : Int32), M)
            ) else (
              if ix_ok x5 6 then (
              (f_X3_courseSwapped x3 (x4 - (M.1 15 x5.toNatClampNeg)) x1 x2 M).bind fun z13 =>
              f_X11_swap_92 x3 x4 x5 z13.1 z13.2
              ) else none
            )
          )
        )
      )
    )
  )
theorem mo_X11_swap_110 {z : (Int32 × mm_M)} {x6 : Int32} {t1 : Int32} {M : mm_M} (hf : f_X11_swap_110 x6 t1 M = some z) : M.2.2 ≤ z.2.2.2 := by
  unfold f_X11_swap_110 at hf
  obtain ⟨z15, ez15, hf⟩ := bd_e hf
  rw [← Option.some.inj hf]; show M.2.2 ≤ M.2.2; exact Nat.le_refl _
theorem mo_X11_swap_92 {z : (Int32 × mm_M)} {x3 : Int32} {x4 : Int32} {x5 : Int32} {t0 : Int32} {M : mm_M} (hf : f_X11_swap_92 x3 x4 x5 t0 M = some z) : M.2.2 ≤ z.2.2.2 := by
  unfold f_X11_swap_92 at hf
  obtain ⟨z14, ez14, hf⟩ := bd_e hf
  have mz14 : M.2.2 ≤ z14.2.2.2 := mo_X3_courseAt ez14
  have hj := mo_X11_swap_110 hf; omega
theorem mo_X11_swap {z : (Int32 × mm_M)} {x1 : Int32} {x2 : Int32} {x3 : Int32} {x4 : Int32} {x5 : Int32} {M : mm_M} (hf : f_X11_swap x1 x2 x3 x4 x5 M = some z) : M.2.2 ≤ z.2.2.2 := by
  unfold f_X11_swap at hf
  obtain ⟨z1, ez1, hf⟩ := sq_e hf
  by_cases c2 : z1 = 0
  · rw [if_pos c2] at hf
    rw [← Option.some.inj hf]; show M.2.2 ≤ M.2.2; exact Nat.le_refl _
  · rw [if_neg c2] at hf
    obtain ⟨z3, ez3, hf⟩ := sq_e hf
    by_cases c4 : z3 = 0
    · rw [if_pos c4] at hf
      rw [← Option.some.inj hf]; show M.2.2 ≤ M.2.2; exact Nat.le_refl _
    · rw [if_neg c4] at hf
      by_cases c5 : x1 = x2
      · rw [if_pos c5] at hf
        rw [← Option.some.inj hf]; show M.2.2 ≤ M.2.2; exact Nat.le_refl _
      · rw [if_neg c5] at hf
        obtain ⟨z6, ez6, hf⟩ := sq_e hf
        by_cases c7 : z6 = 0
        · rw [if_pos c7] at hf
          rw [← Option.some.inj hf]; show M.2.2 ≤ M.2.2; exact Nat.le_refl _
        · rw [if_neg c7] at hf
          obtain ⟨z8, ez8, hf⟩ := bd_e hf
          by_cases c9 : z8 = 0
          · rw [if_pos c9] at hf
            rw [← Option.some.inj hf]; show M.2.2 ≤ M.2.2; exact Nat.le_refl _
          · rw [if_neg c9] at hf
            obtain ⟨z10, ez10, hf⟩ := bd_e hf
            by_cases c11 : z10 = 0
            · rw [if_pos c11] at hf
              rw [← Option.some.inj hf]; show M.2.2 ≤ M.2.2; exact Nat.le_refl _
            · rw [if_neg c11] at hf
              obtain ⟨h12, hf⟩ := ck_e hf
              obtain ⟨z13, ez13, hf⟩ := bd_e hf
              have mz13 : M.2.2 ≤ z13.2.2.2 := mo_X3_courseSwapped ez13
              have hj := mo_X11_swap_92 hf; omega
def f_X11_keep (x1 : Int32) (M : mm_M) : Option (Int32 × mm_M) :=
  sq_ (f_X11_isBelow x1 (3 : Int32)) fun z1 =>
  if z1 = 0 then (
    some ((0 : Int32), M)
  ) else (
    if ix_ok x1 3 then (
    (f_X1_take (51 + 5 * x1.toNatClampNeg) M).bind fun z4 =>
    some ((1 : Int32), z4)
    ) else none
  )
theorem mo_X11_keep {z : (Int32 × mm_M)} {x1 : Int32} {M : mm_M} (hf : f_X11_keep x1 M = some z) : M.2.2 ≤ z.2.2.2 := by
  unfold f_X11_keep at hf
  obtain ⟨z1, ez1, hf⟩ := sq_e hf
  by_cases c2 : z1 = 0
  · rw [if_pos c2] at hf
    rw [← Option.some.inj hf]; show M.2.2 ≤ M.2.2; exact Nat.le_refl _
  · rw [if_neg c2] at hf
    obtain ⟨h3, hf⟩ := ck_e hf
    obtain ⟨z4, ez4, hf⟩ := bd_e hf
    have mz4 : M.2.2 ≤ z4.2.2 := mo_X1_take ez4
    rw [← Option.some.inj hf]; show M.2.2 ≤ z4.2.2; omega
theorem bz_X11_keep {z : (Int32 × mm_M)} {x1 : Int32} {M : mm_M} (hf : f_X11_keep x1 M = some z) : z.1 = 0 ∨ z.1 = 1 := by
  unfold f_X11_keep at hf
  obtain ⟨z1, ez1, hf⟩ := sq_e hf
  by_cases c2 : z1 = 0
  · rw [if_pos c2] at hf
    rw [← Option.some.inj hf]; exact (Or.inl rfl)
  · rw [if_neg c2] at hf
    obtain ⟨h3, hf⟩ := ck_e hf
    obtain ⟨z4, ez4, hf⟩ := bd_e hf
    rw [← Option.some.inj hf]; exact (Or.inr rfl)
def f_X11_again_75 (M : mm_M) : Option (Int32 × mm_M) :=
  sq_ (f_X6_doubtAll M) fun z12 =>
  some ((1 : Int32), z12)
def f_X11_again_44 (q44 : Int32 → Int32 → mm_M → Option (Int32 × mm_M)) (x1 : Int32) (x2 : Int32) (M : mm_M) : Option (Int32 × mm_M) :=
  if 6 ≤ x2 then (
    f_X11_again_75 M
  ) else (
    if ix_ok x1 3 then (
    if ix_ok x2 6 then (
    (f_X9_setClass x2 (M.1 ((51 + 5 * x1.toNatClampNeg) + 4) x2.toNatClampNeg) M).bind fun z10 =>
    sq_ (x2 + 1 : Int32) fun y11 =>
    q44 x1 y11 z10
    ) else none ) else none
  )
def f_X11_again_44l : Nat → Int32 → Int32 → mm_M → Option (Int32 × mm_M)
  | 0, _, _, _ => none
  | n + 1, x1, x2, M => f_X11_again_44 (f_X11_again_44l n) x1 x2 M
def f_X11_again (x1 : Int32) (M : mm_M) : Option (Int32 × mm_M) :=
  sq_ (f_X11_isBelow x1 (3 : Int32)) fun z1 =>
  if z1 = 0 then (
    some ((0 : Int32), M)
  ) else (
    if ix_ok x1 3 then (
    if (M.1 (51 + 5 * x1.toNatClampNeg) 0) = 0 then (
      some ((0 : Int32), M)
    ) else (
      if ix_ok x1 3 then (
      (f_X1_giveBack (51 + 5 * x1.toNatClampNeg) M).bind fun z6 =>
      f_X11_again_44l fu_ x1 (0 : Int32) z6
      ) else none
    )
    ) else none
  )
theorem mo_X11_again_75 {z : (Int32 × mm_M)} {M : mm_M} (hf : f_X11_again_75 M = some z) : M.2.2 ≤ z.2.2.2 := by
  unfold f_X11_again_75 at hf
  obtain ⟨z12, ez12, hf⟩ := sq_e hf
  have mz12 : M.2.2 ≤ z12.2.2 := mo_X6_doubtAll ez12.symm
  rw [← Option.some.inj hf]; show M.2.2 ≤ z12.2.2; omega
theorem mo_X11_again_44 {z : (Int32 × mm_M)} {x1 : Int32} {x2 : Int32} {M : mm_M} {q44 : Int32 → Int32 → mm_M → Option (Int32 × mm_M)} (hq44 : ∀ (x1 : Int32) (x2 : Int32) (M : mm_M), q44 x1 x2 M = some z → M.2.2 ≤ z.2.2.2) (hf : f_X11_again_44 q44 x1 x2 M = some z) : M.2.2 ≤ z.2.2.2 := by
  unfold f_X11_again_44 at hf
  by_cases c7 : 6 ≤ x2
  · rw [if_pos c7] at hf
    have hj := mo_X11_again_75 hf; omega
  · rw [if_neg c7] at hf
    obtain ⟨h8, hf⟩ := ck_e hf
    obtain ⟨h9, hf⟩ := ck_e hf
    obtain ⟨z10, ez10, hf⟩ := bd_e hf
    have mz10 : M.2.2 ≤ z10.2.2 := mo_X9_setClass ez10
    obtain ⟨y11, ey11, hf⟩ := sq_e hf
    have hj := hq44 _ _ _ hf; omega
theorem mo_X11_again_44l {z : (Int32 × mm_M)} : ∀ (n : Nat) (x1 : Int32) (x2 : Int32) (M : mm_M), f_X11_again_44l n x1 x2 M = some z → M.2.2 ≤ z.2.2.2 := by
  intro n
  induction n with
  | zero => intro x1 x2 M hf; exact absurd hf (by simp [f_X11_again_44l])
  | succ n ih => intro x1 x2 M hf; exact mo_X11_again_44 ih hf
theorem mo_X11_again {z : (Int32 × mm_M)} {x1 : Int32} {M : mm_M} (hf : f_X11_again x1 M = some z) : M.2.2 ≤ z.2.2.2 := by
  unfold f_X11_again at hf
  obtain ⟨z1, ez1, hf⟩ := sq_e hf
  by_cases c2 : z1 = 0
  · rw [if_pos c2] at hf
    rw [← Option.some.inj hf]; show M.2.2 ≤ M.2.2; exact Nat.le_refl _
  · rw [if_neg c2] at hf
    obtain ⟨h3, hf⟩ := ck_e hf
    by_cases c4 : (M.1 (51 + 5 * x1.toNatClampNeg) 0) = 0
    · rw [if_pos c4] at hf
      rw [← Option.some.inj hf]; show M.2.2 ≤ M.2.2; exact Nat.le_refl _
    · rw [if_neg c4] at hf
      obtain ⟨h5, hf⟩ := ck_e hf
      obtain ⟨z6, ez6, hf⟩ := bd_e hf
      have mz6 : M.2.2 ≤ z6.2.2 := mo_X1_giveBack ez6
      have hj := mo_X11_again_44l fu_ _ _ _ hf; omega
theorem bz_X11_again_75 {z : (Int32 × mm_M)} {M : mm_M} (hf : f_X11_again_75 M = some z) : z.1 = 0 ∨ z.1 = 1 := by
  unfold f_X11_again_75 at hf
  obtain ⟨z12, ez12, hf⟩ := sq_e hf
  rw [← Option.some.inj hf]; exact (Or.inr rfl)
theorem bz_X11_again_44 {z : (Int32 × mm_M)} {x1 : Int32} {x2 : Int32} {M : mm_M} {q44 : Int32 → Int32 → mm_M → Option (Int32 × mm_M)} (hq44 : ∀ (x1 : Int32) (x2 : Int32) (M : mm_M), q44 x1 x2 M = some z → z.1 = 0 ∨ z.1 = 1) (hf : f_X11_again_44 q44 x1 x2 M = some z) : z.1 = 0 ∨ z.1 = 1 := by
  unfold f_X11_again_44 at hf
  by_cases c7 : 6 ≤ x2
  · rw [if_pos c7] at hf
    exact bz_X11_again_75 hf
  · rw [if_neg c7] at hf
    obtain ⟨h8, hf⟩ := ck_e hf
    obtain ⟨h9, hf⟩ := ck_e hf
    obtain ⟨z10, ez10, hf⟩ := bd_e hf
    obtain ⟨y11, ey11, hf⟩ := sq_e hf
    exact hq44 _ _ _ hf
theorem bz_X11_again_44l {z : (Int32 × mm_M)} : ∀ (n : Nat) (x1 : Int32) (x2 : Int32) (M : mm_M), f_X11_again_44l n x1 x2 M = some z → z.1 = 0 ∨ z.1 = 1 := by
  intro n
  induction n with
  | zero => intro x1 x2 M hf; exact absurd hf (by simp [f_X11_again_44l])
  | succ n ih => intro x1 x2 M hf; exact bz_X11_again_44 ih hf
theorem bz_X11_again {z : (Int32 × mm_M)} {x1 : Int32} {M : mm_M} (hf : f_X11_again x1 M = some z) : z.1 = 0 ∨ z.1 = 1 := by
  unfold f_X11_again at hf
  obtain ⟨z1, ez1, hf⟩ := sq_e hf
  by_cases c2 : z1 = 0
  · rw [if_pos c2] at hf
    rw [← Option.some.inj hf]; exact (Or.inl rfl)
  · rw [if_neg c2] at hf
    obtain ⟨h3, hf⟩ := ck_e hf
    by_cases c4 : (M.1 (51 + 5 * x1.toNatClampNeg) 0) = 0
    · rw [if_pos c4] at hf
      rw [← Option.some.inj hf]; exact (Or.inl rfl)
    · rw [if_neg c4] at hf
      obtain ⟨h5, hf⟩ := ck_e hf
      obtain ⟨z6, ez6, hf⟩ := bd_e hf
      exact bz_X11_again_44l fu_ _ _ _ hf
def f_X11_count (x1 : Int32) (M : mm_M) : Int32 :=
  if x1 = 0 then (
    (M.1 5 2)
  ) else
  if x1 = 1 then (
    (M.1 5 1)
  ) else
  if x1 = 2 then (
    (M.1 14 2)
  ) else
  if x1 = 3 then (
    (M.1 19 3)
  ) else
  if x1 = 4 then (
    (M.1 19 4)
  ) else
  if x1 = 5 then (
    (M.1 3 1)
  ) else
  if x1 = 6 then (
    (M.1 1 1)
  ) else
  (
    ((-1) : Int32)
  )
def f_X11_year (x1 : Int32) (x2 : Int32) (M : mm_M) : Option Int32 :=
  sq_ (f_X11_isLaw x1 M) fun z1 =>
  if z1 = 0 then (
    some ((-1) : Int32)
  ) else (
    sq_ (f_X11_isHistory x2 M) fun z3 =>
    if z3 = 0 then (
      some ((-1) : Int32)
    ) else (
      (f_X3_yearOf x2 x1 M).bind fun z5 =>
      some z5
    )
  )
