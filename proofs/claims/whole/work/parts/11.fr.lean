def f_X12_thrown (M : mm_M) : Int32 :=
  (M.1 0 0)
def f_X12_in (x0 : Int64) (x2 : Int64) (x4 : Int64) : Int32 :=
  if x0 < x2 then (
    (0 : Int32)
  ) else (
    if x4 < x0 then (
      (0 : Int32)
    ) else (
      (1 : Int32)
    )
  )
theorem bz_X12_in {z : Int32} {x0 : Int64} {x2 : Int64} {x4 : Int64} (hf : f_X12_in x0 x2 x4 = z) : z = 0 ∨ z = 1 := by
  unfold f_X12_in at hf
  by_cases c1 : x0 < x2
  · rw [if_pos c1] at hf
    rw [← hf]; exact (Or.inl rfl)
  · rw [if_neg c1] at hf
    by_cases c2 : x4 < x0
    · rw [if_pos c2] at hf
      rw [← hf]; exact (Or.inl rfl)
    · rw [if_neg c2] at hf
      rw [← hf]; exact (Or.inr rfl)
def f_X12_has (x0 : Int32) (x1 : Int32) : Int32 :=
  if ((x0 >>> (x1 &&& 31)) &&& 1) = 1 then (
    (1 : Int32)
  ) else (
    (0 : Int32)
  )
theorem bz_X12_has {z : Int32} {x0 : Int32} {x1 : Int32} (hf : f_X12_has x0 x1 = z) : z = 0 ∨ z = 1 := by
  unfold f_X12_has at hf
  by_cases c1 : ((x0 >>> (x1 &&& 31)) &&& 1) = 1
  · rw [if_pos c1] at hf
    rw [← hf]; exact (Or.inr rfl)
  · rw [if_neg c1] at hf
    rw [← hf]; exact (Or.inl rfl)
def f_X12_truth (x0 : Int32) : Int32 :=
  if x0 = 0 then (
    (0 : Int32)
  ) else (
    (1 : Int32)
  )
def f_X12_enters (x1 : Int64) (M : mm_M) : Option mm_M :=
  if ix_ok (M.1 0 1) 64 then (
  sq_ (mm_sl M 1 (M.1 0 1).toNatClampNeg x1) fun M2 =>
  sq_ (mm_si M2 0 1 ((M2.1 0 1) + 1)) fun M3 =>
  some M3
  ) else none
def f_X12_common_6 (q6 : Int64 → Int64 → Option Int64) (x4 : Int64) (x6 : Int64) : Option Int64 :=
  if x6 = 0 then (
    some x4
  ) else (
    if ¬ x6 = 0 then (
    sq_ ((x4 - x4 / x6 * x6) : Int64) fun y3 =>
    q6 x6 y3
    ) else none
  )
def f_X12_common_6l : Nat → Int64 → Int64 → Option Int64
  | 0, _, _ => none
  | n + 1, x4, x6 => f_X12_common_6 (f_X12_common_6l n) x4 x6
def f_X12_common (x0 : Int64) (x2 : Int64) : Option Int64 :=
  f_X12_common_6l fu_ x0 x2
def f_X12_entersFraction (x1 : Int64) (x3 : Int64) (M : mm_M) : Option mm_M :=
  (f_X12_common x1 x3).bind fun z1 =>
  if ¬ z1 = 0 then (
  (f_X12_enters (x1 / z1) M).bind fun z3 =>
  if ¬ z1 = 0 then (
  (f_X12_enters (x3 / z1) z3).bind fun z5 =>
  some z5
  ) else none ) else none
def f_X12_sign_53 (M : mm_M) : Option (Int32 × mm_M) :=
  sq_ (mm_si M 0 4 ((M.1 0 4) + 4)) fun M7 =>
  some ((M7.1 0 4), M7)
def f_X12_sign_18 (q18 : Int32 → Int32 → mm_M → Option (Int32 × mm_M)) (x1 : Int32) (x2 : Int32) (M : mm_M) : Option (Int32 × mm_M) :=
  if 4 ≤ x2 then (
    f_X12_sign_53 M
  ) else (
    if ix_ok ((M.1 0 4) + x2) 40 then (
    sq_ (mm_si M 2 ((M.1 0 4) + x2).toNatClampNeg ((x1 >>> ((24 - (8 * x2)) &&& 31)) &&& 255)) fun M5 =>
    sq_ (x2 + 1 : Int32) fun y6 =>
    q18 x1 y6 M5
    ) else none
  )
def f_X12_sign_18l : Nat → Int32 → Int32 → mm_M → Option (Int32 × mm_M)
  | 0, _, _, _ => none
  | n + 1, x1, x2, M => f_X12_sign_18 (f_X12_sign_18l n) x1 x2 M
def f_X12_sign (x1 : Int32) (M : mm_M) : Option (Int32 × mm_M) :=
  sq_ (mm_si M 0 0 0) fun M1 =>
  if (M1.1 0 4) ≤ 36 then (
    f_X12_sign_18l fu_ x1 (0 : Int32) M1
  ) else (
    some (((-1) : Int32), M1)
  )
def f_X12_end (x1 : Int32) (M : mm_M) : (Int32 × mm_M) :=
  sq_ (mm_si M 0 0 0) fun M1 =>
  sq_ (f_X12_in (x1.toInt64) (0 : Int64) ((M1.1 0 4).toInt64)) fun z2 =>
  if z2 = 0 then (
    ((0 : Int32), M1)
  ) else (
    sq_ (mm_si M1 0 4 x1) fun M4 =>
    ((1 : Int32), M4)
  )
theorem bz_X12_end {z : (Int32 × mm_M)} {x1 : Int32} {M : mm_M} (hf : f_X12_end x1 M = z) : z.1 = 0 ∨ z.1 = 1 := by
  unfold f_X12_end at hf
  obtain ⟨M1, eM1, hf⟩ := sq_e hf
  obtain ⟨z2, ez2, hf⟩ := sq_e hf
  by_cases c3 : z2 = 0
  · rw [if_pos c3] at hf
    rw [← hf]; exact (Or.inl rfl)
  · rw [if_neg c3] at hf
    obtain ⟨M4, eM4, hf⟩ := sq_e hf
    rw [← hf]; exact (Or.inr rfl)
def f_X12_comes_29 (t0 : Int32) (M : mm_M) : Option (Int32 × mm_M) :=
  sq_ (f_X12_truth t0) fun z4 =>
  sq_ (mm_si M 0 5 ((M.1 0 5) + z4)) fun M5 =>
  if t0 = 0 ∨ t0 = 1 then (
  some (t0, M5)
  ) else none
def f_X12_comes_28 (M : mm_M) : Option (Int32 × mm_M) :=
  f_X12_comes_29 (0 : Int32) M
def f_X12_comes (x1 : Int32) (M : mm_M) : Option (Int32 × mm_M) :=
  if (M.1 0 6) ≤ (M.1 0 5) then (
    f_X12_comes_28 M
  ) else (
    if ix_ok (M.1 0 5) 40 then (
    if (M.1 2 (M.1 0 5).toNatClampNeg) = x1 then (
      f_X12_comes_29 (1 : Int32) M
    ) else (
      f_X12_comes_28 M
    )
    ) else none
  )
theorem bz_X12_comes_29 {z : (Int32 × mm_M)} {t0 : Int32} {M : mm_M} (hf : f_X12_comes_29 t0 M = some z) : z.1 = 0 ∨ z.1 = 1 := by
  unfold f_X12_comes_29 at hf
  obtain ⟨z4, ez4, hf⟩ := sq_e hf
  obtain ⟨M5, eM5, hf⟩ := sq_e hf
  obtain ⟨h6, hf⟩ := ck_e hf
  rw [← Option.some.inj hf]; exact h6
theorem bz_X12_comes_28 {z : (Int32 × mm_M)} {M : mm_M} (hf : f_X12_comes_28 M = some z) : z.1 = 0 ∨ z.1 = 1 := by
  unfold f_X12_comes_28 at hf
  exact bz_X12_comes_29 hf
theorem bz_X12_comes {z : (Int32 × mm_M)} {x1 : Int32} {M : mm_M} (hf : f_X12_comes x1 M = some z) : z.1 = 0 ∨ z.1 = 1 := by
  unfold f_X12_comes at hf
  by_cases c1 : (M.1 0 6) ≤ (M.1 0 5)
  · rw [if_pos c1] at hf
    exact bz_X12_comes_28 hf
  · rw [if_neg c1] at hf
    obtain ⟨h2, hf⟩ := ck_e hf
    by_cases c3 : (M.1 2 (M.1 0 5).toNatClampNeg) = x1
    · rw [if_pos c3] at hf
      exact bz_X12_comes_29 hf
    · rw [if_neg c3] at hf
      exact bz_X12_comes_28 hf
def f_X12_sound (M : mm_M) : Option (Int32 × mm_M) :=
  if (M.1 0 6) ≤ (M.1 0 5) then (
    some (((-1) : Int32), M)
  ) else (
    if ix_ok (M.1 0 5) 40 then (
    sq_ (f_X12_in ((M.1 2 (M.1 0 5).toNatClampNeg).toInt64) (97 : Int64) (112 : Int64)) fun z3 =>
    if z3 = 0 then (
      some (((-1) : Int32), M)
    ) else (
      sq_ (mm_si M 0 5 ((M.1 0 5) + 1)) fun M5 =>
      if ix_ok ((M5.1 0 5) - 1) 40 then (
      some (((M5.1 2 ((M5.1 0 5) - 1).toNatClampNeg) - 97), M5)
      ) else none
    )
    ) else none
  )
def f_X12_soundOrClass (M : mm_M) : Option (Int32 × mm_M) :=
  (f_X12_sound M).bind fun z1 =>
  if z1.1 < 0 then (
    if (z1.2.1 0 6) ≤ (z1.2.1 0 5) then (
      some (((-1) : Int32), z1.2)
    ) else (
      if ix_ok (z1.2.1 0 5) 40 then (
      sq_ (f_X12_in ((z1.2.1 2 (z1.2.1 0 5).toNatClampNeg).toInt64) (65 : Int64) (70 : Int64)) fun z5 =>
      if z5 = 0 then (
        some (((-1) : Int32), z1.2)
      ) else (
        sq_ (mm_si z1.2 0 5 ((z1.2.1 0 5) + 1)) fun M7 =>
        if ix_ok ((M7.1 0 5) - 1) 40 then (
        some (((16 + (M7.1 2 ((M7.1 0 5) - 1).toNatClampNeg)) - 65), M7)
        ) else none
      )
      ) else none
    )
  ) else (
    some (z1.1, z1.2)
  )
def f_X12_beside (M : mm_M) : Option (Int32 × mm_M) :=
  (f_X12_soundOrClass M).bind fun z1 =>
  if z1.1 < 0 then (
    (f_X12_comes (35 : Int32) z1.2).bind fun z3 =>
    if z3.1 = 0 then (
      some ((23 : Int32), z3.2)
    ) else (
      some ((22 : Int32), z3.2)
    )
  ) else (
    some (z1.1, z1.2)
  )
def f_X12_group (x1 : Int32) (x2 : Int32) (M : mm_M) : Option (Int32 × mm_M) :=
  sq_ (mm_si M 0 0 0) fun M1 =>
  sq_ (f_X12_in (x1.toInt64) (0 : Int64) (5 : Int64)) fun z2 =>
  if z2 = 0 then (
    some (((-1) : Int32), M1)
  ) else (
    sq_ (f_X12_in (x2.toInt64) (0 : Int64) (65535 : Int64)) fun z4 =>
    if z4 = 0 then (
      some (((-1) : Int32), M1)
    ) else (
      if ix_ok x1 6 then (
      sq_ ((M1.1 3 x1.toNatClampNeg) : Int32) fun y7 =>
      if ix_ok x1 6 then (
      sq_ (mm_si M1 3 x1.toNatClampNeg x2) fun M9 =>
      some (y7, M9)
      ) else none ) else none
    )
  )
def f_X12_word_62 (M : mm_M) : Option (Int32 × mm_M) :=
  some (((-1) - (M.1 0 5)), M)
def f_X12_word_102 (M : mm_M) : Option (Int32 × mm_M) :=
  some (((-1) - (M.1 0 6)), M)
def f_X12_word_92 (x1 : Int32) (M : mm_M) : Option (Int32 × mm_M) :=
  if x1 = 0 then (
    f_X12_word_102 M
  ) else (
    if x1 ≤ 8 then (
      if ix_ok (M.1 0 8) 20 then (
      sq_ (mm_si M 5 (M.1 0 8).toNatClampNeg x1) fun M15 =>
      sq_ (mm_si M15 0 8 ((M15.1 0 8) + 1)) fun M16 =>
      some (((M16.1 0 8) - 1), M16)
      ) else none
    ) else (
      f_X12_word_102 M
    )
  )
def f_X12_word_42 (q42 : Int32 → mm_M → Option (Int32 × mm_M)) (x1 : Int32) (M : mm_M) : Option (Int32 × mm_M) :=
  if (M.1 0 6) ≤ (M.1 0 5) then (
    f_X12_word_92 x1 M
  ) else (
    (f_X12_sound M).bind fun z8 =>
    if 0 ≤ z8.1 then (
      if ix_ok (((8 * (z8.2.1 0 8)) + (z8.2.1 0 5)) - 1) 160 then (
      sq_ (mm_si z8.2 4 (((8 * (z8.2.1 0 8)) + (z8.2.1 0 5)) - 1).toNatClampNeg z8.1) fun M11 =>
      q42 x1 M11
      ) else none
    ) else (
      f_X12_word_62 z8.2
    )
  )
def f_X12_word_42l : Nat → Int32 → mm_M → Option (Int32 × mm_M)
  | 0, _, _ => none
  | n + 1, x1, M => f_X12_word_42 (f_X12_word_42l n) x1 M
def f_X12_word (M : mm_M) : Option (Int32 × mm_M) :=
  sq_ (mm_si M 0 0 0) fun M1 =>
  sq_ ((M1.1 0 4) : Int32) fun y2 =>
  sq_ (mm_si M1 0 4 0) fun M3 =>
  sq_ (mm_si M3 0 5 0) fun M4 =>
  sq_ (mm_si M4 0 6 (if (8 : Int32) < y2 then (8 : Int32) else y2)) fun M5 =>
  if (M5.1 0 8) = 20 then (
    some (((-100) : Int32), M5)
  ) else (
    f_X12_word_42l fu_ y2 M5
  )
def f_X12_readsLaw_50 (x1 : Int32) (t1 : Int32) (t2 : Int32) (M : mm_M) : Option (Int32 × mm_M) :=
  if ix_ok t1 6 then (
  sq_ (mm_si M 7 t1.toNatClampNeg t2) fun M11 =>
  if ix_ok x1 6 then (
  sq_ (mm_si M11 8 x1.toNatClampNeg 23) fun M13 =>
  if ix_ok x1 6 then (
  sq_ (mm_si M13 9 x1.toNatClampNeg 23) fun M15 =>
  (f_X12_comes (47 : Int32) M15).bind fun z16 =>
  if z16.1 = 0 then (
    some ((1 : Int32), z16.2)
  ) else (
    (f_X12_beside z16.2).bind fun z18 =>
    if ix_ok x1 6 then (
    sq_ (mm_si z18.2 8 x1.toNatClampNeg z18.1) fun M20 =>
    (f_X12_comes (95 : Int32) M20).bind fun z21 =>
    if z21.1 = 0 then (
      some ((0 : Int32), z21.2)
    ) else (
      (f_X12_beside z21.2).bind fun z23 =>
      if ix_ok x1 6 then (
      sq_ (mm_si z23.2 9 x1.toNatClampNeg z23.1) fun M25 =>
      some ((1 : Int32), M25)
      ) else none
    )
    ) else none
  )
  ) else none ) else none ) else none
def f_X12_readsLaw (x1 : Int32) (M : mm_M) : Option (Int32 × mm_M) :=
  (f_X12_soundOrClass M).bind fun z1 =>
  if ix_ok x1 6 then (
  sq_ (mm_si z1.2 6 x1.toNatClampNeg z1.1) fun M3 =>
  if ix_ok x1 6 then (
  if (M3.1 6 x1.toNatClampNeg) < 0 then (
    some ((0 : Int32), M3)
  ) else (
    (f_X12_comes (62 : Int32) M3).bind fun z6 =>
    if z6.1 = 0 then (
      some ((0 : Int32), z6.2)
    ) else (
      (f_X12_sound z6.2).bind fun z8 =>
      if 0 ≤ z8.1 then (
        f_X12_readsLaw_50 x1 x1 z8.1 z8.2
      ) else (
        f_X12_readsLaw_50 x1 x1 (24 : Int32) z8.2
      )
    )
  )
  ) else none ) else none
theorem bz_X12_readsLaw_50 {z : (Int32 × mm_M)} {x1 : Int32} {t1 : Int32} {t2 : Int32} {M : mm_M} (hf : f_X12_readsLaw_50 x1 t1 t2 M = some z) : z.1 = 0 ∨ z.1 = 1 := by
  unfold f_X12_readsLaw_50 at hf
  obtain ⟨h10, hf⟩ := ck_e hf
  obtain ⟨M11, eM11, hf⟩ := sq_e hf
  obtain ⟨h12, hf⟩ := ck_e hf
  obtain ⟨M13, eM13, hf⟩ := sq_e hf
  obtain ⟨h14, hf⟩ := ck_e hf
  obtain ⟨M15, eM15, hf⟩ := sq_e hf
  obtain ⟨z16, ez16, hf⟩ := bd_e hf
  by_cases c17 : z16.1 = 0
  · rw [if_pos c17] at hf
    rw [← Option.some.inj hf]; exact (Or.inr rfl)
  · rw [if_neg c17] at hf
    obtain ⟨z18, ez18, hf⟩ := bd_e hf
    obtain ⟨h19, hf⟩ := ck_e hf
    obtain ⟨M20, eM20, hf⟩ := sq_e hf
    obtain ⟨z21, ez21, hf⟩ := bd_e hf
    by_cases c22 : z21.1 = 0
    · rw [if_pos c22] at hf
      rw [← Option.some.inj hf]; exact (Or.inl rfl)
    · rw [if_neg c22] at hf
      obtain ⟨z23, ez23, hf⟩ := bd_e hf
      obtain ⟨h24, hf⟩ := ck_e hf
      obtain ⟨M25, eM25, hf⟩ := sq_e hf
      rw [← Option.some.inj hf]; exact (Or.inr rfl)
theorem bz_X12_readsLaw {z : (Int32 × mm_M)} {x1 : Int32} {M : mm_M} (hf : f_X12_readsLaw x1 M = some z) : z.1 = 0 ∨ z.1 = 1 := by
  unfold f_X12_readsLaw at hf
  obtain ⟨z1, ez1, hf⟩ := bd_e hf
  obtain ⟨h2, hf⟩ := ck_e hf
  obtain ⟨M3, eM3, hf⟩ := sq_e hf
  obtain ⟨h4, hf⟩ := ck_e hf
  by_cases c5 : (M3.1 6 x1.toNatClampNeg) < 0
  · rw [if_pos c5] at hf
    rw [← Option.some.inj hf]; exact (Or.inl rfl)
  · rw [if_neg c5] at hf
    obtain ⟨z6, ez6, hf⟩ := bd_e hf
    by_cases c7 : z6.1 = 0
    · rw [if_pos c7] at hf
      rw [← Option.some.inj hf]; exact (Or.inl rfl)
    · rw [if_neg c7] at hf
      obtain ⟨z8, ez8, hf⟩ := bd_e hf
      by_cases c9 : 0 ≤ z8.1
      · rw [if_pos c9] at hf
        exact bz_X12_readsLaw_50 hf
      · rw [if_neg c9] at hf
        exact bz_X12_readsLaw_50 hf
def f_X12_histories_4 (q4 : Int32 → Int32 → Option Int32) (x1 : Int32) (x2 : Int32) (M : mm_M) : Option Int32 :=
  if (M.1 0 11) ≤ x2 then (
    some x1
  ) else (
    if ix_ok x2 6 then (
    sq_ ((x1 * (M.1 12 x2.toNatClampNeg)) : Int32) fun y3 =>
    sq_ (x2 + 1 : Int32) fun y4 =>
    q4 y3 y4
    ) else none
  )
def f_X12_histories_4l (M : mm_M) : Nat → Int32 → Int32 → Option Int32
  | 0, _, _ => none
  | n + 1, x1, x2 => f_X12_histories_4 (f_X12_histories_4l M n) x1 x2 M
def f_X12_histories (M : mm_M) : Option Int32 :=
  f_X12_histories_4l M fu_ (1 : Int32) (0 : Int32)
def f_X12_law_165 (x1 : Int32) (x3 : Int32) (x5 : Int32) (x6 : Int32) (M : mm_M) : Option (Int32 × mm_M) :=
  if x6 = 0 then (
    some (((-1) - (M.1 0 5)), M)
  ) else (
    if ix_ok (M.1 0 11) 6 then (
    sq_ (mm_si M 10 (M.1 0 11).toNatClampNeg x1) fun M26 =>
    if ix_ok (M26.1 0 11) 6 then (
    sq_ (mm_si M26 11 (M26.1 0 11).toNatClampNeg x3) fun M28 =>
    if ix_ok (M28.1 0 11) 6 then (
    sq_ (mm_si M28 12 (M28.1 0 11).toNatClampNeg x5) fun M30 =>
    sq_ (mm_si M30 0 11 ((M30.1 0 11) + 1)) fun M31 =>
    some (((M31.1 0 11) - 1), M31)
    ) else none ) else none ) else none
  )
def f_X12_law_139 (x1 : Int32) (x3 : Int32) (x4 : Int32) (x5 : Int32) (t0 : Int32) (M : mm_M) : Option (Int32 × mm_M) :=
  if x4 ≤ 20 then (
    f_X12_law_165 x1 x3 x5 t0 M
  ) else (
    if t0 = 0 then (
      if (M.1 0 5) < 20 then (
        f_X12_law_165 x1 x3 x5 t0 M
      ) else (
        some (((-21) : Int32), M)
      )
    ) else (
      some (((-21) : Int32), M)
    )
  )
def f_X12_law_138 (x1 : Int32) (x3 : Int32) (x4 : Int32) (x5 : Int32) (M : mm_M) : Option (Int32 × mm_M) :=
  f_X12_law_139 x1 x3 x4 x5 (0 : Int32) M
def f_X12_law (x1 : Int32) (x2 : Int32) (x3 : Int32) (M : mm_M) : Option (Int32 × mm_M) :=
  sq_ (mm_si M 0 0 0) fun M1 =>
  sq_ ((M1.1 0 4) : Int32) fun y2 =>
  sq_ (mm_si M1 0 4 0) fun M3 =>
  sq_ (mm_si M3 0 5 0) fun M4 =>
  sq_ (mm_si M4 0 6 (if (20 : Int32) < y2 then (20 : Int32) else y2)) fun M5 =>
  if (M5.1 0 11) = 6 then (
    some (((-100) : Int32), M5)
  ) else (
    sq_ (f_X12_in (x1.toInt64) (0 : Int64) (400 : Int64)) fun z7 =>
    if z7 = 0 then (
      some (((-101) : Int32), M5)
    ) else (
      sq_ (f_X12_in (x2.toInt64) (x1.toInt64) (400 : Int64)) fun z9 =>
      if z9 = 0 then (
        some (((-101) : Int32), M5)
      ) else (
        if x3 < 1 then (
          some (((-101) : Int32), M5)
        ) else (
          if ¬ x3 = 0 then (
          if ((x2 - x1) / x3) < 8 then (
            if ¬ x3 = 0 then (
            sq_ ((((x2 - x1) / x3) + 1) : Int32) fun y15 =>
            (f_X12_histories M5).bind fun z16 =>
            if (z16 * y15) ≤ 600 then (
              (f_X12_readsLaw (M5.1 0 11) M5).bind fun z18 =>
              if z18.1 = 0 then (
                f_X12_law_138 x1 x3 y2 y15 z18.2
              ) else (
                if (z18.2.1 0 5) = (z18.2.1 0 6) then (
                  f_X12_law_139 x1 x3 y2 y15 (1 : Int32) z18.2
                ) else (
                  f_X12_law_138 x1 x3 y2 y15 z18.2
                )
              )
            ) else (
              some (((-102) : Int32), M5)
            )
            ) else none
          ) else (
            some (((-101) : Int32), M5)
          )
          ) else none
        )
      )
    )
  )
def f_X12_lag (x1 : Int32) (x2 : Int32) (M : mm_M) : Option (Int32 × mm_M) :=
  sq_ (mm_si M 0 0 0) fun M1 =>
  sq_ (f_X12_in (x1.toInt64) (0 : Int64) (5 : Int64)) fun z2 =>
  if z2 = 0 then (
    some (((-1) : Int32), M1)
  ) else (
    sq_ (f_X12_in (x2.toInt64) (0 : Int64) (200 : Int64)) fun z4 =>
    if z4 = 0 then (
      some (((-1) : Int32), M1)
    ) else (
      if ix_ok x1 6 then (
      sq_ ((M1.1 13 x1.toNatClampNeg) : Int32) fun y7 =>
      if ix_ok x1 6 then (
      sq_ (mm_si M1 13 x1.toNatClampNeg x2) fun M9 =>
      some (y7, M9)
      ) else none ) else none
    )
  )
def f_X12_lags_111 (q46 : Int32 → Int32 → Int32 → Int32 → Int32 → Int32 → mm_M → Option (Int32 × mm_M)) (x1 : Int32) (x2 : Int32) (x4 : Int32) (x5 : Int32) (x6 : Int32) (x7 : Int32) (t1 : Int32) (t2 : Int32) (M : mm_M) : Option (Int32 × mm_M) :=
  if ix_ok t1 6 then (
  sq_ (mm_si M 13 t1.toNatClampNeg t2) fun M14 =>
  if ix_ok x7 6 then (
  sq_ ((x6 + (M14.1 13 x7.toNatClampNeg)) : Int32) fun y16 =>
  sq_ ((x5 + x4) : Int32) fun y17 =>
  sq_ (x7 + 1 : Int32) fun y18 =>
  q46 x1 x2 x4 y17 y16 y18 M14
  ) else none ) else none
def f_X12_lags_95 (q46 : Int32 → Int32 → Int32 → Int32 → Int32 → Int32 → mm_M → Option (Int32 × mm_M)) (x1 : Int32) (x2 : Int32) (x4 : Int32) (x5 : Int32) (x6 : Int32) (x7 : Int32) (t1 : Int32) (M : mm_M) : Option (Int32 × mm_M) :=
  f_X12_lags_111 q46 x1 x2 x4 x5 x6 x7 t1 (0 : Int32) M
def f_X12_lags_76 (q46 : Int32 → Int32 → Int32 → Int32 → Int32 → Int32 → mm_M → Option (Int32 × mm_M)) (x1 : Int32) (x2 : Int32) (x4 : Int32) (x5 : Int32) (x6 : Int32) (x7 : Int32) (t0 : Int32) (M : mm_M) : Option (Int32 × mm_M) :=
  if x1 = 3 then (
    f_X12_lags_95 q46 x1 x2 x4 x5 x6 x7 x7 M
  ) else (
    if x7 < x2 then (
      f_X12_lags_111 q46 x1 x2 x4 x5 x6 x7 x7 (if (0 : Int32) < (if t0 < (200 : Int32) then t0 else (200 : Int32)) then (if t0 < (200 : Int32) then t0 else (200 : Int32)) else (0 : Int32)) M
    ) else (
      f_X12_lags_95 q46 x1 x2 x4 x5 x6 x7 x7 M
    )
  )
def f_X12_lags_137 (x1 : Int32) (x6 : Int32) (M : mm_M) : Option (Int32 × mm_M) :=
  if x1 = 3 then (
    some (((-3) : Int32), M)
  ) else (
    some (x6, M)
  )
def f_X12_lags_46 (q46 : Int32 → Int32 → Int32 → Int32 → Int32 → Int32 → mm_M → Option (Int32 × mm_M)) (x1 : Int32) (x2 : Int32) (x4 : Int32) (x5 : Int32) (x6 : Int32) (x7 : Int32) (M : mm_M) : Option (Int32 × mm_M) :=
  if 6 ≤ x7 then (
    f_X12_lags_137 x1 x6 M
  ) else (
    if x1 = 0 then (
      f_X12_lags_76 q46 x1 x2 x4 x5 x6 x7 (x5.toInt8.toInt32) M
    ) else (
      if x1 = 1 then (
        f_X12_lags_76 q46 x1 x2 x4 x5 x6 x7 (x5.toInt16.toInt32) M
      ) else (
        f_X12_lags_76 q46 x1 x2 x4 x5 x6 x7 x5 M
      )
    )
  )
def f_X12_lags_46l : Nat → Int32 → Int32 → Int32 → Int32 → Int32 → Int32 → mm_M → Option (Int32 × mm_M)
  | 0, _, _, _, _, _, _, _ => none
  | n + 1, x1, x2, x4, x5, x6, x7, M => f_X12_lags_46 (f_X12_lags_46l n) x1 x2 x4 x5 x6 x7 M
def f_X12_lags_37 (x1 : Int32) (x2 : Int32) (x3 : Int32) (x4 : Int32) (M : mm_M) : Option (Int32 × mm_M) :=
  f_X12_lags_46l fu_ x1 x2 x4 x3 (0 : Int32) (0 : Int32) M
def f_X12_lags (x1 : Int32) (x2 : Int32) (x3 : Int32) (x4 : Int32) (M : mm_M) : Option (Int32 × mm_M) :=
  sq_ (mm_si M 0 0 0) fun M1 =>
  sq_ (f_X12_in (x1.toInt64) (0 : Int64) (3 : Int64)) fun z2 =>
  if z2 = 0 then (
    some (((-1) : Int32), M1)
  ) else (
    if x2 ≤ 6 then (
      if x1 = 3 then (
        f_X12_lags_37 x1 x2 x3 x4 M1
      ) else (
        if 0 ≤ x2 then (
          f_X12_lags_37 x1 x2 x3 x4 M1
        ) else (
          some (((-2) : Int32), M1)
        )
      )
    ) else (
      some (((-1) : Int32), M1)
    )
  )
def f_X12_yearOf_32 (x1 : Int32) (x3 : Int32) (M : mm_M) : Option Int32 :=
  if ix_ok x1 6 then (
  if ix_ok x1 6 then (
  if ix_ok x1 6 then (
  if ¬ (M.1 12 x1.toNatClampNeg) = 0 then (
  some ((M.1 10 x1.toNatClampNeg) + ((M.1 11 x1.toNatClampNeg) * (x3 - x3 / (M.1 12 x1.toNatClampNeg) * (M.1 12 x1.toNatClampNeg))))
  ) else none ) else none ) else none ) else none
def f_X12_yearOf_10 (q10 : Int32 → Int32 → Int32 → Option Int32) (x1 : Int32) (x3 : Int32) (x4 : Int32) (M : mm_M) : Option Int32 :=
  if x4 ≤ x1 then (
    f_X12_yearOf_32 x1 x3 M
  ) else (
    if ix_ok x4 6 then (
    if ¬ (M.1 12 x4.toNatClampNeg) = 0 then (
    sq_ ((x3 / (M.1 12 x4.toNatClampNeg)) : Int32) fun y5 =>
    sq_ (x4 + (-1) : Int32) fun y6 =>
    q10 x1 y5 y6
    ) else none ) else none
  )
def f_X12_yearOf_10l (M : mm_M) : Nat → Int32 → Int32 → Int32 → Option Int32
  | 0, _, _, _ => none
  | n + 1, x1, x3, x4 => f_X12_yearOf_10 (f_X12_yearOf_10l M n) x1 x3 x4 M
def f_X12_yearOf (x1 : Int32) (x2 : Int32) (M : mm_M) : Option Int32 :=
  sq_ (((M.1 0 11) - 1) : Int32) fun y1 =>
  f_X12_yearOf_10l M fu_ x1 x2 y1
def f_X12_lines_126 (q8 : Int32 → Int32 → Int32 → Int32 → mm_M → Option mm_M) (x1 : Int32) (x2 : Int32) (x3 : Int32) (x4 : Int32) (M : mm_M) : Option mm_M :=
  sq_ (x4 + 1 : Int32) fun y9 =>
  q8 x1 x2 x3 y9 M
def f_X12_lines_107 (q8 : Int32 → Int32 → Int32 → Int32 → mm_M → Option mm_M) (x1 : Int32) (x2 : Int32) (x3 : Int32) (x4 : Int32) (x5 : Int32) (M : mm_M) : Option mm_M :=
  if ix_ok x5 6 then (
  sq_ (mm_si M 17 x5.toNatClampNeg x4) fun M27 =>
  sq_ (mm_si M27 0 24 ((M27.1 0 24) + 1)) fun M28 =>
  f_X12_lines_126 q8 x1 x2 x3 x4 M28
  ) else none
def f_X12_lines_56 (q8 : Int32 → Int32 → Int32 → Int32 → mm_M → Option mm_M) (q56 : Int32 → Int32 → Int32 → Int32 → Int32 → mm_M → Option mm_M) (x1 : Int32) (x2 : Int32) (x3 : Int32) (x4 : Int32) (x5 : Int32) (M : mm_M) : Option mm_M :=
  if x5 ≤ 0 then (
    f_X12_lines_107 q8 x1 x2 x3 x4 x5 M
  ) else (
    if ix_ok (x5 - 1) 6 then (
    (f_X12_yearOf (M.1 17 (x5 - 1).toNatClampNeg) x1 M).bind fun z12 =>
    (f_X12_yearOf x4 x1 M).bind fun z13 =>
    if z12 ≤ z13 then (
      f_X12_lines_107 q8 x1 x2 x3 x4 x5 M
    ) else (
      if ix_ok (x5 - 1) 6 then (
      if ix_ok x5 6 then (
      sq_ (mm_si M 17 x5.toNatClampNeg (M.1 17 (x5 - 1).toNatClampNeg)) fun M17 =>
      sq_ (x5 + (-1) : Int32) fun y18 =>
      q56 x1 x2 x3 x4 y18 M17
      ) else none ) else none
    )
    ) else none
  )
def f_X12_lines_56l (q8 : Int32 → Int32 → Int32 → Int32 → mm_M → Option mm_M) : Nat → Int32 → Int32 → Int32 → Int32 → Int32 → mm_M → Option mm_M
  | 0, _, _, _, _, _, _ => none
  | n + 1, x1, x2, x3, x4, x5, M => f_X12_lines_56 q8 (f_X12_lines_56l q8 n) x1 x2 x3 x4 x5 M
def f_X12_lines_206 (q135 : Int32 → mm_M → Option mm_M) (x4 : Int32) (t1 : Int32) (t2 : Int32) (M : mm_M) : Option mm_M :=
  if ix_ok t1 6 then (
  sq_ (mm_si M 17 t1.toNatClampNeg t2) fun M30 =>
  sq_ (x4 + 1 : Int32) fun y31 =>
  q135 y31 M30
  ) else none
def f_X12_lines_135 (q135 : Int32 → mm_M → Option mm_M) (x4 : Int32) (M : mm_M) : Option mm_M :=
  if (M.1 0 24) ≤ x4 then (
    some M
  ) else (
    if (M.1 0 26) < 0 then (
      some M
    ) else (
      if ix_ok x4 6 then (
      if (M.1 17 x4.toNatClampNeg) = (M.1 0 26) then (
        f_X12_lines_206 q135 x4 x4 (M.1 0 27) M
      ) else (
        if ix_ok x4 6 then (
        if (M.1 17 x4.toNatClampNeg) = (M.1 0 27) then (
          f_X12_lines_206 q135 x4 x4 (M.1 0 26) M
        ) else (
          if ix_ok x4 6 then (
          f_X12_lines_206 q135 x4 x4 (M.1 17 x4.toNatClampNeg) M
          ) else none
        )
        ) else none
      )
      ) else none
    )
  )
def f_X12_lines_135l : Nat → Int32 → mm_M → Option mm_M
  | 0, _, _ => none
  | n + 1, x4, M => f_X12_lines_135 (f_X12_lines_135l n) x4 M
def f_X12_lines_132 (M : mm_M) : Option mm_M :=
  f_X12_lines_135l fu_ (0 : Int32) M
def f_X12_lines_8 (q8 : Int32 → Int32 → Int32 → Int32 → mm_M → Option mm_M) (x1 : Int32) (x2 : Int32) (x3 : Int32) (x4 : Int32) (M : mm_M) : Option mm_M :=
  if (M.1 0 11) ≤ x4 then (
    f_X12_lines_132 M
  ) else (
    sq_ (f_X12_has (M.1 0 25) x4) fun z3 =>
    if z3 = 0 then (
      (f_X12_yearOf x4 x1 M).bind fun z5 =>
      if ix_ok x3 6 then (
      if (z5 + (M.1 13 x3.toNatClampNeg)) ≤ x2 then (
        sq_ ((M.1 0 24) : Int32) fun y8 =>
        f_X12_lines_56l q8 fu_ x1 x2 x3 x4 y8 M
      ) else (
        f_X12_lines_126 q8 x1 x2 x3 x4 M
      )
      ) else none
    ) else (
      f_X12_lines_126 q8 x1 x2 x3 x4 M
    )
  )
def f_X12_lines_8l : Nat → Int32 → Int32 → Int32 → Int32 → mm_M → Option mm_M
  | 0, _, _, _, _, _ => none
  | n + 1, x1, x2, x3, x4, M => f_X12_lines_8 (f_X12_lines_8l n) x1 x2 x3 x4 M
def f_X12_lines (x1 : Int32) (x2 : Int32) (x3 : Int32) (M : mm_M) : Option mm_M :=
  sq_ (mm_si M 0 24 0) fun M1 =>
  f_X12_lines_8l fu_ x1 x2 x3 (0 : Int32) M1
def f_X12_isOf (x1 : Int32) (x2 : Int32) (M : mm_M) : Option Int32 :=
  if 16 ≤ x1 then (
    if x2 < 0 then (
      some (0 : Int32)
    ) else (
      if ix_ok (x1 - 16) 6 then (
      sq_ (f_X12_has (M.1 3 (x1 - 16).toNatClampNeg) x2) fun z4 =>
      if z4 = 0 then (
        some (0 : Int32)
      ) else (
        some (1 : Int32)
      )
      ) else none
    )
  ) else (
    if x2 = x1 then (
      some (1 : Int32)
    ) else (
      some (0 : Int32)
    )
  )
theorem bz_X12_isOf {z : Int32} {x1 : Int32} {x2 : Int32} {M : mm_M} (hf : f_X12_isOf x1 x2 M = some z) : z = 0 ∨ z = 1 := by
  unfold f_X12_isOf at hf
  by_cases c1 : 16 ≤ x1
  · rw [if_pos c1] at hf
    by_cases c2 : x2 < 0
    · rw [if_pos c2] at hf
      rw [← Option.some.inj hf]; exact (Or.inl rfl)
    · rw [if_neg c2] at hf
      obtain ⟨h3, hf⟩ := ck_e hf
      obtain ⟨z4, ez4, hf⟩ := sq_e hf
      by_cases c5 : z4 = 0
      · rw [if_pos c5] at hf
        rw [← Option.some.inj hf]; exact (Or.inl rfl)
      · rw [if_neg c5] at hf
        rw [← Option.some.inj hf]; exact (Or.inr rfl)
  · rw [if_neg c1] at hf
    by_cases c6 : x2 = x1
    · rw [if_pos c6] at hf
      rw [← Option.some.inj hf]; exact (Or.inr rfl)
    · rw [if_neg c6] at hf
      rw [← Option.some.inj hf]; exact (Or.inl rfl)
def f_X12_isBeside_28 (M : mm_M) : Option Int32 :=
  some (1 : Int32)
def f_X12_isBeside (x1 : Int32) (x2 : Int32) (M : mm_M) : Option Int32 :=
  if x1 = 23 then (
    f_X12_isBeside_28 M
  ) else (
    if x1 = 22 then (
      if 0 ≤ x2 then (
        some (0 : Int32)
      ) else (
        f_X12_isBeside_28 M
      )
    ) else (
      (f_X12_isOf x1 x2 M).bind fun z3 =>
      if z3 = 0 then (
        some (0 : Int32)
      ) else (
        f_X12_isBeside_28 M
      )
    )
  )
theorem bz_X12_isBeside_28 {z : Int32} {M : mm_M} (hf : f_X12_isBeside_28 M = some z) : z = 0 ∨ z = 1 := by
  unfold f_X12_isBeside_28 at hf
  rw [← Option.some.inj hf]; exact (Or.inr rfl)
theorem bz_X12_isBeside {z : Int32} {x1 : Int32} {x2 : Int32} {M : mm_M} (hf : f_X12_isBeside x1 x2 M = some z) : z = 0 ∨ z = 1 := by
  unfold f_X12_isBeside at hf
  by_cases c1 : x1 = 23
  · rw [if_pos c1] at hf
    exact bz_X12_isBeside_28 hf
  · rw [if_neg c1] at hf
    by_cases c2 : x1 = 22
    · rw [if_pos c2] at hf
      by_cases c5 : 0 ≤ x2
      · rw [if_pos c5] at hf
        rw [← Option.some.inj hf]; exact (Or.inl rfl)
      · rw [if_neg c5] at hf
        exact bz_X12_isBeside_28 hf
    · rw [if_neg c2] at hf
      obtain ⟨z3, ez3, hf⟩ := bd_e hf
      by_cases c4 : z3 = 0
      · rw [if_pos c4] at hf
        rw [← Option.some.inj hf]; exact (Or.inl rfl)
      · rw [if_neg c4] at hf
        exact bz_X12_isBeside_28 hf
def f_X12_worksOn_211 (q16 : Int32 → Int32 → Int32 → Int32 → Int32 → Int32 → mm_M → Option (Int32 × mm_M)) (x1 : Int32) (x2 : Int32) (x3 : Int32) (x4 : Int32) (x5 : Int32) (x6 : Int32) (M : mm_M) : Option (Int32 × mm_M) :=
  sq_ (x6 + 1 : Int32) fun y36 =>
  q16 x1 x2 x3 x4 x5 y36 M
def f_X12_worksOn_207 (q16 : Int32 → Int32 → Int32 → Int32 → Int32 → Int32 → mm_M → Option (Int32 × mm_M)) (x1 : Int32) (x2 : Int32) (x3 : Int32) (x4 : Int32) (x5 : Int32) (x6 : Int32) (t1 : Int32) (t2 : Int32) (M : mm_M) : Option (Int32 × mm_M) :=
  if ix_ok t1 8 then (
  sq_ (mm_si M 16 t1.toNatClampNeg t2) fun M38 =>
  sq_ (x4 + 1 : Int32) fun y39 =>
  f_X12_worksOn_211 q16 x1 x2 x3 y39 x5 x6 M38
  ) else none
def f_X12_worksOn_185 (q16 : Int32 → Int32 → Int32 → Int32 → Int32 → Int32 → mm_M → Option (Int32 × mm_M)) (x1 : Int32) (x2 : Int32) (x3 : Int32) (x4 : Int32) (x5 : Int32) (x6 : Int32) (x7 : Int32) (x10 : Int32) (M : mm_M) : Option (Int32 × mm_M) :=
  if x10 = 0 then (
    f_X12_worksOn_207 q16 x1 x2 x3 x4 x5 x6 x4 x7 M
  ) else (
    if ix_ok x2 6 then (
    f_X12_worksOn_207 q16 x1 x2 x3 x4 x5 x6 x4 (M.1 7 x2.toNatClampNeg) M
    ) else none
  )
def f_X12_worksOn_167 (q16 : Int32 → Int32 → Int32 → Int32 → Int32 → Int32 → mm_M → Option (Int32 × mm_M)) (x1 : Int32) (x2 : Int32) (x3 : Int32) (x4 : Int32) (x6 : Int32) (x7 : Int32) (x10 : Int32) (t0 : Int32) (M : mm_M) : Option (Int32 × mm_M) :=
  if x10 = 0 then (
    f_X12_worksOn_185 q16 x1 x2 x3 x4 t0 x6 x7 x10 M
  ) else (
    if ix_ok x2 6 then (
    if (M.1 7 x2.toNatClampNeg) = 24 then (
      f_X12_worksOn_211 q16 x1 x2 x3 x4 t0 x6 M
    ) else (
      f_X12_worksOn_185 q16 x1 x2 x3 x4 t0 x6 x7 x10 M
    )
    ) else none
  )
def f_X12_worksOn_162 (q16 : Int32 → Int32 → Int32 → Int32 → Int32 → Int32 → mm_M → Option (Int32 × mm_M)) (x1 : Int32) (x2 : Int32) (x3 : Int32) (x4 : Int32) (x6 : Int32) (x7 : Int32) (x10 : Int32) (M : mm_M) : Option (Int32 × mm_M) :=
  f_X12_worksOn_167 q16 x1 x2 x3 x4 x6 x7 x10 (1 : Int32) M
def f_X12_worksOn_166 (q16 : Int32 → Int32 → Int32 → Int32 → Int32 → Int32 → mm_M → Option (Int32 × mm_M)) (x1 : Int32) (x2 : Int32) (x3 : Int32) (x4 : Int32) (x6 : Int32) (x7 : Int32) (x10 : Int32) (M : mm_M) : Option (Int32 × mm_M) :=
  f_X12_worksOn_167 q16 x1 x2 x3 x4 x6 x7 x10 (0 : Int32) M
def f_X12_worksOn_139 (q16 : Int32 → Int32 → Int32 → Int32 → Int32 → Int32 → mm_M → Option (Int32 × mm_M)) (x1 : Int32) (x2 : Int32) (x3 : Int32) (x4 : Int32) (x5 : Int32) (x6 : Int32) (x7 : Int32) (t0 : Int32) (M : mm_M) : Option (Int32 × mm_M) :=
  if x5 = 0 then (
    if t0 = 0 then (
      f_X12_worksOn_166 q16 x1 x2 x3 x4 x6 x7 t0 M
    ) else (
      if ix_ok x2 6 then (
      if (M.1 7 x2.toNatClampNeg) = x7 then (
        f_X12_worksOn_166 q16 x1 x2 x3 x4 x6 x7 t0 M
      ) else (
        f_X12_worksOn_162 q16 x1 x2 x3 x4 x6 x7 t0 M
      )
      ) else none
    )
  ) else (
    f_X12_worksOn_162 q16 x1 x2 x3 x4 x6 x7 t0 M
  )
def f_X12_worksOn_138 (q16 : Int32 → Int32 → Int32 → Int32 → Int32 → Int32 → mm_M → Option (Int32 × mm_M)) (x1 : Int32) (x2 : Int32) (x3 : Int32) (x4 : Int32) (x5 : Int32) (x6 : Int32) (x7 : Int32) (M : mm_M) : Option (Int32 × mm_M) :=
  f_X12_worksOn_139 q16 x1 x2 x3 x4 x5 x6 x7 (0 : Int32) M
def f_X12_worksOn_87 (q16 : Int32 → Int32 → Int32 → Int32 → Int32 → Int32 → mm_M → Option (Int32 × mm_M)) (x1 : Int32) (x2 : Int32) (x3 : Int32) (x4 : Int32) (x5 : Int32) (x6 : Int32) (x7 : Int32) (x8 : Int32) (t0 : Int32) (M : mm_M) : Option (Int32 × mm_M) :=
  if ix_ok x2 6 then (
  (f_X12_isOf (M.1 6 x2.toNatClampNeg) x7 M).bind fun z16 =>
  if z16 = 0 then (
    f_X12_worksOn_138 q16 x1 x2 x3 x4 x5 x6 x7 M
  ) else (
    if ix_ok x2 6 then (
    (f_X12_isBeside (M.1 8 x2.toNatClampNeg) x8 M).bind fun z19 =>
    if z19 = 0 then (
      f_X12_worksOn_138 q16 x1 x2 x3 x4 x5 x6 x7 M
    ) else (
      if ix_ok x2 6 then (
      (f_X12_isBeside (M.1 9 x2.toNatClampNeg) t0 M).bind fun z22 =>
      if z22 = 0 then (
        f_X12_worksOn_138 q16 x1 x2 x3 x4 x5 x6 x7 M
      ) else (
        f_X12_worksOn_139 q16 x1 x2 x3 x4 x5 x6 x7 (1 : Int32) M
      )
      ) else none
    )
    ) else none
  )
  ) else none
def f_X12_worksOn_59 (q16 : Int32 → Int32 → Int32 → Int32 → Int32 → Int32 → mm_M → Option (Int32 × mm_M)) (x1 : Int32) (x2 : Int32) (x3 : Int32) (x4 : Int32) (x5 : Int32) (x6 : Int32) (x7 : Int32) (t0 : Int32) (M : mm_M) : Option (Int32 × mm_M) :=
  if x6 = (x3 - 1) then (
    f_X12_worksOn_87 q16 x1 x2 x3 x4 x5 x6 x7 t0 ((-1) : Int32) M
  ) else (
    if ix_ok (((8 * x1) + x6) + 1) 16 then (
    f_X12_worksOn_87 q16 x1 x2 x3 x4 x5 x6 x7 t0 (M.1 14 (((8 * x1) + x6) + 1).toNatClampNeg) M
    ) else none
  )
def f_X12_worksOn_252 (x1 : Int32) (x4 : Int32) (x5 : Int32) (M : mm_M) : Option (Int32 × mm_M) :=
  if ix_ok x1 2 then (
  sq_ (mm_si M 15 x1.toNatClampNeg x4) fun M25 =>
  if x5 = 0 ∨ x5 = 1 then (
  some (x5, M25)
  ) else none ) else none
def f_X12_worksOn_220 (q220 : Int32 → Int32 → Int32 → Int32 → mm_M → Option (Int32 × mm_M)) (x1 : Int32) (x4 : Int32) (x5 : Int32) (x6 : Int32) (M : mm_M) : Option (Int32 × mm_M) :=
  if x4 ≤ x6 then (
    f_X12_worksOn_252 x1 x4 x5 M
  ) else (
    if ix_ok x6 8 then (
    if ix_ok ((8 * x1) + x6) 16 then (
    sq_ (mm_si M 14 ((8 * x1) + x6).toNatClampNeg (M.1 16 x6.toNatClampNeg)) fun M13 =>
    sq_ (x6 + 1 : Int32) fun y14 =>
    q220 x1 x4 x5 y14 M13
    ) else none ) else none
  )
def f_X12_worksOn_220l : Nat → Int32 → Int32 → Int32 → Int32 → mm_M → Option (Int32 × mm_M)
  | 0, _, _, _, _, _ => none
  | n + 1, x1, x4, x5, x6, M => f_X12_worksOn_220 (f_X12_worksOn_220l n) x1 x4 x5 x6 M
def f_X12_worksOn_217 (x1 : Int32) (x4 : Int32) (x5 : Int32) (M : mm_M) : Option (Int32 × mm_M) :=
  f_X12_worksOn_220l fu_ x1 x4 x5 (0 : Int32) M
def f_X12_worksOn_16 (q16 : Int32 → Int32 → Int32 → Int32 → Int32 → Int32 → mm_M → Option (Int32 × mm_M)) (x1 : Int32) (x2 : Int32) (x3 : Int32) (x4 : Int32) (x5 : Int32) (x6 : Int32) (M : mm_M) : Option (Int32 × mm_M) :=
  if x3 ≤ x6 then (
    f_X12_worksOn_217 x1 x4 x5 M
  ) else (
    if ix_ok ((8 * x1) + x6) 16 then (
    sq_ ((M.1 14 ((8 * x1) + x6).toNatClampNeg) : Int32) fun y5 =>
    if x6 = 0 then (
      f_X12_worksOn_59 q16 x1 x2 x3 x4 x5 x6 y5 ((-1) : Int32) M
    ) else (
      if ix_ok (((8 * x1) + x6) - 1) 16 then (
      f_X12_worksOn_59 q16 x1 x2 x3 x4 x5 x6 y5 (M.1 14 (((8 * x1) + x6) - 1).toNatClampNeg) M
      ) else none
    )
    ) else none
  )
def f_X12_worksOn_16l : Nat → Int32 → Int32 → Int32 → Int32 → Int32 → Int32 → mm_M → Option (Int32 × mm_M)
  | 0, _, _, _, _, _, _, _ => none
  | n + 1, x1, x2, x3, x4, x5, x6, M => f_X12_worksOn_16 (f_X12_worksOn_16l n) x1 x2 x3 x4 x5 x6 M
def f_X12_worksOn (x1 : Int32) (x2 : Int32) (M : mm_M) : Option (Int32 × mm_M) :=
  if ix_ok x1 2 then (
  sq_ ((M.1 15 x1.toNatClampNeg) : Int32) fun y2 =>
  f_X12_worksOn_16l fu_ x1 x2 y2 (0 : Int32) (0 : Int32) (0 : Int32) M
  ) else none
theorem bz_X12_worksOn_211 {z : (Int32 × mm_M)} {x1 : Int32} {x2 : Int32} {x3 : Int32} {x4 : Int32} {x5 : Int32} {x6 : Int32} {M : mm_M} {q16 : Int32 → Int32 → Int32 → Int32 → Int32 → Int32 → mm_M → Option (Int32 × mm_M)} (hq16 : ∀ (x1 : Int32) (x2 : Int32) (x3 : Int32) (x4 : Int32) (x5 : Int32) (x6 : Int32) (M : mm_M), q16 x1 x2 x3 x4 x5 x6 M = some z → z.1 = 0 ∨ z.1 = 1) (hf : f_X12_worksOn_211 q16 x1 x2 x3 x4 x5 x6 M = some z) : z.1 = 0 ∨ z.1 = 1 := by
  unfold f_X12_worksOn_211 at hf
  obtain ⟨y36, ey36, hf⟩ := sq_e hf
  exact hq16 _ _ _ _ _ _ _ hf
theorem bz_X12_worksOn_207 {z : (Int32 × mm_M)} {x1 : Int32} {x2 : Int32} {x3 : Int32} {x4 : Int32} {x5 : Int32} {x6 : Int32} {t1 : Int32} {t2 : Int32} {M : mm_M} {q16 : Int32 → Int32 → Int32 → Int32 → Int32 → Int32 → mm_M → Option (Int32 × mm_M)} (hq16 : ∀ (x1 : Int32) (x2 : Int32) (x3 : Int32) (x4 : Int32) (x5 : Int32) (x6 : Int32) (M : mm_M), q16 x1 x2 x3 x4 x5 x6 M = some z → z.1 = 0 ∨ z.1 = 1) (hf : f_X12_worksOn_207 q16 x1 x2 x3 x4 x5 x6 t1 t2 M = some z) : z.1 = 0 ∨ z.1 = 1 := by
  unfold f_X12_worksOn_207 at hf
  obtain ⟨h37, hf⟩ := ck_e hf
  obtain ⟨M38, eM38, hf⟩ := sq_e hf
  obtain ⟨y39, ey39, hf⟩ := sq_e hf
  exact bz_X12_worksOn_211 hq16 hf
theorem bz_X12_worksOn_185 {z : (Int32 × mm_M)} {x1 : Int32} {x2 : Int32} {x3 : Int32} {x4 : Int32} {x5 : Int32} {x6 : Int32} {x7 : Int32} {x10 : Int32} {M : mm_M} {q16 : Int32 → Int32 → Int32 → Int32 → Int32 → Int32 → mm_M → Option (Int32 × mm_M)} (hq16 : ∀ (x1 : Int32) (x2 : Int32) (x3 : Int32) (x4 : Int32) (x5 : Int32) (x6 : Int32) (M : mm_M), q16 x1 x2 x3 x4 x5 x6 M = some z → z.1 = 0 ∨ z.1 = 1) (hf : f_X12_worksOn_185 q16 x1 x2 x3 x4 x5 x6 x7 x10 M = some z) : z.1 = 0 ∨ z.1 = 1 := by
  unfold f_X12_worksOn_185 at hf
  by_cases c34 : x10 = 0
  · rw [if_pos c34] at hf
    exact bz_X12_worksOn_207 hq16 hf
  · rw [if_neg c34] at hf
    obtain ⟨h35, hf⟩ := ck_e hf
    exact bz_X12_worksOn_207 hq16 hf
theorem bz_X12_worksOn_167 {z : (Int32 × mm_M)} {x1 : Int32} {x2 : Int32} {x3 : Int32} {x4 : Int32} {x6 : Int32} {x7 : Int32} {x10 : Int32} {t0 : Int32} {M : mm_M} {q16 : Int32 → Int32 → Int32 → Int32 → Int32 → Int32 → mm_M → Option (Int32 × mm_M)} (hq16 : ∀ (x1 : Int32) (x2 : Int32) (x3 : Int32) (x4 : Int32) (x5 : Int32) (x6 : Int32) (M : mm_M), q16 x1 x2 x3 x4 x5 x6 M = some z → z.1 = 0 ∨ z.1 = 1) (hf : f_X12_worksOn_167 q16 x1 x2 x3 x4 x6 x7 x10 t0 M = some z) : z.1 = 0 ∨ z.1 = 1 := by
  unfold f_X12_worksOn_167 at hf
  by_cases c31 : x10 = 0
  · rw [if_pos c31] at hf
    exact bz_X12_worksOn_185 hq16 hf
  · rw [if_neg c31] at hf
    obtain ⟨h32, hf⟩ := ck_e hf
    by_cases c33 : (M.1 7 x2.toNatClampNeg) = 24
    · rw [if_pos c33] at hf
      exact bz_X12_worksOn_211 hq16 hf
    · rw [if_neg c33] at hf
      exact bz_X12_worksOn_185 hq16 hf
theorem bz_X12_worksOn_162 {z : (Int32 × mm_M)} {x1 : Int32} {x2 : Int32} {x3 : Int32} {x4 : Int32} {x6 : Int32} {x7 : Int32} {x10 : Int32} {M : mm_M} {q16 : Int32 → Int32 → Int32 → Int32 → Int32 → Int32 → mm_M → Option (Int32 × mm_M)} (hq16 : ∀ (x1 : Int32) (x2 : Int32) (x3 : Int32) (x4 : Int32) (x5 : Int32) (x6 : Int32) (M : mm_M), q16 x1 x2 x3 x4 x5 x6 M = some z → z.1 = 0 ∨ z.1 = 1) (hf : f_X12_worksOn_162 q16 x1 x2 x3 x4 x6 x7 x10 M = some z) : z.1 = 0 ∨ z.1 = 1 := by
  unfold f_X12_worksOn_162 at hf
  exact bz_X12_worksOn_167 hq16 hf
theorem bz_X12_worksOn_166 {z : (Int32 × mm_M)} {x1 : Int32} {x2 : Int32} {x3 : Int32} {x4 : Int32} {x6 : Int32} {x7 : Int32} {x10 : Int32} {M : mm_M} {q16 : Int32 → Int32 → Int32 → Int32 → Int32 → Int32 → mm_M → Option (Int32 × mm_M)} (hq16 : ∀ (x1 : Int32) (x2 : Int32) (x3 : Int32) (x4 : Int32) (x5 : Int32) (x6 : Int32) (M : mm_M), q16 x1 x2 x3 x4 x5 x6 M = some z → z.1 = 0 ∨ z.1 = 1) (hf : f_X12_worksOn_166 q16 x1 x2 x3 x4 x6 x7 x10 M = some z) : z.1 = 0 ∨ z.1 = 1 := by
  unfold f_X12_worksOn_166 at hf
  exact bz_X12_worksOn_167 hq16 hf
theorem bz_X12_worksOn_139 {z : (Int32 × mm_M)} {x1 : Int32} {x2 : Int32} {x3 : Int32} {x4 : Int32} {x5 : Int32} {x6 : Int32} {x7 : Int32} {t0 : Int32} {M : mm_M} {q16 : Int32 → Int32 → Int32 → Int32 → Int32 → Int32 → mm_M → Option (Int32 × mm_M)} (hq16 : ∀ (x1 : Int32) (x2 : Int32) (x3 : Int32) (x4 : Int32) (x5 : Int32) (x6 : Int32) (M : mm_M), q16 x1 x2 x3 x4 x5 x6 M = some z → z.1 = 0 ∨ z.1 = 1) (hf : f_X12_worksOn_139 q16 x1 x2 x3 x4 x5 x6 x7 t0 M = some z) : z.1 = 0 ∨ z.1 = 1 := by
  unfold f_X12_worksOn_139 at hf
  by_cases c27 : x5 = 0
  · rw [if_pos c27] at hf
    by_cases c28 : t0 = 0
    · rw [if_pos c28] at hf
      exact bz_X12_worksOn_166 hq16 hf
    · rw [if_neg c28] at hf
      obtain ⟨h29, hf⟩ := ck_e hf
      by_cases c30 : (M.1 7 x2.toNatClampNeg) = x7
      · rw [if_pos c30] at hf
        exact bz_X12_worksOn_166 hq16 hf
      · rw [if_neg c30] at hf
        exact bz_X12_worksOn_162 hq16 hf
  · rw [if_neg c27] at hf
    exact bz_X12_worksOn_162 hq16 hf
theorem bz_X12_worksOn_138 {z : (Int32 × mm_M)} {x1 : Int32} {x2 : Int32} {x3 : Int32} {x4 : Int32} {x5 : Int32} {x6 : Int32} {x7 : Int32} {M : mm_M} {q16 : Int32 → Int32 → Int32 → Int32 → Int32 → Int32 → mm_M → Option (Int32 × mm_M)} (hq16 : ∀ (x1 : Int32) (x2 : Int32) (x3 : Int32) (x4 : Int32) (x5 : Int32) (x6 : Int32) (M : mm_M), q16 x1 x2 x3 x4 x5 x6 M = some z → z.1 = 0 ∨ z.1 = 1) (hf : f_X12_worksOn_138 q16 x1 x2 x3 x4 x5 x6 x7 M = some z) : z.1 = 0 ∨ z.1 = 1 := by
  unfold f_X12_worksOn_138 at hf
  exact bz_X12_worksOn_139 hq16 hf
theorem bz_X12_worksOn_87 {z : (Int32 × mm_M)} {x1 : Int32} {x2 : Int32} {x3 : Int32} {x4 : Int32} {x5 : Int32} {x6 : Int32} {x7 : Int32} {x8 : Int32} {t0 : Int32} {M : mm_M} {q16 : Int32 → Int32 → Int32 → Int32 → Int32 → Int32 → mm_M → Option (Int32 × mm_M)} (hq16 : ∀ (x1 : Int32) (x2 : Int32) (x3 : Int32) (x4 : Int32) (x5 : Int32) (x6 : Int32) (M : mm_M), q16 x1 x2 x3 x4 x5 x6 M = some z → z.1 = 0 ∨ z.1 = 1) (hf : f_X12_worksOn_87 q16 x1 x2 x3 x4 x5 x6 x7 x8 t0 M = some z) : z.1 = 0 ∨ z.1 = 1 := by
  unfold f_X12_worksOn_87 at hf
  obtain ⟨h15, hf⟩ := ck_e hf
  obtain ⟨z16, ez16, hf⟩ := bd_e hf
  by_cases c17 : z16 = 0
  · rw [if_pos c17] at hf
    exact bz_X12_worksOn_138 hq16 hf
  · rw [if_neg c17] at hf
    obtain ⟨h18, hf⟩ := ck_e hf
    obtain ⟨z19, ez19, hf⟩ := bd_e hf
    by_cases c20 : z19 = 0
    · rw [if_pos c20] at hf
      exact bz_X12_worksOn_138 hq16 hf
    · rw [if_neg c20] at hf
      obtain ⟨h21, hf⟩ := ck_e hf
      obtain ⟨z22, ez22, hf⟩ := bd_e hf
      by_cases c23 : z22 = 0
      · rw [if_pos c23] at hf
        exact bz_X12_worksOn_138 hq16 hf
      · rw [if_neg c23] at hf
        exact bz_X12_worksOn_139 hq16 hf
theorem bz_X12_worksOn_59 {z : (Int32 × mm_M)} {x1 : Int32} {x2 : Int32} {x3 : Int32} {x4 : Int32} {x5 : Int32} {x6 : Int32} {x7 : Int32} {t0 : Int32} {M : mm_M} {q16 : Int32 → Int32 → Int32 → Int32 → Int32 → Int32 → mm_M → Option (Int32 × mm_M)} (hq16 : ∀ (x1 : Int32) (x2 : Int32) (x3 : Int32) (x4 : Int32) (x5 : Int32) (x6 : Int32) (M : mm_M), q16 x1 x2 x3 x4 x5 x6 M = some z → z.1 = 0 ∨ z.1 = 1) (hf : f_X12_worksOn_59 q16 x1 x2 x3 x4 x5 x6 x7 t0 M = some z) : z.1 = 0 ∨ z.1 = 1 := by
  unfold f_X12_worksOn_59 at hf
  by_cases c8 : x6 = (x3 - 1)
  · rw [if_pos c8] at hf
    exact bz_X12_worksOn_87 hq16 hf
  · rw [if_neg c8] at hf
    obtain ⟨h9, hf⟩ := ck_e hf
    exact bz_X12_worksOn_87 hq16 hf
theorem bz_X12_worksOn_252 {z : (Int32 × mm_M)} {x1 : Int32} {x4 : Int32} {x5 : Int32} {M : mm_M} (hf : f_X12_worksOn_252 x1 x4 x5 M = some z) : z.1 = 0 ∨ z.1 = 1 := by
  unfold f_X12_worksOn_252 at hf
  obtain ⟨h24, hf⟩ := ck_e hf
  obtain ⟨M25, eM25, hf⟩ := sq_e hf
  obtain ⟨h26, hf⟩ := ck_e hf
  rw [← Option.some.inj hf]; exact h26
theorem bz_X12_worksOn_220 {z : (Int32 × mm_M)} {x1 : Int32} {x4 : Int32} {x5 : Int32} {x6 : Int32} {M : mm_M} {q220 : Int32 → Int32 → Int32 → Int32 → mm_M → Option (Int32 × mm_M)} (hq220 : ∀ (x1 : Int32) (x4 : Int32) (x5 : Int32) (x6 : Int32) (M : mm_M), q220 x1 x4 x5 x6 M = some z → z.1 = 0 ∨ z.1 = 1) (hf : f_X12_worksOn_220 q220 x1 x4 x5 x6 M = some z) : z.1 = 0 ∨ z.1 = 1 := by
  unfold f_X12_worksOn_220 at hf
  by_cases c10 : x4 ≤ x6
  · rw [if_pos c10] at hf
    exact bz_X12_worksOn_252 hf
  · rw [if_neg c10] at hf
    obtain ⟨h11, hf⟩ := ck_e hf
    obtain ⟨h12, hf⟩ := ck_e hf
    obtain ⟨M13, eM13, hf⟩ := sq_e hf
    obtain ⟨y14, ey14, hf⟩ := sq_e hf
    exact hq220 _ _ _ _ _ hf
theorem bz_X12_worksOn_220l {z : (Int32 × mm_M)} : ∀ (n : Nat) (x1 : Int32) (x4 : Int32) (x5 : Int32) (x6 : Int32) (M : mm_M), f_X12_worksOn_220l n x1 x4 x5 x6 M = some z → z.1 = 0 ∨ z.1 = 1 := by
  intro n
  induction n with
  | zero => intro x1 x4 x5 x6 M hf; exact absurd hf (by simp [f_X12_worksOn_220l])
  | succ n ih => intro x1 x4 x5 x6 M hf; exact bz_X12_worksOn_220 ih hf
theorem bz_X12_worksOn_217 {z : (Int32 × mm_M)} {x1 : Int32} {x4 : Int32} {x5 : Int32} {M : mm_M} (hf : f_X12_worksOn_217 x1 x4 x5 M = some z) : z.1 = 0 ∨ z.1 = 1 := by
  unfold f_X12_worksOn_217 at hf
  exact bz_X12_worksOn_220l fu_ _ _ _ _ _ hf
theorem bz_X12_worksOn_16 {z : (Int32 × mm_M)} {x1 : Int32} {x2 : Int32} {x3 : Int32} {x4 : Int32} {x5 : Int32} {x6 : Int32} {M : mm_M} {q16 : Int32 → Int32 → Int32 → Int32 → Int32 → Int32 → mm_M → Option (Int32 × mm_M)} (hq16 : ∀ (x1 : Int32) (x2 : Int32) (x3 : Int32) (x4 : Int32) (x5 : Int32) (x6 : Int32) (M : mm_M), q16 x1 x2 x3 x4 x5 x6 M = some z → z.1 = 0 ∨ z.1 = 1) (hf : f_X12_worksOn_16 q16 x1 x2 x3 x4 x5 x6 M = some z) : z.1 = 0 ∨ z.1 = 1 := by
  unfold f_X12_worksOn_16 at hf
  by_cases c3 : x3 ≤ x6
  · rw [if_pos c3] at hf
    exact bz_X12_worksOn_217 hf
  · rw [if_neg c3] at hf
    obtain ⟨h4, hf⟩ := ck_e hf
    obtain ⟨y5, ey5, hf⟩ := sq_e hf
    by_cases c6 : x6 = 0
    · rw [if_pos c6] at hf
      exact bz_X12_worksOn_59 hq16 hf
    · rw [if_neg c6] at hf
      obtain ⟨h7, hf⟩ := ck_e hf
      exact bz_X12_worksOn_59 hq16 hf
theorem bz_X12_worksOn_16l {z : (Int32 × mm_M)} : ∀ (n : Nat) (x1 : Int32) (x2 : Int32) (x3 : Int32) (x4 : Int32) (x5 : Int32) (x6 : Int32) (M : mm_M), f_X12_worksOn_16l n x1 x2 x3 x4 x5 x6 M = some z → z.1 = 0 ∨ z.1 = 1 := by
  intro n
  induction n with
  | zero => intro x1 x2 x3 x4 x5 x6 M hf; exact absurd hf (by simp [f_X12_worksOn_16l])
  | succ n ih => intro x1 x2 x3 x4 x5 x6 M hf; exact bz_X12_worksOn_16 ih hf
theorem bz_X12_worksOn {z : (Int32 × mm_M)} {x1 : Int32} {x2 : Int32} {M : mm_M} (hf : f_X12_worksOn x1 x2 M = some z) : z.1 = 0 ∨ z.1 = 1 := by
  unfold f_X12_worksOn at hf
  obtain ⟨h1, hf⟩ := ck_e hf
  obtain ⟨y2, ey2, hf⟩ := sq_e hf
  exact bz_X12_worksOn_16l fu_ _ _ _ _ _ _ _ hf
def f_X12_spells_14 (q14 : Int32 → Int32 → Int32 → mm_M → Option mm_M) (x1 : Int32) (x2 : Int32) (x3 : Int32) (M : mm_M) : Option mm_M :=
  if ix_ok x2 20 then (
  if (M.1 5 x2.toNatClampNeg) ≤ x3 then (
    some M
  ) else (
    if ix_ok ((8 * x2) + x3) 160 then (
    if ix_ok ((8 * x1) + x3) 16 then (
    sq_ (mm_si M 14 ((8 * x1) + x3).toNatClampNeg (M.1 4 ((8 * x2) + x3).toNatClampNeg)) fun M8 =>
    sq_ (x3 + 1 : Int32) fun y9 =>
    q14 x1 x2 y9 M8
    ) else none ) else none
  )
  ) else none
def f_X12_spells_14l : Nat → Int32 → Int32 → Int32 → mm_M → Option mm_M
  | 0, _, _, _, _ => none
  | n + 1, x1, x2, x3, M => f_X12_spells_14 (f_X12_spells_14l n) x1 x2 x3 M
def f_X12_spells (x1 : Int32) (x2 : Int32) (M : mm_M) : Option mm_M :=
  if ix_ok x2 20 then (
  if ix_ok x1 2 then (
  sq_ (mm_si M 15 x1.toNatClampNeg (M.1 5 x2.toNatClampNeg)) fun M3 =>
  f_X12_spells_14l fu_ x1 x2 (0 : Int32) M3
  ) else none ) else none
def f_X12_says_18 (q18 : Int32 → Int32 → mm_M → Option mm_M) (x1 : Int32) (x6 : Int32) (M : mm_M) : Option mm_M :=
  if (M.1 0 24) ≤ x6 then (
    some M
  ) else (
    if ix_ok x6 6 then (
    (f_X12_worksOn x1 (M.1 17 x6.toNatClampNeg) M).bind fun z5 =>
    sq_ (x6 + 1 : Int32) fun y6 =>
    q18 x1 y6 z5.2
    ) else none
  )
def f_X12_says_18l : Nat → Int32 → Int32 → mm_M → Option mm_M
  | 0, _, _, _ => none
  | n + 1, x1, x6, M => f_X12_says_18 (f_X12_says_18l n) x1 x6 M
def f_X12_says (x1 : Int32) (x2 : Int32) (x3 : Int32) (x4 : Int32) (x5 : Int32) (M : mm_M) : Option mm_M :=
  (f_X12_spells x1 x2 M).bind fun z1 =>
  (f_X12_lines x3 x4 x5 z1).bind fun z2 =>
  f_X12_says_18l fu_ x1 (0 : Int32) z2
def f_X12_areAlike_60 (q23 : Int32 → Int32 → Option Int32) (x2 : Int32) (t0 : Int32) (M : mm_M) : Option Int32 :=
  sq_ (x2 + 1 : Int32) fun y9 =>
  q23 t0 y9
def f_X12_areAlike_23 (q23 : Int32 → Int32 → Option Int32) (x1 : Int32) (x2 : Int32) (M : mm_M) : Option Int32 :=
  if (M.1 15 (0 : Int32).toNatClampNeg) ≤ x2 then (
    if x1 = 0 ∨ x1 = 1 then (
    some x1
    ) else none
  ) else (
    if x1 = 0 then (
      if x1 = 0 ∨ x1 = 1 then (
      some x1
      ) else none
    ) else (
      if ix_ok x2 16 then (
      if ix_ok (8 + x2) 16 then (
      if (M.1 14 x2.toNatClampNeg) = (M.1 14 (8 + x2).toNatClampNeg) then (
        f_X12_areAlike_60 q23 x2 (1 : Int32) M
      ) else (
        f_X12_areAlike_60 q23 x2 (0 : Int32) M
      )
      ) else none ) else none
    )
  )
def f_X12_areAlike_23l (M : mm_M) : Nat → Int32 → Int32 → Option Int32
  | 0, _, _ => none
  | n + 1, x1, x2 => f_X12_areAlike_23 (f_X12_areAlike_23l M n) x1 x2 M
def f_X12_areAlike_20 (t0 : Int32) (M : mm_M) : Option Int32 :=
  f_X12_areAlike_23l M fu_ t0 (0 : Int32)
def f_X12_areAlike (M : mm_M) : Option Int32 :=
  if (M.1 15 (0 : Int32).toNatClampNeg) = (M.1 15 (1 : Int32).toNatClampNeg) then (
    f_X12_areAlike_20 (1 : Int32) M
  ) else (
    f_X12_areAlike_20 (0 : Int32) M
  )
theorem bz_X12_areAlike_60 {z : Int32} {x2 : Int32} {t0 : Int32} {M : mm_M} {q23 : Int32 → Int32 → Option Int32} (hq23 : ∀ (x1 : Int32) (x2 : Int32), q23 x1 x2 = some z → z = 0 ∨ z = 1) (hf : f_X12_areAlike_60 q23 x2 t0 M = some z) : z = 0 ∨ z = 1 := by
  unfold f_X12_areAlike_60 at hf
  obtain ⟨y9, ey9, hf⟩ := sq_e hf
  exact hq23 _ _ hf
theorem bz_X12_areAlike_23 {z : Int32} {x1 : Int32} {x2 : Int32} {M : mm_M} {q23 : Int32 → Int32 → Option Int32} (hq23 : ∀ (x1 : Int32) (x2 : Int32), q23 x1 x2 = some z → z = 0 ∨ z = 1) (hf : f_X12_areAlike_23 q23 x1 x2 M = some z) : z = 0 ∨ z = 1 := by
  unfold f_X12_areAlike_23 at hf
  by_cases c2 : (M.1 15 (0 : Int32).toNatClampNeg) ≤ x2
  · rw [if_pos c2] at hf
    obtain ⟨h3, hf⟩ := ck_e hf
    rw [← Option.some.inj hf]; exact h3
  · rw [if_neg c2] at hf
    by_cases c4 : x1 = 0
    · rw [if_pos c4] at hf
      obtain ⟨h5, hf⟩ := ck_e hf
      rw [← Option.some.inj hf]; exact h5
    · rw [if_neg c4] at hf
      obtain ⟨h6, hf⟩ := ck_e hf
      obtain ⟨h7, hf⟩ := ck_e hf
      by_cases c8 : (M.1 14 x2.toNatClampNeg) = (M.1 14 (8 + x2).toNatClampNeg)
      · rw [if_pos c8] at hf
        exact bz_X12_areAlike_60 hq23 hf
      · rw [if_neg c8] at hf
        exact bz_X12_areAlike_60 hq23 hf
theorem bz_X12_areAlike_23l {z : Int32} {M : mm_M} : ∀ (n : Nat) (x1 : Int32) (x2 : Int32), f_X12_areAlike_23l M n x1 x2 = some z → z = 0 ∨ z = 1 := by
  intro n
  induction n with
  | zero => intro x1 x2 hf; exact absurd hf (by simp [f_X12_areAlike_23l])
  | succ n ih => intro x1 x2 hf; exact bz_X12_areAlike_23 ih hf
theorem bz_X12_areAlike_20 {z : Int32} {t0 : Int32} {M : mm_M} (hf : f_X12_areAlike_20 t0 M = some z) : z = 0 ∨ z = 1 := by
  unfold f_X12_areAlike_20 at hf
  exact bz_X12_areAlike_23l fu_ _ _ hf
theorem bz_X12_areAlike {z : Int32} {M : mm_M} (hf : f_X12_areAlike M = some z) : z = 0 ∨ z = 1 := by
  unfold f_X12_areAlike at hf
  by_cases c1 : (M.1 15 (0 : Int32).toNatClampNeg) = (M.1 15 (1 : Int32).toNatClampNeg)
  · rw [if_pos c1] at hf
    exact bz_X12_areAlike_20 hf
  · rw [if_neg c1] at hf
    exact bz_X12_areAlike_20 hf
def f_X12_tailAt_42 (q4 : Int32 → Int32 → Int32 → Option Int32) (x1 : Int32) (x3 : Int32) (t0 : Int32) (M : mm_M) : Option Int32 :=
  sq_ (x3 + 1 : Int32) fun y6 =>
  q4 x1 t0 y6
def f_X12_tailAt_4 (q4 : Int32 → Int32 → Int32 → Option Int32) (x1 : Int32) (x2 : Int32) (x3 : Int32) (M : mm_M) : Option Int32 :=
  if ix_ok x1 2 then (
  if (M.1 15 x1.toNatClampNeg) ≤ x3 then (
    some x2
  ) else (
    if ix_ok ((8 * x1) + x3) 16 then (
    sq_ (f_X12_has (M.1 3 (0 : Int32).toNatClampNeg) (M.1 14 ((8 * x1) + x3).toNatClampNeg)) fun z4 =>
    if z4 = 0 then (
      f_X12_tailAt_42 q4 x1 x3 x2 M
    ) else (
      f_X12_tailAt_42 q4 x1 x3 x3 M
    )
    ) else none
  )
  ) else none
def f_X12_tailAt_4l (M : mm_M) : Nat → Int32 → Int32 → Int32 → Option Int32
  | 0, _, _, _ => none
  | n + 1, x1, x2, x3 => f_X12_tailAt_4 (f_X12_tailAt_4l M n) x1 x2 x3 M
def f_X12_tailAt (x1 : Int32) (M : mm_M) : Option Int32 :=
  f_X12_tailAt_4l M fu_ x1 ((-1) : Int32) (0 : Int32)
def f_X12_haveTails (M : mm_M) : Option Int32 :=
  (f_X12_tailAt (0 : Int32) M).bind fun z1 =>
  if z1 < 0 then (
    some (0 : Int32)
  ) else (
    (f_X12_tailAt (1 : Int32) M).bind fun z3 =>
    if z3 < 0 then (
      some (0 : Int32)
    ) else (
      some (1 : Int32)
    )
  )
theorem bz_X12_haveTails {z : Int32} {M : mm_M} (hf : f_X12_haveTails M = some z) : z = 0 ∨ z = 1 := by
  unfold f_X12_haveTails at hf
  obtain ⟨z1, ez1, hf⟩ := bd_e hf
  by_cases c2 : z1 < 0
  · rw [if_pos c2] at hf
    rw [← Option.some.inj hf]; exact (Or.inl rfl)
  · rw [if_neg c2] at hf
    obtain ⟨z3, ez3, hf⟩ := bd_e hf
    by_cases c4 : z3 < 0
    · rw [if_pos c4] at hf
      rw [← Option.some.inj hf]; exact (Or.inl rfl)
    · rw [if_neg c4] at hf
      rw [← Option.some.inj hf]; exact (Or.inr rfl)
def f_X12_areTailsAlike_86 (q40 : Int32 → Int32 → Int32 → Int32 → Option Int32) (x1 : Int32) (x2 : Int32) (x4 : Int32) (t0 : Int32) (M : mm_M) : Option Int32 :=
  sq_ (x4 + 1 : Int32) fun y11 =>
  q40 x1 x2 t0 y11
def f_X12_areTailsAlike_40 (q40 : Int32 → Int32 → Int32 → Int32 → Option Int32) (x1 : Int32) (x2 : Int32) (x3 : Int32) (x4 : Int32) (M : mm_M) : Option Int32 :=
  if (M.1 15 (0 : Int32).toNatClampNeg) ≤ (x1 + x4) then (
    if x3 = 0 ∨ x3 = 1 then (
    some x3
    ) else none
  ) else (
    if x3 = 0 then (
      if x3 = 0 ∨ x3 = 1 then (
      some x3
      ) else none
    ) else (
      if ix_ok (x1 + x4) 16 then (
      if ix_ok ((8 + x2) + x4) 16 then (
      if (M.1 14 (x1 + x4).toNatClampNeg) = (M.1 14 ((8 + x2) + x4).toNatClampNeg) then (
        f_X12_areTailsAlike_86 q40 x1 x2 x4 (1 : Int32) M
      ) else (
        f_X12_areTailsAlike_86 q40 x1 x2 x4 (0 : Int32) M
      )
      ) else none ) else none
    )
  )
def f_X12_areTailsAlike_40l (M : mm_M) : Nat → Int32 → Int32 → Int32 → Int32 → Option Int32
  | 0, _, _, _, _ => none
  | n + 1, x1, x2, x3, x4 => f_X12_areTailsAlike_40 (f_X12_areTailsAlike_40l M n) x1 x2 x3 x4 M
def f_X12_areTailsAlike_36 (x1 : Int32) (x2 : Int32) (t0 : Int32) (M : mm_M) : Option Int32 :=
  f_X12_areTailsAlike_40l M fu_ x1 x2 t0 (0 : Int32)
def f_X12_areTailsAlike (M : mm_M) : Option Int32 :=
  (f_X12_tailAt (0 : Int32) M).bind fun z1 =>
  (f_X12_tailAt (1 : Int32) M).bind fun z2 =>
  if ((M.1 15 (0 : Int32).toNatClampNeg) - z1) = ((M.1 15 (1 : Int32).toNatClampNeg) - z2) then (
    f_X12_areTailsAlike_36 z1 z2 (1 : Int32) M
  ) else (
    f_X12_areTailsAlike_36 z1 z2 (0 : Int32) M
  )
theorem bz_X12_areTailsAlike_86 {z : Int32} {x1 : Int32} {x2 : Int32} {x4 : Int32} {t0 : Int32} {M : mm_M} {q40 : Int32 → Int32 → Int32 → Int32 → Option Int32} (hq40 : ∀ (x1 : Int32) (x2 : Int32) (x3 : Int32) (x4 : Int32), q40 x1 x2 x3 x4 = some z → z = 0 ∨ z = 1) (hf : f_X12_areTailsAlike_86 q40 x1 x2 x4 t0 M = some z) : z = 0 ∨ z = 1 := by
  unfold f_X12_areTailsAlike_86 at hf
  obtain ⟨y11, ey11, hf⟩ := sq_e hf
  exact hq40 _ _ _ _ hf
theorem bz_X12_areTailsAlike_40 {z : Int32} {x1 : Int32} {x2 : Int32} {x3 : Int32} {x4 : Int32} {M : mm_M} {q40 : Int32 → Int32 → Int32 → Int32 → Option Int32} (hq40 : ∀ (x1 : Int32) (x2 : Int32) (x3 : Int32) (x4 : Int32), q40 x1 x2 x3 x4 = some z → z = 0 ∨ z = 1) (hf : f_X12_areTailsAlike_40 q40 x1 x2 x3 x4 M = some z) : z = 0 ∨ z = 1 := by
  unfold f_X12_areTailsAlike_40 at hf
  by_cases c4 : (M.1 15 (0 : Int32).toNatClampNeg) ≤ (x1 + x4)
  · rw [if_pos c4] at hf
    obtain ⟨h5, hf⟩ := ck_e hf
    rw [← Option.some.inj hf]; exact h5
  · rw [if_neg c4] at hf
    by_cases c6 : x3 = 0
    · rw [if_pos c6] at hf
      obtain ⟨h7, hf⟩ := ck_e hf
      rw [← Option.some.inj hf]; exact h7
    · rw [if_neg c6] at hf
      obtain ⟨h8, hf⟩ := ck_e hf
      obtain ⟨h9, hf⟩ := ck_e hf
      by_cases c10 : (M.1 14 (x1 + x4).toNatClampNeg) = (M.1 14 ((8 + x2) + x4).toNatClampNeg)
      · rw [if_pos c10] at hf
        exact bz_X12_areTailsAlike_86 hq40 hf
      · rw [if_neg c10] at hf
        exact bz_X12_areTailsAlike_86 hq40 hf
theorem bz_X12_areTailsAlike_40l {z : Int32} {M : mm_M} : ∀ (n : Nat) (x1 : Int32) (x2 : Int32) (x3 : Int32) (x4 : Int32), f_X12_areTailsAlike_40l M n x1 x2 x3 x4 = some z → z = 0 ∨ z = 1 := by
  intro n
  induction n with
  | zero => intro x1 x2 x3 x4 hf; exact absurd hf (by simp [f_X12_areTailsAlike_40l])
  | succ n ih => intro x1 x2 x3 x4 hf; exact bz_X12_areTailsAlike_40 ih hf
theorem bz_X12_areTailsAlike_36 {z : Int32} {x1 : Int32} {x2 : Int32} {t0 : Int32} {M : mm_M} (hf : f_X12_areTailsAlike_36 x1 x2 t0 M = some z) : z = 0 ∨ z = 1 := by
  unfold f_X12_areTailsAlike_36 at hf
  exact bz_X12_areTailsAlike_40l fu_ _ _ _ _ hf
theorem bz_X12_areTailsAlike {z : Int32} {M : mm_M} (hf : f_X12_areTailsAlike M = some z) : z = 0 ∨ z = 1 := by
  unfold f_X12_areTailsAlike at hf
  obtain ⟨z1, ez1, hf⟩ := bd_e hf
  obtain ⟨z2, ez2, hf⟩ := bd_e hf
  by_cases c3 : ((M.1 15 (0 : Int32).toNatClampNeg) - z1) = ((M.1 15 (1 : Int32).toNatClampNeg) - z2)
  · rw [if_pos c3] at hf
    exact bz_X12_areTailsAlike_36 hf
  · rw [if_neg c3] at hf
    exact bz_X12_areTailsAlike_36 hf
def f_X12_areRhymes (M : mm_M) : Option Int32 :=
  (f_X12_haveTails M).bind fun z1 =>
  if z1 = 0 then (
    some (0 : Int32)
  ) else (
    (f_X12_areTailsAlike M).bind fun z3 =>
    if z3 = 0 then (
      some (0 : Int32)
    ) else (
      some (1 : Int32)
    )
  )
theorem bz_X12_areRhymes {z : Int32} {M : mm_M} (hf : f_X12_areRhymes M = some z) : z = 0 ∨ z = 1 := by
  unfold f_X12_areRhymes at hf
  obtain ⟨z1, ez1, hf⟩ := bd_e hf
  by_cases c2 : z1 = 0
  · rw [if_pos c2] at hf
    rw [← Option.some.inj hf]; exact (Or.inl rfl)
  · rw [if_neg c2] at hf
    obtain ⟨z3, ez3, hf⟩ := bd_e hf
    by_cases c4 : z3 = 0
    · rw [if_pos c4] at hf
      rw [← Option.some.inj hf]; exact (Or.inl rfl)
    · rw [if_neg c4] at hf
      rw [← Option.some.inj hf]; exact (Or.inr rfl)
def f_X12_isWord (x1 : Int32) (M : mm_M) : Int32 :=
  sq_ (f_X12_in (x1.toInt64) (0 : Int64) (((M.1 0 8) - 1).toInt64)) fun z1 =>
  z1
theorem bz_X12_isWord {z : Int32} {x1 : Int32} {M : mm_M} (hf : f_X12_isWord x1 M = z) : z = 0 ∨ z = 1 := by
  unfold f_X12_isWord at hf
  obtain ⟨z1, ez1, hf⟩ := sq_e hf
  rw [← hf]; exact (bz_X12_in ez1.symm)
def f_X12_isLaw (x1 : Int32) (M : mm_M) : Int32 :=
  sq_ (f_X12_in (x1.toInt64) (0 : Int64) (((M.1 0 11) - 1).toInt64)) fun z1 =>
  z1
theorem bz_X12_isLaw {z : Int32} {x1 : Int32} {M : mm_M} (hf : f_X12_isLaw x1 M = z) : z = 0 ∨ z = 1 := by
  unfold f_X12_isLaw at hf
  obtain ⟨z1, ez1, hf⟩ := sq_e hf
  rw [← hf]; exact (bz_X12_in ez1.symm)
def f_X12_isHistory (x1 : Int32) (M : mm_M) : Option Int32 :=
  (f_X12_histories M).bind fun z1 =>
  sq_ (f_X12_in (x1.toInt64) (0 : Int64) ((z1 - 1).toInt64)) fun z2 =>
  some z2
theorem bz_X12_isHistory {z : Int32} {x1 : Int32} {M : mm_M} (hf : f_X12_isHistory x1 M = some z) : z = 0 ∨ z = 1 := by
  unfold f_X12_isHistory at hf
  obtain ⟨z1, ez1, hf⟩ := bd_e hf
  obtain ⟨z2, ez2, hf⟩ := sq_e hf
  rw [← Option.some.inj hf]; exact (bz_X12_in ez2.symm)
def f_X12_isThen (x0 : Int32) (x1 : Int32) : Int32 :=
  sq_ (f_X12_in (x0.toInt64) (0 : Int64) (600 : Int64)) fun z1 =>
  if z1 = 0 then (
    (0 : Int32)
  ) else (
    sq_ (f_X12_in (x1.toInt64) (0 : Int64) (5 : Int64)) fun z3 =>
    if z3 = 0 then (
      (0 : Int32)
    ) else (
      (1 : Int32)
    )
  )
theorem bz_X12_isThen {z : Int32} {x0 : Int32} {x1 : Int32} (hf : f_X12_isThen x0 x1 = z) : z = 0 ∨ z = 1 := by
  unfold f_X12_isThen at hf
  obtain ⟨z1, ez1, hf⟩ := sq_e hf
  by_cases c2 : z1 = 0
  · rw [if_pos c2] at hf
    rw [← hf]; exact (Or.inl rfl)
  · rw [if_neg c2] at hf
    obtain ⟨z3, ez3, hf⟩ := sq_e hf
    by_cases c4 : z3 = 0
    · rw [if_pos c4] at hf
      rw [← hf]; exact (Or.inl rfl)
    · rw [if_neg c4] at hf
      rw [← hf]; exact (Or.inr rfl)
def f_X12_said_79 (M : mm_M) : Option (Int32 × mm_M) :=
  some ((M.1 15 (0 : Int32).toNatClampNeg), M)
def f_X12_said_50 (q50 : Int32 → mm_M → Option (Int32 × mm_M)) (x5 : Int32) (M : mm_M) : Option (Int32 × mm_M) :=
  if (M.1 15 (0 : Int32).toNatClampNeg) ≤ x5 then (
    f_X12_said_79 M
  ) else (
    if ix_ok x5 16 then (
    (f_X12_enters ((M.1 14 x5.toNatClampNeg).toInt64) M).bind fun z12 =>
    sq_ (x5 + 1 : Int32) fun y13 =>
    q50 y13 z12
    ) else none
  )
def f_X12_said_50l : Nat → Int32 → mm_M → Option (Int32 × mm_M)
  | 0, _, _ => none
  | n + 1, x5, M => f_X12_said_50 (f_X12_said_50l n) x5 M
def f_X12_said (x1 : Int32) (x2 : Int32) (x3 : Int32) (x4 : Int32) (M : mm_M) : Option (Int32 × mm_M) :=
  sq_ (mm_si M 0 0 0) fun M1 =>
  sq_ (f_X12_isWord x1 M1) fun z2 =>
  if z2 = 0 then (
    some (((-1) : Int32), M1)
  ) else (
    (f_X12_isHistory x2 M1).bind fun z4 =>
    if z4 = 0 then (
      some (((-1) : Int32), M1)
    ) else (
      sq_ (f_X12_isThen x3 x4) fun z6 =>
      if z6 = 0 then (
        some (((-1) : Int32), M1)
      ) else (
        (f_X12_says (0 : Int32) x1 x2 x3 x4 M1).bind fun z8 =>
        sq_ (mm_si z8 0 1 0) fun M9 =>
        f_X12_said_50l fu_ (0 : Int32) M9
      )
    )
  )
def f_X12_changes_97 (q39 : Int32 → Int32 → Int32 → Int32 → mm_M → Option (Int32 × mm_M)) (x1 : Int32) (x2 : Int32) (x3 : Int32) (x4 : Int32) (M : mm_M) : Option (Int32 × mm_M) :=
  sq_ (x4 + 1 : Int32) fun y17 =>
  q39 x1 x2 x3 y17 M
def f_X12_changes_83 (q39 : Int32 → Int32 → Int32 → Int32 → mm_M → Option (Int32 × mm_M)) (x1 : Int32) (x2 : Int32) (x3 : Int32) (x4 : Int32) (M : mm_M) : Option (Int32 × mm_M) :=
  (f_X12_areAlike M).bind fun z14 =>
  if z14 = 0 then (
    (f_X12_enters (x4.toInt64) M).bind fun z16 =>
    f_X12_changes_97 q39 x1 x2 x3 x4 z16
  ) else (
    f_X12_changes_97 q39 x1 x2 x3 x4 M
  )
def f_X12_changes_103 (M : mm_M) : Option (Int32 × mm_M) :=
  some ((M.1 0 1), M)
def f_X12_changes_39 (q39 : Int32 → Int32 → Int32 → Int32 → mm_M → Option (Int32 × mm_M)) (x1 : Int32) (x2 : Int32) (x3 : Int32) (x4 : Int32) (M : mm_M) : Option (Int32 × mm_M) :=
  if 600 < x4 then (
    f_X12_changes_103 M
  ) else (
    (f_X12_says (0 : Int32) x1 x2 x4 x3 M).bind fun z10 =>
    if x4 = 0 then (
      (f_X12_spells (1 : Int32) x1 z10).bind fun z13 =>
      f_X12_changes_83 q39 x1 x2 x3 x4 z13
    ) else (
      (f_X12_says (1 : Int32) x1 x2 (x4 - 1) x3 z10).bind fun z12 =>
      f_X12_changes_83 q39 x1 x2 x3 x4 z12
    )
  )
def f_X12_changes_39l : Nat → Int32 → Int32 → Int32 → Int32 → mm_M → Option (Int32 × mm_M)
  | 0, _, _, _, _, _ => none
  | n + 1, x1, x2, x3, x4, M => f_X12_changes_39 (f_X12_changes_39l n) x1 x2 x3 x4 M
def f_X12_changes (x1 : Int32) (x2 : Int32) (x3 : Int32) (M : mm_M) : Option (Int32 × mm_M) :=
  sq_ (mm_si M 0 0 0) fun M1 =>
  sq_ (f_X12_isWord x1 M1) fun z2 =>
  if z2 = 0 then (
    some (((-1) : Int32), M1)
  ) else (
    (f_X12_isHistory x2 M1).bind fun z4 =>
    if z4 = 0 then (
      some (((-1) : Int32), M1)
    ) else (
      sq_ (f_X12_isThen (0 : Int32) x3) fun z6 =>
      if z6 = 0 then (
        some (((-1) : Int32), M1)
      ) else (
        sq_ (mm_si M1 0 1 0) fun M8 =>
        f_X12_changes_39l fu_ x1 x2 x3 (0 : Int32) M8
      )
    )
  )
def f_X12_saysBoth (x1 : Int32) (x2 : Int32) (x3 : Int32) (x4 : Int32) (x5 : Int32) (M : mm_M) : Option mm_M :=
  (f_X12_says (0 : Int32) x1 x3 x4 x5 M).bind fun z1 =>
  (f_X12_says (1 : Int32) x2 x3 x4 x5 z1).bind fun z2 =>
  some z2
def f_X12_alike (x1 : Int32) (x2 : Int32) (x3 : Int32) (x4 : Int32) (x5 : Int32) (M : mm_M) : Option (Int32 × mm_M) :=
  sq_ (mm_si M 0 0 0) fun M1 =>
  sq_ (f_X12_isWord x1 M1) fun z2 =>
  if z2 = 0 then (
    some (((-1) : Int32), M1)
  ) else (
    sq_ (f_X12_isWord x2 M1) fun z4 =>
    if z4 = 0 then (
      some (((-1) : Int32), M1)
    ) else (
      (f_X12_isHistory x3 M1).bind fun z6 =>
      if z6 = 0 then (
        some (((-1) : Int32), M1)
      ) else (
        sq_ (f_X12_isThen x4 x5) fun z8 =>
        if z8 = 0 then (
          some (((-1) : Int32), M1)
        ) else (
          (f_X12_saysBoth x1 x2 x3 x4 x5 M1).bind fun z10 =>
          (f_X12_areAlike z10).bind fun z11 =>
          if z11 = 0 then (
            (f_X12_areRhymes z10).bind fun z13 =>
            sq_ (f_X12_truth z13) fun z14 =>
            some (z14, z10)
          ) else (
            some ((2 : Int32), z10)
          )
        )
      )
    )
  )
def f_X12_one_147 (q54 : Int32 → Int32 → Int32 → Int32 → Int32 → Int32 → Int32 → mm_M → Option (Int32 × mm_M)) (x1 : Int32) (x2 : Int32) (x3 : Int32) (x4 : Int32) (x5 : Int32) (x7 : Int32) (x8 : Int32) (M : mm_M) : Option (Int32 × mm_M) :=
  sq_ (x7 + 1 : Int32) fun y22 =>
  q54 x1 x2 x3 x4 x5 x8 y22 M
def f_X12_one_144 (q54 : Int32 → Int32 → Int32 → Int32 → Int32 → Int32 → Int32 → mm_M → Option (Int32 × mm_M)) (x1 : Int32) (x2 : Int32) (x3 : Int32) (x4 : Int32) (x5 : Int32) (x7 : Int32) (x8 : Int32) (t1 : Int64) (M : mm_M) : Option (Int32 × mm_M) :=
  (f_X12_enters t1 M).bind fun z23 =>
  f_X12_one_147 q54 x1 x2 x3 x4 x5 x7 x8 z23
def f_X12_one_107 (q54 : Int32 → Int32 → Int32 → Int32 → Int32 → Int32 → Int32 → mm_M → Option (Int32 × mm_M)) (x1 : Int32) (x2 : Int32) (x3 : Int32) (x4 : Int32) (x6 : Int32) (x7 : Int32) (x8 : Int32) (t0 : Int32) (t1 : Int32) (M : mm_M) : Option (Int32 × mm_M) :=
  sq_ (f_X12_truth t1) fun z17 =>
  sq_ ((t0 + z17) : Int32) fun y18 =>
  if x8 = x6 then (
    f_X12_one_147 q54 x1 x2 x3 x4 y18 x7 x8 M
  ) else (
    if 12 < y18 then (
      f_X12_one_147 q54 x1 x2 x3 x4 y18 x7 x8 M
    ) else (
      if x8 = 0 then (
        f_X12_one_144 q54 x1 x2 x3 x4 y18 x7 x8 ((x7 - 1).toInt64) M
      ) else (
        f_X12_one_144 q54 x1 x2 x3 x4 y18 x7 x8 (x7.toInt64) M
      )
    )
  )
def f_X12_one_106 (q54 : Int32 → Int32 → Int32 → Int32 → Int32 → Int32 → Int32 → mm_M → Option (Int32 × mm_M)) (x1 : Int32) (x2 : Int32) (x3 : Int32) (x4 : Int32) (x6 : Int32) (x7 : Int32) (x8 : Int32) (t0 : Int32) (M : mm_M) : Option (Int32 × mm_M) :=
  f_X12_one_107 q54 x1 x2 x3 x4 x6 x7 x8 t0 (0 : Int32) M
def f_X12_one_90 (q54 : Int32 → Int32 → Int32 → Int32 → Int32 → Int32 → Int32 → mm_M → Option (Int32 × mm_M)) (x1 : Int32) (x2 : Int32) (x3 : Int32) (x4 : Int32) (x5 : Int32) (x6 : Int32) (x7 : Int32) (x8 : Int32) (M : mm_M) : Option (Int32 × mm_M) :=
  if x8 = 0 then (
    f_X12_one_106 q54 x1 x2 x3 x4 x6 x7 x8 x5 M
  ) else (
    if x6 = 0 then (
      f_X12_one_107 q54 x1 x2 x3 x4 x6 x7 x8 x5 (1 : Int32) M
    ) else (
      f_X12_one_106 q54 x1 x2 x3 x4 x6 x7 x8 x5 M
    )
  )
def f_X12_one_54 (q54 : Int32 → Int32 → Int32 → Int32 → Int32 → Int32 → Int32 → mm_M → Option (Int32 × mm_M)) (x1 : Int32) (x2 : Int32) (x3 : Int32) (x4 : Int32) (x5 : Int32) (x6 : Int32) (x7 : Int32) (M : mm_M) : Option (Int32 × mm_M) :=
  if 601 < x7 then (
    some (x5, M)
  ) else (
    if 600 < x7 then (
      f_X12_one_90 q54 x1 x2 x3 x4 x5 x6 x7 (0 : Int32) M
    ) else (
      (f_X12_saysBoth x1 x2 x3 x7 x4 M).bind fun z13 =>
      (f_X12_areAlike z13).bind fun z14 =>
      f_X12_one_90 q54 x1 x2 x3 x4 x5 x6 x7 z14 z13
    )
  )
def f_X12_one_54l : Nat → Int32 → Int32 → Int32 → Int32 → Int32 → Int32 → Int32 → mm_M → Option (Int32 × mm_M)
  | 0, _, _, _, _, _, _, _, _ => none
  | n + 1, x1, x2, x3, x4, x5, x6, x7, M => f_X12_one_54 (f_X12_one_54l n) x1 x2 x3 x4 x5 x6 x7 M
def f_X12_one (x1 : Int32) (x2 : Int32) (x3 : Int32) (x4 : Int32) (M : mm_M) : Option (Int32 × mm_M) :=
  sq_ (mm_si M 0 0 0) fun M1 =>
  sq_ (f_X12_isWord x1 M1) fun z2 =>
  if z2 = 0 then (
    some (((-1) : Int32), M1)
  ) else (
    sq_ (f_X12_isWord x2 M1) fun z4 =>
    if z4 = 0 then (
      some (((-1) : Int32), M1)
    ) else (
      (f_X12_isHistory x3 M1).bind fun z6 =>
      if z6 = 0 then (
        some (((-1) : Int32), M1)
      ) else (
        sq_ (f_X12_isThen (0 : Int32) x4) fun z8 =>
        if z8 = 0 then (
          some (((-1) : Int32), M1)
        ) else (
          sq_ (mm_si M1 0 1 0) fun M10 =>
          f_X12_one_54l fu_ x1 x2 x3 x4 (0 : Int32) (0 : Int32) (0 : Int32) M10
        )
      )
    )
  )
def f_X12_rhymes_80 (q40 : Int32 → Int32 → Int32 → Int32 → Int32 → mm_M → Option (Int32 × mm_M)) (x1 : Int32) (x2 : Int32) (x3 : Int32) (x4 : Int32) (x5 : Int32) (M : mm_M) : Option (Int32 × mm_M) :=
  sq_ (x5 + 1 : Int32) fun y15 =>
  q40 x1 x2 x3 x4 y15 M
def f_X12_rhymes_86 (M : mm_M) : Option (Int32 × mm_M) :=
  some ((M.1 0 1), M)
def f_X12_rhymes_40 (q40 : Int32 → Int32 → Int32 → Int32 → Int32 → mm_M → Option (Int32 × mm_M)) (x1 : Int32) (x2 : Int32) (x3 : Int32) (x4 : Int32) (x5 : Int32) (M : mm_M) : Option (Int32 × mm_M) :=
  if (M.1 0 8) ≤ x5 then (
    f_X12_rhymes_86 M
  ) else (
    (f_X12_saysBoth x1 x5 x2 x3 x4 M).bind fun z10 =>
    if x5 = x1 then (
      f_X12_rhymes_80 q40 x1 x2 x3 x4 x5 z10
    ) else (
      (f_X12_areRhymes z10).bind fun z12 =>
      if z12 = 0 then (
        f_X12_rhymes_80 q40 x1 x2 x3 x4 x5 z10
      ) else (
        (f_X12_enters (x5.toInt64) z10).bind fun z14 =>
        f_X12_rhymes_80 q40 x1 x2 x3 x4 x5 z14
      )
    )
  )
def f_X12_rhymes_40l : Nat → Int32 → Int32 → Int32 → Int32 → Int32 → mm_M → Option (Int32 × mm_M)
  | 0, _, _, _, _, _, _ => none
  | n + 1, x1, x2, x3, x4, x5, M => f_X12_rhymes_40 (f_X12_rhymes_40l n) x1 x2 x3 x4 x5 M
def f_X12_rhymes (x1 : Int32) (x2 : Int32) (x3 : Int32) (x4 : Int32) (M : mm_M) : Option (Int32 × mm_M) :=
  sq_ (mm_si M 0 0 0) fun M1 =>
  sq_ (f_X12_isWord x1 M1) fun z2 =>
  if z2 = 0 then (
    some (((-1) : Int32), M1)
  ) else (
    (f_X12_isHistory x2 M1).bind fun z4 =>
    if z4 = 0 then (
      some (((-1) : Int32), M1)
    ) else (
      sq_ (f_X12_isThen x3 x4) fun z6 =>
      if z6 = 0 then (
        some (((-1) : Int32), M1)
      ) else (
        sq_ (mm_si M1 0 1 0) fun M8 =>
        f_X12_rhymes_40l fu_ x1 x2 x3 x4 (0 : Int32) M8
      )
    )
  )
def f_X12_chance_88 (q40 : Int32 → Int32 → Int32 → Int32 → Int32 → mm_M → Option (Int32 × mm_M)) (x1 : Int32) (x2 : Int32) (x3 : Int32) (x4 : Int32) (x5 : Int32) (M : mm_M) : Option (Int32 × mm_M) :=
  sq_ (x5 + 1 : Int32) fun y16 =>
  q40 x1 x2 x3 x4 y16 M
def f_X12_chance_52 (q40 : Int32 → Int32 → Int32 → Int32 → Int32 → mm_M → Option (Int32 × mm_M)) (q52 : Int32 → Int32 → Int32 → Int32 → Int32 → Int32 → mm_M → Option (Int32 × mm_M)) (x1 : Int32) (x2 : Int32) (x3 : Int32) (x4 : Int32) (x5 : Int32) (x6 : Int32) (M : mm_M) : Option (Int32 × mm_M) :=
  if x5 ≤ x6 then (
    f_X12_chance_88 q40 x1 x2 x3 x4 x5 M
  ) else (
    (f_X12_saysBoth x5 x6 x1 x2 x3 M).bind fun z11 =>
    (f_X12_areRhymes z11).bind fun z12 =>
    sq_ (f_X12_truth z12) fun z13 =>
    sq_ ((x4 + z13) : Int32) fun y14 =>
    sq_ (x6 + 1 : Int32) fun y15 =>
    q52 x1 x2 x3 y14 x5 y15 z11
  )
def f_X12_chance_52l (q40 : Int32 → Int32 → Int32 → Int32 → Int32 → mm_M → Option (Int32 × mm_M)) : Nat → Int32 → Int32 → Int32 → Int32 → Int32 → Int32 → mm_M → Option (Int32 × mm_M)
  | 0, _, _, _, _, _, _, _ => none
  | n + 1, x1, x2, x3, x4, x5, x6, M => f_X12_chance_52 q40 (f_X12_chance_52l q40 n) x1 x2 x3 x4 x5 x6 M
def f_X12_chance_94 (x4 : Int32) (M : mm_M) : Option (Int32 × mm_M) :=
  sq_ (mm_si M 0 1 0) fun M8 =>
  (f_X12_entersFraction (x4.toInt64) ((((M8.1 0 8) * ((M8.1 0 8) - 1)) / 2).toInt64) M8).bind fun z9 =>
  some ((0 : Int32), z9)
def f_X12_chance_40 (q40 : Int32 → Int32 → Int32 → Int32 → Int32 → mm_M → Option (Int32 × mm_M)) (x1 : Int32) (x2 : Int32) (x3 : Int32) (x4 : Int32) (x5 : Int32) (M : mm_M) : Option (Int32 × mm_M) :=
  if (M.1 0 8) ≤ x5 then (
    f_X12_chance_94 x4 M
  ) else (
    f_X12_chance_52l q40 fu_ x1 x2 x3 x4 x5 (0 : Int32) M
  )
def f_X12_chance_40l : Nat → Int32 → Int32 → Int32 → Int32 → Int32 → mm_M → Option (Int32 × mm_M)
  | 0, _, _, _, _, _, _ => none
  | n + 1, x1, x2, x3, x4, x5, M => f_X12_chance_40 (f_X12_chance_40l n) x1 x2 x3 x4 x5 M
def f_X12_chance (x1 : Int32) (x2 : Int32) (x3 : Int32) (M : mm_M) : Option (Int32 × mm_M) :=
  sq_ (mm_si M 0 0 0) fun M1 =>
  (f_X12_isHistory x1 M1).bind fun z2 =>
  if z2 = 0 then (
    some (((-1) : Int32), M1)
  ) else (
    sq_ (f_X12_isThen x2 x3) fun z4 =>
    if z4 = 0 then (
      some (((-1) : Int32), M1)
    ) else (
      if 2 ≤ (M1.1 0 8) then (
        f_X12_chance_40l fu_ x1 x2 x3 (0 : Int32) (0 : Int32) M1
      ) else (
        some (((-2) : Int32), M1)
      )
    )
  )
def f_X12_works_114 (q65 : Int32 → Int32 → Int32 → Int32 → Int32 → Int32 → Int32 → mm_M → Option (Int32 × mm_M)) (x1 : Int32) (x2 : Int32) (x3 : Int32) (x4 : Int32) (x6 : Int32) (x7 : Int32) (t0 : Int32) (t1 : Int32) (M : mm_M) : Option (Int32 × mm_M) :=
  sq_ ((t0 ||| t1) : Int32) fun y18 =>
  sq_ (x7 + 1 : Int32) fun y19 =>
  q65 x1 x2 x3 x4 y18 x6 y19 M
def f_X12_works_113 (q65 : Int32 → Int32 → Int32 → Int32 → Int32 → Int32 → Int32 → mm_M → Option (Int32 × mm_M)) (x1 : Int32) (x2 : Int32) (x3 : Int32) (x4 : Int32) (x6 : Int32) (x7 : Int32) (t0 : Int32) (M : mm_M) : Option (Int32 × mm_M) :=
  f_X12_works_114 q65 x1 x2 x3 x4 x6 x7 t0 (0 : Int32) M
def f_X12_works_123 (q38 : Int32 → Int32 → Int32 → Int32 → Int32 → Int32 → mm_M → Option (Int32 × mm_M)) (x1 : Int32) (x2 : Int32) (x3 : Int32) (x4 : Int32) (x5 : Int32) (x6 : Int32) (M : mm_M) : Option (Int32 × mm_M) :=
  sq_ (x6 + 1 : Int32) fun y17 =>
  q38 x1 x2 x3 x4 x5 y17 M
def f_X12_works_65 (q38 : Int32 → Int32 → Int32 → Int32 → Int32 → Int32 → mm_M → Option (Int32 × mm_M)) (q65 : Int32 → Int32 → Int32 → Int32 → Int32 → Int32 → Int32 → mm_M → Option (Int32 × mm_M)) (x1 : Int32) (x2 : Int32) (x3 : Int32) (x4 : Int32) (x5 : Int32) (x6 : Int32) (x7 : Int32) (M : mm_M) : Option (Int32 × mm_M) :=
  if (M.1 0 24) ≤ x7 then (
    f_X12_works_123 q38 x1 x2 x3 x4 x5 x6 M
  ) else (
    if ix_ok x7 6 then (
    (f_X12_worksOn (0 : Int32) (M.1 17 x7.toNatClampNeg) M).bind fun z13 =>
    if z13.1 = 0 then (
      f_X12_works_113 q65 x1 x2 x3 x4 x6 x7 x5 z13.2
    ) else (
      if ix_ok x7 6 then (
      if (z13.2.1 17 x7.toNatClampNeg) = x1 then (
        f_X12_works_114 q65 x1 x2 x3 x4 x6 x7 x5 ((1 : Int32) <<< (x6 &&& 31)) z13.2
      ) else (
        f_X12_works_113 q65 x1 x2 x3 x4 x6 x7 x5 z13.2
      )
      ) else none
    )
    ) else none
  )
def f_X12_works_65l (q38 : Int32 → Int32 → Int32 → Int32 → Int32 → Int32 → mm_M → Option (Int32 × mm_M)) : Nat → Int32 → Int32 → Int32 → Int32 → Int32 → Int32 → Int32 → mm_M → Option (Int32 × mm_M)
  | 0, _, _, _, _, _, _, _, _ => none
  | n + 1, x1, x2, x3, x4, x5, x6, x7, M => f_X12_works_65 q38 (f_X12_works_65l q38 n) x1 x2 x3 x4 x5 x6 x7 M
def f_X12_works_38 (q38 : Int32 → Int32 → Int32 → Int32 → Int32 → Int32 → mm_M → Option (Int32 × mm_M)) (x1 : Int32) (x2 : Int32) (x3 : Int32) (x4 : Int32) (x5 : Int32) (x6 : Int32) (M : mm_M) : Option (Int32 × mm_M) :=
  if (M.1 0 8) ≤ x6 then (
    some (x5, M)
  ) else (
    (f_X12_spells (0 : Int32) x6 M).bind fun z9 =>
    (f_X12_lines x2 x3 x4 z9).bind fun z10 =>
    f_X12_works_65l q38 fu_ x1 x2 x3 x4 x5 x6 (0 : Int32) z10
  )
def f_X12_works_38l : Nat → Int32 → Int32 → Int32 → Int32 → Int32 → Int32 → mm_M → Option (Int32 × mm_M)
  | 0, _, _, _, _, _, _, _ => none
  | n + 1, x1, x2, x3, x4, x5, x6, M => f_X12_works_38 (f_X12_works_38l n) x1 x2 x3 x4 x5 x6 M
def f_X12_works (x1 : Int32) (x2 : Int32) (x3 : Int32) (x4 : Int32) (M : mm_M) : Option (Int32 × mm_M) :=
  sq_ (mm_si M 0 0 0) fun M1 =>
  sq_ (f_X12_isLaw x1 M1) fun z2 =>
  if z2 = 0 then (
    some (((-1) : Int32), M1)
  ) else (
    (f_X12_isHistory x2 M1).bind fun z4 =>
    if z4 = 0 then (
      some (((-1) : Int32), M1)
    ) else (
      sq_ (f_X12_isThen x3 x4) fun z6 =>
      if z6 = 0 then (
        some (((-1) : Int32), M1)
      ) else (
        f_X12_works_38l fu_ x1 x2 x3 x4 (0 : Int32) (0 : Int32) M1
      )
    )
  )
def f_X12_isMark_117 (M : mm_M) : Int32 :=
  (1 : Int32)
def f_X12_isMark_99 (x1 : Int32) (x6 : Int32) (M : mm_M) : Int32 :=
  if x1 = 3 then (
    sq_ (f_X12_in (x6.toInt64) (0 : Int64) (127 : Int64)) fun z19 =>
    if z19 = 0 then (
      (0 : Int32)
    ) else (
      f_X12_isMark_117 M
    )
  ) else (
    f_X12_isMark_117 M
  )
def f_X12_isMark_74 (x1 : Int32) (x6 : Int32) (t0 : Int32) (M : mm_M) : Int32 :=
  if t0 = 0 then (
    (0 : Int32)
  ) else (
    if x1 = 2 then (
      sq_ (f_X12_in (x6.toInt64) (0 : Int64) (8 : Int64)) fun z16 =>
      if z16 = 0 then (
        (0 : Int32)
      ) else (
        f_X12_isMark_99 x1 x6 M
      )
    ) else (
      f_X12_isMark_99 x1 x6 M
    )
  )
def f_X12_isMark_69 (x1 : Int32) (x6 : Int32) (M : mm_M) : Int32 :=
  f_X12_isMark_74 x1 x6 (1 : Int32) M
def f_X12_isMark_73 (x1 : Int32) (x6 : Int32) (M : mm_M) : Int32 :=
  f_X12_isMark_74 x1 x6 (0 : Int32) M
def f_X12_isMark_19 (x1 : Int32) (x2 : Int32) (x3 : Int32) (x4 : Int32) (x5 : Int32) (x6 : Int32) (t0 : Int32) (M : mm_M) : Int32 :=
  sq_ (f_X12_in (x1.toInt64) (0 : Int64) (4 : Int64)) fun z4 =>
  if z4 = 0 then (
    f_X12_isMark_73 x1 x6 M
  ) else (
    sq_ (f_X12_isWord x2 M) fun z6 =>
    if z6 = 0 then (
      f_X12_isMark_73 x1 x6 M
    ) else (
      sq_ (f_X12_isThen x4 x5) fun z8 =>
      if z8 = 0 then (
        f_X12_isMark_73 x1 x6 M
      ) else (
        if t0 = 0 then (
          f_X12_isMark_69 x1 x6 M
        ) else (
          sq_ (f_X12_isWord x3 M) fun z11 =>
          if z11 = 0 then (
            f_X12_isMark_73 x1 x6 M
          ) else (
            if x3 = x2 then (
              f_X12_isMark_73 x1 x6 M
            ) else (
              f_X12_isMark_69 x1 x6 M
            )
          )
        )
      )
    )
  )
def f_X12_isMark_14 (x1 : Int32) (x2 : Int32) (x3 : Int32) (x4 : Int32) (x5 : Int32) (x6 : Int32) (M : mm_M) : Int32 :=
  f_X12_isMark_19 x1 x2 x3 x4 x5 x6 (1 : Int32) M
def f_X12_isMark (x1 : Int32) (x2 : Int32) (x3 : Int32) (x4 : Int32) (x5 : Int32) (x6 : Int32) (M : mm_M) : Int32 :=
  if x1 = 0 then (
    f_X12_isMark_14 x1 x2 x3 x4 x5 x6 M
  ) else (
    if x1 = 1 then (
      f_X12_isMark_14 x1 x2 x3 x4 x5 x6 M
    ) else (
      if x1 = 4 then (
        f_X12_isMark_14 x1 x2 x3 x4 x5 x6 M
      ) else (
        f_X12_isMark_19 x1 x2 x3 x4 x5 x6 (0 : Int32) M
      )
    )
  )
theorem bz_X12_isMark_117 {z : Int32} {M : mm_M} (hf : f_X12_isMark_117 M = z) : z = 0 ∨ z = 1 := by
  unfold f_X12_isMark_117 at hf
  rw [← hf]; exact (Or.inr rfl)
theorem bz_X12_isMark_99 {z : Int32} {x1 : Int32} {x6 : Int32} {M : mm_M} (hf : f_X12_isMark_99 x1 x6 M = z) : z = 0 ∨ z = 1 := by
  unfold f_X12_isMark_99 at hf
  by_cases c18 : x1 = 3
  · rw [if_pos c18] at hf
    obtain ⟨z19, ez19, hf⟩ := sq_e hf
    by_cases c20 : z19 = 0
    · rw [if_pos c20] at hf
      rw [← hf]; exact (Or.inl rfl)
    · rw [if_neg c20] at hf
      exact bz_X12_isMark_117 hf
  · rw [if_neg c18] at hf
    exact bz_X12_isMark_117 hf
theorem bz_X12_isMark_74 {z : Int32} {x1 : Int32} {x6 : Int32} {t0 : Int32} {M : mm_M} (hf : f_X12_isMark_74 x1 x6 t0 M = z) : z = 0 ∨ z = 1 := by
  unfold f_X12_isMark_74 at hf
  by_cases c14 : t0 = 0
  · rw [if_pos c14] at hf
    rw [← hf]; exact (Or.inl rfl)
  · rw [if_neg c14] at hf
    by_cases c15 : x1 = 2
    · rw [if_pos c15] at hf
      obtain ⟨z16, ez16, hf⟩ := sq_e hf
      by_cases c17 : z16 = 0
      · rw [if_pos c17] at hf
        rw [← hf]; exact (Or.inl rfl)
      · rw [if_neg c17] at hf
        exact bz_X12_isMark_99 hf
    · rw [if_neg c15] at hf
      exact bz_X12_isMark_99 hf
theorem bz_X12_isMark_69 {z : Int32} {x1 : Int32} {x6 : Int32} {M : mm_M} (hf : f_X12_isMark_69 x1 x6 M = z) : z = 0 ∨ z = 1 := by
  unfold f_X12_isMark_69 at hf
  exact bz_X12_isMark_74 hf
theorem bz_X12_isMark_73 {z : Int32} {x1 : Int32} {x6 : Int32} {M : mm_M} (hf : f_X12_isMark_73 x1 x6 M = z) : z = 0 ∨ z = 1 := by
  unfold f_X12_isMark_73 at hf
  exact bz_X12_isMark_74 hf
theorem bz_X12_isMark_19 {z : Int32} {x1 : Int32} {x2 : Int32} {x3 : Int32} {x4 : Int32} {x5 : Int32} {x6 : Int32} {t0 : Int32} {M : mm_M} (hf : f_X12_isMark_19 x1 x2 x3 x4 x5 x6 t0 M = z) : z = 0 ∨ z = 1 := by
  unfold f_X12_isMark_19 at hf
  obtain ⟨z4, ez4, hf⟩ := sq_e hf
  by_cases c5 : z4 = 0
  · rw [if_pos c5] at hf
    exact bz_X12_isMark_73 hf
  · rw [if_neg c5] at hf
    obtain ⟨z6, ez6, hf⟩ := sq_e hf
    by_cases c7 : z6 = 0
    · rw [if_pos c7] at hf
      exact bz_X12_isMark_73 hf
    · rw [if_neg c7] at hf
      obtain ⟨z8, ez8, hf⟩ := sq_e hf
      by_cases c9 : z8 = 0
      · rw [if_pos c9] at hf
        exact bz_X12_isMark_73 hf
      · rw [if_neg c9] at hf
        by_cases c10 : t0 = 0
        · rw [if_pos c10] at hf
          exact bz_X12_isMark_69 hf
        · rw [if_neg c10] at hf
          obtain ⟨z11, ez11, hf⟩ := sq_e hf
          by_cases c12 : z11 = 0
          · rw [if_pos c12] at hf
            exact bz_X12_isMark_73 hf
          · rw [if_neg c12] at hf
            by_cases c13 : x3 = x2
            · rw [if_pos c13] at hf
              exact bz_X12_isMark_73 hf
            · rw [if_neg c13] at hf
              exact bz_X12_isMark_69 hf
theorem bz_X12_isMark_14 {z : Int32} {x1 : Int32} {x2 : Int32} {x3 : Int32} {x4 : Int32} {x5 : Int32} {x6 : Int32} {M : mm_M} (hf : f_X12_isMark_14 x1 x2 x3 x4 x5 x6 M = z) : z = 0 ∨ z = 1 := by
  unfold f_X12_isMark_14 at hf
  exact bz_X12_isMark_19 hf
theorem bz_X12_isMark {z : Int32} {x1 : Int32} {x2 : Int32} {x3 : Int32} {x4 : Int32} {x5 : Int32} {x6 : Int32} {M : mm_M} (hf : f_X12_isMark x1 x2 x3 x4 x5 x6 M = z) : z = 0 ∨ z = 1 := by
  unfold f_X12_isMark at hf
  by_cases c1 : x1 = 0
  · rw [if_pos c1] at hf
    exact bz_X12_isMark_14 hf
  · rw [if_neg c1] at hf
    by_cases c2 : x1 = 1
    · rw [if_pos c2] at hf
      exact bz_X12_isMark_14 hf
    · rw [if_neg c2] at hf
      by_cases c3 : x1 = 4
      · rw [if_pos c3] at hf
        exact bz_X12_isMark_14 hf
      · rw [if_neg c3] at hf
        exact bz_X12_isMark_19 hf
def f_X12_lays (x1 : Int32) (x2 : Int32) (x3 : Int32) (x4 : Int32) (x5 : Int32) (x6 : Int32) (x7 : Int32) (M : mm_M) : Option mm_M :=
  if ix_ok x1 17 then (
  sq_ (mm_si M 18 x1.toNatClampNeg x2) fun M2 =>
  if ix_ok x1 17 then (
  sq_ (mm_si M2 19 x1.toNatClampNeg x3) fun M4 =>
  if ix_ok x1 17 then (
  sq_ (mm_si M4 20 x1.toNatClampNeg x4) fun M6 =>
  if ix_ok x1 17 then (
  sq_ (mm_si M6 21 x1.toNatClampNeg x5) fun M8 =>
  if ix_ok x1 17 then (
  sq_ (mm_si M8 22 x1.toNatClampNeg x6) fun M10 =>
  if ix_ok x1 17 then (
  sq_ (mm_si M10 23 x1.toNatClampNeg x7) fun M12 =>
  if ix_ok x1 17 then (
  sq_ (mm_si M12 24 x1.toNatClampNeg 0) fun M14 =>
  if ix_ok x1 17 then (
  sq_ (mm_si M14 25 x1.toNatClampNeg 5) fun M16 =>
  if ix_ok x1 17 then (
  sq_ (mm_si M16 26 x1.toNatClampNeg (vp_nar .boolean 1)) fun M18 =>
  some M18
  ) else none ) else none ) else none ) else none ) else none ) else none ) else none ) else none ) else none
def f_X12_mark (x1 : Int32) (x2 : Int32) (x3 : Int32) (x4 : Int32) (x5 : Int32) (x6 : Int32) (M : mm_M) : Option (Int32 × mm_M) :=
  sq_ (mm_si M 0 0 0) fun M1 =>
  sq_ (f_X12_isMark x1 x2 x3 x4 x5 x6 M1) fun z2 =>
  if z2 = 0 then (
    some (((-1) : Int32), M1)
  ) else (
    if (M1.1 0 28) = 16 then (
      some (((-1) : Int32), M1)
    ) else (
      (f_X12_lays (M1.1 0 28) x1 x2 x3 x4 x5 x6 M1).bind fun z5 =>
      sq_ (mm_si z5 0 28 ((z5.1 0 28) + 1)) fun M6 =>
      some (((M6.1 0 28) - 1), M6)
    )
  )
def f_X12_isSign (x1 : Int32) (M : mm_M) : Int32 :=
  sq_ (f_X12_in (x1.toInt64) (0 : Int64) (((M.1 0 28) - 1).toInt64)) fun z1 =>
  z1
theorem bz_X12_isSign {z : Int32} {x1 : Int32} {M : mm_M} (hf : f_X12_isSign x1 M = z) : z = 0 ∨ z = 1 := by
  unfold f_X12_isSign at hf
  obtain ⟨z1, ez1, hf⟩ := sq_e hf
  rw [← hf]; exact (bz_X12_in ez1.symm)
def f_X12_by (x1 : Int32) (x2 : Int32) (x3 : Int32) (M : mm_M) : Option (Int32 × mm_M) :=
  sq_ (mm_si M 0 0 0) fun M1 =>
  sq_ (f_X12_isSign x1 M1) fun z2 =>
  if z2 = 0 then (
    some ((0 : Int32), M1)
  ) else (
    sq_ (f_X12_in (x2.toInt64) (0 : Int64) (5 : Int64)) fun z4 =>
    if z4 = 0 then (
      some ((0 : Int32), M1)
    ) else (
      sq_ (f_X12_in (x3.toInt64) (1 : Int64) (9 : Int64)) fun z6 =>
      if z6 = 0 then (
        some ((0 : Int32), M1)
      ) else (
        if ix_ok x1 17 then (
        sq_ (mm_si M1 24 x1.toNatClampNeg x2) fun M9 =>
        if ix_ok x1 17 then (
        sq_ (mm_si M9 25 x1.toNatClampNeg x3) fun M11 =>
        some ((1 : Int32), M11)
        ) else none ) else none
      )
    )
  )
theorem bz_X12_by {z : (Int32 × mm_M)} {x1 : Int32} {x2 : Int32} {x3 : Int32} {M : mm_M} (hf : f_X12_by x1 x2 x3 M = some z) : z.1 = 0 ∨ z.1 = 1 := by
  unfold f_X12_by at hf
  obtain ⟨M1, eM1, hf⟩ := sq_e hf
  obtain ⟨z2, ez2, hf⟩ := sq_e hf
  by_cases c3 : z2 = 0
  · rw [if_pos c3] at hf
    rw [← Option.some.inj hf]; exact (Or.inl rfl)
  · rw [if_neg c3] at hf
    obtain ⟨z4, ez4, hf⟩ := sq_e hf
    by_cases c5 : z4 = 0
    · rw [if_pos c5] at hf
      rw [← Option.some.inj hf]; exact (Or.inl rfl)
    · rw [if_neg c5] at hf
      obtain ⟨z6, ez6, hf⟩ := sq_e hf
      by_cases c7 : z6 = 0
      · rw [if_pos c7] at hf
        rw [← Option.some.inj hf]; exact (Or.inl rfl)
      · rw [if_neg c7] at hf
        obtain ⟨h8, hf⟩ := ck_e hf
        obtain ⟨M9, eM9, hf⟩ := sq_e hf
        obtain ⟨h10, hf⟩ := ck_e hf
        obtain ⟨M11, eM11, hf⟩ := sq_e hf
        rw [← Option.some.inj hf]; exact (Or.inr rfl)
def f_X12_turn (x1 : Int32) (x2 : Int32) (M : mm_M) : Option (Int32 × mm_M) :=
  sq_ (mm_si M 0 0 0) fun M1 =>
  sq_ (f_X12_isSign x1 M1) fun z2 =>
  if z2 = 0 then (
    some ((0 : Int32), M1)
  ) else (
    if ix_ok x1 17 then (
    sq_ (mm_si M1 26 x1.toNatClampNeg (vp_nar .boolean x2)) fun M5 =>
    some ((1 : Int32), M5)
    ) else none
  )
theorem bz_X12_turn {z : (Int32 × mm_M)} {x1 : Int32} {x2 : Int32} {M : mm_M} (hf : f_X12_turn x1 x2 M = some z) : z.1 = 0 ∨ z.1 = 1 := by
  unfold f_X12_turn at hf
  obtain ⟨M1, eM1, hf⟩ := sq_e hf
  obtain ⟨z2, ez2, hf⟩ := sq_e hf
  by_cases c3 : z2 = 0
  · rw [if_pos c3] at hf
    rw [← Option.some.inj hf]; exact (Or.inl rfl)
  · rw [if_neg c3] at hf
    obtain ⟨h4, hf⟩ := ck_e hf
    obtain ⟨M5, eM5, hf⟩ := sq_e hf
    rw [← Option.some.inj hf]; exact (Or.inr rfl)
def f_X12_isHeld_78 (x1 : Int32) (x3 : Int32) (M : mm_M) : Option (Int32 × mm_M) :=
  if ix_ok x1 17 then (
  if x3 = (M.1 23 x1.toNatClampNeg) then (
    some ((1 : Int32), M)
  ) else (
    some ((0 : Int32), M)
  )
  ) else none
def f_X12_isHeld_39 (q39 : Int32 → Int32 → Int32 → mm_M → Option (Int32 × mm_M)) (x1 : Int32) (x3 : Int32) (x4 : Int32) (M : mm_M) : Option (Int32 × mm_M) :=
  if (M.1 15 (0 : Int32).toNatClampNeg) ≤ x4 then (
    f_X12_isHeld_78 x1 x3 M
  ) else (
    if ix_ok x4 16 then (
    sq_ (f_X12_has (M.1 3 (0 : Int32).toNatClampNeg) (M.1 14 x4.toNatClampNeg)) fun z30 =>
    sq_ (f_X12_truth z30) fun z31 =>
    sq_ ((x3 + z31) : Int32) fun y32 =>
    sq_ (x4 + 1 : Int32) fun y33 =>
    q39 x1 y32 y33 M
    ) else none
  )
def f_X12_isHeld_39l : Nat → Int32 → Int32 → Int32 → mm_M → Option (Int32 × mm_M)
  | 0, _, _, _, _ => none
  | n + 1, x1, x3, x4, M => f_X12_isHeld_39 (f_X12_isHeld_39l n) x1 x3 x4 M
def f_X12_isHeld_214 (t0 : Int32) (t1 : Int32) (M : mm_M) : Option (Int32 × mm_M) :=
  if t0 = t1 then (
    some ((1 : Int32), M)
  ) else (
    some ((0 : Int32), M)
  )
def f_X12_isHeld (x1 : Int32) (x2 : Int32) (M : mm_M) : Option (Int32 × mm_M) :=
  if ix_ok x1 17 then (
  if ix_ok x1 17 then (
  if ix_ok x1 17 then (
  (f_X12_says (0 : Int32) (M.1 19 x1.toNatClampNeg) x2 (M.1 21 x1.toNatClampNeg) (M.1 22 x1.toNatClampNeg) M).bind fun z4 =>
  if ix_ok x1 17 then (
  if (z4.1 18 x1.toNatClampNeg) = 2 then (
    f_X12_isHeld_39l fu_ x1 (0 : Int32) (0 : Int32) z4
  ) else (
    if ix_ok x1 17 then (
    if (z4.1 18 x1.toNatClampNeg) = 3 then (
      if ix_ok x1 17 then (
      sq_ (((z4.1 23 x1.toNatClampNeg) / 16) : Int32) fun y22 =>
      if (z4.1 15 (0 : Int32).toNatClampNeg) ≤ y22 then (
        some ((0 : Int32), z4)
      ) else (
        if ix_ok y22 16 then (
        if ix_ok x1 17 then (
        if (z4.1 14 y22.toNatClampNeg) = ((z4.1 23 x1.toNatClampNeg) - (z4.1 23 x1.toNatClampNeg) / 16 * 16) then (
          some ((1 : Int32), z4)
        ) else (
          some ((0 : Int32), z4)
        )
        ) else none ) else none
      )
      ) else none
    ) else (
      if ix_ok x1 17 then (
      if ix_ok x1 17 then (
      if ix_ok x1 17 then (
      (f_X12_says (1 : Int32) (z4.1 20 x1.toNatClampNeg) x2 (z4.1 21 x1.toNatClampNeg) (z4.1 22 x1.toNatClampNeg) z4).bind fun z12 =>
      if ix_ok x1 17 then (
      if (z12.1 18 x1.toNatClampNeg) = 1 then (
        (f_X12_areAlike z12).bind fun z20 =>
        some (z20, z12)
      ) else (
        (f_X12_haveTails z12).bind fun z15 =>
        if z15 = 0 then (
          some ((0 : Int32), z12)
        ) else (
          (f_X12_areTailsAlike z12).bind fun z17 =>
          if ix_ok x1 17 then (
          if (z12.1 18 x1.toNatClampNeg) = 0 then (
            f_X12_isHeld_214 z17 (1 : Int32) z12
          ) else (
            f_X12_isHeld_214 z17 (0 : Int32) z12
          )
          ) else none
        )
      )
      ) else none ) else none ) else none ) else none
    )
    ) else none
  )
  ) else none ) else none ) else none ) else none
theorem bz_X12_isHeld_78 {z : (Int32 × mm_M)} {x1 : Int32} {x3 : Int32} {M : mm_M} (hf : f_X12_isHeld_78 x1 x3 M = some z) : z.1 = 0 ∨ z.1 = 1 := by
  unfold f_X12_isHeld_78 at hf
  obtain ⟨h34, hf⟩ := ck_e hf
  by_cases c35 : x3 = (M.1 23 x1.toNatClampNeg)
  · rw [if_pos c35] at hf
    rw [← Option.some.inj hf]; exact (Or.inr rfl)
  · rw [if_neg c35] at hf
    rw [← Option.some.inj hf]; exact (Or.inl rfl)
theorem bz_X12_isHeld_39 {z : (Int32 × mm_M)} {x1 : Int32} {x3 : Int32} {x4 : Int32} {M : mm_M} {q39 : Int32 → Int32 → Int32 → mm_M → Option (Int32 × mm_M)} (hq39 : ∀ (x1 : Int32) (x3 : Int32) (x4 : Int32) (M : mm_M), q39 x1 x3 x4 M = some z → z.1 = 0 ∨ z.1 = 1) (hf : f_X12_isHeld_39 q39 x1 x3 x4 M = some z) : z.1 = 0 ∨ z.1 = 1 := by
  unfold f_X12_isHeld_39 at hf
  by_cases c28 : (M.1 15 (0 : Int32).toNatClampNeg) ≤ x4
  · rw [if_pos c28] at hf
    exact bz_X12_isHeld_78 hf
  · rw [if_neg c28] at hf
    obtain ⟨h29, hf⟩ := ck_e hf
    obtain ⟨z30, ez30, hf⟩ := sq_e hf
    obtain ⟨z31, ez31, hf⟩ := sq_e hf
    obtain ⟨y32, ey32, hf⟩ := sq_e hf
    obtain ⟨y33, ey33, hf⟩ := sq_e hf
    exact hq39 _ _ _ _ hf
theorem bz_X12_isHeld_39l {z : (Int32 × mm_M)} : ∀ (n : Nat) (x1 : Int32) (x3 : Int32) (x4 : Int32) (M : mm_M), f_X12_isHeld_39l n x1 x3 x4 M = some z → z.1 = 0 ∨ z.1 = 1 := by
  intro n
  induction n with
  | zero => intro x1 x3 x4 M hf; exact absurd hf (by simp [f_X12_isHeld_39l])
  | succ n ih => intro x1 x3 x4 M hf; exact bz_X12_isHeld_39 ih hf
theorem bz_X12_isHeld_214 {z : (Int32 × mm_M)} {t0 : Int32} {t1 : Int32} {M : mm_M} (hf : f_X12_isHeld_214 t0 t1 M = some z) : z.1 = 0 ∨ z.1 = 1 := by
  unfold f_X12_isHeld_214 at hf
  by_cases c27 : t0 = t1
  · rw [if_pos c27] at hf
    rw [← Option.some.inj hf]; exact (Or.inr rfl)
  · rw [if_neg c27] at hf
    rw [← Option.some.inj hf]; exact (Or.inl rfl)
theorem bz_X12_isHeld {z : (Int32 × mm_M)} {x1 : Int32} {x2 : Int32} {M : mm_M} (hf : f_X12_isHeld x1 x2 M = some z) : z.1 = 0 ∨ z.1 = 1 := by
  unfold f_X12_isHeld at hf
  obtain ⟨h1, hf⟩ := ck_e hf
  obtain ⟨h2, hf⟩ := ck_e hf
  obtain ⟨h3, hf⟩ := ck_e hf
  obtain ⟨z4, ez4, hf⟩ := bd_e hf
  obtain ⟨h5, hf⟩ := ck_e hf
  by_cases c6 : (z4.1 18 x1.toNatClampNeg) = 2
  · rw [if_pos c6] at hf
    exact bz_X12_isHeld_39l fu_ _ _ _ _ hf
  · rw [if_neg c6] at hf
    obtain ⟨h7, hf⟩ := ck_e hf
    by_cases c8 : (z4.1 18 x1.toNatClampNeg) = 3
    · rw [if_pos c8] at hf
      obtain ⟨h21, hf⟩ := ck_e hf
      obtain ⟨y22, ey22, hf⟩ := sq_e hf
      by_cases c23 : (z4.1 15 (0 : Int32).toNatClampNeg) ≤ y22
      · rw [if_pos c23] at hf
        rw [← Option.some.inj hf]; exact (Or.inl rfl)
      · rw [if_neg c23] at hf
        obtain ⟨h24, hf⟩ := ck_e hf
        obtain ⟨h25, hf⟩ := ck_e hf
        by_cases c26 : (z4.1 14 y22.toNatClampNeg) = ((z4.1 23 x1.toNatClampNeg) - (z4.1 23 x1.toNatClampNeg) / 16 * 16)
        · rw [if_pos c26] at hf
          rw [← Option.some.inj hf]; exact (Or.inr rfl)
        · rw [if_neg c26] at hf
          rw [← Option.some.inj hf]; exact (Or.inl rfl)
    · rw [if_neg c8] at hf
      obtain ⟨h9, hf⟩ := ck_e hf
      obtain ⟨h10, hf⟩ := ck_e hf
      obtain ⟨h11, hf⟩ := ck_e hf
      obtain ⟨z12, ez12, hf⟩ := bd_e hf
      obtain ⟨h13, hf⟩ := ck_e hf
      by_cases c14 : (z12.1 18 x1.toNatClampNeg) = 1
      · rw [if_pos c14] at hf
        obtain ⟨z20, ez20, hf⟩ := bd_e hf
        rw [← Option.some.inj hf]; exact (bz_X12_areAlike ez20)
      · rw [if_neg c14] at hf
        obtain ⟨z15, ez15, hf⟩ := bd_e hf
        by_cases c16 : z15 = 0
        · rw [if_pos c16] at hf
          rw [← Option.some.inj hf]; exact (Or.inl rfl)
        · rw [if_neg c16] at hf
          obtain ⟨z17, ez17, hf⟩ := bd_e hf
          obtain ⟨h18, hf⟩ := ck_e hf
          by_cases c19 : (z12.1 18 x1.toNatClampNeg) = 0
          · rw [if_pos c19] at hf
            exact bz_X12_isHeld_214 hf
          · rw [if_neg c19] at hf
            exact bz_X12_isHeld_214 hf
def f_X12_holds (x1 : Int32) (x2 : Int32) (M : mm_M) : Option (Int32 × mm_M) :=
  sq_ (mm_si M 0 0 0) fun M1 =>
  sq_ (f_X12_isSign x1 M1) fun z2 =>
  if z2 = 0 then (
    some (((-1) : Int32), M1)
  ) else (
    (f_X12_isHistory x2 M1).bind fun z4 =>
    if z4 = 0 then (
      some (((-1) : Int32), M1)
    ) else (
      (f_X12_isHeld x1 x2 M1).bind fun z6 =>
      sq_ (f_X12_truth z6.1) fun z7 =>
      some (z7, z6.2)
    )
  )
def f_X12_isFit_30 (q2 : Int32 → Int32 → mm_M → Option (Int32 × mm_M)) (x1 : Int32) (x2 : Int32) (M : mm_M) : Option (Int32 × mm_M) :=
  sq_ (x2 + 1 : Int32) fun y6 =>
  q2 x1 y6 M
def f_X12_isFit_2 (q2 : Int32 → Int32 → mm_M → Option (Int32 × mm_M)) (x1 : Int32) (x2 : Int32) (M : mm_M) : Option (Int32 × mm_M) :=
  if (M.1 0 28) ≤ x2 then (
    some ((1 : Int32), M)
  ) else (
    if ix_ok x2 17 then (
    if (M.1 26 x2.toNatClampNeg) = 0 then (
      f_X12_isFit_30 q2 x1 x2 M
    ) else (
      (f_X12_isHeld x2 x1 M).bind fun z4 =>
      if z4.1 = 0 then (
        some ((0 : Int32), z4.2)
      ) else (
        f_X12_isFit_30 q2 x1 x2 z4.2
      )
    )
    ) else none
  )
def f_X12_isFit_2l : Nat → Int32 → Int32 → mm_M → Option (Int32 × mm_M)
  | 0, _, _, _ => none
  | n + 1, x1, x2, M => f_X12_isFit_2 (f_X12_isFit_2l n) x1 x2 M
def f_X12_isFit (x1 : Int32) (M : mm_M) : Option (Int32 × mm_M) :=
  f_X12_isFit_2l fu_ x1 (0 : Int32) M
theorem bz_X12_isFit_30 {z : (Int32 × mm_M)} {x1 : Int32} {x2 : Int32} {M : mm_M} {q2 : Int32 → Int32 → mm_M → Option (Int32 × mm_M)} (hq2 : ∀ (x1 : Int32) (x2 : Int32) (M : mm_M), q2 x1 x2 M = some z → z.1 = 0 ∨ z.1 = 1) (hf : f_X12_isFit_30 q2 x1 x2 M = some z) : z.1 = 0 ∨ z.1 = 1 := by
  unfold f_X12_isFit_30 at hf
  obtain ⟨y6, ey6, hf⟩ := sq_e hf
  exact hq2 _ _ _ hf
theorem bz_X12_isFit_2 {z : (Int32 × mm_M)} {x1 : Int32} {x2 : Int32} {M : mm_M} {q2 : Int32 → Int32 → mm_M → Option (Int32 × mm_M)} (hq2 : ∀ (x1 : Int32) (x2 : Int32) (M : mm_M), q2 x1 x2 M = some z → z.1 = 0 ∨ z.1 = 1) (hf : f_X12_isFit_2 q2 x1 x2 M = some z) : z.1 = 0 ∨ z.1 = 1 := by
  unfold f_X12_isFit_2 at hf
  by_cases c1 : (M.1 0 28) ≤ x2
  · rw [if_pos c1] at hf
    rw [← Option.some.inj hf]; exact (Or.inr rfl)
  · rw [if_neg c1] at hf
    obtain ⟨h2, hf⟩ := ck_e hf
    by_cases c3 : (M.1 26 x2.toNatClampNeg) = 0
    · rw [if_pos c3] at hf
      exact bz_X12_isFit_30 hq2 hf
    · rw [if_neg c3] at hf
      obtain ⟨z4, ez4, hf⟩ := bd_e hf
      by_cases c5 : z4.1 = 0
      · rw [if_pos c5] at hf
        rw [← Option.some.inj hf]; exact (Or.inl rfl)
      · rw [if_neg c5] at hf
        exact bz_X12_isFit_30 hq2 hf
theorem bz_X12_isFit_2l {z : (Int32 × mm_M)} : ∀ (n : Nat) (x1 : Int32) (x2 : Int32) (M : mm_M), f_X12_isFit_2l n x1 x2 M = some z → z.1 = 0 ∨ z.1 = 1 := by
  intro n
  induction n with
  | zero => intro x1 x2 M hf; exact absurd hf (by simp [f_X12_isFit_2l])
  | succ n ih => intro x1 x2 M hf; exact bz_X12_isFit_2 ih hf
theorem bz_X12_isFit {z : (Int32 × mm_M)} {x1 : Int32} {M : mm_M} (hf : f_X12_isFit x1 M = some z) : z.1 = 0 ∨ z.1 = 1 := by
  unfold f_X12_isFit at hf
  exact bz_X12_isFit_2l fu_ _ _ _ hf
def f_X12_wrongs_38 (q4 : Int32 → Int32 → Int32 → mm_M → Option (Int32 × mm_M)) (x1 : Int32) (x3 : Int32) (t0 : Int32) (t1 : Int32) (M : mm_M) : Option (Int32 × mm_M) :=
  sq_ ((t0 ||| t1) : Int32) fun y6 =>
  sq_ (x3 + 1 : Int32) fun y7 =>
  q4 x1 y6 y7 M
def f_X12_wrongs_37 (q4 : Int32 → Int32 → Int32 → mm_M → Option (Int32 × mm_M)) (x1 : Int32) (x3 : Int32) (t0 : Int32) (M : mm_M) : Option (Int32 × mm_M) :=
  f_X12_wrongs_38 q4 x1 x3 t0 (0 : Int32) M
def f_X12_wrongs_4 (q4 : Int32 → Int32 → Int32 → mm_M → Option (Int32 × mm_M)) (x1 : Int32) (x2 : Int32) (x3 : Int32) (M : mm_M) : Option (Int32 × mm_M) :=
  if (M.1 0 28) ≤ x3 then (
    some (x2, M)
  ) else (
    if ix_ok x3 17 then (
    if (M.1 26 x3.toNatClampNeg) = 0 then (
      f_X12_wrongs_37 q4 x1 x3 x2 M
    ) else (
      (f_X12_isHeld x3 x1 M).bind fun z4 =>
      if z4.1 = 0 then (
        f_X12_wrongs_38 q4 x1 x3 x2 ((1 : Int32) <<< (x3 &&& 31)) z4.2
      ) else (
        f_X12_wrongs_37 q4 x1 x3 x2 z4.2
      )
    )
    ) else none
  )
def f_X12_wrongs_4l : Nat → Int32 → Int32 → Int32 → mm_M → Option (Int32 × mm_M)
  | 0, _, _, _, _ => none
  | n + 1, x1, x2, x3, M => f_X12_wrongs_4 (f_X12_wrongs_4l n) x1 x2 x3 M
def f_X12_wrongs (x1 : Int32) (M : mm_M) : Option (Int32 × mm_M) :=
  f_X12_wrongs_4l fu_ x1 (0 : Int32) (0 : Int32) M
def f_X12_gathers_45 (q12 : Int32 → Int32 → mm_M → Option mm_M) (x1 : Int32) (x2 : Int32) (M : mm_M) : Option mm_M :=
  sq_ (x2 + 1 : Int32) fun y9 =>
  q12 x1 y9 M
def f_X12_gathers_12 (q12 : Int32 → Int32 → mm_M → Option mm_M) (x1 : Int32) (x2 : Int32) (M : mm_M) : Option mm_M :=
  if x1 ≤ x2 then (
    some M
  ) else (
    (f_X12_isFit x2 M).bind fun z4 =>
    if z4.1 = 0 then (
      f_X12_gathers_45 q12 x1 x2 z4.2
    ) else (
      if ix_ok (z4.2.1 0 39) 600 then (
      sq_ (mm_si z4.2 27 (z4.2.1 0 39).toNatClampNeg x2) fun M7 =>
      sq_ (mm_si M7 0 39 ((M7.1 0 39) + 1)) fun M8 =>
      f_X12_gathers_45 q12 x1 x2 M8
      ) else none
    )
  )
def f_X12_gathers_12l : Nat → Int32 → Int32 → mm_M → Option mm_M
  | 0, _, _, _ => none
  | n + 1, x1, x2, M => f_X12_gathers_12 (f_X12_gathers_12l n) x1 x2 M
def f_X12_gathers (M : mm_M) : Option mm_M :=
  sq_ (mm_si M 0 39 0) fun M1 =>
  (f_X12_histories M1).bind fun z2 =>
  f_X12_gathers_12l fu_ z2 (0 : Int32) M1
def f_X12_fits_32 (M : mm_M) : Option (Int32 × mm_M) :=
  some ((M.1 0 39), M)
def f_X12_fits (M : mm_M) : Option (Int32 × mm_M) :=
  sq_ (mm_si M 0 0 0) fun M1 =>
  (f_X12_gathers M1).bind fun z2 =>
  sq_ (mm_si z2 0 1 0) fun M3 =>
  if (M3.1 0 39) ≤ 0 then (
    f_X12_fits_32 M3
  ) else (
    (f_X12_enters ((M3.1 27 (0 : Int32).toNatClampNeg).toInt64) M3).bind fun z5 =>
    f_X12_fits_32 z5
  )
def f_X12_span_86 (q35 : Int32 → Int32 → Int32 → Int32 → mm_M → Option (Int32 × mm_M)) (x1 : Int32) (x2 : Int32) (x4 : Int32) (t0 : Int32) (M : mm_M) : Option (Int32 × mm_M) :=
  sq_ (x4 + 1 : Int32) fun y12 =>
  q35 x1 x2 t0 y12 M
def f_X12_span_35 (q35 : Int32 → Int32 → Int32 → Int32 → mm_M → Option (Int32 × mm_M)) (x1 : Int32) (x2 : Int32) (x3 : Int32) (x4 : Int32) (M : mm_M) : Option (Int32 × mm_M) :=
  if (M.1 0 39) ≤ x4 then (
    some (x3, M)
  ) else (
    if ix_ok x4 600 then (
    (f_X12_yearOf x1 (M.1 27 x4.toNatClampNeg) M).bind fun z9 =>
    if 0 ≤ x3 then (
      if x2 = 0 then (
        f_X12_span_86 q35 x1 x2 x4 (if z9 < x3 then z9 else x3) M
      ) else (
        f_X12_span_86 q35 x1 x2 x4 (if x3 < z9 then z9 else x3) M
      )
    ) else (
      f_X12_span_86 q35 x1 x2 x4 z9 M
    )
    ) else none
  )
def f_X12_span_35l : Nat → Int32 → Int32 → Int32 → Int32 → mm_M → Option (Int32 × mm_M)
  | 0, _, _, _, _, _ => none
  | n + 1, x1, x2, x3, x4, M => f_X12_span_35 (f_X12_span_35l n) x1 x2 x3 x4 M
def f_X12_span (x1 : Int32) (x2 : Int32) (M : mm_M) : Option (Int32 × mm_M) :=
  sq_ (mm_si M 0 0 0) fun M1 =>
  sq_ (f_X12_isLaw x1 M1) fun z2 =>
  if z2 = 0 then (
    some (((-1) : Int32), M1)
  ) else (
    sq_ (f_X12_in (x2.toInt64) (0 : Int64) (1 : Int64)) fun z4 =>
    if z4 = 0 then (
      some (((-1) : Int32), M1)
    ) else (
      (f_X12_gathers M1).bind fun z6 =>
      f_X12_span_35l fu_ x1 x2 ((-2) : Int32) (0 : Int32) z6
    )
  )
def f_X12_order_99 (q37 : Int32 → Int32 → Int32 → Int32 → mm_M → Option (Int32 × mm_M)) (x1 : Int32) (x2 : Int32) (x4 : Int32) (t0 : Int32) (t1 : Int32) (M : mm_M) : Option (Int32 × mm_M) :=
  sq_ (f_X12_truth t1) fun z19 =>
  sq_ ((t0 + z19) : Int32) fun y20 =>
  sq_ (x4 + 1 : Int32) fun y21 =>
  q37 x1 x2 y20 y21 M
def f_X12_order_94 (q37 : Int32 → Int32 → Int32 → Int32 → mm_M → Option (Int32 × mm_M)) (x1 : Int32) (x2 : Int32) (x4 : Int32) (t0 : Int32) (M : mm_M) : Option (Int32 × mm_M) :=
  f_X12_order_99 q37 x1 x2 x4 t0 (1 : Int32) M
def f_X12_order_98 (q37 : Int32 → Int32 → Int32 → Int32 → mm_M → Option (Int32 × mm_M)) (x1 : Int32) (x2 : Int32) (x4 : Int32) (t0 : Int32) (M : mm_M) : Option (Int32 × mm_M) :=
  f_X12_order_99 q37 x1 x2 x4 t0 (0 : Int32) M
def f_X12_order_110 (x3 : Int32) (M : mm_M) : Option (Int32 × mm_M) :=
  if (M.1 0 39) = 0 then (
    some (((-2) : Int32), M)
  ) else (
    if x3 = (M.1 0 39) then (
      some ((1 : Int32), M)
    ) else (
      if x3 = 0 then (
        some ((2 : Int32), M)
      ) else (
        some ((0 : Int32), M)
      )
    )
  )
def f_X12_order_37 (q37 : Int32 → Int32 → Int32 → Int32 → mm_M → Option (Int32 × mm_M)) (x1 : Int32) (x2 : Int32) (x3 : Int32) (x4 : Int32) (M : mm_M) : Option (Int32 × mm_M) :=
  if (M.1 0 39) ≤ x4 then (
    f_X12_order_110 x3 M
  ) else (
    if ix_ok x4 600 then (
    (f_X12_yearOf x1 (M.1 27 x4.toNatClampNeg) M).bind fun z10 =>
    if ix_ok x4 600 then (
    (f_X12_yearOf x2 (M.1 27 x4.toNatClampNeg) M).bind fun z12 =>
    if z10 < z12 then (
      f_X12_order_94 q37 x1 x2 x4 x3 M
    ) else (
      if z10 = z12 then (
        if x2 ≤ x1 then (
          f_X12_order_98 q37 x1 x2 x4 x3 M
        ) else (
          f_X12_order_94 q37 x1 x2 x4 x3 M
        )
      ) else (
        f_X12_order_98 q37 x1 x2 x4 x3 M
      )
    )
    ) else none ) else none
  )
def f_X12_order_37l : Nat → Int32 → Int32 → Int32 → Int32 → mm_M → Option (Int32 × mm_M)
  | 0, _, _, _, _, _ => none
  | n + 1, x1, x2, x3, x4, M => f_X12_order_37 (f_X12_order_37l n) x1 x2 x3 x4 M
def f_X12_order (x1 : Int32) (x2 : Int32) (M : mm_M) : Option (Int32 × mm_M) :=
  sq_ (mm_si M 0 0 0) fun M1 =>
  sq_ (f_X12_isLaw x1 M1) fun z2 =>
  if z2 = 0 then (
    some (((-1) : Int32), M1)
  ) else (
    sq_ (f_X12_isLaw x2 M1) fun z4 =>
    if z4 = 0 then (
      some (((-1) : Int32), M1)
    ) else (
      if x1 = x2 then (
        some (((-1) : Int32), M1)
      ) else (
        (f_X12_gathers M1).bind fun z7 =>
        f_X12_order_37l fu_ x1 x2 (0 : Int32) (0 : Int32) z7
      )
    )
  )
def f_X12_wrong_53 (q17 : Int32 → Int32 → Int32 → Int32 → mm_M → Option (Int32 × mm_M)) (x1 : Int32) (x2 : Int32) (x3 : Int32) (x4 : Int32) (M : mm_M) : Option (Int32 × mm_M) :=
  sq_ (x4 + 1 : Int32) fun y13 =>
  q17 x1 x2 x3 y13 M
def f_X12_wrong_47 (q17 : Int32 → Int32 → Int32 → Int32 → mm_M → Option (Int32 × mm_M)) (x3 : Int32) (x4 : Int32) (x5 : Int32) (M : mm_M) : Option (Int32 × mm_M) :=
  f_X12_wrong_53 q17 x4 x5 x3 x4 M
def f_X12_wrong_59 (x1 : Int32) (x2 : Int32) (M : mm_M) : Option (Int32 × mm_M) :=
  sq_ (mm_si M 0 1 0) fun M9 =>
  (f_X12_enters (x1.toInt64) M9).bind fun z10 =>
  (f_X12_enters (x2.toInt64) z10).bind fun z11 =>
  sq_ (f_J6_bitCount_0f7a4 x2) fun z12 =>
  some (z12, z11)
def f_X12_wrong_17 (q17 : Int32 → Int32 → Int32 → Int32 → mm_M → Option (Int32 × mm_M)) (x1 : Int32) (x2 : Int32) (x3 : Int32) (x4 : Int32) (M : mm_M) : Option (Int32 × mm_M) :=
  if x3 ≤ x4 then (
    f_X12_wrong_59 x1 x2 M
  ) else (
    (f_X12_wrongs x4 M).bind fun z4 =>
    if x1 < 0 then (
      f_X12_wrong_47 q17 x3 x4 z4.1 z4.2
    ) else (
      sq_ (f_J6_bitCount_0f7a4 z4.1) fun z6 =>
      sq_ (f_J6_bitCount_0f7a4 x2) fun z7 =>
      if z7 ≤ z6 then (
        f_X12_wrong_53 q17 x1 x2 x3 x4 z4.2
      ) else (
        f_X12_wrong_47 q17 x3 x4 z4.1 z4.2
      )
    )
  )
def f_X12_wrong_17l : Nat → Int32 → Int32 → Int32 → Int32 → mm_M → Option (Int32 × mm_M)
  | 0, _, _, _, _, _ => none
  | n + 1, x1, x2, x3, x4, M => f_X12_wrong_17 (f_X12_wrong_17l n) x1 x2 x3 x4 M
def f_X12_wrong (M : mm_M) : Option (Int32 × mm_M) :=
  sq_ (mm_si M 0 0 0) fun M1 =>
  (f_X12_histories M1).bind fun z2 =>
  f_X12_wrong_17l fu_ ((-1) : Int32) (0 : Int32) z2 (0 : Int32) M1
def f_X12_blunder_49 (q14 : Int32 → Int32 → Int32 → mm_M → Option (Int32 × mm_M)) (x2 : Int32) (x3 : Int32) (t0 : Int32) (t1 : Int32) (M : mm_M) : Option (Int32 × mm_M) :=
  sq_ ((t0 ||| t1) : Int32) fun y8 =>
  sq_ (x3 + 1 : Int32) fun y9 =>
  q14 y8 x2 y9 M
def f_X12_blunder_14 (q14 : Int32 → Int32 → Int32 → mm_M → Option (Int32 × mm_M)) (x1 : Int32) (x2 : Int32) (x3 : Int32) (M : mm_M) : Option (Int32 × mm_M) :=
  if x2 ≤ x3 then (
    some (x1, M)
  ) else (
    (f_X12_wrongs x3 M).bind fun z4 =>
    if z4.1 = 0 then (
      some ((0 : Int32), z4.2)
    ) else (
      sq_ (f_J6_bitCount_0f7a4 z4.1) fun z6 =>
      if z6 = 1 then (
        f_X12_blunder_49 q14 x2 x3 x1 z4.1 z4.2
      ) else (
        f_X12_blunder_49 q14 x2 x3 x1 (0 : Int32) z4.2
      )
    )
  )
def f_X12_blunder_14l : Nat → Int32 → Int32 → Int32 → mm_M → Option (Int32 × mm_M)
  | 0, _, _, _, _ => none
  | n + 1, x1, x2, x3, M => f_X12_blunder_14 (f_X12_blunder_14l n) x1 x2 x3 M
def f_X12_blunder (M : mm_M) : Option (Int32 × mm_M) :=
  sq_ (mm_si M 0 0 0) fun M1 =>
  (f_X12_histories M1).bind fun z2 =>
  f_X12_blunder_14l fu_ (0 : Int32) z2 (0 : Int32) M1
def f_X12_packs_5 (q5 : Int32 → Int64 → Int32 → Option Int64) (x1 : Int32) (x2 : Int64) (x4 : Int32) (M : mm_M) : Option Int64 :=
  if ix_ok x1 2 then (
  if (M.1 15 x1.toNatClampNeg) ≤ x4 then (
    some x2
  ) else (
    if ix_ok ((8 * x1) + x4) 16 then (
    sq_ (((x2 <<< ((4 : Int32).toInt64 &&& 63)) ||| ((M.1 14 ((8 * x1) + x4).toNatClampNeg).toInt64)) : Int64) fun y4 =>
    sq_ (x4 + 1 : Int32) fun y5 =>
    q5 x1 y4 y5
    ) else none
  )
  ) else none
def f_X12_packs_5l (M : mm_M) : Nat → Int32 → Int64 → Int32 → Option Int64
  | 0, _, _, _ => none
  | n + 1, x1, x2, x4 => f_X12_packs_5 (f_X12_packs_5l M n) x1 x2 x4 M
def f_X12_packs (x1 : Int32) (M : mm_M) : Option Int64 :=
  f_X12_packs_5l M fu_ x1 (1 : Int64) (0 : Int32)
def f_X12_longOf_4 (q4 : Int32 → Int64 → Option Int32) (x2 : Int32) (x3 : Int64) : Option Int32 :=
  if x3 ≤ 1 then (
    some x2
  ) else (
    sq_ (x2 + 1 : Int32) fun y2 =>
    sq_ ((x3 >>> ((4 : Int32).toInt64 &&& 63)) : Int64) fun y3 =>
    q4 y2 y3
  )
def f_X12_longOf_4l : Nat → Int32 → Int64 → Option Int32
  | 0, _, _ => none
  | n + 1, x2, x3 => f_X12_longOf_4 (f_X12_longOf_4l n) x2 x3
def f_X12_longOf (x0 : Int64) : Option Int32 :=
  f_X12_longOf_4l fu_ (0 : Int32) x0
def f_X12_notes_65 (x3 : Int64) (x5 : Int32) (M : mm_M) : Option mm_M :=
  if ix_ok x5 600 then (
  if ix_ok x5 600 then (
  sq_ (mm_sl M 29 x5.toNatClampNeg ((M.2.1 29 x5.toNatClampNeg) + x3)) fun M13 =>
  some M13
  ) else none ) else none
def f_X12_notes_30 (x1 : Int64) (x3 : Int64) (x5 : Int32) (M : mm_M) : Option mm_M :=
  if x5 = (M.1 0 42) then (
    if ix_ok x5 600 then (
    sq_ (mm_sl M 28 x5.toNatClampNeg x1) fun M7 =>
    if ix_ok x5 600 then (
    sq_ (mm_sl M7 29 x5.toNatClampNeg 0) fun M9 =>
    sq_ (mm_si M9 0 42 ((M9.1 0 42) + 1)) fun M10 =>
    f_X12_notes_65 x3 x5 M10
    ) else none ) else none
  ) else (
    f_X12_notes_65 x3 x5 M
  )
def f_X12_notes_3 (q3 : Int64 → Int64 → Int32 → mm_M → Option mm_M) (x1 : Int64) (x3 : Int64) (x5 : Int32) (M : mm_M) : Option mm_M :=
  if (M.1 0 42) ≤ x5 then (
    f_X12_notes_30 x1 x3 x5 M
  ) else (
    if ix_ok x5 600 then (
    if (M.2.1 28 x5.toNatClampNeg) = x1 then (
      f_X12_notes_30 x1 x3 x5 M
    ) else (
      sq_ (x5 + 1 : Int32) fun y4 =>
      q3 x1 x3 y4 M
    )
    ) else none
  )
def f_X12_notes_3l : Nat → Int64 → Int64 → Int32 → mm_M → Option mm_M
  | 0, _, _, _, _ => none
  | n + 1, x1, x3, x5, M => f_X12_notes_3 (f_X12_notes_3l n) x1 x3 x5 M
def f_X12_notes (x1 : Int64) (x3 : Int64) (M : mm_M) : Option mm_M :=
  f_X12_notes_3l fu_ x1 x3 (0 : Int32) M
def f_X12_sure_118 (x4 : Int32) (x5 : Int32) (M : mm_M) : Option (Int32 × mm_M) :=
  sq_ (mm_si M 0 1 0) fun M17 =>
  (f_X12_enters (x4.toInt64) M17).bind fun z18 =>
  (f_X12_enters (x5.toInt64) z18).bind fun z19 =>
  some ((z19.1 0 42), z19)
def f_X12_sure_52 (q52 : Int32 → Int32 → Int32 → Int32 → Int32 → Int32 → mm_M → Option (Int32 × mm_M)) (x1 : Int32) (x2 : Int32) (x3 : Int32) (x4 : Int32) (x5 : Int32) (x6 : Int32) (M : mm_M) : Option (Int32 × mm_M) :=
  if (M.1 0 39) ≤ x6 then (
    f_X12_sure_118 x4 x5 M
  ) else (
    if ix_ok x6 600 then (
    (f_X12_says (0 : Int32) x1 (M.1 27 x6.toNatClampNeg) x2 x3 M).bind fun z11 =>
    (f_X12_packs (0 : Int32) z11).bind fun z12 =>
    (f_X12_notes z12 (1 : Int64) z11).bind fun z13 =>
    sq_ ((if (z13.1 15 (0 : Int32).toNatClampNeg) < x4 then (z13.1 15 (0 : Int32).toNatClampNeg) else x4) : Int32) fun y14 =>
    sq_ ((if x5 < (z13.1 15 (0 : Int32).toNatClampNeg) then (z13.1 15 (0 : Int32).toNatClampNeg) else x5) : Int32) fun y15 =>
    sq_ (x6 + 1 : Int32) fun y16 =>
    q52 x1 x2 x3 y14 y15 y16 z13
    ) else none
  )
def f_X12_sure_52l : Nat → Int32 → Int32 → Int32 → Int32 → Int32 → Int32 → mm_M → Option (Int32 × mm_M)
  | 0, _, _, _, _, _, _, _ => none
  | n + 1, x1, x2, x3, x4, x5, x6, M => f_X12_sure_52 (f_X12_sure_52l n) x1 x2 x3 x4 x5 x6 M
def f_X12_sure (x1 : Int32) (x2 : Int32) (x3 : Int32) (M : mm_M) : Option (Int32 × mm_M) :=
  sq_ (mm_si M 0 0 0) fun M1 =>
  sq_ (f_X12_isWord x1 M1) fun z2 =>
  if z2 = 0 then (
    some (((-1) : Int32), M1)
  ) else (
    sq_ (f_X12_isThen x2 x3) fun z4 =>
    if z4 = 0 then (
      some (((-1) : Int32), M1)
    ) else (
      (f_X12_gathers M1).bind fun z6 =>
      if (z6.1 0 39) = 0 then (
        some (((-2) : Int32), z6)
      ) else (
        sq_ (mm_si z6 0 42 0) fun M8 =>
        f_X12_sure_52l fu_ x1 x2 x3 (8 : Int32) (0 : Int32) (0 : Int32) M8
      )
    )
  )
def f_X12_shows (x1 : Int32) (x2 : Int32) (M : mm_M) : Option (Int32 × mm_M) :=
  sq_ (mm_si M 0 0 0) fun M1 =>
  sq_ (f_X12_isLaw x1 M1) fun z2 =>
  if z2 = 0 then (
    some (((-1) : Int32), M1)
  ) else (
    (f_X12_isHistory x2 M1).bind fun z4 =>
    if z4 = 0 then (
      some (((-1) : Int32), M1)
    ) else (
      (f_X12_wrongs x2 M1).bind fun z6 =>
      sq_ (mm_si z6.2 0 25 ((1 : Int32) <<< (x1 &&& 31))) fun M7 =>
      (f_X12_wrongs x2 M7).bind fun z8 =>
      sq_ (mm_si z8.2 0 25 0) fun M9 =>
      some ((z8.1 &&& (z6.1 ^^^ (-1))), M9)
    )
  )
def f_X12_least_88 (q17 : Int32 → Int32 → Int32 → Int32 → mm_M → Option (Int32 × mm_M)) (x1 : Int32) (x2 : Int32) (x3 : Int32) (x4 : Int32) (M : mm_M) : Option (Int32 × mm_M) :=
  sq_ (x4 + 1 : Int32) fun y15 =>
  q17 x1 x2 x3 y15 M
def f_X12_least_73 (q17 : Int32 → Int32 → Int32 → Int32 → mm_M → Option (Int32 × mm_M)) (x3 : Int32) (x4 : Int32) (x5 : Int32) (M : mm_M) : Option (Int32 × mm_M) :=
  f_X12_least_88 q17 x4 x5 x3 x4 M
def f_X12_least_58 (q17 : Int32 → Int32 → Int32 → Int32 → mm_M → Option (Int32 × mm_M)) (q58 : Int32 → Int32 → Int32 → Int32 → Int32 → mm_M → Option (Int32 × mm_M)) (x1 : Int32) (x2 : Int32) (x3 : Int32) (x4 : Int32) (x5 : Int32) (M : mm_M) : Option (Int32 × mm_M) :=
  if x3 ≤ x5 then (
    f_X12_least_88 q17 x1 x2 x3 x4 M
  ) else (
    (f_X12_isFit x5 M).bind fun z17 =>
    if z17.1 = 0 then (
      sq_ (x5 + 1 : Int32) fun y19 =>
      q58 x1 x2 x3 x4 y19 z17.2
    ) else (
      f_X12_least_73 q17 x3 x4 x5 z17.2
    )
  )
def f_X12_least_58l (q17 : Int32 → Int32 → Int32 → Int32 → mm_M → Option (Int32 × mm_M)) : Nat → Int32 → Int32 → Int32 → Int32 → Int32 → mm_M → Option (Int32 × mm_M)
  | 0, _, _, _, _, _, _ => none
  | n + 1, x1, x2, x3, x4, x5, M => f_X12_least_58 q17 (f_X12_least_58l q17 n) x1 x2 x3 x4 x5 M
def f_X12_least_47 (q17 : Int32 → Int32 → Int32 → Int32 → mm_M → Option (Int32 × mm_M)) (x1 : Int32) (x2 : Int32) (x3 : Int32) (x4 : Int32) (M : mm_M) : Option (Int32 × mm_M) :=
  sq_ (mm_si M 0 25 (x4 ^^^ (-1))) fun M14 =>
  f_X12_least_58l q17 fu_ x1 x2 x3 x4 (0 : Int32) M14
def f_X12_least_94 (x1 : Int32) (x2 : Int32) (M : mm_M) : Option (Int32 × mm_M) :=
  sq_ (mm_si M 0 25 0) fun M8 =>
  if 0 ≤ x1 then (
    sq_ (mm_si M8 0 1 0) fun M10 =>
    (f_X12_enters (x1.toInt64) M10).bind fun z11 =>
    (f_X12_enters (x2.toInt64) z11).bind fun z12 =>
    sq_ (f_J6_bitCount_0f7a4 x1) fun z13 =>
    some (z13, z12)
  ) else (
    some (((-2) : Int32), M8)
  )
def f_X12_least_17 (q17 : Int32 → Int32 → Int32 → Int32 → mm_M → Option (Int32 × mm_M)) (x1 : Int32) (x2 : Int32) (x3 : Int32) (x4 : Int32) (M : mm_M) : Option (Int32 × mm_M) :=
  if ((1 : Int32) <<< ((M.1 0 11) &&& 31)) ≤ x4 then (
    f_X12_least_94 x1 x2 M
  ) else (
    if x1 < 0 then (
      f_X12_least_47 q17 x1 x2 x3 x4 M
    ) else (
      sq_ (f_J6_bitCount_0f7a4 x4) fun z5 =>
      sq_ (f_J6_bitCount_0f7a4 x1) fun z6 =>
      if z5 < z6 then (
        f_X12_least_47 q17 x1 x2 x3 x4 M
      ) else (
        f_X12_least_88 q17 x1 x2 x3 x4 M
      )
    )
  )
def f_X12_least_17l : Nat → Int32 → Int32 → Int32 → Int32 → mm_M → Option (Int32 × mm_M)
  | 0, _, _, _, _, _ => none
  | n + 1, x1, x2, x3, x4, M => f_X12_least_17 (f_X12_least_17l n) x1 x2 x3 x4 M
def f_X12_least (M : mm_M) : Option (Int32 × mm_M) :=
  sq_ (mm_si M 0 0 0) fun M1 =>
  (f_X12_histories M1).bind fun z2 =>
  f_X12_least_17l fu_ ((-1) : Int32) (0 : Int32) z2 (0 : Int32) M1
def f_X12_onMany_32 (q4 : Int32 → Int32 → Int32 → Option Int32) (x1 : Int32) (x3 : Int32) (t0 : Int32) (t1 : Int32) (M : mm_M) : Option Int32 :=
  sq_ (f_X12_truth t1) fun z5 =>
  sq_ ((t0 + z5) : Int32) fun y6 =>
  sq_ (x3 + 1 : Int32) fun y7 =>
  q4 x1 y6 y7
def f_X12_onMany_31 (q4 : Int32 → Int32 → Int32 → Option Int32) (x1 : Int32) (x3 : Int32) (t0 : Int32) (M : mm_M) : Option Int32 :=
  f_X12_onMany_32 q4 x1 x3 t0 (0 : Int32) M
def f_X12_onMany_4 (q4 : Int32 → Int32 → Int32 → Option Int32) (x1 : Int32) (x2 : Int32) (x3 : Int32) (M : mm_M) : Option Int32 :=
  if (M.1 0 28) ≤ x3 then (
    some x2
  ) else (
    if ix_ok x3 17 then (
    if (M.1 26 x3.toNatClampNeg) = 0 then (
      f_X12_onMany_31 q4 x1 x3 x2 M
    ) else (
      if x3 = x1 then (
        f_X12_onMany_31 q4 x1 x3 x2 M
      ) else (
        f_X12_onMany_32 q4 x1 x3 x2 (1 : Int32) M
      )
    )
    ) else none
  )
def f_X12_onMany_4l (M : mm_M) : Nat → Int32 → Int32 → Int32 → Option Int32
  | 0, _, _, _ => none
  | n + 1, x1, x2, x3 => f_X12_onMany_4 (f_X12_onMany_4l M n) x1 x2 x3 M
def f_X12_onMany (x1 : Int32) (M : mm_M) : Option Int32 :=
  f_X12_onMany_4l M fu_ x1 (0 : Int32) (0 : Int32)
def f_X12_weightOf_65 (q5 : Int32 → Int32 → Int64 → Int32 → mm_M → Option (Int64 × mm_M)) (x1 : Int32) (x2 : Int32) (x3 : Int64) (x5 : Int32) (M : mm_M) : Option (Int64 × mm_M) :=
  sq_ (x5 + 1 : Int32) fun y9 =>
  q5 x1 x2 x3 y9 M
def f_X12_weightOf_63 (q5 : Int32 → Int32 → Int64 → Int32 → mm_M → Option (Int64 × mm_M)) (x1 : Int32) (x2 : Int32) (x5 : Int32) (t0 : Int64) (t1 : Int64) (M : mm_M) : Option (Int64 × mm_M) :=
  sq_ ((t0 * t1) : Int64) fun y10 =>
  f_X12_weightOf_65 q5 x1 x2 y10 x5 M
def f_X12_weightOf_5 (q5 : Int32 → Int32 → Int64 → Int32 → mm_M → Option (Int64 × mm_M)) (x1 : Int32) (x2 : Int32) (x3 : Int64) (x5 : Int32) (M : mm_M) : Option (Int64 × mm_M) :=
  if (M.1 0 28) ≤ x5 then (
    some (x3, M)
  ) else (
    if ix_ok x5 17 then (
    if (M.1 26 x5.toNatClampNeg) = 0 then (
      f_X12_weightOf_65 q5 x1 x2 x3 x5 M
    ) else (
      if x5 = x2 then (
        f_X12_weightOf_65 q5 x1 x2 x3 x5 M
      ) else (
        (f_X12_isHeld x5 x1 M).bind fun z5 =>
        if z5.1 = 0 then (
          if ix_ok x5 17 then (
          f_X12_weightOf_63 q5 x1 x2 x5 x3 ((10 - (z5.2.1 25 x5.toNatClampNeg)).toInt64) z5.2
          ) else none
        ) else (
          if ix_ok x5 17 then (
          f_X12_weightOf_63 q5 x1 x2 x5 x3 ((z5.2.1 25 x5.toNatClampNeg).toInt64) z5.2
          ) else none
        )
      )
    )
    ) else none
  )
def f_X12_weightOf_5l : Nat → Int32 → Int32 → Int64 → Int32 → mm_M → Option (Int64 × mm_M)
  | 0, _, _, _, _, _ => none
  | n + 1, x1, x2, x3, x5, M => f_X12_weightOf_5 (f_X12_weightOf_5l n) x1 x2 x3 x5 M
def f_X12_weightOf (x1 : Int32) (x2 : Int32) (M : mm_M) : Option (Int64 × mm_M) :=
  f_X12_weightOf_5l fu_ x1 x2 (1 : Int64) (0 : Int32) M
def f_X12_odds_79 (q39 : Int32 → Int64 → Int64 → Int32 → Int32 → mm_M → Option (Int32 × mm_M)) (x1 : Int32) (x4 : Int64) (x6 : Int32) (x7 : Int32) (t0 : Int64) (t1 : Int64) (M : mm_M) : Option (Int32 × mm_M) :=
  sq_ ((t0 + t1) : Int64) fun y14 =>
  sq_ (x7 + 1 : Int32) fun y15 =>
  q39 x1 y14 x4 x6 y15 M
def f_X12_odds_87 (x2 : Int64) (x4 : Int64) (M : mm_M) : Option (Int32 × mm_M) :=
  sq_ (mm_si M 0 1 0) fun M12 =>
  (f_X12_entersFraction x2 x4 M12).bind fun z13 =>
  some ((0 : Int32), z13)
def f_X12_odds_39 (q39 : Int32 → Int64 → Int64 → Int32 → Int32 → mm_M → Option (Int32 × mm_M)) (x1 : Int32) (x2 : Int64) (x4 : Int64) (x6 : Int32) (x7 : Int32) (M : mm_M) : Option (Int32 × mm_M) :=
  if x6 ≤ x7 then (
    f_X12_odds_87 x2 x4 M
  ) else (
    (f_X12_weightOf x7 x1 M).bind fun z8 =>
    sq_ ((x4 + z8.1) : Int64) fun y9 =>
    (f_X12_isHeld x1 x7 z8.2).bind fun z10 =>
    if z10.1 = 0 then (
      f_X12_odds_79 q39 x1 y9 x6 x7 x2 (0 : Int64) z10.2
    ) else (
      f_X12_odds_79 q39 x1 y9 x6 x7 x2 z8.1 z10.2
    )
  )
def f_X12_odds_39l : Nat → Int32 → Int64 → Int64 → Int32 → Int32 → mm_M → Option (Int32 × mm_M)
  | 0, _, _, _, _, _, _ => none
  | n + 1, x1, x2, x4, x6, x7, M => f_X12_odds_39 (f_X12_odds_39l n) x1 x2 x4 x6 x7 M
def f_X12_odds (x1 : Int32) (M : mm_M) : Option (Int32 × mm_M) :=
  sq_ (mm_si M 0 0 0) fun M1 =>
  sq_ (f_X12_isSign x1 M1) fun z2 =>
  if z2 = 0 then (
    some (((-1) : Int32), M1)
  ) else (
    (f_X12_onMany x1 M1).bind fun z4 =>
    if z4 ≤ 12 then (
      (f_X12_histories M1).bind fun z6 =>
      f_X12_odds_39l fu_ x1 (0 : Int64) (0 : Int64) z6 (0 : Int32) M1
    ) else (
      some (((-1) : Int32), M1)
    )
  )
def f_X12_weighsAll_10 (q10 : Int64 → Int32 → Int32 → mm_M → Option (Int64 × mm_M)) (x1 : Int64) (x3 : Int32) (x4 : Int32) (M : mm_M) : Option (Int64 × mm_M) :=
  if x3 ≤ x4 then (
    some (x1, M)
  ) else (
    (f_X12_weightOf x4 ((-1) : Int32) M).bind fun z3 =>
    if ix_ok x4 600 then (
    sq_ (mm_sl z3.2 30 x4.toNatClampNeg z3.1) fun M5 =>
    if ix_ok x4 600 then (
    sq_ ((x1 + (M5.2.1 30 x4.toNatClampNeg)) : Int64) fun y7 =>
    sq_ (x4 + 1 : Int32) fun y8 =>
    q10 y7 x3 y8 M5
    ) else none ) else none
  )
def f_X12_weighsAll_10l : Nat → Int64 → Int32 → Int32 → mm_M → Option (Int64 × mm_M)
  | 0, _, _, _, _ => none
  | n + 1, x1, x3, x4, M => f_X12_weighsAll_10 (f_X12_weighsAll_10l n) x1 x3 x4 M
def f_X12_weighsAll (M : mm_M) : Option (Int64 × mm_M) :=
  (f_X12_histories M).bind fun z1 =>
  f_X12_weighsAll_10l fu_ (0 : Int64) z1 (0 : Int32) M
def f_X12_likeliest_93 (q59 : Int32 → Int32 → mm_M → Option (Int32 × mm_M)) (x6 : Int32) (t0 : Int32) (M : mm_M) : Option (Int32 × mm_M) :=
  sq_ (x6 + 1 : Int32) fun y13 =>
  q59 t0 y13 M
def f_X12_likeliest_59 (q59 : Int32 → Int32 → mm_M → Option (Int32 × mm_M)) (x5 : Int32) (x6 : Int32) (M : mm_M) : Option (Int32 × mm_M) :=
  if (M.1 0 42) ≤ x6 then (
    some (x5, M)
  ) else (
    if ix_ok x6 600 then (
    if ix_ok x5 600 then (
    if (M.2.1 29 x6.toNatClampNeg) ≤ (M.2.1 29 x5.toNatClampNeg) then (
      f_X12_likeliest_93 q59 x6 x5 M
    ) else (
      f_X12_likeliest_93 q59 x6 x6 M
    )
    ) else none ) else none
  )
def f_X12_likeliest_59l : Nat → Int32 → Int32 → mm_M → Option (Int32 × mm_M)
  | 0, _, _, _ => none
  | n + 1, x5, x6, M => f_X12_likeliest_59 (f_X12_likeliest_59l n) x5 x6 M
def f_X12_likeliest_53 (M : mm_M) : Option (Int32 × mm_M) :=
  f_X12_likeliest_59l fu_ (0 : Int32) (1 : Int32) M
def f_X12_likeliest_14 (q14 : Int32 → Int32 → Int32 → Int32 → Int32 → mm_M → Option (Int32 × mm_M)) (x1 : Int32) (x2 : Int32) (x3 : Int32) (x4 : Int32) (x5 : Int32) (M : mm_M) : Option (Int32 × mm_M) :=
  if x4 ≤ x5 then (
    f_X12_likeliest_53 M
  ) else (
    (f_X12_says (0 : Int32) x1 x5 x2 x3 M).bind fun z4 =>
    (f_X12_packs (0 : Int32) z4).bind fun z5 =>
    if ix_ok x5 600 then (
    (f_X12_notes z5 (z4.2.1 30 x5.toNatClampNeg) z4).bind fun z7 =>
    sq_ (x5 + 1 : Int32) fun y8 =>
    q14 x1 x2 x3 x4 y8 z7
    ) else none
  )
def f_X12_likeliest_14l : Nat → Int32 → Int32 → Int32 → Int32 → Int32 → mm_M → Option (Int32 × mm_M)
  | 0, _, _, _, _, _, _ => none
  | n + 1, x1, x2, x3, x4, x5, M => f_X12_likeliest_14 (f_X12_likeliest_14l n) x1 x2 x3 x4 x5 M
def f_X12_likeliest (x1 : Int32) (x2 : Int32) (x3 : Int32) (M : mm_M) : Option (Int32 × mm_M) :=
  sq_ (mm_si M 0 42 0) fun M1 =>
  (f_X12_histories M1).bind fun z2 =>
  f_X12_likeliest_14l fu_ x1 x2 x3 z2 (0 : Int32) M1
def f_X12_then_84 (q84 : Int32 → Int32 → Int32 → mm_M → Option (Int32 × mm_M)) (x6 : Int32) (x7 : Int32) (x8 : Int32) (M : mm_M) : Option (Int32 × mm_M) :=
  if x8 < 0 then (
    some (x7, M)
  ) else (
    if ix_ok x6 600 then (
    (f_X12_enters (((M.2.1 28 x6.toNatClampNeg) >>> ((4 * x8).toInt64 &&& 63)) &&& 15) M).bind fun z18 =>
    sq_ (x8 + (-1) : Int32) fun y19 =>
    q84 x6 x7 y19 z18
    ) else none
  )
def f_X12_then_84l : Nat → Int32 → Int32 → Int32 → mm_M → Option (Int32 × mm_M)
  | 0, _, _, _, _ => none
  | n + 1, x6, x7, x8, M => f_X12_then_84 (f_X12_then_84l n) x6 x7 x8 M
def f_X12_then (x1 : Int32) (x2 : Int32) (x3 : Int32) (M : mm_M) : Option (Int32 × mm_M) :=
  sq_ (mm_si M 0 0 0) fun M1 =>
  sq_ (f_X12_isWord x1 M1) fun z2 =>
  if z2 = 0 then (
    some (((-1) : Int32), M1)
  ) else (
    sq_ (f_X12_isThen x2 x3) fun z4 =>
    if z4 = 0 then (
      some (((-1) : Int32), M1)
    ) else (
      (f_X12_onMany ((-1) : Int32) M1).bind fun z6 =>
      if z6 ≤ 12 then (
        (f_X12_weighsAll M1).bind fun z8 =>
        (f_X12_likeliest x1 x2 x3 z8.2).bind fun z9 =>
        if ix_ok z9.1 600 then (
        (f_X12_longOf (z9.2.2.1 28 z9.1.toNatClampNeg)).bind fun z11 =>
        sq_ (mm_si z9.2 0 1 0) fun M12 =>
        if ix_ok z9.1 600 then (
        (f_X12_entersFraction (M12.2.1 29 z9.1.toNatClampNeg) z8.1 M12).bind fun z14 =>
        sq_ ((z11 - 1) : Int32) fun y15 =>
        f_X12_then_84l fu_ z9.1 z11 y15 z14
        ) else none ) else none
      ) else (
        some (((-1) : Int32), M1)
      )
    )
  )
def f_X12_right_99 (q44 : Int32 → Int32 → Int32 → Int32 → Int32 → mm_M → Option (Int32 × mm_M)) (x1 : Int32) (x2 : Int32) (x3 : Int32) (x5 : Int32) (t0 : Int32) (t1 : Int32) (M : mm_M) : Option (Int32 × mm_M) :=
  sq_ ((t0 ||| t1) : Int32) fun y18 =>
  sq_ (x5 + 1 : Int32) fun y19 =>
  q44 x1 x2 x3 y18 y19 M
def f_X12_right_108 (x4 : Int32) (M : mm_M) : Option (Int32 × mm_M) :=
  sq_ (mm_si M 0 1 0) fun M15 =>
  (f_X12_enters (x4.toInt64) M15).bind fun z16 =>
  sq_ (f_J6_bitCount_0f7a4 x4) fun z17 =>
  some (z17, z16)
def f_X12_right_44 (q44 : Int32 → Int32 → Int32 → Int32 → Int32 → mm_M → Option (Int32 × mm_M)) (x1 : Int32) (x2 : Int32) (x3 : Int32) (x4 : Int32) (x5 : Int32) (M : mm_M) : Option (Int32 × mm_M) :=
  if (M.1 0 8) ≤ x5 then (
    f_X12_right_108 x4 M
  ) else (
    (f_X12_likeliest x5 x2 x3 M).bind fun z10 =>
    (f_X12_says (0 : Int32) x5 x1 x2 x3 z10.2).bind fun z11 =>
    (f_X12_packs (0 : Int32) z11).bind fun z12 =>
    if ix_ok z10.1 600 then (
    if z12 = (z11.2.1 28 z10.1.toNatClampNeg) then (
      f_X12_right_99 q44 x1 x2 x3 x5 x4 ((1 : Int32) <<< (x5 &&& 31)) z11
    ) else (
      f_X12_right_99 q44 x1 x2 x3 x5 x4 (0 : Int32) z11
    )
    ) else none
  )
def f_X12_right_44l : Nat → Int32 → Int32 → Int32 → Int32 → Int32 → mm_M → Option (Int32 × mm_M)
  | 0, _, _, _, _, _, _ => none
  | n + 1, x1, x2, x3, x4, x5, M => f_X12_right_44 (f_X12_right_44l n) x1 x2 x3 x4 x5 M
def f_X12_right (x1 : Int32) (x2 : Int32) (x3 : Int32) (M : mm_M) : Option (Int32 × mm_M) :=
  sq_ (mm_si M 0 0 0) fun M1 =>
  (f_X12_isHistory x1 M1).bind fun z2 =>
  if z2 = 0 then (
    some (((-1) : Int32), M1)
  ) else (
    sq_ (f_X12_isThen x2 x3) fun z4 =>
    if z4 = 0 then (
      some (((-1) : Int32), M1)
    ) else (
      (f_X12_onMany ((-1) : Int32) M1).bind fun z6 =>
      if z6 ≤ 12 then (
        (f_X12_weighsAll M1).bind fun z8 =>
        f_X12_right_44l fu_ x1 x2 x3 (0 : Int32) (0 : Int32) z8.2
      ) else (
        some (((-1) : Int32), M1)
      )
    )
  )
def f_X12_likely_63 (q33 : Int64 → Int32 → Int32 → Int32 → mm_M → Option (Int32 × mm_M)) (x1 : Int64) (x4 : Int32) (x5 : Int32) (t0 : Int32) (M : mm_M) : Option (Int32 × mm_M) :=
  sq_ (x5 + 1 : Int32) fun y13 =>
  q33 x1 t0 x4 y13 M
def f_X12_likely_70 (x1 : Int64) (x3 : Int32) (M : mm_M) : Option (Int32 × mm_M) :=
  sq_ (mm_si M 0 1 0) fun M10 =>
  if ix_ok x3 600 then (
  (f_X12_entersFraction (M10.2.1 30 x3.toNatClampNeg) x1 M10).bind fun z12 =>
  some (x3, z12)
  ) else none
def f_X12_likely_33 (q33 : Int64 → Int32 → Int32 → Int32 → mm_M → Option (Int32 × mm_M)) (x1 : Int64) (x3 : Int32) (x4 : Int32) (x5 : Int32) (M : mm_M) : Option (Int32 × mm_M) :=
  if x4 ≤ x5 then (
    f_X12_likely_70 x1 x3 M
  ) else (
    if ix_ok x5 600 then (
    if ix_ok x3 600 then (
    if (M.2.1 30 x5.toNatClampNeg) ≤ (M.2.1 30 x3.toNatClampNeg) then (
      f_X12_likely_63 q33 x1 x4 x5 x3 M
    ) else (
      f_X12_likely_63 q33 x1 x4 x5 x5 M
    )
    ) else none ) else none
  )
def f_X12_likely_33l : Nat → Int64 → Int32 → Int32 → Int32 → mm_M → Option (Int32 × mm_M)
  | 0, _, _, _, _, _ => none
  | n + 1, x1, x3, x4, x5, M => f_X12_likely_33 (f_X12_likely_33l n) x1 x3 x4 x5 M
def f_X12_likely (M : mm_M) : Option (Int32 × mm_M) :=
  sq_ (mm_si M 0 0 0) fun M1 =>
  (f_X12_onMany ((-1) : Int32) M1).bind fun z2 =>
  if z2 ≤ 12 then (
    (f_X12_weighsAll M1).bind fun z4 =>
    (f_X12_histories z4.2).bind fun z5 =>
    f_X12_likely_33l fu_ z4.1 (0 : Int32) z5 (1 : Int32) z4.2
  ) else (
    some (((-1) : Int32), M1)
  )
def f_X12_heldBy_4 (q4 : Int32 → Int32 → Int32 → mm_M → Option (Int32 × mm_M)) (x1 : Int32) (x2 : Int32) (x3 : Int32) (M : mm_M) : Option (Int32 × mm_M) :=
  if (M.1 0 39) ≤ x3 then (
    some (x2, M)
  ) else (
    if ix_ok x3 600 then (
    (f_X12_isHeld x1 (M.1 27 x3.toNatClampNeg) M).bind fun z3 =>
    sq_ (f_X12_truth z3.1) fun z4 =>
    sq_ ((x2 + z4) : Int32) fun y5 =>
    sq_ (x3 + 1 : Int32) fun y6 =>
    q4 x1 y5 y6 z3.2
    ) else none
  )
def f_X12_heldBy_4l : Nat → Int32 → Int32 → Int32 → mm_M → Option (Int32 × mm_M)
  | 0, _, _, _, _ => none
  | n + 1, x1, x2, x3, M => f_X12_heldBy_4 (f_X12_heldBy_4l n) x1 x2 x3 M
def f_X12_heldBy (x1 : Int32) (M : mm_M) : Option (Int32 × mm_M) :=
  f_X12_heldBy_4l fu_ x1 (0 : Int32) (0 : Int32) M
def f_X12_next_101 (q39 : Int32 → Int32 → Int32 → mm_M → Option (Int32 × mm_M)) (x1 : Int32) (x2 : Int32) (x3 : Int32) (M : mm_M) : Option (Int32 × mm_M) :=
  sq_ (x3 + 1 : Int32) fun y14 =>
  q39 x1 x2 y14 M
def f_X12_next_96 (q39 : Int32 → Int32 → Int32 → mm_M → Option (Int32 × mm_M)) (x3 : Int32) (x4 : Int32) (M : mm_M) : Option (Int32 × mm_M) :=
  f_X12_next_101 q39 x3 x4 x3 M
def f_X12_next_107 (x1 : Int32) (x2 : Int32) (M : mm_M) : Option (Int32 × mm_M) :=
  sq_ (mm_si M 0 1 0) fun M12 =>
  (f_X12_enters (x2.toInt64) M12).bind fun z13 =>
  some (x1, z13)
def f_X12_next_39 (q39 : Int32 → Int32 → Int32 → mm_M → Option (Int32 × mm_M)) (x1 : Int32) (x2 : Int32) (x3 : Int32) (M : mm_M) : Option (Int32 × mm_M) :=
  if (M.1 0 28) ≤ x3 then (
    f_X12_next_107 x1 x2 M
  ) else (
    if ix_ok x3 17 then (
    if (M.1 26 x3.toNatClampNeg) = 0 then (
      (f_X12_heldBy x3 M).bind fun z9 =>
      if x1 < 0 then (
        f_X12_next_96 q39 x3 z9.1 z9.2
      ) else (
        if (if 0 ≤ ((2 * x2) - (z9.2.1 0 39)) then ((2 * x2) - (z9.2.1 0 39)) else 0 - ((2 * x2) - (z9.2.1 0 39))) ≤ (if 0 ≤ ((2 * z9.1) - (z9.2.1 0 39)) then ((2 * z9.1) - (z9.2.1 0 39)) else 0 - ((2 * z9.1) - (z9.2.1 0 39))) then (
          f_X12_next_101 q39 x1 x2 x3 z9.2
        ) else (
          f_X12_next_96 q39 x3 z9.1 z9.2
        )
      )
    ) else (
      f_X12_next_101 q39 x1 x2 x3 M
    )
    ) else none
  )
def f_X12_next_39l : Nat → Int32 → Int32 → Int32 → mm_M → Option (Int32 × mm_M)
  | 0, _, _, _, _ => none
  | n + 1, x1, x2, x3, M => f_X12_next_39 (f_X12_next_39l n) x1 x2 x3 M
def f_X12_next (M : mm_M) : Option (Int32 × mm_M) :=
  sq_ (mm_si M 0 0 0) fun M1 =>
  (f_X12_onMany ((-1) : Int32) M1).bind fun z2 =>
  if z2 = (M1.1 0 28) then (
    some (((-1) : Int32), M1)
  ) else (
    (f_X12_gathers M1).bind fun z4 =>
    if (z4.1 0 39) = 0 then (
      some (((-2) : Int32), z4)
    ) else (
      f_X12_next_39l fu_ ((-1) : Int32) (0 : Int32) (0 : Int32) z4
    )
  )
def f_X12_eye_167 (q58 : Int32 → Int32 → Int32 → Int32 → mm_M → Option (Int32 × mm_M)) (x1 : Int32) (x2 : Int32) (x4 : Int32) (x5 : Int32) (M : mm_M) : Option (Int32 × mm_M) :=
  sq_ (x5 + 1 : Int32) fun y25 =>
  q58 x1 x2 x4 y25 M
def f_X12_eye_159 (q58 : Int32 → Int32 → Int32 → Int32 → mm_M → Option (Int32 × mm_M)) (x1 : Int32) (x2 : Int32) (x4 : Int32) (x5 : Int32) (t1 : Int32) (M : mm_M) : Option (Int32 × mm_M) :=
  if ix_ok t1 4 then (
  if ix_ok t1 4 then (
  sq_ (mm_si M 31 t1.toNatClampNeg ((M.1 31 t1.toNatClampNeg) + 1)) fun M28 =>
  sq_ (x4 + 1 : Int32) fun y29 =>
  f_X12_eye_167 q58 x1 x2 y29 x5 M28
  ) else none ) else none
def f_X12_eye_181 (q181 : Int32 → Int32 → mm_M → Option (Int32 × mm_M)) (x4 : Int32) (x5 : Int32) (M : mm_M) : Option (Int32 × mm_M) :=
  if 4 ≤ x5 then (
    some (x4, M)
  ) else (
    if ix_ok x5 4 then (
    (f_X12_enters ((M.1 31 x5.toNatClampNeg).toInt64) M).bind fun z32 =>
    sq_ (x5 + 1 : Int32) fun y33 =>
    q181 x4 y33 z32
    ) else none
  )
def f_X12_eye_181l : Nat → Int32 → Int32 → mm_M → Option (Int32 × mm_M)
  | 0, _, _, _ => none
  | n + 1, x4, x5, M => f_X12_eye_181 (f_X12_eye_181l n) x4 x5 M
def f_X12_eye_173 (x4 : Int32) (M : mm_M) : Option (Int32 × mm_M) :=
  sq_ (mm_si M 0 1 0) fun M24 =>
  f_X12_eye_181l fu_ x4 (0 : Int32) M24
def f_X12_eye_58 (q58 : Int32 → Int32 → Int32 → Int32 → mm_M → Option (Int32 × mm_M)) (x1 : Int32) (x2 : Int32) (x4 : Int32) (x5 : Int32) (M : mm_M) : Option (Int32 × mm_M) :=
  if (M.1 0 28) ≤ x5 then (
    f_X12_eye_173 x4 M
  ) else (
    if ix_ok x5 17 then (
    if (M.1 18 x5.toNatClampNeg) = 0 then (
      if ix_ok x5 17 then (
      if (M.1 24 x5.toNatClampNeg) = x1 then (
        (f_X12_isHeld x5 x2 M).bind fun z15 =>
        if ix_ok x5 17 then (
        (f_X12_spells (0 : Int32) (z15.2.1 19 x5.toNatClampNeg) z15.2).bind fun z17 =>
        if ix_ok x5 17 then (
        (f_X12_spells (1 : Int32) (z17.1 20 x5.toNatClampNeg) z17).bind fun z19 =>
        (f_X12_areRhymes z19).bind fun z20 =>
        if z15.1 = 0 then (
          if z20 = 0 then (
            f_X12_eye_159 q58 x1 x2 x4 x5 (3 : Int32) z19
          ) else (
            f_X12_eye_159 q58 x1 x2 x4 x5 (2 : Int32) z19
          )
        ) else (
          if z20 = 0 then (
            f_X12_eye_159 q58 x1 x2 x4 x5 (1 : Int32) z19
          ) else (
            f_X12_eye_159 q58 x1 x2 x4 x5 (0 : Int32) z19
          )
        )
        ) else none ) else none
      ) else (
        f_X12_eye_167 q58 x1 x2 x4 x5 M
      )
      ) else none
    ) else (
      f_X12_eye_167 q58 x1 x2 x4 x5 M
    )
    ) else none
  )
def f_X12_eye_58l : Nat → Int32 → Int32 → Int32 → Int32 → mm_M → Option (Int32 × mm_M)
  | 0, _, _, _, _, _ => none
  | n + 1, x1, x2, x4, x5, M => f_X12_eye_58 (f_X12_eye_58l n) x1 x2 x4 x5 M
def f_X12_eye_52 (x1 : Int32) (x2 : Int32) (M : mm_M) : Option (Int32 × mm_M) :=
  f_X12_eye_58l fu_ x1 x2 (0 : Int32) (0 : Int32) M
def f_X12_eye_35 (q35 : Int32 → Int32 → Int32 → mm_M → Option (Int32 × mm_M)) (x1 : Int32) (x2 : Int32) (x4 : Int32) (M : mm_M) : Option (Int32 × mm_M) :=
  if 4 ≤ x4 then (
    f_X12_eye_52 x1 x2 M
  ) else (
    if ix_ok x4 4 then (
    sq_ (mm_si M 31 x4.toNatClampNeg 0) fun M8 =>
    sq_ (x4 + 1 : Int32) fun y9 =>
    q35 x1 x2 y9 M8
    ) else none
  )
def f_X12_eye_35l : Nat → Int32 → Int32 → Int32 → mm_M → Option (Int32 × mm_M)
  | 0, _, _, _, _ => none
  | n + 1, x1, x2, x4, M => f_X12_eye_35 (f_X12_eye_35l n) x1 x2 x4 M
def f_X12_eye (x1 : Int32) (x2 : Int32) (M : mm_M) : Option (Int32 × mm_M) :=
  sq_ (mm_si M 0 0 0) fun M1 =>
  sq_ (f_X12_in (x1.toInt64) (0 : Int64) (5 : Int64)) fun z2 =>
  if z2 = 0 then (
    some (((-1) : Int32), M1)
  ) else (
    (f_X12_isHistory x2 M1).bind fun z4 =>
    if z4 = 0 then (
      some (((-1) : Int32), M1)
    ) else (
      f_X12_eye_35l fu_ x1 x2 (0 : Int32) M1
    )
  )
def f_X12_lean_143 (q57 : Int32 → Int32 → Int32 → Int32 → Int32 → Int32 → Int32 → Int32 → mm_M → Option (Int32 × mm_M)) (x1 : Int32) (x2 : Int32) (x3 : Int32) (x4 : Int32) (x5 : Int32) (x6 : Int32) (x7 : Int32) (x8 : Int32) (M : mm_M) : Option (Int32 × mm_M) :=
  sq_ (x8 + 1 : Int32) fun y25 =>
  q57 x1 x2 x3 x4 x5 x6 x7 y25 M
def f_X12_lean_92 (q57 : Int32 → Int32 → Int32 → Int32 → Int32 → Int32 → Int32 → Int32 → mm_M → Option (Int32 × mm_M)) (x1 : Int32) (x2 : Int32) (x3 : Int32) (x4 : Int32) (x5 : Int32) (x6 : Int32) (x7 : Int32) (x8 : Int32) (t0 : Int32) (M : mm_M) : Option (Int32 × mm_M) :=
  if t0 = 0 then (
    if ix_ok x8 17 then (
    if (M.1 26 x8.toNatClampNeg) = 0 then (
      f_X12_lean_143 q57 x1 x2 x3 x4 x5 x6 x7 x8 M
    ) else (
      if x7 = 0 then (
        f_X12_lean_143 q57 x1 x2 x3 x4 x5 x6 x7 x8 M
      ) else (
        (f_X12_isHeld x8 x5 M).bind fun z20 =>
        f_X12_lean_143 q57 x1 x2 x3 x4 x5 x6 z20.1 x8 z20.2
      )
    )
    ) else none
  ) else (
    (f_X12_isHeld x8 x5 M).bind fun z21 =>
    sq_ (f_X12_truth z21.1) fun z22 =>
    sq_ ((x6 + z22) : Int32) fun y23 =>
    f_X12_lean_143 q57 x1 x2 x3 x4 x5 y23 x7 x8 z21.2
  )
def f_X12_lean_91 (q57 : Int32 → Int32 → Int32 → Int32 → Int32 → Int32 → Int32 → Int32 → mm_M → Option (Int32 × mm_M)) (x1 : Int32) (x2 : Int32) (x3 : Int32) (x4 : Int32) (x5 : Int32) (x6 : Int32) (x7 : Int32) (x8 : Int32) (M : mm_M) : Option (Int32 × mm_M) :=
  f_X12_lean_92 q57 x1 x2 x3 x4 x5 x6 x7 x8 (0 : Int32) M
def f_X12_lean_183 (q41 : Int32 → Int32 → Int32 → Int32 → Int32 → mm_M → Option (Int32 × mm_M)) (x1 : Int32) (x2 : Int32) (x3 : Int32) (x4 : Int32) (x5 : Int32) (M : mm_M) : Option (Int32 × mm_M) :=
  sq_ (x5 + 1 : Int32) fun y24 =>
  q41 x1 x2 x3 x4 y24 M
def f_X12_lean_182 (q41 : Int32 → Int32 → Int32 → Int32 → Int32 → mm_M → Option (Int32 × mm_M)) (x1 : Int32) (x2 : Int32) (x4 : Int32) (x5 : Int32) (t0 : Int32) (M : mm_M) : Option (Int32 × mm_M) :=
  f_X12_lean_183 q41 x1 x2 t0 x4 x5 M
def f_X12_lean_149 (q41 : Int32 → Int32 → Int32 → Int32 → Int32 → mm_M → Option (Int32 × mm_M)) (x1 : Int32) (x2 : Int32) (x3 : Int32) (x4 : Int32) (x5 : Int32) (x6 : Int32) (x7 : Int32) (M : mm_M) : Option (Int32 × mm_M) :=
  if x7 = 0 then (
    f_X12_lean_183 q41 x1 x2 x3 x4 x5 M
  ) else (
    if 0 ≤ x3 then (
      if x2 = 0 then (
        f_X12_lean_182 q41 x1 x2 x4 x5 (if x6 < x3 then x6 else x3) M
      ) else (
        f_X12_lean_182 q41 x1 x2 x4 x5 (if x3 < x6 then x6 else x3) M
      )
    ) else (
      f_X12_lean_182 q41 x1 x2 x4 x5 x6 M
    )
  )
def f_X12_lean_57 (q41 : Int32 → Int32 → Int32 → Int32 → Int32 → mm_M → Option (Int32 × mm_M)) (q57 : Int32 → Int32 → Int32 → Int32 → Int32 → Int32 → Int32 → Int32 → mm_M → Option (Int32 × mm_M)) (x1 : Int32) (x2 : Int32) (x3 : Int32) (x4 : Int32) (x5 : Int32) (x6 : Int32) (x7 : Int32) (x8 : Int32) (M : mm_M) : Option (Int32 × mm_M) :=
  if (M.1 0 28) ≤ x8 then (
    f_X12_lean_149 q41 x1 x2 x3 x4 x5 x6 x7 M
  ) else (
    if ix_ok x8 17 then (
    if (M.1 18 x8.toNatClampNeg) = 0 then (
      if ix_ok x8 17 then (
      if (M.1 24 x8.toNatClampNeg) = x1 then (
        f_X12_lean_92 q57 x1 x2 x3 x4 x5 x6 x7 x8 (1 : Int32) M
      ) else (
        f_X12_lean_91 q57 x1 x2 x3 x4 x5 x6 x7 x8 M
      )
      ) else none
    ) else (
      f_X12_lean_91 q57 x1 x2 x3 x4 x5 x6 x7 x8 M
    )
    ) else none
  )
def f_X12_lean_57l (q41 : Int32 → Int32 → Int32 → Int32 → Int32 → mm_M → Option (Int32 × mm_M)) : Nat → Int32 → Int32 → Int32 → Int32 → Int32 → Int32 → Int32 → Int32 → mm_M → Option (Int32 × mm_M)
  | 0, _, _, _, _, _, _, _, _, _ => none
  | n + 1, x1, x2, x3, x4, x5, x6, x7, x8, M => f_X12_lean_57 q41 (f_X12_lean_57l q41 n) x1 x2 x3 x4 x5 x6 x7 x8 M
def f_X12_lean_41 (q41 : Int32 → Int32 → Int32 → Int32 → Int32 → mm_M → Option (Int32 × mm_M)) (x1 : Int32) (x2 : Int32) (x3 : Int32) (x4 : Int32) (x5 : Int32) (M : mm_M) : Option (Int32 × mm_M) :=
  if x4 ≤ x5 then (
    some (x3, M)
  ) else (
    f_X12_lean_57l q41 fu_ x1 x2 x3 x4 x5 (0 : Int32) (1 : Int32) (0 : Int32) M
  )
def f_X12_lean_41l : Nat → Int32 → Int32 → Int32 → Int32 → Int32 → mm_M → Option (Int32 × mm_M)
  | 0, _, _, _, _, _, _ => none
  | n + 1, x1, x2, x3, x4, x5, M => f_X12_lean_41 (f_X12_lean_41l n) x1 x2 x3 x4 x5 M
def f_X12_lean (x1 : Int32) (x2 : Int32) (M : mm_M) : Option (Int32 × mm_M) :=
  sq_ (mm_si M 0 0 0) fun M1 =>
  sq_ (f_X12_in (x1.toInt64) (0 : Int64) (5 : Int64)) fun z2 =>
  if z2 = 0 then (
    some (((-1) : Int32), M1)
  ) else (
    sq_ (f_X12_in (x2.toInt64) (0 : Int64) (1 : Int64)) fun z4 =>
    if z4 = 0 then (
      some (((-1) : Int32), M1)
    ) else (
      (f_X12_histories M1).bind fun z6 =>
      f_X12_lean_41l fu_ x1 x2 ((-2) : Int32) z6 (0 : Int32) M1
    )
  )
def f_X12_isAnyFit_7 (q7 : Int32 → Int32 → mm_M → Option (Int32 × mm_M)) (x1 : Int32) (x2 : Int32) (M : mm_M) : Option (Int32 × mm_M) :=
  if x1 ≤ x2 then (
    some ((0 : Int32), M)
  ) else (
    (f_X12_isFit x2 M).bind fun z3 =>
    if z3.1 = 0 then (
      sq_ (x2 + 1 : Int32) fun y5 =>
      q7 x1 y5 z3.2
    ) else (
      some ((1 : Int32), z3.2)
    )
  )
def f_X12_isAnyFit_7l : Nat → Int32 → Int32 → mm_M → Option (Int32 × mm_M)
  | 0, _, _, _ => none
  | n + 1, x1, x2, M => f_X12_isAnyFit_7 (f_X12_isAnyFit_7l n) x1 x2 M
def f_X12_isAnyFit (M : mm_M) : Option (Int32 × mm_M) :=
  (f_X12_histories M).bind fun z1 =>
  f_X12_isAnyFit_7l fu_ z1 (0 : Int32) M
theorem bz_X12_isAnyFit_7 {z : (Int32 × mm_M)} {x1 : Int32} {x2 : Int32} {M : mm_M} {q7 : Int32 → Int32 → mm_M → Option (Int32 × mm_M)} (hq7 : ∀ (x1 : Int32) (x2 : Int32) (M : mm_M), q7 x1 x2 M = some z → z.1 = 0 ∨ z.1 = 1) (hf : f_X12_isAnyFit_7 q7 x1 x2 M = some z) : z.1 = 0 ∨ z.1 = 1 := by
  unfold f_X12_isAnyFit_7 at hf
  by_cases c2 : x1 ≤ x2
  · rw [if_pos c2] at hf
    rw [← Option.some.inj hf]; exact (Or.inl rfl)
  · rw [if_neg c2] at hf
    obtain ⟨z3, ez3, hf⟩ := bd_e hf
    by_cases c4 : z3.1 = 0
    · rw [if_pos c4] at hf
      obtain ⟨y5, ey5, hf⟩ := sq_e hf
      exact hq7 _ _ _ hf
    · rw [if_neg c4] at hf
      rw [← Option.some.inj hf]; exact (Or.inr rfl)
theorem bz_X12_isAnyFit_7l {z : (Int32 × mm_M)} : ∀ (n : Nat) (x1 : Int32) (x2 : Int32) (M : mm_M), f_X12_isAnyFit_7l n x1 x2 M = some z → z.1 = 0 ∨ z.1 = 1 := by
  intro n
  induction n with
  | zero => intro x1 x2 M hf; exact absurd hf (by simp [f_X12_isAnyFit_7l])
  | succ n ih => intro x1 x2 M hf; exact bz_X12_isAnyFit_7 ih hf
theorem bz_X12_isAnyFit {z : (Int32 × mm_M)} {M : mm_M} (hf : f_X12_isAnyFit M = some z) : z.1 = 0 ∨ z.1 = 1 := by
  unfold f_X12_isAnyFit at hf
  obtain ⟨z1, ez1, hf⟩ := bd_e hf
  exact bz_X12_isAnyFit_7l fu_ _ _ _ hf
def f_X12_ahead_95 (q43 : Int32 → Int32 → Int32 → Int32 → Int32 → mm_M → Option (Int32 × mm_M)) (x1 : Int32) (x2 : Int32) (x3 : Int32) (x5 : Int32) (t0 : Int32) (M : mm_M) : Option (Int32 × mm_M) :=
  sq_ (x5 + 10 : Int32) fun y18 =>
  q43 x1 x2 x3 t0 y18 M
def f_X12_ahead_93 (q43 : Int32 → Int32 → Int32 → Int32 → Int32 → mm_M → Option (Int32 × mm_M)) (x1 : Int32) (x2 : Int32) (x3 : Int32) (x4 : Int32) (x5 : Int32) (M : mm_M) : Option (Int32 × mm_M) :=
  f_X12_ahead_95 q43 x1 x2 x3 x5 x4 M
def f_X12_ahead_74 (q43 : Int32 → Int32 → Int32 → Int32 → Int32 → mm_M → Option (Int32 × mm_M)) (x1 : Int32) (x2 : Int32) (x3 : Int32) (x4 : Int32) (x5 : Int32) (t0 : Int32) (M : mm_M) : Option (Int32 × mm_M) :=
  if t0 = 0 then (
    f_X12_ahead_93 q43 x1 x2 x3 x4 x5 M
  ) else (
    (f_X12_isAnyFit M).bind fun z16 =>
    if z16.1 = 0 then (
      f_X12_ahead_93 q43 x1 x2 x3 x4 x5 z16.2
    ) else (
      f_X12_ahead_95 q43 x1 x2 x3 x5 x5 z16.2
    )
  )
def f_X12_ahead_69 (q43 : Int32 → Int32 → Int32 → Int32 → Int32 → mm_M → Option (Int32 × mm_M)) (x1 : Int32) (x2 : Int32) (x3 : Int32) (x4 : Int32) (x5 : Int32) (M : mm_M) : Option (Int32 × mm_M) :=
  f_X12_ahead_74 q43 x1 x2 x3 x4 x5 (1 : Int32) M
def f_X12_ahead_103 (x1 : Int32) (x3 : Int32) (x4 : Int32) (M : mm_M) : Option (Int32 × mm_M) :=
  if ix_ok x1 6 then (
  sq_ (mm_si M 13 x1.toNatClampNeg x3) fun M14 =>
  some (x4, M14)
  ) else none
def f_X12_ahead_43 (q43 : Int32 → Int32 → Int32 → Int32 → Int32 → mm_M → Option (Int32 × mm_M)) (x1 : Int32) (x2 : Int32) (x3 : Int32) (x4 : Int32) (x5 : Int32) (M : mm_M) : Option (Int32 × mm_M) :=
  if 200 < x5 then (
    f_X12_ahead_103 x1 x3 x4 M
  ) else (
    if ix_ok x1 6 then (
    sq_ (mm_si M 13 x1.toNatClampNeg x5) fun M10 =>
    if x4 < 0 then (
      f_X12_ahead_69 q43 x1 x2 x3 x4 x5 M10
    ) else (
      if x2 = 1 then (
        f_X12_ahead_69 q43 x1 x2 x3 x4 x5 M10
      ) else (
        f_X12_ahead_74 q43 x1 x2 x3 x4 x5 (0 : Int32) M10
      )
    )
    ) else none
  )
def f_X12_ahead_43l : Nat → Int32 → Int32 → Int32 → Int32 → Int32 → mm_M → Option (Int32 × mm_M)
  | 0, _, _, _, _, _, _ => none
  | n + 1, x1, x2, x3, x4, x5, M => f_X12_ahead_43 (f_X12_ahead_43l n) x1 x2 x3 x4 x5 M
def f_X12_ahead (x1 : Int32) (x2 : Int32) (M : mm_M) : Option (Int32 × mm_M) :=
  sq_ (mm_si M 0 0 0) fun M1 =>
  sq_ (f_X12_in (x1.toInt64) (0 : Int64) (5 : Int64)) fun z2 =>
  if z2 = 0 then (
    some (((-1) : Int32), M1)
  ) else (
    sq_ (f_X12_in (x2.toInt64) (0 : Int64) (1 : Int64)) fun z4 =>
    if z4 = 0 then (
      some (((-1) : Int32), M1)
    ) else (
      if ix_ok x1 6 then (
      sq_ ((M1.1 13 x1.toNatClampNeg) : Int32) fun y7 =>
      f_X12_ahead_43l fu_ x1 x2 y7 ((-2) : Int32) (0 : Int32) M1
      ) else none
    )
  )
def f_X12_isOnStage (x1 : Int32) (M : mm_M) : Option Int32 :=
  if ix_ok x1 17 then (
  if (M.1 26 x1.toNatClampNeg) = 0 then (
    some (0 : Int32)
  ) else (
    if ix_ok x1 17 then (
    if 2 ≤ (M.1 18 x1.toNatClampNeg) then (
      some (0 : Int32)
    ) else (
      some (1 : Int32)
    )
    ) else none
  )
  ) else none
theorem bz_X12_isOnStage {z : Int32} {x1 : Int32} {M : mm_M} (hf : f_X12_isOnStage x1 M = some z) : z = 0 ∨ z = 1 := by
  unfold f_X12_isOnStage at hf
  obtain ⟨h1, hf⟩ := ck_e hf
  by_cases c2 : (M.1 26 x1.toNatClampNeg) = 0
  · rw [if_pos c2] at hf
    rw [← Option.some.inj hf]; exact (Or.inl rfl)
  · rw [if_neg c2] at hf
    obtain ⟨h3, hf⟩ := ck_e hf
    by_cases c4 : 2 ≤ (M.1 18 x1.toNatClampNeg)
    · rw [if_pos c4] at hf
      rw [← Option.some.inj hf]; exact (Or.inl rfl)
    · rw [if_neg c4] at hf
      rw [← Option.some.inj hf]; exact (Or.inr rfl)
def f_X12_stagedAt_27 (q4 : Int32 → Int32 → Int32 → Option Int32) (x1 : Int32) (x3 : Int32) (t0 : Int32) (M : mm_M) : Option Int32 :=
  sq_ (x3 + 1 : Int32) fun y4 =>
  q4 x1 t0 y4
def f_X12_stagedAt_4 (q4 : Int32 → Int32 → Int32 → Option Int32) (x1 : Int32) (x2 : Int32) (x3 : Int32) (M : mm_M) : Option Int32 :=
  if (M.1 0 49) ≤ x3 then (
    some x2
  ) else (
    if ix_ok x3 7 then (
    if (M.1 32 x3.toNatClampNeg) = x1 then (
      f_X12_stagedAt_27 q4 x1 x3 x3 M
    ) else (
      f_X12_stagedAt_27 q4 x1 x3 x2 M
    )
    ) else none
  )
def f_X12_stagedAt_4l (M : mm_M) : Nat → Int32 → Int32 → Int32 → Option Int32
  | 0, _, _, _ => none
  | n + 1, x1, x2, x3 => f_X12_stagedAt_4 (f_X12_stagedAt_4l M n) x1 x2 x3 M
def f_X12_stagedAt (x1 : Int32) (M : mm_M) : Option Int32 :=
  f_X12_stagedAt_4l M fu_ x1 ((-1) : Int32) (0 : Int32)
def f_X12_stages_11 (rc : Int32 → Int32 → Int32 → mm_M → Option mm_M) (q11 : Int32 → Int32 → Int32 → Int32 → mm_M → Option mm_M) (x1 : Int32) (x2 : Int32) (x3 : Int32) (x4 : Int32) (M : mm_M) : Option mm_M :=
  if 3 ≤ x4 then (
    some M
  ) else (
    if ix_ok x1 7 then (
    sq_ (mm_si M 33 x1.toNatClampNeg x4) fun M11 =>
    (rc (x1 + 1) x2 x3 M11).bind fun z12 =>
    sq_ (x4 + 1 : Int32) fun y13 =>
    q11 x1 x2 x3 y13 z12
    ) else none
  )
def f_X12_stages_11l (rc : Int32 → Int32 → Int32 → mm_M → Option mm_M) : Nat → Int32 → Int32 → Int32 → Int32 → mm_M → Option mm_M
  | 0, _, _, _, _, _ => none
  | n + 1, x1, x2, x3, x4, M => f_X12_stages_11 rc (f_X12_stages_11l rc n) x1 x2 x3 x4 M
def f_X12_stages_186 (rc : Int32 → Int32 → Int32 → mm_M → Option mm_M) (q47 : Int32 → Int32 → Int32 → Int32 → mm_M → Option mm_M) (x2 : Int32) (x3 : Int32) (x4 : Int32) (x5 : Int32) (M : mm_M) : Option mm_M :=
  sq_ (x5 + 1 : Int32) fun y35 =>
  q47 x2 x3 x4 y35 M
def f_X12_stages_180 (rc : Int32 → Int32 → Int32 → mm_M → Option mm_M) (q47 : Int32 → Int32 → Int32 → Int32 → mm_M → Option mm_M) (x2 : Int32) (x3 : Int32) (x5 : Int32) (t0 : Int32) (t1 : Int32) (M : mm_M) : Option mm_M :=
  sq_ (f_X12_truth t1) fun z36 =>
  sq_ ((t0 + z36) : Int32) fun y37 =>
  f_X12_stages_186 rc q47 x2 x3 y37 x5 M
def f_X12_stages_93 (rc : Int32 → Int32 → Int32 → mm_M → Option mm_M) (q47 : Int32 → Int32 → Int32 → Int32 → mm_M → Option mm_M) (x2 : Int32) (x3 : Int32) (x4 : Int32) (x5 : Int32) (x6 : Int32) (t0 : Int32) (M : mm_M) : Option mm_M :=
  if x6 < 0 then (
    f_X12_stages_186 rc q47 x2 x3 x4 x5 M
  ) else (
    if t0 < 0 then (
      f_X12_stages_186 rc q47 x2 x3 x4 x5 M
    ) else (
      if ix_ok x5 17 then (
      if ix_ok x6 7 then (
      if ix_ok (M.1 33 x6.toNatClampNeg) 3 then (
      (f_X12_says (0 : Int32) (M.1 19 x5.toNatClampNeg) x2 (M.1 35 (M.1 33 x6.toNatClampNeg).toNatClampNeg) x3 M).bind fun z21 =>
      if ix_ok x5 17 then (
      if ix_ok t0 7 then (
      if ix_ok (z21.1 33 t0.toNatClampNeg) 3 then (
      (f_X12_says (1 : Int32) (z21.1 20 x5.toNatClampNeg) x2 (z21.1 35 (z21.1 33 t0.toNatClampNeg).toNatClampNeg) x3 z21).bind fun z25 =>
      if ix_ok x5 17 then (
      if (z25.1 18 x5.toNatClampNeg) = 0 then (
        (f_X12_areRhymes z25).bind fun z29 =>
        f_X12_stages_180 rc q47 x2 x3 x5 x4 z29 z25
      ) else (
        (f_X12_areAlike z25).bind fun z28 =>
        f_X12_stages_180 rc q47 x2 x3 x5 x4 z28 z25
      )
      ) else none ) else none ) else none ) else none ) else none ) else none ) else none
    )
  )
def f_X12_stages_210 (rc : Int32 → Int32 → Int32 → mm_M → Option mm_M) (q210 : Int32 → mm_M → Option mm_M) (x5 : Int32) (M : mm_M) : Option mm_M :=
  if (M.1 0 49) ≤ x5 then (
    some M
  ) else (
    if ix_ok x5 7 then (
    if ix_ok x5 7 then (
    sq_ (mm_si M 34 x5.toNatClampNeg (M.1 33 x5.toNatClampNeg)) fun M33 =>
    sq_ (x5 + 1 : Int32) fun y34 =>
    q210 y34 M33
    ) else none ) else none
  )
def f_X12_stages_210l (rc : Int32 → Int32 → Int32 → mm_M → Option mm_M) : Nat → Int32 → mm_M → Option mm_M
  | 0, _, _ => none
  | n + 1, x5, M => f_X12_stages_210 rc (f_X12_stages_210l rc n) x5 M
def f_X12_stages_192 (rc : Int32 → Int32 → Int32 → mm_M → Option mm_M) (x4 : Int32) (M : mm_M) : Option mm_M :=
  if x4 ≤ (M.1 0 50) then (
    some M
  ) else (
    sq_ (mm_si M 0 50 x4) fun M15 =>
    f_X12_stages_210l rc fu_ (0 : Int32) M15
  )
def f_X12_stages_47 (rc : Int32 → Int32 → Int32 → mm_M → Option mm_M) (q47 : Int32 → Int32 → Int32 → Int32 → mm_M → Option mm_M) (x2 : Int32) (x3 : Int32) (x4 : Int32) (x5 : Int32) (M : mm_M) : Option mm_M :=
  if (M.1 0 28) ≤ x5 then (
    f_X12_stages_192 rc x4 M
  ) else (
    if ix_ok x5 17 then (
    (f_X12_stagedAt (M.1 19 x5.toNatClampNeg) M).bind fun z4 =>
    (f_X12_isOnStage x5 M).bind fun z5 =>
    if z5 = 0 then (
      f_X12_stages_93 rc q47 x2 x3 x4 x5 z4 ((-1) : Int32) M
    ) else (
      if ix_ok x5 17 then (
      (f_X12_stagedAt (M.1 20 x5.toNatClampNeg) M).bind fun z8 =>
      f_X12_stages_93 rc q47 x2 x3 x4 x5 z4 z8 M
      ) else none
    )
    ) else none
  )
def f_X12_stages_47l (rc : Int32 → Int32 → Int32 → mm_M → Option mm_M) : Nat → Int32 → Int32 → Int32 → Int32 → mm_M → Option mm_M
  | 0, _, _, _, _, _ => none
  | n + 1, x2, x3, x4, x5, M => f_X12_stages_47 rc (f_X12_stages_47l rc n) x2 x3 x4 x5 M
def f_X12_stages_0 (rc : Int32 → Int32 → Int32 → mm_M → Option mm_M) (x1 : Int32) (x2 : Int32) (x3 : Int32) (M : mm_M) : Option mm_M :=
  if (M.1 0 49) ≤ x1 then (
    f_X12_stages_47l rc fu_ x2 x3 (0 : Int32) (0 : Int32) M
  ) else (
    f_X12_stages_11l rc fu_ x1 x2 x3 (0 : Int32) M
  )
def f_X12_stages : Nat → Int32 → Int32 → Int32 → mm_M → Option mm_M
  | 0, _, _, _, _ => none
  | d + 1, x1, x2, x3, M => f_X12_stages_0 (f_X12_stages d) x1 x2 x3 M
def f_X12_stage_148 (q96 : Int32 → Int32 → Int32 → Int32 → Int32 → mm_M → Option (Int32 × mm_M)) (x1 : Int32) (x2 : Int32) (x6 : Int32) (x8 : Int32) (t0 : Int32) (M : mm_M) : Option (Int32 × mm_M) :=
  sq_ (x8 + 1 : Int32) fun y38 =>
  q96 x1 x2 x6 t0 y38 M
def f_X12_stage_143 (q96 : Int32 → Int32 → Int32 → Int32 → Int32 → mm_M → Option (Int32 × mm_M)) (x1 : Int32) (x2 : Int32) (x6 : Int32) (x8 : Int32) (M : mm_M) : Option (Int32 × mm_M) :=
  f_X12_stage_148 q96 x1 x2 x6 x8 (1 : Int32) M
def f_X12_stage_147 (q96 : Int32 → Int32 → Int32 → Int32 → Int32 → mm_M → Option (Int32 × mm_M)) (x1 : Int32) (x2 : Int32) (x6 : Int32) (x8 : Int32) (M : mm_M) : Option (Int32 × mm_M) :=
  f_X12_stage_148 q96 x1 x2 x6 x8 (0 : Int32) M
def f_X12_stage_182 (q72 : Int32 → Int32 → Int32 → mm_M → Option (Int32 × mm_M)) (x1 : Int32) (x2 : Int32) (x6 : Int32) (M : mm_M) : Option (Int32 × mm_M) :=
  sq_ (x6 + 1 : Int32) fun y37 =>
  q72 x1 x2 y37 M
def f_X12_stage_156 (q72 : Int32 → Int32 → Int32 → mm_M → Option (Int32 × mm_M)) (x1 : Int32) (x2 : Int32) (x6 : Int32) (x7 : Int32) (M : mm_M) : Option (Int32 × mm_M) :=
  if x7 = 0 then (
    f_X12_stage_182 q72 x1 x2 x6 M
  ) else (
    if ix_ok (M.1 0 49) 7 then (
    sq_ (mm_si M 32 (M.1 0 49).toNatClampNeg x6) fun M35 =>
    sq_ (mm_si M35 0 49 ((M35.1 0 49) + 1)) fun M36 =>
    f_X12_stage_182 q72 x1 x2 x6 M36
    ) else none
  )
def f_X12_stage_96 (q72 : Int32 → Int32 → Int32 → mm_M → Option (Int32 × mm_M)) (q96 : Int32 → Int32 → Int32 → Int32 → Int32 → mm_M → Option (Int32 × mm_M)) (x1 : Int32) (x2 : Int32) (x6 : Int32) (x7 : Int32) (x8 : Int32) (M : mm_M) : Option (Int32 × mm_M) :=
  if (M.1 0 28) ≤ x8 then (
    f_X12_stage_156 q72 x1 x2 x6 x7 M
  ) else (
    if x7 = 0 then (
      (f_X12_isOnStage x8 M).bind fun z21 =>
      if z21 = 0 then (
        f_X12_stage_147 q96 x1 x2 x6 x8 M
      ) else (
        if ix_ok x8 17 then (
        if (M.1 19 x8.toNatClampNeg) = x6 then (
          f_X12_stage_143 q96 x1 x2 x6 x8 M
        ) else (
          if ix_ok x8 17 then (
          if (M.1 20 x8.toNatClampNeg) = x6 then (
            f_X12_stage_143 q96 x1 x2 x6 x8 M
          ) else (
            f_X12_stage_147 q96 x1 x2 x6 x8 M
          )
          ) else none
        )
        ) else none
      )
    ) else (
      f_X12_stage_143 q96 x1 x2 x6 x8 M
    )
  )
def f_X12_stage_96l (q72 : Int32 → Int32 → Int32 → mm_M → Option (Int32 × mm_M)) : Nat → Int32 → Int32 → Int32 → Int32 → Int32 → mm_M → Option (Int32 × mm_M)
  | 0, _, _, _, _, _, _ => none
  | n + 1, x1, x2, x6, x7, x8, M => f_X12_stage_96 q72 (f_X12_stage_96l q72 n) x1 x2 x6 x7 x8 M
def f_X12_stage_247 (M : mm_M) : Option (Int32 × mm_M) :=
  some ((M.1 0 50), M)
def f_X12_stage_208 (q208 : Int32 → mm_M → Option (Int32 × mm_M)) (x6 : Int32) (M : mm_M) : Option (Int32 × mm_M) :=
  if (M.1 0 49) ≤ x6 then (
    f_X12_stage_247 M
  ) else (
    if ix_ok x6 7 then (
    (f_X12_enters ((M.1 32 x6.toNatClampNeg).toInt64) M).bind fun z29 =>
    if ix_ok x6 7 then (
    (f_X12_enters ((z29.1 34 x6.toNatClampNeg).toInt64) z29).bind fun z31 =>
    sq_ (x6 + 1 : Int32) fun y32 =>
    q208 y32 z31
    ) else none ) else none
  )
def f_X12_stage_208l : Nat → Int32 → mm_M → Option (Int32 × mm_M)
  | 0, _, _ => none
  | n + 1, x6, M => f_X12_stage_208 (f_X12_stage_208l n) x6 M
def f_X12_stage_188 (x1 : Int32) (x2 : Int32) (M : mm_M) : Option (Int32 × mm_M) :=
  sq_ (mm_si M 0 50 (-1)) fun M16 =>
  (f_X12_stages 9 (0 : Int32) x1 x2 M16).bind fun z17 =>
  sq_ (mm_si z17 0 1 0) fun M18 =>
  f_X12_stage_208l fu_ (0 : Int32) M18
def f_X12_stage_72 (q72 : Int32 → Int32 → Int32 → mm_M → Option (Int32 × mm_M)) (x1 : Int32) (x2 : Int32) (x6 : Int32) (M : mm_M) : Option (Int32 × mm_M) :=
  if (M.1 0 8) ≤ x6 then (
    f_X12_stage_188 x1 x2 M
  ) else (
    if 7 ≤ (M.1 0 49) then (
      f_X12_stage_188 x1 x2 M
    ) else (
      f_X12_stage_96l q72 fu_ x1 x2 x6 (0 : Int32) (0 : Int32) M
    )
  )
def f_X12_stage_72l : Nat → Int32 → Int32 → Int32 → mm_M → Option (Int32 × mm_M)
  | 0, _, _, _, _ => none
  | n + 1, x1, x2, x6, M => f_X12_stage_72 (f_X12_stage_72l n) x1 x2 x6 M
def f_X12_stage (x1 : Int32) (x2 : Int32) (x3 : Int32) (x4 : Int32) (x5 : Int32) (M : mm_M) : Option (Int32 × mm_M) :=
  sq_ (mm_si M 0 0 0) fun M1 =>
  (f_X12_isHistory x1 M1).bind fun z2 =>
  if z2 = 0 then (
    some (((-1) : Int32), M1)
  ) else (
    sq_ (f_X12_isThen x3 x2) fun z4 =>
    if z4 = 0 then (
      some (((-1) : Int32), M1)
    ) else (
      sq_ (f_X12_isThen x4 x2) fun z6 =>
      if z6 = 0 then (
        some (((-1) : Int32), M1)
      ) else (
        sq_ (f_X12_isThen x5 x2) fun z8 =>
        if z8 = 0 then (
          some (((-1) : Int32), M1)
        ) else (
          sq_ (mm_si M1 35 (0 : Int32).toNatClampNeg x3) fun M10 =>
          sq_ (mm_si M10 35 (1 : Int32).toNatClampNeg x4) fun M11 =>
          sq_ (mm_si M11 35 (2 : Int32).toNatClampNeg x5) fun M12 =>
          sq_ (mm_si M12 0 49 0) fun M13 =>
          f_X12_stage_72l fu_ x1 x2 (0 : Int32) M13
        )
      )
    )
  )
def f_X12_might (x1 : Int32) (x2 : Int32) (x3 : Int32) (x4 : Int32) (x5 : Int32) (x6 : Int32) (M : mm_M) : Option (Int32 × mm_M) :=
  sq_ (mm_si M 0 0 0) fun M1 =>
  sq_ (f_X12_isMark x1 x2 x3 x4 x5 x6 M1) fun z2 =>
  if z2 = 0 then (
    some (((-1) : Int32), M1)
  ) else (
    (f_X12_gathers M1).bind fun z4 =>
    (f_X12_lays (16 : Int32) x1 x2 x3 x4 x5 x6 z4).bind fun z5 =>
    (f_X12_heldBy (16 : Int32) z5).bind fun z6 =>
    sq_ (mm_si z6.2 0 1 0) fun M7 =>
    (f_X12_enters (z6.1.toInt64) M7).bind fun z8 =>
    (f_X12_enters (((z8.1 0 39) - z6.1).toInt64) z8).bind fun z9 =>
    some ((z9.1 0 39), z9)
  )
def f_X12_look_135 (q63 : Int32 → Int32 → Int32 → Int32 → Int32 → Int32 → Int32 → mm_M → Option (Int32 × mm_M)) (x1 : Int32) (x2 : Int32) (x3 : Int32) (x4 : Int32) (x5 : Int32) (x6 : Int32) (x7 : Int32) (M : mm_M) : Option (Int32 × mm_M) :=
  sq_ (x7 + 1 : Int32) fun y18 =>
  q63 x1 x2 x3 x4 x5 x6 y18 M
def f_X12_look_124 (q63 : Int32 → Int32 → Int32 → Int32 → Int32 → Int32 → Int32 → mm_M → Option (Int32 × mm_M)) (x1 : Int32) (x2 : Int32) (x6 : Int32) (x7 : Int32) (x8 : Int32) (M : mm_M) : Option (Int32 × mm_M) :=
  f_X12_look_135 q63 x1 x2 x8 x6 x7 x6 x7 M
def f_X12_look_141 (q48 : Int32 → Int32 → Int32 → Int32 → Int32 → Int32 → mm_M → Option (Int32 × mm_M)) (x1 : Int32) (x2 : Int32) (x3 : Int32) (x4 : Int32) (x5 : Int32) (x6 : Int32) (M : mm_M) : Option (Int32 × mm_M) :=
  sq_ (x6 + 1 : Int32) fun y17 =>
  q48 x1 x2 x3 x4 x5 y17 M
def f_X12_look_63 (q48 : Int32 → Int32 → Int32 → Int32 → Int32 → Int32 → mm_M → Option (Int32 × mm_M)) (q63 : Int32 → Int32 → Int32 → Int32 → Int32 → Int32 → Int32 → mm_M → Option (Int32 × mm_M)) (x1 : Int32) (x2 : Int32) (x3 : Int32) (x4 : Int32) (x5 : Int32) (x6 : Int32) (x7 : Int32) (M : mm_M) : Option (Int32 × mm_M) :=
  if (M.1 0 8) ≤ x7 then (
    f_X12_look_141 q48 x1 x2 x3 x4 x5 x6 M
  ) else (
    (f_X12_lays (16 : Int32) (0 : Int32) x6 x7 x1 x2 (0 : Int32) M).bind fun z13 =>
    (f_X12_heldBy (16 : Int32) z13).bind fun z14 =>
    if x3 < 0 then (
      f_X12_look_124 q63 x1 x2 x6 x7 z14.1 z14.2
    ) else (
      if (if 0 ≤ ((2 * x3) - (z14.2.1 0 39)) then ((2 * x3) - (z14.2.1 0 39)) else 0 - ((2 * x3) - (z14.2.1 0 39))) ≤ (if 0 ≤ ((2 * z14.1) - (z14.2.1 0 39)) then ((2 * z14.1) - (z14.2.1 0 39)) else 0 - ((2 * z14.1) - (z14.2.1 0 39))) then (
        f_X12_look_135 q63 x1 x2 x3 x4 x5 x6 x7 z14.2
      ) else (
        f_X12_look_124 q63 x1 x2 x6 x7 z14.1 z14.2
      )
    )
  )
def f_X12_look_63l (q48 : Int32 → Int32 → Int32 → Int32 → Int32 → Int32 → mm_M → Option (Int32 × mm_M)) : Nat → Int32 → Int32 → Int32 → Int32 → Int32 → Int32 → Int32 → mm_M → Option (Int32 × mm_M)
  | 0, _, _, _, _, _, _, _, _ => none
  | n + 1, x1, x2, x3, x4, x5, x6, x7, M => f_X12_look_63 q48 (f_X12_look_63l q48 n) x1 x2 x3 x4 x5 x6 x7 M
def f_X12_look_147 (x3 : Int32) (x4 : Int32) (x5 : Int32) (M : mm_M) : Option (Int32 × mm_M) :=
  sq_ (mm_si M 0 1 0) fun M9 =>
  (f_X12_enters (x4.toInt64) M9).bind fun z10 =>
  (f_X12_enters (x5.toInt64) z10).bind fun z11 =>
  some (x3, z11)
def f_X12_look_48 (q48 : Int32 → Int32 → Int32 → Int32 → Int32 → Int32 → mm_M → Option (Int32 × mm_M)) (x1 : Int32) (x2 : Int32) (x3 : Int32) (x4 : Int32) (x5 : Int32) (x6 : Int32) (M : mm_M) : Option (Int32 × mm_M) :=
  if (M.1 0 8) ≤ x6 then (
    f_X12_look_147 x3 x4 x5 M
  ) else (
    sq_ ((x6 + 1) : Int32) fun y8 =>
    f_X12_look_63l q48 fu_ x1 x2 x3 x4 x5 x6 y8 M
  )
def f_X12_look_48l : Nat → Int32 → Int32 → Int32 → Int32 → Int32 → Int32 → mm_M → Option (Int32 × mm_M)
  | 0, _, _, _, _, _, _, _ => none
  | n + 1, x1, x2, x3, x4, x5, x6, M => f_X12_look_48 (f_X12_look_48l n) x1 x2 x3 x4 x5 x6 M
def f_X12_look (x1 : Int32) (x2 : Int32) (M : mm_M) : Option (Int32 × mm_M) :=
  sq_ (mm_si M 0 0 0) fun M1 =>
  sq_ (f_X12_isThen x1 x2) fun z2 =>
  if z2 = 0 then (
    some (((-1) : Int32), M1)
  ) else (
    if 2 ≤ (M1.1 0 8) then (
      (f_X12_gathers M1).bind fun z5 =>
      if (z5.1 0 39) = 0 then (
        some (((-2) : Int32), z5)
      ) else (
        f_X12_look_48l fu_ x1 x2 ((-1) : Int32) (0 : Int32) (0 : Int32) (0 : Int32) z5
      )
    ) else (
      some (((-1) : Int32), M1)
    )
  )
def f_X12_isOneWay_24 (q24 : Int32 → Int32 → Int32 → Int64 → Int32 → mm_M → Option (Int32 × mm_M)) (x1 : Int32) (x2 : Int32) (x3 : Int32) (x4 : Int64) (x6 : Int32) (M : mm_M) : Option (Int32 × mm_M) :=
  if (M.1 0 39) ≤ x6 then (
    some ((1 : Int32), M)
  ) else (
    if ix_ok x6 600 then (
    (f_X12_says (0 : Int32) x1 (M.1 27 x6.toNatClampNeg) x2 x3 M).bind fun z5 =>
    (f_X12_packs (0 : Int32) z5).bind fun z6 =>
    if z6 = x4 then (
      sq_ (x6 + 1 : Int32) fun y8 =>
      q24 x1 x2 x3 x4 y8 z5
    ) else (
      some ((0 : Int32), z5)
    )
    ) else none
  )
def f_X12_isOneWay_24l : Nat → Int32 → Int32 → Int32 → Int64 → Int32 → mm_M → Option (Int32 × mm_M)
  | 0, _, _, _, _, _, _ => none
  | n + 1, x1, x2, x3, x4, x6, M => f_X12_isOneWay_24 (f_X12_isOneWay_24l n) x1 x2 x3 x4 x6 M
def f_X12_isOneWay (x1 : Int32) (x2 : Int32) (x3 : Int32) (M : mm_M) : Option (Int32 × mm_M) :=
  (f_X12_says (0 : Int32) x1 (M.1 27 (0 : Int32).toNatClampNeg) x2 x3 M).bind fun z1 =>
  (f_X12_packs (0 : Int32) z1).bind fun z2 =>
  f_X12_isOneWay_24l fu_ x1 x2 x3 z2 (1 : Int32) z1
theorem bz_X12_isOneWay_24 {z : (Int32 × mm_M)} {x1 : Int32} {x2 : Int32} {x3 : Int32} {x4 : Int64} {x6 : Int32} {M : mm_M} {q24 : Int32 → Int32 → Int32 → Int64 → Int32 → mm_M → Option (Int32 × mm_M)} (hq24 : ∀ (x1 : Int32) (x2 : Int32) (x3 : Int32) (x4 : Int64) (x6 : Int32) (M : mm_M), q24 x1 x2 x3 x4 x6 M = some z → z.1 = 0 ∨ z.1 = 1) (hf : f_X12_isOneWay_24 q24 x1 x2 x3 x4 x6 M = some z) : z.1 = 0 ∨ z.1 = 1 := by
  unfold f_X12_isOneWay_24 at hf
  by_cases c3 : (M.1 0 39) ≤ x6
  · rw [if_pos c3] at hf
    rw [← Option.some.inj hf]; exact (Or.inr rfl)
  · rw [if_neg c3] at hf
    obtain ⟨h4, hf⟩ := ck_e hf
    obtain ⟨z5, ez5, hf⟩ := bd_e hf
    obtain ⟨z6, ez6, hf⟩ := bd_e hf
    by_cases c7 : z6 = x4
    · rw [if_pos c7] at hf
      obtain ⟨y8, ey8, hf⟩ := sq_e hf
      exact hq24 _ _ _ _ _ _ hf
    · rw [if_neg c7] at hf
      rw [← Option.some.inj hf]; exact (Or.inl rfl)
theorem bz_X12_isOneWay_24l {z : (Int32 × mm_M)} : ∀ (n : Nat) (x1 : Int32) (x2 : Int32) (x3 : Int32) (x4 : Int64) (x6 : Int32) (M : mm_M), f_X12_isOneWay_24l n x1 x2 x3 x4 x6 M = some z → z.1 = 0 ∨ z.1 = 1 := by
  intro n
  induction n with
  | zero => intro x1 x2 x3 x4 x6 M hf; exact absurd hf (by simp [f_X12_isOneWay_24l])
  | succ n ih => intro x1 x2 x3 x4 x6 M hf; exact bz_X12_isOneWay_24 ih hf
theorem bz_X12_isOneWay {z : (Int32 × mm_M)} {x1 : Int32} {x2 : Int32} {x3 : Int32} {M : mm_M} (hf : f_X12_isOneWay x1 x2 x3 M = some z) : z.1 = 0 ∨ z.1 = 1 := by
  unfold f_X12_isOneWay at hf
  obtain ⟨z1, ez1, hf⟩ := bd_e hf
  obtain ⟨z2, ez2, hf⟩ := bd_e hf
  exact bz_X12_isOneWay_24l fu_ _ _ _ _ _ _ hf
def f_X12_settled_35 (q35 : Int32 → Int32 → Int32 → Int32 → mm_M → Option (Int32 × mm_M)) (x1 : Int32) (x2 : Int32) (x3 : Int32) (x4 : Int32) (M : mm_M) : Option (Int32 × mm_M) :=
  if x4 < 0 then (
    some (x3, M)
  ) else (
    if (M.1 0 39) ≤ 0 then (
      some (x3, M)
    ) else (
      (f_X12_isOneWay x1 x4 x2 M).bind fun z9 =>
      if z9.1 = 0 then (
        some (x3, z9.2)
      ) else (
        sq_ (x4 + (-10) : Int32) fun y11 =>
        q35 x1 x2 x4 y11 z9.2
      )
    )
  )
def f_X12_settled_35l : Nat → Int32 → Int32 → Int32 → Int32 → mm_M → Option (Int32 × mm_M)
  | 0, _, _, _, _, _ => none
  | n + 1, x1, x2, x3, x4, M => f_X12_settled_35 (f_X12_settled_35l n) x1 x2 x3 x4 M
def f_X12_settled (x1 : Int32) (x2 : Int32) (M : mm_M) : Option (Int32 × mm_M) :=
  sq_ (mm_si M 0 0 0) fun M1 =>
  sq_ (f_X12_isWord x1 M1) fun z2 =>
  if z2 = 0 then (
    some (((-1) : Int32), M1)
  ) else (
    sq_ (f_X12_isThen (0 : Int32) x2) fun z4 =>
    if z4 = 0 then (
      some (((-1) : Int32), M1)
    ) else (
      (f_X12_gathers M1).bind fun z6 =>
      f_X12_settled_35l fu_ x1 x2 ((-2) : Int32) (600 : Int32) z6
    )
  )
def f_X12_fell_81 (q44 : Int32 → Int32 → Int32 → Int32 → Int32 → Int32 → Int32 → mm_M → Option (Int32 × mm_M)) (x1 : Int32) (x2 : Int32) (x3 : Int32) (x4 : Int32) (x5 : Int32) (x7 : Int32) (t0 : Int32) (t1 : Int32) (M : mm_M) : Option (Int32 × mm_M) :=
  sq_ ((t0 ||| t1) : Int32) fun y18 =>
  sq_ (x7 + 1 : Int32) fun y19 =>
  q44 x1 x2 x3 x4 x5 y18 y19 M
def f_X12_fell_110 (q29 : Int32 → Int32 → Int32 → Int32 → Int32 → mm_M → Option (Int32 × mm_M)) (x1 : Int32) (x2 : Int32) (x3 : Int32) (x5 : Int32) (t0 : Int32) (M : mm_M) : Option (Int32 × mm_M) :=
  sq_ (x5 + 1 : Int32) fun y20 =>
  q29 x1 x2 x3 t0 y20 M
def f_X12_fell_90 (q29 : Int32 → Int32 → Int32 → Int32 → Int32 → mm_M → Option (Int32 × mm_M)) (x1 : Int32) (x2 : Int32) (x3 : Int32) (x4 : Int32) (x5 : Int32) (x6 : Int32) (M : mm_M) : Option (Int32 × mm_M) :=
  sq_ (f_J6_bitCount_0f7a4 x6) fun z15 =>
  sq_ (f_J6_bitCount_0f7a4 x4) fun z16 =>
  if z15 ≤ z16 then (
    f_X12_fell_110 q29 x1 x2 x3 x5 x4 M
  ) else (
    f_X12_fell_110 q29 x1 x2 x3 x5 x6 M
  )
def f_X12_fell_44 (q29 : Int32 → Int32 → Int32 → Int32 → Int32 → mm_M → Option (Int32 × mm_M)) (q44 : Int32 → Int32 → Int32 → Int32 → Int32 → Int32 → Int32 → mm_M → Option (Int32 × mm_M)) (x1 : Int32) (x2 : Int32) (x3 : Int32) (x4 : Int32) (x5 : Int32) (x6 : Int32) (x7 : Int32) (M : mm_M) : Option (Int32 × mm_M) :=
  if (M.1 0 8) ≤ x7 then (
    f_X12_fell_90 q29 x1 x2 x3 x4 x5 x6 M
  ) else (
    (f_X12_saysBoth x5 x7 x1 x2 x3 M).bind fun z11 =>
    (f_X12_areAlike z11).bind fun z12 =>
    if z12 = 0 then (
      f_X12_fell_81 q44 x1 x2 x3 x4 x5 x7 x6 (0 : Int32) z11
    ) else (
      f_X12_fell_81 q44 x1 x2 x3 x4 x5 x7 x6 ((1 : Int32) <<< (x7 &&& 31)) z11
    )
  )
def f_X12_fell_44l (q29 : Int32 → Int32 → Int32 → Int32 → Int32 → mm_M → Option (Int32 × mm_M)) : Nat → Int32 → Int32 → Int32 → Int32 → Int32 → Int32 → Int32 → mm_M → Option (Int32 × mm_M)
  | 0, _, _, _, _, _, _, _, _ => none
  | n + 1, x1, x2, x3, x4, x5, x6, x7, M => f_X12_fell_44 q29 (f_X12_fell_44l q29 n) x1 x2 x3 x4 x5 x6 x7 M
def f_X12_fell_137 (x4 : Int32) (M : mm_M) : Option (Int32 × mm_M) :=
  sq_ (f_J6_bitCount_0f7a4 x4) fun z14 =>
  some (z14, M)
def f_X12_fell_118 (x4 : Int32) (M : mm_M) : Option (Int32 × mm_M) :=
  if (M.1 0 8) ≤ 0 then (
    f_X12_fell_137 x4 M
  ) else (
    sq_ (mm_si M 0 1 0) fun M8 =>
    (f_X12_enters (x4.toInt64) M8).bind fun z9 =>
    f_X12_fell_137 x4 z9
  )
def f_X12_fell_29 (q29 : Int32 → Int32 → Int32 → Int32 → Int32 → mm_M → Option (Int32 × mm_M)) (x1 : Int32) (x2 : Int32) (x3 : Int32) (x4 : Int32) (x5 : Int32) (M : mm_M) : Option (Int32 × mm_M) :=
  if (M.1 0 8) ≤ x5 then (
    f_X12_fell_118 x4 M
  ) else (
    f_X12_fell_44l q29 fu_ x1 x2 x3 x4 x5 (0 : Int32) (0 : Int32) M
  )
def f_X12_fell_29l : Nat → Int32 → Int32 → Int32 → Int32 → Int32 → mm_M → Option (Int32 × mm_M)
  | 0, _, _, _, _, _, _ => none
  | n + 1, x1, x2, x3, x4, x5, M => f_X12_fell_29 (f_X12_fell_29l n) x1 x2 x3 x4 x5 M
def f_X12_fell (x1 : Int32) (x2 : Int32) (x3 : Int32) (M : mm_M) : Option (Int32 × mm_M) :=
  sq_ (mm_si M 0 0 0) fun M1 =>
  (f_X12_isHistory x1 M1).bind fun z2 =>
  if z2 = 0 then (
    some (((-1) : Int32), M1)
  ) else (
    sq_ (f_X12_isThen x2 x3) fun z4 =>
    if z4 = 0 then (
      some (((-1) : Int32), M1)
    ) else (
      f_X12_fell_29l fu_ x1 x2 x3 (0 : Int32) (0 : Int32) M1
    )
  )
def f_X12_town_125 (q71 : Int32 → Int32 → Int64 → Int32 → Int32 → Int32 → Int32 → Int32 → mm_M → Option (Int32 × mm_M)) (x1 : Int32) (x2 : Int32) (x5 : Int64) (x7 : Int32) (x8 : Int32) (x9 : Int32) (x11 : Int32) (t0 : Int32) (t1 : Int32) (M : mm_M) : Option (Int32 × mm_M) :=
  sq_ (f_X12_truth t1) fun z22 =>
  sq_ ((t0 + z22) : Int32) fun y23 =>
  q71 x1 x2 x5 x7 x8 x9 y23 x11 M
def f_X12_town_111 (q71 : Int32 → Int32 → Int64 → Int32 → Int32 → Int32 → Int32 → Int32 → mm_M → Option (Int32 × mm_M)) (x1 : Int32) (x2 : Int32) (x5 : Int64) (x7 : Int32) (x8 : Int32) (x9 : Int32) (x10 : Int32) (t0 : Int32) (M : mm_M) : Option (Int32 × mm_M) :=
  if t0 = 0 then (
    f_X12_town_125 q71 x1 x2 x5 x7 x8 x9 t0 x10 (1 : Int32) M
  ) else (
    f_X12_town_125 q71 x1 x2 x5 x7 x8 x9 t0 x10 (0 : Int32) M
  )
def f_X12_town_157 (q58 : Int32 → Int32 → Int64 → Int32 → Int32 → Int32 → mm_M → Option (Int32 × mm_M)) (x1 : Int32) (x2 : Int32) (x5 : Int64) (x7 : Int32) (x8 : Int32) (x9 : Int32) (M : mm_M) : Option (Int32 × mm_M) :=
  sq_ (x9 + 1 : Int32) fun y21 =>
  q58 x1 x2 x5 x7 x8 y21 M
def f_X12_town_134 (q58 : Int32 → Int32 → Int64 → Int32 → Int32 → Int32 → mm_M → Option (Int32 × mm_M)) (x1 : Int32) (x2 : Int32) (x5 : Int64) (x7 : Int32) (x8 : Int32) (x9 : Int32) (x10 : Int32) (x11 : Int32) (M : mm_M) : Option (Int32 × mm_M) :=
  if x11 = 0 then (
    some (((-2) : Int32), M)
  ) else (
    if x10 ≤ x7 then (
      f_X12_town_157 q58 x1 x2 x5 x7 x8 x9 M
    ) else (
      f_X12_town_157 q58 x1 x2 x5 x10 x9 x9 M
    )
  )
def f_X12_town_71 (q58 : Int32 → Int32 → Int64 → Int32 → Int32 → Int32 → mm_M → Option (Int32 × mm_M)) (q71 : Int32 → Int32 → Int64 → Int32 → Int32 → Int32 → Int32 → Int32 → mm_M → Option (Int32 × mm_M)) (x1 : Int32) (x2 : Int32) (x5 : Int64) (x7 : Int32) (x8 : Int32) (x9 : Int32) (x10 : Int32) (x11 : Int32) (M : mm_M) : Option (Int32 × mm_M) :=
  if 600 < x10 then (
    f_X12_town_134 q58 x1 x2 x5 x7 x8 x9 x10 x11 M
  ) else (
    if x11 = 0 then (
      (f_X12_says (0 : Int32) x1 x2 x10 x9 M).bind fun z15 =>
      (f_X12_packs (0 : Int32) z15).bind fun z16 =>
      if z16 = x5 then (
        f_X12_town_111 q71 x1 x2 x5 x7 x8 x9 x10 (1 : Int32) z15
      ) else (
        f_X12_town_111 q71 x1 x2 x5 x7 x8 x9 x10 (0 : Int32) z15
      )
    ) else (
      f_X12_town_134 q58 x1 x2 x5 x7 x8 x9 x10 x11 M
    )
  )
def f_X12_town_71l (q58 : Int32 → Int32 → Int64 → Int32 → Int32 → Int32 → mm_M → Option (Int32 × mm_M)) : Nat → Int32 → Int32 → Int64 → Int32 → Int32 → Int32 → Int32 → Int32 → mm_M → Option (Int32 × mm_M)
  | 0, _, _, _, _, _, _, _, _, _ => none
  | n + 1, x1, x2, x5, x7, x8, x9, x10, x11, M => f_X12_town_71 q58 (f_X12_town_71l q58 n) x1 x2 x5 x7 x8 x9 x10 x11 M
def f_X12_town_163 (x7 : Int32) (x8 : Int32) (M : mm_M) : Option (Int32 × mm_M) :=
  sq_ (mm_si M 0 1 0) fun M11 =>
  (f_X12_enters (x8.toInt64) M11).bind fun z12 =>
  some (x7, z12)
def f_X12_town_58 (q58 : Int32 → Int32 → Int64 → Int32 → Int32 → Int32 → mm_M → Option (Int32 × mm_M)) (x1 : Int32) (x2 : Int32) (x5 : Int64) (x7 : Int32) (x8 : Int32) (x9 : Int32) (M : mm_M) : Option (Int32 × mm_M) :=
  if 6 ≤ x9 then (
    f_X12_town_163 x7 x8 M
  ) else (
    f_X12_town_71l q58 fu_ x1 x2 x5 x7 x8 x9 (0 : Int32) (0 : Int32) M
  )
def f_X12_town_58l : Nat → Int32 → Int32 → Int64 → Int32 → Int32 → Int32 → mm_M → Option (Int32 × mm_M)
  | 0, _, _, _, _, _, _, _ => none
  | n + 1, x1, x2, x5, x7, x8, x9, M => f_X12_town_58 (f_X12_town_58l n) x1 x2 x5 x7 x8 x9 M
def f_X12_town (x1 : Int32) (x2 : Int32) (x3 : Int32) (x4 : Int32) (M : mm_M) : Option (Int32 × mm_M) :=
  sq_ (mm_si M 0 0 0) fun M1 =>
  sq_ (f_X12_isWord x1 M1) fun z2 =>
  if z2 = 0 then (
    some (((-1) : Int32), M1)
  ) else (
    (f_X12_isHistory x2 M1).bind fun z4 =>
    if z4 = 0 then (
      some (((-1) : Int32), M1)
    ) else (
      sq_ (f_X12_isThen x3 x4) fun z6 =>
      if z6 = 0 then (
        some (((-1) : Int32), M1)
      ) else (
        (f_X12_says (0 : Int32) x1 x2 x3 x4 M1).bind fun z8 =>
        (f_X12_packs (0 : Int32) z8).bind fun z9 =>
        f_X12_town_58l fu_ x1 x2 z9 ((-1) : Int32) (0 : Int32) (0 : Int32) z8
      )
    )
  )
def f_X12_hasCome (x1 : Int32) (x2 : Int32) (x3 : Int32) (x4 : Int32) (M : mm_M) : Option Int32 :=
  (f_X12_yearOf x1 x2 M).bind fun z1 =>
  if ix_ok x4 6 then (
  if x3 < (z1 + (M.1 13 x4.toNatClampNeg)) then (
    some (0 : Int32)
  ) else (
    some (1 : Int32)
  )
  ) else none
theorem bz_X12_hasCome {z : Int32} {x1 : Int32} {x2 : Int32} {x3 : Int32} {x4 : Int32} {M : mm_M} (hf : f_X12_hasCome x1 x2 x3 x4 M = some z) : z = 0 ∨ z = 1 := by
  unfold f_X12_hasCome at hf
  obtain ⟨z1, ez1, hf⟩ := bd_e hf
  obtain ⟨h2, hf⟩ := ck_e hf
  by_cases c3 : x3 < (z1 + (M.1 13 x4.toNatClampNeg))
  · rw [if_pos c3] at hf
    rw [← Option.some.inj hf]; exact (Or.inl rfl)
  · rw [if_neg c3] at hf
    rw [← Option.some.inj hf]; exact (Or.inr rfl)
def f_X12_swap_150 (q80 : Int32 → Int32 → Int32 → Int32 → Int32 → Int32 → Int32 → mm_M → Option (Int32 × mm_M)) (x1 : Int32) (x2 : Int32) (x3 : Int32) (x4 : Int32) (x5 : Int32) (x7 : Int32) (t0 : Int32) (t1 : Int32) (M : mm_M) : Option (Int32 × mm_M) :=
  sq_ ((t0 ||| t1) : Int32) fun y24 =>
  sq_ (x7 + 1 : Int32) fun y25 =>
  q80 x1 x2 x3 x4 x5 y24 y25 M
def f_X12_swap_80 (q80 : Int32 → Int32 → Int32 → Int32 → Int32 → Int32 → Int32 → mm_M → Option (Int32 × mm_M)) (x1 : Int32) (x2 : Int32) (x3 : Int32) (x4 : Int32) (x5 : Int32) (x6 : Int32) (x7 : Int32) (M : mm_M) : Option (Int32 × mm_M) :=
  if (M.1 0 8) ≤ x7 then (
    some (x6, M)
  ) else (
    (f_X12_says (0 : Int32) x7 x3 x4 x5 M).bind fun z16 =>
    sq_ (mm_si z16 0 26 x1) fun M17 =>
    sq_ (mm_si M17 0 27 x2) fun M18 =>
    (f_X12_says (1 : Int32) x7 x3 x4 x5 M18).bind fun z19 =>
    sq_ (mm_si z19 0 26 (-1)) fun M20 =>
    sq_ (mm_si M20 0 27 (-1)) fun M21 =>
    (f_X12_areAlike M21).bind fun z22 =>
    if z22 = 0 then (
      f_X12_swap_150 q80 x1 x2 x3 x4 x5 x7 x6 ((1 : Int32) <<< (x7 &&& 31)) M21
    ) else (
      f_X12_swap_150 q80 x1 x2 x3 x4 x5 x7 x6 (0 : Int32) M21
    )
  )
def f_X12_swap_80l : Nat → Int32 → Int32 → Int32 → Int32 → Int32 → Int32 → Int32 → mm_M → Option (Int32 × mm_M)
  | 0, _, _, _, _, _, _, _, _ => none
  | n + 1, x1, x2, x3, x4, x5, x6, x7, M => f_X12_swap_80 (f_X12_swap_80l n) x1 x2 x3 x4 x5 x6 x7 M
def f_X12_swap (x1 : Int32) (x2 : Int32) (x3 : Int32) (x4 : Int32) (x5 : Int32) (M : mm_M) : Option (Int32 × mm_M) :=
  sq_ (mm_si M 0 0 0) fun M1 =>
  sq_ (f_X12_isLaw x1 M1) fun z2 =>
  if z2 = 0 then (
    some (((-1) : Int32), M1)
  ) else (
    sq_ (f_X12_isLaw x2 M1) fun z4 =>
    if z4 = 0 then (
      some (((-1) : Int32), M1)
    ) else (
      if x1 = x2 then (
        some (((-1) : Int32), M1)
      ) else (
        (f_X12_isHistory x3 M1).bind fun z7 =>
        if z7 = 0 then (
          some (((-1) : Int32), M1)
        ) else (
          sq_ (f_X12_isThen x4 x5) fun z9 =>
          if z9 = 0 then (
            some (((-1) : Int32), M1)
          ) else (
            (f_X12_hasCome x1 x3 x4 x5 M1).bind fun z11 =>
            if z11 = 0 then (
              some (((-1) : Int32), M1)
            ) else (
              (f_X12_hasCome x2 x3 x4 x5 M1).bind fun z13 =>
              if z13 = 0 then (
                some (((-1) : Int32), M1)
              ) else (
                f_X12_swap_80l fu_ x1 x2 x3 x4 x5 (0 : Int32) (0 : Int32) M1
              )
            )
          )
        )
      )
    )
  )
def f_X12_keep_103 (q103 : Int32 → Int32 → mm_M → Option (Int32 × mm_M)) (x1 : Int32) (x2 : Int32) (M : mm_M) : Option (Int32 × mm_M) :=
  if 6 ≤ x2 then (
    some ((1 : Int32), M)
  ) else (
    if ix_ok x2 6 then (
    if ix_ok ((6 * x1) + x2) 18 then (
    sq_ (mm_si M 41 ((6 * x1) + x2).toNatClampNeg (M.1 13 x2.toNatClampNeg)) fun M22 =>
    if ix_ok x2 6 then (
    if ix_ok ((6 * x1) + x2) 18 then (
    sq_ (mm_si M22 42 ((6 * x1) + x2).toNatClampNeg (M22.1 3 x2.toNatClampNeg)) fun M25 =>
    sq_ (x2 + 1 : Int32) fun y26 =>
    q103 x1 y26 M25
    ) else none ) else none ) else none ) else none
  )
def f_X12_keep_103l : Nat → Int32 → Int32 → mm_M → Option (Int32 × mm_M)
  | 0, _, _, _ => none
  | n + 1, x1, x2, M => f_X12_keep_103 (f_X12_keep_103l n) x1 x2 M
def f_X12_keep_101 (x1 : Int32) (M : mm_M) : Option (Int32 × mm_M) :=
  f_X12_keep_103l fu_ x1 (0 : Int32) M
def f_X12_keep_38 (q38 : Int32 → Int32 → mm_M → Option (Int32 × mm_M)) (x1 : Int32) (x2 : Int32) (M : mm_M) : Option (Int32 × mm_M) :=
  if 16 ≤ x2 then (
    f_X12_keep_101 x1 M
  ) else (
    if ix_ok x2 17 then (
    if ix_ok ((16 * x1) + x2) 48 then (
    sq_ (mm_si M 38 ((16 * x1) + x2).toNatClampNeg (vp_nar .boolean (M.1 26 x2.toNatClampNeg))) fun M11 =>
    if ix_ok x2 17 then (
    if ix_ok ((16 * x1) + x2) 48 then (
    sq_ (mm_si M11 39 ((16 * x1) + x2).toNatClampNeg (M11.1 24 x2.toNatClampNeg)) fun M14 =>
    if ix_ok x2 17 then (
    if ix_ok ((16 * x1) + x2) 48 then (
    sq_ (mm_si M14 40 ((16 * x1) + x2).toNatClampNeg (M14.1 25 x2.toNatClampNeg)) fun M17 =>
    sq_ (x2 + 1 : Int32) fun y18 =>
    q38 x1 y18 M17
    ) else none ) else none ) else none ) else none ) else none ) else none
  )
def f_X12_keep_38l : Nat → Int32 → Int32 → mm_M → Option (Int32 × mm_M)
  | 0, _, _, _ => none
  | n + 1, x1, x2, M => f_X12_keep_38 (f_X12_keep_38l n) x1 x2 M
def f_X12_keep (x1 : Int32) (M : mm_M) : Option (Int32 × mm_M) :=
  sq_ (mm_si M 0 0 0) fun M1 =>
  sq_ (f_X12_in (x1.toInt64) (0 : Int64) (2 : Int64)) fun z2 =>
  if z2 = 0 then (
    some ((0 : Int32), M1)
  ) else (
    if ix_ok x1 3 then (
    sq_ (mm_si M1 36 x1.toNatClampNeg (vp_nar .boolean 1)) fun M5 =>
    if ix_ok x1 3 then (
    sq_ (mm_si M5 37 x1.toNatClampNeg (M5.1 0 28)) fun M7 =>
    f_X12_keep_38l fu_ x1 (0 : Int32) M7
    ) else none ) else none
  )
theorem bz_X12_keep_103 {z : (Int32 × mm_M)} {x1 : Int32} {x2 : Int32} {M : mm_M} {q103 : Int32 → Int32 → mm_M → Option (Int32 × mm_M)} (hq103 : ∀ (x1 : Int32) (x2 : Int32) (M : mm_M), q103 x1 x2 M = some z → z.1 = 0 ∨ z.1 = 1) (hf : f_X12_keep_103 q103 x1 x2 M = some z) : z.1 = 0 ∨ z.1 = 1 := by
  unfold f_X12_keep_103 at hf
  by_cases c19 : 6 ≤ x2
  · rw [if_pos c19] at hf
    rw [← Option.some.inj hf]; exact (Or.inr rfl)
  · rw [if_neg c19] at hf
    obtain ⟨h20, hf⟩ := ck_e hf
    obtain ⟨h21, hf⟩ := ck_e hf
    obtain ⟨M22, eM22, hf⟩ := sq_e hf
    obtain ⟨h23, hf⟩ := ck_e hf
    obtain ⟨h24, hf⟩ := ck_e hf
    obtain ⟨M25, eM25, hf⟩ := sq_e hf
    obtain ⟨y26, ey26, hf⟩ := sq_e hf
    exact hq103 _ _ _ hf
theorem bz_X12_keep_103l {z : (Int32 × mm_M)} : ∀ (n : Nat) (x1 : Int32) (x2 : Int32) (M : mm_M), f_X12_keep_103l n x1 x2 M = some z → z.1 = 0 ∨ z.1 = 1 := by
  intro n
  induction n with
  | zero => intro x1 x2 M hf; exact absurd hf (by simp [f_X12_keep_103l])
  | succ n ih => intro x1 x2 M hf; exact bz_X12_keep_103 ih hf
theorem bz_X12_keep_101 {z : (Int32 × mm_M)} {x1 : Int32} {M : mm_M} (hf : f_X12_keep_101 x1 M = some z) : z.1 = 0 ∨ z.1 = 1 := by
  unfold f_X12_keep_101 at hf
  exact bz_X12_keep_103l fu_ _ _ _ hf
theorem bz_X12_keep_38 {z : (Int32 × mm_M)} {x1 : Int32} {x2 : Int32} {M : mm_M} {q38 : Int32 → Int32 → mm_M → Option (Int32 × mm_M)} (hq38 : ∀ (x1 : Int32) (x2 : Int32) (M : mm_M), q38 x1 x2 M = some z → z.1 = 0 ∨ z.1 = 1) (hf : f_X12_keep_38 q38 x1 x2 M = some z) : z.1 = 0 ∨ z.1 = 1 := by
  unfold f_X12_keep_38 at hf
  by_cases c8 : 16 ≤ x2
  · rw [if_pos c8] at hf
    exact bz_X12_keep_101 hf
  · rw [if_neg c8] at hf
    obtain ⟨h9, hf⟩ := ck_e hf
    obtain ⟨h10, hf⟩ := ck_e hf
    obtain ⟨M11, eM11, hf⟩ := sq_e hf
    obtain ⟨h12, hf⟩ := ck_e hf
    obtain ⟨h13, hf⟩ := ck_e hf
    obtain ⟨M14, eM14, hf⟩ := sq_e hf
    obtain ⟨h15, hf⟩ := ck_e hf
    obtain ⟨h16, hf⟩ := ck_e hf
    obtain ⟨M17, eM17, hf⟩ := sq_e hf
    obtain ⟨y18, ey18, hf⟩ := sq_e hf
    exact hq38 _ _ _ hf
theorem bz_X12_keep_38l {z : (Int32 × mm_M)} : ∀ (n : Nat) (x1 : Int32) (x2 : Int32) (M : mm_M), f_X12_keep_38l n x1 x2 M = some z → z.1 = 0 ∨ z.1 = 1 := by
  intro n
  induction n with
  | zero => intro x1 x2 M hf; exact absurd hf (by simp [f_X12_keep_38l])
  | succ n ih => intro x1 x2 M hf; exact bz_X12_keep_38 ih hf
theorem bz_X12_keep {z : (Int32 × mm_M)} {x1 : Int32} {M : mm_M} (hf : f_X12_keep x1 M = some z) : z.1 = 0 ∨ z.1 = 1 := by
  unfold f_X12_keep at hf
  obtain ⟨M1, eM1, hf⟩ := sq_e hf
  obtain ⟨z2, ez2, hf⟩ := sq_e hf
  by_cases c3 : z2 = 0
  · rw [if_pos c3] at hf
    rw [← Option.some.inj hf]; exact (Or.inl rfl)
  · rw [if_neg c3] at hf
    obtain ⟨h4, hf⟩ := ck_e hf
    obtain ⟨M5, eM5, hf⟩ := sq_e hf
    obtain ⟨h6, hf⟩ := ck_e hf
    obtain ⟨M7, eM7, hf⟩ := sq_e hf
    exact bz_X12_keep_38l fu_ _ _ _ hf
def f_X12_again_99 (q99 : Int32 → Int32 → mm_M → Option (Int32 × mm_M)) (x1 : Int32) (x2 : Int32) (M : mm_M) : Option (Int32 × mm_M) :=
  if 6 ≤ x2 then (
    some ((1 : Int32), M)
  ) else (
    if ix_ok ((6 * x1) + x2) 18 then (
    if ix_ok x2 6 then (
    sq_ (mm_si M 13 x2.toNatClampNeg (M.1 41 ((6 * x1) + x2).toNatClampNeg)) fun M21 =>
    if ix_ok ((6 * x1) + x2) 18 then (
    if ix_ok x2 6 then (
    sq_ (mm_si M21 3 x2.toNatClampNeg (M21.1 42 ((6 * x1) + x2).toNatClampNeg)) fun M24 =>
    sq_ (x2 + 1 : Int32) fun y25 =>
    q99 x1 y25 M24
    ) else none ) else none ) else none ) else none
  )
def f_X12_again_99l : Nat → Int32 → Int32 → mm_M → Option (Int32 × mm_M)
  | 0, _, _, _ => none
  | n + 1, x1, x2, M => f_X12_again_99 (f_X12_again_99l n) x1 x2 M
def f_X12_again_97 (x1 : Int32) (M : mm_M) : Option (Int32 × mm_M) :=
  f_X12_again_99l fu_ x1 (0 : Int32) M
def f_X12_again_30 (q30 : Int32 → Int32 → mm_M → Option (Int32 × mm_M)) (x1 : Int32) (x2 : Int32) (M : mm_M) : Option (Int32 × mm_M) :=
  if ix_ok x1 3 then (
  if (M.1 37 x1.toNatClampNeg) ≤ x2 then (
    f_X12_again_97 x1 M
  ) else (
    if ix_ok ((16 * x1) + x2) 48 then (
    if ix_ok x2 17 then (
    sq_ (mm_si M 26 x2.toNatClampNeg (vp_nar .boolean (M.1 38 ((16 * x1) + x2).toNatClampNeg))) fun M10 =>
    if ix_ok ((16 * x1) + x2) 48 then (
    if ix_ok x2 17 then (
    sq_ (mm_si M10 24 x2.toNatClampNeg (M10.1 39 ((16 * x1) + x2).toNatClampNeg)) fun M13 =>
    if ix_ok ((16 * x1) + x2) 48 then (
    if ix_ok x2 17 then (
    sq_ (mm_si M13 25 x2.toNatClampNeg (M13.1 40 ((16 * x1) + x2).toNatClampNeg)) fun M16 =>
    sq_ (x2 + 1 : Int32) fun y17 =>
    q30 x1 y17 M16
    ) else none ) else none ) else none ) else none ) else none ) else none
  )
  ) else none
def f_X12_again_30l : Nat → Int32 → Int32 → mm_M → Option (Int32 × mm_M)
  | 0, _, _, _ => none
  | n + 1, x1, x2, M => f_X12_again_30 (f_X12_again_30l n) x1 x2 M
def f_X12_again (x1 : Int32) (M : mm_M) : Option (Int32 × mm_M) :=
  sq_ (mm_si M 0 0 0) fun M1 =>
  sq_ (f_X12_in (x1.toInt64) (0 : Int64) (2 : Int64)) fun z2 =>
  if z2 = 0 then (
    some ((0 : Int32), M1)
  ) else (
    if ix_ok x1 3 then (
    if (M1.1 36 x1.toNatClampNeg) = 0 then (
      some ((0 : Int32), M1)
    ) else (
      f_X12_again_30l fu_ x1 (0 : Int32) M1
    )
    ) else none
  )
theorem bz_X12_again_99 {z : (Int32 × mm_M)} {x1 : Int32} {x2 : Int32} {M : mm_M} {q99 : Int32 → Int32 → mm_M → Option (Int32 × mm_M)} (hq99 : ∀ (x1 : Int32) (x2 : Int32) (M : mm_M), q99 x1 x2 M = some z → z.1 = 0 ∨ z.1 = 1) (hf : f_X12_again_99 q99 x1 x2 M = some z) : z.1 = 0 ∨ z.1 = 1 := by
  unfold f_X12_again_99 at hf
  by_cases c18 : 6 ≤ x2
  · rw [if_pos c18] at hf
    rw [← Option.some.inj hf]; exact (Or.inr rfl)
  · rw [if_neg c18] at hf
    obtain ⟨h19, hf⟩ := ck_e hf
    obtain ⟨h20, hf⟩ := ck_e hf
    obtain ⟨M21, eM21, hf⟩ := sq_e hf
    obtain ⟨h22, hf⟩ := ck_e hf
    obtain ⟨h23, hf⟩ := ck_e hf
    obtain ⟨M24, eM24, hf⟩ := sq_e hf
    obtain ⟨y25, ey25, hf⟩ := sq_e hf
    exact hq99 _ _ _ hf
theorem bz_X12_again_99l {z : (Int32 × mm_M)} : ∀ (n : Nat) (x1 : Int32) (x2 : Int32) (M : mm_M), f_X12_again_99l n x1 x2 M = some z → z.1 = 0 ∨ z.1 = 1 := by
  intro n
  induction n with
  | zero => intro x1 x2 M hf; exact absurd hf (by simp [f_X12_again_99l])
  | succ n ih => intro x1 x2 M hf; exact bz_X12_again_99 ih hf
theorem bz_X12_again_97 {z : (Int32 × mm_M)} {x1 : Int32} {M : mm_M} (hf : f_X12_again_97 x1 M = some z) : z.1 = 0 ∨ z.1 = 1 := by
  unfold f_X12_again_97 at hf
  exact bz_X12_again_99l fu_ _ _ _ hf
theorem bz_X12_again_30 {z : (Int32 × mm_M)} {x1 : Int32} {x2 : Int32} {M : mm_M} {q30 : Int32 → Int32 → mm_M → Option (Int32 × mm_M)} (hq30 : ∀ (x1 : Int32) (x2 : Int32) (M : mm_M), q30 x1 x2 M = some z → z.1 = 0 ∨ z.1 = 1) (hf : f_X12_again_30 q30 x1 x2 M = some z) : z.1 = 0 ∨ z.1 = 1 := by
  unfold f_X12_again_30 at hf
  obtain ⟨h6, hf⟩ := ck_e hf
  by_cases c7 : (M.1 37 x1.toNatClampNeg) ≤ x2
  · rw [if_pos c7] at hf
    exact bz_X12_again_97 hf
  · rw [if_neg c7] at hf
    obtain ⟨h8, hf⟩ := ck_e hf
    obtain ⟨h9, hf⟩ := ck_e hf
    obtain ⟨M10, eM10, hf⟩ := sq_e hf
    obtain ⟨h11, hf⟩ := ck_e hf
    obtain ⟨h12, hf⟩ := ck_e hf
    obtain ⟨M13, eM13, hf⟩ := sq_e hf
    obtain ⟨h14, hf⟩ := ck_e hf
    obtain ⟨h15, hf⟩ := ck_e hf
    obtain ⟨M16, eM16, hf⟩ := sq_e hf
    obtain ⟨y17, ey17, hf⟩ := sq_e hf
    exact hq30 _ _ _ hf
theorem bz_X12_again_30l {z : (Int32 × mm_M)} : ∀ (n : Nat) (x1 : Int32) (x2 : Int32) (M : mm_M), f_X12_again_30l n x1 x2 M = some z → z.1 = 0 ∨ z.1 = 1 := by
  intro n
  induction n with
  | zero => intro x1 x2 M hf; exact absurd hf (by simp [f_X12_again_30l])
  | succ n ih => intro x1 x2 M hf; exact bz_X12_again_30 ih hf
theorem bz_X12_again {z : (Int32 × mm_M)} {x1 : Int32} {M : mm_M} (hf : f_X12_again x1 M = some z) : z.1 = 0 ∨ z.1 = 1 := by
  unfold f_X12_again at hf
  obtain ⟨M1, eM1, hf⟩ := sq_e hf
  obtain ⟨z2, ez2, hf⟩ := sq_e hf
  by_cases c3 : z2 = 0
  · rw [if_pos c3] at hf
    rw [← Option.some.inj hf]; exact (Or.inl rfl)
  · rw [if_neg c3] at hf
    obtain ⟨h4, hf⟩ := ck_e hf
    by_cases c5 : (M1.1 36 x1.toNatClampNeg) = 0
    · rw [if_pos c5] at hf
      rw [← Option.some.inj hf]; exact (Or.inl rfl)
    · rw [if_neg c5] at hf
      exact bz_X12_again_30l fu_ _ _ _ hf
def f_X12_onBits_29 (q4 : Int32 → Int32 → Option Int32) (x2 : Int32) (t0 : Int32) (t1 : Int32) (M : mm_M) : Option Int32 :=
  sq_ ((t0 ||| t1) : Int32) fun y4 =>
  sq_ (x2 + 1 : Int32) fun y5 =>
  q4 y4 y5
def f_X12_onBits_4 (q4 : Int32 → Int32 → Option Int32) (x1 : Int32) (x2 : Int32) (M : mm_M) : Option Int32 :=
  if (M.1 0 28) ≤ x2 then (
    some x1
  ) else (
    if ix_ok x2 17 then (
    if (M.1 26 x2.toNatClampNeg) = 0 then (
      f_X12_onBits_29 q4 x2 x1 (0 : Int32) M
    ) else (
      f_X12_onBits_29 q4 x2 x1 ((1 : Int32) <<< (x2 &&& 31)) M
    )
    ) else none
  )
def f_X12_onBits_4l (M : mm_M) : Nat → Int32 → Int32 → Option Int32
  | 0, _, _ => none
  | n + 1, x1, x2 => f_X12_onBits_4 (f_X12_onBits_4l M n) x1 x2 M
def f_X12_onBits (M : mm_M) : Option Int32 :=
  f_X12_onBits_4l M fu_ (0 : Int32) (0 : Int32)
def f_X12_count (x1 : Int32) (M : mm_M) : Option (Int32 × mm_M) :=
  sq_ (mm_si M 0 0 0) fun M1 =>
  if x1 = 0 then (
    some ((M1.1 0 8), M1)
  ) else
  if x1 = 1 then (
    some ((M1.1 0 11), M1)
  ) else
  if x1 = 2 then (
    (f_X12_histories M1).bind fun z2 =>
    some (z2, M1)
  ) else
  if x1 = 3 then (
    some ((M1.1 0 28), M1)
  ) else
  if x1 = 4 then (
    (f_X12_onBits M1).bind fun z3 =>
    some (z3, M1)
  ) else
  if x1 = 5 then (
    some ((M1.1 0 1), M1)
  ) else
  if x1 = 6 then (
    some ((M1.1 0 4), M1)
  ) else
  (
    some (((-1) : Int32), M1)
  )
def f_X12_year (x1 : Int32) (x2 : Int32) (M : mm_M) : Option (Int32 × mm_M) :=
  sq_ (mm_si M 0 0 0) fun M1 =>
  sq_ (f_X12_isLaw x1 M1) fun z2 =>
  if z2 = 0 then (
    some (((-1) : Int32), M1)
  ) else (
    (f_X12_isHistory x2 M1).bind fun z4 =>
    if z4 = 0 then (
      some (((-1) : Int32), M1)
    ) else (
      (f_X12_yearOf x1 x2 M1).bind fun z6 =>
      some (z6, M1)
    )
  )
def f_X12_row (x1 : Int32) (M : mm_M) : Option (Int64 × mm_M) :=
  sq_ (mm_si M 0 0 0) fun M1 =>
  sq_ (f_X12_in (x1.toInt64) (0 : Int64) (((M1.1 0 1) - 1).toInt64)) fun z2 =>
  if z2 = 0 then (
    sq_ (mm_si M1 0 0 1) fun M5 =>
    some ((0 : Int64), M5)
  ) else (
    if ix_ok x1 64 then (
    some ((M1.2.1 1 x1.toNatClampNeg), M1)
    ) else none
  )
