/-! CALLS: law, the end -/
section WS1
variable {S : sg_} {M M0 Mc Mr Z : mm_M} {vs : List Nat} {nv : Nat → Bool}
/-- the years of a law are good -/
theorem in_x (x y : Int32) : f_X12_in x.toInt64 y.toInt64 (400 : Int64) = bi_ (decide (y.toInt ≤ x.toInt ∧ x.toInt ≤ 400)) := by
  have h2 : (400 : Int64).toInt = 400 := by decide
  unfold f_X12_in
  simp only [Int64.lt_iff_toInt_lt, in_64, h2]
  by_cases c1 : x.toInt < y.toInt
  · rw [if_pos c1, decide_eq_false (by omega)]; rfl
  · rw [if_neg c1]
    by_cases c2 : 400 < x.toInt
    · rw [if_pos c2, decide_eq_false (by omega)]; rfl
    · rw [if_neg c2, decide_eq_true (by omega)]; rfl
theorem in_0 (x : Int32) : f_X12_in x.toInt64 (0 : Int64) (400 : Int64) = bi_ (decide (0 ≤ x.toInt ∧ x.toInt ≤ 400)) := by
  have := in_x x 0
  have h0 : (0 : Int32).toInt64 = (0 : Int64) := by decide
  have h1 : Int32.toInt 0 = 0 := by decide
  rw [h0, h1] at this
  exact this
abbrev lyg_ (x1 x2 x3 : Int32) : Prop := 0 ≤ x1.toInt ∧ x1.toInt ≤ x2.toInt ∧ x2.toInt ≤ 400 ∧ 1 ≤ x3.toInt
theorem lyg_nat {x1 x2 x3 : Int32} (h : lyg_ x1 x2 x3) : ∃ f la by', x1 = Int32.ofNat f ∧ x2 = Int32.ofNat la ∧ x3 = Int32.ofNat by' ∧ f ≤ la ∧ la ≤ 400 ∧ 1 ≤ by' ∧ by' < 2147483648 := by
  obtain ⟨h1, h2, h3, h4⟩ := h
  have t3 := Int32.toInt_lt x3
  obtain ⟨f, rfl, f1, f2⟩ := in_nat (x := x1) (a := 0) (b := 400) (by omega) ⟨h1, by omega⟩
  obtain ⟨la, rfl, l1, l2⟩ := in_nat (x := x2) (a := 0) (b := 400) (by omega) ⟨by omega, h3⟩
  obtain ⟨by', rfl, b1, b2⟩ := in_nat (x := x3) (a := 1) (b := 2147483647) (by omega) ⟨h4, by omega⟩
  rw [n3_ti (by omega), n3_ti (by omega)] at h2
  exact ⟨f, la, by', rfl, rfl, rfl, by omega, by omega, b1, by omega⟩
theorem c_years (x1 x2 x3 : Int32) : f_X11_yearsOfLaw x1 x2 x3 = some (if lyg_ x1 x2 x3 then (x2 - x1) / x3 + 1 else 0) := by
  have z0 : Int32.toInt 0 = 0 := by decide
  have z4 : Int32.toInt 400 = 400 := by decide
  have z1 : Int32.toInt 1 = 1 := by decide
  unfold f_X11_yearsOfLaw lyg_
  by_cases c1 : x1.toInt < 0
  · rw [if_pos (by rw [i3_lt, z0]; exact c1), if_neg (by omega)]
  · rw [if_neg (by rw [i3_lt, z0]; exact c1)]
    by_cases c2 : 400 < x2.toInt
    · rw [if_pos (by rw [i3_lt, z4]; exact c2), if_neg (by omega)]
    · rw [if_neg (by rw [i3_lt, z4]; exact c2)]
      by_cases c3 : x2.toInt < x1.toInt
      · rw [if_pos (by rw [i3_lt]; exact c3), if_neg (by omega)]
      · rw [if_neg (by rw [i3_lt]; exact c3)]
        by_cases c4 : 1 ≤ x3.toInt
        · rw [if_pos (by rw [i3_le, z1]; exact c4), if_pos (show ¬ (x3 = 0) from fun hh => by rw [hh, z0] at c4; omega), if_pos (by omega)]
        · rw [if_neg (by rw [i3_le, z1]; exact c4), if_neg (by omega)]
theorem m_law (hrl0 : rl_ Mc Mr) (x1 x2 x3 : Int32) : bo_ (f_X11_law x1 x2 x3 Mc) (f_X12_law x1 x2 x3 Mr) := by
  obtain ⟨S, vs, hw, hv, hc, hr⟩ := hrl0
  have hr1 := hr.th
  have h40 := hw.tp
  have h6 := hw.laws
  have h600 := hw.hist
  have hs1 := hs_pos hw
  have h16 := hw.signs
  have z1 : Int32.toInt 1 = 1 := by decide
  unfold f_X11_law f_X12_law
  rw [sq_n (x := mm_si Mr 0 0 0), sq_n (x := (mm_si Mr 0 0 0).1 0 4), hr1.1.1.tp, sq_n (x := mm_si (mm_si Mr 0 0 0) 0 4 0), sq_n (x := mm_si (mm_si (mm_si Mr 0 0 0) 0 4 0) 0 5 0)]
  have ei : (if (20 : Int32) < Int32.ofNat (S 0 4) then (20 : Int32) else Int32.ofNat (S 0 4)) = Int32.ofNat (if 20 < S 0 4 then 20 else S 0 4) := by
    have := n3_lt (a := 20) (b := S 0 4) (by omega) (by omega)
    by_cases c : 20 < S 0 4
    · rw [if_pos (show (20 : Int32) < Int32.ofNat (S 0 4) from this.mpr c), if_pos c]; rfl
    · rw [if_neg (show ¬ ((20 : Int32) < Int32.ofNat (S 0 4)) from fun hh => c (this.mp hh)), if_neg c]
  have hmm : (if 20 < S 0 4 then 20 else S 0 4) ≤ S 0 4 ∧ ((if 20 < S 0 4 then 20 else S 0 4) = S 0 4 ∨ (if 20 < S 0 4 then 20 else S 0 4) = 20) := by split <;> omega
  have hmm2 : S 0 4 ≤ 20 → (if 20 < S 0 4 then 20 else S 0 4) = S 0 4 := fun h => by rw [if_neg (by omega)]
  have hmm3 : 20 < S 0 4 → (if 20 < S 0 4 then 20 else S 0 4) = 20 := fun h => by rw [if_pos h]
  rw [ei]
  generalize (if 20 < S 0 4 then 20 else S 0 4) = mm at hmm hmm2 hmm3
  rw [sq_n (x := mm_si (mm_si (mm_si (mm_si Mr 0 0 0) 0 4 0) 0 5 0) 0 6 (Int32.ofNat mm))]
  have hf0 : ∀ a b, ¬ (a = 0 ∧ (b = 4 ∨ b = 5 ∨ b = 6)) → (mm_si (mm_si (mm_si (mm_si Mr 0 0 0) 0 4 0) 0 5 0) 0 6 (Int32.ofNat mm)).1 a b = (mm_si Mr 0 0 0).1 a b := fun a b h => by
    rw [si_1, if_neg (by omega), si_1, if_neg (by omega), si_1, if_neg (by omega)]
  have g4 : (mm_si (mm_si (mm_si (mm_si Mr 0 0 0) 0 4 0) 0 5 0) 0 6 (Int32.ofNat mm)).1 0 4 = Int32.ofNat 0 := by
    rw [si_1, if_neg (by omega), si_1, if_neg (by omega), si_1, if_pos ⟨rfl, rfl⟩]; rfl
  have g5 : (mm_si (mm_si (mm_si (mm_si Mr 0 0 0) 0 4 0) 0 5 0) 0 6 (Int32.ofNat mm)).1 0 5 = Int32.ofNat 0 := by
    rw [si_1, if_neg (by omega), si_1, if_pos ⟨rfl, rfl⟩]; rfl
  have g6 : (mm_si (mm_si (mm_si (mm_si Mr 0 0 0) 0 4 0) 0 5 0) 0 6 (Int32.ofNat mm)).1 0 6 = Int32.ofNat mm := by
    rw [si_1, if_pos ⟨rfl, rfl⟩]
  have gs : (mm_si (mm_si (mm_si (mm_si Mr 0 0 0) 0 4 0) 0 5 0) 0 6 (Int32.ofNat mm)).2 = (mm_si Mr 0 0 0).2 := rfl
  generalize mm_si (mm_si (mm_si (mm_si Mr 0 0 0) 0 4 0) 0 5 0) 0 6 (Int32.ofNat mm) = M5 at hf0 g4 g5 g6 gs
  have hcut : rt_ (tx_ S 0 (S 2)) no_ vs M5 := rt_cutL hr1 (fun x y h1 _ => hf0 x y h1) gs g4
  have g11 : M5.1 0 11 = Int32.ofNat (S 0 11) := by rw [hf0 0 11 (by omega)]; exact hr1.1.1.laws
  have hhs : f_X12_histories M5 = some (Int32.ofNat (hs_ S)) := by
    have := r_hist hcut.1.1 (wf_cut hw)
    rw [(tx_co (S := S) (n := 0) (f := S 2)).hs] at this
    exact this
  -- a refused call
  have no : ∀ (A : Int32) (Fr : Option (Int32 × mm_M)), Fr = some (A, M5) → f_X11_lawFromText x1 x2 x3 Mc = some (A, Mc) → bo_ ((f_X11_lawFromText x1 x2 x3 Mc).bind fun z1 => sq_ (f_X8_cutTo (0 : Int32) z1.2) fun z2 => some (z1.1, z2.2)) Fr := by
    intro A Fr h1 h2
    refine bo_mk (A := A) (wf_cut hw) hv ?_ ?_
    · refine wp_be h2 (wp_sr (wp_some ⟨rfl, ?_⟩))
      show cs_ (tx_ S 0 (S 2)) vs (f_X8_cutTo (0 : Int32) Mc).2
      rw [c_cut0 hc.2.1 hw]; exact cs_cut0 hw hc
    · rw [h1]; exact wp_some ⟨rfl, hcut⟩
  rw [g11]
  by_cases c6 : S 0 11 = 6
  · refine no (-100) _ (by rw [if_pos (by rw [c6]; rfl)]) ?_
    unfold f_X11_lawFromText
    rw [hc.2.1.laws, if_neg (show ¬ (Int32.ofNat (S 0 11) < 6) from fun hh => by have := (n3_lt (b := 6) (by omega) (by omega)).mp hh; omega)]
  · rw [if_neg (show ¬ (Int32.ofNat (S 0 11) = 6) from fun hh => c6 ((n3_eq (b := 6) (by omega) (by omega)).mp hh)), in_0, in_x]
    have hlt6 : Int32.ofNat (S 0 11) < 6 := (n3_lt (b := 6) (by omega) (by omega)).mpr (by omega)
    by_cases cg : lyg_ x1 x2 x3
    · obtain ⟨f, la, by', rfl, rfl, rfl, q1, q2, q3, q4⟩ := lyg_nat cg
      have hmb : (la - f) / by' ≤ 400 := Nat.le_trans (Nat.div_le_self _ _) (by omega)
      have hmd : by' * ((la - f) / by') ≤ la - f := Nat.mul_div_le (la - f) by'
      have ed : (Int32.ofNat la - Int32.ofNat f) / Int32.ofNat by' = Int32.ofNat ((la - f) / by') := by rw [n3_sub q1, n3_div (by omega) (by omega)]
      generalize (la - f) / by' = mq at hmb hmd ed
      have ed1 : Int32.ofNat (mq) + 1 = Int32.ofNat (mq + 1) := n3_add _ 1
      have hnz : ¬ (Int32.ofNat by' = 0) := fun hh => by have := (n3_eq (b := 0) (by omega) (by omega)).mp hh; omega
      rw [n3_ti (show f < 2147483648 by omega), n3_ti (show la < 2147483648 by omega), decide_eq_true (show (0 : Int) ≤ (f : Int) ∧ (f : Int) ≤ 400 by omega), decide_eq_true (show (f : Int) ≤ (la : Int) ∧ (la : Int) ≤ 400 by omega), gt_t, gt_t, if_neg (show ¬ (Int32.ofNat by' < 1) from fun hh => by have := (n3_lt (b := 1) (by omega) (by omega)).mp hh; omega), if_pos hnz, if_pos hnz, ed, ed1]
      have hyl := c_years (Int32.ofNat f) (Int32.ofNat la) (Int32.ofNat by')
      rw [if_pos cg, ed, ed1] at hyl
      by_cases c8 : mq < 8
      · rw [if_pos (show Int32.ofNat (mq) < 8 from (n3_lt (b := 8) (by omega) (by omega)).mpr c8), sq_n, hhs, Option.bind_some, n3_mul]
        have hmul : hs_ S * (mq + 1) ≤ 4800 := Nat.le_trans (Nat.mul_le_mul h600 (show mq + 1 ≤ 8 by omega)) (by decide)
        by_cases cH : hs_ S * (mq + 1) ≤ 600
        · rw [if_pos (show Int32.ofNat (hs_ S * (mq + 1)) ≤ 600 from (n3_le (b := 600) (by omega) (by omega)).mpr cH)]
          have hpos := lpr_7 (S := S)
          have hty : f + by' * (mq + 1 - 1) ≤ 400 := by
            rw [Nat.add_sub_cancel]
            omega
          have htxc : txc_ S Mc := ⟨hc.2.1.tp, hc.2.1.tape⟩
          have htxq : txq_ S mm M5 := ⟨g6, hmm, fun j hj => by rw [hf0 2 j (by omega)]; exact hr1.1.1.tape hj⟩
          have hread := c_read (M := Mc) (k0 := 8 + S 0 11) hw (by omega) htxc
          have hix : ix_ok (Int32.ofNat (S 0 11)) 6 := (n3_ix (by omega)).mpr (by omega)
          by_cases cok : (lpr_ S).1 = true ∧ (lpr_ S).2.1 = S 0 4
          · -- it is read
            obtain ⟨k1, k2, k3, k4⟩ := lpr_ok cok.1
            refine bo_mk (S := nl_s_ S (lpr_ S).2.2.1 (lpr_ S).2.2.2.1 (lpr_ S).2.2.2.2.1 (lpr_ S).2.2.2.2.2 f by' (mq + 1)) (vs := vs) (A := Int32.ofNat (S 0 11)) (wf_ns hw (by omega) k1 k2 k3 k4 ⟨by omega, by omega⟩ ⟨q3, q4⟩ hty cH) hv ?_ ?_
            · unfold f_X11_lawFromText
              rw [hc.2.1.laws, if_pos hlt6]
              refine wp_bd (wp_be hyl ?_)
              rw [if_neg (show ¬ (Int32.ofNat (mq + 1) < 1) from fun hh => by have := (n3_lt (b := 1) (by omega) (by omega)).mp hh; omega), if_pos (show Int32.ofNat (mq + 1) ≤ 8 from (n3_le (b := 8) (by omega) (by omega)).mpr (by omega)), hc.2.1.hs, n3_mul, if_pos (show Int32.ofNat (hs_ S * (mq + 1)) ≤ 600 from (n3_le (b := 600) (by omega) (by omega)).mpr cH)]
              simp only [n3_tn (show S 0 11 < 2147483648 by omega)]
              refine wp_ck hix (wp_bd (wp_mo hread (fun z hz => ?_)))
              obtain ⟨r1, r2, r3, r4⟩ := hz
              obtain ⟨p0, p3, p1, p2⟩ := r4 cok.1
              rw [if_pos cok] at r3
              rw [if_pos r3]
              unfold f_X9_addLaw
              have z51 : z.2.1 5 1 = Int32.ofNat (S 0 11) := by rw [r1 5 1 (by omega)]; exact hc.2.1.laws
              rw [z51]
              refine wp_bd (wp_sr (wp_ck hix ?_))
              rw [n3_tn (by omega)]
              refine wp_be (c_tune (S := S) (k := 8 + S 0 11) (by omega) (fun c hc2 => by rw [r1 7 c (by omega)]; exact hc.2.1.cl c hc2) p0 p1 p2 (by omega) k3 k4) ?_
              refine wp_sr (wp_some ?_)
              have hA : ∀ x y, ¬ (x = 8 + S 0 11 ∧ y < 7) → ¬ (x = 5 ∧ y = 1) → (mm_si (mm_si (mm_si (mm_si z.2 (8 + S 0 11) 4 (Int32.ofNat (st_ S (lpr_ S).2.2.1))) (8 + S 0 11) 5 (Int32.ofNat (st_ S (lpr_ S).2.2.2.2.1))) (8 + S 0 11) 6 (Int32.ofNat (st_ S (lpr_ S).2.2.2.2.2))) 5 1 ((mm_si (mm_si (mm_si z.2 (8 + S 0 11) 4 (Int32.ofNat (st_ S (lpr_ S).2.2.1))) (8 + S 0 11) 5 (Int32.ofNat (st_ S (lpr_ S).2.2.2.2.1))) (8 + S 0 11) 6 (Int32.ofNat (st_ S (lpr_ S).2.2.2.2.2))).1 5 1 + 1)).1 x y = Mc.1 x y := fun x y e1 e2 => by
                rw [si_1, if_neg (by omega), si_1, if_neg (by omega), si_1, if_neg (by omega), si_1, if_neg (by omega)]; exact r1 x y (by omega)
              have hA5 : (mm_si (mm_si (mm_si (mm_si z.2 (8 + S 0 11) 4 (Int32.ofNat (st_ S (lpr_ S).2.2.1))) (8 + S 0 11) 5 (Int32.ofNat (st_ S (lpr_ S).2.2.2.2.1))) (8 + S 0 11) 6 (Int32.ofNat (st_ S (lpr_ S).2.2.2.2.2))) 5 1 ((mm_si (mm_si (mm_si z.2 (8 + S 0 11) 4 (Int32.ofNat (st_ S (lpr_ S).2.2.1))) (8 + S 0 11) 5 (Int32.ofNat (st_ S (lpr_ S).2.2.2.2.1))) (8 + S 0 11) 6 (Int32.ofNat (st_ S (lpr_ S).2.2.2.2.2))).1 5 1 + 1)).1 5 1 = Int32.ofNat (S 0 11 + 1) := by
                rw [si_1, if_pos ⟨rfl, rfl⟩, si_1, if_neg (by omega), si_1, if_neg (by omega), si_1, if_neg (by omega), z51]; exact n3_add _ 1
              have hA8 : ∀ y, y < 4 → (mm_si (mm_si (mm_si (mm_si z.2 (8 + S 0 11) 4 (Int32.ofNat (st_ S (lpr_ S).2.2.1))) (8 + S 0 11) 5 (Int32.ofNat (st_ S (lpr_ S).2.2.2.2.1))) (8 + S 0 11) 6 (Int32.ofNat (st_ S (lpr_ S).2.2.2.2.2))) 5 1 ((mm_si (mm_si (mm_si z.2 (8 + S 0 11) 4 (Int32.ofNat (st_ S (lpr_ S).2.2.1))) (8 + S 0 11) 5 (Int32.ofNat (st_ S (lpr_ S).2.2.2.2.1))) (8 + S 0 11) 6 (Int32.ofNat (st_ S (lpr_ S).2.2.2.2.2))).1 5 1 + 1)).1 (8 + S 0 11) y = z.2.1 (8 + S 0 11) y := fun y hy => by
                rw [si_1, if_neg (by omega), si_1, if_neg (by omega), si_1, if_neg (by omega), si_1, if_neg (by omega)]
              have hA4 : (mm_si (mm_si (mm_si (mm_si z.2 (8 + S 0 11) 4 (Int32.ofNat (st_ S (lpr_ S).2.2.1))) (8 + S 0 11) 5 (Int32.ofNat (st_ S (lpr_ S).2.2.2.2.1))) (8 + S 0 11) 6 (Int32.ofNat (st_ S (lpr_ S).2.2.2.2.2))) 5 1 ((mm_si (mm_si (mm_si z.2 (8 + S 0 11) 4 (Int32.ofNat (st_ S (lpr_ S).2.2.1))) (8 + S 0 11) 5 (Int32.ofNat (st_ S (lpr_ S).2.2.2.2.1))) (8 + S 0 11) 6 (Int32.ofNat (st_ S (lpr_ S).2.2.2.2.2))).1 5 1 + 1)).1 (8 + S 0 11) 4 = Int32.ofNat (st_ S (lpr_ S).2.2.1) := by
                rw [si_1, if_neg (by omega), si_1, if_neg (by omega), si_1, if_neg (by omega), si_1, if_pos ⟨rfl, rfl⟩]
              have hA6 : (mm_si (mm_si (mm_si (mm_si z.2 (8 + S 0 11) 4 (Int32.ofNat (st_ S (lpr_ S).2.2.1))) (8 + S 0 11) 5 (Int32.ofNat (st_ S (lpr_ S).2.2.2.2.1))) (8 + S 0 11) 6 (Int32.ofNat (st_ S (lpr_ S).2.2.2.2.2))) 5 1 ((mm_si (mm_si (mm_si z.2 (8 + S 0 11) 4 (Int32.ofNat (st_ S (lpr_ S).2.2.1))) (8 + S 0 11) 5 (Int32.ofNat (st_ S (lpr_ S).2.2.2.2.1))) (8 + S 0 11) 6 (Int32.ofNat (st_ S (lpr_ S).2.2.2.2.2))).1 5 1 + 1)).1 (8 + S 0 11) 5 = Int32.ofNat (st_ S (lpr_ S).2.2.2.2.1) ∧ (mm_si (mm_si (mm_si (mm_si z.2 (8 + S 0 11) 4 (Int32.ofNat (st_ S (lpr_ S).2.2.1))) (8 + S 0 11) 5 (Int32.ofNat (st_ S (lpr_ S).2.2.2.2.1))) (8 + S 0 11) 6 (Int32.ofNat (st_ S (lpr_ S).2.2.2.2.2))) 5 1 ((mm_si (mm_si (mm_si z.2 (8 + S 0 11) 4 (Int32.ofNat (st_ S (lpr_ S).2.2.1))) (8 + S 0 11) 5 (Int32.ofNat (st_ S (lpr_ S).2.2.2.2.1))) (8 + S 0 11) 6 (Int32.ofNat (st_ S (lpr_ S).2.2.2.2.2))).1 5 1 + 1)).1 (8 + S 0 11) 6 = Int32.ofNat (st_ S (lpr_ S).2.2.2.2.2) := by
                constructor
                · rw [si_1, if_neg (by omega), si_1, if_neg (by omega), si_1, if_pos ⟨rfl, rfl⟩]
                · rw [si_1, if_neg (by omega), si_1, if_pos ⟨rfl, rfl⟩]
              have hAs : (mm_si (mm_si (mm_si (mm_si z.2 (8 + S 0 11) 4 (Int32.ofNat (st_ S (lpr_ S).2.2.1))) (8 + S 0 11) 5 (Int32.ofNat (st_ S (lpr_ S).2.2.2.2.1))) (8 + S 0 11) 6 (Int32.ofNat (st_ S (lpr_ S).2.2.2.2.2))) 5 1 ((mm_si (mm_si (mm_si z.2 (8 + S 0 11) 4 (Int32.ofNat (st_ S (lpr_ S).2.2.1))) (8 + S 0 11) 5 (Int32.ofNat (st_ S (lpr_ S).2.2.2.2.1))) (8 + S 0 11) 6 (Int32.ofNat (st_ S (lpr_ S).2.2.2.2.2))).1 5 1 + 1)).2 = Mc.2 := r2
              generalize mm_si (mm_si (mm_si (mm_si z.2 (8 + S 0 11) 4 (Int32.ofNat (st_ S (lpr_ S).2.2.1))) (8 + S 0 11) 5 (Int32.ofNat (st_ S (lpr_ S).2.2.2.2.1))) (8 + S 0 11) 6 (Int32.ofNat (st_ S (lpr_ S).2.2.2.2.2))) 5 1 ((mm_si (mm_si (mm_si z.2 (8 + S 0 11) 4 (Int32.ofNat (st_ S (lpr_ S).2.2.1))) (8 + S 0 11) 5 (Int32.ofNat (st_ S (lpr_ S).2.2.2.2.1))) (8 + S 0 11) 6 (Int32.ofNat (st_ S (lpr_ S).2.2.2.2.2))).1 5 1 + 1) = A4 at hA hA5 hA8 hA4 hA6 hAs
              refine wp_bd (wp_mo (c_addLaw (S' := nl_s_ S (lpr_ S).2.2.1 (lpr_ S).2.2.2.1 (lpr_ S).2.2.2.2.1 (lpr_ S).2.2.2.2.2 f by' (mq + 1)) hw (by omega) (show 1 ≤ mq + 1 by omega) cH hty (fun l q hl => ns_yo hl (by omega)) (fun q => ns_yn) (fun q => ns_or (by omega)) (M0 := A4) (by rw [hA 14 3 (by omega) (by omega)]; exact hc.2.1.laws2) (by rw [hA 14 2 (by omega) (by omega)]; exact hc.2.1.hs) (fun q hq => by rw [hA 16 q (by omega) (by omega)]; exact hc.2.1.ord q hq) (fun q hq => by rw [hAs]; exact hc.2.1.yrs q hq)) (fun C hC => ?_))
              obtain ⟨C1, C2, C3, C4, C5, C6, C7⟩ := hC
              unfold f_X6_doubtAll
              refine wp_sr (wp_some (wp_sr (wp_some ⟨rfl, ?_⟩)))
              have C19 : C.1 19 3 = Int32.ofNat (S 0 28) := by rw [C1 19 3 (by omega) (by omega) (by omega), hA 19 3 (by omega) (by omega)]; exact hc.2.1.told
              rw [sq_n, C19]
              have hcut2 : (f_X8_cutTo (0 : Int32) (mm_si C 19 6 (((1 : Int32) <<< (Int32.ofNat (S 0 28) &&& 31)) - 1))).2 = mm_si (mm_si C 19 6 (((1 : Int32) <<< (Int32.ofNat (S 0 28) &&& 31)) - 1)) 1 1 0 := by
                unfold f_X8_cutTo
                rw [if_neg (by decide), show (mm_si C 19 6 (((1 : Int32) <<< (Int32.ofNat (S 0 28) &&& 31)) - 1)).1 1 1 = Int32.ofNat (S 0 4) by rw [si_1, if_neg (by omega), C1 1 1 (by omega) (by omega) (by omega), hA 1 1 (by omega) (by omega)]; exact hc.2.1.tp, if_pos (show (0 : Int32) ≤ Int32.ofNat (S 0 4) from (n3_le (a := 0) (by omega) (by omega)).mpr (by omega)), sq_n]
              show cs_ _ vs (f_X8_cutTo (0 : Int32) (mm_si C 19 6 (((1 : Int32) <<< (Int32.ofNat (S 0 28) &&& 31)) - 1))).2
              rw [hcut2]
              have hE : ∀ x y, ¬ (x = 19 ∧ y = 6) → ¬ (x = 1 ∧ y = 1) → (mm_si (mm_si C 19 6 (((1 : Int32) <<< (Int32.ofNat (S 0 28) &&& 31)) - 1)) 1 1 0).1 x y = C.1 x y := fun x y e1 e2 => by rw [si_1, if_neg e2, si_1, if_neg e1]
              refine cs_ns hw hc (by omega) (fun x y e1 e2 e3 e4 e5 e6 e7 => by rw [hE x y e6 e7, C1 x y e3 e4 e5]; exact hA x y e1 e2) (fun a ha => by show C.2.1 a = _; rw [C2 a ha, hAs]) (by show C.2.2 = _; rw [C3, hAs]) ?_ ?_ ?_ ?_ ?_ ?_ ?_ (fun q hq => ?_)
              · rw [si_1, if_pos ⟨rfl, rfl⟩]; rfl
              · rw [hE 5 1 (by omega) (by omega), C1 5 1 (by omega) (by omega) (by omega)]; exact hA5
              · rw [hE _ 0 (by omega) (by omega), hE _ 1 (by omega) (by omega), hE _ 2 (by omega) (by omega), hE _ 3 (by omega) (by omega), hE _ 4 (by omega) (by omega), hE _ 5 (by omega) (by omega), hE _ 6 (by omega) (by omega), C1 _ 0 (by omega) (by omega) (by omega), C1 _ 1 (by omega) (by omega) (by omega), C1 _ 2 (by omega) (by omega) (by omega), C1 _ 3 (by omega) (by omega) (by omega), C1 _ 4 (by omega) (by omega) (by omega), C1 _ 5 (by omega) (by omega) (by omega), C1 _ 6 (by omega) (by omega) (by omega), hA8 0 (by omega), hA8 1 (by omega), hA8 2 (by omega), hA8 3 (by omega)]
                exact ⟨p0, p1, p2, p3, hA4, hA6.1, hA6.2⟩
              · rw [hE 14 2 (by omega) (by omega)]; exact C6
              · rw [hE 14 3 (by omega) (by omega)]; exact C5
              · rw [hE 18 _ (by omega) (by omega)]; exact C4
              · rw [si_1, if_neg (by omega), si_1, if_pos ⟨rfl, rfl⟩]
              · rw [hE 16 q (by omega) (by omega)]; exact C7 q hq
            · refine wp_bd (wp_mo (q_reads hw (show S 0 11 < 6 by omega) htxq g5) (fun z hz => ?_))
              obtain ⟨r1, r2, r3, r4, r5⟩ := hz
              obtain ⟨p6, p7, p8, p9⟩ := r5 cok.1
              have n20 : S 0 4 ≤ 20 := by have := cok.2; omega
              rw [r3, cok.1, if_neg (by decide), r4, r1 0 6 (by omega) (by omega), g6, if_pos (by rw [cok.2, hmm2 n20])]
              unfold f_X12_law_139 f_X12_law_165
              rw [if_pos (show Int32.ofNat (S 0 4) ≤ 20 from (n3_le (b := 20) (by omega) (by omega)).mpr n20), if_neg (by decide)]
              have z11 : z.2.1 0 11 = Int32.ofNat (S 0 11) := by rw [r1 0 11 (by omega) (by omega)]; exact g11
              have y10 : ∀ v, (mm_si z.2 10 (S 0 11) v).1 0 11 = Int32.ofNat (S 0 11) := fun v => by rw [si_1, if_neg (by omega)]; exact z11
              have y11 : ∀ u v, (mm_si (mm_si z.2 10 (S 0 11) u) 11 (S 0 11) v).1 0 11 = Int32.ofNat (S 0 11) := fun u v => by rw [si_1, if_neg (by omega)]; exact y10 u
              have y12 : ∀ u v w, (mm_si (mm_si (mm_si z.2 10 (S 0 11) u) 11 (S 0 11) v) 12 (S 0 11) w).1 0 11 = Int32.ofNat (S 0 11) := fun u v w => by rw [si_1, if_neg (by omega)]; exact y11 u v
              rw [z11]
              refine wp_ck hix (wp_sr ?_)
              rw [n3_tn (show S 0 11 < 2147483648 by omega), y10]
              refine wp_ck hix (wp_sr ?_)
              rw [n3_tn (show S 0 11 < 2147483648 by omega), y11]
              refine wp_ck hix (wp_sr (wp_sr (wp_some ⟨?_, ?_⟩)))
              · rw [n3_tn (show S 0 11 < 2147483648 by omega), y12]
                show (mm_si _ 0 11 (Int32.ofNat (S 0 11) + 1)).1 0 11 - 1 = _
                rw [si_1, if_pos ⟨rfl, rfl⟩, show Int32.ofNat (S 0 11) + 1 = Int32.ofNat (S 0 11 + 1) from n3_add _ 1]
                exact n3_sub (a := S 0 11 + 1) (b := 1) (by omega)
              · rw [n3_tn (show S 0 11 < 2147483648 by omega), y12]
                refine rt_ns hr1 (fun x y e1 e2 => ?_) ?_ ?_ ?_ (fun x h1 h2 => ?_)
                · show (mm_si _ 0 11 _).1 x y = _
                  rw [si_1, if_neg (by omega), si_1, if_neg (by omega), si_1, if_neg (by omega), si_1, if_neg (by omega), r1 x y (by omega) (by omega)]; exact hf0 x y (by omega)
                · exact r2.trans gs
                · show (mm_si _ 0 11 _).1 0 11 = _
                  rw [si_1, if_pos ⟨rfl, rfl⟩]; exact n3_add _ 1
                · show (mm_si _ 0 11 _).1 0 4 = _
                  rw [si_1, if_neg (by omega), si_1, if_neg (by omega), si_1, if_neg (by omega), si_1, if_neg (by omega), r1 0 4 (by omega) (by omega)]; exact g4
                · show (mm_si _ 0 11 _).1 x (S 0 11) = _
                  rw [si_1, if_neg (by omega), si_1]
                  by_cases d12 : x = 12
                  · rw [if_pos ⟨d12, rfl⟩, d12]; rfl
                  · rw [if_neg (by omega), si_1]
                    by_cases d11 : x = 11
                    · rw [if_pos ⟨d11, rfl⟩, d11]; rfl
                    · rw [if_neg (by omega), si_1]
                      by_cases d10 : x = 10
                      · rw [if_pos ⟨d10, rfl⟩, d10]; rfl
                      · rw [if_neg (by omega)]
                        by_cases d6 : x = 6
                        · rw [d6]; exact p6
                        · by_cases d7 : x = 7
                          · rw [d7]; exact p7
                          · by_cases d8 : x = 8
                            · rw [d8]; exact p8
                            · rw [show x = 9 by omega]; exact p9
          · -- it can't be read
            refine bo_mk (A := -1 - Int32.ofNat (lpr_ S).2.1) (wf_cut hw) hv ?_ ?_
            · unfold f_X11_lawFromText
              rw [hc.2.1.laws, if_pos hlt6]
              refine wp_bd (wp_be hyl ?_)
              rw [if_neg (show ¬ (Int32.ofNat (mq + 1) < 1) from fun hh => by have := (n3_lt (b := 1) (by omega) (by omega)).mp hh; omega), if_pos (show Int32.ofNat (mq + 1) ≤ 8 from (n3_le (b := 8) (by omega) (by omega)).mpr (by omega)), hc.2.1.hs, n3_mul, if_pos (show Int32.ofNat (hs_ S * (mq + 1)) ≤ 600 from (n3_le (b := 600) (by omega) (by omega)).mpr cH)]
              simp only [n3_tn (show S 0 11 < 2147483648 by omega)]
              refine wp_ck hix (wp_bd (wp_mo hread (fun z hz => ?_)))
              obtain ⟨r1, r2, r3, -⟩ := hz
              rw [if_neg cok] at r3
              rw [r3, if_neg (show ¬ (Int32.ofNat (lpr_ S).2.1 = (-1 : Int32)) from fun hh => (n3_nm (by omega)).mp hh)]
              refine wp_some (wp_sr (wp_some ⟨rfl, ?_⟩))
              obtain ⟨⟨W, pt, ht⟩, -⟩ := id hc
              have hcz : cs_ S vs z.2 := hc.fk hw (P := fun x y => x = 8 + S 0 11 ∧ y < 4) (Q := fun _ => False) ⟨fun x y _ _ hp => r1 x y hp, fun a _ _ => by rw [r2]⟩ (ht.fr (r1 5 4 (by omega)) (by funext y; exact r1 70 y (by omega)) (by rw [r2]) (by rw [r2])) (fun x y hxy => ⟨by unfold pc_; omega, by omega⟩) (fun a ha => ha.elim)
              show cs_ (tx_ S 0 (S 2)) vs (f_X8_cutTo (0 : Int32) z.2).2
              rw [c_cut0 hcz.2.1 hw]; exact cs_cut0 hw hcz
            · refine wp_bd (wp_mo (q_reads hw (show S 0 11 < 6 by omega) htxq g5) (fun z hz => ?_))
              obtain ⟨r1, r2, r3, r4, -⟩ := hz
              have hrt : rt_ (tx_ S 0 (S 2)) no_ vs z.2 := rt_cutL hr1 (fun x y e1 e2 => by rw [r1 x y (by omega) e2]; exact hf0 x y e1) (r2.trans gs) (by rw [r1 0 4 (by omega) (by omega)]; exact g4)
              have fin : wp_ (f_X12_law_138 (Int32.ofNat f) (Int32.ofNat by') (Int32.ofNat (S 0 4)) (Int32.ofNat (mq + 1)) z.2) (fun z => z.1 = -1 - Int32.ofNat (lpr_ S).2.1 ∧ rt_ (tx_ S 0 (S 2)) no_ vs z.2) := by
                unfold f_X12_law_138 f_X12_law_139 f_X12_law_165
                rw [r4, if_pos rfl, if_pos rfl, if_pos (show Int32.ofNat (lpr_ S).2.1 < 20 from (n3_lt (b := 20) (by omega) (by omega)).mpr (by omega))]
                exact wp_if (fun _ => wp_some ⟨rfl, hrt⟩) (fun _ => wp_some ⟨rfl, hrt⟩)
              rw [r3]
              cases hb : (lpr_ S).1 with
              | false => rw [if_pos (by decide)]; exact fin
              | true =>
                have hne : (lpr_ S).2.1 ≠ S 0 4 := fun hh => cok ⟨hb, hh⟩
                rw [if_neg (by decide), r4, r1 0 6 (by omega) (by omega), g6, if_neg (show ¬ (Int32.ofNat (lpr_ S).2.1 = Int32.ofNat mm) from fun hh => by
                  have := (n3_eq (by omega) (by omega)).mp hh
                  by_cases n20 : S 0 4 ≤ 20
                  · have := hmm2 n20; omega
                  · have := hmm3 (by omega); omega)]
                exact fin
        · refine no (-102) _ (by rw [if_neg (show ¬ (Int32.ofNat (hs_ S * (mq + 1)) ≤ 600) from fun hh => cH ((n3_le (b := 600) (by omega) (by omega)).mp hh))]) ?_
          unfold f_X11_lawFromText
          rw [hc.2.1.laws, if_pos hlt6, hyl, Option.bind_some, if_neg (show ¬ (Int32.ofNat (mq + 1) < 1) from fun hh => by have := (n3_lt (b := 1) (by omega) (by omega)).mp hh; omega), if_pos (show Int32.ofNat (mq + 1) ≤ 8 from (n3_le (b := 8) (by omega) (by omega)).mpr (by omega)), hc.2.1.hs, n3_mul, if_neg (show ¬ (Int32.ofNat (hs_ S * (mq + 1)) ≤ 600) from fun hh => cH ((n3_le (b := 600) (by omega) (by omega)).mp hh))]
      · refine no (-101) _ (by rw [if_neg (show ¬ (Int32.ofNat (mq) < 8) from fun hh => c8 ((n3_lt (b := 8) (by omega) (by omega)).mp hh))]) ?_
        unfold f_X11_lawFromText
        rw [hc.2.1.laws, if_pos hlt6, hyl, Option.bind_some, if_neg (show ¬ (Int32.ofNat (mq + 1) < 1) from fun hh => by have := (n3_lt (b := 1) (by omega) (by omega)).mp hh; omega), if_neg (show ¬ (Int32.ofNat (mq + 1) ≤ 8) from fun hh => by have := (n3_le (b := 8) (by omega) (by omega)).mp hh; omega)]
    · refine no (-101) _ ?_ ?_
      · unfold lyg_ at cg
        by_cases d1 : 0 ≤ x1.toInt ∧ x1.toInt ≤ 400
        · rw [decide_eq_true d1, gt_t]
          by_cases d2 : x1.toInt ≤ x2.toInt ∧ x2.toInt ≤ 400
          · rw [decide_eq_true d2, gt_t, if_pos (show x3 < 1 by rw [i3_lt, z1]; omega)]
          · rw [decide_eq_false d2, gt_f]
        · rw [decide_eq_false d1, gt_f]
      · unfold f_X11_lawFromText
        rw [hc.2.1.laws, if_pos hlt6, c_years, if_neg cg, Option.bind_some, if_pos (by decide)]
end WS1
