/-! CALLS: again -/
section VL1
variable {S S' : sg_} {M M0 Mc Mr Z : mm_M} {vs : List Nat} {nv : Nat → Bool} {W : Nat} {pt : Nat → List Nat} {i : Nat}
/-- signs of which there are others than told: the mask -/
theorem gb_on (hw : wf_ S) (hi : i < 3) : (mk_b (fun s => decide (S 26 s = 1)) (S 0 28) &&& ((((1 : Int32) <<< (Int32.ofNat (S 37 i) &&& 31)) - 1) ^^^ (-1))) ||| mk_b (fun s => decide (S 38 (16 * i + s) = 1)) (S 37 i) = mk_b (fun s => decide (ag_ S i 26 s = 1)) (S 0 28) := by
  have h16 := hw.signs
  have hks := hw.ks i hi
  rw [← (mk_full (f := fun _ => true) (n := S 37 i) (by omega)).mpr (fun _ _ => rfl)]
  apply ib_ext
  intro q hq
  rw [ib_or, ib_and, ib_not hq, mk_ib _ (by omega) q hq, mk_ib _ (by omega) q hq, mk_ib _ (by omega) q hq, mk_ib _ (by omega) q hq]
  by_cases c : q < S 37 i
  · rw [decide_eq_true c, decide_eq_true (show q < S 0 28 by omega), ag_26 c]; simp
  · rw [decide_eq_false c, ag_o (by omega)]; simp
theorem k_giveBack (hw : wf_ S) (hi : i < 3) (hk1 : S 36 i = 1) (hI : ic_ S M) : wp_ (f_X1_giveBack (51 + 5 * i) M) (fun Z => (∀ a b, ¬ (a = 19 ∧ b = 4) → ¬ (22 ≤ a ∧ a < 22 + S 37 i ∧ (b = 6 ∨ b = 7)) → ¬ (a = 15 ∧ b < 6) → Z.1 a b = M.1 a b) ∧ Z.2 = M.2 ∧ Z.1 19 4 = mk_b (fun s => decide (ag_ S i 26 s = 1)) (S 0 28) ∧ (∀ s, s < S 37 i → Z.1 (22 + s) 6 = Int32.ofNat (S 39 (16 * i + s)) ∧ Z.1 (22 + s) 7 = Int32.ofNat (S 40 (16 * i + s))) ∧ (∀ q, q < 6 → Z.1 15 q = Int32.ofNat (S 41 (6 * i + q)))) := by
  have h16 := hw.signs
  have hks := hw.ks i hi
  obtain ⟨k0, hk⟩ := hI.kept i hi
  obtain ⟨k2, k3, k4, k5⟩ := hk hk1
  have key : ∀ (e k n : Nat) (Z : mm_M), k + e = S 37 i → e < n → (∀ a b, ¬ (a = 19 ∧ b = 4) → ¬ (22 ≤ a ∧ a < 22 + k ∧ (b = 6 ∨ b = 7)) → Z.1 a b = M.1 a b) → Z.2 = M.2 → Z.1 19 4 = mk_b (fun s => decide (ag_ S i 26 s = 1)) (S 0 28) → (∀ s, s < k → Z.1 (22 + s) 6 = Int32.ofNat (S 39 (16 * i + s)) ∧ Z.1 (22 + s) 7 = Int32.ofNat (S 40 (16 * i + s))) →
      wp_ (f_X1_giveBack_29l n (51 + 5 * i) (Int32.ofNat k) Z) (fun Z => (∀ a b, ¬ (a = 19 ∧ b = 4) → ¬ (22 ≤ a ∧ a < 22 + S 37 i ∧ (b = 6 ∨ b = 7)) → ¬ (a = 15 ∧ b < 6) → Z.1 a b = M.1 a b) ∧ Z.2 = M.2 ∧ Z.1 19 4 = mk_b (fun s => decide (ag_ S i 26 s = 1)) (S 0 28) ∧ (∀ s, s < S 37 i → Z.1 (22 + s) 6 = Int32.ofNat (S 39 (16 * i + s)) ∧ Z.1 (22 + s) 7 = Int32.ofNat (S 40 (16 * i + s))) ∧ (∀ q, q < 6 → Z.1 15 q = Int32.ofNat (S 41 (6 * i + q)))) := by
    intro e
    induction e with
    | zero =>
      intro k n Z hk hn z1 z2 z3 z4
      obtain ⟨m, rfl⟩ : ∃ m, n = m + 1 := ⟨n - 1, by omega⟩
      have hkk : k = S 37 i := by omega
      have e6 : (6 : Int32).toNatClampNeg = 6 := rfl
      unfold f_X1_giveBack_29l f_X1_giveBack_29 f_X1_giveBack_78
      rw [z1 _ 1 (by omega) (by omega), k2, if_pos ((n3_le (by omega) (by omega)).mpr (by omega))]
      refine wp_sr (wp_some ⟨fun a b h1 h2 h3 => ?_, z2, ?_, fun s hs => ?_, fun q hq => ?_⟩)
      · rw [ai_1]
        by_cases c : a = 15
        · subst c
          rw [if_pos rfl]
          unfold va_cpy
          rw [if_neg (by rw [e6]; omega)]; exact z1 15 b (by omega) (by omega)
        · rw [if_neg c]; exact z1 a b h1 (by omega)
      · rw [ai_1, if_neg (by omega)]; exact z3
      · rw [ai_1, if_neg (by omega), ai_1, if_neg (by omega)]; exact z4 s (by omega)
      · rw [ai_1, if_pos rfl, e6]
        unfold va_cpy
        rw [if_pos (by omega), show 0 + (q - 0) = q by omega, show 51 + 5 * i + 3 = 54 + 5 * i by omega, z1 _ _ (by omega) (by omega)]
        exact (k5 q hq).1
    | succ e ih =>
      intro k n Z hk hn z1 z2 z3 z4
      obtain ⟨m, rfl⟩ : ∃ m, n = m + 1 := ⟨n - 1, by omega⟩
      have e1 : Int32.ofNat k + 1 = Int32.ofNat (k + 1) := n3_add k 1
      have hix : ix_ok (Int32.ofNat k) 16 := (n3_ix (by omega)).mpr (by omega)
      have et : (Int32.ofNat k).toNatClampNeg = k := n3_tn (by omega)
      obtain ⟨g1, g2⟩ := k4 k (by omega)
      unfold f_X1_giveBack_29l f_X1_giveBack_29
      rw [z1 _ 1 (by omega) (by omega), k2, if_neg (by rw [n3_le (by omega) (by omega)]; omega)]
      refine wp_ck hix (wp_ck hix (wp_sr (wp_ck hix (wp_ck hix (wp_sr (wp_sr ?_))))))
      simp only [et]
      rw [e1]
      refine ih (k + 1) m _ (by omega) (by omega) (fun a b h1 h2 => ?_) z2 ?_ (fun s hs => ?_)
      · rw [si_1, if_neg (by omega), si_1, if_neg (by omega)]; exact z1 a b h1 (by omega)
      · rw [si_1, if_neg (by omega), si_1, if_neg (by omega)]; exact z3
      · by_cases c : s = k
        · subst c
          constructor
          · rw [si_1, if_neg (by omega), si_1, if_pos ⟨rfl, rfl⟩, show 51 + 5 * i + 1 = 52 + 5 * i by omega, z1 _ _ (by omega) (by omega)]; exact g1
          · rw [si_1, if_pos ⟨rfl, rfl⟩, si_1, if_neg (by omega), show 51 + 5 * i + 2 = 53 + 5 * i by omega, z1 _ _ (by omega) (by omega)]; exact g2
        · obtain ⟨a1, a2⟩ := z4 s (by omega)
          constructor
          · rw [si_1, if_neg (by omega), si_1, if_neg (by omega)]; exact a1
          · rw [si_1, if_neg (by omega), si_1, if_neg (by omega)]; exact a2
  unfold f_X1_giveBack
  refine wp_sr (wp_sr ?_)
  refine key (S 37 i) 0 fu_ _ (by omega) (by unfold fu_; omega) (fun a b h1 h2 => by rw [si_1, if_neg h1]) rfl ?_ (fun s hs => by omega)
  rw [si_1, if_pos ⟨rfl, rfl⟩, hI.on, k2, k3]
  exact gb_on hw hi
theorem m_again (h : rl_ Mc Mr) (x1 : Int32) : bo_ (f_X11_again x1 Mc) (f_X12_again x1 Mr) := by
  obtain ⟨S, vs, hw, hv, hc, hr⟩ := h
  have hr1 := hr.th
  have hrl : rl_ Mc (mm_si Mr 0 0 0) := ⟨S, vs, hw, hv, hc, hr1⟩
  have h16 := hw.signs
  have h6 := hw.laws
  unfold f_X11_again f_X12_again
  rw [sq_n (x := mm_si Mr 0 0 0), show f_X11_isBelow x1 3 = bi_ (lt_ x1 3) from c_bl (n := 3) (by omega), show (2 : Int64) = Int64.ofNat 2 from rfl, r_in0 (by omega)]
  refine bo_g hrl (fun b1 => ?_)
  obtain ⟨i, rfl, hi⟩ := lt_nat b1 (by omega)
  have hix : ix_ok (Int32.ofNat i) 3 := (n3_ix (by omega)).mpr hi
  have et : (Int32.ofNat i).toNatClampNeg = i := n3_tn (by omega)
  have h36 : (mm_si Mr 0 0 0).1 36 i = Int32.ofNat (S 36 i) := hr1.1.1 36 i (by simp [pe_, hi])
  have hke := (hc.2.1.kept i hi).1
  have hk01 := hw.kept i hi
  rw [if_pos hix, if_pos hix, if_pos hix, et, h36, hke]
  by_cases ck : S 36 i = 0
  · rw [if_pos (show Int32.ofNat (S 36 i) = 0 by rw [ck]; rfl), if_pos (show Int32.ofNat (S 36 i) = 0 by rw [ck]; rfl)]
    exact bo_no hrl
  · have hk1 : S 36 i = 1 := by omega
    have hne : ¬ (Int32.ofNat (S 36 i) = 0) := by rw [hk1]; decide
    rw [if_neg hne, if_neg hne]
    have hwa : wf_ (ag_ S i) := wf_ag hw hi hk1
    have hks := hw.ks i hi
    refine bo_mk (A := 1) hwa hv ?_ ?_
    · obtain ⟨⟨W, pt, htc⟩, hI, hh, hro⟩ := hc
      have hcb := htc.capb
      have hcw := htc.cap
      have hc1 := htc.w1
      have ef : ∀ a, ¬ (a = 26 ∨ a = 24 ∨ a = 25 ∨ a = 13 ∨ a = 3) → ag_ S i a = S a := fun a h => ag_f h
      refine wp_bd (wp_mo (k_giveBack hw hi hk1 hI) (fun G hG => ?_))
      obtain ⟨g1, g2, g3, g4, g5⟩ := hG
      refine k_again_l (M0 := G) hw hi (by rw [g2]; exact hcb) (by rw [g2]; omega) ?_ (fun l hl => ?_) (fun k hk => ?_) (fun Z hz => ?_) 6 0 fu_ G (by omega) (by unfold fu_; omega) ⟨fun _ _ _ _ _ _ => rfl, rfl, ⟨W, ?_, by rw [g2]; exact hcw, fun j h1 h2 => ?_⟩, fun c hc => ?_, fun hk => by omega⟩
      · rw [g1 5 1 (by omega) (by omega) (by omega)]; exact hI.laws
      · obtain ⟨l0, l1, l2, l3, -⟩ := hI.lo l hl
        rw [g1 _ _ (by omega) (by omega) (by omega), g1 _ _ (by omega) (by omega) (by omega), g1 _ _ (by omega) (by omega) (by omega), g1 _ _ (by omega) (by omega) (by omega)]
        exact ⟨l0, l1, l2, l3⟩
      · rw [g1 _ _ (by omega) (by omega) (by omega)]; exact (((hI.kept i hi).2 hk1).2.2.2 k hk).2
      · obtain ⟨z1, z2, -, z4, z5⟩ := hz
        obtain ⟨z6, z7, z8⟩ := z5 (by omega)
        unfold f_X11_again_75 f_X6_doubtAll
        refine wp_sr (wp_some ⟨rfl, ?_⟩)
        rw [sq_n]
        have z22 : Z.2 = Mc.2 := by rw [z2]; exact g2
        have zz : ∀ a b, ¬ (a = 7 ∧ b < 6) → ¬ (8 ≤ a ∧ a < 14 ∧ 4 ≤ b ∧ b ≤ 6) → a ≠ 70 → ¬ (a = 5 ∧ b = 4) → ¬ (a = 19 ∧ b = 6) → (mm_si Z 19 6 ((1 : Int32) <<< (Z.1 19 3 &&& 31) - 1)).1 a b = G.1 a b := fun a b h1 h2 h3 h4 h5 => by rw [si_1, if_neg h5]; exact z1 a b h1 h2 h3 h4
        have zc : ∀ a b, ¬ (a = 7 ∧ b < 6) → ¬ (8 ≤ a ∧ a < 14 ∧ 4 ≤ b ∧ b ≤ 6) → a ≠ 70 → ¬ (a = 5 ∧ b = 4) → ¬ (a = 19 ∧ (b = 4 ∨ b = 6)) → ¬ (22 ≤ a ∧ a < 22 + S 37 i ∧ (b = 6 ∨ b = 7)) → ¬ (a = 15 ∧ b < 6) → (mm_si Z 19 6 ((1 : Int32) <<< (Z.1 19 3 &&& 31) - 1)).1 a b = Mc.1 a b := fun a b h1 h2 h3 h4 h5 h6 h7 => by rw [zz a b h1 h2 h3 h4 (by omega)]; exact g1 a b (by omega) h6 h7
        have e193 : Z.1 19 3 = Int32.ofNat (S 0 28) := by rw [z1 19 3 (by omega) (by omega) (by omega) (by omega), g1 19 3 (by omega) (by omega) (by omega)]; exact hI.told
        refine ⟨⟨1, fun _ => [], tc_new (by rw [si_1, if_neg (by omega)]; exact z6) (by
            obtain ⟨k, hk1, hk2⟩ := htc.pow
            exact ⟨k, hk1, by show Z.2.2 = _; rw [z22]; exact hk2⟩) (fun j hj => by rw [si_1, if_neg (by omega)]; exact z7 j (by rw [← z2]; exact hj)) (fun w hw2 => ?_)⟩, ?_, ?_, ?_⟩
        · rw [ef 0 (by omega)] at hw2
          have hfm := htc.frm 0 w (by omega) hw2
          rw [htc.root, show 0 * 20 + w = w by omega] at hfm
          show Z.2.1 71 w = _
          rw [z22, show wd_w (ag_ S i) w = wd_w S w by unfold wd_w; rw [ef 5 (by omega), ef 4 (by omega)]]
          exact hfm
        · refine ag_yo.ic hI (fun a b hab => zc a b (by omega) (by omega) (by omega) (by omega) (by omega) (by omega) (by omega)) (by show Z.2.1 17 = _; rw [z22]) ?_ ?_ ?_ ?_ ?_ ?_ ?_ ?_ ?_ ?_ ?_
          · rw [zc 1 1 (by omega) (by omega) (by omega) (by omega) (by omega) (by omega) (by omega), ef 0 (by omega)]; exact hI.tp
          · intro j hj; rw [ef 0 (by omega)] at hj; rw [zc 2 j (by omega) (by omega) (by omega) (by omega) (by omega) (by omega) (by omega), ef 2 (by omega)]; exact hI.tape j hj
          · rw [zc 5 2 (by omega) (by omega) (by omega) (by omega) (by omega) (by omega) (by omega), ef 0 (by omega)]; exact hI.words
          · intro c hc; rw [si_1, if_neg (by omega), z4 c hc, cgb_ag]
          · intro l hl
            rw [ef 0 (by omega)] at hl
            have hh := z8 l hl
            unfold lo_ st_ at hh ⊢
            rw [cgb_ag, cgb_f (a := 6) (by omega), cgb_f (a := 7) (by omega), cgb_f (a := 8) (by omega), cgb_f (a := 9) (by omega)] at hh
            have zq : ∀ b, (mm_si Z 19 6 ((1 : Int32) <<< (Z.1 19 3 &&& 31) - 1)).1 (8 + l) b = Z.1 (8 + l) b := fun b => by rw [si_1, if_neg (by omega)]
            rw [ef 6 (by omega), ef 7 (by omega), ef 8 (by omega), ef 9 (by omega), zq, zq, zq, zq, zq, zq, zq]
            exact hh
          · intro q hq; rw [zz 15 q (by omega) (by omega) (by omega) (by omega) (by omega), ag_13 hq]; exact g5 q hq
          · rw [zc 19 3 (by omega) (by omega) (by omega) (by omega) (by omega) (by omega) (by omega), ef 0 (by omega)]; exact hI.told
          · rw [zz 19 4 (by omega) (by omega) (by omega) (by omega) (by omega), g3, ef 0 (by omega)]
          · intro q hq; rw [ef 0 (by omega)] at hq
            by_cases c : q < S 37 i
            · obtain ⟨b0, b1, b2, b3, b4, b5, b6, -, -⟩ := hI.sg q hq
              obtain ⟨c1, c2⟩ := g4 q c
              have zq : ∀ b, b ≠ 6 → b ≠ 7 → (mm_si Z 19 6 ((1 : Int32) <<< (Z.1 19 3 &&& 31) - 1)).1 (22 + q) b = Mc.1 (22 + q) b := fun b h1 h2 => zc _ _ (by omega) (by omega) (by omega) (by omega) (by omega) (by omega) (by omega)
              unfold sc_
              rw [zq 0 (by omega) (by omega), zq 1 (by omega) (by omega), zq 2 (by omega) (by omega), zq 3 (by omega) (by omega), zq 4 (by omega) (by omega), zq 5 (by omega) (by omega), zz _ 6 (by omega) (by omega) (by omega) (by omega) (by omega), zz _ 7 (by omega) (by omega) (by omega) (by omega) (by omega), ef 18 (by omega), ef 19 (by omega), ef 20 (by omega), ef 21 (by omega), ef 22 (by omega), ef 23 (by omega), ag_24 c, ag_25 c]
              exact ⟨b0, b1, b2, b3, b4, b5, b6, c1, c2⟩
            · exact sc_cg (hI.sg q hq) (fun b hb => zc (22 + q) b (by omega) (by omega) (by omega) (by omega) (by omega) (by omega) (by omega)) (fun a h1 h2 => ag_o (by omega))
          · intro j hj; exact kp_cg (hI.kept j hj) (fun x y h1 h2 => zc x y (by omega) (by omega) (by omega) (by omega) (by omega) (by omega) (by omega)) hj (fun x h1 => ef x (by omega))
          · intro q h1 h3; rw [ef 0 (by omega)] at h1; rw [zc (22 + q) 6 (by omega) (by omega) (by omega) (by omega) (by omega) (by omega) (by omega), zc (22 + q) 7 (by omega) (by omega) (by omega) (by omega) (by omega) (by omega) (by omega)]; exact hI.fresh q h1 h3
        · intro q hq hd
          rw [ef 0 (by omega)] at hq
          rw [si_1, if_pos ⟨rfl, rfl⟩, e193, full_ib h16 hq] at hd
          cases hd
        · exact ⟨by rw [zc 3 1 (by omega) (by omega) (by omega) (by omega) (by omega) (by omega) (by omega)]; exact hro.1, fun j w hj => by show Z.2.1 4 j = _; rw [z22]; exact hro.2 j w hj⟩
      · rw [g1 5 4 (by omega) (by omega) (by omega)]; exact htc.wk
      · rw [g2] at h2; rw [g1 70 j (by omega) (by omega) (by omega)]; exact htc.zero j h1 h2
      · rw [g1 7 c (by omega) (by omega) (by omega), cgb_o (by omega)]; exact hI.cl c hc
    · exact q_again1 hw hi hk1 hr1 (S 37 i) 0 fu_ _ (by omega) (by unfold fu_; omega) ⟨fun _ _ _ _ => rfl, rfl, fun s hs => by omega, fun q hq => by omega⟩
end VL1
