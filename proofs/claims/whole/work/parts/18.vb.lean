/-! CALLS that change the state: by, lag, lags -/
section VB1
variable {S S' : sg_} {M Mc Mr : mm_M} {vs : List Nat} {nv : Nat → Bool} {W : Nat} {pt : Nat → List Nat}
theorem in_b {x : Int32} {a b : Nat} (ha : a < 2147483648) (hb : b < 2147483648) : f_X12_in x.toInt64 (Int64.ofNat a) (Int64.ofNat b) = bi_ (decide ((a : Int) ≤ x.toInt ∧ x.toInt ≤ (b : Int))) := by
  rw [in_eq ha hb]
  by_cases c : (a : Int) ≤ x.toInt ∧ x.toInt ≤ (b : Int)
  · rw [if_pos c, decide_eq_true c]; rfl
  · rw [if_neg c, decide_eq_false c]; rfl
theorem wf_by (hw : wf_ S) {s a b : Nat} (hs : s < S 0 28) (ha : a < 6) (hb : 1 ≤ b ∧ b ≤ 9) : wf_ (up_ (up_ S 24 s a) 25 s b) := by
  have hco : co_ S (up_ (up_ S 24 s a) 25 s b) := (co_up (by omega)).trans (co_up (by omega))
  have e : ∀ x y, ¬ (x = 24 ∨ x = 25) → up_ (up_ S 24 s a) 25 s b x y = S x y := fun x y h => by rw [up_oth (by omega), up_oth (by omega)]
  have hp1 : up_ (up_ S 24 s a) 25 s b 24 s = a := by rw [up_oth (by omega), up_same]
  have hp2 : ∀ q, q ≠ s → up_ (up_ S 24 s a) 25 s b 24 q = S 24 q := fun q hq => by rw [up_oth (by omega), up_oth (by omega)]
  have ht1 : up_ (up_ S 24 s a) 25 s b 25 s = b := up_same
  have ht2 : ∀ q, q ≠ s → up_ (up_ S 24 s a) 25 s b 25 q = S 25 q := fun q hq => by rw [up_oth (by omega), up_oth (by omega)]
  refine hco.wf hw ?_ ?_ ?_ ?_ ?_ ?_ ?_ ?_ ?_ ?_ ?_ ?_ ?_ ?_ ?_ ?_ ?_ ?_
  · rw [e 0 4 (by omega)]; exact hw.tp
  · intro j hj; rw [e 0 4 (by omega)] at hj; rw [e 2 j (by omega)]; exact hw.tape j hj
  · intro p hp; rw [e 13 p (by omega)]; exact hw.lag p hp
  · rw [e 0 28 (by omega)]; exact hw.signs
  · intro q hq; rw [e 0 28 (by omega)] at hq; rw [e 18 q (by omega)]; exact hw.kind q hq
  · intro q hq; rw [e 0 28 (by omega)] at hq; rw [e 19 q (by omega), e 0 8 (by omega)]; exact hw.one q hq
  · intro q hq; rw [e 0 28 (by omega)] at hq; rw [e 18 q (by omega), e 19 q (by omega), e 20 q (by omega), e 0 8 (by omega)]; exact hw.oth q hq
  · intro q hq; rw [e 0 28 (by omega)] at hq; rw [e 21 q (by omega)]; exact hw.year q hq
  · intro q hq; rw [e 0 28 (by omega)] at hq; rw [e 22 q (by omega)]; exact hw.pl q hq
  · intro q hq; rw [e 0 28 (by omega)] at hq; rw [e 18 q (by omega), e 23 q (by omega)]; exact hw.nm2 q hq
  · intro q hq; rw [e 0 28 (by omega)] at hq; rw [e 18 q (by omega), e 23 q (by omega)]; exact hw.nm3 q hq
  · intro q hq; rw [e 0 28 (by omega)] at hq
    by_cases c : q = s
    · rw [c, hp1]; exact ha
    · rw [hp2 q c]; exact hw.poet q hq
  · intro q hq; rw [e 0 28 (by omega)] at hq
    by_cases c : q = s
    · rw [c, ht1]; exact hb
    · rw [ht2 q c]; exact hw.trust q hq
  · intro q hq; rw [e 0 28 (by omega)] at hq; rw [e 26 q (by omega)]; exact hw.on q hq
  · intro i hi; rw [e 36 i (by omega)]; exact hw.kept i hi
  · intro i hi; rw [e 37 i (by omega), e 0 28 (by omega)]; exact hw.ks i hi
  · intro i hi q hq; rw [e 37 i (by omega)] at hq; rw [e 38 _ (by omega), e 39 _ (by omega), e 40 _ (by omega)]; exact hw.kon i hi q hq
  · intro i hi hk k hk2; rw [e 36 i (by omega)] at hk; rw [e 41 _ (by omega), e 42 _ (by omega)]; exact hw.klag i hi hk k hk2
theorem m_by (h : rl_ Mc Mr) (x1 x2 x3 : Int32) : bo_ (f_X11_by x1 x2 x3 Mc) (f_X12_by x1 x2 x3 Mr) := by
  obtain ⟨S, vs, hw, hv, hc, hr⟩ := h
  have hr1 := hr.th
  have hrl : rl_ Mc (mm_si Mr 0 0 0) := ⟨S, vs, hw, hv, hc, hr1⟩
  have h16 := hw.signs
  unfold f_X11_by f_X12_by
  rw [sq_n (x := mm_si Mr 0 0 0), c_isSign hc.2.1 hw, r_isSign hr1.1.1 hw, show (6 : Int32) = Int32.ofNat 6 from rfl, c_bl (by omega), show (5 : Int64) = Int64.ofNat 5 from rfl, r_in0 (by omega), show (1 : Int64) = Int64.ofNat 1 from rfl, show (9 : Int64) = Int64.ofNat 9 from rfl, in_b (by omega) (by omega)]
  refine bo_g hrl (fun b1 => bo_g hrl (fun b2 => ?_))
  obtain ⟨s, rfl, hs⟩ := lt_nat b1 (by omega)
  obtain ⟨a, rfl, ha⟩ := lt_nat b2 (by omega)
  have i1 : (x3 < 1) ↔ x3.toInt < 1 := Int32.lt_iff_toInt_lt
  have i9 : (x3 ≤ 9) ↔ x3.toInt ≤ 9 := Int32.le_iff_toInt_le
  by_cases c1 : x3.toInt < 1
  · rw [if_pos (i1.mpr c1), decide_eq_false (show ¬ (((1 : Nat) : Int) ≤ x3.toInt ∧ x3.toInt ≤ ((9 : Nat) : Int)) by omega), gt_f]
    exact bo_no hrl
  · rw [if_neg (fun hh => c1 (i1.mp hh))]
    by_cases c2 : x3.toInt ≤ 9
    · rw [if_pos (i9.mpr c2), decide_eq_true (show (((1 : Nat) : Int) ≤ x3.toInt ∧ x3.toInt ≤ ((9 : Nat) : Int)) by omega), gt_t]
      obtain ⟨b, rfl, hb1, hb2⟩ := in_nat (a := 1) (b := 9) (x := x3) (by omega) (by omega)
      have hco : co_ S (up_ (up_ S 24 s a) 25 s b) := (co_up (by omega)).trans (co_up (by omega))
      have e : ∀ x y, ¬ (x = 24 ∨ x = 25) → up_ (up_ S 24 s a) 25 s b x y = S x y := fun x y h => by rw [up_oth (by omega), up_oth (by omega)]
      have hix : ix_ok (Int32.ofNat s) 16 := (n3_ix (by omega)).mpr (by omega)
      have hix2 : ix_ok (Int32.ofNat s) 17 := (n3_ix (by omega)).mpr (by omega)
      have et : (Int32.ofNat s).toNatClampNeg = s := n3_tn (by omega)
      refine bo_mk (S := up_ (up_ S 24 s a) 25 s b) (vs := vs) (A := 1) (wf_by hw hs ha ⟨hb1, hb2⟩) hv ?_ ?_
      · refine wp_ck hix (wp_sr (wp_ck hix (wp_sr (wp_some ⟨rfl, ?_⟩))))
        simp only [et]
        obtain ⟨⟨W, pt, htc⟩, hI, hh, hro⟩ := hc
        have em : ∀ x y, ¬ (x = 22 + s ∧ (y = 6 ∨ y = 7)) → (mm_si (mm_si Mc (22 + s) 6 (Int32.ofNat a)) (22 + s) 7 (Int32.ofNat b)).1 x y = Mc.1 x y := fun x y h => by rw [si_1, if_neg (by omega), si_1, if_neg (by omega)]
        refine ⟨⟨W, pt, hco.tc ((htc.si (by omega) (by omega)).si (by omega) (by omega))⟩, ?_, ?_, ?_⟩
        · refine hco.ic hw hI (fun x y hab => em x y (by omega)) rfl ?_ ?_ ?_ ?_ ?_ ?_ ?_ ?_
          · rw [em 1 1 (by omega), e 0 4 (by omega)]; exact hI.tp
          · intro j hj; rw [e 0 4 (by omega)] at hj; rw [em 2 j (by omega), e 2 j (by omega)]; exact hI.tape j hj
          · intro p hp; rw [em 15 p (by omega), e 13 p (by omega)]; exact hI.lag p hp
          · rw [em 19 3 (by omega), e 0 28 (by omega)]; exact hI.told
          · rw [em 19 4 (by omega), e 0 28 (by omega), show (fun q => decide (up_ (up_ S 24 s a) 25 s b 26 q = 1)) = fun q => decide (S 26 q = 1) from funext (fun q => by rw [e 26 q (by omega)])]; exact hI.on
          · intro q hq; rw [e 0 28 (by omega)] at hq
            obtain ⟨a0, a1, a2, a3, a4, a5, a6, a7, a8⟩ := hI.sg q hq
            unfold sc_
            rw [e 18 q (by omega), e 19 q (by omega), e 20 q (by omega), e 21 q (by omega), e 22 q (by omega), e 23 q (by omega), em (22 + q) 0 (by omega), em (22 + q) 1 (by omega), em (22 + q) 2 (by omega), em (22 + q) 3 (by omega), em (22 + q) 4 (by omega), em (22 + q) 5 (by omega)]
            refine ⟨a0, a1, a2, a3, a4, a5, a6, ?_, ?_⟩
            · rw [si_1, if_neg (by omega), si_1]
              by_cases c : q = s
              · rw [if_pos (by omega), c, up_oth (by omega), up_same]
              · rw [if_neg (by omega), up_oth (by omega), up_oth (by omega)]; exact a7
            · rw [si_1]
              by_cases c : q = s
              · rw [if_pos (by omega), c, up_same]
              · rw [if_neg (by omega), si_1, if_neg (by omega), up_oth (by omega), up_oth (by omega)]; exact a8
          · intro i hi; exact kp_cg (hI.kept i hi) (fun x y h1 h2 => em x y (by omega)) hi (fun x h1 => by funext y; exact e x y (by omega))
          · intro q h1 h2; rw [e 0 28 (by omega)] at h1; rw [em (22 + q) 6 (by omega), em (22 + q) 7 (by omega)]; exact hI.fresh q h1 h2
        · intro q hq hd hi2 hhi
          rw [e 0 28 (by omega)] at hq
          rw [hco.hs] at hhi
          rw [em 19 6 (by omega)] at hd
          rw [em 21 hi2 (by omega), show ho_ (up_ (up_ S 24 s a) 25 s b) q hi2 = ho_ S q hi2 from hco.ho (fun x h1 h2 => e x q (by omega)) (e 13 _ (by omega)) no_ hi2]
          exact hh q hq hd hi2 hhi
        · exact ⟨by rw [em 3 1 (by omega)]; exact hro.1, hro.2⟩
      · refine wp_ck hix2 (wp_sr (wp_ck hix2 (wp_sr (wp_some ⟨rfl, ?_⟩))))
        simp only [et]
        exact rt_up (rt_up hr1 (fun a b h => Or.inr (pe_up (by omega) h)) (by omega)) (fun a b h => Or.inr (pe_up (by omega) h)) (by omega)
    · rw [if_neg (fun hh => c2 (i9.mp hh)), decide_eq_false (show ¬ (((1 : Nat) : Int) ≤ x3.toInt ∧ x3.toInt ≤ ((9 : Nat) : Int)) by omega), gt_f]
      exact bo_no hrl
/-! lags -/
/-- the lags become f -/
def lg_s (S : sg_) (f : Nat → Nat) : sg_ := fun a b => if a = 13 then f b else S a b
theorem lg_o {f : Nat → Nat} {x y : Nat} (h : ¬ (x = 13)) : lg_s S f x y = S x y := by unfold lg_s; rw [if_neg h]
theorem lg_13 {f : Nat → Nat} {y : Nat} : lg_s S f 13 y = f y := by unfold lg_s; rw [if_pos rfl]
theorem lg_co {f : Nat → Nat} : co_ S (lg_s S f) := ⟨fun a h1 h2 => by funext y; exact lg_o (by omega), lg_o (by omega), lg_o (by omega)⟩
theorem wf_lg (hw : wf_ S) {f : Nat → Nat} (hf : ∀ p, p < 6 → f p ≤ 200) : wf_ (lg_s S f) := by
  have e : ∀ x y, ¬ (x = 13) → lg_s S f x y = S x y := fun x y h => lg_o h
  have hl : ∀ p, p < 6 → lg_s S f 13 p ≤ 200 := fun p hp => by rw [lg_13]; exact hf p hp
  refine lg_co.wf hw ?_ ?_ ?_ ?_ ?_ ?_ ?_ ?_ ?_ ?_ ?_ ?_ ?_ ?_ ?_ ?_ ?_ ?_
  · rw [e 0 4 (by omega)]; exact hw.tp
  · intro j hj; rw [e 0 4 (by omega)] at hj; rw [e 2 j (by omega)]; exact hw.tape j hj
  · exact hl
  · rw [e 0 28 (by omega)]; exact hw.signs
  · intro q hq; rw [e 0 28 (by omega)] at hq; rw [e 18 q (by omega)]; exact hw.kind q hq
  · intro q hq; rw [e 0 28 (by omega)] at hq; rw [e 19 q (by omega), e 0 8 (by omega)]; exact hw.one q hq
  · intro q hq; rw [e 0 28 (by omega)] at hq; rw [e 18 q (by omega), e 19 q (by omega), e 20 q (by omega), e 0 8 (by omega)]; exact hw.oth q hq
  · intro q hq; rw [e 0 28 (by omega)] at hq; rw [e 21 q (by omega)]; exact hw.year q hq
  · intro q hq; rw [e 0 28 (by omega)] at hq; rw [e 22 q (by omega)]; exact hw.pl q hq
  · intro q hq; rw [e 0 28 (by omega)] at hq; rw [e 18 q (by omega), e 23 q (by omega)]; exact hw.nm2 q hq
  · intro q hq; rw [e 0 28 (by omega)] at hq; rw [e 18 q (by omega), e 23 q (by omega)]; exact hw.nm3 q hq
  · intro q hq; rw [e 0 28 (by omega)] at hq; rw [e 24 q (by omega)]; exact hw.poet q hq
  · intro q hq; rw [e 0 28 (by omega)] at hq; rw [e 25 q (by omega)]; exact hw.trust q hq
  · intro q hq; rw [e 0 28 (by omega)] at hq; rw [e 26 q (by omega)]; exact hw.on q hq
  · intro i hi; rw [e 36 i (by omega)]; exact hw.kept i hi
  · intro i hi; rw [e 37 i (by omega), e 0 28 (by omega)]; exact hw.ks i hi
  · intro i hi q hq; rw [e 37 i (by omega)] at hq; rw [e 38 _ (by omega), e 39 _ (by omega), e 40 _ (by omega)]; exact hw.kon i hi q hq
  · intro i hi hk k hk2; rw [e 36 i (by omega)] at hk; rw [e 41 _ (by omega), e 42 _ (by omega)]; exact hw.klag i hi hk k hk2
theorem pe_lg {f : Nat → Nat} {a b : Nat} (h : pe_ (lg_s S f) a b) : pe_ S a b := by
  unfold pe_ at h ⊢
  rw [lg_o (x := 0) (y := 4) (by omega), lg_o (x := 0) (y := 8) (by omega), lg_o (x := 0) (y := 11) (by omega), lg_o (x := 0) (y := 28) (by omega), lg_o (x := 5) (by omega), lg_o (x := 18) (by omega), lg_o (x := 36) (by omega), lg_o (x := 37) (by omega)] at h
  exact h
theorem rt_lg {f : Nat → Nat} {M' : mm_M} (h : rt_ S nv vs M) (hm : ∀ a b, a ≠ 13 → M'.1 a b = M.1 a b) (h2 : M'.2 = M.2) (hf : ∀ p, p < 6 → M'.1 13 p = Int32.ofNat (f p)) : rt_ (lg_s S f) nv vs M' := by
  refine ⟨⟨fun a b hp => ?_, fun l hl => by rw [hm 0 25 (by omega)]; exact h.1.2.1 l hl, ?_⟩, ?_, fun j v hv => by rw [h2]; exact h.2.2 j v hv⟩
  · by_cases c : a = 13
    · subst c
      have hb : b < 6 := by
        have := pe_lg hp
        unfold pe_ at this
        omega
      rw [hf b hb, lg_13]
    · rw [hm a b c, lg_o c]; exact h.1.1 a b (pe_lg hp)
  · show M'.1 0 26 = -1
    rw [hm 0 26 (by omega)]; exact h.1.2.2
  · rw [hm 0 1 (by omega)]; exact h.2.1
/-- the class: lags become f, signs whose places' lags change are in doubt -/
theorem cs_lg {f : Nat → Nat} {M' : mm_M} (hw : wf_ S) (h : cs_ S vs M) (hm : ∀ a b, a ≠ 15 → ¬ (a = 19 ∧ b = 6) → M'.1 a b = M.1 a b) (h2 : M'.2 = M.2) (hf : ∀ p, p < 6 → M'.1 15 p = Int32.ofNat (f p))
    (hd : ∀ s, s < S 0 28 → ib_ (M'.1 19 6) s = false → ib_ (M.1 19 6) s = false ∧ f (S 22 s) = S 13 (S 22 s)) : cs_ (lg_s S f) vs M' := by
  obtain ⟨⟨W, pt, htc⟩, hI, hh, hro⟩ := h
  have hco : co_ S (lg_s S f) := lg_co
  refine ⟨⟨W, pt, hco.tc (htc.fr (hm 5 4 (by omega) (by omega)) (by funext b; exact hm 70 b (by omega) (by omega)) (by rw [h2]) (by rw [h2]))⟩, ?_, ?_, ?_⟩
  · refine hco.ic hw hI (fun x y hab => hm x y (by omega) (by omega)) (by rw [h2]) ?_ ?_ ?_ ?_ ?_ ?_ ?_ ?_
    · rw [hm 1 1 (by omega) (by omega), lg_o (by omega)]; exact hI.tp
    · intro j hj; rw [lg_o (by omega)] at hj; rw [hm 2 j (by omega) (by omega), lg_o (by omega)]; exact hI.tape j hj
    · intro p hp; rw [hf p hp, lg_13]
    · rw [hm 19 3 (by omega) (by omega), lg_o (by omega)]; exact hI.told
    · rw [hm 19 4 (by omega) (by omega), lg_o (x := 0) (by omega), show (fun q => decide (lg_s S f 26 q = 1)) = fun q => decide (S 26 q = 1) from funext (fun q => by rw [lg_o (by omega)])]; exact hI.on
    · intro q hq; rw [lg_o (by omega)] at hq
      have h16 := hw.signs
      exact sc_cg (hI.sg q hq) (fun b hb => hm (22 + q) b (by omega) (by omega)) (fun a h1 h2 => lg_o (by omega))
    · intro i hi; exact kp_cg (hI.kept i hi) (fun x y h1 h2 => hm x y (by omega) (by omega)) hi (fun x h1 => by funext y; exact lg_o (by omega))
    · intro q h1 h3; rw [lg_o (by omega)] at h1; rw [hm (22 + q) 6 (by omega) (by omega), hm (22 + q) 7 (by omega) (by omega)]; exact hI.fresh q h1 h3
  · intro q hq hd2 hi2 hhi
    rw [lg_o (by omega)] at hq
    rw [hco.hs] at hhi
    obtain ⟨d1, d2⟩ := hd q hq hd2
    rw [hm 21 hi2 (by omega) (by omega), show ho_ (lg_s S f) q hi2 = ho_ S q hi2 from hco.ho (fun x h1 h2 => lg_o (by omega)) (by rw [lg_13]; exact d2) no_ hi2]
    exact hh q hq d1 hi2 hhi
  · exact ⟨by rw [hm 3 1 (by omega) (by omega)]; exact hro.1, fun j v hv => by rw [h2]; exact hro.2 j v hv⟩
theorem c_atPlace (hI : ic_ S M) (hw : wf_ S) {p : Nat} (hp : p < 6) : f_X6_atPlace (Int32.ofNat p) M = some (mk_b (fun s => decide (S 22 s = p)) (S 0 28)) := by
  have h16 := hw.signs
  have key : ∀ (e k n : Nat), k + e = S 0 28 → e < n → f_X6_atPlace_4l M n (Int32.ofNat p) (mk_b (fun s => decide (S 22 s = p)) k) (Int32.ofNat k) = some (mk_b (fun s => decide (S 22 s = p)) (S 0 28)) := by
    intro e
    induction e with
    | zero =>
      intro k n hk hn
      obtain ⟨m, rfl⟩ : ∃ m, n = m + 1 := ⟨n - 1, by omega⟩
      have hkk : k = S 0 28 := by omega
      unfold f_X6_atPlace_4l f_X6_atPlace_4
      rw [hI.told, if_pos ((n3_le (by omega) (by omega)).mpr (by omega)), hkk]
    | succ e ih =>
      intro k n hk hn
      obtain ⟨m, rfl⟩ : ∃ m, n = m + 1 := ⟨n - 1, by omega⟩
      have hks : k < S 0 28 := by omega
      have e1 : Int32.ofNat k + 1 = Int32.ofNat (k + 1) := n3_add k 1
      have go := ih (k + 1) m (by omega) (by omega)
      rw [show mk_b (fun s => decide (S 22 s = p)) (k + 1) = mk_b (fun s => decide (S 22 s = p)) k ||| (if decide (S 22 k = p) = true then 1 <<< (Int32.ofNat k &&& 31) else 0) from rfl] at go
      obtain ⟨-, -, -, -, -, -, a7, -⟩ := hI.sg k hks
      have hpl := hw.pl k hks
      unfold f_X6_atPlace_4l f_X6_atPlace_4 f_X6_atPlace_33
      rw [hI.told, if_neg (by rw [n3_le (by omega) (by omega)]; omega), if_pos ((n3_ix (by omega)).mpr (by omega)), n3_tn (by omega), a7]
      by_cases c : S 22 k = p
      · rw [if_pos (by rw [c]), sq_n, sq_n, e1]
        rw [if_pos (decide_eq_true c)] at go
        exact go
      · rw [if_neg (by rw [n3_eq (by omega) (by omega)]; exact c), sq_n, sq_n, e1]
        rw [if_neg (by rw [decide_eq_false c]; decide)] at go
        exact go
  exact key (S 0 28) 0 fu_ (by omega) (by unfold fu_; omega)
theorem m_lag (h : rl_ Mc Mr) (x1 x2 : Int32) : bo_ (f_X11_lag x1 x2 Mc) (f_X12_lag x1 x2 Mr) := by
  obtain ⟨S, vs, hw, hv, hc, hr⟩ := h
  have hr1 := hr.th
  have hrl : rl_ Mc (mm_si Mr 0 0 0) := ⟨S, vs, hw, hv, hc, hr1⟩
  have h16 := hw.signs
  unfold f_X11_lag f_X12_lag
  rw [sq_n (x := mm_si Mr 0 0 0), c_isPlace, show (5 : Int64) = Int64.ofNat 5 from rfl, r_in0 (by omega), show (0 : Int64) = Int64.ofNat 0 from rfl, show (200 : Int64) = Int64.ofNat 200 from rfl, in_b (by omega) (by omega)]
  refine bo_g hrl (fun b1 => ?_)
  obtain ⟨p, rfl, hp⟩ := lt_nat b1 (by omega)
  have i1 : (x2 < 0) ↔ x2.toInt < 0 := Int32.lt_iff_toInt_lt
  have i9 : (x2 ≤ 200) ↔ x2.toInt ≤ 200 := Int32.le_iff_toInt_le
  by_cases c1 : x2.toInt < 0
  · rw [if_pos (i1.mpr c1), decide_eq_false (show ¬ (((0 : Nat) : Int) ≤ x2.toInt ∧ x2.toInt ≤ ((200 : Nat) : Int)) by omega), gt_f]
    exact bo_no hrl
  · rw [if_neg (fun hh => c1 (i1.mp hh))]
    by_cases c2 : x2.toInt ≤ 200
    · rw [if_pos (i9.mpr c2), decide_eq_true (show (((0 : Nat) : Int) ≤ x2.toInt ∧ x2.toInt ≤ ((200 : Nat) : Int)) by omega), gt_t]
      obtain ⟨v, rfl, -, hv2⟩ := in_nat (a := 0) (b := 200) (x := x2) (by omega) (by omega)
      have hix : ix_ok (Int32.ofNat p) 6 := (n3_ix (by omega)).mpr hp
      have et : (Int32.ofNat p).toNatClampNeg = p := n3_tn (by omega)
      have hwl : wf_ (lg_s S (fun q => if q = p then v else S 13 q)) := wf_lg hw (fun q hq => by
        show (if q = p then v else S 13 q) ≤ 200
        split
        · omega
        · exact hw.lag q hq)
      refine bo_mk (A := Int32.ofNat (S 13 p)) hwl hv ?_ ?_
      · refine wp_ck hix (wp_sr (wp_ck hix (wp_sr ?_)))
        simp only [et, hc.2.1.lag p hp]
        have hIm : ic_ (lg_s S (fun q => if q = p then v else S 13 q)) (mm_si Mc 15 p (Int32.ofNat v)) := by
          have := cs_lg (f := fun q => if q = p then v else S 13 q) (M' := mm_si (mm_si Mc 15 p (Int32.ofNat v)) 19 6 (-1)) hw hc (fun a b h1 h2 => by rw [si_1, if_neg h2, si_1, if_neg (by omega)]) rfl (fun q hq => ?_) (fun s hs hd => ?_)
          · exact this.2.1.fr hwl.signs (fun a b hab => by symm; rw [si_1 (k := 19), if_neg (by
              have hL := hwl.laws
              have hS := hwl.signs
              unfold pc_ at hab; omega)]) (fun j _ => rfl)
          · rw [si_1, if_neg (by omega), si_1]
            by_cases c : q = p
            · rw [if_pos ⟨rfl, c⟩, if_pos c]
            · rw [if_neg (by omega), if_neg c]; exact hc.2.1.lag q hq
          · rw [si_1, if_pos ⟨rfl, rfl⟩, ib_m1 s (by omega)] at hd; cases hd
        unfold f_X6_doubtPlace
        have hat := c_atPlace hIm hwl hp
        rw [lg_o (x := 0) (y := 28) (by omega), show (fun s => decide (lg_s S (fun q => if q = p then v else S 13 q) 22 s = p)) = fun s => decide (S 22 s = p) from funext (fun s => by rw [lg_o (by omega)])] at hat
        refine wp_bd (wp_be hat (wp_sr (wp_some (wp_some ⟨rfl, ?_⟩))))
        refine cs_lg hw hc (fun a b h1 h2 => by rw [si_1, if_neg h2, si_1, if_neg (by omega)]) rfl (fun q hq => ?_) (fun s hs hd => ?_)
        · rw [si_1, if_neg (by omega), si_1]
          by_cases c : q = p
          · rw [if_pos ⟨rfl, c⟩, if_pos c]
          · rw [if_neg (by omega), if_neg c]; exact hc.2.1.lag q hq
        · rw [si_1, if_pos ⟨rfl, rfl⟩, ib_or, mk_bit (by omega) hs, si_1, if_neg (by omega)] at hd
          by_cases c : S 22 s = p
          · rw [decide_eq_true c, Bool.or_true] at hd; cases hd
          · rw [decide_eq_false c, Bool.or_false] at hd
            exact ⟨hd, by rw [if_neg c]⟩
      · refine wp_ck hix (wp_sr (wp_ck hix (wp_sr (wp_some ⟨?_, ?_⟩))))
        · show (mm_si Mr 0 0 0).1 13 (Int32.ofNat p).toNatClampNeg = _
          rw [et, hr1.1.1.lag hp]
        · simp only [et]
          refine rt_lg hr1 (fun a b h => by rw [si_1, if_neg (by omega)]) rfl (fun q hq => ?_)
          rw [si_1]
          by_cases c : q = p
          · rw [if_pos ⟨rfl, c⟩, if_pos c]
          · rw [if_neg (by omega), if_neg c]; exact hr1.1.1.lag hq
    · rw [if_neg (fun hh => c2 (i9.mp hh)), decide_eq_false (show ¬ (((0 : Nat) : Int) ≤ x2.toInt ∧ x2.toInt ≤ ((200 : Nat) : Int)) by omega), gt_f]
      exact bo_no hrl
end VB1
