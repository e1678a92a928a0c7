/-! CALLS: odds, likely -/
section WB1
variable {S : sg_} {M Mc Mr : mm_M} {vs : List Nat} {B : Nat → Bool} {s0 : Nat}
/-- a fraction in lowest terms -/
def frw_ (a b : Nat) : List Nat := [a / Nat.gcd a b, b / Nat.gcd a b]
theorem frw_rv {a b : Nat} (ha : a < 9223372036854775808) (hb : b < 9223372036854775808) : rv_ (frw_ a b) := by
  have := gcd_lt ha hb
  exact ⟨by simp [frw_], fun v hv => by
    unfold frw_ at hv
    simp only [List.mem_cons, List.not_mem_nil, or_false] at hv
    rcases hv with hv | hv <;> omega⟩
def odb_ (S : sg_) (s0 : Nat) (s : Nat) : Bool := decide (S 26 s = 1) && decide (Int32.ofNat s ≠ Int32.ofNat s0)
def odf_ (S : sg_) (B : Nat → Bool) (s0 : Nat) (h : Nat) : Nat := if ho_ S s0 h = true then wtt_ S B h else 0
theorem odf_le (hw : wf_ S) (hn : nb_ B (S 0 28) ≤ 12) : sml_ (odf_ S B s0) (hs_ S) < 9223372036854775808 := by
  have h1 := (wts_b hw hn).2
  have h2 := sml_mono (f := odf_ S B s0) (g := wtt_ S B) (hs_ S) (fun i _ => by unfold odf_; split <;> omega)
  omega
theorem k_odds_l (hw : wf_ S) (hs : s0 < S 0 28) (hc : cs_ S vs M) (hl : hl_ S M) (hg : wgc_ S B (hs_ S) M) (hn12 : nb_ B (S 0 28) ≤ 12) : ∀ (e k n : Nat), k + e = hs_ S → e < n →
    wp_ (f_X11_odds_54l n (Int32.ofNat s0) (Int64.ofNat (sml_ (wtt_ S B) (hs_ S))) (Int64.ofNat (sml_ (odf_ S B s0) k)) (Int32.ofNat k) M) (fun z => z.1 = 0 ∧ cs_ S (frw_ (sml_ (odf_ S B s0) (hs_ S)) (sml_ (wtt_ S B) (hs_ S))) z.2) := by
  have h600 := hw.hist
  have h16 := hw.signs
  intro e
  induction e with
  | zero =>
    intro k n hk hn
    obtain ⟨m, rfl⟩ : ∃ m, n = m + 1 := ⟨n - 1, by omega⟩
    have hkk : k = hs_ S := by omega
    unfold f_X11_odds_54l f_X11_odds_54 f_X11_odds_100
    rw [hc.2.1.hs, if_pos ((n3_le (by omega) (by omega)).mpr (by omega)), hkk]
    exact wp_sr (wp_bd (wp_mo ((hc.clear hw).frac hw (by simp) (odf_le hw hn12) (wts_b hw hn12).2 (wts_b hw hn12).1) (fun u hu => wp_some ⟨rfl, hu.1⟩)))
  | succ e ih =>
    intro k n hk hn
    obtain ⟨m, rfl⟩ : ∃ m, n = m + 1 := ⟨n - 1, by omega⟩
    have e1 : Int32.ofNat k + 1 = Int32.ofNat (k + 1) := n3_add k 1
    have hkh : k < hs_ S := by omega
    have go := ih (k + 1) m (by omega) (by omega)
    rw [show sml_ (odf_ S B s0) (k + 1) = sml_ (odf_ S B s0) k + odf_ S B s0 k from rfl] at go
    unfold f_X11_odds_54l f_X11_odds_54 f_X11_odds_94
    rw [hc.2.1.hs, if_neg (by rw [n3_le (by omega) (by omega)]; omega)]
    refine wp_be (c_held hw hkh) ?_
    rw [ib_bit (by omega), hl s0 k hs hkh]
    by_cases c : ho_ S s0 k = true
    · rw [if_pos c, if_neg (by decide)]
      refine wp_ck ((n3_ix (by omega)).mpr (by omega)) (wp_sr (wp_sr ?_))
      rw [n3_tn (by omega), hg k hkh, n6_add, e1]
      rw [show odf_ S B s0 k = wtt_ S B k by unfold odf_; rw [if_pos c]] at go
      exact go
    · rw [if_neg c, if_pos (by decide)]
      refine wp_sr ?_
      rw [show odf_ S B s0 k = 0 by unfold odf_; rw [if_neg c], Nat.add_zero] at go
      rw [e1]
      exact go
theorem q_odds_l (hw : wf_ S) (hs : s0 < S 0 28) (hn12 : nb_ (odb_ S s0) (S 0 28) ≤ 12) : ∀ (e k n : Nat) (M : mm_M), k + e = hs_ S → e < n → rt_ S no_ vs M →
    wp_ (f_X12_odds_39l n (Int32.ofNat s0) (Int64.ofNat (sml_ (odf_ S (odb_ S s0) s0) k)) (Int64.ofNat (sml_ (wtt_ S (odb_ S s0)) k)) (Int32.ofNat (hs_ S)) (Int32.ofNat k) M) (fun z => z.1 = 0 ∧ rt_ S no_ (frw_ (sml_ (odf_ S (odb_ S s0) s0) (hs_ S)) (sml_ (wtt_ S (odb_ S s0)) (hs_ S))) z.2) := by
  have h600 := hw.hist
  intro e
  induction e with
  | zero =>
    intro k n M hk hn hr
    obtain ⟨m, rfl⟩ : ∃ m, n = m + 1 := ⟨n - 1, by omega⟩
    have hkk : k = hs_ S := by omega
    unfold f_X12_odds_39l f_X12_odds_39 f_X12_odds_87
    rw [if_pos ((n3_le (by omega) (by omega)).mpr (by omega)), hkk]
    exact wp_sr (wp_bd (wp_mo (r_frac (rr_nil hr) (by simp) (odf_le hw hn12) (wts_b hw hn12).2 (wts_b hw hn12).1) (fun u hu => wp_some ⟨rfl, hu.1⟩)))
  | succ e ih =>
    intro k n M hk hn hr
    obtain ⟨m, rfl⟩ : ∃ m, n = m + 1 := ⟨n - 1, by omega⟩
    have e1 : Int32.ofNat k + 1 = Int32.ofNat (k + 1) := n3_add k 1
    unfold f_X12_odds_39l f_X12_odds_39 f_X12_odds_79
    rw [if_neg (by rw [n3_le (by omega) (by omega)]; omega)]
    refine wp_bd (wp_mo (r_weight (B := odb_ S s0) hw (fun s _ => rfl) (show k < 600 by omega) hr.1) (fun z hz => wp_sr ?_))
    have hr1 := hr.fr2 hz.2
    refine wp_bd (wp_mo (r_heldS hr1.1 hw hs (show k < 2147483648 by omega)) (fun u hu => ?_))
    have hr2 := hr1.fr2 hu.1
    have go := ih (k + 1) m u.2 (by omega) (by omega) hr2
    rw [show sml_ (odf_ S (odb_ S s0) s0) (k + 1) = sml_ (odf_ S (odb_ S s0) s0) k + odf_ S (odb_ S s0) s0 k from rfl, show sml_ (wtt_ S (odb_ S s0)) (k + 1) = sml_ (wtt_ S (odb_ S s0)) k + wtt_ S (odb_ S s0) k from rfl] at go
    rw [hu.2, hz.1, n6_add]
    by_cases c : ho_ S s0 k = true
    · rw [show ho_n S no_ s0 k = true from c, if_neg (by decide)]
      refine wp_sr (wp_sr ?_)
      rw [show odf_ S (odb_ S s0) s0 k = wtt_ S (odb_ S s0) k by unfold odf_; rw [if_pos c]] at go
      rw [n6_add, e1]
      exact go
    · rw [show ho_n S no_ s0 k = false from by
        cases hq : ho_n S no_ s0 k with
        | false => rfl
        | true => exact absurd hq c, if_pos (by decide)]
      refine wp_sr (wp_sr ?_)
      rw [show odf_ S (odb_ S s0) s0 k = 0 by unfold odf_; rw [if_neg c], Nat.add_zero] at go
      rw [Int64.add_zero, e1]
      exact go
theorem m_odds (hrl0 : rl_ Mc Mr) (x1 : Int32) : bo_ (f_X11_odds x1 Mc) (f_X12_odds x1 Mr) := by
  obtain ⟨S, vs, hw, hv, hc, hr⟩ := hrl0
  have hr1 := hr.th
  have hrl : rl_ Mc (mm_si Mr 0 0 0) := ⟨S, vs, hw, hv, hc, hr1⟩
  have h600 := hw.hist
  have h16 := hw.signs
  unfold f_X11_odds f_X12_odds
  rw [sq_n (x := mm_si Mr 0 0 0), c_isSign hc.2.1 hw, r_isSign hr1.1.1 hw]
  refine bo_g hrl (fun b1 => ?_)
  obtain ⟨s0, rfl, hs⟩ := lt_nat b1 (by omega)
  have hon : (Mc.1 19 4) &&& (((1 : Int32) <<< (Int32.ofNat s0 &&& 31)) ^^^ (-1)) = mk_b (odb_ S s0) (S 0 28) := by
    apply ib_ext
    intro i hi
    rw [ib_and, ib_not hi, ib_shl s0 (by omega) i hi, hc.2.1.on, mk_ib _ (by omega) i hi, mk_ib _ (by omega) i hi, Bool.and_assoc]
    congr 1
    unfold odb_
    congr 1
    by_cases c : i = s0
    · rw [decide_eq_true c, decide_eq_false (p := Int32.ofNat i ≠ Int32.ofNat s0) (fun hh => hh (by rw [c]))]; rfl
    · rw [decide_eq_false c, decide_eq_true (p := Int32.ofNat i ≠ Int32.ofNat s0) (fun hh => c ((n3_eq (by omega) (by omega)).mp hh))]; rfl
  have hnb := nb_le (f := odb_ S s0) (S 0 28)
  rw [hon, sq_n, sq_n, bc_mk (by omega), q_onMany hr1.1.1 hw, Option.bind_some]
  show bo_ (if Int32.ofNat (nb_ (odb_ S s0) (S 0 28)) ≤ 12 then _ else _) (if Int32.ofNat (nb_ (odb_ S s0) (S 0 28)) ≤ 12 then _ else _)
  by_cases c : nb_ (odb_ S s0) (S 0 28) ≤ 12
  · have c2 : Int32.ofNat (nb_ (odb_ S s0) (S 0 28)) ≤ 12 := (n3_le (b := 12) (by omega) (by omega)).mpr c
    rw [if_pos c2, if_pos c2]
    refine bo_mk (S := S) (vs := frw_ (sml_ (odf_ S (odb_ S s0) s0) (hs_ S)) (sml_ (wtt_ S (odb_ S s0)) (hs_ S))) (A := 0) hw (frw_rv (odf_le hw c) (wts_b hw c).2) ?_ ?_
    · refine wp_bd (wp_mo (hc.look hw) (fun z hz => ?_))
      unfold f_X11_odds_42
      refine wp_bd (wp_mo (c_weighAll (B := odb_ S s0) hw (fun s hs => mk_bit (by omega) hs) hz.1 hz.2.1) (fun u hu => ?_))
      rw [hu.1]
      exact k_odds_l hw hs hu.2.1 hu.2.2.1 hu.2.2.2 c (hs_ S) 0 fu_ (by omega) (by unfold fu_; omega)
    · refine wp_be (r_hist hr1.1.1 hw) ?_
      exact q_odds_l hw hs c (hs_ S) 0 fu_ _ (by omega) (by unfold fu_; omega) hr1
  · have c2 : ¬ (Int32.ofNat (nb_ (odb_ S s0) (S 0 28)) ≤ 12) := fun hh => c ((n3_le (b := 12) (by omega) (by omega)).mp hh)
    rw [if_neg c2, if_neg c2]
    exact bo_no hrl
/-! likely -/
/-- the first of the greatest among 0 .. k -/
def abx_ (f : Nat → Nat) : Nat → Nat
  | 0 => 0
  | k + 1 => if f (k + 1) ≤ f (abx_ f k) then abx_ f k else k + 1
theorem abx_le {f : Nat → Nat} : ∀ k, abx_ f k ≤ k := by
  intro k
  induction k with
  | zero => exact Nat.le_refl _
  | succ k ih =>
    unfold abx_
    split <;> omega
theorem c_many (hI : ic_ S M) (hw : wf_ S) : f_X11_tooManyToWeigh M = bi_ (!decide (nb_ (onb_ S) (S 0 28) ≤ 12)) := by
  have h16 := hw.signs
  have hnb := nb_le (f := onb_ S) (S 0 28)
  unfold f_X11_tooManyToWeigh
  rw [hI.on, sq_n, show mk_b (fun s => decide (S 26 s = 1)) (S 0 28) = mk_b (onb_ S) (S 0 28) from rfl, bc_mk (by omega)]
  by_cases c : nb_ (onb_ S) (S 0 28) ≤ 12
  · rw [if_pos (show Int32.ofNat (nb_ (onb_ S) (S 0 28)) ≤ (12 : Int32) from (n3_le (b := 12) (by omega) (by omega)).mpr c), decide_eq_true c]; rfl
  · rw [if_neg (show ¬ (Int32.ofNat (nb_ (onb_ S) (S 0 28)) ≤ (12 : Int32)) from fun hh => c ((n3_le (b := 12) (by omega) (by omega)).mp hh)), decide_eq_false c]; rfl
theorem r_many (hI : ir_ S M) (hw : wf_ S) : f_X12_onMany (-1) M = some (Int32.ofNat (nb_ (onb_ S) (S 0 28))) := by
  rw [q_onMany hI hw, nb_cg (S 0 28) (fun i hi => (onb_1 hw i hi).symm)]
/-- the same guard on both sides -/
theorem bo_many (hI : ic_ S Mc) (hI2 : ir_ S Mr) (hw : wf_ S) (hrl : rl_ Mc Mr) {Xc : Option (Int32 × mm_M)} {Xr : Option (Int32 × mm_M)} (hx : nb_ (onb_ S) (S 0 28) ≤ 12 → bo_ Xc Xr) :
    bo_ (sq_ (f_X11_tooManyToWeigh Mc) fun z => if z = 0 then Xc else some ((-1 : Int32), Mc)) ((f_X12_onMany (-1) Mr).bind fun z => if z ≤ 12 then Xr else some ((-1 : Int32), Mr)) := by
  have h16 := hw.signs
  have hnb := nb_le (f := onb_ S) (S 0 28)
  rw [c_many hI hw, r_many hI2 hw, sq_n, Option.bind_some]
  by_cases c : nb_ (onb_ S) (S 0 28) ≤ 12
  · rw [if_pos (show Int32.ofNat (nb_ (onb_ S) (S 0 28)) ≤ (12 : Int32) from (n3_le (b := 12) (by omega) (by omega)).mpr c), decide_eq_true c, if_pos (by rfl)]; exact hx c
  · rw [if_neg (show ¬ (Int32.ofNat (nb_ (onb_ S) (S 0 28)) ≤ (12 : Int32)) from fun hh => c ((n3_le (b := 12) (by omega) (by omega)).mp hh)), decide_eq_false c, if_neg (by decide)]; exact bo_no hrl
theorem k_likely_l (hw : wf_ S) (hc : cs_ S vs M) (hg : wgc_ S B (hs_ S) M) (hn12 : nb_ B (S 0 28) ≤ 12) : ∀ (e k n : Nat), k + 1 + e = hs_ S → e < n →
    wp_ (f_X11_likely_33l n (Int64.ofNat (sml_ (wtt_ S B) (hs_ S))) (Int32.ofNat (abx_ (wtt_ S B) k)) (Int32.ofNat (k + 1)) M) (fun z => z.1 = Int32.ofNat (abx_ (wtt_ S B) (hs_ S - 1)) ∧ cs_ S (frw_ (wtt_ S B (abx_ (wtt_ S B) (hs_ S - 1))) (sml_ (wtt_ S B) (hs_ S))) z.2) := by
  have h600 := hw.hist
  intro e
  induction e with
  | zero =>
    intro k n hk hn
    obtain ⟨m, rfl⟩ : ∃ m, n = m + 1 := ⟨n - 1, by omega⟩
    have hkk : k = hs_ S - 1 := by omega
    have hle := abx_le (f := wtt_ S B) k
    have hb := wtt_b (h := abx_ (wtt_ S B) (hs_ S - 1)) hw hn12
    unfold f_X11_likely_33l f_X11_likely_33 f_X11_likely_71
    rw [hc.2.1.hs, if_pos ((n3_le (by omega) (by omega)).mpr (by omega))]
    refine wp_sr (wp_ck ((n3_ix (by omega)).mpr (by omega)) ?_)
    rw [n3_tn (by omega), show (f_X4_clear M).2.1 67 (abx_ (wtt_ S B) k) = M.2.1 67 (abx_ (wtt_ S B) k) from rfl, hg _ (by omega), hkk]
    exact wp_bd (wp_mo ((hc.clear hw).frac hw (by simp) (by omega) (wts_b hw hn12).2 (wts_b hw hn12).1) (fun u hu => wp_some ⟨rfl, hu.1⟩))
  | succ e ih =>
    intro k n hk hn
    obtain ⟨m, rfl⟩ : ∃ m, n = m + 1 := ⟨n - 1, by omega⟩
    have e1 : Int32.ofNat (k + 1) + 1 = Int32.ofNat (k + 1 + 1) := n3_add (k + 1) 1
    have hle := abx_le (f := wtt_ S B) k
    have go := ih (k + 1) m (by omega) (by omega)
    have hs2 : abx_ (wtt_ S B) (k + 1) = if wtt_ S B (k + 1) ≤ wtt_ S B (abx_ (wtt_ S B) k) then abx_ (wtt_ S B) k else k + 1 := rfl
    have b1 := wtt_b (h := k + 1) hw hn12
    have b2 := wtt_b (h := abx_ (wtt_ S B) k) hw hn12
    unfold f_X11_likely_33l f_X11_likely_33 f_X11_likely_65
    rw [hc.2.1.hs, if_neg (by rw [n3_le (by omega) (by omega)]; omega)]
    refine wp_ck ((n3_ix (by omega)).mpr (by omega)) (wp_ck ((n3_ix (by omega)).mpr (by omega)) ?_)
    rw [n3_tn (by omega), n3_tn (by omega), hg _ (by omega), hg _ (by omega)]
    by_cases c : wtt_ S B (k + 1) ≤ wtt_ S B (abx_ (wtt_ S B) k)
    · rw [if_pos ((n6_le (by omega) (by omega)).mpr c)]
      rw [if_pos c] at hs2
      refine wp_sr ?_
      rw [hs2] at go
      rw [e1]; exact go
    · rw [if_neg (fun hh => c ((n6_le (by omega) (by omega)).mp hh))]
      rw [if_neg c] at hs2
      refine wp_sr ?_
      rw [hs2] at go
      rw [e1]; exact go
theorem q_likely_l (hw : wf_ S) (hr : rt_ S no_ vs M) (hg : wgq_ S (hs_ S) M) (hn12 : nb_ (onb_ S) (S 0 28) ≤ 12) : ∀ (e k n : Nat), k + 1 + e = hs_ S → e < n →
    wp_ (f_X12_likely_33l n (Int64.ofNat (sml_ (wtt_ S (onb_ S)) (hs_ S))) (Int32.ofNat (abx_ (wtt_ S (onb_ S)) k)) (Int32.ofNat (hs_ S)) (Int32.ofNat (k + 1)) M) (fun z => z.1 = Int32.ofNat (abx_ (wtt_ S (onb_ S)) (hs_ S - 1)) ∧ rt_ S no_ (frw_ (wtt_ S (onb_ S) (abx_ (wtt_ S (onb_ S)) (hs_ S - 1))) (sml_ (wtt_ S (onb_ S)) (hs_ S))) z.2) := by
  have h600 := hw.hist
  intro e
  induction e with
  | zero =>
    intro k n hk hn
    obtain ⟨m, rfl⟩ : ∃ m, n = m + 1 := ⟨n - 1, by omega⟩
    have hkk : k = hs_ S - 1 := by omega
    have hle := abx_le (f := wtt_ S (onb_ S)) k
    have hb := wtt_b (h := abx_ (wtt_ S (onb_ S)) (hs_ S - 1)) hw hn12
    unfold f_X12_likely_33l f_X12_likely_33 f_X12_likely_70
    rw [if_pos ((n3_le (by omega) (by omega)).mpr (by omega))]
    refine wp_sr (wp_ck ((n3_ix (by omega)).mpr (by omega)) ?_)
    rw [n3_tn (by omega), si_2, hg _ (by omega), hkk]
    exact wp_bd (wp_mo (r_frac (rr_nil hr) (by simp) (by omega) (wts_b hw hn12).2 (wts_b hw hn12).1) (fun u hu => wp_some ⟨rfl, hu.1⟩))
  | succ e ih =>
    intro k n hk hn
    obtain ⟨m, rfl⟩ : ∃ m, n = m + 1 := ⟨n - 1, by omega⟩
    have e1 : Int32.ofNat (k + 1) + 1 = Int32.ofNat (k + 1 + 1) := n3_add (k + 1) 1
    have hle := abx_le (f := wtt_ S (onb_ S)) k
    have go := ih (k + 1) m (by omega) (by omega)
    have hs2 : abx_ (wtt_ S (onb_ S)) (k + 1) = if wtt_ S (onb_ S) (k + 1) ≤ wtt_ S (onb_ S) (abx_ (wtt_ S (onb_ S)) k) then abx_ (wtt_ S (onb_ S)) k else k + 1 := rfl
    have b1 := wtt_b (h := k + 1) hw hn12
    have b2 := wtt_b (h := abx_ (wtt_ S (onb_ S)) k) hw hn12
    unfold f_X12_likely_33l f_X12_likely_33 f_X12_likely_63
    rw [if_neg (by rw [n3_le (by omega) (by omega)]; omega)]
    refine wp_ck ((n3_ix (by omega)).mpr (by omega)) (wp_ck ((n3_ix (by omega)).mpr (by omega)) ?_)
    rw [n3_tn (by omega), n3_tn (by omega), hg _ (by omega), hg _ (by omega)]
    by_cases c : wtt_ S (onb_ S) (k + 1) ≤ wtt_ S (onb_ S) (abx_ (wtt_ S (onb_ S)) k)
    · rw [if_pos ((n6_le (by omega) (by omega)).mpr c)]
      rw [if_pos c] at hs2
      refine wp_sr ?_
      rw [hs2] at go
      rw [e1]; exact go
    · rw [if_neg (fun hh => c ((n6_le (by omega) (by omega)).mp hh))]
      rw [if_neg c] at hs2
      refine wp_sr ?_
      rw [hs2] at go
      rw [e1]; exact go
theorem m_likely (hrl0 : rl_ Mc Mr) : bo_ (f_X11_likely Mc) (f_X12_likely Mr) := by
  obtain ⟨S, vs, hw, hv, hc, hr⟩ := hrl0
  have hr1 := hr.th
  have hrl : rl_ Mc (mm_si Mr 0 0 0) := ⟨S, vs, hw, hv, hc, hr1⟩
  have h600 := hw.hist
  have h16 := hw.signs
  have h1 := hs_pos hw
  unfold f_X11_likely f_X12_likely
  rw [sq_n (x := mm_si Mr 0 0 0)]
  refine bo_many hc.2.1 hr1.1.1 hw hrl (fun c => ?_)
  have hb := wtt_b (h := abx_ (wtt_ S (onb_ S)) (hs_ S - 1)) hw c
  refine bo_mk (S := S) (vs := frw_ (wtt_ S (onb_ S) (abx_ (wtt_ S (onb_ S)) (hs_ S - 1))) (sml_ (wtt_ S (onb_ S)) (hs_ S))) (A := Int32.ofNat (abx_ (wtt_ S (onb_ S)) (hs_ S - 1))) hw (frw_rv (by omega) (wts_b hw c).2) ?_ ?_
  · refine wp_bd (wp_mo (hc.look hw) (fun z hz => ?_))
    unfold f_X11_likely_16
    refine wp_bd (wp_mo (c_weighAll (B := onb_ S) hw (fun s hs => by rw [hz.1.2.1.on]; exact mk_bit (by omega) hs) hz.1 hz.2.1) (fun u hu => ?_))
    rw [hu.1]
    exact k_likely_l hw hu.2.1 hu.2.2.2 c (hs_ S - 1) 0 fu_ (by omega) (by unfold fu_; omega)
  · refine wp_bd (wp_mo (r_weighs hw hr1) (fun z hz => ?_))
    refine wp_be (r_hist hz.2.1.1.1 hw) ?_
    rw [hz.1]
    exact q_likely_l hw hz.2.1 hz.2.2 c (hs_ S - 1) 0 fu_ (by omega) (by unfold fu_; omega)
end WB1
