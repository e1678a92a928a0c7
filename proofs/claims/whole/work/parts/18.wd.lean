/-! CALLS: then, right -/
section WD1
variable {S : sg_} {M Mc Mr : mm_M} {vs : List Nat} {B : Nat → Bool} {w y p h : Nat}
theorem pkw_div : ∀ (n : Nat) (r a : List Nat), r.length = n → (∀ x, x ∈ r → x < 16) → pk_ (a ++ r) / 16 ^ n = pk_ a := by
  intro n
  induction n with
  | zero =>
    intro r a hr _
    rw [List.length_eq_zero_iff.mp hr, List.append_nil, Nat.pow_zero, Nat.div_one]
  | succ n ih =>
    intro r a hr hx
    rcases List.eq_nil_or_concat r with hh | ⟨r', x, hh⟩
    · rw [hh] at hr; simp at hr
    · rw [List.concat_eq_append] at hh
      subst hh
      have h1 := hx x (by simp)
      have h2 := ih r' a (by simpa using hr) (fun z hz => hx z (by simp [hz]))
      rw [← List.append_assoc, pk_s, Nat.pow_succ', ← Nat.div_div_eq_div_mul, show (16 * pk_ (a ++ r') + x) / 16 = pk_ (a ++ r') by omega]
      exact h2
theorem pkw_at {pre r : List Nat} {x : Nat} (hx : ∀ z, z ∈ x :: r → z < 16) : pk_ (pre ++ x :: r) / 16 ^ r.length % 16 = x := by
  have h1 := pkw_div r.length r (pre ++ [x]) rfl (fun z hz => hx z (by simp [hz]))
  rw [List.append_assoc] at h1
  have h2 : pre ++ x :: r = pre ++ ([x] ++ r) := rfl
  have h3 := hx x (by simp)
  rw [h2, h1, pk_s]
  omega
theorem r_long : ∀ (l : Nat) (xs : List Nat) (a n : Nat), xs.length = l → l ≤ 8 → (∀ x, x ∈ xs → x < 16) → l < n → f_X12_longOf_4l n (Int32.ofNat a) (Int64.ofNat (pk_ xs)) = some (Int32.ofNat (a + l)) := by
  intro l
  induction l with
  | zero =>
    intro xs a n hl h8 hx hn
    obtain ⟨m, rfl⟩ : ∃ m, n = m + 1 := ⟨n - 1, by omega⟩
    rw [List.length_eq_zero_iff.mp hl]
    unfold f_X12_longOf_4l f_X12_longOf_4
    rw [if_pos (show Int64.ofNat (pk_ []) ≤ 1 by decide)]; rfl
  | succ l ih =>
    intro xs a n hl h8 hx hn
    obtain ⟨m, rfl⟩ : ∃ m, n = m + 1 := ⟨n - 1, by omega⟩
    rcases List.eq_nil_or_concat xs with hh | ⟨r', x, hh⟩
    · rw [hh] at hl; simp at hl
    · rw [List.concat_eq_append] at hh
      subst hh
      have hb := pk_bd (l + 1) (r' ++ [x]) hl hx
      have hok := pkk_lt (xs := r' ++ [x]) ⟨by omega, hx⟩
      have h1 := hx x (by simp)
      have hp : 16 ^ 1 ≤ 16 ^ (l + 1) := Nat.pow_le_pow_right (n := 16) (by omega) (by omega)
      unfold f_X12_longOf_4l f_X12_longOf_4
      rw [if_neg (show ¬ (Int64.ofNat (pk_ (r' ++ [x])) ≤ 1) from fun hh => by have := (n6_le (b := 1) (by omega) (by omega)).mp hh; omega), sq_n, sq_n, show (4 : Int32).toInt64 = Int64.ofNat 4 by decide, n6_shr (by omega) (by omega), pk_s, show (16 * pk_ r' + x) / 2 ^ 4 = pk_ r' by omega, show Int32.ofNat a + 1 = Int32.ofNat (a + 1) from n3_add a 1,
        ih r' (a + 1) m (by simpa using hl) (by omega) (fun z hz => hx z (by simp [hz])) (by omega), show a + 1 + l = a + (l + 1) by omega]
theorem q_then_l {xs : List Nat} (hx : ok_ xs) {b : Nat} (hb : b < 600) (hv : vs.length ≤ 4) : ∀ (rest pre : List Nat) (n : Nat) (M : mm_M), xs = pre ++ rest → rest.length < n → rt_ S no_ (vs ++ pre) M → M.2.1 28 b = Int64.ofNat (pk_ xs) →
    wp_ (f_X12_then_84l n (Int32.ofNat b) (Int32.ofNat xs.length) (Int32.ofNat rest.length + (-1)) M) (fun z => z.1 = Int32.ofNat xs.length ∧ rt_ S no_ (vs ++ xs) z.2) := by
  have h8 := hx.1
  intro rest
  induction rest with
  | nil =>
    intro pre n M e1 hn hr h28
    obtain ⟨m, rfl⟩ : ∃ m, n = m + 1 := ⟨n - 1, by omega⟩
    rw [List.append_nil] at e1
    subst e1
    unfold f_X12_then_84l f_X12_then_84
    rw [if_pos (by decide)]
    exact wp_some ⟨rfl, hr⟩
  | cons x r ih =>
    intro pre n M e1 hn hr h28
    obtain ⟨m, rfl⟩ : ∃ m, n = m + 1 := ⟨n - 1, by omega⟩
    have hl : xs.length = pre.length + (r.length + 1) := by rw [e1]; simp
    have hlt := pkk_lt hx
    have hat : pk_ xs / 2 ^ (4 * r.length) % 16 = x := by
      rw [p16, e1]
      exact pkw_at (fun z hz => hx.2 z (by rw [e1]; exact List.mem_append_right _ hz))
    unfold f_X12_then_84l f_X12_then_84
    rw [show Int32.ofNat (x :: r).length + (-1) = Int32.ofNat r.length by rw [List.length_cons]; exact n3_pred (by omega), if_neg (show ¬ (Int32.ofNat r.length < 0) from fun hh => (n3_neg (by omega)).mp hh)]
    refine wp_ck ((n3_ix (by omega)).mpr hb) ?_
    rw [n3_tn (by omega), h28, show (4 : Int32) * Int32.ofNat r.length = Int32.ofNat (4 * r.length) from n3_mul 4 _, n3_6 (by omega), n6_shr (by omega) (by omega), show (15 : Int64) = Int64.ofNat (2 ^ 4 - 1) from rfl, n6_and, nt_and, show (2 : Nat) ^ 4 = 16 from rfl, hat]
    refine wp_bd (wp_mo (r_ent hr (by simp; omega) x) (fun u hu => wp_sr ?_))
    refine ih (pre ++ [x]) m u (by rw [e1]; simp) (by simp at hn; omega) (by rw [← List.append_assoc]; exact hu.1) ?_
    rw [hu.2.2.1 28 (by omega)]; exact h28
theorem m_then (hrl0 : rl_ Mc Mr) (x1 x2 x3 : Int32) : bo_ (f_X11_then x1 x2 x3 Mc) (f_X12_then x1 x2 x3 Mr) := by
  obtain ⟨S, vs, hw, hv, hc, hr⟩ := hrl0
  have hr1 := hr.th
  have hrl : rl_ Mc (mm_si Mr 0 0 0) := ⟨S, vs, hw, hv, hc, hr1⟩
  have h600 := hw.hist
  have h16 := hw.signs
  have h20 := hw.words
  unfold f_X11_then f_X12_then
  rw [sq_n (x := mm_si Mr 0 0 0), c_isWord hc.2.1 hw, c_isYear, c_isPlace, r_isWord hr1.1.1 hw, r_isThen]
  refine bo_g hrl (fun b1 => bo_g2 hrl (fun b2 b3 => ?_))
  obtain ⟨w, rfl, hwd⟩ := lt_nat b1 (by omega)
  obtain ⟨y, rfl, hy⟩ := lt_nat b2 (by omega)
  obtain ⟨p, rfl, hp⟩ := lt_nat b3 (by omega)
  refine bo_many hc.2.1 hr1.1.1 hw hrl (fun c => ?_)
  have hsm := wts_b (B := onb_ S) hw c
  have hbo := bsq_ok (B := onb_ S) (y := y) (p := p) hw hwd
  have hbl := bsq_lt (B := onb_ S) (y := y) (p := p) hw hwd c
  have hb6 := bsn_600 (B := onb_ S) (y := y) (p := p) hw hwd
  have hat := bsq_at (B := onb_ S) (y := y) (p := p) hw hwd
  have hfr := frw_rv hbl hsm.2
  have hb8 := hbo.1
  refine bo_mk (S := S) (vs := frw_ (bsq_ S (onb_ S) w y p).2 (sml_ (wtt_ S (onb_ S)) (hs_ S)) ++ (bsq_ S (onb_ S) w y p).1) (A := Int32.ofNat (bsq_ S (onb_ S) w y p).1.length) hw ⟨by rw [List.length_append]; simp [frw_]; omega, fun v hv2 => by
    rw [List.mem_append] at hv2
    rcases hv2 with hv2 | hv2
    · exact hfr.2 v hv2
    · have := hbo.2 v hv2; omega⟩ ?_ ?_
  · refine wp_bd (wp_mo (hc.look hw) (fun z hz => ?_))
    unfold f_X11_then_38
    refine wp_bd (wp_mo (c_weighAll (B := onb_ S) hw (fun s hs => by rw [hz.1.2.1.on]; exact mk_bit (by omega) hs) hz.1 hz.2.1) (fun u hu => ?_))
    rw [hu.1]
    refine wp_bd (wp_mo (c_walk hw hy hp hu.2.1) (fun t ht => ?_))
    unfold f_X11_then_57
    refine wp_bd (wp_mo (k_lway (B := onb_ S) hw hwd c ht.1 ht.2.1 (fun q hq => by rw [ht.2.2]; exact hu.2.2.2 q hq)) (fun v hv2 => wp_sr ?_))
    obtain ⟨v1, v2, v3, v4, v5⟩ := hv2
    have hix : ix_ok v.1 600 := by rw [v1]; exact (n3_ix (by omega)).mpr hb6
    refine wp_ck hix ?_
    have e41 : (f_X4_clear v.2).2.1 41 v.1.toNatClampNeg = Int64.ofNat (bsq_ S (onb_ S) w y p).2 := by
      rw [v1, n3_tn (by omega)]; exact (v5.2 _ _ hat).2
    have e40 : (f_X4_clear v.2).2.1 40 v.1.toNatClampNeg = Int64.ofNat (en_ (bsq_ S (onb_ S) w y p).1) := by
      rw [v1, n3_tn (by omega)]; exact (v5.2 _ _ hat).1
    rw [e41]
    refine wp_bd (wp_mo ((v2.clear hw).frac hw (by simp) hbl hsm.2 hsm.1) (fun r hr2 => wp_ck hix ?_))
    rw [hr2.2.1.2 40 (by omega) (by omega), e40]
    exact wp_bd (wp_mo (k_tell hr2.1 hw hbo (by simp)) (fun q hq => wp_some ⟨hq.1, hq.2⟩))
  · refine wp_bd (wp_mo (r_weighs hw hr1) (fun z hz => ?_))
    refine wp_bd (wp_mo (q_lway hw hwd hy hp c hz.2.1 hz.2.2) (fun v hv2 => ?_))
    obtain ⟨v1, v2, v3, v4⟩ := hv2
    have hix : ix_ok v.1 600 := by rw [v1]; exact (n3_ix (by omega)).mpr hb6
    refine wp_ck hix ?_
    have e28 : v.2.2.1 28 v.1.toNatClampNeg = Int64.ofNat (pk_ (bsq_ S (onb_ S) w y p).1) := by
      rw [v1, n3_tn (by omega)]; exact (v4.2 _ _ hat).1
    have e29 : v.2.2.1 29 v.1.toNatClampNeg = Int64.ofNat (bsq_ S (onb_ S) w y p).2 := by
      rw [v1, n3_tn (by omega)]; exact (v4.2 _ _ hat).2
    have hlo : f_X12_longOf (Int64.ofNat (pk_ (bsq_ S (onb_ S) w y p).1)) = some (Int32.ofNat (bsq_ S (onb_ S) w y p).1.length) := by
      have := r_long _ (bsq_ S (onb_ S) w y p).1 0 fu_ rfl hb8 hbo.2 (by unfold fu_; omega)
      rw [Nat.zero_add] at this
      exact this
    rw [e28]
    refine wp_be hlo (wp_sr (wp_ck hix ?_))
    rw [si_2, e29, hz.1]
    refine wp_bd (wp_mo (r_frac (rr_nil v2) (by simp) hbl hsm.2 hsm.1) (fun r hr2 => wp_sr ?_))
    rw [v1, Int32.sub_eq_add_neg]
    refine q_then_l (vs := frw_ (bsq_ S (onb_ S) w y p).2 (sml_ (wtt_ S (onb_ S)) (hs_ S))) hbo hb6 (by simp [frw_]) (bsq_ S (onb_ S) w y p).1 [] fu_ r rfl (by unfold fu_; omega) (by rw [List.append_nil]; exact hr2.1) ?_
    rw [hr2.2.2.1 28 (by omega), si_2]
    rw [v1, n3_tn (by omega)] at e28
    exact e28
/-! right -/
def rgb_ (S : sg_) (h y p w : Nat) : Bool := decide ((bsq_ S (onb_ S) w y p).1 = sd_ S w h y p)
theorem k_right_l (hw : wf_ S) (hh : h < hs_ S) (hn12 : nb_ (onb_ S) (S 0 28) ≤ 12) : ∀ (e k n : Nat) (M : mm_M), k + e = S 0 8 → e < n → cs_ S vs M → wkc_ S y p (hs_ S) M → wgc_ S (onb_ S) (hs_ S) M →
    wp_ (f_X11_right_50l n (Int32.ofNat h) (mk_b (rgb_ S h y p) k) (Int32.ofNat k) M) (fun z => z.1 = f_J6_bitCount_0f7a4 (mk_b (rgb_ S h y p) (S 0 8)) ∧ cs_ S [mn_ (rgb_ S h y p) (S 0 8)] z.2) := by
  have h600 := hw.hist
  have h20 := hw.words
  intro e
  induction e with
  | zero =>
    intro k n M hk hn hc hkc hg
    obtain ⟨m, rfl⟩ : ∃ m, n = m + 1 := ⟨n - 1, by omega⟩
    have hkk : k = S 0 8 := by omega
    have hm := mn_lt (f := rgb_ S h y p) (S 0 8)
    have hm2 : 2 ^ S 0 8 ≤ 2 ^ 20 := Nat.pow_le_pow_right (n := 2) (by omega) h20
    unfold f_X11_right_50l f_X11_right_50 f_X11_right_110
    rw [hc.2.1.words, if_pos ((n3_le (by omega) (by omega)).mpr (by omega)), hkk, mk_mn (S 0 8) (by omega), n3_6 (by omega)]
    exact wp_sr (wp_bd (wp_mo ((hc.clear hw).add hw (by simp) _) (fun u hu => wp_sr (wp_some ⟨rfl, hu.1⟩))))
  | succ e ih =>
    intro k n M hk hn hc hkc hg
    obtain ⟨m, rfl⟩ : ∃ m, n = m + 1 := ⟨n - 1, by omega⟩
    have hkw : k < S 0 8 := by omega
    have e1 : Int32.ofNat k + 1 = Int32.ofNat (k + 1) := n3_add k 1
    have hb6 := bsn_600 (B := onb_ S) (y := y) (p := p) hw hkw
    have hat := bsq_at (B := onb_ S) (y := y) (p := p) hw hkw
    have hbo := bsq_ok (B := onb_ S) (y := y) (p := p) hw hkw
    have hsd : ok_ (sd_ S k h y p) := sd_ok (nv := no_) hw hkw
    unfold f_X11_right_50l f_X11_right_50 f_X11_right_104
    rw [hc.2.1.words, if_neg (by rw [n3_le (by omega) (by omega)]; omega)]
    refine wp_bd (wp_mo (k_lway (B := onb_ S) hw hkw hn12 hc hkc hg) (fun v hv2 => ?_))
    obtain ⟨v1, v2, v3, v4, v5⟩ := hv2
    have hix : ix_ok v.1 600 := by rw [v1]; exact (n3_ix (by omega)).mpr hb6
    refine wp_ck hix (wp_ck ((n3_ix (by omega)).mpr (by omega)) ?_)
    obtain ⟨W, pt, ht, hcs⟩ := id v3
    obtain ⟨d, q1, q2, q3⟩ := hcs h hh
    rw [n3_tn (show h < 2147483648 by omega), q1]
    refine wp_be (c_form ht hw q2 hkw) ?_
    have e40 : v.2.2.1 40 v.1.toNatClampNeg = Int64.ofNat (en_ (bsq_ S (onb_ S) k y p).1) := by
      rw [v1, n3_tn (by omega)]; exact (v5.2 _ _ hat).1
    rw [e40, q3, sa_sd]
    have go := ih (k + 1) m v.2 (by omega) (by omega) v2 v3 v4
    rw [show mk_b (rgb_ S h y p) (k + 1) = mk_b (rgb_ S h y p) k ||| (if rgb_ S h y p k = true then (1 : Int32) <<< (Int32.ofNat k &&& 31) else 0) from rfl] at go
    by_cases c : (bsq_ S (onb_ S) k y p).1 = sd_ S k h y p
    · rw [if_pos (by rw [c])]
      rw [if_pos (show rgb_ S h y p k = true from decide_eq_true c)] at go
      refine wp_sr (wp_sr ?_)
      rw [e1]; exact go
    · rw [if_neg (fun hh => c ((en_eq hbo hsd).mp hh))]
      rw [if_neg (show ¬ (rgb_ S h y p k = true) from fun hh => c (of_decide_eq_true hh)), Int32.or_zero] at go
      refine wp_sr ?_
      rw [e1]; exact go
theorem q_right_l (hw : wf_ S) (hh : h < hs_ S) (hy : y < 601) (hp : p < 6) (hn12 : nb_ (onb_ S) (S 0 28) ≤ 12) : ∀ (e k n : Nat) (M : mm_M), k + e = S 0 8 → e < n → rt_ S no_ vs M → wgq_ S (hs_ S) M →
    wp_ (f_X12_right_44l n (Int32.ofNat h) (Int32.ofNat y) (Int32.ofNat p) (mk_b (rgb_ S h y p) k) (Int32.ofNat k) M) (fun z => z.1 = f_J6_bitCount_0f7a4 (mk_b (rgb_ S h y p) (S 0 8)) ∧ rt_ S no_ [mn_ (rgb_ S h y p) (S 0 8)] z.2) := by
  have h600 := hw.hist
  have h20 := hw.words
  intro e
  induction e with
  | zero =>
    intro k n M hk hn hr hg
    obtain ⟨m, rfl⟩ : ∃ m, n = m + 1 := ⟨n - 1, by omega⟩
    have hkk : k = S 0 8 := by omega
    have hm := mn_lt (f := rgb_ S h y p) (S 0 8)
    have hm2 : 2 ^ S 0 8 ≤ 2 ^ 20 := Nat.pow_le_pow_right (n := 2) (by omega) h20
    unfold f_X12_right_44l f_X12_right_44 f_X12_right_108
    rw [hr.1.1.words, if_pos ((n3_le (by omega) (by omega)).mpr (by omega)), hkk, mk_mn (S 0 8) (by omega), n3_6 (by omega)]
    exact wp_sr (wp_bd (wp_mo (r_ent (rr_nil hr) (by simp) _) (fun u hu => wp_sr (wp_some ⟨rfl, hu.1⟩))))
  | succ e ih =>
    intro k n M hk hn hr hg
    obtain ⟨m, rfl⟩ : ∃ m, n = m + 1 := ⟨n - 1, by omega⟩
    have hkw : k < S 0 8 := by omega
    have e1 : Int32.ofNat k + 1 = Int32.ofNat (k + 1) := n3_add k 1
    have hb6 := bsn_600 (B := onb_ S) (y := y) (p := p) hw hkw
    have hat := bsq_at (B := onb_ S) (y := y) (p := p) hw hkw
    have hbo := bsq_ok (B := onb_ S) (y := y) (p := p) hw hkw
    have hsd : ok_ (sd_n S no_ k h y p) := sd_ok hw hkw
    unfold f_X12_right_44l f_X12_right_44 f_X12_right_99
    rw [hr.1.1.words, if_neg (by rw [n3_le (by omega) (by omega)]; omega)]
    refine wp_bd (wp_mo (q_lway hw hkw hy hp hn12 hr hg) (fun v hv2 => ?_))
    obtain ⟨v1, v2, v3, v4⟩ := hv2
    refine wp_bd (wp_mo (r_sd (hand := 0) v2.1 hw hkw (by omega) (show h < 2147483648 by omega) (show y < 2147483648 by omega) hp) (fun z hz => ?_))
    have f1 : fr_ pw_s2 v.2 z := hz.1.mono (fun a b hab => pw_sa2 hab)
    refine wp_be (r_pk (hand := 0) (by omega) hsd hz.2) ?_
    have hix : ix_ok v.1 600 := by rw [v1]; exact (n3_ix (by omega)).mpr hb6
    refine wp_ck hix ?_
    have e28 : z.2.1 28 v.1.toNatClampNeg = Int64.ofNat (pk_ (bsq_ S (onb_ S) k y p).1) := by
      rw [f1.2, v1, n3_tn (by omega)]; exact (v4.2 _ _ hat).1
    rw [e28]
    have go := ih (k + 1) m z (by omega) (by omega) (v2.fr2 f1) (v3.fr (by rw [f1.2]))
    rw [show mk_b (rgb_ S h y p) (k + 1) = mk_b (rgb_ S h y p) k ||| (if rgb_ S h y p k = true then (1 : Int32) <<< (Int32.ofNat k &&& 31) else 0) from rfl] at go
    by_cases c : (bsq_ S (onb_ S) k y p).1 = sd_ S k h y p
    · rw [if_pos (show Int64.ofNat (pk_ (sd_n S no_ k h y p)) = Int64.ofNat (pk_ (bsq_ S (onb_ S) k y p).1) by rw [c]; rfl)]
      rw [if_pos (show rgb_ S h y p k = true from decide_eq_true c)] at go
      refine wp_sr (wp_sr ?_)
      rw [e1]; exact go
    · rw [if_neg (fun hh => c ((pkk_eq hsd hbo).mp hh).symm)]
      rw [if_neg (show ¬ (rgb_ S h y p k = true) from fun hh => c (of_decide_eq_true hh))] at go
      refine wp_sr (wp_sr ?_)
      rw [e1]; exact go
theorem m_right (hrl0 : rl_ Mc Mr) (x1 x2 x3 : Int32) : bo_ (f_X11_right x1 x2 x3 Mc) (f_X12_right x1 x2 x3 Mr) := by
  obtain ⟨S, vs, hw, hv, hc, hr⟩ := hrl0
  have hr1 := hr.th
  have hrl : rl_ Mc (mm_si Mr 0 0 0) := ⟨S, vs, hw, hv, hc, hr1⟩
  have h600 := hw.hist
  have h16 := hw.signs
  have h20 := hw.words
  unfold f_X11_right f_X12_right
  rw [sq_n (x := mm_si Mr 0 0 0), c_isThen hc.2.1 hw, r_isHist hr1.1.1 hw, r_isThen]
  refine bo_gt hrl (fun b1 b2 => ?_)
  obtain ⟨b2, b3⟩ := and_t b2
  obtain ⟨h, rfl, hh⟩ := lt_nat b1 (by omega)
  obtain ⟨y, rfl, hy⟩ := lt_nat b2 (by omega)
  obtain ⟨p, rfl, hp⟩ := lt_nat b3 (by omega)
  refine bo_many hc.2.1 hr1.1.1 hw hrl (fun c => ?_)
  have hm := mn_lt (f := rgb_ S h y p) (S 0 8)
  have hm2 : 2 ^ S 0 8 ≤ 2 ^ 20 := Nat.pow_le_pow_right (n := 2) (by omega) h20
  refine bo_mk (S := S) (vs := [mn_ (rgb_ S h y p) (S 0 8)]) (A := f_J6_bitCount_0f7a4 (mk_b (rgb_ S h y p) (S 0 8))) hw ⟨by simp, fun v hv2 => by rw [List.mem_singleton] at hv2; omega⟩ ?_ ?_
  · refine wp_bd (wp_mo (hc.look hw) (fun z hz => ?_))
    unfold f_X11_right_26
    refine wp_bd (wp_mo (c_weighAll (B := onb_ S) hw (fun s hs => by rw [hz.1.2.1.on]; exact mk_bit (by omega) hs) hz.1 hz.2.1) (fun u hu => ?_))
    refine wp_bd (wp_mo (c_walk hw hy hp hu.2.1) (fun t ht => ?_))
    unfold f_X11_right_44
    exact k_right_l hw hh c (S 0 8) 0 fu_ t (by omega) (by unfold fu_; omega) ht.1 ht.2.1 (fun q hq => by rw [ht.2.2]; exact hu.2.2.2 q hq)
  · refine wp_bd (wp_mo (r_weighs hw hr1) (fun z hz => ?_))
    exact q_right_l hw hh hy hp c (S 0 8) 0 fu_ z.2 (by omega) (by unfold fu_; omega) hz.2.1 hz.2.2
end WD1
