/-! CALLS: said, alike, rhymes, holds, fits -/
section UA1
variable {S : sg_} {M Mc Mr : mm_M} {vs : List Nat} {nv : Nat → Bool}
theorem sa_sd {w hi y p : Nat} : sa_l S (pa_ S no_ hi y p) (wd_w S w) = sd_ S w hi y p := rfl
theorem sd_sd {w hi y p : Nat} : sd_n S no_ w hi y p = sd_ S w hi y p := rfl
theorem k_tell_l {xs : List Nat} (hw : wf_ S) (hx : ok_ xs) : ∀ (us pre : List Nat) (M : mm_M) (vs : List Nat) (n : Nat), xs = pre ++ us → us.length < n → cs_ S vs M → vs.length + us.length ≤ 24 →
    wp_ (f_X11_tellSounds_8l n (Int64.ofNat (en_ xs)) (Int32.ofNat xs.length) (Int32.ofNat pre.length) M) (fun z => z.1 = Int32.ofNat xs.length ∧ cs_ S (vs ++ us) z.2) := by
  have h8 := hx.1
  intro us
  induction us with
  | nil =>
    intro pre M vs n e1 hn h hl
    obtain ⟨m, rfl⟩ : ∃ m, n = m + 1 := ⟨n - 1, by omega⟩
    have hlx : xs.length = pre.length := by rw [e1]; simp
    unfold f_X11_tellSounds_8l f_X11_tellSounds_8
    rw [if_pos ((n3_le (by omega) (by omega)).mpr (by omega))]
    exact wp_some ⟨rfl, by rw [List.append_nil]; exact h⟩
  | cons u us ih =>
    intro pre M vs n e1 hn h hl
    obtain ⟨m, rfl⟩ : ∃ m, n = m + 1 := ⟨n - 1, by omega⟩
    have hlx : xs.length = pre.length + (us.length + 1) := by rw [e1]; simp
    have hu := hx.2 u (by rw [e1]; simp)
    unfold f_X11_tellSounds_8l f_X11_tellSounds_8
    rw [if_neg (by rw [n3_le (by omega) (by omega)]; omega), c_snd hx (i := pre.length) (v := u) (by rw [e1]; simp)]
    refine wp_sr ?_
    rw [n3_6 (by omega)]
    refine wp_bd (wp_mo (h.add hw (by simp at hl; omega) u) (fun z hz => wp_sr ?_))
    have e2 : Int32.ofNat pre.length + 1 = Int32.ofNat (pre ++ [u]).length := by
      rw [show (pre ++ [u]).length = pre.length + 1 from by simp]; exact n3_add _ 1
    rw [e2]
    have := ih (pre ++ [u]) z (vs ++ [u]) m (by rw [e1]; simp) (by simp at hn; omega) hz.1 (by simp at hl ⊢; omega)
    rw [List.append_assoc] at this
    exact this
theorem k_tell {xs : List Nat} (h : cs_ S vs M) (hw : wf_ S) (hx : ok_ xs) (hl : vs.length ≤ 16) : wp_ (f_X11_tellSounds (Int64.ofNat (en_ xs)) M) (fun z => z.1 = Int32.ofNat xs.length ∧ cs_ S (vs ++ xs) z.2) := by
  have h8 := hx.1
  unfold f_X11_tellSounds
  rw [c_len hx]
  exact wp_sr (k_tell_l hw hx xs [] M vs fu_ rfl (by unfold fu_; omega) h (by omega))
/-- the course of a history, for a call -/
theorem cs_.at (h : cs_ S vs M) (hw : wf_ S) {hi y p : Nat} (hh : hi < hs_ S) (hy : y < 1073741824) (hp : p < 6) :
    wp_ (f_X3_courseAt (Int32.ofNat hi) (Int32.ofNat y) (Int32.ofNat p) M) (fun z => cs_ S vs z.2 ∧ ∃ W pt d, z.1 = Int32.ofNat d ∧ d < W ∧ pt d = pa_ S no_ hi y p ∧ tc_ S z.2 W pt) := by
  obtain ⟨⟨W, pt, ht⟩, hI, hc, hr⟩ := id h
  refine wp_mo (c_at ht hI hw hh hy hp) (fun z hz => ?_)
  obtain ⟨W', pt', d, z1, z2, z3, z4, z5, z6⟩ := hz
  exact ⟨h.fc hw z5 z6, W', pt', d, z1, z2, z3, z6⟩
theorem k_said (h : cs_ S vs M) (hw : wf_ S) {w hi y p : Nat} (hwd : w < S 0 8) (hh : hi < hs_ S) (hy : y < 601) (hp : p < 6) :
    wp_ (sq_ (f_X4_clear M) fun z5 => (f_X3_courseAt (Int32.ofNat hi) (Int32.ofNat y) (Int32.ofNat p) z5).bind fun z6 => f_X11_said_44 (Int32.ofNat w) z6.1 z6.2) (fun z => z.1 = Int32.ofNat (sd_ S w hi y p).length ∧ cs_ S (sd_ S w hi y p) z.2) := by
  refine wp_sr (wp_bd (wp_mo ((h.clear hw).at hw hh (by omega) hp) (fun z hz => ?_)))
  obtain ⟨hc, W, pt, d, z1, z2, z3, z4⟩ := hz
  unfold f_X11_said_44
  rw [z1]
  refine wp_be (c_form z4 hw z2 hwd) ?_
  rw [z3]
  refine wp_bd (wp_mo (k_tell hc hw (sd_ok (nv := no_) (h := hi) (y := y) (p := p) hw hwd) (Nat.zero_le _)) (fun z5 hz5 => wp_some ?_))
  exact ⟨hz5.1, by have := hz5.2; rw [List.nil_append] at this; exact this⟩
theorem q_said_l (hw : wf_ S) {xs : List Nat} (hx : ok_ xs) : ∀ (us pre : List Nat) (M : mm_M) (vs : List Nat) (n : Nat), xs = pre ++ us → us.length < n → rt_ S nv vs M → hd_ M 0 xs → vs.length + us.length ≤ 24 →
    wp_ (f_X12_said_50l n (Int32.ofNat pre.length) M) (fun z => z.1 = Int32.ofNat xs.length ∧ rt_ S nv (vs ++ us) z.2) := by
  have h8 := hx.1
  intro us
  induction us with
  | nil =>
    intro pre M vs n e1 hn h hd hl
    obtain ⟨m, rfl⟩ : ∃ m, n = m + 1 := ⟨n - 1, by omega⟩
    have hlx : xs.length = pre.length := by rw [e1]; simp
    have e0 : M.1 15 (0 : Int32).toNatClampNeg = Int32.ofNat xs.length := hd.1
    unfold f_X12_said_50l f_X12_said_50 f_X12_said_79
    rw [e0, if_pos ((n3_le (by omega) (by omega)).mpr (by omega))]
    exact wp_some ⟨rfl, by rw [List.append_nil]; exact h⟩
  | cons u us ih =>
    intro pre M vs n e1 hn h hd hl
    obtain ⟨m, rfl⟩ : ∃ m, n = m + 1 := ⟨n - 1, by omega⟩
    have hlx : xs.length = pre.length + (us.length + 1) := by rw [e1]; simp
    have hu := hx.2 u (by rw [e1]; simp)
    have e0 : M.1 15 (0 : Int32).toNatClampNeg = Int32.ofNat xs.length := hd.1
    have a0 : M.1 14 pre.length = Int32.ofNat u := by
      have := hd.2 pre.length u (by rw [e1]; simp)
      simpa using this
    unfold f_X12_said_50l f_X12_said_50
    rw [e0, if_neg (by rw [n3_le (by omega) (by omega)]; omega)]
    refine wp_ck ((n3_ix (by omega)).mpr (by omega)) ?_
    rw [n3_tn (by omega), a0, n3_6 (by omega)]
    refine wp_bd (wp_mo (r_ent h (by simp at hl; omega) u) (fun z hz => wp_sr ?_))
    have e2 : Int32.ofNat pre.length + 1 = Int32.ofNat (pre ++ [u]).length := by
      rw [show (pre ++ [u]).length = pre.length + 1 from by simp]; exact n3_add _ 1
    rw [e2]
    have hd' : hd_ z 0 xs := ⟨by rw [hz.2.1 15 0 (by simp [pw_en])]; exact hd.1, fun i v hv => by rw [hz.2.1 14 _ (by simp [pw_en])]; exact hd.2 i v hv⟩
    have := ih (pre ++ [u]) z (vs ++ [u]) m (by rw [e1]; simp) (by simp at hn; omega) hz.1 hd' (by simp at hl ⊢; omega)
    rw [List.append_assoc] at this
    exact this
theorem q_said (h : rt_ S nv vs M) (hw : wf_ S) {w hi y p : Nat} (hwd : w < S 0 8) (hh : hi < 2147483648) (hy : y < 601) (hp : p < 6) :
    wp_ ((f_X12_says (0 : Int32) (Int32.ofNat w) (Int32.ofNat hi) (Int32.ofNat y) (Int32.ofNat p) M).bind fun z8 => sq_ (mm_si z8 0 1 0) fun M9 => f_X12_said_50l fu_ (0 : Int32) M9) (fun z => z.1 = Int32.ofNat (sd_n S nv w hi y p).length ∧ rt_ S nv (sd_n S nv w hi y p) z.2) := by
  refine wp_bd (wp_mo (r_sd (hand := 0) h.1 hw hwd (by omega) hh (by omega) hp) (fun z hz => wp_sr ?_))
  have f1 : fr_ pw_s2 M z := hz.1.mono (fun a b h => pw_sa2 h)
  have ho := sd_ok (nv := nv) (h := hi) (y := y) (p := p) hw hwd
  have h8 := ho.1
  have := q_said_l (nv := nv) hw ho (sd_n S nv w hi y p) [] (mm_si z 0 1 0) [] fu_ rfl (by unfold fu_; omega) (rr_nil (h.fr2 f1)) ⟨by rw [si_1, if_neg (by omega)]; exact hz.2.1, fun i v hv => by rw [si_1, if_neg (by omega)]; exact hz.2.2 i v hv⟩ (by simp; omega)
  rw [List.nil_append] at this
  exact this
theorem rv_ok {xs : List Nat} (h : ok_ xs) : rv_ xs := ⟨by have := h.1; omega, fun v hv => by have := h.2 v hv; omega⟩
theorem m_said (h : rl_ Mc Mr) (x1 x2 x3 x4 : Int32) : bo_ (f_X11_said x1 x2 x3 x4 Mc) (f_X12_said x1 x2 x3 x4 Mr) := by
  obtain ⟨S, vs, hw, hv, hc, hr⟩ := h
  have hr1 := hr.th
  have hrl : rl_ Mc (mm_si Mr 0 0 0) := ⟨S, vs, hw, hv, hc, hr1⟩
  have h600 := hw.hist
  have h20 := hw.words
  unfold f_X11_said f_X12_said
  rw [sq_n (x := mm_si Mr 0 0 0), c_isWord hc.2.1 hw, c_isThen hc.2.1 hw, r_isWord hr1.1.1 hw, r_isHist hr1.1.1 hw, r_isThen]
  refine bo_g hrl (fun b1 => bo_gt hrl (fun b2 b3 => ?_))
  obtain ⟨w, rfl, hwd⟩ := lt_nat b1 (by omega)
  obtain ⟨hi, rfl, hhi⟩ := lt_nat b2 (by omega)
  obtain ⟨y, rfl, hy⟩ := lt_nat (and_t b3).1 (by omega)
  obtain ⟨p, rfl, hp⟩ := lt_nat (and_t b3).2 (by omega)
  exact bo_mk hw (rv_ok (sd_ok hw hwd)) (k_said hc hw hwd hhi hy hp) (q_said hr1 hw hwd (by omega) hy hp)
/-! alike -/
def al_ (S : sg_) (xs ys : List Nat) : Int32 := if xs = ys then 2 else bi_ (rh_ S xs ys)
theorem tr_bi {b : Bool} : f_X12_truth (bi_ b) = bi_ b := by cases b <;> rfl
theorem m_alike (h : rl_ Mc Mr) (x1 x2 x3 x4 x5 : Int32) : bo_ (f_X11_alike x1 x2 x3 x4 x5 Mc) (f_X12_alike x1 x2 x3 x4 x5 Mr) := by
  obtain ⟨S, vs, hw, hv, hc, hr⟩ := h
  have hr1 := hr.th
  have hrl : rl_ Mc (mm_si Mr 0 0 0) := ⟨S, vs, hw, hv, hc, hr1⟩
  have h600 := hw.hist
  have h20 := hw.words
  unfold f_X11_alike f_X12_alike
  rw [sq_n (x := mm_si Mr 0 0 0), c_isWord (x := x1) hc.2.1 hw, c_isWord (x := x2) hc.2.1 hw, c_isThen hc.2.1 hw, r_isWord (x := x1) hr1.1.1 hw, r_isWord (x := x2) hr1.1.1 hw, r_isHist hr1.1.1 hw, r_isThen]
  refine bo_g hrl (fun b0 => bo_g hrl (fun b1 => bo_gt hrl (fun b2 b3 => ?_)))
  obtain ⟨v, rfl, hvd⟩ := lt_nat b0 (by omega)
  obtain ⟨w, rfl, hwd⟩ := lt_nat b1 (by omega)
  obtain ⟨hi, rfl, hhi⟩ := lt_nat b2 (by omega)
  obtain ⟨y, rfl, hy⟩ := lt_nat (and_t b3).1 (by omega)
  obtain ⟨p, rfl, hp⟩ := lt_nat (and_t b3).2 (by omega)
  have o1 := sd_ok (nv := no_) (h := hi) (y := y) (p := p) hw hvd
  have o2 := sd_ok (nv := no_) (h := hi) (y := y) (p := p) hw hwd
  refine bo_mk (A := al_ S (sd_ S v hi y p) (sd_ S w hi y p)) hw hv ?_ ?_
  · refine wp_bd (wp_mo (hc.at hw hhi (by omega) hp) (fun z hz => ?_))
    obtain ⟨hc1, W, pt, d, z1, z2, z3, z4⟩ := hz
    unfold f_X11_alike_42 al_
    rw [z1]
    refine wp_be (c_form z4 hw z2 hvd) (wp_be (c_form z4 hw z2 hwd) ?_)
    rw [z3, sa_sd, sa_sd]
    by_cases c : sd_ S v hi y p = sd_ S w hi y p
    · rw [if_pos (show Int64.ofNat (en_ (sd_ S v hi y p)) = Int64.ofNat (en_ (sd_ S w hi y p)) by rw [c])]
      exact wp_some ⟨by rw [if_pos c], hc1⟩
    · rw [if_neg (show ¬ (Int64.ofNat (en_ (sd_ S v hi y p)) = Int64.ofNat (en_ (sd_ S w hi y p))) from fun he => c ((en_eq o1 o2).mp he)), if_neg c]
      have hrh := c_rhyme z4 hc1.2.1 hw z2 hvd hwd
      rw [z3, sa_sd, sa_sd] at hrh
      refine wp_be hrh ?_
      cases rh_ S (sd_ S v hi y p) (sd_ S w hi y p) with
      | false => rw [if_pos (by decide)]; exact wp_some ⟨rfl, hc1⟩
      | true => rw [if_neg (by decide)]; exact wp_some ⟨rfl, hc1⟩
  · refine wp_bd (wp_mo (r_both hr1.1 hw hvd hwd (by omega) (by omega) hp) (fun z hz => ?_))
    obtain ⟨f1, s1, d0, d1⟩ := hz
    have hr2 := hr1.fr2 f1
    refine wp_be (r_al o1 o2 d0 d1) ?_
    unfold al_
    by_cases c : sd_ S v hi y p = sd_ S w hi y p
    · have c' : sd_n S no_ v hi y p = sd_n S no_ w hi y p := c
      rw [decide_eq_true c', if_neg (by decide), if_pos c]
      exact wp_some ⟨rfl, hr2⟩
    · have c' : ¬ sd_n S no_ v hi y p = sd_n S no_ w hi y p := c
      rw [decide_eq_false c', if_pos (by decide), if_neg c]
      refine wp_be (r_rh hr2.1.1 o1 o2 d0 d1) (wp_sr (wp_some ⟨?_, hr2⟩))
      exact tr_bi
end UA1
