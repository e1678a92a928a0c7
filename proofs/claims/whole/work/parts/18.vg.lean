/-! CALLS: group, word -/
section VG1
variable {S S' : sg_} {M Mc Mr : mm_M} {vs : List Nat} {nv : Nat → Bool} {W : Nat} {pt : Nat → List Nat}
/-- courses forgotten -/
theorem c_forget (hW : M.1 5 4 = Int32.ofNat W) (hcap : W ≤ M.2.2) (hb : M.2.2 ≤ 131072) (hz : ∀ i, W * 6 ≤ i → i < 6 * M.2.2 → M.1 70 i = 0) :
    wp_ (f_X9_forgetCourses M) (fun M' => (∀ a b, a ≠ 70 → ¬ (a = 5 ∧ b = 4) → M'.1 a b = M.1 a b) ∧ M'.2 = M.2 ∧ M'.1 5 4 = Int32.ofNat 1 ∧ ∀ i, i < 6 * M.2.2 → M'.1 70 i = 0) := by
  have key : ∀ (e k n : Nat) (Z : mm_M), k + e = W * 6 → e < n → (∀ a b, a ≠ 70 → Z.1 a b = M.1 a b) → Z.2 = M.2 → (∀ i, i < k ∨ W * 6 ≤ i → i < 6 * M.2.2 → Z.1 70 i = 0) →
      wp_ (f_X9_forgetCourses_10l n (Int32.ofNat (W * 6)) (Int32.ofNat k) Z) (fun M' => (∀ a b, a ≠ 70 → ¬ (a = 5 ∧ b = 4) → M'.1 a b = M.1 a b) ∧ M'.2 = M.2 ∧ M'.1 5 4 = Int32.ofNat 1 ∧ ∀ i, i < 6 * M.2.2 → M'.1 70 i = 0) := by
    intro e
    induction e with
    | zero =>
      intro k n Z hk hn h1 h2 h3
      obtain ⟨m, rfl⟩ : ∃ m, n = m + 1 := ⟨n - 1, by omega⟩
      unfold f_X9_forgetCourses_10l f_X9_forgetCourses_10 f_X9_forgetCourses_28
      rw [if_pos ((n3_le (by omega) (by omega)).mpr (by omega))]
      refine wp_sr (wp_some ⟨fun a b h4 h5 => by rw [si_1, if_neg h5]; exact h1 a b h4, h2, by rw [si_1, if_pos ⟨rfl, rfl⟩]; rfl, fun i hi => by rw [si_1, if_neg (by omega)]; exact h3 i (by omega) hi⟩)
    | succ e ih =>
      intro k n Z hk hn h1 h2 h3
      obtain ⟨m, rfl⟩ : ∃ m, n = m + 1 := ⟨n - 1, by omega⟩
      have e1 : Int32.ofNat k + 1 = Int32.ofNat (k + 1) := n3_add k 1
      unfold f_X9_forgetCourses_10l f_X9_forgetCourses_10
      rw [if_neg (by rw [n3_le (by omega) (by omega)]; omega)]
      refine wp_ck ((n3_ix (by omega)).mpr (by rw [h2]; omega)) (wp_sr (wp_sr ?_))
      rw [e1, n3_tn (by omega)]
      refine ih (k + 1) m _ (by omega) (by omega) (fun a b h4 => by rw [si_1, if_neg (by omega)]; exact h1 a b h4) h2 (fun i h4 h5 => ?_)
      rw [si_1]
      by_cases c : i = k
      · rw [if_pos ⟨rfl, c⟩]
      · rw [if_neg (by omega)]; exact h3 i (by omega) h5
  unfold f_X9_forgetCourses
  refine wp_sr ?_
  rw [hW, show Int32.ofNat W * 6 = Int32.ofNat (W * 6) from n3_mul W 6]
  exact key (W * 6) 0 fu_ M (by omega) (by unfold fu_; omega) (fun _ _ _ => rfl) rfl (fun i h1 h2 => by rcases h1 with h1 | h1; omega; exact hz i h1 h2)
/-- only the start of courses -/
theorem tc_new (h5 : M.1 5 4 = Int32.ofNat 1) (hp : ∃ k, k ≤ 12 ∧ M.2.2 = 32 * 2 ^ k) (hz : ∀ i, i < 6 * M.2.2 → M.1 70 i = 0) (hf : ∀ w, w < S 0 8 → M.2.1 71 w = Int64.ofNat (en_ (wd_w S w))) : tc_ S M 1 (fun _ => []) := by
  have h1 : 1 ≤ M.2.2 := by
    obtain ⟨k, -, e⟩ := hp
    have := Nat.one_le_two_pow (n := k)
    omega
  refine ⟨h5, by omega, h1, hp, rfl, fun c _ l hl => (by cases hl), fun c _ => List.nodup_nil, fun c d hc hd _ => by omega, fun f _ p j he => ?_, fun c l hc hl => ⟨0, ?_, by omega, fun h => absurd rfl h, fun _ e _ he => ?_⟩, fun i h2 h3 => hz i h3, fun c w hc hw => ?_⟩
  · exact absurd he (by simp)
  · rw [hz _ (by omega)]; rfl
  · exact absurd he (by simp)
  · rw [show c * 20 + w = w by omega]; exact hf w hw
/-- years are the same -/
def yo_ (S S' : sg_) : Prop := S' 10 = S 10 ∧ S' 11 = S 11 ∧ S' 12 = S 12 ∧ S' 0 11 = S 0 11
theorem yo_.yr (h : yo_ S S') (l hh : Nat) : yr_ S' l hh = yr_ S l hh := by
  unfold yr_ yr_n
  rw [h.1, h.2.1, h.2.2.1, h.2.2.2, hq_cg h.2.2.1]
theorem yo_.hs (h : yo_ S S') : hs_ S' = hs_ S := by
  unfold hs_
  rw [h.2.2.2]
  exact hn_cg _ (fun l _ => by rw [h.2.2.1])
theorem yo_.or (h : yo_ S S') (hh : Nat) : or_ S' hh = or_ S hh := by
  unfold or_
  rw [h.2.2.2, show (fun l => yr_ S' l hh) = fun l => yr_ S l hh from funext (fun l => h.yr l hh)]
theorem yo_.ic (h : yo_ S S') {M M' : mm_M} (hI : ic_ S M) (hm : ∀ a b, (a = 5 ∧ b = 1) ∨ a = 14 ∨ a = 16 ∨ a = 18 → M'.1 a b = M.1 a b) (h17 : M'.2.1 17 = M.2.1 17)
    (tp : M'.1 1 1 = Int32.ofNat (S' 0 4)) (tape : ∀ j, j < S' 0 4 → M'.1 2 j = Int32.ofNat (S' 2 j)) (words : M'.1 5 2 = Int32.ofNat (S' 0 8)) (cl : ∀ c, c < 6 → M'.1 7 c = Int32.ofNat (S' 3 c)) (lo : ∀ l, l < S' 0 11 → lo_ S' M' l) (lag : ∀ p, p < 6 → M'.1 15 p = Int32.ofNat (S' 13 p)) (told : M'.1 19 3 = Int32.ofNat (S' 0 28))
    (on : M'.1 19 4 = mk_b (fun s => decide (S' 26 s = 1)) (S' 0 28)) (sg : ∀ s, s < S' 0 28 → sc_ S' M' s) (kept : ∀ i, i < 3 → kp_ S' M' i) (fresh : ∀ s, S' 0 28 ≤ s → s < 16 → M'.1 (22 + s) 6 = Int32.ofNat 0 ∧ M'.1 (22 + s) 7 = Int32.ofNat 5) : ic_ S' M' := by
  refine ⟨tp, tape, ?_, words, cl, lo, ?_, ?_, lag, ?_, ?_, ?_, told, on, sg, kept, fresh⟩
  · rw [hm 5 1 (by omega), h.2.2.2]; exact hI.laws
  · rw [hm 14 2 (by omega), h.hs]; exact hI.hs
  · rw [hm 14 3 (by omega), h.2.2.2]; exact hI.laws2
  · intro hh hhl; rw [h.hs] at hhl; rw [hm 16 hh (by omega), h.or]; exact hI.ord hh hhl
  · intro hh hhl
    rw [h.hs] at hhl
    rw [h17, h.or, show (fun l => yr_ S' l hh) = fun l => yr_ S l hh from funext (fun l => h.yr l hh)]
    exact hI.yrs hh hhl
  · intro l hl; rw [h.2.2.2] at hl; rw [hm 18 l (by omega), h.1]; exact hI.fy l hl
theorem so_1 : ∀ g, g < 16 → ¬ (Int32.ofNat (97 + g) = -1) ∧ ¬ (Int32.ofNat (97 + g) = 35) ∧ f_X8_isSound (Int32.ofNat (97 + g)) = 1 ∧ (1 : Int32) <<< ((Int32.ofNat (97 + g) - 97) &&& 31) = Int32.ofNat (2 ^ g) := by decide
theorem so_2 : ∀ c, c < 6 → ¬ (Int32.ofNat (65 + c) = -1) ∧ ¬ (Int32.ofNat (65 + c) = 35) ∧ f_X8_isSound (Int32.ofNat (65 + c)) = 0 ∧ Int32.ofNat (65 + c) - 65 = Int32.ofNat c ∧ f_X11_isBelow (Int32.ofNat c) 6 = 1 := by decide
theorem c_setOf (hcl : ∀ c, c < 6 → M.1 7 c = Int32.ofNat (S 3 c)) {g : Nat} (hg : g ≤ 23) : f_X2_setOf (tg_ g) M = some (Int32.ofNat (st_ S g)) := by
  unfold f_X2_setOf tg_ st_
  by_cases c1 : g = 23
  · rw [if_pos c1, if_pos c1, if_pos rfl]; rfl
  · rw [if_neg c1, if_neg c1]
    by_cases c2 : g = 22
    · rw [if_pos c2, if_pos c2, if_neg (by decide), if_pos rfl]; rfl
    · rw [if_neg c2, if_neg c2]
      by_cases c3 : g < 16
      · obtain ⟨s1, s2, s3, s4⟩ := so_1 g c3
        rw [if_pos c3, if_pos c3, if_neg s1, if_neg s2, sq_n, s3, if_neg (by decide), s4]
      · obtain ⟨c, rfl⟩ : ∃ c, g = 16 + c := ⟨g - 16, by omega⟩
        obtain ⟨s1, s2, s3, s4, s5⟩ := so_2 c (by omega)
        rw [if_neg c3, if_neg c3, show 49 + (16 + c) = 65 + c by omega, if_neg s1, if_neg s2, sq_n, s3, if_pos rfl, sq_n, s4, sq_n, s5, if_neg (by decide), if_pos ((n3_ix (by omega)).mpr (by omega)), n3_tn (by omega), hcl c (by omega), Nat.add_sub_cancel_left]
theorem c_tune {k : Nat} (hk : 8 ≤ k) (hcl : ∀ c, c < 6 → M.1 7 c = Int32.ofNat (S 3 c)) {g1 g2 g3 : Nat} (h1 : M.1 k 0 = tg_ g1) (h2 : M.1 k 1 = tg_ g2) (h3 : M.1 k 2 = tg_ g3) (k1 : g1 ≤ 23) (k2 : g2 ≤ 23) (k3 : g3 ≤ 23) :
    f_X2_tune k M = some (mm_si (mm_si (mm_si M k 4 (Int32.ofNat (st_ S g1))) k 5 (Int32.ofNat (st_ S g2))) k 6 (Int32.ofNat (st_ S g3))) := by
  unfold f_X2_tune
  rw [h1, c_setOf hcl k1, Option.bind_some, sq_n, si_1, if_neg (by omega), h2, c_setOf (S := S) (fun c hc => by rw [si_1, if_neg (by omega)]; exact hcl c hc) k2, Option.bind_some, sq_n, si_1, if_neg (by omega), si_1, if_neg (by omega), h3, c_setOf (S := S) (fun c hc => by rw [si_1, if_neg (by omega), si_1, if_neg (by omega)]; exact hcl c hc) k3, Option.bind_some, sq_n]
/-- all laws anew -/
theorem c_tunes (hw6 : S 0 11 ≤ 6) (g1 : ∀ l, l < S 0 11 → S 6 l < 22) (g2 : ∀ l, l < S 0 11 → S 8 l ≤ 23) (g3 : ∀ l, l < S 0 11 → S 9 l ≤ 23) {Q : mm_M → Prop} (hQ : ∀ Z, (∀ a b, ¬ (8 ≤ a ∧ a < 14 ∧ 4 ≤ b ∧ b ≤ 6) → Z.1 a b = M.1 a b) → Z.2 = M.2 → (∀ l, l < S 0 11 → lo_ S Z l) → wp_ (f_X9_setClass_36 Z) Q)
    (h5 : M.1 5 1 = Int32.ofNat (S 0 11)) (hcl : ∀ c, c < 6 → M.1 7 c = Int32.ofNat (S 3 c)) (hl : ∀ l, l < S 0 11 → M.1 (8 + l) 0 = tg_ (S 6 l) ∧ M.1 (8 + l) 1 = tg_ (S 8 l) ∧ M.1 (8 + l) 2 = tg_ (S 9 l) ∧ M.1 (8 + l) 3 = bc_ (S 7 l)) :
    ∀ (e k n : Nat) (Z : mm_M), k + e = S 0 11 → e < n → (∀ a b, ¬ (8 ≤ a ∧ a < 14 ∧ 4 ≤ b ∧ b ≤ 6) → Z.1 a b = M.1 a b) → Z.2 = M.2 → (∀ l, l < k → lo_ S Z l) → wp_ (f_X9_setClass_9l n (Int32.ofNat k) Z) Q := by
  intro e
  induction e with
  | zero =>
    intro k n Z hk hn h1 h2 h3
    obtain ⟨m, rfl⟩ : ∃ m, n = m + 1 := ⟨n - 1, by omega⟩
    unfold f_X9_setClass_9l f_X9_setClass_9
    rw [h1 5 1 (by omega), h5, if_pos ((n3_le (by omega) (by omega)).mpr (by omega))]
    exact hQ Z h1 h2 (fun l hl => h3 l (by omega))
  | succ e ih =>
    intro k n Z hk hn h1 h2 h3
    obtain ⟨m, rfl⟩ : ∃ m, n = m + 1 := ⟨n - 1, by omega⟩
    have e1 : Int32.ofNat k + 1 = Int32.ofNat (k + 1) := n3_add k 1
    obtain ⟨l0, l1, l2, l3⟩ := hl k (by omega)
    have f1 := g1 k (by omega)
    have f2 := g2 k (by omega)
    have f3 := g3 k (by omega)
    unfold f_X9_setClass_9l f_X9_setClass_9
    rw [h1 5 1 (by omega), h5, if_neg (by rw [n3_le (by omega) (by omega)]; omega)]
    refine wp_ck ((n3_ix (by omega)).mpr (by omega)) ?_
    rw [n3_tn (by omega)]
    refine wp_be (c_tune (S := S) (by omega) (fun c hc => by rw [h1 7 c (by omega)]; exact hcl c hc) (by rw [h1 _ _ (by omega)]; exact l0) (by rw [h1 _ _ (by omega)]; exact l1) (by rw [h1 _ _ (by omega)]; exact l2) (by omega) (by omega) (by omega)) (wp_sr ?_)
    rw [e1]
    refine ih (k + 1) m _ (by omega) (by omega) (fun a b h => by rw [si_1, if_neg (by omega), si_1, if_neg (by omega), si_1, if_neg (by omega)]; exact h1 a b h) h2 (fun l hlk => ?_)
    by_cases c : l = k
    · subst c
      unfold lo_
      refine ⟨?_, ?_, ?_, ?_, ?_, ?_, ?_⟩
      · rw [si_1, if_neg (by omega), si_1, if_neg (by omega), si_1, if_neg (by omega), h1 _ _ (by omega)]; exact l0
      · rw [si_1, if_neg (by omega), si_1, if_neg (by omega), si_1, if_neg (by omega), h1 _ _ (by omega)]; exact l1
      · rw [si_1, if_neg (by omega), si_1, if_neg (by omega), si_1, if_neg (by omega), h1 _ _ (by omega)]; exact l2
      · rw [si_1, if_neg (by omega), si_1, if_neg (by omega), si_1, if_neg (by omega), h1 _ _ (by omega)]; exact l3
      · rw [si_1, if_neg (by omega), si_1, if_neg (by omega), si_1, if_pos ⟨rfl, rfl⟩]
      · rw [si_1, if_neg (by omega), si_1, if_pos ⟨rfl, rfl⟩]
      · rw [si_1, if_pos ⟨rfl, rfl⟩]
    · have hh := h3 l (by omega)
      have q : ∀ b, (mm_si (mm_si (mm_si Z (8 + k) 4 (Int32.ofNat (st_ S (S 6 k)))) (8 + k) 5 (Int32.ofNat (st_ S (S 8 k)))) (8 + k) 6 (Int32.ofNat (st_ S (S 9 k)))).1 (8 + l) b = Z.1 (8 + l) b := fun b => by
        rw [si_1, if_neg (by omega), si_1, if_neg (by omega), si_1, if_neg (by omega)]
      unfold lo_ at hh ⊢
      rw [q, q, q, q, q, q, q]
      exact hh
/-! group -/
theorem wf_gr (hw : wf_ S) {c v : Nat} (hv : v < 65536) : wf_ (up_ S 3 c v) := by
  have e : ∀ x y, ¬ (x = 3) → up_ S 3 c v x y = S x y := fun x y h => up_oth (fun hh => h hh.1)
  have ef : ∀ x, ¬ (x = 3) → up_ S 3 c v x = S x := fun x h => funext (fun y => e x y h)
  have hyo : yo_ S (up_ S 3 c v) := ⟨ef 10 (by omega), ef 11 (by omega), ef 12 (by omega), e 0 11 (by omega)⟩
  refine ⟨?_, ?_, ?_, ?_, ?_, ?_, ?_, ?_, ?_, ?_, ?_, ?_, ?_, ?_, ?_, ?_, ?_, ?_, ?_, ?_, ?_, ?_, ?_, ?_, ?_, ?_, ?_, ?_, ?_⟩
  · rw [ef 0 (by omega)]; exact hw.tp
  · rw [ef 0 (by omega), ef 2 (by omega)]; exact hw.tape
  · intro i hi
    by_cases c2 : i = c
    · rw [c2, up_same]; exact hv
    · rw [up_oth (by omega)]; exact hw.cl i hi
  · rw [ef 0 (by omega)]; exact hw.words
  · rw [ef 0 (by omega), ef 5 (by omega)]; exact hw.sl
  · rw [ef 0 (by omega), ef 5 (by omega), ef 4 (by omega)]; exact hw.sp
  · rw [ef 0 (by omega)]; exact hw.laws
  · rw [ef 0 (by omega), ef 6 (by omega)]; exact hw.goes
  · rw [ef 0 (by omega), ef 7 (by omega)]; exact hw.bec
  · rw [ef 0 (by omega), ef 8 (by omega)]; exact hw.lf
  · rw [ef 0 (by omega), ef 9 (by omega)]; exact hw.rt
  · rw [ef 0 (by omega), ef 10 (by omega), ef 11 (by omega), ef 12 (by omega)]; exact hw.yr
  · rw [hyo.hs]; exact hw.hist
  · rw [ef 13 (by omega)]; exact hw.lag
  · rw [ef 0 (by omega)]; exact hw.signs
  · rw [ef 0 (by omega), ef 18 (by omega)]; exact hw.kind
  · rw [ef 0 (by omega), ef 19 (by omega)]; exact hw.one
  · rw [ef 0 (by omega), ef 18 (by omega), ef 19 (by omega), ef 20 (by omega)]; exact hw.oth
  · rw [ef 0 (by omega), ef 21 (by omega)]; exact hw.year
  · rw [ef 0 (by omega), ef 22 (by omega)]; exact hw.pl
  · rw [ef 0 (by omega), ef 18 (by omega), ef 23 (by omega)]; exact hw.nm2
  · rw [ef 0 (by omega), ef 18 (by omega), ef 23 (by omega)]; exact hw.nm3
  · rw [ef 0 (by omega), ef 24 (by omega)]; exact hw.poet
  · rw [ef 0 (by omega), ef 25 (by omega)]; exact hw.trust
  · rw [ef 0 (by omega), ef 26 (by omega)]; exact hw.on
  · rw [ef 36 (by omega)]; exact hw.kept
  · rw [ef 0 (by omega), ef 37 (by omega)]; exact hw.ks
  · rw [ef 37 (by omega), ef 38 (by omega), ef 39 (by omega), ef 40 (by omega)]; exact hw.kon
  · rw [ef 36 (by omega), ef 41 (by omega), ef 42 (by omega)]; exact hw.klag
theorem m_group (h : rl_ Mc Mr) (x1 x2 : Int32) : bo_ (f_X11_group x1 x2 Mc) (f_X12_group x1 x2 Mr) := by
  obtain ⟨S, vs, hw, hv, hc, hr⟩ := h
  have hr1 := hr.th
  have hrl : rl_ Mc (mm_si Mr 0 0 0) := ⟨S, vs, hw, hv, hc, hr1⟩
  have h16 := hw.signs
  have h6 := hw.laws
  unfold f_X11_group f_X12_group
  rw [sq_n (x := mm_si Mr 0 0 0), show f_X11_isBelow x1 6 = f_X11_isPlace x1 from rfl, c_isPlace, show (5 : Int64) = Int64.ofNat 5 from rfl, r_in0 (by omega), show (0 : Int64) = Int64.ofNat 0 from rfl, show (65535 : Int64) = Int64.ofNat 65535 from rfl, in_b (by omega) (by omega)]
  refine bo_g hrl (fun b1 => ?_)
  obtain ⟨p, rfl, hp⟩ := lt_nat b1 (by omega)
  have i1 : (x2 < 0) ↔ x2.toInt < 0 := Int32.lt_iff_toInt_lt
  have i9 : (x2 ≤ 65535) ↔ x2.toInt ≤ 65535 := Int32.le_iff_toInt_le
  by_cases c1 : x2.toInt < 0
  · rw [if_pos (i1.mpr c1), decide_eq_false (show ¬ (((0 : Nat) : Int) ≤ x2.toInt ∧ x2.toInt ≤ ((65535 : Nat) : Int)) by omega), gt_f]
    exact bo_no hrl
  · rw [if_neg (fun hh => c1 (i1.mp hh))]
    by_cases c2 : x2.toInt ≤ 65535
    · rw [if_pos (i9.mpr c2), decide_eq_true (show (((0 : Nat) : Int) ≤ x2.toInt ∧ x2.toInt ≤ ((65535 : Nat) : Int)) by omega), gt_t]
      obtain ⟨v, rfl, -, hv2⟩ := in_nat (a := 0) (b := 65535) (x := x2) (by omega) (by omega)
      have hix : ix_ok (Int32.ofNat p) 6 := (n3_ix (by omega)).mpr hp
      have et : (Int32.ofNat p).toNatClampNeg = p := n3_tn (by omega)
      have hwg : wf_ (up_ S 3 p v) := wf_gr hw (by omega)
      have e : ∀ x y, ¬ (x = 3) → up_ S 3 p v x y = S x y := fun x y h => up_oth (fun hh => h hh.1)
      have ef : ∀ x, ¬ (x = 3) → up_ S 3 p v x = S x := fun x h => funext (fun y => e x y h)
      have hyo : yo_ S (up_ S 3 p v) := ⟨ef 10 (by omega), ef 11 (by omega), ef 12 (by omega), e 0 11 (by omega)⟩
      refine bo_mk (A := Int32.ofNat (S 3 p)) hwg hv ?_ ?_
      · refine wp_ck hix (wp_sr (wp_bd ?_))
        unfold f_X9_setClass
        refine wp_ck hix (wp_sr ?_)
        simp only [et, hc.2.1.cl p hp]
        obtain ⟨⟨W, pt, htc⟩, hI, hh, hro⟩ := hc
        refine c_tunes (S := up_ S 3 p v) (M := mm_si Mc 7 p (Int32.ofNat v)) hwg.laws hwg.goes hwg.lf hwg.rt (fun Z z1 z2 z3 => ?_) ?_ (fun c hc => ?_) (fun l hl => ?_) (S 0 11) 0 fu_ _ (by rw [e 0 11 (by omega)]; omega) (by unfold fu_; omega) (fun _ _ _ => rfl) rfl (fun l hl => by omega)
        · unfold f_X9_setClass_36
          have zz : ∀ a b, ¬ (8 ≤ a ∧ a < 14 ∧ 4 ≤ b ∧ b ≤ 6) → ¬ (a = 7) → Z.1 a b = Mc.1 a b := fun a b h1 h2 => by rw [z1 a b h1, si_1, if_neg (by omega)]
          have z22 : Z.2 = Mc.2 := z2
          have hcb := htc.capb
          refine wp_bd (wp_mo (c_forget (M := Z) (W := W) (by rw [zz 5 4 (by omega) (by omega)]; exact htc.wk) (by rw [z22]; exact htc.cap) (by rw [z22]; exact hcb) (fun i h1 h2 => by rw [z22] at h2; rw [zz 70 i (by omega) (by omega)]; exact htc.zero i h1 h2)) (fun Y hY => wp_some (wp_sr (wp_some ⟨rfl, ?_⟩))))
          obtain ⟨y1, y2, y3, y4⟩ := hY
          unfold f_X6_doubtAll
          rw [sq_n]
          have yy : ∀ a b, a ≠ 70 → ¬ (a = 5 ∧ b = 4) → ¬ (a = 19 ∧ b = 6) → (mm_si Y 19 6 ((1 : Int32) <<< (Y.1 19 3 &&& 31) - 1)).1 a b = Z.1 a b := fun a b h1 h2 h3 => by rw [si_1, if_neg h3]; exact y1 a b h1 h2
          have yz : ∀ a b, a ≠ 70 → ¬ (a = 5 ∧ b = 4) → ¬ (a = 19 ∧ b = 6) → ¬ (8 ≤ a ∧ a < 14 ∧ 4 ≤ b ∧ b ≤ 6) → ¬ (a = 7) → (mm_si Y 19 6 ((1 : Int32) <<< (Y.1 19 3 &&& 31) - 1)).1 a b = Mc.1 a b := fun a b h1 h2 h3 h4 h5 => by rw [yy a b h1 h2 h3]; exact zz a b h4 h5
          have e193 : Y.1 19 3 = Int32.ofNat (S 0 28) := by rw [y1 19 3 (by omega) (by omega), zz 19 3 (by omega) (by omega)]; exact hI.told
          refine ⟨⟨1, fun _ => [], tc_new (by rw [si_1, if_neg (by omega)]; exact y3) (by
              obtain ⟨k, hk1, hk2⟩ := htc.pow
              exact ⟨k, hk1, by show Y.2.2 = _; rw [y2, z22]; exact hk2⟩) (fun i hi => by rw [si_1, if_neg (by omega)]; exact y4 i (by rw [← y2]; exact hi)) (fun w hw2 => ?_)⟩, ?_, ?_, ?_⟩
          · rw [e 0 8 (by omega)] at hw2
            have hfm := htc.frm 0 w (by have := htc.w1; omega) hw2
            rw [htc.root, show 0 * 20 + w = w by omega] at hfm
            show Y.2.1 71 w = _
            rw [y2, z22, show wd_w (up_ S 3 p v) w = wd_w S w by unfold wd_w; rw [ef 5 (by omega), ef 4 (by omega)]]
            exact hfm
          · refine hyo.ic hI (fun a b hab => yz a b (by omega) (by omega) (by omega) (by omega) (by omega)) (by show Y.2.1 17 = _; rw [y2, z22]) ?_ ?_ ?_ ?_ ?_ ?_ ?_ ?_ ?_ ?_ ?_
            · rw [yz 1 1 (by omega) (by omega) (by omega) (by omega) (by omega), e 0 4 (by omega)]; exact hI.tp
            · intro j hj; rw [e 0 4 (by omega)] at hj; rw [yz 2 j (by omega) (by omega) (by omega) (by omega) (by omega), e 2 j (by omega)]; exact hI.tape j hj
            · rw [yz 5 2 (by omega) (by omega) (by omega) (by omega) (by omega), e 0 8 (by omega)]; exact hI.words
            · intro c hc; rw [yy 7 c (by omega) (by omega) (by omega), z1 7 c (by omega), si_1]
              by_cases c3 : c = p
              · rw [if_pos ⟨rfl, c3⟩, c3, up_same]
              · rw [if_neg (by omega), up_oth (by omega)]; exact hI.cl c hc
            · intro l hl
              have hh := z3 l hl
              have h6 := hwg.laws
              unfold lo_ at hh ⊢
              rw [yy _ 0 (by omega) (by omega) (by omega), yy _ 1 (by omega) (by omega) (by omega), yy _ 2 (by omega) (by omega) (by omega), yy _ 3 (by omega) (by omega) (by omega), yy _ 4 (by omega) (by omega) (by omega), yy _ 5 (by omega) (by omega) (by omega), yy _ 6 (by omega) (by omega) (by omega)]
              exact hh
            · intro q hq; rw [yz 15 q (by omega) (by omega) (by omega) (by omega) (by omega), e 13 q (by omega)]; exact hI.lag q hq
            · rw [yz 19 3 (by omega) (by omega) (by omega) (by omega) (by omega), e 0 28 (by omega)]; exact hI.told
            · rw [yz 19 4 (by omega) (by omega) (by omega) (by omega) (by omega), e 0 28 (by omega), ef 26 (by omega)]; exact hI.on
            · intro q hq; rw [e 0 28 (by omega)] at hq
              exact sc_cg (hI.sg q hq) (fun b hb => yz (22 + q) b (by omega) (by omega) (by omega) (by omega) (by omega)) (fun a h1 h2 => e _ _ (by omega))
            · intro i hi; exact kp_cg (hI.kept i hi) (fun x y h1 h2 => yz x y (by omega) (by omega) (by omega) (by omega) (by omega)) hi (fun x h1 => ef x (by omega))
            · intro q h1 h3; rw [e 0 28 (by omega)] at h1; rw [yz (22 + q) 6 (by omega) (by omega) (by omega) (by omega) (by omega), yz (22 + q) 7 (by omega) (by omega) (by omega) (by omega) (by omega)]; exact hI.fresh q h1 h3
          · intro q hq hd
            rw [e 0 28 (by omega)] at hq
            rw [si_1, if_pos ⟨rfl, rfl⟩, e193, full_ib h16 hq] at hd
            cases hd
          · exact ⟨by rw [yz 3 1 (by omega) (by omega) (by omega) (by omega) (by omega)]; exact hro.1, fun j w hj => by show Y.2.1 4 j = _; rw [y2, z22]; exact hro.2 j w hj⟩
        · rw [si_1, if_neg (by omega), e 0 11 (by omega)]; exact hI.laws
        · rw [si_1]
          by_cases c3 : c = p
          · rw [if_pos ⟨rfl, c3⟩, c3, up_same]
          · rw [if_neg (by omega), up_oth (by omega)]; exact hI.cl c hc
        · rw [e 0 11 (by omega)] at hl
          obtain ⟨l0, l1, l2, l3, -⟩ := hI.lo l hl
          rw [e 6 l (by omega), e 7 l (by omega), e 8 l (by omega), e 9 l (by omega), si_1, if_neg (by omega), si_1, if_neg (by omega), si_1, if_neg (by omega), si_1, if_neg (by omega)]
          exact ⟨l0, l1, l2, l3⟩
      · refine wp_ck hix (wp_sr (wp_ck hix (wp_sr (wp_some ⟨?_, ?_⟩))))
        · show (mm_si Mr 0 0 0).1 3 (Int32.ofNat p).toNatClampNeg = _
          rw [et, hr1.1.1.cl hp]
        · simp only [et]
          exact rt_up hr1 (fun a b h => Or.inr (pe_up (by omega) h)) (by omega)
    · rw [if_neg (fun hh => c2 (i9.mp hh)), decide_eq_false (show ¬ (((0 : Nat) : Int) ≤ x2.toInt ∧ x2.toInt ≤ ((65535 : Nat) : Int)) by omega), gt_f]
      exact bo_no hrl
end VG1
