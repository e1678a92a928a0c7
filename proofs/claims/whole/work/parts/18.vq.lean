/-! CALLS: ahead -/
section VQ1
variable {S S' : sg_} {M M0 Mc Mr Z : mm_M} {vs : List Nat} {nv : Nat → Bool} {W : Nat} {pt : Nat → List Nat} {p what g : Nat}
theorem q_anyFit (hw : wf_ S) (hg : g ≤ 200) (h : rt_ (tl1_ S p g) no_ vs M) : wp_ (f_X12_isAnyFit M) (fun z => z.1 = bi_ (afl_ S p g (hs_ S)) ∧ rt_ (tl1_ S p g) no_ vs z.2) := by
  have h600 := hw.hist
  have hwt := tl1_wf (p := p) hw hg
  have key : ∀ (e k n : Nat) (M : mm_M), k + e = hs_ S → e < n → rt_ (tl1_ S p g) no_ vs M → afl_ S p g k = false → wp_ (f_X12_isAnyFit_7l n (Int32.ofNat (hs_ S)) (Int32.ofNat k) M) (fun z => z.1 = bi_ (afl_ S p g (hs_ S)) ∧ rt_ (tl1_ S p g) no_ vs z.2) := by
    intro e
    induction e with
    | zero =>
      intro k n M hk hn h hf
      obtain ⟨m, rfl⟩ : ∃ m, n = m + 1 := ⟨n - 1, by omega⟩
      have hkk : k = hs_ S := by omega
      unfold f_X12_isAnyFit_7l f_X12_isAnyFit_7
      rw [if_pos ((n3_le (by omega) (by omega)).mpr (by omega))]
      rw [hkk] at hf
      exact wp_some ⟨by rw [hf]; rfl, h⟩
    | succ e ih =>
      intro k n M hk hn h hf
      obtain ⟨m, rfl⟩ : ∃ m, n = m + 1 := ⟨n - 1, by omega⟩
      have e1 : Int32.ofNat k + 1 = Int32.ofNat (k + 1) := n3_add k 1
      unfold f_X12_isAnyFit_7l f_X12_isAnyFit_7
      rw [if_neg (by rw [n3_le (by omega) (by omega)]; omega)]
      refine wp_bd (wp_mo (r_fit h.1 hwt (show k < 2147483648 by omega)) (fun z hz => ?_))
      rw [hz.2, show ft_n (tl1_ S p g) no_ k = ft_ (tl1_ S p g) k from rfl]
      cases h1 : ft_ (tl1_ S p g) k with
      | false =>
        rw [if_pos (by decide)]
        refine wp_sr ?_
        rw [e1]
        exact ih (k + 1) m z.2 (by omega) (by omega) (h.fr2 hz.1) (by rw [afl_s, hf, h1]; rfl)
      | true =>
        rw [if_neg (by decide)]
        refine wp_some ⟨?_, h.fr2 hz.1⟩
        rw [afl_t (k := k + 1) (by omega) (by rw [afl_s, h1, Bool.or_true])]; rfl
  unfold f_X12_isAnyFit
  have hh := r_hist h.1.1 hwt
  rw [tl1_co.hs] at hh
  exact wp_be hh (key (hs_ S) 0 fu_ M (by omega) (by unfold fu_; omega) h rfl)
theorem tl1_id : tl1_ S p (S 13 p) = S := by
  funext a b
  unfold tl1_ lg_s
  by_cases c : a = 13
  · rw [if_pos c]
    show (if b = p then S 13 p else S 13 b) = S a b
    by_cases c2 : b = p
    · rw [if_pos c2, c, c2]
    · rw [if_neg c2, c]
  · rw [if_neg c]
theorem rt_tl {g0 : Nat} (h : rt_ (tl1_ S p g0) nv vs M) : rt_ (tl1_ S p g) nv vs (mm_si M 13 p (Int32.ofNat g)) := by
  have e : lg_s (tl1_ S p g0) (fun q => if q = p then g else S 13 q) = tl1_ S p g := by
    funext a b
    unfold tl1_ lg_s
    by_cases c : a = 13
    · rw [if_pos c, if_pos c]
    · rw [if_neg c, if_neg c, if_neg c]
  rw [← e]
  refine rt_lg h (fun a b hab => by rw [si_1, if_neg (by omega)]) rfl (fun q hq => ?_)
  rw [si_1]
  by_cases c : q = p
  · rw [if_pos ⟨rfl, c⟩, if_pos c]
  · rw [if_neg (by omega), if_neg c, h.1.1.lag hq]
    unfold tl1_
    rw [lg_13, if_neg c]
def ahd_m (S : sg_) (what p : Nat) : Nat → Option Nat
  | 0 => none
  | k + 1 => if (what = 1 ∨ ahd_m S what p k = none) ∧ afl_ S p (10 * k) (hs_ S) = true then some (10 * k) else ahd_m S what p k
theorem ahd_b : ∀ k x, ahd_m S what p k = some x → x ≤ 10 * k := by
  intro k
  induction k with
  | zero => intro x h; cases h
  | succ k ih =>
    intro x h
    unfold ahd_m at h
    split at h
    · cases h; omega
    · have := ih x h; omega
theorem ahd_n0 : ∀ j, (∀ i, i < j → afl_ S p (10 * i) (hs_ S) = false) → ahd_m S what p j = none := by
  intro j
  induction j with
  | zero => intro _; rfl
  | succ j ih =>
    intro h
    unfold ahd_m
    rw [if_neg (fun hh => by rw [h j (by omega)] at hh; cases hh.2)]
    exact ih (fun i hi => h i (by omega))
theorem ahd_s0 {k x : Nat} (h : ahd_m S 0 p k = some x) : ∀ d, ahd_m S 0 p (k + d) = some x := by
  intro d
  induction d with
  | zero => exact h
  | succ d ih =>
    show ahd_m S 0 p (k + d + 1) = _
    unfold ahd_m
    rw [if_neg (fun hh => by
      rcases hh.1 with h1 | h1
      · omega
      · rw [ih] at h1; cases h1)]
    exact ih
theorem ahd_s1 : ∀ j, j ≤ 21 → (∀ i, 21 - j ≤ i → i < 21 → afl_ S p (10 * i) (hs_ S) = false) → ahd_m S what p 21 = ahd_m S what p (21 - j) := by
  intro j
  induction j with
  | zero => intro _ _; rfl
  | succ j ih =>
    intro hj h
    rw [ih (by omega) (fun i h1 h2 => h i (by omega) h2)]
    obtain ⟨m, hm⟩ : ∃ m, 21 - j = m + 1 := ⟨20 - j, by omega⟩
    rw [hm, show 21 - (j + 1) = m by omega]
    conv => lhs; unfold ahd_m
    rw [if_neg (fun hh => by rw [h m (by omega) (by omega)] at hh; cases hh.2)]
theorem k_ahead_l (hw : wf_ S) (hp : p < 6) (hwh : what < 2) : ∀ (e j n : Nat) (M : mm_M), j + e = 21 → e < n → cs_ S vs M → hl_ S M → (∀ i, i < j → afl_ S p (if what = 0 then 10 * i else 200 - 10 * i) (hs_ S) = false) →
    wp_ (f_X11_ahead_26l n (Int32.ofNat p) (Int32.ofNat what) (Int32.ofNat (10 * j)) M) (fun z => z.1 = o2_ (ahd_m S what p 21) ∧ cs_ S vs z.2) := by
  intro e
  induction e with
  | zero =>
    intro j n M hj hn hc hl hinv
    obtain ⟨m, rfl⟩ : ∃ m, n = m + 1 := ⟨n - 1, by omega⟩
    unfold f_X11_ahead_26l f_X11_ahead_26
    rw [if_pos (show (200 : Int32) < Int32.ofNat (10 * j) from (n3_lt (a := 200) (by omega) (by omega)).mpr (by omega))]
    refine wp_some ⟨?_, hc⟩
    have : ahd_m S what p 21 = none := by
      refine ahd_n0 21 (fun i hi => ?_)
      by_cases c : what = 0
      · have := hinv i (by omega)
        rw [if_pos c] at this; exact this
      · have := hinv (20 - i) (by omega)
        rw [if_neg c, show 200 - 10 * (20 - i) = 10 * i by omega] at this; exact this
    rw [this]; rfl
  | succ e ih =>
    intro j n M hj hn hc hl hinv
    obtain ⟨m, rfl⟩ : ∃ m, n = m + 1 := ⟨n - 1, by omega⟩
    have e1 : Int32.ofNat (10 * j) + 10 = Int32.ofNat (10 * (j + 1)) := n3_add (10 * j) 10
    have hw0 : (Int32.ofNat what = 0) ↔ what = 0 := n3_eq (b := 0) (by omega) (by omega)
    have step : ∀ t, t = (if what = 0 then 10 * j else 200 - 10 * j) → wp_ (f_X11_ahead_46 (f_X11_ahead_26l m) (Int32.ofNat p) (Int32.ofNat what) (Int32.ofNat (10 * j)) (Int32.ofNat t) M) (fun z => z.1 = o2_ (ahd_m S what p 21) ∧ cs_ S vs z.2) := by
      intro t ht
      have ht2 : t ≤ 200 := by rw [ht]; split <;> omega
      unfold f_X11_ahead_46 f_X11_ahead_58
      refine wp_bd (wp_mo (k_someFits hw hp ht2 hc hl) (fun z hz => ?_))
      obtain ⟨z1, z2, z3⟩ := hz
      rw [z1]
      cases ha : afl_ S p t (hs_ S) with
      | false =>
        rw [if_pos (by decide)]
        refine wp_sr ?_
        rw [e1]
        refine ih (j + 1) m z.2 (by omega) (by omega) z2 z3 (fun i hi => ?_)
        by_cases c : i = j
        · rw [c, ← ht]; exact ha
        · exact hinv i (by omega)
      | true =>
        rw [if_neg (by decide)]
        refine wp_some ⟨?_, z2⟩
        by_cases c : what = 0
        · subst c
          rw [if_pos rfl] at ht
          have hn0 : ahd_m S 0 p j = none := ahd_n0 j (fun i hi => by have := hinv i hi; rw [if_pos rfl] at this; exact this)
          have h1 : ahd_m S 0 p (j + 1) = some (10 * j) := by
            unfold ahd_m
            rw [if_pos ⟨Or.inr hn0, by rw [← ht]; exact ha⟩]
          have h2 := ahd_s0 h1 (20 - j)
          rw [show j + 1 + (20 - j) = 21 by omega] at h2
          rw [h2, ht]; rfl
        · have hw1 : what = 1 := by omega
          subst hw1
          rw [if_neg (by omega)] at ht
          have h1 := ahd_s1 (S := S) (what := 1) (p := p) j (by omega) (fun i h1 h2 => by
            have := hinv (20 - i) (by omega)
            rw [if_neg (by omega), show 200 - 10 * (20 - i) = 10 * i by omega] at this; exact this)
          rw [h1, show 21 - j = (20 - j) + 1 by omega]
          have h2 : ahd_m S 1 p (20 - j + 1) = some (10 * (20 - j)) := by
            unfold ahd_m
            rw [if_pos ⟨Or.inl rfl, by rw [show 10 * (20 - j) = t by omega]; exact ha⟩]
          rw [h2, show 10 * (20 - j) = t by omega]; rfl
    unfold f_X11_ahead_26l f_X11_ahead_26
    rw [if_neg (show ¬ ((200 : Int32) < Int32.ofNat (10 * j)) from fun hh => by have := (n3_lt (a := 200) (by omega) (by omega)).mp hh; omega)]
    by_cases c : what = 0
    · rw [if_pos (hw0.mpr c)]
      exact step (10 * j) (by rw [if_pos c])
    · rw [if_neg (fun hh => c (hw0.mp hh)), show (200 : Int32) - Int32.ofNat (10 * j) = Int32.ofNat (200 - 10 * j) from n3_sub (a := 200) (by omega)]
      exact step (200 - 10 * j) (by rw [if_neg c])
theorem q_ahead_l (hw : wf_ S) (hp : p < 6) (hwh : what < 2) : ∀ (e k n : Nat) (M : mm_M), k + e = 21 → e < n → (∃ g0, rt_ (tl1_ S p g0) no_ vs M) →
    wp_ (f_X12_ahead_43l n (Int32.ofNat p) (Int32.ofNat what) (Int32.ofNat (S 13 p)) (o2_ (ahd_m S what p k)) (Int32.ofNat (10 * k)) M) (fun z => z.1 = o2_ (ahd_m S what p 21) ∧ rt_ S no_ vs z.2) := by
  have hlag := hw.lag p hp
  have hix : ix_ok (Int32.ofNat p) 6 := (n3_ix (by omega)).mpr hp
  have et : (Int32.ofNat p).toNatClampNeg = p := n3_tn (by omega)
  intro e
  induction e with
  | zero =>
    intro k n M hk hn h
    obtain ⟨m, rfl⟩ : ∃ m, n = m + 1 := ⟨n - 1, by omega⟩
    obtain ⟨g0, h⟩ := h
    unfold f_X12_ahead_43l f_X12_ahead_43 f_X12_ahead_103
    rw [if_pos (show (200 : Int32) < Int32.ofNat (10 * k) from (n3_lt (a := 200) (by omega) (by omega)).mpr (by omega))]
    refine wp_ck hix (wp_sr (wp_some ⟨by rw [show k = 21 by omega], ?_⟩))
    rw [et]
    have := rt_tl (g := S 13 p) h
    rw [tl1_id] at this
    exact this
  | succ e ih =>
    intro k n M hk hn h
    obtain ⟨m, rfl⟩ : ∃ m, n = m + 1 := ⟨n - 1, by omega⟩
    obtain ⟨g0, h⟩ := h
    have e1 : Int32.ofNat (10 * k) + 10 = Int32.ofNat (10 * (k + 1)) := n3_add (10 * k) 10
    have hw1 : (Int32.ofNat what = 1) ↔ what = 1 := n3_eq (b := 1) (by omega) (by omega)
    have h2 := rt_tl (g := 10 * k) h
    have goes : (what = 1 ∨ ahd_m S what p k = none) → wp_ (f_X12_ahead_69 (f_X12_ahead_43l m) (Int32.ofNat p) (Int32.ofNat what) (Int32.ofNat (S 13 p)) (o2_ (ahd_m S what p k)) (Int32.ofNat (10 * k)) (mm_si M 13 p (Int32.ofNat (10 * k)))) (fun z => z.1 = o2_ (ahd_m S what p 21) ∧ rt_ S no_ vs z.2) := by
      intro hor
      unfold f_X12_ahead_69 f_X12_ahead_74 f_X12_ahead_93 f_X12_ahead_95
      rw [if_neg (by decide)]
      refine wp_bd (wp_mo (q_anyFit hw (by omega) h2) (fun z hz => ?_))
      rw [hz.1]
      have go := ih (k + 1) m z.2 (by omega) (by omega) ⟨_, hz.2⟩
      cases ha : afl_ S p (10 * k) (hs_ S) with
      | false =>
        rw [if_pos (by decide)]
        refine wp_sr ?_
        rw [show ahd_m S what p (k + 1) = ahd_m S what p k by
          conv => lhs; unfold ahd_m
          rw [if_neg (fun hh => by rw [ha] at hh; cases hh.2)]] at go
        rw [e1]; exact go
      | true =>
        rw [if_neg (by decide)]
        refine wp_sr ?_
        rw [show ahd_m S what p (k + 1) = some (10 * k) by
          conv => lhs; unfold ahd_m
          rw [if_pos ⟨hor, ha⟩]] at go
        rw [e1]; exact go
    unfold f_X12_ahead_43l f_X12_ahead_43
    rw [if_neg (show ¬ ((200 : Int32) < Int32.ofNat (10 * k)) from fun hh => by have := (n3_lt (a := 200) (by omega) (by omega)).mp hh; omega)]
    refine wp_ck hix (wp_sr ?_)
    rw [et]
    cases hm : ahd_m S what p k with
    | none =>
      rw [if_pos (show o2_ none < 0 by decide), ← hm]
      exact goes (Or.inr hm)
    | some x =>
      have hx := ahd_b k x hm
      rw [if_neg (show ¬ (o2_ (some x) < 0) from fun hh => (n3_neg (by omega)).mp hh)]
      by_cases c : what = 1
      · rw [if_pos (hw1.mpr c), ← hm]
        exact goes (Or.inl c)
      · rw [if_neg (fun hh => c (hw1.mp hh))]
        unfold f_X12_ahead_74 f_X12_ahead_93 f_X12_ahead_95
        rw [if_pos rfl]
        refine wp_sr ?_
        have go := ih (k + 1) m _ (by omega) (by omega) ⟨_, h2⟩
        rw [show ahd_m S what p (k + 1) = some x by
          conv => lhs; unfold ahd_m
          rw [if_neg (fun hh => by
            rcases hh.1 with h3 | h3
            · exact c h3
            · rw [hm] at h3; cases h3), hm]] at go
        rw [e1]; exact go
theorem m_ahead (h : rl_ Mc Mr) (x1 x2 : Int32) : bo_ (f_X11_ahead x1 x2 Mc) (f_X12_ahead x1 x2 Mr) := by
  obtain ⟨S, vs, hw, hv, hc, hr⟩ := h
  have hr1 := hr.th
  have hrl : rl_ Mc (mm_si Mr 0 0 0) := ⟨S, vs, hw, hv, hc, hr1⟩
  unfold f_X11_ahead f_X12_ahead
  rw [sq_n (x := mm_si Mr 0 0 0), c_isPlace, show (2 : Int32) = Int32.ofNat 2 from rfl, c_bl (by omega), show (5 : Int64) = Int64.ofNat 5 from rfl, r_in0 (by omega), show (1 : Int64) = Int64.ofNat 1 from rfl, r_in0 (by omega)]
  refine bo_g hrl (fun b1 => bo_g hrl (fun b2 => ?_))
  obtain ⟨p, rfl, hp⟩ := lt_nat b1 (by omega)
  obtain ⟨what, rfl, hwh⟩ := lt_nat b2 (by omega)
  have hix : ix_ok (Int32.ofNat p) 6 := (n3_ix (by omega)).mpr hp
  refine bo_mk (A := o2_ (ahd_m S what p 21)) hw hv ?_ ?_
  · refine wp_bd (wp_mo (hc.look hw) (fun z hz => ?_))
    unfold f_X11_ahead_24
    exact k_ahead_l hw hp hwh 21 0 fu_ z (by omega) (by unfold fu_; omega) hz.1 hz.2.1 (fun i hi => by omega)
  · refine wp_ck hix (wp_sr ?_)
    rw [n3_tn (by omega), hr1.1.1.lag hp]
    exact q_ahead_l hw hp hwh 21 0 fu_ _ (by omega) (by unfold fu_; omega) ⟨S 13 p, by rw [tl1_id]; exact hr1⟩
end VQ1
