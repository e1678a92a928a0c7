/-! CALLS: works, swap, year, holds -/
section UD1
variable {S : sg_} {M Mc Mr : mm_M} {vs : List Nat} {nv : Nat → Bool} {W : Nat} {pt : Nat → List Nat}
/-! a law changes sounds, or not -/
theorem lw_ch_iff {l : Nat} : ∀ (xs : List Nat) (p : Option Nat), (∀ x, x ∈ xs → x < 16) → (lw_ch S l p xs = true ↔ lw_go S l p xs ≠ xs) := by
  intro xs
  induction xs with
  | nil => intro p _; simp [lw_ch, lw_go]
  | cons x xs ih =>
    intro p h
    have hx := h x (by simp)
    have ih2 := ih (some x) (fun z hz => h z (by simp [hz]))
    have hl := lw_len (S := S) (l := l) xs (some x)
    unfold lw_ch lw_go
    cases hd : lw_d S l p x xs.head? with
    | false =>
      rw [if_neg (by decide), Bool.false_and, Bool.false_or, ih2]
      simp
    | true =>
      rw [if_pos rfl, Bool.true_and]
      by_cases c : S 7 l = 24
      · rw [if_pos c, decide_eq_true (show S 7 l ≠ x by omega), Bool.true_or]
        constructor
        · intro _ he
          have := congrArg List.length he
          simp at this; omega
        · intro _; rfl
      · rw [if_neg c]
        by_cases c2 : S 7 l = x
        · rw [decide_eq_false (fun hn => hn c2), Bool.false_or, ih2, c2]; simp
        · rw [decide_eq_true c2, Bool.true_or]
          constructor
          · intro _ he; exact c2 (List.cons.inj he).1
          · intro _; rfl
theorem lw_on_ch {l : Nat} {xs : List Nat} (h : ok_ xs) : lw_ch S l none xs = decide (lw_on S l xs ≠ xs) := by
  rw [Bool.eq_iff_iff, lw_ch_iff xs none h.2, decide_eq_true_iff]; rfl
/-- the laws ahead of one -/
def ah_ (S : sg_) (h l : Nat) : List Nat := (or_ S h).takeWhile (fun x => decide (x ≠ l))
theorem ah_split {h l : Nat} (hl : l < S 0 11) : ∃ suf, or_ S h = ah_ S h l ++ l :: suf ∧ l ∉ ah_ S h l := by
  have hm : l ∈ or_ S h := or_mem.mpr hl
  unfold ah_
  generalize or_ S h = xs at hm
  induction xs with
  | nil => cases hm
  | cons x xs ih =>
    rw [List.takeWhile_cons]
    by_cases c : x = l
    · rw [if_neg (by simp [c])]
      exact ⟨xs, by rw [c]; rfl, by simp⟩
    · rw [if_pos (by simp [c])]
      have hm2 : l ∈ xs := by
        rw [List.mem_cons] at hm
        rcases hm with hm | hm
        · exact absurd hm.symm c
        · exact hm
      obtain ⟨suf, h1, h2⟩ := ih hm2
      refine ⟨suf, by rw [List.cons_append, ← h1], ?_⟩
      intro hc
      rw [List.mem_cons] at hc
      rcases hc with hc | hc
      · exact c hc.symm
      · exact h2 hc
/-- a law that has come: what stands ahead of it has come, too -/
theorem pa_split {h y p l : Nat} (hl : l < S 0 11) (hy : yr_ S l h + S 13 p ≤ y) : ∃ suf, pa_ S no_ h y p = ah_ S h l ++ l :: suf ∧ l ∉ suf := by
  obtain ⟨suf, h1, h2⟩ := ah_split (S := S) (h := h) hl
  have hsr := or_sr (S := S) h
  have hnd := or_nd (S := S) h
  rw [h1] at hsr hnd
  rw [pa_filter, h1, List.filter_append, List.filter_cons, if_pos (by simp [no_, hy])]
  have e : (ah_ S h l).filter (fun l => !no_ l && decide (yr_ S l h + S 13 p ≤ y)) = ah_ S h l := by
    apply List.filter_eq_self.mpr
    intro x hx
    have := (List.pairwise_append.mp hsr).2.2 x hx l (by simp)
    have h3 : yr_ S x h ≤ yr_ S l h := this
    simp [no_]; omega
  rw [e]
  refine ⟨_, rfl, ?_⟩
  intro hm
  have hm2 := (List.mem_filter.mp hm).1
  rw [List.nodup_append] at hnd
  exact (List.nodup_cons.mp hnd.2.1).1 hm2
theorem pa_mem_iff {h y p l : Nat} : l ∈ pa_ S no_ h y p ↔ l < S 0 11 ∧ yr_ S l h + S 13 p ≤ y := by
  rw [pa_filter, List.mem_filter, or_mem]
  simp [no_]
/-! the class's years and courses -/
theorem c_turn_l (hI : ic_ S M) (hw : wf_ S) {h l : Nat} (hh : h < hs_ S) (hl : l < S 0 11) : ∀ (rest pre : List Nat) (n : Nat), or_ S h = pre ++ rest → l ∈ rest → rest.length ≤ n → ∃ t, f_X3_turnOf_2l M n (Int32.ofNat h) (Int32.ofNat l) (Int32.ofNat pre.length) = some (Int32.ofNat t) ∧ (or_ S h)[t]? = some l ∧ t < S 0 11 := by
  have h6 := hw.laws
  have hlen := or_len (S := S) h
  intro rest
  induction rest with
  | nil => intro pre n _ hm; cases hm
  | cons a rest ih =>
    intro pre n e1 hm hn
    obtain ⟨m, rfl⟩ : ∃ m, n = m + 1 := ⟨n - 1, by simp at hn; omega⟩
    have hlp : pre.length + (rest.length + 1) = S 0 11 := by rw [← hlen, e1]; simp
    have hat : (or_ S h)[pre.length]? = some a := by rw [e1]; simp
    have e2 : Int32.ofNat (S 0 11) - 1 = Int32.ofNat (S 0 11 - 1) := n3_sub (b := 1) (by omega)
    unfold f_X3_turnOf_2l f_X3_turnOf_2
    rw [hI.laws2, e2]
    by_cases c : S 0 11 - 1 ≤ pre.length
    · rw [if_pos ((n3_le (by omega) (by omega)).mpr c)]
      have hr : rest = [] := List.length_eq_zero_iff.mp (by omega)
      subst hr
      rw [List.mem_singleton] at hm
      exact ⟨pre.length, rfl, by rw [hm]; exact hat, by omega⟩
    · rw [if_neg (by rw [n3_le (by omega) (by omega)]; exact c), c_lawAt hI hw hh hat, Option.bind_some]
      have ha : a < S 0 11 := or_mem.mp (List.mem_of_getElem? hat)
      by_cases c2 : a = l
      · rw [if_pos (by rw [c2])]
        exact ⟨pre.length, rfl, by rw [← c2]; exact hat, by omega⟩
      · rw [if_neg (by rw [n3_eq (by omega) (by omega)]; exact c2), sq_n]
        have e3 : Int32.ofNat pre.length + 1 = Int32.ofNat (pre ++ [a]).length := by
          rw [show (pre ++ [a]).length = pre.length + 1 from by simp]; exact n3_add _ 1
        rw [e3]
        refine ih (pre ++ [a]) m (by rw [e1]; simp) ?_ (by simp at hn; omega)
        rw [List.mem_cons] at hm
        rcases hm with hm | hm
        · exact absurd hm.symm c2
        · exact hm
theorem c_turn (hI : ic_ S M) (hw : wf_ S) {h l : Nat} (hh : h < hs_ S) (hl : l < S 0 11) : ∃ t, f_X3_turnOf (Int32.ofNat h) (Int32.ofNat l) M = some (Int32.ofNat t) ∧ (or_ S h)[t]? = some l ∧ t < S 0 11 := by
  have h6 := hw.laws
  have hlen := or_len (S := S) h
  exact c_turn_l hI hw hh hl (or_ S h) [] fu_ rfl (or_mem.mpr hl) (by unfold fu_; omega)
theorem c_yearOf (hI : ic_ S M) (hw : wf_ S) {h l : Nat} (hh : h < hs_ S) (hl : l < S 0 11) : f_X3_yearOf (Int32.ofNat h) (Int32.ofNat l) M = some (Int32.ofNat (yr_ S l h)) := by
  have h600 := hw.hist
  obtain ⟨t, t1, t2, t3⟩ := c_turn hI hw hh hl
  unfold f_X3_yearOf
  rw [if_pos ((n3_ix (by omega)).mpr (by omega)), t1, Option.bind_some, n3_tn (by omega), hI.yrs h hh, c_yearIn hw t2, sq_n]
theorem c_hasCome (hI : ic_ S M) (hw : wf_ S) {h l y p : Nat} (hh : h < hs_ S) (hl : l < S 0 11) (hy : y < 601) (hp : p < 6) : f_X3_hasCome (Int32.ofNat l) (Int32.ofNat h) (Int32.ofNat y) (Int32.ofNat p) M = some (bi_ (decide (yr_ S l h + S 13 p ≤ y))) := by
  have h1 := yr_le (h := h) hw hl
  have h2 := hw.lag p hp
  unfold f_X3_hasCome
  rw [c_yearOf hI hw hh hl, Option.bind_some, if_pos ((n3_ix (by omega)).mpr hp), n3_tn (by omega), hI.lag p hp, n3_add]
  by_cases c : yr_ S l h + S 13 p ≤ y
  · rw [if_neg (by rw [n3_lt (by omega) (by omega)]; omega), decide_eq_true c]; rfl
  · rw [if_pos ((n3_lt (by omega) (by omega)).mpr (by omega)), decide_eq_false c]; rfl
theorem r_hasCome (hI : ir_ S M) (hw : wf_ S) {h l y p : Nat} (hh : h < 2147483648) (hl : l < S 0 11) (hy : y < 601) (hp : p < 6) : f_X12_hasCome (Int32.ofNat l) (Int32.ofNat h) (Int32.ofNat y) (Int32.ofNat p) M = some (bi_ (decide (yr_ S l h + S 13 p ≤ y))) := by
  have h1 := yr_le (h := h) hw hl
  have h2 := hw.lag p hp
  unfold f_X12_hasCome
  rw [r_yr hI hw hl hh, Option.bind_some, if_pos ((n3_ix (by omega)).mpr hp), n3_tn (by omega), hI.lag hp, n3_add]
  by_cases c : yr_ S l h + S 13 p ≤ y
  · rw [if_neg (by rw [n3_lt (by omega) (by omega)]; omega), decide_eq_true c]; rfl
  · rw [if_pos ((n3_lt (by omega) (by omega)).mpr (by omega)), decide_eq_false c]; rfl
theorem c_upTo_l (hw : wf_ S) {h l : Nat} (hh : h < hs_ S) (hl : l < S 0 11) : ∀ (rest pre : List Nat) (c : Nat) (M : mm_M) (W : Nat) (pt : Nat → List Nat) (n : Nat), or_ S h = pre ++ rest → rest.length < n → tc_ S M W pt → ic_ S M → c < W → pt c = pre →
    wp_ (f_X3_courseUpTo_5l n (Int32.ofNat h) (Int32.ofNat l) (Int32.ofNat c) (Int32.ofNat pre.length) M) (fun z => ∃ W' pt' d, z.1 = Int32.ofNat d ∧ d < W' ∧ pt' d = pre ++ rest.takeWhile (fun x => decide (x ≠ l)) ∧ px_ W pt W' pt' ∧ fc_ M z.2 ∧ tc_ S z.2 W' pt') := by
  have h6 := hw.laws
  have hlen := or_len (S := S) h
  have hnd := or_nd (S := S) h
  intro rest
  induction rest with
  | nil =>
    intro pre c M W pt n e1 hn ht hI hc hp
    obtain ⟨m, rfl⟩ : ∃ m, n = m + 1 := ⟨n - 1, by omega⟩
    have hlp : pre.length = S 0 11 := by rw [← hlen, e1]; simp
    unfold f_X3_courseUpTo_5l f_X3_courseUpTo_5
    rw [hI.laws2, if_pos ((n3_le (by omega) (by omega)).mpr (by omega))]
    exact wp_some ⟨W, pt, c, rfl, hc, by rw [hp]; simp, px_.refl, fc_.refl, ht⟩
  | cons a rest ih =>
    intro pre c M W pt n e1 hn ht hI hc hp
    obtain ⟨m, rfl⟩ : ∃ m, n = m + 1 := ⟨n - 1, by omega⟩
    have hlp : pre.length + (rest.length + 1) = S 0 11 := by rw [← hlen, e1]; simp
    have hat : (or_ S h)[pre.length]? = some a := by rw [e1]; simp
    have ha : a < S 0 11 := or_mem.mp (List.mem_of_getElem? hat)
    unfold f_X3_courseUpTo_5l f_X3_courseUpTo_5
    rw [hI.laws2, if_neg (by rw [n3_le (by omega) (by omega)]; omega)]
    refine wp_be (c_lawAt hI hw hh hat) ?_
    rw [List.takeWhile_cons]
    by_cases c1 : a = l
    · rw [if_pos (by rw [c1])]
      refine wp_some ⟨W, pt, c, rfl, hc, ?_, px_.refl, fc_.refl, ht⟩
      rw [if_neg (by simp [c1]), hp]; simp
    · rw [if_neg (by rw [n3_eq (by omega) (by omega)]; exact c1), if_pos (by simp [c1])]
      refine wp_be (c_lawAt hI hw hh hat) ?_
      have hnm : a ∉ pt c := fun hm => by
        rw [hp] at hm
        rw [e1, List.nodup_append] at hnd
        exact hnd.2.2 a hm a (by simp) rfl
      refine wp_bd (wp_mo (c_after ht hw hI hc ha hnm) (fun z hz => ?_))
      obtain ⟨W1, pt1, d1, z1, z2, z3, z4, z5, z6⟩ := hz
      unfold f_X3_courseUpTo_40
      refine wp_sr ?_
      have e3 : Int32.ofNat pre.length + 1 = Int32.ofNat (pre ++ [a]).length := by
        rw [show (pre ++ [a]).length = pre.length + 1 from by simp]; exact n3_add _ 1
      rw [e3, z1]
      refine wp_mo (ih (pre ++ [a]) d1 z.2 W1 pt1 m (by rw [e1]; simp) (by simp at hn; omega) z6 (z5.ic hw hI) z2 (by rw [z3, hp])) (fun r hr => ?_)
      obtain ⟨W2, pt2, d2, r1, r2, r3, r4, r5, r6⟩ := hr
      refine ⟨W2, pt2, d2, r1, r2, ?_, z4.trans r4, z5.trans r5, r6⟩
      rw [r3, List.append_assoc]; rfl
theorem c_diff (hw : wf_ S) (hI : ic_ S M) (ht : tc_ S M W pt) {c d : Nat} (hc : c < W) (hd : d < W) : ∀ (e k n : Nat), k + e = S 0 8 → e < n → f_X9_differing_5l M n (Int32.ofNat c) (Int32.ofNat d) (mk_b (fun w => decide (sa_l S (pt c) (wd_w S w) ≠ sa_l S (pt d) (wd_w S w))) k) (Int32.ofNat k) = some (mk_b (fun w => decide (sa_l S (pt c) (wd_w S w) ≠ sa_l S (pt d) (wd_w S w))) (S 0 8)) := by
  have h20 := hw.words
  intro e
  induction e with
  | zero =>
    intro k n hk hn
    obtain ⟨m, rfl⟩ : ∃ m, n = m + 1 := ⟨n - 1, by omega⟩
    have hkk : k = S 0 8 := by omega
    unfold f_X9_differing_5l f_X9_differing_5
    rw [hI.words, if_pos ((n3_le (by omega) (by omega)).mpr (by omega)), hkk]
  | succ e ih =>
    intro k n hk hn
    obtain ⟨m, rfl⟩ : ∃ m, n = m + 1 := ⟨n - 1, by omega⟩
    have hkw : k < S 0 8 := by omega
    have e1 : Int32.ofNat k + 1 = Int32.ofNat (k + 1) := n3_add k 1
    have go := ih (k + 1) m (by omega) (by omega)
    have o1 := c_fok ht hw hc hkw
    have o2 := c_fok ht hw hd hkw
    rw [show mk_b (fun w => decide (sa_l S (pt c) (wd_w S w) ≠ sa_l S (pt d) (wd_w S w))) (k + 1) = mk_b (fun w => decide (sa_l S (pt c) (wd_w S w) ≠ sa_l S (pt d) (wd_w S w))) k ||| (if decide (sa_l S (pt c) (wd_w S k) ≠ sa_l S (pt d) (wd_w S k)) = true then 1 <<< (Int32.ofNat k &&& 31) else 0) from rfl] at go
    unfold f_X9_differing_5l f_X9_differing_5 f_X9_differing_41
    rw [hI.words, if_neg (by rw [n3_le (by omega) (by omega)]; omega), c_form ht hw hc hkw, Option.bind_some, c_form ht hw hd hkw, Option.bind_some]
    by_cases cc : sa_l S (pt c) (wd_w S k) = sa_l S (pt d) (wd_w S k)
    · rw [if_pos (by rw [cc]), sq_n, sq_n, e1]
      rw [if_neg (by rw [decide_eq_false (fun h => h cc)]; decide)] at go
      exact go
    · rw [if_neg (fun he => cc ((en_eq o1 o2).mp he)), sq_n, sq_n, e1]
      rw [if_pos (decide_eq_true cc)] at go
      exact go
end UD1
