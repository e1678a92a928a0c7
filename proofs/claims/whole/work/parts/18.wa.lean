/-! WEIGHTS of histories -/
section WA1
variable {S : sg_} {M Mc Mr : mm_M} {vs : List Nat} {B : Nat → Bool} {h : Nat}
def wt_ (S : sg_) (B : Nat → Bool) (h : Nat) : Nat → Nat
  | 0 => 1
  | k + 1 => wt_ S B h k * (if B k = true then (if ho_ S k h = true then S 25 k else 10 - S 25 k) else 1)
def wtt_ (S : sg_) (B : Nat → Bool) (h : Nat) : Nat := wt_ S B h (S 0 28)
theorem wt_b (hw : wf_ S) : ∀ k, k ≤ S 0 28 → 1 ≤ wt_ S B h k ∧ wt_ S B h k ≤ 9 ^ nb_ B k := by
  intro k
  induction k with
  | zero => intro _; exact ⟨Nat.le_refl _, Nat.le_refl _⟩
  | succ k ih =>
    intro hk
    have h1 := ih (by omega)
    have h2 := hw.trust k (by omega)
    show 1 ≤ wt_ S B h k * _ ∧ wt_ S B h k * _ ≤ 9 ^ (nb_ B k + _)
    by_cases c : B k = true
    · rw [if_pos c, if_pos c, Nat.pow_succ]
      have h3 : 1 ≤ (if ho_ S k h = true then S 25 k else 10 - S 25 k) ∧ (if ho_ S k h = true then S 25 k else 10 - S 25 k) ≤ 9 := by
        split <;> omega
      exact ⟨Nat.mul_le_mul h1.1 h3.1, Nat.mul_le_mul h1.2 h3.2⟩
    · rw [if_neg c, if_neg c, Nat.mul_one, Nat.add_zero]; exact h1
theorem wtt_b (hw : wf_ S) (hn : nb_ B (S 0 28) ≤ 12) : 1 ≤ wtt_ S B h ∧ wtt_ S B h ≤ 282429536481 := by
  have h1 := wt_b (B := B) (h := h) hw (S 0 28) (Nat.le_refl _)
  have h2 : 9 ^ nb_ B (S 0 28) ≤ 9 ^ 12 := Nat.pow_le_pow_right (n := 9) (by omega) hn
  unfold wtt_
  exact ⟨h1.1, Nat.le_trans h1.2 h2⟩
theorem sml_le {f : Nat → Nat} {b : Nat} : ∀ k, (∀ i, i < k → f i ≤ b) → sml_ f k ≤ k * b := by
  intro k
  induction k with
  | zero => intro _; exact Nat.zero_le _
  | succ k ih =>
    intro hf
    have h1 := ih (fun i hi => hf i (by omega))
    have h2 := hf k (by omega)
    show sml_ f k + f k ≤ _
    rw [Nat.succ_mul]; omega
theorem sml_mono {f g : Nat → Nat} : ∀ k, (∀ i, i < k → f i ≤ g i) → sml_ f k ≤ sml_ g k := by
  intro k
  induction k with
  | zero => intro _; exact Nat.le_refl _
  | succ k ih =>
    intro hf
    have h1 := ih (fun i hi => hf i (by omega))
    have h2 := hf k (by omega)
    show sml_ f k + f k ≤ sml_ g k + g k
    omega
theorem sml_at {f : Nat → Nat} : ∀ k i, i < k → f i ≤ sml_ f k := by
  intro k
  induction k with
  | zero => intro i hi; omega
  | succ k ih =>
    intro i hi
    show f i ≤ sml_ f k + f k
    by_cases c : i = k
    · rw [c]; omega
    · have := ih i (by omega); omega
theorem sml_cg {f g : Nat → Nat} : ∀ k, (∀ i, i < k → f i = g i) → sml_ f k = sml_ g k := by
  intro k
  induction k with
  | zero => intro _; rfl
  | succ k ih =>
    intro hf
    show sml_ f k + f k = sml_ g k + g k
    rw [ih (fun i hi => hf i (by omega)), hf k (by omega)]
theorem wts_b (hw : wf_ S) (hn : nb_ B (S 0 28) ≤ 12) : 0 < sml_ (wtt_ S B) (hs_ S) ∧ sml_ (wtt_ S B) (hs_ S) < 9223372036854775808 := by
  have h600 := hw.hist
  have h1 := hs_pos hw
  have h2 := sml_at (f := wtt_ S B) (hs_ S) 0 (by omega)
  have h3 := (wtt_b (h := 0) hw hn).1
  have h4 := sml_le (f := wtt_ S B) (b := 282429536481) (hs_ S) (fun i _ => (wtt_b (h := i) hw hn).2)
  have h5 := Nat.mul_le_mul_right 282429536481 h600
  omega
theorem c_weight (hI : ic_ S M) (hw : wf_ S) (hl : hl_ S M) (hh : h < hs_ S) {x2 : Int32} (hx : ∀ s, s < S 0 28 → ib_ x2 s = B s) : f_X6_weightOf (Int32.ofNat h) x2 M = some (Int64.ofNat (wtt_ S B h)) := by
  have h16 := hw.signs
  have h600 := hw.hist
  have key : ∀ (e k n : Nat), k + e = S 0 28 → e < n → f_X6_weightOf_13l M n x2 (M.1 21 h) (Int64.ofNat (wt_ S B h k)) (Int32.ofNat k) = some (Int64.ofNat (wtt_ S B h)) := by
    intro e
    induction e with
    | zero =>
      intro k n hk hn
      obtain ⟨m, rfl⟩ : ∃ m, n = m + 1 := ⟨n - 1, by omega⟩
      have hkk : k = S 0 28 := by omega
      unfold f_X6_weightOf_13l f_X6_weightOf_13
      rw [hI.told, if_pos ((n3_le (by omega) (by omega)).mpr (by omega)), hkk]; rfl
    | succ e ih =>
      intro k n hk hn
      obtain ⟨m, rfl⟩ : ∃ m, n = m + 1 := ⟨n - 1, by omega⟩
      have hks : k < S 0 28 := by omega
      have e1 : Int32.ofNat k + 1 = Int32.ofNat (k + 1) := n3_add k 1
      have ht := hw.trust k hks
      have go := ih (k + 1) m (by omega) (by omega)
      rw [show wt_ S B h (k + 1) = wt_ S B h k * (if B k = true then (if ho_ S k h = true then S 25 k else 10 - S 25 k) else 1) from rfl] at go
      unfold f_X6_weightOf_13l f_X6_weightOf_13 f_X6_weightOf_70 f_X6_weightOf_73
      rw [hI.told, if_neg (by rw [n3_le (by omega) (by omega)]; omega), ib_bit (by omega), ib_bit (by omega), hx k hks, hl k h hks hh]
      simp only [n3_tn (show k < 2147483648 by omega)]
      obtain ⟨-, -, -, -, -, -, -, -, h7⟩ := hI.sg k hks
      rw [h7]
      by_cases c : B k = true
      · rw [if_pos c] at go ⊢
        rw [if_neg (by decide)]
        by_cases c2 : ho_ S k h = true
        · rw [if_pos c2] at go ⊢
          rw [if_neg (by decide), if_pos ((n3_ix (by omega)).mpr (by omega)), n3_6 (by omega), sq_n, sq_n, n6_mul, e1]
          exact go
        · rw [if_neg c2] at go ⊢
          rw [if_pos (by decide), if_pos ((n3_ix (by omega)).mpr (by omega)), show (10 : Int32) - Int32.ofNat (S 25 k) = Int32.ofNat (10 - S 25 k) from n3_sub (a := 10) (by omega), n3_6 (by omega), sq_n, sq_n, n6_mul, e1]
          exact go
      · rw [if_neg c, Nat.mul_one] at go
        rw [if_neg c, if_pos (by decide), sq_n, e1]
        exact go
  unfold f_X6_weightOf
  rw [if_pos ((n3_ix (by omega)).mpr (by omega)), n3_tn (by omega), sq_n]
  exact key (S 0 28) 0 fu_ (by omega) (by unfold fu_; omega)
/-- the class has weighed all -/
def wgc_ (S : sg_) (B : Nat → Bool) (k : Nat) (M : mm_M) : Prop := ∀ h, h < k → M.2.1 67 h = Int64.ofNat (wtt_ S B h)
theorem c_weighAll_l (hw : wf_ S) {x1 : Int32} (hx : ∀ s, s < S 0 28 → ib_ x1 s = B s) : ∀ (e k n : Nat) (M : mm_M), k + e = hs_ S → e < n → cs_ S vs M → hl_ S M → wgc_ S B k M →
    wp_ (f_X11_weighAll_5l n x1 (Int64.ofNat (sml_ (wtt_ S B) k)) (Int32.ofNat k) M) (fun z => z.1 = Int64.ofNat (sml_ (wtt_ S B) (hs_ S)) ∧ cs_ S vs z.2 ∧ hl_ S z.2 ∧ wgc_ S B (hs_ S) z.2) := by
  have h600 := hw.hist
  intro e
  induction e with
  | zero =>
    intro k n M hk hn hc hl hg
    obtain ⟨m, rfl⟩ : ∃ m, n = m + 1 := ⟨n - 1, by omega⟩
    have hkk : k = hs_ S := by omega
    unfold f_X11_weighAll_5l f_X11_weighAll_5
    rw [hc.2.1.hs, if_pos ((n3_le (by omega) (by omega)).mpr (by omega))]
    rw [hkk] at hg ⊢
    exact wp_some ⟨rfl, hc, hl, hg⟩
  | succ e ih =>
    intro k n M hk hn hc hl hg
    obtain ⟨m, rfl⟩ : ∃ m, n = m + 1 := ⟨n - 1, by omega⟩
    have e1 : Int32.ofNat k + 1 = Int32.ofNat (k + 1) := n3_add k 1
    have hix : ix_ok (Int32.ofNat k) 600 := (n3_ix (by omega)).mpr (by omega)
    unfold f_X11_weighAll_5l f_X11_weighAll_5
    rw [hc.2.1.hs, if_neg (by rw [n3_le (by omega) (by omega)]; omega)]
    refine wp_be (c_weight hc.2.1 hw hl (show k < hs_ S by omega) hx) (wp_ck hix (wp_sr (wp_ck hix (wp_sr (wp_sr ?_)))))
    rw [n3_tn (by omega), sl_2, if_pos ⟨rfl, rfl⟩, n6_add, e1]
    obtain ⟨⟨W, pt, ht⟩, -⟩ := id hc
    refine ih (k + 1) m _ (by omega) (by omega) (hc.fk hw (P := fun _ _ => False) (Q := fun a => a = 67) (fk_sl rfl) (ht.sl (by omega)) (fun a b hab => hab.elim) (fun a ha => by omega)) (hl.fr (fun b => rfl)) ?_
    intro j hj
    rw [sl_2]
    by_cases c : j = k
    · rw [if_pos ⟨rfl, c⟩, c]
    · rw [if_neg (by simp [c])]; exact hg j (by omega)
theorem c_weighAll (hw : wf_ S) {x1 : Int32} (hx : ∀ s, s < S 0 28 → ib_ x1 s = B s) (hc : cs_ S vs M) (hl : hl_ S M) :
    wp_ (f_X11_weighAll x1 M) (fun z => z.1 = Int64.ofNat (sml_ (wtt_ S B) (hs_ S)) ∧ cs_ S vs z.2 ∧ hl_ S z.2 ∧ wgc_ S B (hs_ S) z.2) := by
  have h600 := hw.hist
  exact c_weighAll_l hw hx (hs_ S) 0 fu_ M (by omega) (by unfold fu_; omega) hc hl (fun h hh => by omega)
theorem r_weight_l (hw : wf_ S) {x2 : Int32} (hB : ∀ s, s < S 0 28 → B s = (decide (S 26 s = 1) && decide (Int32.ofNat s ≠ x2))) (hh : h < 600) : ∀ (e k n : Nat) (M : mm_M), k + e = S 0 28 → e < n → rs_ S no_ M →
    wp_ (f_X12_weightOf_5l n (Int32.ofNat h) x2 (Int64.ofNat (wt_ S B h k)) (Int32.ofNat k) M) (fun z => z.1 = Int64.ofNat (wtt_ S B h) ∧ fr_ pw_s2 M z.2) := by
  have h16 := hw.signs
  intro e
  induction e with
  | zero =>
    intro k n M hk hn hr
    obtain ⟨m, rfl⟩ : ∃ m, n = m + 1 := ⟨n - 1, by omega⟩
    have hkk : k = S 0 28 := by omega
    unfold f_X12_weightOf_5l f_X12_weightOf_5
    rw [hr.1.signs, if_pos ((n3_le (by omega) (by omega)).mpr (by omega)), hkk]
    exact wp_some ⟨rfl, fr_.refl⟩
  | succ e ih =>
    intro k n M hk hn hr
    obtain ⟨m, rfl⟩ : ∃ m, n = m + 1 := ⟨n - 1, by omega⟩
    have hks : k < S 0 28 := by omega
    have e1 : Int32.ofNat k + 1 = Int32.ofNat (k + 1) := n3_add k 1
    have ht := hw.trust k hks
    have hix : ix_ok (Int32.ofNat k) 17 := (n3_ix (by omega)).mpr (by omega)
    have hs : wt_ S B h (k + 1) = wt_ S B h k * (if B k = true then (if ho_ S k h = true then S 25 k else 10 - S 25 k) else 1) := rfl
    have go : ∀ M', fr_ pw_s2 M M' → wp_ (f_X12_weightOf_5l m (Int32.ofNat h) x2 (Int64.ofNat (wt_ S B h (k + 1))) (Int32.ofNat (k + 1)) M') (fun z => z.1 = Int64.ofNat (wtt_ S B h) ∧ fr_ pw_s2 M z.2) :=
      fun M' hf => wp_mo (ih (k + 1) m M' (by omega) (by omega) (hr.fr2 hf)) (fun z hz => ⟨hz.1, hf.trans hz.2⟩)
    have hb := hB k hks
    unfold f_X12_weightOf_5l f_X12_weightOf_5 f_X12_weightOf_63 f_X12_weightOf_65
    rw [hr.1.signs, if_neg (by rw [n3_le (by omega) (by omega)]; omega)]
    refine wp_ck hix ?_
    simp only [n3_tn (show k < 2147483648 by omega)]
    rw [(hr.1.sg hks).2.2.2.2.2.2]
    by_cases c : S 26 k = 1
    · rw [if_neg (by rw [on_ne hw hks]; exact fun h => h c)]
      by_cases c2 : Int32.ofNat k = x2
      · rw [if_pos c2]
        rw [decide_eq_false (p := Int32.ofNat k ≠ x2) (fun h => h c2), Bool.and_false] at hb
        rw [hb, if_neg (by decide), Nat.mul_one] at hs
        refine wp_sr ?_
        rw [e1, ← hs]
        exact go M fr_.refl
      · rw [if_neg c2]
        rw [decide_eq_true c, decide_eq_true (p := Int32.ofNat k ≠ x2) c2] at hb
        rw [hb, if_pos (by rfl)] at hs
        refine wp_bd (wp_mo (r_heldS hr hw hks (by omega)) (fun z hz => ?_))
        rw [hz.2]
        have hr2 := hr.fr2 hz.1
        have h25 := (hr2.1.sg hks).2.2.2.2.2.1
        rw [h25]
        by_cases c3 : ho_ S k h = true
        · rw [if_pos c3] at hs
          rw [show ho_n S no_ k h = true from c3, if_neg (by decide)]
          refine wp_ck hix (wp_sr (wp_sr ?_))
          rw [n3_6 (by omega), n6_mul, e1, ← hs]
          exact go z.2 hz.1
        · rw [if_neg c3] at hs
          have c4 : ho_n S no_ k h = false := by
            cases hq : ho_n S no_ k h with
            | false => rfl
            | true => exact absurd hq c3
          rw [c4, if_pos (by decide)]
          refine wp_ck hix (wp_sr (wp_sr ?_))
          rw [show (10 : Int32) - Int32.ofNat (S 25 k) = Int32.ofNat (10 - S 25 k) from n3_sub (a := 10) (by omega), n3_6 (by omega), n6_mul, e1, ← hs]
          exact go z.2 hz.1
    · rw [if_pos (by rw [on_ne hw hks]; exact c)]
      rw [decide_eq_false c, Bool.false_and] at hb
      rw [hb, if_neg (by decide), Nat.mul_one] at hs
      refine wp_sr ?_
      rw [e1, ← hs]
      exact go M fr_.refl
theorem r_weight (hw : wf_ S) {x2 : Int32} (hB : ∀ s, s < S 0 28 → B s = (decide (S 26 s = 1) && decide (Int32.ofNat s ≠ x2))) (hh : h < 600) (hr : rs_ S no_ M) :
    wp_ (f_X12_weightOf (Int32.ofNat h) x2 M) (fun z => z.1 = Int64.ofNat (wtt_ S B h) ∧ fr_ pw_s2 M z.2) := by
  have h16 := hw.signs
  exact r_weight_l hw hB hh (S 0 28) 0 fu_ M (by omega) (by unfold fu_; omega) hr
def onb_ (S : sg_) (s : Nat) : Bool := decide (S 26 s = 1)
theorem onb_1 (hw : wf_ S) : ∀ s, s < S 0 28 → onb_ S s = (decide (S 26 s = 1) && decide (Int32.ofNat s ≠ (-1 : Int32))) := by
  intro s hs
  have h16 := hw.signs
  rw [on_1 s (by omega), Bool.and_true]; rfl
def wgq_ (S : sg_) (k : Nat) (M : mm_M) : Prop := ∀ h, h < k → M.2.1 30 h = Int64.ofNat (wtt_ S (onb_ S) h)
theorem rt_.sl30 {b : Nat} {v : Int64} (h : rt_ S no_ vs M) : rt_ S no_ vs (mm_sl M 30 b v) := by
  have hf : fq_ (fun _ _ => False) (fun a => a = 30) M (mm_sl M 30 b v) := fq_sl rfl
  exact ⟨h.1.fq hf (fun a b h => h.elim) id id, h.2.fq hf id (by omega)⟩
theorem r_weighs (hw : wf_ S) (hr : rt_ S no_ vs M) :
    wp_ (f_X12_weighsAll M) (fun z => z.1 = Int64.ofNat (sml_ (wtt_ S (onb_ S)) (hs_ S)) ∧ rt_ S no_ vs z.2 ∧ wgq_ S (hs_ S) z.2) := by
  have h600 := hw.hist
  have key : ∀ (e k n : Nat) (M : mm_M), k + e = hs_ S → e < n → rt_ S no_ vs M → wgq_ S k M →
      wp_ (f_X12_weighsAll_10l n (Int64.ofNat (sml_ (wtt_ S (onb_ S)) k)) (Int32.ofNat (hs_ S)) (Int32.ofNat k) M) (fun z => z.1 = Int64.ofNat (sml_ (wtt_ S (onb_ S)) (hs_ S)) ∧ rt_ S no_ vs z.2 ∧ wgq_ S (hs_ S) z.2) := by
    intro e
    induction e with
    | zero =>
      intro k n M hk hn hr hg
      obtain ⟨m, rfl⟩ : ∃ m, n = m + 1 := ⟨n - 1, by omega⟩
      have hkk : k = hs_ S := by omega
      unfold f_X12_weighsAll_10l f_X12_weighsAll_10
      rw [if_pos ((n3_le (by omega) (by omega)).mpr (by omega))]
      rw [hkk] at hg ⊢
      exact wp_some ⟨rfl, hr, hg⟩
    | succ e ih =>
      intro k n M hk hn hr hg
      obtain ⟨m, rfl⟩ : ∃ m, n = m + 1 := ⟨n - 1, by omega⟩
      have e1 : Int32.ofNat k + 1 = Int32.ofNat (k + 1) := n3_add k 1
      have hix : ix_ok (Int32.ofNat k) 600 := (n3_ix (by omega)).mpr (by omega)
      unfold f_X12_weighsAll_10l f_X12_weighsAll_10
      rw [if_neg (by rw [n3_le (by omega) (by omega)]; omega)]
      refine wp_bd (wp_mo (r_weight hw (onb_1 hw) (show k < 600 by omega) hr.1) (fun z hz => ?_))
      refine wp_ck hix (wp_sr (wp_ck hix (wp_sr (wp_sr ?_))))
      rw [n3_tn (by omega), sl_2, if_pos ⟨rfl, rfl⟩, hz.1, n6_add, e1]
      refine ih (k + 1) m _ (by omega) (by omega) (hr.fr2 hz.2).sl30 ?_
      intro j hj
      rw [sl_2]
      by_cases c : j = k
      · rw [if_pos ⟨rfl, c⟩, c]
      · rw [if_neg (by simp [c]), hz.2.2]; exact hg j (by omega)
  unfold f_X12_weighsAll
  refine wp_be (r_hist hr.1.1 hw) ?_
  exact key (hs_ S) 0 fu_ M (by omega) (by unfold fu_; omega) hr (fun h hh => by omega)
end WA1
