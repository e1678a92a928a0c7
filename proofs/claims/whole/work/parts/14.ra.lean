/-! THE REFERENCE, its inner methods (1): histories, years, the order of laws -/
theorem n3_mod2 (a b : Nat) : Int32.ofNat a - Int32.ofNat (a / b * b) = Int32.ofNat (a % b) := by
  rw [n3_sub (Nat.div_mul_le_self a b)]
  congr 1
  have := Nat.div_add_mod a b
  rw [Nat.mul_comm] at this
  omega
theorem in_pred {x : Int32} {n : Nat} (hn : n < 2147483648) : f_X12_in x.toInt64 (0 : Int64) ((Int32.ofNat n - 1).toInt64) = if (0 ≤ x.toInt ∧ x.toInt < (n : Int)) then 1 else 0 := by
  have h1 : (0 : Int64).toInt = 0 := by decide
  have h2 : (Int32.ofNat n - 1).toInt = (n : Int) - 1 := by
    cases n with
    | zero => decide
    | succ m =>
      have : Int32.ofNat (m + 1) - 1 = Int32.ofNat m := by
        show Int32.ofNat (m + 1) - Int32.ofNat 1 = _
        rw [n3_sub (by omega)]; rfl
      rw [this, n3_ti (by omega)]; omega
  unfold f_X12_in
  simp only [Int64.lt_iff_toInt_lt, in_64, h1, h2]
  by_cases c1 : x.toInt < 0
  · rw [if_pos c1, if_neg (by omega)]
  · rw [if_neg c1]
    by_cases c2 : (n : Int) - 1 < x.toInt
    · rw [if_pos c2, if_neg (by omega)]
    · rw [if_neg c2, if_pos (by omega)]
/-! what may be written -/
def fr_ (P : Nat → Nat → Prop) (M M' : mm_M) : Prop := (∀ a b, ¬ P a b → M'.1 a b = M.1 a b) ∧ M'.2 = M.2
theorem fr_.refl {P : Nat → Nat → Prop} {M : mm_M} : fr_ P M M := ⟨fun _ _ _ => rfl, rfl⟩
theorem fr_.trans {P : Nat → Nat → Prop} {M M1 M2 : mm_M} (h1 : fr_ P M M1) (h2 : fr_ P M1 M2) : fr_ P M M2 :=
  ⟨fun a b h => (h2.1 a b h).trans (h1.1 a b h), h2.2.trans h1.2⟩
theorem fr_.mono {P P' : Nat → Nat → Prop} {M M1 : mm_M} (h1 : fr_ P M M1) (h : ∀ a b, P a b → P' a b) : fr_ P' M M1 :=
  ⟨fun a b hn => h1.1 a b (fun hp => hn (h a b hp)), h1.2⟩
theorem fr_.ir {P : Nat → Nat → Prop} {S : sg_} {M M1 : mm_M} (h1 : fr_ P M M1) (h : ir_ S M) (hp : ∀ a b, P a b → ¬ pe_ S a b) : ir_ S M1 :=
  h.fr (fun a b hpe => h1.1 a b (fun hn => hp a b hn hpe))
theorem fr_si {P : Nat → Nat → Prop} {M : mm_M} {k j : Nat} {v : Int32} (h : P k j) : fr_ P M (mm_si M k j v) :=
  ⟨fun a b hn => by
    rw [si_1, if_neg]
    intro hh; rw [hh.1, hh.2] at hn; exact hn h, rfl⟩
def pw_ln (a b : Nat) : Prop := a = 17 ∨ (a = 0 ∧ b = 24)
def pw_wk (h a b : Nat) : Prop := (a = 14 ∧ b / 8 = h) ∨ (a = 15 ∧ b = h) ∨ a = 16
def pw_sa (h a b : Nat) : Prop := pw_wk h a b ∨ pw_ln a b
theorem pw_ln_pe {S : sg_} {a b : Nat} (h : pw_ln a b) : ¬ pe_ S a b := by
  unfold pw_ln at h
  unfold pe_
  omega
theorem pw_wk_pe {S : sg_} {hd a b : Nat} (h : pw_wk hd a b) : ¬ pe_ S a b := by
  unfold pw_wk at h
  unfold pe_
  omega
theorem pw_sa_pe {S : sg_} {hd a b : Nat} (h : pw_sa hd a b) : ¬ pe_ S a b := by
  cases h with
  | inl h => exact pw_wk_pe h
  | inr h => exact pw_ln_pe h
section RA1
variable {S : sg_} {M : mm_M}
theorem r_hist_l (hI : ir_ S M) (hw : wf_ S) : ∀ d k n, k + d = S 0 11 → d < n → f_X12_histories_4l M n (Int32.ofNat (hn_ S k)) (Int32.ofNat k) = some (Int32.ofNat (hs_ S)) := by
  have h6 := hw.laws
  intro d
  induction d with
  | zero =>
    intro k n hk hn
    obtain ⟨m, rfl⟩ : ∃ m, n = m + 1 := ⟨n - 1, by omega⟩
    have hkk : k = S 0 11 := by omega
    unfold f_X12_histories_4l f_X12_histories_4
    rw [hI.laws, if_pos (by rw [hkk]; exact Int32.le_refl _), hkk]; rfl
  | succ d ih =>
    intro k n hk hn
    obtain ⟨m, rfl⟩ : ∃ m, n = m + 1 := ⟨n - 1, by omega⟩
    have hkl : k < S 0 11 := by omega
    unfold f_X12_histories_4l f_X12_histories_4
    have hm := (hI.lw hkl).2.2.2.2.2.2
    rw [hI.laws, if_neg (by rw [n3_le (by omega) (by omega)]; omega), if_pos ((n3_ix (by omega)).mpr (by omega)), n3_tn (by omega), hm]
    show f_X12_histories_4l M m (Int32.ofNat (hn_ S k) * Int32.ofNat (S 12 k)) (Int32.ofNat k + Int32.ofNat 1) = _
    rw [n3_mul, n3_add]
    exact ih (k + 1) m (by omega) (by omega)
theorem r_hist (hI : ir_ S M) (hw : wf_ S) : f_X12_histories M = some (Int32.ofNat (hs_ S)) := by
  have h6 := hw.laws
  exact r_hist_l hI hw (S 0 11) 0 fu_ (by omega) (by unfold fu_; omega)
theorem r_yr_l (hI : ir_ S M) (hw : wf_ S) {l : Nat} (hl : l < S 0 11) : ∀ d h n, l + d < S 0 11 → h < 2147483648 → d < n → f_X12_yearOf_10l M n (Int32.ofNat l) (Int32.ofNat h) (Int32.ofNat (l + d)) = some (Int32.ofNat (S 10 l + S 11 l * (hq_ S l d h % S 12 l))) := by
  have h6 := hw.laws
  intro d
  induction d with
  | zero =>
    intro h n hk hh hn
    obtain ⟨m, rfl⟩ : ∃ m, n = m + 1 := ⟨n - 1, by omega⟩
    have hm := (hI.lw hl).2.2.2.2
    have hy := hw.yr l hl
    have hix : ix_ok (Int32.ofNat l) 6 := (n3_ix (by omega)).mpr (by omega)
    have hnz : ¬ (Int32.ofNat (S 12 l) = 0) := by
      intro he; have := (n3_eq (a := S 12 l) (b := 0) (by omega) (by omega)).mp he; omega
    unfold f_X12_yearOf_10l f_X12_yearOf_10
    rw [if_pos (by rw [Nat.add_zero]; exact Int32.le_refl _)]
    unfold f_X12_yearOf_32
    rw [if_pos hix, if_pos hix, if_pos hix, n3_tn (by omega), hm.1, hm.2.1, hm.2.2, if_pos hnz, n3_div (by omega) (by omega), n3_mul, n3_mod2, n3_mul, n3_add]
    rfl
  | succ d ih =>
    intro h n hk hh hn
    obtain ⟨m, rfl⟩ : ∃ m, n = m + 1 := ⟨n - 1, by omega⟩
    have hm := (hI.lw hk).2.2.2.2.2.2
    have hy := hw.yr (l + (d + 1)) hk
    have hnz : ¬ (Int32.ofNat (S 12 (l + (d + 1))) = 0) := by
      intro he; have := (n3_eq (a := S 12 (l + (d + 1))) (b := 0) (by omega) (by omega)).mp he; omega
    unfold f_X12_yearOf_10l f_X12_yearOf_10
    rw [if_neg (by rw [n3_le (by omega) (by omega)]; omega), if_pos ((n3_ix (by omega)).mpr (by omega)), n3_tn (by omega), hm, if_pos hnz, n3_div (by omega) (by omega)]
    show f_X12_yearOf_10l M m (Int32.ofNat l) (Int32.ofNat (h / S 12 (l + (d + 1)))) (Int32.ofNat (l + (d + 1)) + (-1)) = _
    rw [n3_pred (by omega)]
    have hd : h / S 12 (l + (d + 1)) ≤ h := Nat.div_le_self _ _
    exact ih (h / S 12 (l + (d + 1))) m (by omega) (by omega) (by omega)
theorem r_yr (hI : ir_ S M) (hw : wf_ S) {l h : Nat} (hl : l < S 0 11) (hh : h < 2147483648) : f_X12_yearOf (Int32.ofNat l) (Int32.ofNat h) M = some (Int32.ofNat (yr_ S l h)) := by
  have h6 := hw.laws
  unfold f_X12_yearOf
  rw [hI.laws]
  show f_X12_yearOf_10l M fu_ (Int32.ofNat l) (Int32.ofNat h) (Int32.ofNat (S 0 11) - Int32.ofNat 1) = _
  rw [n3_sub (by omega), show S 0 11 - 1 = l + (S 0 11 - 1 - l) from by omega]
  exact r_yr_l hI hw hl (S 0 11 - 1 - l) h fu_ (by omega) hh (by unfold fu_; omega)
theorem yr_le (hw : wf_ S) {l h : Nat} (hl : l < S 0 11) : yr_ S l h ≤ 400 := by
  have hy := hw.yr l hl
  unfold yr_ yr_n
  have h1 : hq_ S l (S 0 11 - 1 - l) h % S 12 l ≤ S 12 l - 1 := by
    have := Nat.mod_lt (hq_ S l (S 0 11 - 1 - l) h) (show S 12 l > 0 by omega)
    omega
  have h2 := Nat.mul_le_mul_left (S 11 l) h1
  omega
end RA1
/-! the order -/
def sr_ (y : Nat → Nat) (xs : List Nat) : Prop := xs.Pairwise (fun a b => y a ≤ y b)
theorem in_s_app {y : Nat → Nat} {l : Nat} {suf : List Nat} (h2 : ∀ x, x ∈ suf → y l < y x) : ∀ pre : List Nat, (∀ x, x ∈ pre → y x ≤ y l) → in_s y l (pre ++ suf) = pre ++ l :: suf := by
  intro pre
  induction pre with
  | nil =>
    intro _
    cases suf with
    | nil => rfl
    | cons x xs =>
      have hx := h2 x (by simp)
      show (if y x ≤ y l then _ else _) = _
      rw [if_neg (by omega)]; rfl
  | cons a as ih =>
    intro h1
    have ha := h1 a (by simp)
    show (if y a ≤ y l then a :: in_s y l (as ++ suf) else _) = _
    rw [if_pos ha, ih (fun x hx => h1 x (by simp [hx]))]; rfl
theorem in_s_mem {y : Nat → Nat} {l x : Nat} : ∀ xs : List Nat, x ∈ in_s y l xs ↔ x = l ∨ x ∈ xs := by
  intro xs
  induction xs with
  | nil => simp [in_s]
  | cons a as ih =>
    unfold in_s
    split
    · rw [List.mem_cons, ih, List.mem_cons]
      constructor
      · intro h; rcases h with h | h | h
        · exact Or.inr (Or.inl h)
        · exact Or.inl h
        · exact Or.inr (Or.inr h)
      · intro h; rcases h with h | h | h
        · exact Or.inr (Or.inl h)
        · exact Or.inl h
        · exact Or.inr (Or.inr h)
    · rw [List.mem_cons]
theorem in_s_sr {y : Nat → Nat} {l : Nat} : ∀ xs : List Nat, sr_ y xs → sr_ y (in_s y l xs) := by
  intro xs
  induction xs with
  | nil => intro _; simp [in_s, sr_]
  | cons a as ih =>
    intro h
    unfold sr_ at h
    rw [List.pairwise_cons] at h
    unfold in_s
    by_cases hc : y a ≤ y l
    · rw [if_pos hc]
      unfold sr_
      rw [List.pairwise_cons]
      refine ⟨fun b hb => ?_, ih h.2⟩
      rcases (in_s_mem as).mp hb with hb | hb
      · rw [hb]; exact hc
      · exact h.1 b hb
    · rw [if_neg hc]
      unfold sr_
      rw [List.pairwise_cons]
      refine ⟨fun b hb => ?_, List.pairwise_cons.mpr h⟩
      rw [List.mem_cons] at hb
      rcases hb with hb | hb
      · rw [hb]; omega
      · have := h.1 b hb; omega
theorem in_s_len {y : Nat → Nat} {l : Nat} : ∀ xs : List Nat, (in_s y l xs).length = xs.length + 1 := by
  intro xs
  induction xs with
  | nil => rfl
  | cons a as ih =>
    unfold in_s
    split
    · rw [List.length_cons, ih, List.length_cons]
    · rfl
theorem od_sr {y : Nat → Nat} {P : Nat → Bool} : ∀ n, sr_ y (od_ y P n) := by
  intro n
  induction n with
  | zero => exact List.Pairwise.nil
  | succ n ih =>
    unfold od_
    split
    · exact in_s_sr _ ih
    · exact ih
theorem od_mem {y : Nat → Nat} {P : Nat → Bool} {x : Nat} : ∀ n, x ∈ od_ y P n ↔ x < n ∧ P x = true := by
  intro n
  induction n with
  | zero => simp [od_]
  | succ n ih =>
    unfold od_
    by_cases hc : P n = true
    · rw [if_pos hc, in_s_mem, ih]
      constructor
      · intro h; rcases h with h | h
        · subst h; exact ⟨by omega, hc⟩
        · exact ⟨by omega, h.2⟩
      · intro h
        by_cases hx : x = n
        · exact Or.inl hx
        · exact Or.inr ⟨by omega, h.2⟩
    · rw [if_neg hc, ih]
      constructor
      · intro h; exact ⟨by omega, h.2⟩
      · intro h
        refine ⟨?_, h.2⟩
        by_cases hx : x = n
        · rw [hx] at h; exact absurd h.2 hc
        · omega
theorem od_len {y : Nat → Nat} {P : Nat → Bool} : ∀ n, (od_ y P n).length ≤ n := by
  intro n
  induction n with
  | zero => exact Nat.le_refl _
  | succ n ih =>
    unfold od_
    split
    · rw [in_s_len]; omega
    · omega
