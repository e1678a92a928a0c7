/-! LAW: the text is read -/
section WN1
variable {S : sg_} {M M0 Mc Mr Z : mm_M} {vs : List Nat}
/-- a sound or a class -/
def lcc_ (t : Nat) : Option Nat := if sn_ t = true then some (t - 97) else if 65 ≤ t ∧ t ≤ 70 then some (t - 49) else none
theorem lcc_lt {t g : Nat} (h : lcc_ t = some g) : g < 22 ∧ tg_ g = Int32.ofNat t := by
  unfold lcc_ at h
  by_cases c : sn_ t = true
  · rw [if_pos c] at h
    have h1 := sn_1 c
    have h2 : t - 97 = g := Option.some.inj h
    refine ⟨by omega, ?_⟩
    unfold tg_
    rw [if_neg (by omega), if_neg (by omega), if_pos (by omega)]
    congr 1; omega
  · rw [if_neg c] at h
    by_cases c2 : 65 ≤ t ∧ t ≤ 70
    · rw [if_pos c2] at h
      have h2 : t - 49 = g := Option.some.inj h
      refine ⟨by omega, ?_⟩
      unfold tg_
      rw [if_neg (by omega), if_neg (by omega), if_neg (by omega)]
      congr 1; omega
    · rw [if_neg c2] at h; cases h
theorem lcc_35 : lcc_ 35 = none := by decide
def sdc_ (t : Nat) : Option Nat := match lcc_ t with
  | some g => some g
  | none => if t = 35 then some 22 else none
theorem sdc_lt {t g : Nat} (h : sdc_ t = some g) : g < 23 ∧ tg_ g = Int32.ofNat t := by
  unfold sdc_ at h
  cases hl : lcc_ t with
  | some g' =>
    rw [hl] at h
    have h2 : g' = g := Option.some.inj h
    rw [← h2]
    have := lcc_lt hl
    exact ⟨by omega, this.2⟩
  | none =>
    rw [hl] at h
    revert h
    show (if t = 35 then some 22 else none) = some g → _
    intro h
    by_cases c : t = 35
    · rw [if_pos c] at h
      have h2 : 22 = g := Option.some.inj h
      rw [← h2, c]; exact ⟨by omega, rfl⟩
    · rw [if_neg c] at h; cases h
/-- at a place of the text -/
def at_ (S : sg_) (f : Nat → Option Nat) (a : Nat) : Option Nat := if a < S 0 4 then f (S 2 a) else none
def atc_ (S : sg_) (c a : Nat) : Bool := decide (a < S 0 4 ∧ S 2 a = c)
def sno_ (t : Nat) : Option Nat := if sn_ t = true then some (t - 97) else none
def nx1_ (o : Option Nat) (a : Nat) : Nat := if o.isSome = true then a + 1 else a
/-- what is read: whether it is well, up to where, and the parts -/
def lpE_ (S : sg_) (g b l a : Nat) : Bool × Nat × Nat × Nat × Nat × Nat := (true, nx1_ (at_ S sdc_ a) a, g, b, l, (at_ S sdc_ a).getD 23)
def lpS_ (S : sg_) (g b a : Nat) : Bool × Nat × Nat × Nat × Nat × Nat :=
  if atc_ S 95 (nx1_ (at_ S sdc_ a) a) = true then lpE_ S g b ((at_ S sdc_ a).getD 23) (nx1_ (at_ S sdc_ a) a + 1) else (false, nx1_ (at_ S sdc_ a) a, g, b, 23, 23)
def lpB_ (S : sg_) (g b a : Nat) : Bool × Nat × Nat × Nat × Nat × Nat := if atc_ S 47 a = true then lpS_ S g b (a + 1) else (true, a, g, b, 23, 23)
def lpr_ (S : sg_) : Bool × Nat × Nat × Nat × Nat × Nat := match at_ S lcc_ 0 with
  | none => (false, 0, 0, 0, 0, 0)
  | some g => if atc_ S 62 1 = true then lpB_ S g ((at_ S sno_ 2).getD 24) (nx1_ (at_ S sno_ 2) 2) else (false, 1, g, 0, 0, 0)
theorem nx1_le {o : Option Nat} {a : Nat} : a ≤ nx1_ o a ∧ nx1_ o a ≤ a + 1 := by
  unfold nx1_; split <;> omega
theorem lpr_7 : (lpr_ S).2.1 ≤ 7 := by
  unfold lpr_
  cases at_ S lcc_ 0 with
  | none => show 0 ≤ 7; omega
  | some g =>
    show (if atc_ S 62 1 = true then lpB_ S g ((at_ S sno_ 2).getD 24) (nx1_ (at_ S sno_ 2) 2) else (false, 1, g, 0, 0, 0)).2.1 ≤ 7
    have h1 := nx1_le (o := at_ S sno_ 2) (a := 2)
    split
    · unfold lpB_
      split
      · unfold lpS_
        have h2 := nx1_le (o := at_ S sdc_ (nx1_ (at_ S sno_ 2) 2 + 1)) (a := nx1_ (at_ S sno_ 2) 2 + 1)
        split
        · unfold lpE_
          have h3 := nx1_le (o := at_ S sdc_ (nx1_ (at_ S sdc_ (nx1_ (at_ S sno_ 2) 2 + 1)) (nx1_ (at_ S sno_ 2) 2 + 1) + 1)) (a := nx1_ (at_ S sdc_ (nx1_ (at_ S sno_ 2) 2 + 1)) (nx1_ (at_ S sno_ 2) 2 + 1) + 1)
          show nx1_ _ _ ≤ 7
          omega
        · show nx1_ _ _ ≤ 7
          omega
      · show nx1_ _ _ ≤ 7
        omega
    · show 1 ≤ 7; omega
theorem at_lt {f : Nat → Option Nat} {a g : Nat} (h : at_ S f a = some g) : a < S 0 4 ∧ f (S 2 a) = some g := by
  unfold at_ at h
  by_cases c : a < S 0 4
  · rw [if_pos c] at h; exact ⟨c, h⟩
  · rw [if_neg c] at h; cases h
theorem sdd_le {a : Nat} : (at_ S sdc_ a).getD 23 ≤ 23 := by
  cases h : at_ S sdc_ a with
  | none => exact Nat.le_refl _
  | some g =>
    have := (sdc_lt (at_lt h).2).1
    show g ≤ 23
    omega
theorem snd_ok {a : Nat} : (at_ S sno_ a).getD 24 < 16 ∨ (at_ S sno_ a).getD 24 = 24 := by
  cases h : at_ S sno_ a with
  | none => exact Or.inr rfl
  | some g =>
    have h2 := (at_lt h).2
    unfold sno_ at h2
    by_cases c : sn_ (S 2 a) = true
    · rw [if_pos c] at h2
      have h3 : S 2 a - 97 = g := Option.some.inj h2
      have := sn_1 c
      refine Or.inl ?_
      show g < 16
      omega
    · rw [if_neg c] at h2; cases h2
/-- the parts are such -/
theorem lpr_ok (h : (lpr_ S).1 = true) : (lpr_ S).2.2.1 < 22 ∧ ((lpr_ S).2.2.2.1 < 16 ∨ (lpr_ S).2.2.2.1 = 24) ∧ (lpr_ S).2.2.2.2.1 ≤ 23 ∧ (lpr_ S).2.2.2.2.2 ≤ 23 := by
  revert h
  unfold lpr_
  cases ho : at_ S lcc_ 0 with
  | none => intro h; cases h
  | some g =>
    have hg := (lcc_lt (at_lt ho).2).1
    have hb := snd_ok (S := S) (a := 2)
    show (if atc_ S 62 1 = true then lpB_ S g ((at_ S sno_ 2).getD 24) (nx1_ (at_ S sno_ 2) 2) else (false, 1, g, 0, 0, 0)).1 = true → _
    show _ → (if atc_ S 62 1 = true then lpB_ S g ((at_ S sno_ 2).getD 24) (nx1_ (at_ S sno_ 2) 2) else (false, 1, g, 0, 0, 0)).2.2.1 < 22 ∧ ((if atc_ S 62 1 = true then lpB_ S g ((at_ S sno_ 2).getD 24) (nx1_ (at_ S sno_ 2) 2) else (false, 1, g, 0, 0, 0)).2.2.2.1 < 16 ∨ (if atc_ S 62 1 = true then lpB_ S g ((at_ S sno_ 2).getD 24) (nx1_ (at_ S sno_ 2) 2) else (false, 1, g, 0, 0, 0)).2.2.2.1 = 24) ∧ (if atc_ S 62 1 = true then lpB_ S g ((at_ S sno_ 2).getD 24) (nx1_ (at_ S sno_ 2) 2) else (false, 1, g, 0, 0, 0)).2.2.2.2.1 ≤ 23 ∧ (if atc_ S 62 1 = true then lpB_ S g ((at_ S sno_ 2).getD 24) (nx1_ (at_ S sno_ 2) 2) else (false, 1, g, 0, 0, 0)).2.2.2.2.2 ≤ 23
    by_cases c : atc_ S 62 1 = true
    · rw [if_pos c]
      unfold lpB_
      by_cases c2 : atc_ S 47 (nx1_ (at_ S sno_ 2) 2) = true
      · rw [if_pos c2]
        unfold lpS_
        split
        · intro _
          exact ⟨hg, hb, sdd_le, sdd_le⟩
        · intro h; cases h
      · rw [if_neg c2]
        intro _
        exact ⟨hg, hb, Nat.le_refl _, Nat.le_refl _⟩
    · rw [if_neg c]; intro h; cases h
/-! the class reads -/
theorem c_signAt (htp : M.1 1 1 = Int32.ofNat (S 0 4)) (htt : ∀ j, j < S 0 4 → M.1 2 j = Int32.ofNat (S 2 j)) (h40 : S 0 4 ≤ 40) {a : Nat} (ha : a < 40) : f_X8_signAt (Int32.ofNat a) M = some (if a < S 0 4 then Int32.ofNat (S 2 a) else -1) := by
  unfold f_X8_signAt
  rw [htp]
  by_cases c : a < S 0 4
  · rw [if_neg (by rw [n3_le (by omega) (by omega)]; omega), if_pos ((n3_ix (by omega)).mpr (by omega)), n3_tn (by omega), htt a c, if_pos c]
  · rw [if_pos ((n3_le (by omega) (by omega)).mpr (by omega)), if_neg c]
theorem soc_dec : ∀ t, t < 256 → f_X8_isSoundOrClass (Int32.ofNat t) = (if (lcc_ t).isSome = true then 1 else 0) := by decide +kernel
theorem sid_dec : ∀ t, t < 256 → f_X2_isSide (Int32.ofNat t) = (if (sdc_ t).isSome = true then 1 else 0) := by decide +kernel
theorem sno_dec : ∀ t, t < 256 → f_X8_isSound (Int32.ofNat t) = (if (sno_ t).isSome = true then 1 else 0) := by decide +kernel
theorem c_socA (hw : wf_ S) {a : Nat} : f_X8_isSoundOrClass (if a < S 0 4 then Int32.ofNat (S 2 a) else -1) = (if (at_ S lcc_ a).isSome = true then 1 else 0) := by
  unfold at_
  by_cases c : a < S 0 4
  · rw [if_pos c, if_pos c]; exact soc_dec _ (hw.tape a c)
  · rw [if_neg c, if_neg c]; decide
theorem c_sidA (hw : wf_ S) {a : Nat} : f_X2_isSide (if a < S 0 4 then Int32.ofNat (S 2 a) else -1) = (if (at_ S sdc_ a).isSome = true then 1 else 0) := by
  unfold at_
  by_cases c : a < S 0 4
  · rw [if_pos c, if_pos c]; exact sid_dec _ (hw.tape a c)
  · rw [if_neg c, if_neg c]; decide
theorem c_snoA (hw : wf_ S) {a : Nat} : f_X8_isSound (if a < S 0 4 then Int32.ofNat (S 2 a) else -1) = (if (at_ S sno_ a).isSome = true then 1 else 0) := by
  unfold at_
  by_cases c : a < S 0 4
  · rw [if_pos c, if_pos c]; exact sno_dec _ (hw.tape a c)
  · rw [if_neg c, if_neg c]; decide
theorem c_atc (hw : wf_ S) {a c : Nat} (hc : c < 256) : ((if a < S 0 4 then Int32.ofNat (S 2 a) else -1) = Int32.ofNat c) ↔ atc_ S c a = true := by
  unfold atc_
  rw [decide_eq_true_iff]
  by_cases h : a < S 0 4
  · have := hw.tape a h
    rw [if_pos h, n3_eq (by omega) (by omega)]
    exact ⟨fun hh => ⟨h, hh⟩, fun hh => hh.2⟩
  · rw [if_neg h]
    constructor
    · intro hh; exact absurd hh (fun h2 => (n3_nm2 (by omega)).mp h2)
    · intro hh; exact absurd hh.1 h
theorem c_tgA {f : Nat → Option Nat} {a g : Nat} (hf : ∀ t g, f t = some g → tg_ g = Int32.ofNat t) (h : at_ S f a = some g) : (if a < S 0 4 then Int32.ofNat (S 2 a) else (-1 : Int32)) = tg_ g := by
  obtain ⟨h1, h2⟩ := at_lt h
  rw [if_pos h1, hf _ _ h2]
/-- what the class has read, in the row of law l -/
def lrc_ (S : sg_) (k0 : Nat) (M0 : mm_M) (r : Bool × Nat × Nat × Nat × Nat × Nat) (z : Int32 × mm_M) : Prop :=
  (∀ a b, ¬ (a = k0 ∧ b < 4) → z.2.1 a b = M0.1 a b) ∧ z.2.2 = M0.2 ∧ z.1 = (if r.1 = true ∧ r.2.1 = S 0 4 then -1 else Int32.ofNat r.2.1) ∧ (r.1 = true → z.2.1 k0 0 = tg_ r.2.2.1 ∧ z.2.1 k0 3 = bc_ r.2.2.2.1 ∧ z.2.1 k0 1 = tg_ r.2.2.2.2.1 ∧ z.2.1 k0 2 = tg_ r.2.2.2.2.2)
theorem c_over (htp : M.1 1 1 = Int32.ofNat (S 0 4)) (htt : ∀ j, j < S 0 4 → M.1 2 j = Int32.ofNat (S 2 j)) (hw : wf_ S) {a : Nat} (ha : a < 40) (hle : a ≤ S 0 4) : f_X2_overAt (Int32.ofNat a) M = some (if a = S 0 4 then -1 else Int32.ofNat a) := by
  have h40 := hw.tp
  unfold f_X2_overAt
  rw [c_signAt htp htt h40 ha, Option.bind_some]
  by_cases c : a < S 0 4
  · have := hw.tape a c
    rw [if_pos c, if_neg (fun hh => (n3_nm (by omega)).mp hh), if_neg (by omega)]
  · rw [if_neg c, if_pos rfl, if_pos (by omega)]
end WN1
