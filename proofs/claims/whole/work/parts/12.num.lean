/-! NUMBERS: Int32 and Int64 as naturals, bits; a rule for Option programs -/
def wp_ {α : Type} (x : Option α) (Q : α → Prop) : Prop := ∃ r, x = some r ∧ Q r
section WPA
variable {α β : Type} {Q : α → Prop}
theorem wp_some {r : α} (h : Q r) : wp_ (some r) Q := ⟨r, rfl, h⟩
theorem wp_if {c : Prop} {hd : Decidable c} {a b : Option α} (h1 : c → wp_ a Q) (h2 : ¬ c → wp_ b Q) : wp_ (if c then a else b) Q := by
  by_cases hc : c
  · rw [if_pos hc]; exact h1 hc
  · rw [if_neg hc]; exact h2 hc
theorem wp_ck {c : Prop} {hd : Decidable c} {a : Option α} (hc : c) (h : wp_ a Q) : wp_ (if c then a else none) Q := by
  rw [if_pos hc]; exact h
theorem wp_bd {x : Option β} {f : β → Option α} (h : wp_ x (fun z => wp_ (f z) Q)) : wp_ (x.bind f) Q := by
  obtain ⟨z, hz, h⟩ := h
  rw [hz]; exact h
theorem wp_be {x : Option β} {f : β → Option α} {z : β} (h : x = some z) (h2 : wp_ (f z) Q) : wp_ (x.bind f) Q := by
  rw [h]; exact h2
theorem wp_sq {x : β} {f : β → Option α} (h : ∀ y, y = x → wp_ (f y) Q) : wp_ (sq_ x f) Q := h x rfl
theorem wp_sr {x : β} {f : β → Option α} (h : wp_ (f x) Q) : wp_ (sq_ x f) Q := h
theorem wp_mo {x : Option α} {P : α → Prop} (h : wp_ x P) (hm : ∀ r, P r → Q r) : wp_ x Q := by
  obtain ⟨r, hr, h⟩ := h
  exact ⟨r, hr, hm r h⟩
theorem wp_eq {x : Option α} {r : α} (h : x = some r) (h2 : Q r) : wp_ x Q := ⟨r, h, h2⟩
end WPA
theorem si_1 {M : mm_M} {k j a b : Nat} {v : Int32} : (mm_si M k j v).1 a b = if a = k ∧ b = j then v else M.1 a b := rfl
theorem si_2 {M : mm_M} {k j : Nat} {v : Int32} : (mm_si M k j v).2.1 = M.2.1 := rfl
theorem si_3 {M : mm_M} {k j : Nat} {v : Int32} : (mm_si M k j v).2.2 = M.2.2 := rfl
theorem sl_1 {M : mm_M} {k j : Nat} {v : Int64} : (mm_sl M k j v).1 = M.1 := rfl
theorem sl_2 {M : mm_M} {k j a b : Nat} {v : Int64} : (mm_sl M k j v).2.1 a b = if a = k ∧ b = j then v else M.2.1 a b := rfl
theorem sl_3 {M : mm_M} {k j : Nat} {v : Int64} : (mm_sl M k j v).2.2 = M.2.2 := rfl
theorem ai_1 {M : mm_M} {k a b : Nat} {f : Nat → Int32} : (mm_ai M k f).1 a b = if a = k then f b else M.1 a b := rfl
theorem ai_2 {M : mm_M} {k : Nat} {f : Nat → Int32} : (mm_ai M k f).2.1 = M.2.1 := rfl
theorem ai_3 {M : mm_M} {k : Nat} {f : Nat → Int32} : (mm_ai M k f).2.2 = M.2.2 := rfl
/-! Int32 -/
theorem n3_l (n : Nat) : (OfNat.ofNat n : Int32) = Int32.ofNat n := rfl
theorem n3_add (a b : Nat) : Int32.ofNat a + Int32.ofNat b = Int32.ofNat (a + b) := (Int32.ofNat_add a b).symm
theorem n3_mul (a b : Nat) : Int32.ofNat a * Int32.ofNat b = Int32.ofNat (a * b) := (Int32.ofNat_mul a b).symm
theorem n3_sub {a b : Nat} (h : b ≤ a) : Int32.ofNat a - Int32.ofNat b = Int32.ofNat (a - b) := (Int32.ofNat_sub a b h).symm
theorem n3_div {a b : Nat} (ha : a < 2147483648) (hb : b < 2147483648) : Int32.ofNat a / Int32.ofNat b = Int32.ofNat (a / b) := (Int32.ofNat_div ha hb).symm
theorem n3_pred {a : Nat} (h : 1 ≤ a) : Int32.ofNat a + (-1) = Int32.ofNat (a - 1) := by
  have h1 : Int32.ofNat a = Int32.ofNat (a - 1) + Int32.ofNat 1 := by rw [n3_add]; congr 1; omega
  rw [h1, Int32.add_assoc]
  have h2 : Int32.ofNat 1 + (-1) = 0 := by decide
  rw [h2, Int32.add_zero]
theorem n3_le {a b : Nat} (ha : a < 2147483648) (hb : b < 2147483648) : (Int32.ofNat a ≤ Int32.ofNat b) ↔ a ≤ b := Int32.ofNat_le_iff_le ha hb
theorem n3_lt {a b : Nat} (ha : a < 2147483648) (hb : b < 2147483648) : (Int32.ofNat a < Int32.ofNat b) ↔ a < b := Int32.ofNat_lt_iff_lt ha hb
theorem n3_tn {a : Nat} (ha : a < 2147483648) : (Int32.ofNat a).toNatClampNeg = a := Int32.toNatClampNeg_ofNat_of_lt ha
theorem n3_ti {a : Nat} (ha : a < 2147483648) : (Int32.ofNat a).toInt = (a : Int) := Int32.toInt_ofNat_of_lt ha
theorem n3_eq {a b : Nat} (ha : a < 2147483648) (hb : b < 2147483648) : (Int32.ofNat a = Int32.ofNat b) ↔ a = b := by
  constructor
  · intro h
    have h1 := congrArg Int32.toNatClampNeg h
    rw [n3_tn ha, n3_tn hb] at h1
    exact h1
  · intro h; rw [h]
theorem n3_neg {a : Nat} (ha : a < 2147483648) : (Int32.ofNat a < Int32.ofNat 0) ↔ False := by
  rw [n3_lt ha (by omega)]; simp
theorem n3_ix {a n : Nat} (ha : a < 2147483648) : (ix_ok (Int32.ofNat a) n) ↔ a < n := by
  unfold ix_ok
  rw [n3_tn ha]
  have h0 : ¬ (Int32.ofNat a < 0) := by
    have := n3_neg ha
    intro h; exact this.mp h
  constructor
  · intro h; exact Nat.lt_of_not_le (fun hn => h (Or.inr hn))
  · intro h hn
    cases hn with
    | inl h1 => exact h0 h1
    | inr h1 => omega
theorem n3_nm {a : Nat} (ha : a < 2147483648) : (Int32.ofNat a = (-1)) ↔ False := by
  constructor
  · intro h
    have h1 := congrArg Int32.toInt h
    rw [n3_ti ha] at h1
    have h2 : Int32.toInt (-1) = -1 := by decide
    omega
  · intro h; exact h.elim
theorem n3_nm2 {a : Nat} (ha : a < 2147483648) : ((-1) = Int32.ofNat a) ↔ False := by
  rw [eq_comm]; exact n3_nm ha
theorem n3_ge {x : Int32} (h : ¬ x < 0) : x = Int32.ofNat x.toNatClampNeg := by
  rw [Int32.ofNat_toNatClampNeg]
  exact Int32.not_lt.mp h
theorem n3_ge2 {x : Int32} (h : 0 ≤ x) : x = Int32.ofNat x.toNatClampNeg := by
  rw [Int32.ofNat_toNatClampNeg]
  exact h
theorem n3_tl (x : Int32) : x.toNatClampNeg < 2147483648 := Int32.toNatClampNeg_lt x
theorem n3_6 {a : Nat} (ha : a < 2147483648) : (Int32.ofNat a).toInt64 = Int64.ofNat a := by
  apply Int32.toInt64_ofNat'
  have : Int32.maxValue.toInt = 2147483647 := by decide
  omega
/-! Int64 -/
theorem n6_l (n : Nat) : (OfNat.ofNat n : Int64) = Int64.ofNat n := rfl
theorem n6_add (a b : Nat) : Int64.ofNat a + Int64.ofNat b = Int64.ofNat (a + b) := (Int64.ofNat_add a b).symm
theorem n6_mul (a b : Nat) : Int64.ofNat a * Int64.ofNat b = Int64.ofNat (a * b) := (Int64.ofNat_mul a b).symm
theorem n6_sub {a b : Nat} (h : b ≤ a) : Int64.ofNat a - Int64.ofNat b = Int64.ofNat (a - b) := (Int64.ofNat_sub a b h).symm
theorem n6_div {a b : Nat} (ha : a < 9223372036854775808) (hb : b < 9223372036854775808) : Int64.ofNat a / Int64.ofNat b = Int64.ofNat (a / b) := (Int64.ofNat_div ha hb).symm
theorem n6_le {a b : Nat} (ha : a < 9223372036854775808) (hb : b < 9223372036854775808) : (Int64.ofNat a ≤ Int64.ofNat b) ↔ a ≤ b := Int64.ofNat_le_iff_le ha hb
theorem n6_lt {a b : Nat} (ha : a < 9223372036854775808) (hb : b < 9223372036854775808) : (Int64.ofNat a < Int64.ofNat b) ↔ a < b := Int64.ofNat_lt_iff_lt ha hb
theorem n6_tn {a : Nat} (ha : a < 9223372036854775808) : (Int64.ofNat a).toNatClampNeg = a := Int64.toNatClampNeg_ofNat_of_lt ha
theorem n6_eq {a b : Nat} (ha : a < 9223372036854775808) (hb : b < 9223372036854775808) : (Int64.ofNat a = Int64.ofNat b) ↔ a = b := by
  constructor
  · intro h
    have h1 := congrArg Int64.toNatClampNeg h
    rw [n6_tn ha, n6_tn hb] at h1
    exact h1
  · intro h; rw [h]
/-! the reference's 'in' -/
theorem in_64 {x : Int32} : x.toInt64.toInt = x.toInt := Int32.toInt_toInt64 x
theorem in_eq {x : Int32} {a b : Nat} (ha : a < 2147483648) (hb : b < 2147483648) : f_X12_in x.toInt64 (Int64.ofNat a) (Int64.ofNat b) = if ((a : Int) ≤ x.toInt ∧ x.toInt ≤ (b : Int)) then 1 else 0 := by
  have h1 : (Int64.ofNat a).toInt = (a : Int) := Int64.toInt_ofNat_of_lt (by omega)
  have h2 : (Int64.ofNat b).toInt = (b : Int) := Int64.toInt_ofNat_of_lt (by omega)
  unfold f_X12_in
  simp only [Int64.lt_iff_toInt_lt, in_64, h1, h2]
  by_cases c1 : x.toInt < (a : Int)
  · rw [if_pos c1, if_neg (by omega)]
  · rw [if_neg c1]
    by_cases c2 : (b : Int) < x.toInt
    · rw [if_pos c2, if_neg (by omega)]
    · rw [if_neg c2, if_pos (by omega)]
/-- in a range of naturals: the value is one -/
theorem in_nat {x : Int32} {a b : Nat} (hb : b < 2147483648) (h : (a : Int) ≤ x.toInt ∧ x.toInt ≤ (b : Int)) : ∃ n, x = Int32.ofNat n ∧ a ≤ n ∧ n ≤ b := by
  refine ⟨x.toNatClampNeg, ?_, ?_, ?_⟩
  · apply n3_ge2
    rw [Int32.le_iff_toInt_le]
    have : Int32.toInt 0 = 0 := by decide
    omega
  · have : x.toInt.toNat = x.toNatClampNeg := Int32.toNat_toInt x
    omega
  · have : x.toInt.toNat = x.toNatClampNeg := Int32.toNat_toInt x
    omega
theorem i3_lt {x y : Int32} : x < y ↔ x.toInt < y.toInt := Int32.lt_iff_toInt_lt
theorem i3_le {x y : Int32} : x ≤ y ↔ x.toInt ≤ y.toInt := Int32.le_iff_toInt_le
/-! bits -/
def ib_ (x : Int32) (k : Nat) : Bool := x.toBitVec.getLsbD k
theorem ib_ext {x y : Int32} (h : ∀ k, k < 32 → ib_ x k = ib_ y k) : x = y := by
  apply Int32.toBitVec_inj.1
  exact BitVec.eq_of_getLsbD_eq h
theorem ib_sm : ∀ k, k < 32 → ((Int32.ofNat k &&& 31).toBitVec.smod 32) = BitVec.ofNat 32 k := by decide
theorem ib_lo {x : Int32} {k : Nat} (h : 32 ≤ k) : ib_ x k = false := BitVec.getLsbD_of_ge _ _ h
theorem ib_and {x y : Int32} {k : Nat} : ib_ (x &&& y) k = (ib_ x k && ib_ y k) := by
  unfold ib_; rw [Int32.toBitVec_and, BitVec.getLsbD_and]
theorem ib_or {x y : Int32} {k : Nat} : ib_ (x ||| y) k = (ib_ x k || ib_ y k) := by
  unfold ib_; rw [Int32.toBitVec_or, BitVec.getLsbD_or]
theorem ib_xor {x y : Int32} {k : Nat} : ib_ (x ^^^ y) k = (ib_ x k ^^ ib_ y k) := by
  unfold ib_; rw [Int32.toBitVec_xor, BitVec.getLsbD_xor]
theorem ib_m1 : ∀ k, k < 32 → ib_ (-1) k = true := by decide
theorem ib_not {x : Int32} {k : Nat} (hk : k < 32) : ib_ (x ^^^ (-1)) k = !(ib_ x k) := by
  rw [ib_xor, ib_m1 k hk]; cases ib_ x k <;> rfl
theorem ib_nat {a k : Nat} : ib_ (Int32.ofNat a) k = (decide (k < 32) && a.testBit k) := by
  unfold ib_
  show (BitVec.ofNat 32 a).getLsbD k = _
  rw [BitVec.getLsbD_ofNat]
theorem ib_nat2 {a k : Nat} (hk : k < 32) : ib_ (Int32.ofNat a) k = a.testBit k := by
  rw [ib_nat]; simp [hk]
theorem ib_0 {k : Nat} : ib_ 0 k = false := by
  have : ib_ (Int32.ofNat 0) k = _ := ib_nat
  rw [Nat.zero_testBit, Bool.and_false] at this
  exact this
theorem ib_shl : ∀ s, s < 32 → ∀ k, k < 32 → ib_ (1 <<< (Int32.ofNat s &&& 31)) k = decide (k = s) := by decide +kernel
theorem ib_1 : ∀ i, i < 32 → ib_ 1 i = decide (i = 0) := by decide
theorem ib_sr {x : Int32} {k i : Nat} (hk : k < 32) (hi : k + i < 32) : ib_ (x >>> (Int32.ofNat k &&& 31)) i = ib_ x (k + i) := by
  unfold ib_
  rw [Int32.toBitVec_shiftRight, ib_sm k hk]
  show (x.toBitVec.sshiftRight (BitVec.ofNat 32 k).toNat).getLsbD i = _
  have hkn : (BitVec.ofNat 32 k).toNat = k := by
    rw [BitVec.toNat_ofNat]; omega
  rw [hkn, BitVec.getLsbD_sshiftRight]
  simp only [hi, if_true]
  have h3 : decide (32 ≤ i) = false := by
    apply decide_eq_false; omega
  rw [h3]; rfl
theorem ib_bit {x : Int32} {k : Nat} (hk : k < 32) : ((x >>> (Int32.ofNat k &&& 31)) &&& 1) = if ib_ x k = true then 1 else 0 := by
  apply ib_ext
  intro i hi
  rw [ib_and, ib_1 i hi]
  by_cases h0 : i = 0
  · subst h0
    rw [ib_sr hk (by omega)]
    show (ib_ x (k + 0) && true) = _
    rw [Nat.add_zero, Bool.and_true]
    cases h : ib_ x k
    · rw [if_neg (by decide)]; exact ib_0.symm
    · rw [if_pos rfl, ib_1 0 (by omega)]; rfl
  · have h1 : decide (i = 0) = false := decide_eq_false h0
    rw [h1, Bool.and_false]
    split
    · rw [ib_1 i hi, h1]
    · exact ib_0.symm
