/-! THE CLASS: numbers (shifts), and sounds in a row as one number -/
theorem n6_or (a b : Nat) : Int64.ofNat a ||| Int64.ofNat b = Int64.ofNat (a ||| b) := by
  apply Int64.toBitVec_inj.1
  show BitVec.ofNat 64 a ||| BitVec.ofNat 64 b = BitVec.ofNat 64 (a ||| b)
  rw [BitVec.ofNat_or]
theorem n6_and (a b : Nat) : Int64.ofNat a &&& Int64.ofNat b = Int64.ofNat (a &&& b) := by
  apply Int64.toBitVec_inj.1
  show BitVec.ofNat 64 a &&& BitVec.ofNat 64 b = BitVec.ofNat 64 (a &&& b)
  rw [BitVec.ofNat_and]
theorem n3_or (a b : Nat) : Int32.ofNat a ||| Int32.ofNat b = Int32.ofNat (a ||| b) := by
  apply Int32.toBitVec_inj.1
  show BitVec.ofNat 32 a ||| BitVec.ofNat 32 b = BitVec.ofNat 32 (a ||| b)
  rw [BitVec.ofNat_or]
theorem n3_and (a b : Nat) : Int32.ofNat a &&& Int32.ofNat b = Int32.ofNat (a &&& b) := by
  apply Int32.toBitVec_inj.1
  show BitVec.ofNat 32 a &&& BitVec.ofNat 32 b = BitVec.ofNat 32 (a &&& b)
  rw [BitVec.ofNat_and]
theorem ib6_sm : ∀ k, k < 64 → ((Int64.ofNat k &&& 63).toBitVec.smod 64) = BitVec.ofNat 64 k := by decide +kernel
theorem n6_shl {a s : Nat} (hs : s < 64) : Int64.ofNat a <<< (Int64.ofNat s &&& 63) = Int64.ofNat (a * 2 ^ s) := by
  apply Int64.toBitVec_inj.1
  rw [Int64.toBitVec_shiftLeft, ib6_sm s hs]
  show BitVec.ofNat 64 a <<< (BitVec.ofNat 64 s) = BitVec.ofNat 64 (a * 2 ^ s)
  rw [BitVec.shiftLeft_ofNat_eq]
  apply BitVec.eq_of_toNat_eq
  rw [BitVec.toNat_shiftLeft, BitVec.toNat_ofNat, BitVec.toNat_ofNat, Nat.shiftLeft_eq, Nat.mod_eq_of_lt (show s < 2 ^ 64 by omega), Nat.mod_mul_mod]
theorem n6_shr {a s : Nat} (ha : a < 9223372036854775808) (hs : s < 64) : Int64.ofNat a >>> (Int64.ofNat s &&& 63) = Int64.ofNat (a / 2 ^ s) := by
  apply Int64.toBitVec_inj.1
  rw [Int64.toBitVec_shiftRight, ib6_sm s hs]
  show (BitVec.ofNat 64 a).sshiftRight (BitVec.ofNat 64 s).toNat = BitVec.ofNat 64 (a / 2 ^ s)
  rw [BitVec.sshiftRight_eq_of_msb_false]
  · apply BitVec.eq_of_toNat_eq
    rw [BitVec.toNat_ushiftRight, BitVec.toNat_ofNat, BitVec.toNat_ofNat, BitVec.toNat_ofNat, Nat.shiftRight_eq_div_pow, Nat.mod_eq_of_lt (show s < 2 ^ 64 by omega), Nat.mod_eq_of_lt (show a < 2 ^ 64 by omega)]
    have := Nat.div_le_self a (2 ^ s)
    rw [Nat.mod_eq_of_lt (by omega)]
  · rw [BitVec.msb_eq_decide, BitVec.toNat_ofNat, Nat.mod_eq_of_lt (by omega)]
    apply decide_eq_false
    show ¬ (2 ^ 63 ≤ a)
    omega
theorem n6_usr {a s : Nat} (ha : a < 9223372036854775808) (hs : s < 64) : ((Int64.ofNat a).toUInt64 >>> ((Int64.ofNat s).toUInt64 &&& Int64.toUInt64 63)).toInt64 = Int64.ofNat (a / 2 ^ s) := by
  have e1 : (Int64.ofNat s).toUInt64 &&& Int64.toUInt64 63 = UInt64.ofNat s := by
    apply UInt64.toNat.inj
    show (UInt64.ofNat s &&& UInt64.ofNat 63).toNat = _
    rw [UInt64.toNat_and, UInt64.toNat_ofNat', UInt64.toNat_ofNat', Nat.mod_eq_of_lt (show s < 2 ^ 64 by omega)]
    show s &&& (2 ^ 6 - 1) = s
    rw [Nat.and_two_pow_sub_one_eq_mod]; omega
  rw [e1]
  have e2 : (Int64.ofNat a).toUInt64 >>> UInt64.ofNat s = UInt64.ofNat (a / 2 ^ s) := by
    apply UInt64.toNat.inj
    have := Nat.div_le_self a (2 ^ s)
    show (UInt64.ofNat a >>> UInt64.ofNat s).toNat = _
    rw [UInt64.toNat_shiftRight, UInt64.toNat_ofNat', UInt64.toNat_ofNat', UInt64.toNat_ofNat', Nat.mod_eq_of_lt (show s < 2 ^ 64 by omega), Nat.mod_eq_of_lt (show s < 64 by omega), Nat.mod_eq_of_lt (show a < 2 ^ 64 by omega), Nat.shiftRight_eq_div_pow, Nat.mod_eq_of_lt (by omega)]
  rw [e2]; rfl
theorem n3_shl {a s : Nat} (hs : s < 32) : Int32.ofNat a <<< (Int32.ofNat s &&& 31) = Int32.ofNat (a * 2 ^ s) := by
  apply Int32.toBitVec_inj.1
  rw [Int32.toBitVec_shiftLeft, ib_sm s hs]
  show BitVec.ofNat 32 a <<< (BitVec.ofNat 32 s) = BitVec.ofNat 32 (a * 2 ^ s)
  rw [BitVec.shiftLeft_ofNat_eq]
  apply BitVec.eq_of_toNat_eq
  rw [BitVec.toNat_shiftLeft, BitVec.toNat_ofNat, BitVec.toNat_ofNat, Nat.shiftLeft_eq, Nat.mod_eq_of_lt (show s < 2 ^ 32 by omega), Nat.mod_mul_mod]
theorem n3_shr {a s : Nat} (ha : a < 2147483648) (hs : s < 32) : Int32.ofNat a >>> (Int32.ofNat s &&& 31) = Int32.ofNat (a / 2 ^ s) := by
  apply Int32.toBitVec_inj.1
  rw [Int32.toBitVec_shiftRight, ib_sm s hs]
  show (BitVec.ofNat 32 a).sshiftRight (BitVec.ofNat 32 s).toNat = BitVec.ofNat 32 (a / 2 ^ s)
  rw [BitVec.sshiftRight_eq_of_msb_false]
  · apply BitVec.eq_of_toNat_eq
    rw [BitVec.toNat_ushiftRight, BitVec.toNat_ofNat, BitVec.toNat_ofNat, BitVec.toNat_ofNat, Nat.shiftRight_eq_div_pow, Nat.mod_eq_of_lt (show s < 2 ^ 32 by omega), Nat.mod_eq_of_lt (show a < 2 ^ 32 by omega)]
    have := Nat.div_le_self a (2 ^ s)
    rw [Nat.mod_eq_of_lt (by omega)]
  · rw [BitVec.msb_eq_decide, BitVec.toNat_ofNat, Nat.mod_eq_of_lt (by omega)]
    apply decide_eq_false
    show ¬ (2 ^ 31 ≤ a)
    omega
theorem n6_3 (a : Nat) : (Int64.ofNat a).toInt32 = Int32.ofNat a := Int64.toInt32_ofNat'
theorem nt_and {x n : Nat} : x &&& (2 ^ n - 1) = x % 2 ^ n := Nat.and_two_pow_sub_one_eq_mod x n
theorem nt_or {a b i : Nat} (h : b < 2 ^ i) : a * 2 ^ i ||| b = a * 2 ^ i + b := by
  rw [Nat.mul_comm, Nat.two_pow_add_eq_or_of_lt h]
theorem n3_md (a n : Nat) (h : n ≤ 32) : Int32.ofNat a &&& Int32.ofNat (2 ^ n - 1) = Int32.ofNat (a % 2 ^ n) := by
  rw [n3_and, nt_and]
/-! sounds in a row -/
def ev_ : List Nat → Nat
  | [] => 0
  | x :: xs => x + 16 * ev_ xs
def en_ (xs : List Nat) : Nat := (xs.length + 1) * 4294967296 + ev_ xs
theorem p16 : ∀ n, 2 ^ (4 * n) = 16 ^ n := fun n => by rw [Nat.pow_mul]
theorem ev_lt : ∀ xs : List Nat, (∀ x, x ∈ xs → x < 16) → ev_ xs < 16 ^ xs.length := by
  intro xs
  induction xs with
  | nil => intro _; exact Nat.one_pos
  | cons x xs ih =>
    intro h
    have h1 := h x (by simp)
    have h2 := ih (fun z hz => h z (by simp [hz]))
    rw [List.length_cons, Nat.pow_succ]
    show x + 16 * ev_ xs < _
    omega
theorem ev_div : ∀ (i : Nat) (xs : List Nat), (∀ x, x ∈ xs → x < 16) → ev_ xs / 16 ^ i = ev_ (xs.drop i) := by
  intro i
  induction i with
  | zero => intro xs _; simp
  | succ i ih =>
    intro xs h
    cases xs with
    | nil => simp [ev_]
    | cons x xs =>
      have h1 := h x (by simp)
      rw [Nat.pow_succ', ← Nat.div_div_eq_div_mul]
      have : ev_ (x :: xs) / 16 = ev_ xs := by show (x + 16 * ev_ xs) / 16 = _; omega
      rw [this, ih xs (fun z hz => h z (by simp [hz]))]; rfl
theorem ev_at {xs : List Nat} (h : ∀ x, x ∈ xs → x < 16) {i v : Nat} (hv : xs[i]? = some v) : ev_ xs / 16 ^ i % 16 = v := by
  rw [ev_div i xs h]
  have hi := lt_of_some hv
  rw [List.drop_eq_getElem_cons hi]
  have e : xs[i] = v := by
    rw [List.getElem?_eq_getElem hi] at hv; exact Option.some.inj hv
  have := h v (by rw [← e]; exact List.getElem_mem hi)
  show (xs[i] + 16 * ev_ _) % 16 = v
  rw [e]; omega
theorem p16_8 {n : Nat} (h : n ≤ 8) : 16 ^ n ≤ 4294967296 := Nat.pow_le_pow_right (n := 16) (by omega) h
theorem en_lt {xs : List Nat} (h : ok_ xs) : en_ xs < 68719476736 := by
  have h1 := ev_lt xs h.2
  have h2 := p16_8 h.1
  have h3 := h.1
  unfold en_
  omega
theorem c_len {xs : List Nat} (h : ok_ xs) : f_X0_lengthOf (Int64.ofNat (en_ xs)) = Int32.ofNat xs.length := by
  have h1 := ev_lt xs h.2
  have h2 := p16_8 h.1
  have h3 := h.1
  have hl := en_lt h
  unfold f_X0_lengthOf
  have e : (32 : Int32).toInt64 = Int64.ofNat 32 := by decide
  rw [e, n6_usr (by omega) (by omega), n6_3]
  show Int32.ofNat _ - Int32.ofNat 1 = _
  have e2 : en_ xs / 2 ^ 32 = xs.length + 1 := by unfold en_; omega
  rw [e2, n3_sub (by omega)]; rfl
theorem c_snd {xs : List Nat} (h : ok_ xs) {i v : Nat} (hv : xs[i]? = some v) : f_X0_soundAt (Int64.ofNat (en_ xs)) (Int32.ofNat i) = Int32.ofNat v := by
  have h1 := ev_lt xs h.2
  have h2 := p16_8 h.1
  have h3 := h.1
  have hl := en_lt h
  have hi := lt_of_some hv
  unfold f_X0_soundAt
  have e : ((4 : Int32) * Int32.ofNat i).toInt64 = Int64.ofNat (4 * i) := by
    show (Int32.ofNat 4 * _).toInt64 = _
    rw [n3_mul, n3_6 (by omega)]
  rw [e, n6_usr (by omega) (by omega), n6_3]
  show _ &&& Int32.ofNat (2 ^ 4 - 1) = _
  rw [n3_md _ _ (by omega)]
  congr 1
  rw [p16]
  have e3 : en_ xs / 16 ^ i % 16 = ev_ xs / 16 ^ i % 16 := by
    unfold en_
    have h8 : 4294967296 = 16 ^ i * (16 * 16 ^ (7 - i)) := by
      rw [← Nat.mul_assoc, Nat.mul_comm (16 ^ i) 16, Nat.mul_assoc, ← Nat.pow_add, show i + (7 - i) = 7 from by omega]
    have h9 : (xs.length + 1) * 4294967296 + ev_ xs = ev_ xs + 16 ^ i * (16 * 16 ^ (7 - i) * (xs.length + 1)) := by
      rw [← Nat.mul_assoc, ← h8]; omega
    rw [h9, Nat.add_mul_div_left _ _ (Nat.pow_pos (by omega)), Nat.mul_assoc, Nat.add_mul_mod_self_left]
  show en_ xs / 16 ^ i % 16 = v
  rw [e3]; exact ev_at h.2 hv
theorem c_of {a n : Nat} (ha : a < 4294967296) (hn : n ≤ 8) : f_X0_of (Int64.ofNat a) (Int32.ofNat n) = Int64.ofNat ((n + 1) * 4294967296 + a) := by
  unfold f_X0_of
  have e : (32 : Int32).toInt64 = Int64.ofNat 32 := by decide
  have e1 : Int32.ofNat n + 1 = Int32.ofNat (n + 1) := n3_add n 1
  rw [e, e1, n3_6 (by omega), n6_shl (by omega), n6_or]
  congr 1
  exact nt_or (i := 32) (by omega)
theorem c_ofl {xs : List Nat} (h : ok_ xs) : f_X0_of (Int64.ofNat (ev_ xs)) (Int32.ofNat xs.length) = Int64.ofNat (en_ xs) := by
  have h1 := ev_lt xs h.2
  have h2 := p16_8 h.1
  exact c_of (by omega) h.1
theorem ev_inj : ∀ (xs ys : List Nat), (∀ x, x ∈ xs → x < 16) → (∀ x, x ∈ ys → x < 16) → xs.length = ys.length → ev_ xs = ev_ ys → xs = ys := by
  intro xs
  induction xs with
  | nil => intro ys _ _ hl _; exact (List.length_eq_zero_iff.mp hl.symm).symm
  | cons x xs ih =>
    intro ys h1 h2 hl he
    cases ys with
    | nil => simp at hl
    | cons y ys =>
      have a := h1 x (by simp)
      have b := h2 y (by simp)
      have he2 : x + 16 * ev_ xs = y + 16 * ev_ ys := he
      rw [show x = y from by omega, ih ys (fun z hz => h1 z (by simp [hz])) (fun z hz => h2 z (by simp [hz])) (by simpa using hl) (by omega)]
theorem en_inj {xs ys : List Nat} (hx : ok_ xs) (hy : ok_ ys) : (en_ xs = en_ ys) ↔ xs = ys := by
  constructor
  · intro h
    have h1 := ev_lt xs hx.2
    have h2 := p16_8 hx.1
    have h3 := ev_lt ys hy.2
    have h4 := p16_8 hy.1
    unfold en_ at h
    exact ev_inj xs ys hx.2 hy.2 (by omega) (by omega)
  · intro h; rw [h]
theorem en_eq {xs ys : List Nat} (hx : ok_ xs) (hy : ok_ ys) : (Int64.ofNat (en_ xs) = Int64.ofNat (en_ ys)) ↔ xs = ys := by
  have h1 := en_lt hx
  have h2 := en_lt hy
  rw [n6_eq (by omega) (by omega), en_inj hx hy]
