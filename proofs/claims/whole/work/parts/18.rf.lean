/-! THE REFERENCE, its inner methods (6): alike, tails, rhymes -/
def ta_ (S : sg_) : Nat → Option Nat → List Nat → Option Nat
  | _, o, [] => o
  | i, o, x :: xs => ta_ S (i + 1) (if (S 3 0).testBit x = true then some i else o) xs
section RF1
variable {S : sg_} {M : mm_M}
theorem r_al0 {n : Nat} {k : Int32} : f_X12_areAlike_23l M (n + 1) 0 k = some 0 := by
  unfold f_X12_areAlike_23l f_X12_areAlike_23
  simp
theorem r_al_l {xs ys : List Nat} (hx : ok_ xs) (hy : ok_ ys) (h0 : hd_ M 0 xs) (h1 : hd_ M 1 ys) (hl : xs.length = ys.length) :
    ∀ (us vs pre pre' : List Nat) (n : Nat), xs = pre ++ us → ys = pre' ++ vs → pre.length = pre'.length → us.length + 1 < n → f_X12_areAlike_23l M n 1 (Int32.ofNat pre.length) = some (bi_ (decide (us = vs))) := by
  have hx8 := hx.1
  intro us
  induction us with
  | nil =>
    intro vs pre pre' n e1 e2 e3 hn
    obtain ⟨m, rfl⟩ : ∃ m, n = m + 1 := ⟨n - 1, by omega⟩
    have hlx : xs.length = pre.length := by rw [e1]; simp
    have hly : ys.length = pre'.length + vs.length := by rw [e2]; simp
    have hv : vs = [] := List.length_eq_zero_iff.mp (by omega)
    subst hv
    unfold f_X12_areAlike_23l f_X12_areAlike_23
    have e0 : M.1 15 (0 : Int32).toNatClampNeg = Int32.ofNat xs.length := h0.1
    rw [e0, if_pos ((n3_le (by omega) (by omega)).mpr (by omega)), if_pos (by decide)]; rfl
  | cons u us ih =>
    intro vs pre pre' n e1 e2 e3 hn
    obtain ⟨m, rfl⟩ : ∃ m, n = m + 1 := ⟨n - 1, by omega⟩
    have hlx : xs.length = pre.length + (us.length + 1) := by rw [e1]; simp
    have hly : ys.length = pre'.length + vs.length := by rw [e2]; simp
    cases vs with
    | nil => simp at hly; omega
    | cons v vs =>
      have hu := hx.2 u (by rw [e1]; simp)
      have hv := hy.2 v (by rw [e2]; simp)
      have a0 : M.1 14 pre.length = Int32.ofNat u := by
        have := h0.2 pre.length u (by rw [e1]; simp)
        simpa using this
      have a1 : M.1 14 (8 + pre.length) = Int32.ofNat v := by
        have := h1.2 pre.length v (by rw [e2, e3]; simp)
        simpa using this
      have e0 : M.1 15 (0 : Int32).toNatClampNeg = Int32.ofNat xs.length := h0.1
      have e8 : (8 : Int32) + Int32.ofNat pre.length = Int32.ofNat (8 + pre.length) := n3_add 8 _
      unfold f_X12_areAlike_23l f_X12_areAlike_23
      rw [e0, if_neg (by rw [n3_le (by omega) (by omega)]; omega), if_neg (by decide), e8, if_pos ((n3_ix (by omega)).mpr (by omega)), if_pos ((n3_ix (by omega)).mpr (by omega)), n3_tn (by omega), n3_tn (by omega), a0, a1]
      unfold f_X12_areAlike_60
      by_cases c : u = v
      · rw [if_pos (by rw [c])]
        show f_X12_areAlike_23l M m 1 (Int32.ofNat pre.length + Int32.ofNat 1) = _
        rw [n3_add, show pre.length + 1 = (pre ++ [u]).length from by simp, ih vs (pre ++ [u]) (pre' ++ [v]) m (by rw [e1]; simp) (by rw [e2]; simp) (by simp [e3]) (by simp at hn; omega)]
        simp [c]
      · rw [if_neg (by rw [n3_eq (by omega) (by omega)]; exact c)]
        show f_X12_areAlike_23l M m 0 _ = _
        obtain ⟨m', rfl⟩ : ∃ m', m = m' + 1 := ⟨m - 1, by simp at hn; omega⟩
        rw [r_al0]; simp [c, bi_]
theorem r_al {xs ys : List Nat} (hx : ok_ xs) (hy : ok_ ys) (h0 : hd_ M 0 xs) (h1 : hd_ M 1 ys) : f_X12_areAlike M = some (bi_ (decide (xs = ys))) := by
  have hx8 := hx.1
  have hy8 := hy.1
  have e0 : M.1 15 (0 : Int32).toNatClampNeg = Int32.ofNat xs.length := h0.1
  have e1 : M.1 15 (1 : Int32).toNatClampNeg = Int32.ofNat ys.length := h1.1
  unfold f_X12_areAlike f_X12_areAlike_20
  rw [e0, e1]
  by_cases c : xs.length = ys.length
  · rw [if_pos (by rw [c])]
    exact r_al_l hx hy h0 h1 c xs ys [] [] fu_ rfl rfl rfl (by unfold fu_; omega)
  · rw [if_neg (by rw [n3_eq (by omega) (by omega)]; exact c)]
    rw [show fu_ = 1048575 + 1 from rfl, r_al0]
    have : xs ≠ ys := fun h => c (by rw [h])
    simp [this, bi_]
theorem r_ta_l (hI : ir_ S M) {hand : Nat} (hh : hand < 2) {xs : List Nat} (hx : ok_ xs) (hd : hd_ M hand xs) :
    ∀ (us pre : List Nat) (o : Option Nat) (n : Nat), xs = pre ++ us → us.length < n → f_X12_tailAt_4l M n (Int32.ofNat hand) (so_ o) (Int32.ofNat pre.length) = some (so_ (ta_ S pre.length o us)) := by
  have hx8 := hx.1
  intro us
  induction us with
  | nil =>
    intro pre o n e1 hn
    obtain ⟨m, rfl⟩ : ∃ m, n = m + 1 := ⟨n - 1, by omega⟩
    have hlx : xs.length = pre.length := by rw [e1]; simp
    unfold f_X12_tailAt_4l f_X12_tailAt_4
    rw [if_pos ((n3_ix (by omega)).mpr hh), n3_tn (by omega), hd.1, if_pos ((n3_le (by omega) (by omega)).mpr (by omega))]; rfl
  | cons u us ih =>
    intro pre o n e1 hn
    obtain ⟨m, rfl⟩ : ∃ m, n = m + 1 := ⟨n - 1, by omega⟩
    have hlx : xs.length = pre.length + (us.length + 1) := by rw [e1]; simp
    have hu := hx.2 u (by rw [e1]; simp)
    have a0 := hd.2 pre.length u (by rw [e1]; simp)
    have e : (8 : Int32) * Int32.ofNat hand + Int32.ofNat pre.length = Int32.ofNat (8 * hand + pre.length) := by
      show Int32.ofNat 8 * _ + _ = _
      rw [n3_mul, n3_add]
    have ec : M.1 3 (0 : Int32).toNatClampNeg = Int32.ofNat (S 3 0) := hI.cl (j := 0) (by omega)
    unfold f_X12_tailAt_4l f_X12_tailAt_4
    rw [if_pos ((n3_ix (by omega)).mpr hh), n3_tn (by omega), hd.1, if_neg (by rw [n3_le (by omega) (by omega)]; omega), e, if_pos ((n3_ix (by omega)).mpr (by omega)), n3_tn (by omega), a0, ec, r_has (by omega)]
    simp only [sq_, f_X12_tailAt_42]
    have e2 : Int32.ofNat pre.length + 1 = Int32.ofNat (pre ++ [u]).length := by
      rw [show (pre ++ [u]).length = pre.length + 1 from by simp]; exact n3_add _ 1
    have e3 : ∀ o', f_X12_tailAt_4l M m (Int32.ofNat hand) (so_ o') (Int32.ofNat (pre ++ [u]).length) = some (so_ (ta_ S (pre.length + 1) o' us)) := by
      intro o'
      rw [ih (pre ++ [u]) o' m (by rw [e1]; simp) (by simp at hn; omega)]
      simp
    rw [e2]
    unfold ta_
    cases (S 3 0).testBit u
    · exact e3 o
    · exact e3 (some pre.length)
theorem tl_any (xs : List Nat) : tl_ S xs = [] ↔ (xs.any fun s => (S 3 0).testBit s) = false := by
  induction xs with
  | nil => simp [tl_]
  | cons x xs ih =>
    unfold tl_
    cases c : (xs.any fun s => (S 3 0).testBit s)
    · rw [if_neg (by decide)]
      cases c2 : (S 3 0).testBit x <;> simp [c, c2]
    · rw [if_pos rfl, ih, c]; simp [c]
theorem tl_len (xs : List Nat) : (tl_ S xs).length ≤ xs.length := by
  induction xs with
  | nil => exact Nat.le_refl _
  | cons x xs ih =>
    unfold tl_
    split
    · rw [List.length_cons]; omega
    · split
      · exact Nat.le_refl _
      · simp
theorem tl_drop (xs : List Nat) : tl_ S xs = xs.drop (xs.length - (tl_ S xs).length) := by
  induction xs with
  | nil => rfl
  | cons x xs ih =>
    have hl := tl_len (S := S) xs
    unfold tl_
    cases c : (xs.any fun s => (S 3 0).testBit s)
    · rw [if_neg (by decide)]
      cases c2 : (S 3 0).testBit x
      · rw [if_neg (by decide)]; simp
      · rw [if_pos rfl]; simp
    · rw [if_pos rfl, List.length_cons, show xs.length + 1 - (tl_ S xs).length = (xs.length - (tl_ S xs).length) + 1 from by omega, List.drop_succ_cons]
      exact ih
theorem ta_eq : ∀ (xs : List Nat) (i : Nat) (o : Option Nat), ta_ S i o xs = if tl_ S xs = [] then o else some (i + (xs.length - (tl_ S xs).length)) := by
  intro xs
  induction xs with
  | nil => intro i o; simp [ta_, tl_]
  | cons x xs ih =>
    intro i o
    have hl := tl_len (S := S) xs
    unfold ta_
    rw [ih]
    cases c : (xs.any fun s => (S 3 0).testBit s)
    · have h1 := (tl_any (S := S) xs).mpr c
      have h2 : tl_ S (x :: xs) = if (S 3 0).testBit x = true then x :: xs else [] := by
        conv => lhs; unfold tl_
        rw [c, if_neg (by decide)]
      rw [if_pos h1, h2]
      cases c2 : (S 3 0).testBit x <;> simp
    · have h1 : ¬ tl_ S xs = [] := fun h => by rw [(tl_any xs).mp h] at c; cases c
      have h2 : tl_ S (x :: xs) = tl_ S xs := by
        conv => lhs; unfold tl_
        rw [c, if_pos rfl]
      rw [if_neg h1, h2, if_neg h1, List.length_cons]
      congr 1; omega
theorem r_ta (hI : ir_ S M) {hand : Nat} (hh : hand < 2) {xs : List Nat} (hx : ok_ xs) (hd : hd_ M hand xs) : f_X12_tailAt (Int32.ofNat hand) M = some (so_ (if tl_ S xs = [] then none else some (xs.length - (tl_ S xs).length))) := by
  have h8 := hx.1
  unfold f_X12_tailAt
  have := r_ta_l hI hh hx hd xs [] none fu_ rfl (by unfold fu_; omega)
  rw [ta_eq, List.length_nil, Nat.zero_add] at this
  exact this
theorem r_ht (hI : ir_ S M) {xs ys : List Nat} (hx : ok_ xs) (hy : ok_ ys) (h0 : hd_ M 0 xs) (h1 : hd_ M 1 ys) : f_X12_haveTails M = some (bi_ (decide (tl_ S xs ≠ [] ∧ tl_ S ys ≠ []))) := by
  have hx8 := hx.1
  have hy8 := hy.1
  unfold f_X12_haveTails
  have e0 : f_X12_tailAt (0 : Int32) M = _ := r_ta hI (hand := 0) (by omega) hx h0
  have e1 : f_X12_tailAt (1 : Int32) M = _ := r_ta hI (hand := 1) (by omega) hy h1
  rw [e0, e1, Option.bind_some, Option.bind_some]
  by_cases c1 : tl_ S xs = []
  · rw [if_pos c1, if_pos (by decide)]; simp [c1, bi_]
  · rw [if_neg c1, if_neg (by intro hn; exact (n3_neg (by omega)).mp hn)]
    by_cases c2 : tl_ S ys = []
    · rw [if_pos c2, if_pos (by decide)]; simp [c2, bi_]
    · rw [if_neg c2, if_neg (by intro hn; exact (n3_neg (by omega)).mp hn)]; simp [c1, c2, bi_]
theorem r_tt0 {n : Nat} {a b k : Int32} : f_X12_areTailsAlike_40l M (n + 1) a b 0 k = some 0 := by
  unfold f_X12_areTailsAlike_40l f_X12_areTailsAlike_40
  simp
theorem r_tt_l {xs ys : List Nat} (hx : ok_ xs) (hy : ok_ ys) (h0 : hd_ M 0 xs) (h1 : hd_ M 1 ys) {a b : Nat} (hab : xs.length - a = ys.length - b) (ha : a ≤ xs.length) (hb : b ≤ ys.length) :
    ∀ (d k n : Nat), a + k + d = xs.length → d + 1 < n → f_X12_areTailsAlike_40l M n (Int32.ofNat a) (Int32.ofNat b) 1 (Int32.ofNat k) = some (bi_ (decide (xs.drop (a + k) = ys.drop (b + k)))) := by
  have hx8 := hx.1
  have hy8 := hy.1
  intro d
  induction d with
  | zero =>
    intro k n hk hn
    obtain ⟨m, rfl⟩ : ∃ m, n = m + 1 := ⟨n - 1, by omega⟩
    unfold f_X12_areTailsAlike_40l f_X12_areTailsAlike_40
    have e0 : M.1 15 (0 : Int32).toNatClampNeg = Int32.ofNat xs.length := h0.1
    rw [e0, n3_add, if_pos ((n3_le (by omega) (by omega)).mpr (by omega)), if_pos (by decide), List.drop_eq_nil_of_le (by omega), List.drop_eq_nil_of_le (by omega)]; rfl
  | succ d ih =>
    intro k n hk hn
    obtain ⟨m, rfl⟩ : ∃ m, n = m + 1 := ⟨n - 1, by omega⟩
    have hau : a + k < xs.length := by omega
    have hbu : b + k < ys.length := by omega
    have a0 := h0.2 (a + k) xs[a + k] (List.getElem?_eq_getElem hau)
    have a1 := h1.2 (b + k) ys[b + k] (List.getElem?_eq_getElem hbu)
    have hu := hx.2 xs[a + k] (List.getElem_mem hau)
    have hv := hy.2 ys[b + k] (List.getElem_mem hbu)
    rw [show 8 * 0 + (a + k) = a + k from by omega] at a0
    rw [show 8 * 1 + (b + k) = 8 + b + k from by omega] at a1
    have e0 : M.1 15 (0 : Int32).toNatClampNeg = Int32.ofNat xs.length := h0.1
    have e8 : (8 : Int32) + Int32.ofNat b + Int32.ofNat k = Int32.ofNat (8 + b + k) := by
      show Int32.ofNat 8 + _ + _ = _
      rw [n3_add, n3_add]
    unfold f_X12_areTailsAlike_40l f_X12_areTailsAlike_40
    rw [e0, n3_add, if_neg (by rw [n3_le (by omega) (by omega)]; omega), if_neg (by decide), e8, if_pos ((n3_ix (by omega)).mpr (by omega)), if_pos ((n3_ix (by omega)).mpr (by omega)), n3_tn (by omega), n3_tn (by omega), a0, a1]
    unfold f_X12_areTailsAlike_86
    rw [List.drop_eq_getElem_cons hau, List.drop_eq_getElem_cons hbu]
    by_cases c : xs[a + k] = ys[b + k]
    · rw [if_pos (by rw [c])]
      show f_X12_areTailsAlike_40l M m _ _ 1 (Int32.ofNat k + Int32.ofNat 1) = _
      rw [n3_add, ih (k + 1) m (by omega) (by omega)]
      simp [c, Nat.add_assoc]
    · rw [if_neg (by rw [n3_eq (by omega) (by omega)]; exact c)]
      show f_X12_areTailsAlike_40l M m _ _ 0 _ = _
      obtain ⟨m', rfl⟩ : ∃ m', m = m' + 1 := ⟨m - 1, by omega⟩
      have hne : ¬ (xs[a + k] :: xs.drop (a + k + 1) = ys[b + k] :: ys.drop (b + k + 1)) := fun h => c (List.cons.inj h).1
      rw [r_tt0, decide_eq_false hne]; rfl
theorem r_tt (hI : ir_ S M) {xs ys : List Nat} (hx : ok_ xs) (hy : ok_ ys) (h0 : hd_ M 0 xs) (h1 : hd_ M 1 ys) (c1 : tl_ S xs ≠ []) (c2 : tl_ S ys ≠ []) : f_X12_areTailsAlike M = some (bi_ (decide (tl_ S xs = tl_ S ys))) := by
  have hx8 := hx.1
  have hy8 := hy.1
  have l1 := tl_len (S := S) xs
  have l2 := tl_len (S := S) ys
  unfold f_X12_areTailsAlike f_X12_areTailsAlike_36
  have t0 : f_X12_tailAt (0 : Int32) M = _ := r_ta hI (hand := 0) (by omega) hx h0
  have t1 : f_X12_tailAt (1 : Int32) M = _ := r_ta hI (hand := 1) (by omega) hy h1
  rw [if_neg c1] at t0
  rw [if_neg c2] at t1
  have e0 : M.1 15 (0 : Int32).toNatClampNeg = Int32.ofNat xs.length := h0.1
  have e1 : M.1 15 (1 : Int32).toNatClampNeg = Int32.ofNat ys.length := h1.1
  rw [t0, t1, Option.bind_some, Option.bind_some, e0, e1]
  show (if Int32.ofNat xs.length - Int32.ofNat (xs.length - (tl_ S xs).length) = Int32.ofNat ys.length - Int32.ofNat (ys.length - (tl_ S ys).length) then f_X12_areTailsAlike_40l M fu_ (Int32.ofNat _) (Int32.ofNat _) 1 0 else f_X12_areTailsAlike_40l M fu_ (Int32.ofNat _) (Int32.ofNat _) 0 0) = _
  rw [n3_sub (by omega), n3_sub (by omega)]
  by_cases c : (tl_ S xs).length = (tl_ S ys).length
  · rw [if_pos (by congr 1; omega)]
    have := r_tt_l hx hy h0 h1 (a := xs.length - (tl_ S xs).length) (b := ys.length - (tl_ S ys).length) (by omega) (by omega) (by omega) (tl_ S xs).length 0 fu_ (by omega) (by unfold fu_; omega)
    rw [Nat.add_zero, Nat.add_zero, ← tl_drop, ← tl_drop] at this
    exact this
  · rw [if_neg (by rw [n3_eq (by omega) (by omega)]; omega), show fu_ = 1048575 + 1 from rfl, r_tt0]
    have : tl_ S xs ≠ tl_ S ys := fun h => c (by rw [h])
    simp [this, bi_]
theorem r_rh (hI : ir_ S M) {xs ys : List Nat} (hx : ok_ xs) (hy : ok_ ys) (h0 : hd_ M 0 xs) (h1 : hd_ M 1 ys) : f_X12_areRhymes M = some (bi_ (rh_ S xs ys)) := by
  unfold f_X12_areRhymes rh_
  rw [r_ht hI hx hy h0 h1, Option.bind_some]
  by_cases c1 : tl_ S xs = []
  · rw [if_pos (by simp [c1, bi_])]; simp [c1, bi_]
  · by_cases c2 : tl_ S ys = []
    · rw [if_pos (by simp [c2, bi_])]; simp [c2, c1, bi_]
    · rw [if_neg (by simp [c1, c2, bi_]), r_tt hI hx hy h0 h1 c1 c2, Option.bind_some]
      by_cases c3 : tl_ S xs = tl_ S ys
      · rw [if_neg (by simp [c3, bi_])]; simp [c3, c2, bi_]
      · rw [if_pos (by simp [c3, bi_])]; simp [c3, bi_]
end RF1
