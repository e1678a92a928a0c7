/-! LAW: histories part -/
section WQ1
variable {S : sg_} {M M0 Mc Mr Z : mm_M} {vs : List Nat}
theorem c_ins29 {j n Y : Nat} {pre suf : List Nat} {yf : Nat → Nat} (hj : j < 600) (hn : n ≤ 5) (hlen : pre.length + suf.length = n) (hY : Y ≤ 400) (h14 : M.1 14 3 = Int32.ofNat n) (hx : ∀ x, x ∈ pre ++ suf → x < 8 ∧ yf x < 512) :
    f_X3_insert_29 (Int32.ofNat j) (Int32.ofNat (bv_ 8 (pre ++ suf))) (Int64.ofNat (bv_ 512 ((pre ++ suf).map yf))) (Int32.ofNat Y) (Int32.ofNat pre.length) M = some (mm_sl (mm_si M 16 j (Int32.ofNat (bv_ 8 (pre ++ n :: suf)))) 17 j (Int64.ofNat (bv_ 512 (pre.map yf ++ Y :: suf.map yf)))) := by
  have hix : ix_ok (Int32.ofNat j) 600 := (n3_ix (by omega)).mpr hj
  have et : (Int32.ofNat j).toNatClampNeg = j := n3_tn (by omega)
  have e3 : (3 : Int32) * Int32.ofNat pre.length = Int32.ofNat (3 * pre.length) := n3_mul 3 _
  have e9 : (9 : Int32) * Int32.ofNat pre.length = Int32.ofNat (9 * pre.length) := n3_mul 9 _
  have e33 : Int32.ofNat (3 * pre.length) + 3 = Int32.ofNat (3 * pre.length + 3) := n3_add _ 3
  have e99 : Int32.ofNat (9 * pre.length) + 9 = Int32.ofNat (9 * pre.length + 9) := n3_add _ 9
  have hb8 : bv_ 8 (pre ++ suf) < 2147483648 := by
    have h1 := bv_lt (B := 8) (by omega) (pre ++ suf) (fun x hx2 => (hx x hx2).1)
    have h2 : 8 ^ (pre ++ suf).length ≤ 8 ^ 5 := Nat.pow_le_pow_right (n := 8) (by omega) (by rw [List.length_append]; omega)
    have h3 : 8 ^ 5 = 32768 := by decide
    omega
  have hb5 : bv_ 512 ((pre ++ suf).map yf) < 9223372036854775808 := by
    have h1 := bv_lt (B := 512) (by omega) ((pre ++ suf).map yf) (fun x hx2 => by
      rw [List.mem_map] at hx2
      obtain ⟨a, ha, rfl⟩ := hx2
      exact (hx a ha).2)
    have h2 : 512 ^ ((pre ++ suf).map yf).length ≤ 512 ^ 5 := Nat.pow_le_pow_right (n := 512) (by omega) (by rw [List.length_map, List.length_append]; omega)
    have h3 : 512 ^ 5 = 35184372088832 := by decide
    omega
  have k8 := bv_ins (e := 3) (pre := pre) (suf := suf) (v := n) (fun x hx2 => (hx x (List.mem_append_left _ hx2)).1) (show n < 2 ^ 3 by omega)
  have k5 := bv_ins (e := 9) (pre := pre.map yf) (suf := suf.map yf) (v := Y) (fun x hx2 => by
    rw [List.mem_map] at hx2
    obtain ⟨a, ha, rfl⟩ := hx2
    exact (hx a (List.mem_append_left _ ha)).2) (show Y < 2 ^ 9 by omega)
  rw [show (2 : Nat) ^ 3 = 8 from rfl] at k8
  rw [show (2 : Nat) ^ 9 = 512 from rfl, List.length_map, ← List.map_append] at k5
  have p1 : 1 ≤ 2 ^ (3 * pre.length) := Nat.one_le_two_pow
  have p2 : 1 ≤ 2 ^ (9 * pre.length) := Nat.one_le_two_pow
  have o8 : (Int32.ofNat (bv_ 8 (pre ++ suf)) &&& (((1 : Int32) <<< (Int32.ofNat (3 * pre.length) &&& 31)) - 1)) ||| (Int32.ofNat n <<< (Int32.ofNat (3 * pre.length) &&& 31)) ||| ((Int32.ofNat (bv_ 8 (pre ++ suf)) >>> (Int32.ofNat (3 * pre.length) &&& 31)) <<< (Int32.ofNat (3 * pre.length + 3) &&& 31)) = Int32.ofNat (bv_ 8 (pre ++ n :: suf)) := by
    rw [show (1 : Int32) = Int32.ofNat 1 from rfl, n3_shl (by omega), n3_sub (by omega), n3_and, n3_shl (by omega), n3_or, n3_shr hb8 (by omega), n3_shl (by omega), n3_or, Nat.one_mul, k8]
  have o5 : (Int64.ofNat (bv_ 512 ((pre ++ suf).map yf)) &&& (((1 : Int64) <<< ((Int32.ofNat (9 * pre.length)).toInt64 &&& 63)) - 1)) ||| ((Int32.ofNat Y).toInt64 <<< ((Int32.ofNat (9 * pre.length)).toInt64 &&& 63)) ||| ((Int64.ofNat (bv_ 512 ((pre ++ suf).map yf)) >>> ((Int32.ofNat (9 * pre.length)).toInt64 &&& 63)) <<< ((Int32.ofNat (9 * pre.length + 9)).toInt64 &&& 63)) = Int64.ofNat (bv_ 512 (pre.map yf ++ Y :: suf.map yf)) := by
    rw [n3_6 (by omega), n3_6 (by omega), n3_6 (by omega), show (1 : Int64) = Int64.ofNat 1 from rfl, n6_shl (by omega), n6_sub (by omega), n6_and, n6_shl (by omega), n6_or, n6_shr hb5 (by omega), n6_shl (by omega), n6_or, Nat.one_mul, k5]
  unfold f_X3_insert_29
  rw [e3, sq_n, e9, sq_n, if_pos hix, sq_n, if_pos hix, sq_n, h14, e33, e99, et, o8, o5]
theorem c_yearIn2 {xs : List Nat} (hx : ∀ x, x ∈ xs → x < 512) (h6 : xs.length ≤ 6) {t v : Nat} (ht : xs[t]? = some v) : f_X3_yearIn (Int64.ofNat (bv_ 512 xs)) (Int32.ofNat t) = Int32.ofNat v := by
  have ht6 := lt_of_some ht
  have hb := bv_lt (B := 512) (by omega) _ hx
  have hp : 512 ^ xs.length ≤ 512 ^ 6 := Nat.pow_le_pow_right (n := 512) (by omega) h6
  have hp2 : 512 ^ 6 = 18014398509481984 := by decide
  unfold f_X3_yearIn
  have e1 : ((9 : Int32) * Int32.ofNat t).toInt64 = Int64.ofNat (9 * t) := by
    show (Int32.ofNat 9 * _).toInt64 = _
    rw [n3_mul, n3_6 (by omega)]
  rw [e1, n6_shr (by omega) (by omega), n6_3]
  show (_ &&& Int32.ofNat (2 ^ 9 - 1)) = _
  rw [n3_md _ _ (by omega), Nat.pow_mul]
  show Int32.ofNat (bv_ 512 xs / 512 ^ t % 512) = _
  rw [bv_at (v := v) (by omega) hx ht]
theorem c_insert {j n Y : Nat} {os : List Nat} {yf y' : Nat → Nat} (hj : j < 600) (hn : n ≤ 5) (hlen : os.length = n) (hY : Y ≤ 400) (h14 : M.1 14 3 = Int32.ofNat n) (hx : ∀ x, x ∈ os → x < n ∧ yf x < 512) (hs : sr_ yf os) (hy' : ∀ x, x < n → y' x = yf x) (hyn : y' n = Y) :
    f_X3_insert (Int32.ofNat j) (Int32.ofNat (bv_ 8 os)) (Int64.ofNat (bv_ 512 (os.map yf))) (Int32.ofNat Y) M = some (mm_sl (mm_si M 16 j (Int32.ofNat (bv_ 8 (in_s y' n os)))) 17 j (Int64.ofNat (bv_ 512 ((in_s y' n os).map y')))) := by
  have hm : ∀ xs : List Nat, (∀ x, x ∈ xs → x < n) → xs.map yf = xs.map y' := fun xs h => List.map_congr_left (fun a ha => (hy' a (h a ha)).symm)
  have key : ∀ (rest pre : List Nat) (k : Nat), os = pre ++ rest → rest.length < k → (∀ x, x ∈ pre → yf x ≤ Y) → f_X3_insert_3l k (Int32.ofNat j) (Int32.ofNat (bv_ 8 os)) (Int64.ofNat (bv_ 512 (os.map yf))) (Int32.ofNat Y) (Int32.ofNat pre.length) M = some (mm_sl (mm_si M 16 j (Int32.ofNat (bv_ 8 (in_s y' n os)))) 17 j (Int64.ofNat (bv_ 512 ((in_s y' n os).map y')))) := by
    intro rest
    induction rest with
    | nil =>
      intro pre k e1 hk hp
      obtain ⟨m, rfl⟩ : ∃ m, k = m + 1 := ⟨k - 1, by omega⟩
      rw [List.append_nil] at e1
      have hpl : pre.length = n := by rw [← e1]; exact hlen
      unfold f_X3_insert_3l f_X3_insert_3
      rw [h14, if_pos ((n3_le (by omega) (by omega)).mpr (by omega))]
      have := c_ins29 (M := M) (pre := pre) (suf := []) (yf := yf) (n := n) (Y := Y) hj hn (by rw [← e1]; simp; omega) hY h14 (fun x hx2 => by
        rw [List.append_nil, ← e1] at hx2
        have := hx x hx2; omega)
      rw [List.append_nil, ← e1] at this
      have hin : in_s y' n os = os ++ [n] := by
        have := in_s_app (y := y') (l := n) (suf := []) (fun x hx2 => by cases hx2) os (fun x hx2 => by rw [hy' x (hx x hx2).1, hyn]; exact hp x (by rw [← e1]; exact hx2))
        rw [List.append_nil] at this
        exact this
      rw [hin, List.map_append, List.map_cons, List.map_nil, hyn, ← hm os (fun x hx2 => (hx x hx2).1), ← e1]
      exact this
    | cons a r ih =>
      intro pre k e1 hk hp
      obtain ⟨m, rfl⟩ : ∃ m, k = m + 1 := ⟨k - 1, by omega⟩
      have hl : os.length = pre.length + (r.length + 1) := by rw [e1]; simp
      have ha := hx a (by rw [e1]; simp)
      have hat : (os.map yf)[pre.length]? = some (yf a) := by rw [List.getElem?_map, e1]; simp
      unfold f_X3_insert_3l f_X3_insert_3
      rw [h14, if_neg (by rw [n3_le (by omega) (by omega)]; omega), c_yearIn2 (fun x hx2 => by
        rw [List.mem_map] at hx2
        obtain ⟨q, hq, rfl⟩ := hx2
        exact (hx q hq).2) (by rw [List.length_map]; omega) hat, sq_n]
      by_cases c : Y < yf a
      · rw [if_pos ((n3_lt (by omega) (by omega)).mpr c)]
        have := c_ins29 (M := M) (pre := pre) (suf := a :: r) (yf := yf) (n := n) (Y := Y) hj hn (by simp; omega) hY h14 (fun x hx2 => by
          rw [← e1] at hx2
          have := hx x hx2; omega)
        rw [← e1] at this
        have hgt : ∀ x, x ∈ a :: r → Y < yf x := by
          intro x hx2
          rw [List.mem_cons] at hx2
          rcases hx2 with hx2 | hx2
          · rw [hx2]; exact c
          · have hs2 := hs
            rw [e1] at hs2
            unfold sr_ at hs2
            have h3 := (List.pairwise_append.mp hs2).2.1
            rw [List.pairwise_cons] at h3
            have := h3.1 x hx2
            have h4 : yf a ≤ yf x := this
            omega
        have hin : in_s y' n os = pre ++ n :: a :: r := by
          rw [e1]
          exact in_s_app (fun x hx2 => by rw [hy' x (hx x (by rw [e1]; exact List.mem_append_right _ hx2)).1, hyn]; exact hgt x hx2) pre (fun x hx2 => by rw [hy' x (hx x (by rw [e1]; exact List.mem_append_left _ hx2)).1, hyn]; exact hp x hx2)
        rw [hin, List.map_append, List.map_cons, hyn, ← hm pre (fun x hx2 => (hx x (by rw [e1]; exact List.mem_append_left _ hx2)).1), ← hm (a :: r) (fun x hx2 => (hx x (by rw [e1]; exact List.mem_append_right _ hx2)).1)]
        exact this
      · rw [if_neg (by rw [n3_lt (by omega) (by omega)]; exact c), sq_n, show Int32.ofNat pre.length + 1 = Int32.ofNat (pre ++ [a]).length by rw [List.length_append]; exact n3_add _ 1]
        refine ih (pre ++ [a]) m (by rw [e1]; simp) (by simp at hk; omega) (fun x hx2 => ?_)
        rw [List.mem_append, List.mem_singleton] at hx2
        rcases hx2 with hx2 | hx2
        · exact hp x hx2
        · rw [hx2]; omega
  unfold f_X3_insert
  exact key os [] fu_ rfl (by unfold fu_; omega) (fun x hx2 => by cases hx2)
/-! the new law -/
/-- the state with one law more, the text gone -/
def nl_s_ (S : sg_) (g b lf rt f by' m : Nat) : sg_ := fun x y => if x = 0 ∧ y = 11 then S 0 11 + 1 else if x = 0 ∧ y = 4 then 0 else if y = S 0 11 ∧ 6 ≤ x ∧ x ≤ 12 then (if x = 6 then g else if x = 7 then b else if x = 8 then lf else if x = 9 then rt else if x = 10 then f else if x = 11 then by' else m) else S x y
section NLS
variable {g b lf rt f by' m : Nat}
theorem ns_11 : nl_s_ S g b lf rt f by' m 0 11 = S 0 11 + 1 := by unfold nl_s_; rw [if_pos ⟨rfl, rfl⟩]
theorem ns_4 : nl_s_ S g b lf rt f by' m 0 4 = 0 := by unfold nl_s_; rw [if_neg (by omega), if_pos ⟨rfl, rfl⟩]
theorem ns_n {x : Nat} (h : 6 ≤ x ∧ x ≤ 12) : nl_s_ S g b lf rt f by' m x (S 0 11) = (if x = 6 then g else if x = 7 then b else if x = 8 then lf else if x = 9 then rt else if x = 10 then f else if x = 11 then by' else m) := by
  unfold nl_s_; rw [if_neg (by omega), if_neg (by omega), if_pos ⟨rfl, h⟩]
theorem ns_o {x y : Nat} (h : ¬ (x = 0 ∧ (y = 11 ∨ y = 4)) ∧ ¬ (y = S 0 11 ∧ 6 ≤ x ∧ x ≤ 12)) : nl_s_ S g b lf rt f by' m x y = S x y := by
  unfold nl_s_; rw [if_neg (by omega), if_neg (by omega), if_neg h.2]
theorem ns_f {x : Nat} (h : x ≠ 0 ∧ ¬ (6 ≤ x ∧ x ≤ 12)) : nl_s_ S g b lf rt f by' m x = S x := funext (fun y => ns_o (by omega))
theorem hq_cg2 {S' : sg_} {l : Nat} : ∀ d h, (∀ k, l < k → k ≤ l + d → S' 12 k = S 12 k) → hq_ S' l d h = hq_ S l d h := by
  intro d
  induction d with
  | zero => intro h _; rfl
  | succ d ih =>
    intro h hk
    show hq_ S' l d (h / S' 12 (l + d + 1)) = hq_ S l d (h / S 12 (l + d + 1))
    rw [hk (l + d + 1) (by omega) (by omega)]
    exact ih _ (fun k h1 h2 => hk k h1 (by omega))
theorem ns_yo {l h : Nat} (hl : l < S 0 11) (hm : 1 ≤ m) : yr_ (nl_s_ S g b lf rt f by' m) l h = yr_ S l (h / m) := by
  unfold yr_
  rw [ns_11, yr_n_s hl, ns_n (by omega)]
  show yr_n (nl_s_ S g b lf rt f by' m) (S 0 11) l (h / m) = _
  unfold yr_n
  rw [ns_o (x := 10) (y := l) (by omega), ns_o (x := 11) (y := l) (by omega), ns_o (x := 12) (y := l) (by omega), hq_cg2 _ _ (fun k h1 h2 => ns_o (by omega))]
theorem ns_yn {h : Nat} : yr_ (nl_s_ S g b lf rt f by' m) (S 0 11) h = f + by' * (h % m) := by
  unfold yr_
  rw [ns_11, yr_n_e, ns_n (by omega), ns_n (by omega), ns_n (by omega)]
  rfl
theorem ns_hs : hs_ (nl_s_ S g b lf rt f by' m) = hs_ S * m := by
  unfold hs_
  rw [ns_11]
  show hn_ _ (S 0 11) * _ = _
  rw [ns_n (by omega), hn_cg (S 0 11) (fun l hl => ns_o (by omega))]
  rfl
theorem ns_or {h : Nat} (hm : 1 ≤ m) : or_ (nl_s_ S g b lf rt f by' m) h = in_s (fun l => yr_ (nl_s_ S g b lf rt f by' m) l h) (S 0 11) (or_ S (h / m)) := by
  unfold or_
  rw [ns_11]
  show (if true = true then in_s _ (S 0 11) (od_ _ _ (S 0 11)) else _) = _
  rw [if_pos rfl]
  congr 1
  exact od_cg (S 0 11) (fun _ _ => rfl) (fun l hl _ => ns_yo hl hm)
end NLS
theorem c_addLaw_i (hw : wf_ S) {f by' m h : Nat} (hL : S 0 11 ≤ 5) (hm : 1 ≤ m) (h600 : hs_ S * m ≤ 600) (hh : h < hs_ S) (hy : f + by' * (m - 1) ≤ 400) {S' : sg_} (hyo : ∀ l q, l < S 0 11 → yr_ S' l q = yr_ S l (q / m)) (hyn : ∀ q, yr_ S' (S 0 11) q = f + by' * (q % m)) (hor : ∀ q, or_ S' q = in_s (fun l => yr_ S' l q) (S 0 11) (or_ S (q / m)))
    {q8 : Int32 → Int32 → Int32 → Int32 → mm_M → Option mm_M} {Q : mm_M → Prop} {M0 : mm_M} (h14 : M0.1 14 3 = Int32.ofNat (S 0 11))
    (hQ : ∀ M', (∀ a b, ¬ (a = 16 ∧ h * m ≤ b ∧ b < h * m + m) → M'.1 a b = M0.1 a b) → (∀ a b, ¬ (a = 17 ∧ h * m ≤ b ∧ b < h * m + m) → M'.2.1 a b = M0.2.1 a b) → M'.2.2 = M0.2.2 → (∀ i, i < m → M'.1 16 (h * m + i) = Int32.ofNat (bv_ 8 (or_ S' (h * m + i))) ∧ M'.2.1 17 (h * m + i) = Int64.ofNat (bv_ 512 ((or_ S' (h * m + i)).map (fun l => yr_ S' l (h * m + i))))) → wp_ (f_X3_addLaw_67 q8 (Int32.ofNat f) (Int32.ofNat by') (Int32.ofNat m) (Int32.ofNat h) M') Q) :
    ∀ (e i n : Nat) (M : mm_M), i + e = m → e < n → (∀ a b, ¬ (a = 16 ∧ h * m ≤ b ∧ b < h * m + m) → M.1 a b = M0.1 a b) → (∀ a b, ¬ (a = 17 ∧ h * m ≤ b ∧ b < h * m + m) → M.2.1 a b = M0.2.1 a b) → M.2.2 = M0.2.2 → (∀ q, q < i → M.1 16 (h * m + q) = Int32.ofNat (bv_ 8 (or_ S' (h * m + q))) ∧ M.2.1 17 (h * m + q) = Int64.ofNat (bv_ 512 ((or_ S' (h * m + q)).map (fun l => yr_ S' l (h * m + q))))) →
    wp_ (f_X3_addLaw_34l q8 n (Int32.ofNat f) (Int32.ofNat by') (Int32.ofNat m) (Int32.ofNat h) (Int32.ofNat (bv_ 8 (or_ S h))) (Int64.ofNat (bv_ 512 ((or_ S h).map (fun l => yr_ S l h)))) (Int32.ofNat i) M) Q := by
  have hhm : h * m + m ≤ hs_ S * m := by
    rw [← Nat.succ_mul]; exact Nat.mul_le_mul_right m hh
  have hm6 : m ≤ 600 := by omega
  intro e
  induction e with
  | zero =>
    intro i n M hi hn f1 f2 f3 hnew
    obtain ⟨k, rfl⟩ : ∃ k, n = k + 1 := ⟨n - 1, by omega⟩
    unfold f_X3_addLaw_34l f_X3_addLaw_34
    rw [if_pos ((n3_le (by omega) (by omega)).mpr (by omega))]
    exact hQ M f1 f2 f3 (fun q hq => hnew q (by omega))
  | succ e ih =>
    intro i n M hi hn f1 f2 f3 hnew
    obtain ⟨k, rfl⟩ : ∃ k, n = k + 1 := ⟨n - 1, by omega⟩
    have him : i < m := by omega
    have hdiv : (h * m + i) / m = h := by
      rw [Nat.mul_comm, Nat.mul_add_div (by omega), Nat.div_eq_of_lt him, Nat.add_zero]
    have hmod : (h * m + i) % m = i := by
      rw [Nat.mul_comm, Nat.mul_add_mod, Nat.mod_eq_of_lt him]
    have hyi : f + i * by' ≤ 400 := by
      have h1 := Nat.mul_le_mul_left by' (show i ≤ m - 1 by omega)
      have h2 := Nat.mul_comm i by'
      omega
    have hins := c_insert (M := M) (j := h * m + i) (n := S 0 11) (Y := f + i * by') (os := or_ S h) (yf := fun l => yr_ S l h) (y' := fun l => yr_ S' l (h * m + i)) (by omega) hL (or_len h) hyi (by rw [f1 14 3 (by omega)]; exact h14) (fun x hx => by
      have hx2 := or_mem.mp hx
      have := yr_le hw (h := h) hx2
      exact ⟨hx2, by omega⟩) (or_sr h) (fun x hx => by rw [hyo x _ hx, hdiv]) (by rw [hyn, hmod, Nat.mul_comm])
    unfold f_X3_addLaw_34l f_X3_addLaw_34
    rw [if_neg (by rw [n3_le (by omega) (by omega)]; omega), n3_mul, n3_add, n3_mul, n3_add]
    refine wp_be hins (wp_sr ?_)
    rw [show Int32.ofNat i + 1 = Int32.ofNat (i + 1) from n3_add i 1]
    have hor2 : or_ S' (h * m + i) = in_s (fun l => yr_ S' l (h * m + i)) (S 0 11) (or_ S h) := by rw [hor, hdiv]
    refine ih (i + 1) k _ (by omega) (by omega) (fun a b hab => ?_) (fun a b hab => ?_) f3 (fun q hq => ?_)
    · rw [sl_1, si_1, if_neg (by omega)]; exact f1 a b hab
    · rw [sl_2, if_neg (by omega), si_2]; exact f2 a b hab
    · by_cases c : q = i
      · rw [c, hor2]
        constructor
        · rw [sl_1, si_1, if_pos ⟨rfl, rfl⟩]
        · rw [sl_2, if_pos ⟨rfl, rfl⟩]
      · have := hnew q (by omega)
        constructor
        · rw [sl_1, si_1, if_neg (by omega)]; exact this.1
        · rw [sl_2, if_neg (by omega), si_2]; exact this.2
theorem c_addLaw (hw : wf_ S) {f by' m : Nat} (hL : S 0 11 ≤ 5) (hm : 1 ≤ m) (h600 : hs_ S * m ≤ 600) (hy : f + by' * (m - 1) ≤ 400) {S' : sg_} (hyo : ∀ l q, l < S 0 11 → yr_ S' l q = yr_ S l (q / m)) (hyn : ∀ q, yr_ S' (S 0 11) q = f + by' * (q % m)) (hor : ∀ q, or_ S' q = in_s (fun l => yr_ S' l q) (S 0 11) (or_ S (q / m)))
    {M0 : mm_M} (h14 : M0.1 14 3 = Int32.ofNat (S 0 11)) (h142 : M0.1 14 2 = Int32.ofNat (hs_ S)) (h16 : ∀ q, q < hs_ S → M0.1 16 q = Int32.ofNat (bv_ 8 (or_ S q))) (h17 : ∀ q, q < hs_ S → M0.2.1 17 q = Int64.ofNat (bv_ 512 ((or_ S q).map (fun l => yr_ S l q)))) :
    wp_ (f_X3_addLaw (Int32.ofNat f) (Int32.ofNat by') (Int32.ofNat m) M0) (fun z => (∀ a b, ¬ (a = 16) → ¬ (a = 18 ∧ b = S 0 11) → ¬ (a = 14 ∧ (b = 2 ∨ b = 3)) → z.1 a b = M0.1 a b) ∧ (∀ a, a ≠ 17 → z.2.1 a = M0.2.1 a) ∧ z.2.2 = M0.2.2 ∧ z.1 18 (S 0 11) = Int32.ofNat f ∧ z.1 14 3 = Int32.ofNat (S 0 11 + 1) ∧ z.1 14 2 = Int32.ofNat (hs_ S * m) ∧ ∀ q, q < hs_ S * m → z.1 16 q = Int32.ofNat (bv_ 8 (or_ S' q)) ∧ z.2.1 17 q = Int64.ofNat (bv_ 512 ((or_ S' q).map (fun l => yr_ S' l q)))) := by
  have hs1 := hs_pos hw
  have hs6 := hw.hist
  have hm6 : m ≤ 600 := Nat.le_trans (Nat.le_mul_of_pos_left m hs1) h600
  have key : ∀ (h n : Nat) (M : mm_M), h ≤ hs_ S → h < n → (∀ a b, a ≠ 16 → M.1 a b = M0.1 a b) → (∀ a, a ≠ 17 → M.2.1 a = M0.2.1 a) → M.2.2 = M0.2.2 → (∀ q, q < h → M.1 16 q = Int32.ofNat (bv_ 8 (or_ S q)) ∧ M.2.1 17 q = Int64.ofNat (bv_ 512 ((or_ S q).map (fun l => yr_ S l q)))) → (∀ q, h * m ≤ q → q < hs_ S * m → M.1 16 q = Int32.ofNat (bv_ 8 (or_ S' q)) ∧ M.2.1 17 q = Int64.ofNat (bv_ 512 ((or_ S' q).map (fun l => yr_ S' l q)))) →
      wp_ (f_X3_addLaw_8l n (Int32.ofNat f) (Int32.ofNat by') (Int32.ofNat m) (Int32.ofNat h + (-1)) M) (fun z => (∀ a b, ¬ (a = 16) → ¬ (a = 18 ∧ b = S 0 11) → ¬ (a = 14 ∧ (b = 2 ∨ b = 3)) → z.1 a b = M0.1 a b) ∧ (∀ a, a ≠ 17 → z.2.1 a = M0.2.1 a) ∧ z.2.2 = M0.2.2 ∧ z.1 18 (S 0 11) = Int32.ofNat f ∧ z.1 14 3 = Int32.ofNat (S 0 11 + 1) ∧ z.1 14 2 = Int32.ofNat (hs_ S * m) ∧ ∀ q, q < hs_ S * m → z.1 16 q = Int32.ofNat (bv_ 8 (or_ S' q)) ∧ z.2.1 17 q = Int64.ofNat (bv_ 512 ((or_ S' q).map (fun l => yr_ S' l q)))) := by
    intro h
    induction h with
    | zero =>
      intro n M hh hn f1 f2 f3 hold hnew
      obtain ⟨k, rfl⟩ : ∃ k, n = k + 1 := ⟨n - 1, by omega⟩
      unfold f_X3_addLaw_8l f_X3_addLaw_8 f_X3_addLaw_73
      rw [if_pos ((m1_neg 0 (by omega)).mpr rfl), f1 14 3 (by omega), h14]
      refine wp_ck ((n3_ix (by omega)).mpr (by omega)) (wp_sr (wp_sr (wp_sr (wp_some ?_))))
      rw [n3_tn (by omega)]
      refine ⟨fun a b e1 e2 e3 => ?_, f2, f3, ?_, ?_, ?_, fun q hq => ⟨?_, ?_⟩⟩
      · rw [si_1, if_neg (by omega), si_1, if_neg (by omega), si_1, if_neg (by omega)]; exact f1 a b e1
      · rw [si_1, if_neg (by omega), si_1, if_neg (by omega), si_1, if_pos ⟨rfl, rfl⟩]
      · rw [si_1, if_neg (by omega), si_1, if_pos ⟨rfl, rfl⟩, si_1, if_neg (by omega), f1 14 3 (by omega), h14]; exact n3_add _ 1
      · rw [si_1, if_pos ⟨rfl, rfl⟩, si_1, if_neg (by omega), si_1, if_neg (by omega), f1 14 2 (by omega), h142, n3_mul]
      · rw [si_1, if_neg (by omega), si_1, if_neg (by omega), si_1, if_neg (by omega)]; exact (hnew q (by omega) hq).1
      · exact (hnew q (by omega) hq).2
    | succ h ih =>
      intro n M hh hn f1 f2 f3 hold hnew
      obtain ⟨k, rfl⟩ : ∃ k, n = k + 1 := ⟨n - 1, by omega⟩
      have hix : ix_ok (Int32.ofNat h) 600 := (n3_ix (by omega)).mpr (by omega)
      have hlo := hold h (by omega)
      have hle : h ≤ h * m := Nat.le_mul_of_pos_right h (by omega)
      unfold f_X3_addLaw_8l f_X3_addLaw_8
      rw [if_neg (fun hh2 => by have := (m1_neg (h + 1) (by omega)).mp hh2; omega), n3_pred (by omega), Nat.add_sub_cancel]
      refine wp_ck hix (wp_sr (wp_ck hix (wp_sr ?_)))
      rw [n3_tn (by omega), hlo.1, hlo.2]
      refine c_addLaw_i hw hL hm h600 (by omega) hy hyo hyn hor (by rw [f1 14 3 (by omega)]; exact h14) (fun M' g1 g2 g3 hn2 => ?_) m 0 fu_ M (by omega) (by unfold fu_; omega) (fun _ _ _ => rfl) (fun _ _ _ => rfl) rfl (fun q hq => by omega)
      unfold f_X3_addLaw_67
      refine wp_sr ?_
      refine ih k M' (by omega) (by omega) (fun a b hab => by rw [g1 a b (by omega)]; exact f1 a b hab) (fun a ha => by funext b; rw [g2 a b (by omega), f2 a ha]) (g3.trans f3) (fun q hq => ?_) (fun q h1 h2 => ?_)
      · rw [g1 16 q (by omega), g2 17 q (by omega)]; exact hold q (by omega)
      · by_cases c : q < h * m + m
        · obtain ⟨i, rfl⟩ : ∃ i, q = h * m + i := ⟨q - h * m, by omega⟩
          exact hn2 i (by omega)
        · rw [g1 16 q (by omega), g2 17 q (by omega)]
          exact hnew q (by rw [Nat.succ_mul]; omega) h2
  unfold f_X3_addLaw
  refine wp_sr ?_
  rw [h142, Int32.sub_eq_add_neg]
  exact key (hs_ S) fu_ M0 (Nat.le_refl _) (by unfold fu_; omega) (fun _ _ _ => rfl) (fun _ _ => rfl) rfl (fun q hq => ⟨h16 q hq, h17 q hq⟩) (fun q h1 h2 => by omega)
end WQ1
