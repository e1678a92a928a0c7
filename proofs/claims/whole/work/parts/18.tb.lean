/-! BOTH SIDES: guards; the class's ROW -/
section TB1
variable {S : sg_} {M Mc Mr : mm_M} {vs : List Nat} {v : Int32} {b b1 b2 : Bool} {Xc Xr : Option (Int32 × mm_M)}
theorem bo_no (h : rl_ Mc Mr) : bo_ (some (v, Mc)) (some (v, Mr)) := ⟨v, Mc, Mr, rfl, rfl, h⟩
theorem gd_t {X : Option (Int32 × mm_M)} (hb : b = true) : sq_ (bi_ b) (fun z => if z = 0 then some (v, M) else X) = X := by
  rw [sq_n, hb, if_neg (by decide)]
theorem gd_f {X : Option (Int32 × mm_M)} (hb : b = false) : sq_ (bi_ b) (fun z => if z = 0 then some (v, M) else X) = some (v, M) := by
  rw [sq_n, hb, if_pos (by decide)]
theorem bo_g (hrl : rl_ Mc Mr) (h : b = true → bo_ Xc Xr) : bo_ (sq_ (bi_ b) fun z => if z = 0 then some (v, Mc) else Xc) (sq_ (bi_ b) fun z => if z = 0 then some (v, Mr) else Xr) := by
  cases hb : b with
  | false => rw [gd_f rfl, gd_f rfl]; exact bo_no hrl
  | true => rw [gd_t rfl, gd_t rfl]; exact h hb
theorem bo_gb (hrl : rl_ Mc Mr) (h : b = true → bo_ Xc Xr) : bo_ (sq_ (bi_ b) fun z => if z = 0 then some (v, Mc) else Xc) ((some (bi_ b)).bind fun z => if z = 0 then some (v, Mr) else Xr) := by
  have e : ((some (bi_ b)).bind fun z => if z = 0 then some (v, Mr) else Xr) = sq_ (bi_ b) (fun z => if z = 0 then some (v, Mr) else Xr) := by
    rw [Option.bind_some, sq_n]
  rw [e]
  exact bo_g hrl h
theorem bo_gt (hrl : rl_ Mc Mr) (h : b1 = true → b2 = true → bo_ Xc Xr) : bo_ (sq_ (bi_ (b1 && b2)) fun z => if z = 0 then some (v, Mc) else Xc) ((some (bi_ b1)).bind fun z => if z = 0 then some (v, Mr) else (sq_ (bi_ b2) fun z => if z = 0 then some (v, Mr) else Xr)) := by
  rw [Option.bind_some]
  cases hb : b1 with
  | false => rw [Bool.false_and, gd_f rfl, if_pos (by decide)]; exact bo_no hrl
  | true =>
    rw [if_neg (by decide), Bool.true_and]
    cases hb2 : b2 with
    | false => rw [gd_f rfl, gd_f rfl]; exact bo_no hrl
    | true => rw [gd_t rfl, gd_t rfl]; exact h hb hb2
/-- year and place apart in the class, together in the reference -/
theorem bo_g2 (hrl : rl_ Mc Mr) (h : b1 = true → b2 = true → bo_ Xc Xr) : bo_ (sq_ (bi_ b1) fun z => if z = 0 then some (v, Mc) else (sq_ (bi_ b2) fun z => if z = 0 then some (v, Mc) else Xc)) (sq_ (bi_ (b1 && b2)) fun z => if z = 0 then some (v, Mr) else Xr) := by
  cases hb : b1 with
  | false => rw [Bool.false_and, gd_f rfl, gd_f rfl]; exact bo_no hrl
  | true =>
    rw [gd_t rfl, Bool.true_and]
    cases hb2 : b2 with
    | false => rw [gd_f rfl, gd_f rfl]; exact bo_no hrl
    | true => rw [gd_t rfl, gd_t rfl]; exact h hb hb2
theorem and_t {a b : Bool} (h : (a && b) = true) : a = true ∧ b = true := by
  cases a <;> cases b <;> first | exact ⟨rfl, rfl⟩ | cases h
theorem cs_.fc (h : cs_ S vs M) (hw : wf_ S) {M' : mm_M} {W' : Nat} {pt' : Nat → List Nat} (hf : fc_ M M') (ht : tc_ S M' W' pt') : cs_ S vs M' := by
  refine ⟨⟨W', pt', ht⟩, hf.ic hw h.2.1, ?_, ?_⟩
  · intro s hs hd q hq
    rw [hf.1 19 6 (by omega) (by omega)] at hd
    rw [hf.1 21 q (by omega) (by omega)]
    exact h.2.2.1 s hs hd q hq
  · exact ⟨by rw [hf.1 3 1 (by omega) (by omega)]; exact h.2.2.2.1, fun j v hv => by rw [hf.2 4 (by omega)]; exact h.2.2.2.2 j v hv⟩
/-- a frame that leaves alone what lasts, what is known, and the ROW -/
theorem cs_.fk (h : cs_ S vs M) (hw : wf_ S) {P : Nat → Nat → Prop} {Q : Nat → Prop} {M' : mm_M} {W' : Nat} {pt' : Nat → List Nat} (hf : fk_ P Q M M') (ht : tc_ S M' W' pt') (hp : ∀ a b, P a b → ¬ pc_ S a b ∧ a ≠ 3 ∧ a ≠ 19 ∧ a ≠ 21) (hq : ∀ a, Q a → a ≠ 17 ∧ a ≠ 4) : cs_ S vs M' := by
  refine ⟨⟨W', pt', ht⟩, hf.ic hw h.2.1 (fun a b hab => (hp a b hab).1) (fun h17 => (hq 17 h17).1 rfl), ?_, ?_⟩
  · intro s hs hd q hqq
    rw [hf.1 19 6 (by omega) (by omega) (fun hh => (hp 19 6 hh).2.2.1 rfl)] at hd
    rw [hf.1 21 q (by omega) (by omega) (fun hh => (hp 21 q hh).2.2.2 rfl)]
    exact h.2.2.1 s hs hd q hqq
  · exact ⟨by rw [hf.1 3 1 (by omega) (by omega) (fun hh => (hp 3 1 hh).2.1 rfl)]; exact h.2.2.2.1, fun j v hv => by rw [hf.2 4 (by omega) (fun hh => (hq 4 hh).2 rfl)]; exact h.2.2.2.2 j v hv⟩
theorem cs_.look (h : cs_ S vs M) (hw : wf_ S) : wp_ (f_X6_lookAnew M) (fun M' => cs_ S vs M' ∧ hl_ S M' ∧ fk_ pk_h (fun _ => False) M M') := by
  obtain ⟨⟨W, pt, ht⟩, hI, hc, hr⟩ := h
  refine wp_mo (c_look ht hI hw hc) (fun M' hM => ?_)
  obtain ⟨W', pt', z1, z2, z3, z4⟩ := hM
  refine ⟨⟨⟨W', pt', z1⟩, z2, z4.hc, ?_, ?_⟩, z4, z3⟩
  · rw [z3.1 3 1 (by omega) (by omega) (by simp [pk_h])]; exact hr.1
  · intro j v hv; rw [z3.2 4 (by omega) id]; exact hr.2 j v hv
/-! the ROW -/
def pk_r (a _b : Nat) : Prop := a = 3
theorem pk_r_pc (hw : wf_ S) {a b : Nat} (h : pk_r a b) : ¬ pc_ S a b := by
  have h6 := hw.laws
  have h16 := hw.signs
  unfold pk_r at h
  unfold pc_
  omega
theorem cs_.row (h : cs_ S vs M) (hw : wf_ S) {M' : mm_M} {vs' : List Nat} (hf : fk_ pk_r (fun a => a = 4) M M') (ht : ∀ W pt, tc_ S M W pt → tc_ S M' W pt) (hr : rc_ vs' M') : cs_ S vs' M' := by
  obtain ⟨⟨W, pt, ht0⟩, hI, hc, -⟩ := h
  refine ⟨⟨W, pt, ht W pt ht0⟩, hf.ic hw hI (fun a b hab => pk_r_pc hw hab) (by omega), ?_, hr⟩
  intro s hs hd q hq
  rw [hf.1 19 6 (by omega) (by omega) (by simp [pk_r])] at hd
  rw [hf.1 21 q (by omega) (by omega) (by simp [pk_r])]
  exact hc s hs hd q hq
theorem clr_tc {W : Nat} {pt : Nat → List Nat} (ht : tc_ S M W pt) : tc_ S (f_X4_clear M) W pt := ht.si (k := 3) (by omega) (by omega)
theorem clr_fk : fk_ pk_r (fun a => a = 4) M (f_X4_clear M) := fk_si (k := 3) rfl
theorem cs_.clear (h : cs_ S vs M) (hw : wf_ S) : cs_ S [] (f_X4_clear M) :=
  h.row hw clr_fk (fun _ _ ht => clr_tc ht) ⟨by show (mm_si M 3 1 0).1 3 1 = _; rw [si_1, if_pos ⟨rfl, rfl⟩]; rfl, fun j v hv => by simp at hv⟩
theorem cs_.add (h : cs_ S vs M) (hw : wf_ S) (hl : vs.length < 24) (x : Nat) : wp_ (f_X4_add (Int64.ofNat x) M) (fun M' => cs_ S (vs ++ [x]) M' ∧ fk_ pk_r (fun a => a = 4) M M' ∧ ∀ W pt, tc_ S M W pt → tc_ S M' W pt) := by
  unfold f_X4_add
  rw [h.2.2.2.1, if_neg (by show ¬ (Int32.ofNat 24 ≤ _); rw [n3_le (by omega) (by omega)]; omega)]
  refine wp_ck ((n3_ix (by omega)).mpr hl) (wp_sr (wp_sr (wp_some ?_)))
  rw [n3_tn (by omega), sl_1, h.2.2.2.1]
  have hf : fk_ pk_r (fun a => a = 4) M (mm_si (mm_sl M 4 vs.length (Int64.ofNat x)) 3 1 (Int32.ofNat vs.length + 1)) := fk_.trans (fk_sl rfl) (fk_si rfl)
  have ht : ∀ W pt, tc_ S M W pt → tc_ S (mm_si (mm_sl M 4 vs.length (Int64.ofNat x)) 3 1 (Int32.ofNat vs.length + 1)) W pt := fun W pt ht => (ht.sl (by omega)).si (by omega) (by omega)
  refine ⟨h.row hw hf ht ⟨?_, ?_⟩, hf, ht⟩
  · rw [si_1, if_pos ⟨rfl, rfl⟩]
    show Int32.ofNat _ + Int32.ofNat 1 = _
    rw [n3_add]; simp
  · intro j w hj
    rw [si_2, sl_2]
    by_cases c : j = vs.length
    · rw [if_pos ⟨rfl, c⟩]
      rw [c] at hj; simp at hj; rw [hj]
    · rw [if_neg (by simp [c])]
      have := lt_of_some hj
      simp at this
      rw [List.getElem?_append_left (by omega)] at hj
      exact h.2.2.2.2 j w hj
end TB1
/-! fractions in the class -/
theorem c_shared_l : ∀ (k a b n i : Nat), b < 2 ^ k → 2 * k + 1 ≤ n → i + 2 * k < 200 → a < 9223372036854775808 → b < 9223372036854775808 → f_X4_sharedDivisor_9l n (Int64.ofNat a) (Int64.ofNat b) (Int32.ofNat i) = some (Int64.ofNat (Nat.gcd a b)) := by
  intro k
  have base : ∀ (a m i : Nat), f_X4_sharedDivisor_9l (m + 1) (Int64.ofNat a) (Int64.ofNat 0) (Int32.ofNat i) = some (Int64.ofNat a) := by
    intro a m i
    unfold f_X4_sharedDivisor_9l f_X4_sharedDivisor_9
    by_cases c : (200 : Int32) ≤ Int32.ofNat i
    · rw [if_pos c]
    · rw [if_neg c, if_pos (by rfl)]
  have step : ∀ (a b m i : Nat), 0 < b → i < 200 → a < 9223372036854775808 → b < 9223372036854775808 → f_X4_sharedDivisor_9l (m + 1) (Int64.ofNat a) (Int64.ofNat b) (Int32.ofNat i) = f_X4_sharedDivisor_9l m (Int64.ofNat b) (Int64.ofNat (a % b)) (Int32.ofNat (i + 1)) := by
    intro a b m i hb hi h1 h2
    have hz : ¬ (Int64.ofNat b = 0) := by rw [n6_nz h2]; omega
    have e1 : Int32.ofNat i + 1 = Int32.ofNat (i + 1) := n3_add i 1
    conv => lhs; unfold f_X4_sharedDivisor_9l f_X4_sharedDivisor_9
    rw [if_neg (by show ¬ (Int32.ofNat 200 ≤ _); rw [n3_le (by omega) (by omega)]; omega), if_neg hz, if_pos hz, n6_mod h1 h2, sq_n, sq_n, e1]
  induction k with
  | zero =>
    intro a b n i hb hn hi ha hb2
    obtain ⟨m, rfl⟩ : ∃ m, n = m + 1 := ⟨n - 1, by omega⟩
    have : b = 0 := by simp at hb; exact hb
    subst this
    rw [base a m i, Nat.gcd_zero_right]
  | succ k ih =>
    intro a b n i hb hn hi ha hb2
    obtain ⟨m, rfl⟩ : ∃ m, n = m + 1 := ⟨n - 1, by omega⟩
    by_cases c : b = 0
    · subst c; rw [base a m i, Nat.gcd_zero_right]
    · have hl := Nat.mod_lt a (show 0 < b by omega)
      rw [step a b m i (by omega) (by omega) ha hb2, Nat.gcd_comm a b, Nat.gcd_rec b a, Nat.gcd_comm (a % b) b]
      obtain ⟨m', rfl⟩ : ∃ m', m = m' + 1 := ⟨m - 1, by omega⟩
      rcases gcd_step (a := a) (show 0 < b by omega) with h | h
      · by_cases c2 : a % b = 0
        · rw [c2, base b m' (i + 1), Nat.gcd_zero_right]
        · have hl2 := Nat.mod_lt b (show 0 < a % b by omega)
          rw [step b (a % b) m' (i + 1) (by omega) (by omega) hb2 (by omega), Nat.gcd_comm b (a % b), Nat.gcd_rec (a % b) b, Nat.gcd_comm (b % (a % b)) (a % b)]
          have hp : 2 ^ (k + 1) = 2 * 2 ^ k := by rw [Nat.pow_succ]; omega
          exact ih (a % b) (b % (a % b)) m' (i + 1 + 1) (by omega) (by omega) (by omega) (by omega) (by omega)
      · rw [h, base b m' (i + 1), Nat.gcd_zero_right]
theorem c_shared {a b : Nat} (ha : a < 9223372036854775808) (hb : b < 9223372036854775808) : f_X4_sharedDivisor (Int64.ofNat a) (Int64.ofNat b) = some (Int64.ofNat (Nat.gcd a b)) :=
  c_shared_l 63 a b fu_ 0 (by omega) (by unfold fu_; omega) (by omega) ha hb
theorem cs_.frac {S : sg_} {M : mm_M} {vs : List Nat} (h : cs_ S vs M) (hw : wf_ S) (hl : vs.length < 20) {a b : Nat} (ha : a < 9223372036854775808) (hb : b < 9223372036854775808) (h0 : 0 < b) :
    wp_ (f_X4_addFraction (Int64.ofNat a) (Int64.ofNat b) M) (fun M' => cs_ S (vs ++ [a / Nat.gcd a b, b / Nat.gcd a b]) M' ∧ fk_ pk_r (fun a => a = 4) M M' ∧ ∀ W pt, tc_ S M W pt → tc_ S M' W pt) := by
  have hg : 0 < Nat.gcd a b := Nat.gcd_pos_of_pos_right a h0
  have hg2 : Nat.gcd a b ≤ b := Nat.gcd_le_right a h0
  have hz : ¬ (Int64.ofNat (Nat.gcd a b) = 0) := by rw [n6_nz (by omega)]; omega
  unfold f_X4_addFraction
  refine wp_be (c_shared ha hb) ?_
  rw [if_neg (by show ¬ (_ ≤ Int64.ofNat 0); rw [n6_le (by omega) (by omega)]; omega)]
  refine wp_ck hz ?_
  rw [n6_div ha (by omega)]
  refine wp_bd (wp_mo (h.add hw (by omega) _) (fun z hz1 => wp_ck hz ?_))
  rw [n6_div hb (by omega)]
  refine wp_bd (wp_mo (hz1.1.add hw (by simp; omega) _) (fun z2 hz2 => wp_some ⟨?_, hz1.2.1.trans hz2.2.1, fun W pt ht => hz2.2.2 W pt (hz1.2.2 W pt ht)⟩))
  have := hz2.1
  rw [List.append_assoc] at this
  exact this
theorem gcd_lt {a b : Nat} (ha : a < 9223372036854775808) (hb : b < 9223372036854775808) : a / Nat.gcd a b < 9223372036854775808 ∧ b / Nat.gcd a b < 9223372036854775808 := by
  have h1 := Nat.div_le_self a (Nat.gcd a b)
  have h2 := Nat.div_le_self b (Nat.gcd a b)
  omega
