/-! CALLS: wrong, blunder, shows; how many bits -/
def po_ (a : Nat) : Nat := nb_ (fun i => a.testBit i) 16
def p1_ (a : Nat) : Nat := a - ((a / 2) &&& 1431655765)
def p2_ (a : Nat) : Nat := (a &&& 858993459) + ((a / 4) &&& 858993459)
def p3_ (a : Nat) : Nat := (a + a / 16) &&& 252645135
def p4_ (a : Nat) : Nat := a + a / 256
def p5_ (a : Nat) : Nat := a + a / 65536
theorem an_sp {x m y m' : Nat} (hx : x < 256) (hm : m < 256) : (x + 256 * y) &&& (m + 256 * m') = (x &&& m) + 256 * (y &&& m') := by
  have h1 : x &&& m < 2 ^ 8 := Nat.and_lt_two_pow x hm
  apply Nat.eq_of_testBit_eq
  intro j
  rw [Nat.testBit_and, show x + 256 * y = 2 ^ 8 * y + x from by omega, show m + 256 * m' = 2 ^ 8 * m' + m from by omega, show (x &&& m) + 256 * (y &&& m') = 2 ^ 8 * (y &&& m') + (x &&& m) from by omega, Nat.testBit_two_pow_mul_add _ hx, Nat.testBit_two_pow_mul_add _ hm, Nat.testBit_two_pow_mul_add _ h1]
  split
  · rw [Nat.testBit_and]
  · rw [Nat.testBit_and]
theorem an_0 {y m m' : Nat} (hy : y < 256) (hm : m < 256) : y &&& (m + 256 * m') = y &&& m := by
  have := an_sp (x := y) (y := 0) (m' := m') hy hm
  rw [Nat.mul_zero, Nat.add_zero, Nat.zero_and, Nat.mul_zero, Nat.add_zero] at this
  exact this
theorem an_1 : ∀ u, u < 128 → ∀ v, v < 2 → (u + 128 * v) &&& 85 = u &&& 85 := by decide +kernel
theorem an_2 : ∀ u, u < 64 → ∀ v, v < 4 → (u + 64 * v) &&& 51 = u &&& 51 := by decide +kernel
def q1_ (x : Nat) : Nat := x - ((x / 2) &&& 85)
def q2_ (x : Nat) : Nat := (x &&& 51) + ((x / 4) &&& 51)
def q3_ (x : Nat) : Nat := (x + x / 16) % 16
theorem q_fin : ∀ x, x < 256 → (x / 2) &&& 85 ≤ x ∧ q1_ x < 256 ∧ q2_ (q1_ x) ≤ 68 ∧ q2_ (q1_ x) % 16 ≤ 4 ∧ q3_ (q2_ (q1_ x)) = nb_ (fun i => x.testBit i) 8 ∧ q3_ (q2_ (q1_ x)) ≤ 8 := by decide +kernel
theorem nb_add {f : Nat → Bool} (n : Nat) : ∀ m, nb_ f (n + m) = nb_ f n + nb_ (fun i => f (n + i)) m := by
  intro m
  induction m with
  | zero => rfl
  | succ m ih =>
    show nb_ f (n + m) + (if f (n + m) = true then 1 else 0) = nb_ f n + (nb_ (fun i => f (n + i)) m + (if f (n + m) = true then 1 else 0))
    rw [ih]; omega
theorem p_key : ∀ u, u < 9 → ∀ v, v < 9 → (u + 256 * v + (u + 256 * v) / 256 + (u + 256 * v + (u + 256 * v) / 256) / 65536) % 64 = u + v := by decide +kernel
theorem p_all {x y : Nat} (hx : x < 256) (hy : y < 256) : ((x + 256 * y) / 2) &&& 1431655765 ≤ x + 256 * y ∧ p1_ (x + 256 * y) < 65536 ∧ p2_ (p1_ (x + 256 * y)) < 65536 ∧ p3_ (p2_ (p1_ (x + 256 * y))) < 65536 ∧ p4_ (p3_ (p2_ (p1_ (x + 256 * y)))) < 65536 ∧ p5_ (p4_ (p3_ (p2_ (p1_ (x + 256 * y))))) % 64 = po_ (x + 256 * y) := by
  obtain ⟨a1, a2, a3, a4, a5, a6⟩ := q_fin x hx
  obtain ⟨b1, b2, b3, b4, b5, b6⟩ := q_fin y hy
  have s1 : ((x + 256 * y) / 2) &&& 1431655765 = ((x / 2) &&& 85) + 256 * ((y / 2) &&& 85) := by
    rw [show (x + 256 * y) / 2 = (x / 2 + 128 * (y % 2)) + 256 * (y / 2) from by omega, show 1431655765 = 85 + 256 * (85 + 256 * 21845) from rfl, an_sp (by omega) (by omega), an_1 (x / 2) (by omega) (y % 2) (by omega), an_0 (by omega) (by omega)]
  have e1 : p1_ (x + 256 * y) = q1_ x + 256 * q1_ y := by
    unfold p1_ q1_
    rw [s1]; omega
  have e2 : p2_ (q1_ x + 256 * q1_ y) = q2_ (q1_ x) + 256 * q2_ (q1_ y) := by
    unfold p2_
    have s2 : (q1_ x + 256 * q1_ y) &&& 858993459 = (q1_ x &&& 51) + 256 * (q1_ y &&& 51) := by
      rw [show 858993459 = 51 + 256 * (51 + 256 * 13107) from rfl, an_sp a2 (by omega), an_0 b2 (by omega)]
    have s3 : ((q1_ x + 256 * q1_ y) / 4) &&& 858993459 = ((q1_ x / 4) &&& 51) + 256 * ((q1_ y / 4) &&& 51) := by
      rw [show (q1_ x + 256 * q1_ y) / 4 = (q1_ x / 4 + 64 * (q1_ y % 4)) + 256 * (q1_ y / 4) from by omega, show 858993459 = 51 + 256 * (51 + 256 * 13107) from rfl, an_sp (by omega) (by omega), an_2 (q1_ x / 4) (by omega) (q1_ y % 4) (by omega), an_0 (by omega) (by omega)]
    rw [s2, s3]
    unfold q2_; omega
  have e3 : p3_ (q2_ (q1_ x) + 256 * q2_ (q1_ y)) = q3_ (q2_ (q1_ x)) + 256 * q3_ (q2_ (q1_ y)) := by
    unfold p3_ q3_
    generalize q2_ (q1_ x) = u at a3 a4
    generalize q2_ (q1_ y) = v at b3 b4
    rw [show (u + 256 * v) + (u + 256 * v) / 16 = (u + u / 16 + 16 * (v % 16)) + 256 * (v + v / 16) from by omega, show 252645135 = 15 + 256 * (15 + 256 * 3855) from rfl, an_sp (by omega) (by omega), an_0 (by omega) (by omega), show (15 : Nat) = 2 ^ 4 - 1 from rfl, nt_and, nt_and]
    omega
  rw [e1, e2, e3]
  refine ⟨?_, ?_, ?_, ?_, ?_, ?_⟩
  · rw [s1]; omega
  · omega
  · omega
  · omega
  · unfold p4_; omega
  · have hp : po_ (x + 256 * y) = nb_ (fun i => x.testBit i) 8 + nb_ (fun i => y.testBit i) 8 := by
      unfold po_
      rw [show 16 = 8 + 8 from rfl, nb_add]
      have hxy : x + 256 * y = 2 ^ 8 * y + x := by omega
      rw [hxy]
      congr 1
      · apply nb_cg; intro i hi
        rw [Nat.testBit_two_pow_mul_add _ hx, if_pos hi]
      · apply nb_cg; intro i hi
        rw [Nat.testBit_two_pow_mul_add _ hx, if_neg (by omega), Nat.add_sub_cancel_left]
    rw [hp, ← a5, ← b5]
    exact p_key _ (by omega) _ (by omega)
theorem n3_usr {a s : Nat} (ha : a < 2147483648) (hs : s < 32) : ((Int32.ofNat a).toUInt32 >>> ((Int32.ofNat s).toUInt32 &&& Int32.toUInt32 31)).toInt32 = Int32.ofNat (a / 2 ^ s) := by
  have e1 : (Int32.ofNat s).toUInt32 &&& Int32.toUInt32 31 = UInt32.ofNat s := by
    apply UInt32.toNat.inj
    show (UInt32.ofNat s &&& UInt32.ofNat 31).toNat = _
    rw [UInt32.toNat_and, UInt32.toNat_ofNat', UInt32.toNat_ofNat', Nat.mod_eq_of_lt (show s < 2 ^ 32 by omega)]
    show s &&& (2 ^ 5 - 1) = s
    rw [Nat.and_two_pow_sub_one_eq_mod]; omega
  rw [e1]
  have e2 : (Int32.ofNat a).toUInt32 >>> UInt32.ofNat s = UInt32.ofNat (a / 2 ^ s) := by
    apply UInt32.toNat.inj
    have := Nat.div_le_self a (2 ^ s)
    show (UInt32.ofNat a >>> UInt32.ofNat s).toNat = _
    rw [UInt32.toNat_shiftRight, UInt32.toNat_ofNat', UInt32.toNat_ofNat', UInt32.toNat_ofNat', Nat.mod_eq_of_lt (show s < 2 ^ 32 by omega), Nat.mod_eq_of_lt (show s < 32 by omega), Nat.mod_eq_of_lt (show a < 2 ^ 32 by omega), Nat.shiftRight_eq_div_pow, Nat.mod_eq_of_lt (by omega)]
  rw [e2]; rfl
theorem bc_nat {a : Nat} (ha : a < 65536) : f_J6_bitCount_0f7a4 (Int32.ofNat a) = Int32.ofNat (po_ a) := by
  obtain ⟨q1, q2, q3, q4, q5, q6⟩ := p_all (x := a % 256) (y := a / 256) (by omega) (by omega)
  rw [show a % 256 + 256 * (a / 256) = a from by omega] at q1 q2 q3 q4 q5 q6
  unfold f_J6_bitCount_0f7a4
  rw [sq_n, sq_n, sq_n, sq_n, sq_n]
  have e1 : Int32.ofNat a - (((Int32.ofNat a).toUInt32 >>> ((1 : Int32).toUInt32 &&& Int32.toUInt32 31)).toInt32 &&& 1431655765) = Int32.ofNat (p1_ a) := by
    rw [show (1 : Int32) = Int32.ofNat 1 from rfl, n3_usr (by omega) (by omega), show (1431655765 : Int32) = Int32.ofNat 1431655765 from rfl, n3_and, n3_sub q1]; rfl
  rw [e1]
  have e2 : (Int32.ofNat (p1_ a) &&& 858993459) + (((Int32.ofNat (p1_ a)).toUInt32 >>> ((2 : Int32).toUInt32 &&& Int32.toUInt32 31)).toInt32 &&& 858993459) = Int32.ofNat (p2_ (p1_ a)) := by
    rw [show (2 : Int32) = Int32.ofNat 2 from rfl, n3_usr (by omega) (by omega), show (858993459 : Int32) = Int32.ofNat 858993459 from rfl, n3_and, n3_and, n3_add]; rfl
  rw [e2]
  have e3 : (Int32.ofNat (p2_ (p1_ a)) + ((Int32.ofNat (p2_ (p1_ a))).toUInt32 >>> ((4 : Int32).toUInt32 &&& Int32.toUInt32 31)).toInt32) &&& 252645135 = Int32.ofNat (p3_ (p2_ (p1_ a))) := by
    rw [show (4 : Int32) = Int32.ofNat 4 from rfl, n3_usr (by omega) (by omega), show (252645135 : Int32) = Int32.ofNat 252645135 from rfl, n3_add, n3_and]; rfl
  rw [e3]
  have e4 : Int32.ofNat (p3_ (p2_ (p1_ a))) + ((Int32.ofNat (p3_ (p2_ (p1_ a)))).toUInt32 >>> ((8 : Int32).toUInt32 &&& Int32.toUInt32 31)).toInt32 = Int32.ofNat (p4_ (p3_ (p2_ (p1_ a)))) := by
    rw [show (8 : Int32) = Int32.ofNat 8 from rfl, n3_usr (by omega) (by omega), n3_add]; rfl
  rw [e4]
  have e5 : Int32.ofNat (p4_ (p3_ (p2_ (p1_ a)))) + ((Int32.ofNat (p4_ (p3_ (p2_ (p1_ a))))).toUInt32 >>> ((16 : Int32).toUInt32 &&& Int32.toUInt32 31)).toInt32 = Int32.ofNat (p5_ (p4_ (p3_ (p2_ (p1_ a))))) := by
    rw [show (16 : Int32) = Int32.ofNat 16 from rfl, n3_usr (by omega) (by omega), n3_add]; rfl
  rw [e5]
  show _ &&& Int32.ofNat (2 ^ 6 - 1) = _
  rw [n3_md _ _ (by omega)]
  show Int32.ofNat (p5_ (p4_ (p3_ (p2_ (p1_ a)))) % 64) = _
  rw [q6]
theorem nb_0 {f : Nat → Bool} {k : Nat} : ∀ n, (∀ i, k ≤ i → f i = false) → k ≤ n → nb_ f n = nb_ f k := by
  intro n
  induction n with
  | zero => intro _ h; rw [show k = 0 from by omega]
  | succ n ih =>
    intro hf hk
    by_cases c : k = n + 1
    · rw [c]
    · show nb_ f n + _ = _
      rw [hf n (by omega), if_neg (by decide), Nat.add_zero, ih hf (by omega)]
theorem bc_mk {f : Nat → Bool} {n : Nat} (hn : n ≤ 16) : f_J6_bitCount_0f7a4 (mk_b f n) = Int32.ofNat (nb_ f n) := by
  have h1 := mn_lt (f := f) n
  have h2 : 2 ^ n ≤ 2 ^ 16 := Nat.pow_le_pow_right (n := 2) (by omega) hn
  rw [mk_mn n (by omega), bc_nat (by omega)]
  congr 1
  unfold po_
  have hb : ∀ i, i < 32 → (mn_ f n).testBit i = (decide (i < n) && f i) := by
    intro i hi
    rw [← mk_ib n (by omega) i hi, mk_mn n (by omega), ib_nat2 hi]
  rw [nb_cg 16 (g := fun i => decide (i < n) && f i) (fun i hi => hb i (by omega)), nb_0 (k := n) 16 (fun i hi => by rw [decide_eq_false (by omega)]; rfl) hn]
  exact nb_cg n (fun i hi => by rw [decide_eq_true hi]; rfl)
theorem hs_pos {S : sg_} (hw : wf_ S) : 1 ≤ hs_ S := by
  unfold hs_
  have : ∀ n, n ≤ S 0 11 → 1 ≤ hn_ S n := by
    intro n
    induction n with
    | zero => intro _; exact Nat.le_refl _
    | succ n ih =>
      intro hn
      have h1 := ih (by omega)
      have h2 := (hw.yr n (by omega)).1
      exact Nat.mul_le_mul h1 h2
  exact this _ (Nat.le_refl _)
section UH1
variable {S : sg_} {M Mc Mr : mm_M} {vs : List Nat} {nv : Nat → Bool} {W : Nat} {pt : Nat → List Nat}
/-! wrong -/
/-- the first history below k with the fewest signs that fail; none is 0 -/
def wf2_ (S : sg_) : Nat → Nat
  | 0 => 0
  | k + 1 => if k = 0 then 0 else if f_J6_bitCount_0f7a4 (wr_ S no_ (wf2_ S k)) ≤ f_J6_bitCount_0f7a4 (wr_ S no_ k) then wf2_ S k else k
theorem wf2_lt : ∀ k, 1 ≤ k → wf2_ S k < k := by
  intro k
  induction k with
  | zero => intro h; omega
  | succ k ih =>
    intro _
    unfold wf2_
    split
    · omega
    · have := ih (by omega)
      split <;> omega
theorem wr_nat (hw : wf_ S) (h : Nat) : ∃ m, wr_ S nv h = Int32.ofNat m ∧ m < 65536 := by
  have h16 := hw.signs
  refine ⟨_, mk_mn _ (by omega), ?_⟩
  have h1 := mn_lt (f := fun s => decide (S 26 s = 1) && !ho_n S nv s h) (S 0 28)
  have h2 : 2 ^ S 0 28 ≤ 2 ^ 16 := Nat.pow_le_pow_right (n := 2) (by omega) h16
  omega
theorem k_wrong_l (hw : wf_ S) (h : cs_ S vs M) (hk : hl_ S M) : ∀ (e k n : Nat), k + e = hs_ S → 1 ≤ k → e < n →
    wp_ (f_X11_wrong_11l n (Int32.ofNat (wf2_ S k)) (Int32.ofNat k) M) (fun z => z.1 = f_J6_bitCount_0f7a4 (wr_ S no_ (wf2_ S (hs_ S))) ∧ cs_ S [wf2_ S (hs_ S), (wr_ S no_ (wf2_ S (hs_ S))).toNatClampNeg] z.2) := by
  have h600 := hw.hist
  intro e
  induction e with
  | zero =>
    intro k n hk2 h1 hn
    obtain ⟨m, rfl⟩ : ∃ m, n = m + 1 := ⟨n - 1, by omega⟩
    have hkk : k = hs_ S := by omega
    have hlt := wf2_lt (S := S) (hs_ S) (by omega)
    unfold f_X11_wrong_11l f_X11_wrong_11 f_X11_wrong_55
    rw [h.2.1.hs, if_pos ((n3_le (by omega) (by omega)).mpr (by omega)), hkk]
    refine wp_be (c_failBy h.2.1 hw hk hlt) (wp_sr ?_)
    obtain ⟨q, hq, hq2⟩ := wr_nat (nv := no_) hw (wf2_ S (hs_ S))
    rw [hq, n3_6 (by omega), n3_6 (by omega), n3_tn (by omega)]
    refine wp_bd (wp_mo ((h.clear hw).add hw (by simp) _) (fun z hz => ?_))
    refine wp_bd (wp_mo (hz.1.add hw (by simp) _) (fun z2 hz2 => wp_sr (wp_some ⟨rfl, hz2.1⟩)))
  | succ e ih =>
    intro k n hk2 h1 hn
    obtain ⟨m, rfl⟩ : ∃ m, n = m + 1 := ⟨n - 1, by omega⟩
    have e1 : Int32.ofNat k + 1 = Int32.ofNat (k + 1) := n3_add k 1
    have hlt := wf2_lt (S := S) k (by omega)
    have go := ih (k + 1) m (by omega) (by omega) (by omega)
    rw [show wf2_ S (k + 1) = if k = 0 then 0 else if f_J6_bitCount_0f7a4 (wr_ S no_ (wf2_ S k)) ≤ f_J6_bitCount_0f7a4 (wr_ S no_ k) then wf2_ S k else k from rfl, if_neg (by omega)] at go
    unfold f_X11_wrong_11l f_X11_wrong_11 f_X11_wrong_49
    rw [h.2.1.hs, if_neg (by rw [n3_le (by omega) (by omega)]; omega)]
    refine wp_be (c_failBy h.2.1 hw hk (show k < hs_ S by omega)) (wp_sr (wp_be (c_failBy h.2.1 hw hk (show wf2_ S k < hs_ S by omega)) (wp_sr ?_)))
    rw [e1]
    by_cases c : f_J6_bitCount_0f7a4 (wr_ S no_ (wf2_ S k)) ≤ f_J6_bitCount_0f7a4 (wr_ S no_ k)
    · rw [if_pos c] at go ⊢; exact wp_sr go
    · rw [if_neg c] at go ⊢; exact wp_sr go
theorem q_wrong_l (hw : wf_ S) : ∀ (e k n : Nat) (M : mm_M) (x1 x2 : Int32), k + e = hs_ S → e < n → rt_ S no_ vs M → (k = 0 → x1 = -1) → (1 ≤ k → x1 = Int32.ofNat (wf2_ S k) ∧ x2 = wr_ S no_ (wf2_ S k)) →
    wp_ (f_X12_wrong_17l n x1 x2 (Int32.ofNat (hs_ S)) (Int32.ofNat k) M) (fun z => z.1 = f_J6_bitCount_0f7a4 (wr_ S no_ (wf2_ S (hs_ S))) ∧ rt_ S no_ [wf2_ S (hs_ S), (wr_ S no_ (wf2_ S (hs_ S))).toNatClampNeg] z.2) := by
  have h600 := hw.hist
  have h1 := hs_pos hw
  intro e
  induction e with
  | zero =>
    intro k n M x1 x2 hk hn h h0 hx
    obtain ⟨m, rfl⟩ : ∃ m, n = m + 1 := ⟨n - 1, by omega⟩
    have hkk : k = hs_ S := by omega
    have hlt := wf2_lt (S := S) (hs_ S) (by omega)
    obtain ⟨a1, a2⟩ := hx (by omega)
    rw [hkk] at a1 a2
    unfold f_X12_wrong_17l f_X12_wrong_17 f_X12_wrong_59
    rw [if_pos ((n3_le (by omega) (by omega)).mpr (by omega)), a1, a2]
    obtain ⟨q, hq, hq2⟩ := wr_nat (nv := no_) hw (wf2_ S (hs_ S))
    rw [hq, n3_6 (by omega), n3_6 (by omega), n3_tn (by omega)]
    refine wp_sr (wp_bd (wp_mo (r_ent (rr_nil h) (by simp) _) (fun z hz => ?_)))
    refine wp_bd (wp_mo (r_ent hz.1 (by simp) _) (fun z2 hz2 => wp_sr (wp_some ⟨rfl, hz2.1⟩)))
  | succ e ih =>
    intro k n M x1 x2 hk hn h h0 hx
    obtain ⟨m, rfl⟩ : ∃ m, n = m + 1 := ⟨n - 1, by omega⟩
    have e1 : Int32.ofNat k + 1 = Int32.ofNat (k + 1) := n3_add k 1
    unfold f_X12_wrong_17l f_X12_wrong_17 f_X12_wrong_47 f_X12_wrong_53
    rw [if_neg (by rw [n3_le (by omega) (by omega)]; omega)]
    refine wp_bd (wp_mo (r_wr h.1 hw (show k < 2147483648 by omega)) (fun z hz => ?_))
    have hr2 := h.fr2 hz.1
    rw [hz.2, e1]
    by_cases c0 : k = 0
    · rw [if_pos (by rw [h0 c0]; decide)]
      refine wp_sr (ih (k + 1) m z.2 _ _ (by omega) (by omega) hr2 (fun hh => by omega) (fun _ => ?_))
      have : wf2_ S (k + 1) = k := by
        show (if k = 0 then 0 else _) = k
        rw [if_pos c0, c0]
      rw [this]; exact ⟨rfl, rfl⟩
    · obtain ⟨a1, a2⟩ := hx (by omega)
      have hlt := wf2_lt (S := S) k (by omega)
      rw [if_neg (by rw [a1]; intro hn2; exact (n3_neg (by omega)).mp hn2), a2]
      refine wp_sr (wp_sr ?_)
      have hwf : wf2_ S (k + 1) = if f_J6_bitCount_0f7a4 (wr_ S no_ (wf2_ S k)) ≤ f_J6_bitCount_0f7a4 (wr_ S no_ k) then wf2_ S k else k := by
        show (if k = 0 then 0 else _) = _
        rw [if_neg c0]
      by_cases c : f_J6_bitCount_0f7a4 (wr_ S no_ (wf2_ S k)) ≤ f_J6_bitCount_0f7a4 (wr_ S no_ k)
      · rw [if_pos c] at hwf ⊢
        refine wp_sr (ih (k + 1) m z.2 _ _ (by omega) (by omega) hr2 (fun hh => by omega) (fun _ => ?_))
        rw [hwf]; exact ⟨a1, rfl⟩
      · rw [if_neg c] at hwf ⊢
        refine wp_sr (ih (k + 1) m z.2 _ _ (by omega) (by omega) hr2 (fun hh => by omega) (fun _ => ?_))
        rw [hwf]; exact ⟨rfl, rfl⟩
theorem m_wrong (h : rl_ Mc Mr) : bo_ (f_X11_wrong Mc) (f_X12_wrong Mr) := by
  obtain ⟨S, vs, hw, hv, hc, hr⟩ := h
  have hr1 := hr.th
  have h600 := hw.hist
  have h1 := hs_pos hw
  unfold f_X11_wrong f_X12_wrong
  rw [sq_n]
  have hlt := wf2_lt (S := S) (hs_ S) (by omega)
  refine bo_mk hw ?_ ?_ (wp_be (r_hist hr1.1.1 hw) (q_wrong_l hw (hs_ S) 0 fu_ _ (-1) 0 (by omega) (by unfold fu_; omega) hr1 (fun _ => rfl) (fun hh => by omega)))
  · refine ⟨by simp, fun v hv2 => ?_⟩
    have := n3_tl (wr_ S no_ (wf2_ S (hs_ S)))
    simp at hv2
    rcases hv2 with hv2 | hv2 <;> omega
  · refine wp_bd (wp_mo (hc.look hw) (fun z hz => ?_))
    exact k_wrong_l hw hz.1 hz.2.1 (hs_ S - 1) 1 fu_ (by omega) (by omega) (by unfold fu_; omega)
/-! blunder -/
def bl_ (S : sg_) : Nat → Nat → Int32 → Int32
  | 0, _, x => x
  | e + 1, k, x => if wr_ S no_ k = 0 then 0 else bl_ S e (k + 1) (x ||| (if f_J6_bitCount_0f7a4 (wr_ S no_ k) = 1 then wr_ S no_ k else 0))
theorem k_blunder_l (hw : wf_ S) (h : cs_ S vs M) (hk : hl_ S M) : ∀ (e k n : Nat) (x : Int32), k + e = hs_ S → e < n →
    wp_ (f_X11_blunder_11l n x (Int32.ofNat k) M) (fun z => z.1 = bl_ S e k x ∧ cs_ S vs z.2) := by
  have h600 := hw.hist
  intro e
  induction e with
  | zero =>
    intro k n x hk2 hn
    obtain ⟨m, rfl⟩ : ∃ m, n = m + 1 := ⟨n - 1, by omega⟩
    unfold f_X11_blunder_11l f_X11_blunder_11
    rw [h.2.1.hs, if_pos ((n3_le (by omega) (by omega)).mpr (by omega))]
    exact wp_some ⟨rfl, h⟩
  | succ e ih =>
    intro k n x hk2 hn
    obtain ⟨m, rfl⟩ : ∃ m, n = m + 1 := ⟨n - 1, by omega⟩
    have e1 : Int32.ofNat k + 1 = Int32.ofNat (k + 1) := n3_add k 1
    unfold f_X11_blunder_11l f_X11_blunder_11 f_X11_blunder_49 bl_
    rw [h.2.1.hs, if_neg (by rw [n3_le (by omega) (by omega)]; omega)]
    refine wp_be (c_failBy h.2.1 hw hk (show k < hs_ S by omega)) ?_
    by_cases c : wr_ S no_ k = 0
    · rw [if_pos c, if_pos c]; exact wp_some ⟨rfl, h⟩
    · rw [if_neg c, if_neg c]
      refine wp_sr ?_
      by_cases c2 : f_J6_bitCount_0f7a4 (wr_ S no_ k) = 1
      · rw [if_pos c2, if_pos c2]
        refine wp_sr (wp_sr ?_)
        rw [e1]
        exact ih (k + 1) m _ (by omega) (by omega)
      · rw [if_neg c2, if_neg c2]
        refine wp_sr ?_
        rw [e1, Int32.or_zero]
        exact ih (k + 1) m _ (by omega) (by omega)
theorem q_blunder_l (hw : wf_ S) : ∀ (e k n : Nat) (x : Int32) (M : mm_M), k + e = hs_ S → e < n → rt_ S no_ vs M →
    wp_ (f_X12_blunder_14l n x (Int32.ofNat (hs_ S)) (Int32.ofNat k) M) (fun z => z.1 = bl_ S e k x ∧ rt_ S no_ vs z.2) := by
  have h600 := hw.hist
  intro e
  induction e with
  | zero =>
    intro k n x M hk2 hn h
    obtain ⟨m, rfl⟩ : ∃ m, n = m + 1 := ⟨n - 1, by omega⟩
    unfold f_X12_blunder_14l f_X12_blunder_14
    rw [if_pos ((n3_le (by omega) (by omega)).mpr (by omega))]
    exact wp_some ⟨rfl, h⟩
  | succ e ih =>
    intro k n x M hk2 hn h
    obtain ⟨m, rfl⟩ : ∃ m, n = m + 1 := ⟨n - 1, by omega⟩
    have e1 : Int32.ofNat k + 1 = Int32.ofNat (k + 1) := n3_add k 1
    unfold f_X12_blunder_14l f_X12_blunder_14 f_X12_blunder_49 bl_
    rw [if_neg (by rw [n3_le (by omega) (by omega)]; omega)]
    refine wp_bd (wp_mo (r_wr h.1 hw (show k < 2147483648 by omega)) (fun z hz => ?_))
    have hr2 := h.fr2 hz.1
    rw [hz.2]
    by_cases c : wr_ S no_ k = 0
    · rw [if_pos c, if_pos c]; exact wp_some ⟨rfl, hr2⟩
    · rw [if_neg c, if_neg c]
      refine wp_sr ?_
      by_cases c2 : f_J6_bitCount_0f7a4 (wr_ S no_ k) = 1
      · rw [if_pos c2, if_pos c2]
        refine wp_sr (wp_sr ?_)
        rw [e1]
        exact ih (k + 1) m _ z.2 (by omega) (by omega) hr2
      · rw [if_neg c2, if_neg c2]
        refine wp_sr (wp_sr ?_)
        rw [e1]
        exact ih (k + 1) m _ z.2 (by omega) (by omega) hr2
theorem m_blunder (h : rl_ Mc Mr) : bo_ (f_X11_blunder Mc) (f_X12_blunder Mr) := by
  obtain ⟨S, vs, hw, hv, hc, hr⟩ := h
  have hr1 := hr.th
  have h600 := hw.hist
  unfold f_X11_blunder f_X12_blunder
  rw [sq_n]
  refine bo_mk hw hv ?_ (wp_be (r_hist hr1.1.1 hw) (q_blunder_l hw (hs_ S) 0 fu_ 0 _ (by omega) (by unfold fu_; omega) hr1))
  refine wp_bd (wp_mo (hc.look hw) (fun z hz => ?_))
  exact k_blunder_l hw hz.1 hz.2.1 (hs_ S) 0 fu_ 0 (by omega) (by unfold fu_; omega)
/-! shows -/
/-- whether signs (bits) hold by some laws of a history alone -/
theorem c_allAmong_l (hw : wf_ S) {x1 x3 : Int32} {nv : Nat → Bool} {h : Nat} (hh : h < hs_ S) (ham : am_ x3 nv) : ∀ (e k n : Nat) (M : mm_M), k + e = S 0 28 → e < n → cs_ S vs M →
    wp_ (f_X6_allAreSoAmong_3l n x1 (Int32.ofNat h) x3 (Int32.ofNat k) M) (fun z => cs_ S vs z.2 ∧ fc_ M z.2 ∧ ∃ b, z.1 = bi_ b ∧ (b = true ↔ ∀ s, k ≤ s → s < S 0 28 → ib_ x1 s = true → ho_n S nv s h = true)) := by
  have h16 := hw.signs
  intro e
  induction e with
  | zero =>
    intro k n M hk hn hc
    obtain ⟨m, rfl⟩ : ∃ m, n = m + 1 := ⟨n - 1, by omega⟩
    unfold f_X6_allAreSoAmong_3l f_X6_allAreSoAmong_3
    rw [hc.2.1.told, if_pos ((n3_le (by omega) (by omega)).mpr (by omega))]
    exact wp_some ⟨hc, fc_.refl, true, rfl, fun _ s h1 h2 => by omega, fun _ => rfl⟩
  | succ e ih =>
    intro k n M hk hn hc
    obtain ⟨m, rfl⟩ : ∃ m, n = m + 1 := ⟨n - 1, by omega⟩
    have hks : k < S 0 28 := by omega
    have e1 : Int32.ofNat k + 1 = Int32.ofNat (k + 1) := n3_add k 1
    unfold f_X6_allAreSoAmong_3l f_X6_allAreSoAmong_3 f_X6_allAreSoAmong_82
    rw [hc.2.1.told, if_neg (by rw [n3_le (by omega) (by omega)]; omega), ib_bit (by omega)]
    cases hb : ib_ x1 k with
    | false =>
      rw [if_pos (by decide)]
      refine wp_sr ?_
      rw [e1]
      refine wp_mo (ih (k + 1) m M (by omega) (by omega) hc) (fun r hr => ⟨hr.1, hr.2.1, ?_⟩)
      obtain ⟨b, b1, b2⟩ := hr.2.2
      refine ⟨b, b1, b2.trans ⟨fun hall s h1 h2 h3 => ?_, fun hall s h1 h2 h3 => hall s (by omega) h2 h3⟩⟩
      by_cases hsk : s = k
      · rw [hsk, hb] at h3; cases h3
      · exact hall s (by omega) h2 h3
    | true =>
      rw [if_neg (by decide)]
      obtain ⟨-, -, -, -, -, a6, a7, -⟩ := hc.2.1.sg k hks
      have hpl := hw.pl k hks
      have hyr := hw.year k hks
      have hix : ix_ok (Int32.ofNat k) 16 := (n3_ix (by omega)).mpr (by omega)
      have et : (Int32.ofNat k).toNatClampNeg = k := n3_tn (by omega)
      refine wp_ck hix (wp_ck hix ?_)
      simp only [et, a6, a7]
      refine wp_ck ((n3_ix (by omega)).mpr (by omega)) (wp_sr (wp_ck hix ?_))
      rw [n3_tn (by omega), hc.2.1.lag _ hpl]
      obtain ⟨⟨W, pt, ht⟩, hI, -⟩ := id hc
      refine wp_bd (wp_mo (c_among ht hI hw hh (yb_sub (y := S 21 k) (by omega) (hw.lag _ hpl)) ham) (fun z hz => ?_))
      obtain ⟨W1, pt1, dd, z1, z2, z3, z4, z5, z6⟩ := hz
      have hc1 := hc.fc hw z5 z6
      unfold f_X6_allAreSoAmong_70
      rw [z1]
      refine wp_be (c_soS z6 hc1.2.1 hw hks z2 z3) ?_
      cases hho : ho_n S nv k h with
      | false =>
        rw [if_pos (by decide)]
        refine wp_some ⟨hc1, z5, false, rfl, fun hf => (by cases hf), fun hall => ?_⟩
        have := hall k (Nat.le_refl _) hks hb
        rw [hho] at this; exact this
      | true =>
        rw [if_neg (by decide)]
        unfold f_X6_allAreSoAmong_82
        refine wp_sr ?_
        rw [e1]
        refine wp_mo (ih (k + 1) m z.2 (by omega) (by omega) hc1) (fun r hr => ⟨hr.1, z5.trans hr.2.1, ?_⟩)
        obtain ⟨b, b1, b2⟩ := hr.2.2
        refine ⟨b, b1, b2.trans ⟨fun hall s h1 h2 h3 => ?_, fun hall s h1 h2 h3 => hall s (by omega) h2 h3⟩⟩
        by_cases hsk : s = k
        · rw [hsk]; exact hho
        · exact hall s (by omega) h2 h3
theorem c_allAmong (hw : wf_ S) (hc : cs_ S vs M) {x1 x3 : Int32} {nv : Nat → Bool} {h : Nat} (hh : h < hs_ S) (ham : am_ x3 nv) :
    wp_ (f_X6_allAreSoAmong x1 (Int32.ofNat h) x3 M) (fun z => cs_ S vs z.2 ∧ fc_ M z.2 ∧ ∃ b, z.1 = bi_ b ∧ (b = true ↔ ∀ s, s < S 0 28 → ib_ x1 s = true → ho_n S nv s h = true)) := by
  have h16 := hw.signs
  unfold f_X6_allAreSoAmong
  refine wp_mo (c_allAmong_l hw hh ham (S 0 28) 0 fu_ M (by omega) (by unfold fu_; omega) hc) (fun r hr => ⟨hr.1, hr.2.1, ?_⟩)
  obtain ⟨b, b1, b2⟩ := hr.2.2
  exact ⟨b, b1, b2.trans ⟨fun hall s h1 h2 => hall s (by omega) h1 h2, fun hall s _ h1 h2 => hall s h1 h2⟩⟩
end UH1
