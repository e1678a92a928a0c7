/-! CALLS: least -/
section WH1
variable {S : sg_} {M Mc Mr : mm_M} {vs : List Nat}
def lsq_ (S : sg_) : Nat → Option (Nat × Nat)
  | 0 => none
  | k + 1 => match lsq_ S k with
    | none => (lef_ S k).map (fun h => (k, h))
    | some q => if po_ k < po_ q.1 then (match lef_ S k with
      | none => some q
      | some h => some (k, h)) else some q
theorem lsq_0 {k : Nat} (h : lsq_ S k = none) : lsq_ S (k + 1) = (lef_ S k).map (fun h => (k, h)) := by
  conv => lhs; unfold lsq_
  rw [h]
theorem lsq_1 {k : Nat} {q : Nat × Nat} (h : lsq_ S k = some q) (hp : ¬ (po_ k < po_ q.1)) : lsq_ S (k + 1) = some q := by
  conv => lhs; unfold lsq_
  rw [h]
  show (if po_ k < po_ q.1 then _ else _) = _
  rw [if_neg hp]
theorem lsq_2 {k : Nat} {q : Nat × Nat} (h : lsq_ S k = some q) (hn : lef_ S k = none) : lsq_ S (k + 1) = some q := by
  conv => lhs; unfold lsq_
  rw [h, hn]
  show (if po_ k < po_ q.1 then _ else _) = _
  split <;> rfl
theorem lsq_3 {k h' : Nat} {q : Nat × Nat} (h : lsq_ S k = some q) (hp : po_ k < po_ q.1) (hn : lef_ S k = some h') : lsq_ S (k + 1) = some (k, h') := by
  conv => lhs; unfold lsq_
  rw [h, hn]
  show (if po_ k < po_ q.1 then _ else _) = _
  rw [if_pos hp]
theorem lsq_n : ∀ k, lsq_ S k = none → ∀ i, i < k → lef_ S i = none := by
  intro k
  induction k with
  | zero => intro _ i hi; omega
  | succ k ih =>
    intro h i hi
    cases hq : lsq_ S k with
    | none =>
      rw [lsq_0 hq] at h
      by_cases c : i = k
      · rw [c]
        cases hl : lef_ S k with
        | none => rfl
        | some x => rw [hl] at h; cases h
      · exact ih hq i (by omega)
    | some q =>
      exfalso
      by_cases c : po_ k < po_ q.1
      · cases hl : lef_ S k with
        | none => rw [lsq_2 hq hl] at h; cases h
        | some x => rw [lsq_3 hq c hl] at h; cases h
      · rw [lsq_1 hq c] at h; cases h
theorem lsq_s : ∀ k q, lsq_ S k = some q → q.1 < k ∧ lef_ S q.1 = some q.2 ∧ ∀ i, i < k → lef_ S i ≠ none → po_ q.1 < po_ i ∨ (po_ q.1 = po_ i ∧ q.1 ≤ i) := by
  intro k
  induction k with
  | zero => intro q h; cases h
  | succ k ih =>
    intro q h
    cases hq : lsq_ S k with
    | none =>
      rw [lsq_0 hq] at h
      cases hl : lef_ S k with
      | none => rw [hl] at h; cases h
      | some x =>
        rw [hl] at h
        have h2 : (k, x) = q := Option.some.inj h
        rw [← h2]
        refine ⟨by show k < k + 1; omega, hl, fun i hi hne => ?_⟩
        by_cases c : i = k
        · rw [c]; exact Or.inr ⟨rfl, Nat.le_refl _⟩
        · exact absurd (lsq_n k hq i (by omega)) hne
    | some r =>
      obtain ⟨r1, r2, r3⟩ := ih r hq
      have keep : lsq_ S (k + 1) = some r → (lef_ S k = none ∨ ¬ (po_ k < po_ r.1)) → q.1 < k + 1 ∧ lef_ S q.1 = some q.2 ∧ ∀ i, i < k + 1 → lef_ S i ≠ none → po_ q.1 < po_ i ∨ (po_ q.1 = po_ i ∧ q.1 ≤ i) := by
        intro h2 h3
        rw [h2] at h
        have h4 : r = q := Option.some.inj h
        rw [← h4]
        refine ⟨by omega, r2, fun i hi hne => ?_⟩
        by_cases c : i = k
        · rw [c] at hne ⊢
          rcases h3 with h3 | h3
          · exact absurd h3 hne
          · omega
        · exact r3 i (by omega) hne
      by_cases c : po_ k < po_ r.1
      · cases hl : lef_ S k with
        | none => exact keep (lsq_2 hq hl) (Or.inl hl)
        | some x =>
          rw [lsq_3 hq c hl] at h
          have h2 : (k, x) = q := Option.some.inj h
          rw [← h2]
          refine ⟨by show k < k + 1; omega, hl, fun i hi hne => ?_⟩
          by_cases c2 : i = k
          · rw [c2]; exact Or.inr ⟨rfl, Nat.le_refl _⟩
          · have := r3 i (by omega) hne
            show po_ k < po_ i ∨ _
            omega
      · exact keep (lsq_1 hq c) (Or.inr c)
theorem lsq_u {N a h : Nat} (ha : a < N) (hl : lef_ S a = some h) (hm : ∀ i, i < N → lef_ S i ≠ none → po_ a < po_ i ∨ (po_ a = po_ i ∧ a ≤ i)) : lsq_ S N = some (a, h) := by
  cases hq : lsq_ S N with
  | none => rw [lsq_n N hq a ha] at hl; cases hl
  | some q =>
    obtain ⟨q1, q2, q3⟩ := lsq_s N q hq
    have h1 := hm q.1 q1 (by rw [q2]; exact fun hh => by cases hh)
    have h2 := q3 a ha (by rw [hl]; exact fun hh => by cases hh)
    have h3 : q.1 = a := by omega
    rw [h3, hl] at q2
    have h4 : h = q.2 := Option.some.inj q2
    rw [h4, ← h3]
theorem po_lt {a L : Nat} (ha : a < 2 ^ L) (hL : L ≤ 6) : po_ a ≤ L := by
  unfold po_
  rw [nb_0 (k := L) 16 (fun i hi => Nat.testBit_lt_two_pow (Nat.lt_of_lt_of_le ha (Nat.pow_le_pow_right (n := 2) (by omega) hi))) (by omega)]
  exact nb_le L
def lsA_ (o : Option (Nat × Nat)) : Int32 := match o with
  | none => -2
  | some q => Int32.ofNat (po_ q.1)
def lsV_ (vs : List Nat) (o : Option (Nat × Nat)) : List Nat := match o with
  | none => vs
  | some q => [q.1, q.2]
theorem lef_lt (hw : wf_ S) {a h : Nat} (hl : lef_ S a = some h) : h < 600 := by
  have := fnd_lt hl
  have := hw.hist
  omega
theorem k_least_i (hw : wf_ S) {sz : Nat} (hmin : ∀ i, i < 2 ^ S 0 11 → lef_ S i ≠ none → sz ≤ po_ i) {q12 : Int32 → Int32 → mm_M → Option (Int32 × mm_M)}
    (hq : ∀ M', cs_ S vs M' → (∀ i, i < 2 ^ S 0 11 → lef_ S i ≠ none → sz + 1 ≤ po_ i) → wp_ (q12 (Int32.ofNat (2 ^ S 0 11)) (Int32.ofNat (sz + 1)) M') (fun z => z.1 = lsA_ (lsq_ S (2 ^ S 0 11)) ∧ cs_ S (lsV_ vs (lsq_ S (2 ^ S 0 11))) z.2)) (hsz : sz ≤ S 0 11) :
    ∀ (e a n : Nat) (M : mm_M), a + e = 2 ^ S 0 11 → e < n → cs_ S vs M → (∀ i, i < a → lef_ S i ≠ none → po_ i ≠ sz) →
    wp_ (f_X11_least_25l q12 n (Int32.ofNat (2 ^ S 0 11)) (Int32.ofNat sz) (Int32.ofNat a) M) (fun z => z.1 = lsA_ (lsq_ S (2 ^ S 0 11)) ∧ cs_ S (lsV_ vs (lsq_ S (2 ^ S 0 11))) z.2) := by
  have h6 := hw.laws
  have h64 : 2 ^ S 0 11 ≤ 2 ^ 6 := Nat.pow_le_pow_right (n := 2) (by omega) h6
  intro e
  induction e with
  | zero =>
    intro a n M ha hn hc hi
    obtain ⟨m, rfl⟩ : ∃ m, n = m + 1 := ⟨n - 1, by omega⟩
    unfold f_X11_least_25l f_X11_least_25 f_X11_least_89
    rw [if_pos ((n3_le (by omega) (by omega)).mpr (by omega))]
    refine wp_sr ?_
    rw [show Int32.ofNat sz + 1 = Int32.ofNat (sz + 1) from n3_add sz 1]
    refine hq M hc (fun i hi2 hne => ?_)
    have := hmin i hi2 hne
    have := hi i (by omega) hne
    omega
  | succ e ih =>
    intro a n M ha hn hc hi
    obtain ⟨m, rfl⟩ : ∃ m, n = m + 1 := ⟨n - 1, by omega⟩
    have e1 : Int32.ofNat a + 1 = Int32.ofNat (a + 1) := n3_add a 1
    have hpo := po_lt (a := a) (L := S 0 11) (by omega) h6
    have nxt : ∀ M', cs_ S vs M' → (lef_ S a = none ∨ po_ a ≠ sz) → wp_ (f_X11_least_25l q12 m (Int32.ofNat (2 ^ S 0 11)) (Int32.ofNat sz) (Int32.ofNat (a + 1)) M') (fun z => z.1 = lsA_ (lsq_ S (2 ^ S 0 11)) ∧ cs_ S (lsV_ vs (lsq_ S (2 ^ S 0 11))) z.2) :=
      fun M' hc' h1 => ih (a + 1) m M' (by omega) (by omega) hc' (fun i hi2 hne => by
        by_cases c : i = a
        · rw [c] at hne ⊢
          rcases h1 with h1 | h1
          · exact absurd h1 hne
          · exact h1
        · exact hi i (by omega) hne)
    unfold f_X11_least_25l f_X11_least_25 f_X11_least_43 f_X11_least_47
    rw [if_neg (by rw [n3_le (by omega) (by omega)]; omega), bc_nat (by omega)]
    refine wp_sr ?_
    by_cases c : po_ a = sz
    · rw [if_pos (by rw [c])]
      refine wp_bd (wp_mo (k_ffa hw (show a < 64 by omega) hc) (fun z hz => ?_))
      rw [hz.1]
      cases hl : lef_ S a with
      | none =>
        rw [if_pos (show sto_ none = (-1 : Int32) from rfl)]
        refine wp_sr ?_
        rw [e1]
        exact nxt z.2 hz.2 (Or.inl hl)
      | some h =>
        have hh := lef_lt hw hl
        have hres : lsq_ S (2 ^ S 0 11) = some (a, h) := lsq_u (by omega) hl (fun i hi2 hne => by
          have := hmin i hi2 hne
          by_cases c2 : i < a
          · have := hi i c2 hne; omega
          · omega)
        show wp_ (if Int32.ofNat h = (-1 : Int32) then _ else _) _
        rw [if_neg (show ¬ (Int32.ofNat h = (-1 : Int32)) from fun hh2 => (n3_nm (by omega)).mp hh2), hres]
        unfold f_X11_least_55
        rw [show sto_ (some h) = Int32.ofNat h from rfl, n3_6 (by omega), n3_6 (by omega)]
        refine wp_sr (wp_bd (wp_mo ((hz.2.clear hw).add hw (by simp) _) (fun u hu => wp_bd (wp_mo (hu.1.add hw (by simp) _) (fun v hv => wp_some ⟨?_, hv.1⟩)))))
        show Int32.ofNat sz = Int32.ofNat (po_ a)
        rw [c]
    · rw [if_neg (by rw [n3_eq (by omega) (by omega)]; exact c), if_pos rfl]
      refine wp_sr ?_
      rw [e1]
      exact nxt M hc (Or.inr c)
theorem k_least_l (hw : wf_ S) : ∀ (e sz n : Nat) (M : mm_M), sz + e = S 0 11 + 1 → e < n → cs_ S vs M → (∀ i, i < 2 ^ S 0 11 → lef_ S i ≠ none → sz ≤ po_ i) →
    wp_ (f_X11_least_12l n (Int32.ofNat (2 ^ S 0 11)) (Int32.ofNat sz) M) (fun z => z.1 = lsA_ (lsq_ S (2 ^ S 0 11)) ∧ cs_ S (lsV_ vs (lsq_ S (2 ^ S 0 11))) z.2) := by
  have h6 := hw.laws
  have h64 : 2 ^ S 0 11 ≤ 2 ^ 6 := Nat.pow_le_pow_right (n := 2) (by omega) h6
  intro e
  induction e with
  | zero =>
    intro sz n M hk hn hc hm
    obtain ⟨m, rfl⟩ : ∃ m, n = m + 1 := ⟨n - 1, by omega⟩
    unfold f_X11_least_12l f_X11_least_12
    rw [hc.2.1.laws, if_pos ((n3_lt (by omega) (by omega)).mpr (by omega))]
    have hres : lsq_ S (2 ^ S 0 11) = none := by
      cases hq : lsq_ S (2 ^ S 0 11) with
      | none => rfl
      | some q =>
        obtain ⟨q1, q2, -⟩ := lsq_s _ q hq
        have h1 := hm q.1 q1 (by rw [q2]; exact fun hh => by cases hh)
        have h2 := po_lt q1 h6
        omega
    rw [hres]
    exact wp_some ⟨rfl, hc⟩
  | succ e ih =>
    intro sz n M hk hn hc hm
    obtain ⟨m, rfl⟩ : ∃ m, n = m + 1 := ⟨n - 1, by omega⟩
    unfold f_X11_least_12l f_X11_least_12
    rw [hc.2.1.laws, if_neg (by rw [n3_lt (by omega) (by omega)]; omega)]
    exact k_least_i hw hm (fun M' hc' hm' => ih (sz + 1) m M' (by omega) (by omega) hc' hm') (by omega) (2 ^ S 0 11) 0 fu_ M (by omega) (by unfold fu_; omega) hc (fun i hi => by omega)
def lsx_ (o : Option (Nat × Nat)) : Int32 := match o with
  | none => -1
  | some q => Int32.ofNat q.1
def lsy_ (o : Option (Nat × Nat)) : Int32 := match o with
  | none => 0
  | some q => Int32.ofNat q.2
theorem q_least_i (hw : wf_ S) {a : Nat} {x1 x2 : Int32} {q17 : Int32 → Int32 → Int32 → Int32 → mm_M → Option (Int32 × mm_M)} {Q : Int32 × mm_M → Prop}
    (hQ0 : ∀ M', rt_ S (nvb_ a) vs M' → lef_ S a = none → wp_ (f_X12_least_88 q17 x1 x2 (Int32.ofNat (hs_ S)) (Int32.ofNat a) M') Q)
    (hQ1 : ∀ M' h, rt_ S (nvb_ a) vs M' → lef_ S a = some h → wp_ (f_X12_least_73 q17 (Int32.ofNat (hs_ S)) (Int32.ofNat a) (Int32.ofNat h) M') Q) :
    ∀ (e k n : Nat) (M : mm_M), k + e = hs_ S → e < n → rt_ S (nvb_ a) vs M → (∀ i, i < k → ft_n S (nvb_ a) i = false) →
    wp_ (f_X12_least_58l q17 n x1 x2 (Int32.ofNat (hs_ S)) (Int32.ofNat a) (Int32.ofNat k) M) Q := by
  have h600 := hw.hist
  intro e
  induction e with
  | zero =>
    intro k n M hk hn hr hi
    obtain ⟨m, rfl⟩ : ∃ m, n = m + 1 := ⟨n - 1, by omega⟩
    unfold f_X12_least_58l f_X12_least_58
    rw [if_pos ((n3_le (by omega) (by omega)).mpr (by omega))]
    exact hQ0 M hr (fnd_n (fun i hi2 => hi i (by omega)))
  | succ e ih =>
    intro k n M hk hn hr hi
    obtain ⟨m, rfl⟩ : ∃ m, n = m + 1 := ⟨n - 1, by omega⟩
    unfold f_X12_least_58l f_X12_least_58
    rw [if_neg (by rw [n3_le (by omega) (by omega)]; omega)]
    refine wp_bd (wp_mo (r_fit hr.1 hw (show k < 2147483648 by omega)) (fun z hz => ?_))
    have hr1 := hr.fr2 hz.1
    rw [hz.2]
    cases hb : ft_n S (nvb_ a) k with
    | false =>
      rw [if_pos (by decide)]
      refine wp_sr ?_
      rw [show Int32.ofNat k + 1 = Int32.ofNat (k + 1) from n3_add k 1]
      exact ih (k + 1) m z.2 (by omega) (by omega) hr1 (fun i hi2 => by
        by_cases c : i = k
        · rw [c]; exact hb
        · exact hi i (by omega))
    | true =>
      rw [if_neg (by decide)]
      refine hQ1 z.2 k hr1 ?_
      have := fnd_s hi hb (hs_ S - (k + 1))
      rw [show k + 1 + (hs_ S - (k + 1)) = hs_ S by omega] at this
      exact this
theorem q_least_l (hw : wf_ S) : ∀ (e a n : Nat) (M : mm_M), a + e = 2 ^ S 0 11 → e < n → (∃ nv, rt_ S nv vs M) →
    wp_ (f_X12_least_17l n (lsx_ (lsq_ S a)) (lsy_ (lsq_ S a)) (Int32.ofNat (hs_ S)) (Int32.ofNat a) M) (fun z => z.1 = lsA_ (lsq_ S (2 ^ S 0 11)) ∧ rt_ S no_ (lsV_ vs (lsq_ S (2 ^ S 0 11))) z.2) := by
  have h6 := hw.laws
  have h64 : 2 ^ S 0 11 ≤ 2 ^ 6 := Nat.pow_le_pow_right (n := 2) (by omega) h6
  have hsh : (1 : Int32) <<< (Int32.ofNat (S 0 11) &&& 31) = Int32.ofNat (2 ^ S 0 11) := by
    rw [show (1 : Int32) = Int32.ofNat 1 from rfl, n3_shl (by omega), Nat.one_mul]
  intro e
  induction e with
  | zero =>
    intro a n M ha hn hr
    obtain ⟨m, rfl⟩ : ∃ m, n = m + 1 := ⟨n - 1, by omega⟩
    obtain ⟨nv, hr⟩ := hr
    have haa : a = 2 ^ S 0 11 := by omega
    have hr0 : rt_ S no_ vs (mm_si M 0 25 0) := hr.nev (fun l hl => ib_0)
    unfold f_X12_least_17l f_X12_least_17 f_X12_least_94
    rw [hr.1.1.laws, hsh, if_pos ((n3_le (by omega) (by omega)).mpr (by omega)), ← haa]
    refine wp_sr ?_
    cases hq : lsq_ S a with
    | none =>
      rw [if_neg (show ¬ ((0 : Int32) ≤ lsx_ none) by decide)]
      exact wp_some ⟨rfl, hr0⟩
    | some q =>
      obtain ⟨q1, q2, -⟩ := lsq_s _ q hq
      have hh := lef_lt hw q2
      rw [if_pos (show (0 : Int32) ≤ lsx_ (some q) from (n3_le (a := 0) (by omega) (by omega)).mpr (by omega)), show lsx_ (some q) = Int32.ofNat q.1 from rfl, show lsy_ (some q) = Int32.ofNat q.2 from rfl, n3_6 (by omega), n3_6 (by omega)]
      refine wp_sr (wp_bd (wp_mo (r_ent (rr_nil hr0) (by simp) _) (fun u hu => wp_bd (wp_mo (r_ent hu.1 (by simp) _) (fun v hv => wp_sr (wp_some ⟨?_, hv.1⟩))))))
      show f_J6_bitCount_0f7a4 (Int32.ofNat q.1) = Int32.ofNat (po_ q.1)
      exact bc_nat (by omega)
  | succ e ih =>
    intro a n M ha hn hr
    obtain ⟨m, rfl⟩ : ∃ m, n = m + 1 := ⟨n - 1, by omega⟩
    obtain ⟨nv, hr⟩ := hr
    have e1 : Int32.ofNat a + 1 = Int32.ofNat (a + 1) := n3_add a 1
    have nxt : ∀ (M' : mm_M) (x1 x2 : Int32), (∃ nv, rt_ S nv vs M') → x1 = lsx_ (lsq_ S (a + 1)) → x2 = lsy_ (lsq_ S (a + 1)) → wp_ (f_X12_least_88 (f_X12_least_17l m) x1 x2 (Int32.ofNat (hs_ S)) (Int32.ofNat a) M') (fun z => z.1 = lsA_ (lsq_ S (2 ^ S 0 11)) ∧ rt_ S no_ (lsV_ vs (lsq_ S (2 ^ S 0 11))) z.2) := by
      intro M' x1 x2 hr' e2 e3
      unfold f_X12_least_88
      refine wp_sr ?_
      rw [e1, e2, e3]
      exact ih (a + 1) m M' (by omega) (by omega) hr'
    have tryit : ∀ (o : Option (Nat × Nat)), lsq_ S a = o → (∀ q, o = some q → po_ a < po_ q.1) → wp_ (f_X12_least_47 (f_X12_least_17l m) (lsx_ o) (lsy_ o) (Int32.ofNat (hs_ S)) (Int32.ofNat a) M) (fun z => z.1 = lsA_ (lsq_ S (2 ^ S 0 11)) ∧ rt_ S no_ (lsV_ vs (lsq_ S (2 ^ S 0 11))) z.2) := by
      intro o ho hpo
      unfold f_X12_least_47
      refine wp_sr ?_
      have hr2 : rt_ S (nvb_ a) vs (mm_si M 0 25 (Int32.ofNat a ^^^ (-1))) := hr.nev (fun l hl => by
        rw [ib_not (by omega), ib_nat2 (by omega)]; rfl)
      have h600 := hw.hist
      refine q_least_i hw ?_ ?_ (hs_ S) 0 fu_ _ (by omega) (by unfold fu_; omega) hr2 (fun i hi => by omega)
      · intro M' hr' hn2
        have : lsq_ S (a + 1) = o := by
          cases o with
          | none => rw [lsq_0 ho, hn2]; rfl
          | some q => exact lsq_2 ho hn2
        exact nxt M' _ _ ⟨_, hr'⟩ (by rw [this]) (by rw [this])
      · intro M' h hr' hn2
        have : lsq_ S (a + 1) = some (a, h) := by
          cases o with
          | none => rw [lsq_0 ho, hn2]; rfl
          | some q => exact lsq_3 ho (hpo q rfl) hn2
        unfold f_X12_least_73
        exact nxt M' _ _ ⟨_, hr'⟩ (by rw [this]; rfl) (by rw [this]; rfl)
    unfold f_X12_least_17l f_X12_least_17
    rw [hr.1.1.laws, hsh, if_neg (by rw [n3_le (by omega) (by omega)]; omega)]
    cases hq : lsq_ S a with
    | none =>
      rw [if_pos (show lsx_ none < 0 by decide)]
      exact tryit none hq (fun q hq2 => by cases hq2)
    | some q =>
      obtain ⟨q1, q2, -⟩ := lsq_s _ q hq
      have hp1 := po_lt (a := a) (L := S 0 11) (by omega) h6
      have hp2 := po_lt (a := q.1) (L := S 0 11) (by omega) h6
      rw [if_neg (show ¬ (lsx_ (some q) < 0) from fun hh => (n3_neg (by omega)).mp hh)]
      refine wp_sr (wp_sr ?_)
      rw [show lsx_ (some q) = Int32.ofNat q.1 from rfl, bc_nat (by omega), bc_nat (by omega)]
      by_cases c : po_ a < po_ q.1
      · rw [if_pos ((n3_lt (by omega) (by omega)).mpr c)]
        exact tryit (some q) hq (fun r hr2 => by cases hr2; exact c)
      · rw [if_neg (by rw [n3_lt (by omega) (by omega)]; exact c)]
        have := lsq_1 hq c
        exact nxt M _ _ ⟨_, hr⟩ (by rw [this]; rfl) (by rw [this])
theorem m_least (hrl0 : rl_ Mc Mr) : bo_ (f_X11_least Mc) (f_X12_least Mr) := by
  obtain ⟨S, vs, hw, hv, hc, hr⟩ := hrl0
  have hr1 := hr.th
  have h6 := hw.laws
  have h64 : 2 ^ S 0 11 ≤ 2 ^ 6 := Nat.pow_le_pow_right (n := 2) (by omega) h6
  unfold f_X11_least f_X12_least
  rw [sq_n (x := mm_si Mr 0 0 0)]
  refine bo_mk (S := S) (vs := lsV_ vs (lsq_ S (2 ^ S 0 11))) (A := lsA_ (lsq_ S (2 ^ S 0 11))) hw ?_ ?_ ?_
  · cases hq : lsq_ S (2 ^ S 0 11) with
    | none => exact hv
    | some q =>
      obtain ⟨q1, q2, -⟩ := lsq_s _ q hq
      have hh := lef_lt hw q2
      exact ⟨by simp [lsV_], fun v hv2 => by
        have h0 : v ∈ [q.1, q.2] := hv2
        simp only [List.mem_cons, List.not_mem_nil, or_false] at h0
        rcases h0 with h0 | h0 <;> omega⟩
  · refine wp_sr ?_
    rw [hc.2.1.laws, show (1 : Int32) = Int32.ofNat 1 from rfl, n3_shl (by omega), Nat.one_mul]
    exact k_least_l hw (S 0 11 + 1) 0 fu_ Mc (by omega) (by unfold fu_; omega) hc (fun i _ _ => Nat.zero_le _)
  · refine wp_be (r_hist hr1.1.1 hw) ?_
    exact q_least_l hw (2 ^ S 0 11) 0 fu_ _ (by omega) (by unfold fu_; omega) ⟨_, hr1⟩
end WH1
