/-! LEAST: laws that never come have their first years -/
section WG1
variable {S : sg_} {M Mc Mr : mm_M} {vs : List Nat} {B : Nat → Bool}
/-- the history in which laws that B does not name have their first years -/
def zp_ (S : sg_) (B : Nat → Bool) : Nat → Nat → Nat
  | 0, _ => 0
  | n + 1, h => zp_ S B n (h / S 12 n) * S 12 n + (if B n = true then h % S 12 n else 0)
theorem hn_div {n h : Nat} (hh : h < hn_ S (n + 1)) : h / S 12 n < hn_ S n := by
  have : hn_ S (n + 1) = hn_ S n * S 12 n := rfl
  rw [this, Nat.mul_comm] at hh
  exact Nat.div_lt_of_lt_mul hh
theorem zp_le : ∀ n h, h < hn_ S n → zp_ S B n h ≤ h := by
  intro n
  induction n with
  | zero => intro h _; exact Nat.zero_le _
  | succ n ih =>
    intro h hh
    have h1 := ih (h / S 12 n) (hn_div hh)
    have h2 := Nat.mul_le_mul_right (S 12 n) h1
    have h3 := Nat.div_add_mod h (S 12 n)
    have h4 := Nat.mul_comm (S 12 n) (h / S 12 n)
    show zp_ S B n (h / S 12 n) * S 12 n + _ ≤ h
    split <;> omega
theorem yr_n_s {n l h : Nat} (hl : l < n) : yr_n S (n + 1) l h = yr_n S n l (h / S 12 n) := by
  unfold yr_n
  have e : n + 1 - 1 - l = (n - 1 - l) + 1 := by omega
  rw [e]
  show S 10 l + S 11 l * (hq_ S l (n - 1 - l) (h / S 12 (l + (n - 1 - l) + 1)) % S 12 l) = _
  rw [show l + (n - 1 - l) + 1 = n by omega]
theorem yr_n_e {n h : Nat} : yr_n S (n + 1) n h = S 10 n + S 11 n * (h % S 12 n) := by
  unfold yr_n
  rw [show n + 1 - 1 - n = 0 by omega]; rfl
theorem zp_yr : ∀ n h, (∀ l, l < n → 1 ≤ S 12 l) → ∀ l, l < n → yr_n S n l (zp_ S B n h) = if B l = true then yr_n S n l h else S 10 l := by
  intro n
  induction n with
  | zero => intro h _ l hl; omega
  | succ n ih =>
    intro h hm l hl
    have hm1 := hm n (by omega)
    have hr : (if B n = true then h % S 12 n else 0) < S 12 n := by
      split
      · exact Nat.mod_lt _ (by omega)
      · omega
    have ez : zp_ S B (n + 1) h = (if B n = true then h % S 12 n else 0) + S 12 n * zp_ S B n (h / S 12 n) := by
      show zp_ S B n (h / S 12 n) * S 12 n + _ = _
      rw [Nat.mul_comm, Nat.add_comm]
    by_cases c : l = n
    · rw [c, yr_n_e, yr_n_e, ez, Nat.add_mul_mod_self_left, Nat.mod_eq_of_lt hr]
      by_cases c2 : B n = true
      · rw [if_pos c2, if_pos c2]
      · rw [if_neg c2, if_neg c2, Nat.mul_zero, Nat.add_zero]
    · rw [yr_n_s (by omega), yr_n_s (by omega), ez, Nat.add_mul_div_left _ _ (by omega), Nat.div_eq_of_lt hr, Nat.zero_add]
      exact ih _ (fun q hq => hm q (by omega)) l (by omega)
theorem od_cg {y y' : Nat → Nat} {P P' : Nat → Bool} : ∀ n, (∀ l, l < n → P l = P' l) → (∀ l, l < n → P l = true → y l = y' l) → od_ y P n = od_ y' P' n := by
  have ins : ∀ (xs : List Nat) (l : Nat), (∀ x, x ∈ xs → y x = y' x) → y l = y' l → in_s y l xs = in_s y' l xs := by
    intro xs
    induction xs with
    | nil => intro l _ _; rfl
    | cons a as ih =>
      intro l h1 h2
      show (if y a ≤ y l then a :: in_s y l as else l :: a :: as) = (if y' a ≤ y' l then a :: in_s y' l as else l :: a :: as)
      rw [h1 a (by simp), h2, ih l (fun x hx => h1 x (by simp [hx])) h2]
  intro n
  induction n with
  | zero => intro _ _; rfl
  | succ n ih =>
    intro h1 h2
    show (if P n = true then in_s y n (od_ y P n) else od_ y P n) = (if P' n = true then in_s y' n (od_ y' P' n) else od_ y' P' n)
    rw [← h1 n (by omega), ← ih (fun l hl => h1 l (by omega)) (fun l hl => h2 l (by omega))]
    by_cases c : P n = true
    · rw [if_pos c, if_pos c]
      exact ins _ n (fun x hx => by
        have := (od_mem n).mp hx
        exact h2 x (by omega) this.2) (h2 n (by omega) c)
    · rw [if_neg c, if_neg c]
def nvb_ (a : Nat) : Nat → Bool := fun l => !a.testBit l
/-- years of laws that come decide -/
theorem pa_yr {nv : Nat → Bool} {h h' y p : Nat} (hy : ∀ l, l < S 0 11 → nv l = false → yr_ S l h' = yr_ S l h) : pa_ S nv h' y p = pa_ S nv h y p := by
  unfold pa_
  apply od_cg
  · intro l hl
    cases hn : nv l with
    | true => rfl
    | false => rw [hy l hl hn]
  · intro l hl hP
    cases hn : nv l with
    | true => rw [hn] at hP; cases hP
    | false => exact hy l hl hn
theorem ft_yr {nv : Nat → Bool} {h h' : Nat} (hy : ∀ l, l < S 0 11 → nv l = false → yr_ S l h' = yr_ S l h) : ft_n S nv h' = ft_n S nv h := by
  have hs : ∀ s, ho_n S nv s h' = ho_n S nv s h := by
    intro s
    unfold ho_n sd_n
    rw [pa_yr hy]
  unfold ft_n
  simp only [hs]
def fib_ (S : sg_) (a h : Nat) : Bool := (List.range (S 0 11)).all (fun l => a.testBit l || decide (yr_ S l h = S 10 l))
theorem fib_iff {a h : Nat} : fib_ S a h = true ↔ ∀ l, l < S 0 11 → a.testBit l = false → yr_ S l h = S 10 l := by
  unfold fib_
  rw [List.all_eq_true]
  constructor
  · intro hh l hl hb
    have := hh l (List.mem_range.mpr hl)
    rw [hb, Bool.false_or] at this
    exact of_decide_eq_true this
  · intro hh l hl
    cases hb : a.testBit l with
    | true => rfl
    | false => rw [Bool.false_or]; exact decide_eq_true (hh l (List.mem_range.mp hl) hb)
theorem zp_fit (hw : wf_ S) {a h : Nat} (hh : h < hs_ S) : ∃ h', h' ≤ h ∧ fib_ S a h' = true ∧ ft_n S (nvb_ a) h' = ft_n S (nvb_ a) h := by
  have hm : ∀ l, l < S 0 11 → 1 ≤ S 12 l := fun l hl => (hw.yr l hl).1
  have hz := zp_yr (S := S) (B := fun l => a.testBit l) (S 0 11) h hm
  refine ⟨zp_ S (fun l => a.testBit l) (S 0 11) h, zp_le _ _ hh, fib_iff.mpr (fun l hl hb => ?_), ft_yr (fun l hl hb => ?_)⟩
  · have := hz l hl
    rw [if_neg (by rw [hb]; decide)] at this
    exact this
  · have hb2 : a.testBit l = true := by
      unfold nvb_ at hb
      cases hq : a.testBit l with
      | true => rfl
      | false => rw [hq] at hb; cases hb
    have := hz l hl
    rw [if_pos hb2] at this
    exact this
/-- the first number with a property -/
def fnd_ (P : Nat → Bool) (n : Nat) : Option Nat := (List.range n).find? P
theorem fnd_n {P : Nat → Bool} {n : Nat} (h : ∀ i, i < n → P i = false) : fnd_ P n = none := by
  unfold fnd_
  rw [List.find?_eq_none]
  intro i hi
  rw [h i (List.mem_range.mp hi)]; decide
theorem fnd_s {P : Nat → Bool} {k : Nat} (h1 : ∀ i, i < k → P i = false) (h2 : P k = true) : ∀ d, fnd_ P (k + 1 + d) = some k := by
  intro d
  induction d with
  | zero =>
    have := fnd_n h1
    unfold fnd_ at this ⊢
    rw [Nat.add_zero, List.range_succ, List.find?_append, this, Option.none_or, List.find?_cons, h2]
  | succ d ih =>
    unfold fnd_ at ih ⊢
    rw [show k + 1 + (d + 1) = (k + 1 + d) + 1 by omega, List.range_succ, List.find?_append, ih]; rfl
theorem fnd_lt {P : Nat → Bool} {n k : Nat} (h : fnd_ P n = some k) : k < n := by
  unfold fnd_ at h
  exact List.mem_range.mp (List.mem_of_find?_eq_some h)
def lef_ (S : sg_) (a : Nat) : Option Nat := fnd_ (ft_n S (nvb_ a)) (hs_ S)
theorem c_fib (hI : ic_ S M) (hw : wf_ S) {a h : Nat} (ha : a < 64) (hh : h < hs_ S) : f_X3_isFirstBut (Int32.ofNat h) (Int32.ofNat a) M = some (bi_ (fib_ S a h)) := by
  have h6 := hw.laws
  have h600 := hw.hist
  have key : ∀ (e k n : Nat), k + e = S 0 11 → e < n → (∀ l, l < k → a.testBit l = false → yr_ S l h = S 10 l) → f_X3_isFirstBut_2l M n (Int32.ofNat h) (Int32.ofNat a) (Int32.ofNat k) = some (bi_ (fib_ S a h)) := by
    intro e
    induction e with
    | zero =>
      intro k n hk hn hp
      obtain ⟨m, rfl⟩ : ∃ m, n = m + 1 := ⟨n - 1, by omega⟩
      unfold f_X3_isFirstBut_2l f_X3_isFirstBut_2
      rw [hI.laws2, if_pos ((n3_le (by omega) (by omega)).mpr (by omega)), fib_iff.mpr (fun l hl hb => hp l (by omega) hb)]; rfl
    | succ e ih =>
      intro k n hk hn hp
      obtain ⟨m, rfl⟩ : ∃ m, n = m + 1 := ⟨n - 1, by omega⟩
      have e1 : Int32.ofNat k + 1 = Int32.ofNat (k + 1) := n3_add k 1
      have hkl : k < S 0 11 := by omega
      have hy := yr_le hw (h := h) hkl
      have hy2 := hw.yr k hkl
      have hb10 : S 10 k ≤ 400 := by omega
      unfold f_X3_isFirstBut_2l f_X3_isFirstBut_2 f_X3_isFirstBut_35
      rw [hI.laws2, if_neg (by rw [n3_le (by omega) (by omega)]; omega), ib_bit (by omega), ib_nat2 (by omega)]
      cases hb : a.testBit k with
      | true =>
        rw [if_neg (by decide), sq_n, e1]
        exact ih (k + 1) m (by omega) (by omega) (fun l hl hb2 => by
          by_cases c : l = k
          · rw [c, hb] at hb2; cases hb2
          · exact hp l (by omega) hb2)
      | false =>
        rw [if_pos (by decide), c_yearOf hI hw hh hkl, Option.bind_some, if_pos ((n3_ix (by omega)).mpr (by omega)), n3_tn (by omega), hI.fy k hkl]
        by_cases c : yr_ S k h = S 10 k
        · rw [if_pos (by rw [c]), sq_n, e1]
          exact ih (k + 1) m (by omega) (by omega) (fun l hl hb2 => by
            by_cases c2 : l = k
            · rw [c2]; exact c
            · exact hp l (by omega) hb2)
        · rw [if_neg (by rw [n3_eq (by omega) (by omega)]; exact c)]
          have : fib_ S a h = false := by
            cases hq : fib_ S a h with
            | false => rfl
            | true => exact absurd (fib_iff.mp hq k hkl hb) c
          rw [this]; rfl
  exact key (S 0 11) 0 fu_ (by omega) (by unfold fu_; omega) (fun l hl => by omega)
theorem am_nvb {a : Nat} : am_ (Int32.ofNat a) (nvb_ a) := by
  intro l hl
  rw [ib_nat2 (by omega)]
  unfold nvb_
  cases a.testBit l <;> rfl
theorem k_ffa (hw : wf_ S) {a : Nat} (ha : a < 64) (hc : cs_ S vs M) : wp_ (f_X11_firstFittingAmong (Int32.ofNat a) M) (fun z => z.1 = sto_ (lef_ S a) ∧ cs_ S vs z.2) := by
  have h600 := hw.hist
  have h16 := hw.signs
  have key : ∀ (e k n : Nat) (M : mm_M), k + e = hs_ S → e < n → cs_ S vs M → (∀ i, i < k → ft_n S (nvb_ a) i = false) → wp_ (f_X11_firstFittingAmong_2l n (Int32.ofNat a) (Int32.ofNat k) M) (fun z => z.1 = sto_ (lef_ S a) ∧ cs_ S vs z.2) := by
    intro e
    induction e with
    | zero =>
      intro k n M hk hn hc hp
      obtain ⟨m, rfl⟩ : ∃ m, n = m + 1 := ⟨n - 1, by omega⟩
      have hkk : k = hs_ S := by omega
      unfold f_X11_firstFittingAmong_2l f_X11_firstFittingAmong_2
      rw [hc.2.1.hs, if_pos ((n3_le (by omega) (by omega)).mpr (by omega))]
      rw [hkk] at hp
      refine wp_some ⟨?_, hc⟩
      unfold lef_
      rw [fnd_n hp]; rfl
    | succ e ih =>
      intro k n M hk hn hc hp
      obtain ⟨m, rfl⟩ : ∃ m, n = m + 1 := ⟨n - 1, by omega⟩
      have e1 : Int32.ofNat k + 1 = Int32.ofNat (k + 1) := n3_add k 1
      have hkh : k < hs_ S := by omega
      have nxt : ∀ M', cs_ S vs M' → ft_n S (nvb_ a) k = false → wp_ (f_X11_firstFittingAmong_2l m (Int32.ofNat a) (Int32.ofNat (k + 1)) M') (fun z => z.1 = sto_ (lef_ S a) ∧ cs_ S vs z.2) :=
        fun M' hc' hf => ih (k + 1) m M' (by omega) (by omega) hc' (fun i hi => by
          by_cases c : i = k
          · rw [c]; exact hf
          · exact hp i (by omega))
      unfold f_X11_firstFittingAmong_2l f_X11_firstFittingAmong_2 f_X11_firstFittingAmong_46
      rw [hc.2.1.hs, if_neg (by rw [n3_le (by omega) (by omega)]; omega)]
      refine wp_be (c_fib hc.2.1 hw ha hkh) ?_
      cases hb : fib_ S a k with
      | false =>
        rw [if_pos (by decide)]
        refine wp_sr ?_
        rw [e1]
        refine nxt M hc ?_
        cases hq : ft_n S (nvb_ a) k with
        | false => rfl
        | true =>
          exfalso
          obtain ⟨h', q1, q2, q3⟩ := zp_fit (a := a) hw hkh
          by_cases c : h' = k
          · rw [c, hb] at q2; cases q2
          · have := hp h' (by omega)
            rw [q3, hq] at this; cases this
      | true =>
        rw [if_neg (by decide)]
        refine wp_bd (wp_mo (c_allAmong hw hc hkh (am_nvb (a := a))) (fun z hz => ?_))
        obtain ⟨hc1, -, b, b1, b2⟩ := hz
        unfold f_X11_firstFittingAmong_41 f_X11_firstFittingAmong_46
        rw [b1]
        have hbf : b = ft_n S (nvb_ a) k := by
          have h1 : b = true ↔ ft_n S (nvb_ a) k = true := by
            rw [b2, ft_iff]
            constructor
            · intro hh s hs ho
              exact hh s hs (by rw [hc.2.1.on, mk_bit (by omega) hs]; exact decide_eq_true ho)
            · intro hh s hs ho
              rw [hc.2.1.on, mk_bit (by omega) hs] at ho
              exact hh s hs (of_decide_eq_true ho)
          cases hb1 : b with
          | true => exact (h1.mp hb1).symm
          | false =>
            cases hb2 : ft_n S (nvb_ a) k with
            | false => rfl
            | true => rw [h1.mpr hb2] at hb1; cases hb1
        cases hq : ft_n S (nvb_ a) k with
        | false =>
          rw [hbf, hq, if_pos (by decide)]
          refine wp_sr ?_
          rw [e1]
          exact nxt z.2 hc1 hq
        | true =>
          rw [hbf, hq, if_neg (by decide)]
          refine wp_some ⟨?_, hc1⟩
          have := fnd_s hp hq (hs_ S - (k + 1))
          rw [show k + 1 + (hs_ S - (k + 1)) = hs_ S by omega] at this
          unfold lef_
          rw [this]; rfl
  exact key (hs_ S) 0 fu_ M (by omega) (by unfold fu_; omega) hc (fun i hi => by omega)
end WG1
