/-! BOTH SIDES: the relation between class and reference; arguments; what depends on what -/
def cs_ (S : sg_) (vs : List Nat) (M : mm_M) : Prop := (∃ W pt, tc_ S M W pt) ∧ ic_ S M ∧ hc_ S M ∧ rc_ vs M
def rl_ (Mc Mr : mm_M) : Prop := ∃ S vs, wf_ S ∧ rv_ vs ∧ cs_ S vs Mc ∧ rt_ S no_ vs Mr
def bo_ (Fc Fr : Option (Int32 × mm_M)) : Prop := ∃ r Mc Mr, Fc = some (r, Mc) ∧ Fr = some (r, Mr) ∧ rl_ Mc Mr
theorem bo_mk {Fc Fr : Option (Int32 × mm_M)} {S : sg_} {vs : List Nat} {A : Int32} (hw : wf_ S) (hv : rv_ vs) (h1 : wp_ Fc (fun z => z.1 = A ∧ cs_ S vs z.2)) (h2 : wp_ Fr (fun z => z.1 = A ∧ rt_ S no_ vs z.2)) : bo_ Fc Fr := by
  obtain ⟨⟨r, Mc⟩, e1, a1, b1⟩ := h1
  obtain ⟨⟨r2, Mr⟩, e2, a2, b2⟩ := h2
  have a1' : r = A := a1
  have a2' : r2 = A := a2
  subst a1'
  subst a2'
  exact ⟨r2, Mc, Mr, e1, e2, S, vs, hw, hv, b1, b2⟩
/-! arguments -/
def lt_ (x : Int32) (n : Nat) : Bool := decide (0 ≤ x.toInt ∧ x.toInt < (n : Int))
theorem lt_nat {x : Int32} {n : Nat} (h : lt_ x n = true) (hn : n ≤ 2147483648) : ∃ k, x = Int32.ofNat k ∧ k < n := by
  have h1 := of_decide_eq_true h
  refine ⟨x.toNatClampNeg, ?_, ?_⟩
  · apply n3_ge2
    rw [Int32.le_iff_toInt_le]
    have : Int32.toInt 0 = 0 := by decide
    omega
  · have : x.toInt.toNat = x.toNatClampNeg := Int32.toNat_toInt x
    omega
theorem lt_of_nat {k n : Nat} (hk : k < 2147483648) : lt_ (Int32.ofNat k) n = decide (k < n) := by
  unfold lt_
  rw [n3_ti hk]
  apply decide_eq_decide.mpr
  omega
theorem c_bl {x : Int32} {n : Nat} (hn : n < 2147483648) : f_X11_isBelow x (Int32.ofNat n) = bi_ (lt_ x n) := by
  unfold f_X11_isBelow lt_ bi_
  have h0 : Int32.toInt 0 = 0 := by decide
  simp only [Int32.lt_iff_toInt_lt, Int32.le_iff_toInt_le, n3_ti hn, h0]
  by_cases c1 : x.toInt < 0
  · rw [if_pos c1, if_neg (by simp; omega)]
  · rw [if_neg c1]
    by_cases c2 : (n : Int) ≤ x.toInt
    · rw [if_pos c2, if_neg (by simp; omega)]
    · rw [if_neg c2, if_pos (by simp; omega)]
theorem r_inp {x : Int32} {n : Nat} (hn : n < 2147483648) : f_X12_in x.toInt64 (0 : Int64) ((Int32.ofNat n - 1).toInt64) = bi_ (lt_ x n) := by
  rw [in_pred hn]
  unfold lt_ bi_
  by_cases c : 0 ≤ x.toInt ∧ x.toInt < (n : Int)
  · rw [if_pos c, if_pos (decide_eq_true c)]
  · rw [if_neg c, if_neg (by rw [decide_eq_false c]; decide)]
theorem r_in0 {x : Int32} {b : Nat} (hb : b < 2147483647) : f_X12_in x.toInt64 (0 : Int64) (Int64.ofNat b) = bi_ (lt_ x (b + 1)) := by
  rw [show (0 : Int64) = Int64.ofNat 0 from rfl, in_eq (by omega) (by omega)]
  unfold lt_ bi_
  by_cases c : 0 ≤ x.toInt ∧ x.toInt < ((b + 1 : Nat) : Int)
  · rw [if_pos (by omega), if_pos (decide_eq_true c)]
  · rw [if_neg (by omega), if_neg (by rw [decide_eq_false c]; decide)]
theorem c_isYear {x : Int32} : f_X11_isYear x = bi_ (lt_ x 601) := by
  unfold f_X11_isYear lt_ bi_
  have h0 : Int32.toInt 0 = 0 := by decide
  have h6 : Int32.toInt 600 = 600 := by decide
  simp only [Int32.lt_iff_toInt_lt, h0, h6]
  by_cases c1 : x.toInt < 0
  · rw [if_pos c1, if_neg (by simp; omega)]
  · rw [if_neg c1]
    by_cases c2 : 600 < x.toInt
    · rw [if_pos c2, if_neg (by simp; omega)]
    · rw [if_neg c2, if_pos (by simp; omega)]
theorem c_isPlace {x : Int32} : f_X11_isPlace x = bi_ (lt_ x 6) := c_bl (n := 6) (by omega)
theorem r_isThen {x y : Int32} : f_X12_isThen x y = bi_ (lt_ x 601 && lt_ y 6) := by
  unfold f_X12_isThen
  rw [show (600 : Int64) = Int64.ofNat 600 from rfl, show (5 : Int64) = Int64.ofNat 5 from rfl, r_in0 (by omega), r_in0 (by omega), sq_n]
  cases lt_ x (600 + 1) with
  | false => rw [if_pos (by decide)]; rfl
  | true =>
    rw [if_neg (by decide), sq_n]
    cases lt_ y (5 + 1) with
    | false => rw [if_pos (by decide)]; rfl
    | true => rw [if_neg (by decide)]; rfl
section TA1
variable {S : sg_} {M : mm_M} {nv : Nat → Bool} {vs : List Nat} {x y p : Int32}
theorem c_isWord (hI : ic_ S M) (hw : wf_ S) : f_X11_isWord x M = bi_ (lt_ x (S 0 8)) := by
  have := hw.words
  unfold f_X11_isWord
  rw [sq_n, hI.words, c_bl (by omega)]
theorem c_isLaw (hI : ic_ S M) (hw : wf_ S) : f_X11_isLaw x M = bi_ (lt_ x (S 0 11)) := by
  have := hw.laws
  unfold f_X11_isLaw
  rw [sq_n, hI.laws, c_bl (by omega)]
theorem c_isHist (hI : ic_ S M) (hw : wf_ S) : f_X11_isHistory x M = bi_ (lt_ x (hs_ S)) := by
  have := hw.hist
  unfold f_X11_isHistory
  rw [sq_n, hI.hs, c_bl (by omega)]
theorem c_isSign (hI : ic_ S M) (hw : wf_ S) : f_X11_isSign x M = bi_ (lt_ x (S 0 28)) := by
  have := hw.signs
  unfold f_X11_isSign
  rw [sq_n, hI.told, c_bl (by omega)]
theorem c_isThen (hI : ic_ S M) (hw : wf_ S) : f_X11_isThenAndThere x y p M = bi_ (lt_ x (hs_ S) && (lt_ y 601 && lt_ p 6)) := by
  unfold f_X11_isThenAndThere
  rw [c_isHist hI hw, c_isYear, c_isPlace, sq_n]
  cases lt_ x (hs_ S) with
  | false => rw [if_pos (by decide)]; rfl
  | true =>
    rw [if_neg (by decide), sq_n]
    cases lt_ y 601 with
    | false => rw [if_pos (by decide)]; rfl
    | true =>
      rw [if_neg (by decide), sq_n]
      cases lt_ p 6 with
      | false => rw [if_pos (by decide)]; rfl
      | true => rw [if_neg (by decide)]; rfl
theorem r_isWord (hI : ir_ S M) (hw : wf_ S) : f_X12_isWord x M = bi_ (lt_ x (S 0 8)) := by
  have := hw.words
  unfold f_X12_isWord
  rw [sq_n, hI.words, r_inp (by omega)]
theorem r_isLaw (hI : ir_ S M) (hw : wf_ S) : f_X12_isLaw x M = bi_ (lt_ x (S 0 11)) := by
  have := hw.laws
  unfold f_X12_isLaw
  rw [sq_n, hI.laws, r_inp (by omega)]
theorem r_isSign (hI : ir_ S M) (hw : wf_ S) : f_X12_isSign x M = bi_ (lt_ x (S 0 28)) := by
  have := hw.signs
  unfold f_X12_isSign
  rw [sq_n, hI.signs, r_inp (by omega)]
theorem r_isHist (hI : ir_ S M) (hw : wf_ S) : f_X12_isHistory x M = some (bi_ (lt_ x (hs_ S))) := by
  have := hw.hist
  unfold f_X12_isHistory
  rw [r_hist hI hw, Option.bind_some, sq_n, r_inp (by omega)]
/-- thrown = 0, at every call's beginning -/
theorem rt_.th (h : rt_ S nv vs M) : rt_ S nv vs (mm_si M 0 0 0) := h.si0 (by omega)
end TA1
/-! what depends on what -/
section TA2
variable {S S' : sg_}
theorem is_of_cg (h3 : S' 3 = S 3) {part s : Nat} : is_of S' part s = is_of S part s := by
  unfold is_of; rw [h3]
theorem is_by_cg (h3 : S' 3 = S 3) {part : Nat} {o : Option Nat} : is_by S' part o = is_by S part o := by
  unfold is_by
  cases o with
  | none => rfl
  | some s => simp only [is_of_cg h3]
theorem lw_go_cg (h3 : S' 3 = S 3) {l : Nat} (h6 : S' 6 l = S 6 l) (h7 : S' 7 l = S 7 l) (h8 : S' 8 l = S 8 l) (h9 : S' 9 l = S 9 l) : ∀ (xs : List Nat) (p : Option Nat), lw_go S' l p xs = lw_go S l p xs := by
  intro xs
  induction xs with
  | nil => intro p; rfl
  | cons x xs ih =>
    intro p
    have e : lw_d S' l p x xs.head? = lw_d S l p x xs.head? := by
      unfold lw_d
      rw [h6, h8, h9, is_of_cg h3, is_by_cg h3, is_by_cg h3]
    unfold lw_go
    rw [e, h7, ih]
theorem sa_cg : ∀ (ls : List Nat) (xs : List Nat), (∀ l, l ∈ ls → ∀ ys, lw_on S' l ys = lw_on S l ys) → sa_l S' ls xs = sa_l S ls xs := by
  intro ls
  induction ls with
  | nil => intro xs _; rfl
  | cons l ls ih =>
    intro xs h
    show sa_l S' ls (lw_on S' l xs) = sa_l S ls (lw_on S l xs)
    rw [h l (by simp) xs]
    exact ih _ (fun z hz => h z (by simp [hz]))
theorem hq_cg (h12 : S' 12 = S 12) {l : Nat} : ∀ d h, hq_ S' l d h = hq_ S l d h := by
  intro d
  induction d with
  | zero => intro h; rfl
  | succ d ih => intro h; unfold hq_; rw [h12, ih]
theorem hn_cg : ∀ n, (∀ l, l < n → S' 12 l = S 12 l) → hn_ S' n = hn_ S n := by
  intro n
  induction n with
  | zero => intro _; rfl
  | succ n ih => intro h; unfold hn_; rw [ih (fun l hl => h l (by omega)), h n (by omega)]
theorem tl_cg (h3 : S' 3 = S 3) : ∀ xs, tl_ S' xs = tl_ S xs := by
  intro xs
  induction xs with
  | nil => rfl
  | cons x xs ih => unfold tl_; rw [h3, ih]
theorem ho_k_cg (h3 : S' 3 = S 3) {kd nm : Nat} {xs ys : List Nat} : ho_k S' kd nm xs ys = ho_k S kd nm xs ys := by
  unfold ho_k
  rw [tl_cg h3, tl_cg h3, h3]
/-- words, laws, classes are the same -/
def co_ (S S' : sg_) : Prop := (∀ a, 3 ≤ a → a ≤ 12 → S' a = S a) ∧ S' 0 8 = S 0 8 ∧ S' 0 11 = S 0 11
theorem co_.a (h : co_ S S') (a : Nat) (h1 : 3 ≤ a) (h2 : a ≤ 12) : S' a = S a := h.1 a h1 h2
theorem co_.sa (h : co_ S S') (ls xs : List Nat) : sa_l S' ls xs = sa_l S ls xs :=
  sa_cg ls xs (fun l _ ys => lw_go_cg (h.a 3 (by omega) (by omega)) (by rw [h.a 6 (by omega) (by omega)]) (by rw [h.a 7 (by omega) (by omega)]) (by rw [h.a 8 (by omega) (by omega)]) (by rw [h.a 9 (by omega) (by omega)]) ys none)
theorem co_.wd (h : co_ S S') (w : Nat) : wd_w S' w = wd_w S w := by
  unfold wd_w; rw [h.a 5 (by omega) (by omega), h.a 4 (by omega) (by omega)]
theorem co_.yr (h : co_ S S') (l hh : Nat) : yr_ S' l hh = yr_ S l hh := by
  unfold yr_ yr_n
  rw [h.a 10 (by omega) (by omega), h.a 11 (by omega) (by omega), h.a 12 (by omega) (by omega), h.2.2, hq_cg (h.a 12 (by omega) (by omega))]
theorem co_.hs (h : co_ S S') : hs_ S' = hs_ S := by
  unfold hs_
  rw [h.2.2]
  exact hn_cg _ (fun l _ => by rw [h.a 12 (by omega) (by omega)])
theorem co_.or (h : co_ S S') (hh : Nat) : or_ S' hh = or_ S hh := by
  unfold or_
  rw [h.2.2, show (fun l => yr_ S' l hh) = fun l => yr_ S l hh from funext (fun l => h.yr l hh)]
theorem co_.pa (h : co_ S S') {p : Nat} (hp : S' 13 p = S 13 p) (nv : Nat → Bool) (hh y : Nat) : pa_ S' nv hh y p = pa_ S nv hh y p := by
  rw [pa_filter, pa_filter, h.or]
  congr 1
  funext l
  rw [h.yr, hp]
theorem co_.sd (h : co_ S S') {p : Nat} (hp : S' 13 p = S 13 p) (nv : Nat → Bool) (w hh y : Nat) : sd_n S' nv w hh y p = sd_n S nv w hh y p := by
  unfold sd_n
  rw [h.pa hp, h.wd, h.sa]
theorem co_.st (h : co_ S S') (g : Nat) : st_ S' g = st_ S g := by
  unfold st_; rw [h.a 3 (by omega) (by omega)]
/-- a sign that is the same, at a place whose lag is the same -/
theorem co_.ho (h : co_ S S') {s : Nat} (hs : ∀ a, 18 ≤ a → a ≤ 23 → S' a s = S a s) (hp : S' 13 (S 22 s) = S 13 (S 22 s)) (nv : Nat → Bool) (hh : Nat) : ho_n S' nv s hh = ho_n S nv s hh := by
  unfold ho_n
  rw [hs 18 (by omega) (by omega), hs 19 (by omega) (by omega), hs 20 (by omega) (by omega), hs 21 (by omega) (by omega), hs 22 (by omega) (by omega), hs 23 (by omega) (by omega), h.sd hp, h.sd hp, ho_k_cg (h.a 3 (by omega) (by omega))]
theorem co_.tc (h : co_ S S') {M : mm_M} {W : Nat} {pt : Nat → List Nat} (ht : tc_ S M W pt) : tc_ S' M W pt :=
  ⟨ht.wk, ht.w1, ht.cap, ht.pow, ht.root, by rw [h.2.2]; exact ht.lt, ht.nd, ht.inj, ht.pre, ht.fol, ht.zero, by
    rw [h.2.1]
    intro c w hc hw
    rw [h.sa, h.wd]
    exact ht.frm c w hc hw⟩
theorem co_.lo (h : co_ S S') {M M' : mm_M} {l : Nat} (hm : ∀ b, b < 7 → M'.1 (8 + l) b = M.1 (8 + l) b) (hl : lo_ S M l) : lo_ S' M' l := by
  unfold lo_ at hl ⊢
  rw [hm 0 (by omega), hm 1 (by omega), hm 2 (by omega), hm 3 (by omega), hm 4 (by omega), hm 5 (by omega), hm 6 (by omega), h.st, h.st, h.st, h.a 6 (by omega) (by omega), h.a 7 (by omega) (by omega), h.a 8 (by omega) (by omega), h.a 9 (by omega) (by omega)]
  exact hl
/-- words, laws, classes are the same, in the class's memory, too -/
theorem co_.ic (h : co_ S S') {M M' : mm_M} (hw : wf_ S) (hI : ic_ S M) (hm : ∀ a b, (a = 5 ∧ (b = 1 ∨ b = 2)) ∨ a = 7 ∨ (8 ≤ a ∧ a ≤ 14) ∨ a = 16 ∨ a = 18 → M'.1 a b = M.1 a b) (h17 : M'.2.1 17 = M.2.1 17)
    (tp : M'.1 1 1 = Int32.ofNat (S' 0 4)) (tape : ∀ j, j < S' 0 4 → M'.1 2 j = Int32.ofNat (S' 2 j)) (lag : ∀ p, p < 6 → M'.1 15 p = Int32.ofNat (S' 13 p)) (told : M'.1 19 3 = Int32.ofNat (S' 0 28))
    (on : M'.1 19 4 = mk_b (fun s => decide (S' 26 s = 1)) (S' 0 28)) (sg : ∀ s, s < S' 0 28 → sc_ S' M' s) (kept : ∀ i, i < 3 → kp_ S' M' i) (fresh : ∀ s, S' 0 28 ≤ s → s < 16 → M'.1 (22 + s) 6 = Int32.ofNat 0 ∧ M'.1 (22 + s) 7 = Int32.ofNat 5) : ic_ S' M' := by
  have h6 := hw.laws
  refine ⟨tp, tape, ?_, ?_, ?_, ?_, ?_, ?_, lag, ?_, ?_, ?_, told, on, sg, kept, fresh⟩
  · rw [hm 5 1 (by omega), h.2.2]; exact hI.laws
  · rw [hm 5 2 (by omega), h.2.1]; exact hI.words
  · intro c hc; rw [hm 7 c (by omega), h.a 3 (by omega) (by omega)]; exact hI.cl c hc
  · intro l hl; rw [h.2.2] at hl; exact h.lo (fun b _ => hm (8 + l) b (by omega)) (hI.lo l hl)
  · rw [hm 14 2 (by omega), h.hs]; exact hI.hs
  · rw [hm 14 3 (by omega), h.2.2]; exact hI.laws2
  · intro hh hhl; rw [h.hs] at hhl; rw [hm 16 hh (by omega), h.or]; exact hI.ord hh hhl
  · intro hh hhl
    rw [h.hs] at hhl
    rw [h17, h.or, show (fun l => yr_ S' l hh) = fun l => yr_ S l hh from funext (fun l => h.yr l hh)]
    exact hI.yrs hh hhl
  · intro l hl; rw [h.2.2] at hl; rw [hm 18 l (by omega), h.a 10 (by omega) (by omega)]; exact hI.fy l hl
end TA2
