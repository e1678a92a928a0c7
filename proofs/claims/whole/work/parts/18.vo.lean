/-! CALLS: lean -/
section VO1
variable {S S' : sg_} {M M0 Mc Mr Z : mm_M} {vs : List Nat} {nv : Nat → Bool} {W : Nat} {pt : Nat → List Nat} {p hi what : Nat}
def lnq_o (S : sg_) (p h s : Nat) : Bool := er_ S p s || (!decide (S 26 s = 1) || ho_ S s h)
def lnq_f (S : sg_) (p h k : Nat) : Bool := (List.range k).all (lnq_o S p h)
def lnq_c (S : sg_) (p h k : Nat) : Nat := nb_ (fun s => er_ S p s && ho_ S s h) k
def lnq_m (S : sg_) (what p : Nat) : Nat → Option Nat
  | 0 => none
  | k + 1 => if lnq_f S p k (S 0 28) = true then fu2_ what (lnq_m S what p k) (lnq_c S p k (S 0 28)) else lnq_m S what p k
theorem lnq_fs {k : Nat} : lnq_f S p hi (k + 1) = (lnq_f S p hi k && lnq_o S p hi k) := by
  unfold lnq_f
  rw [List.range_succ, List.all_append]
  show (_ && (_ && true)) = _
  rw [Bool.and_true]
theorem lnq_cs {k : Nat} : lnq_c S p hi (k + 1) = lnq_c S p hi k + (if (er_ S p k && ho_ S k hi) = true then 1 else 0) := rfl
theorem lnq_b (hw : wf_ S) : ∀ k x, lnq_m S what p k = some x → x < 1000 := by
  have h16 := hw.signs
  intro k
  induction k with
  | zero => intro x h; cases h
  | succ k ih =>
    intro x h
    have hle := nb_le (f := fun s => er_ S p s && ho_ S s k) (S 0 28)
    have hle2 : lnq_c S p k (S 0 28) ≤ S 0 28 := hle
    unfold lnq_m at h
    by_cases c : lnq_f S p k (S 0 28) = true
    · rw [if_pos c] at h
      cases hm : lnq_m S what p k with
      | none =>
        rw [hm] at h
        have : lnq_c S p k (S 0 28) = x := Option.some.inj h
        omega
      | some y =>
        have := ih y hm
        rw [hm] at h
        have h2 := Option.some.inj h
        rw [← h2]
        split
        · split <;> omega
        · split <;> omega
    · rw [if_neg c] at h; exact ih x h
theorem lnq_w (hw : wf_ S) : (wr_ S no_ hi &&& (mk_b (er_ S p) (S 0 28) ^^^ (-1)) = 0) ↔ lnq_f S p hi (S 0 28) = true := by
  have h16 := hw.signs
  unfold lnq_f
  rw [List.all_eq_true]
  constructor
  · intro h0 s hs
    have hs2 := List.mem_range.mp hs
    have hb : ib_ (wr_ S no_ hi &&& (mk_b (er_ S p) (S 0 28) ^^^ (-1))) s = false := by rw [h0, ib_0]
    rw [ib_and, ib_not (by omega), wr_ib hw (by omega), mk_bit (by omega) hs2, decide_eq_true hs2] at hb
    unfold lnq_o
    rw [show ho_ S s hi = ho_n S no_ s hi from rfl]
    revert hb
    cases er_ S p s <;> cases decide (S 26 s = 1) <;> cases ho_n S no_ s hi <;> decide
  · intro h0
    apply ib_ext
    intro s hs
    rw [ib_and, ib_not hs, wr_ib hw hs, ib_0, mk_ib _ (by omega) s hs]
    by_cases c : s < S 0 28
    · have := h0 s (List.mem_range.mpr c)
      unfold lnq_o at this
      rw [show ho_ S s hi = ho_n S no_ s hi from rfl] at this
      rw [decide_eq_true c]
      revert this
      cases er_ S p s <;> cases decide (S 26 s = 1) <;> cases ho_n S no_ s hi <;> decide
    · rw [decide_eq_false c]; rfl
theorem k_lean_l (hw : wf_ S) (hp : p < 6) (hwh : what < 2) (hc : cs_ S vs M) (hl : hl_ S M) : ∀ (e k n : Nat), k + e = hs_ S → e < n →
    wp_ (f_X11_lean_42l n (Int32.ofNat what) (mk_b (er_ S p) (S 0 28)) (o2_ (lnq_m S what p k)) (Int32.ofNat k) M) (fun z => z.1 = o2_ (lnq_m S what p (hs_ S)) ∧ cs_ S vs z.2) := by
  have h600 := hw.hist
  have h16 := hw.signs
  intro e
  induction e with
  | zero =>
    intro k n hk hn
    obtain ⟨m, rfl⟩ : ∃ m, n = m + 1 := ⟨n - 1, by omega⟩
    have hkk : k = hs_ S := by omega
    unfold f_X11_lean_42l f_X11_lean_42
    rw [hc.2.1.hs, if_pos ((n3_le (by omega) (by omega)).mpr (by omega)), hkk]
    exact wp_some ⟨rfl, hc⟩
  | succ e ih =>
    intro k n hk hn
    obtain ⟨m, rfl⟩ : ∃ m, n = m + 1 := ⟨n - 1, by omega⟩
    have hks : k < hs_ S := by omega
    have e1 : Int32.ofNat k + 1 = Int32.ofNat (k + 1) := n3_add k 1
    have go := ih (k + 1) m (by omega) (by omega)
    unfold f_X11_lean_42l f_X11_lean_42 f_X11_lean_92
    rw [hc.2.1.hs, if_neg (by rw [n3_le (by omega) (by omega)]; omega)]
    refine wp_be (c_failBy hc.2.1 hw hl hks) ?_
    cases hf : lnq_f S p k (S 0 28) with
    | true =>
      rw [if_pos ((lnq_w hw).mpr hf)]
      refine wp_be (c_held hw hks) (wp_sr (wp_sr (wp_sr ?_)))
      have em : M.1 21 k &&& mk_b (er_ S p) (S 0 28) = mk_b (fun s => er_ S p s && ho_ S s k) (S 0 28) := by
        apply ib_ext
        intro s hs
        rw [ib_and, mk_ib _ (by omega) s hs, mk_ib _ (by omega) s hs]
        by_cases c : s < S 0 28
        · rw [decide_eq_true c, hl s k c hks]
          cases er_ S p s <;> cases ho_ S s k <;> rfl
        · rw [decide_eq_false c]; simp
      have hle : lnq_c S p k (S 0 28) ≤ S 0 28 := nb_le (f := fun s => er_ S p s && ho_ S s k) (S 0 28)
      rw [em, bc_mk h16, show nb_ (fun s => er_ S p s && ho_ S s k) (S 0 28) = lnq_c S p k (S 0 28) from rfl, o2_further hwh (lnq_b hw k) (by omega), e1]
      rw [show lnq_m S what p (k + 1) = fu2_ what (lnq_m S what p k) (lnq_c S p k (S 0 28)) by
        rw [lnq_m, if_pos hf]] at go
      exact go
    | false =>
      rw [if_neg (fun h0 => by rw [(lnq_w hw).mp h0] at hf; cases hf)]
      refine wp_sr ?_
      rw [e1]
      rw [show lnq_m S what p (k + 1) = lnq_m S what p k by rw [lnq_m, if_neg (by rw [hf]; decide)]] at go
      exact go
theorem q_lean_i (hw : wf_ S) (hp : p < 6) (hhi : hi < 600) {q : Int32 → Int32 → Int32 → Int32 → Int32 → mm_M → Option (Int32 × mm_M)} {x2 x3 x4 : Int32} {Q : Int32 × mm_M → Prop} (hQ : ∀ M, rt_ S no_ vs M → wp_ (f_X12_lean_149 q (Int32.ofNat p) x2 x3 x4 (Int32.ofNat hi) (Int32.ofNat (lnq_c S p hi (S 0 28))) (bi_ (lnq_f S p hi (S 0 28))) M) Q) :
    ∀ (e k n : Nat) (M : mm_M), k + e = S 0 28 → e < n → rt_ S no_ vs M → wp_ (f_X12_lean_57l q n (Int32.ofNat p) x2 x3 x4 (Int32.ofNat hi) (Int32.ofNat (lnq_c S p hi k)) (bi_ (lnq_f S p hi k)) (Int32.ofNat k) M) Q := by
  have h16 := hw.signs
  intro e
  induction e with
  | zero =>
    intro k n M hk hn h
    obtain ⟨m, rfl⟩ : ∃ m, n = m + 1 := ⟨n - 1, by omega⟩
    have hkk : k = S 0 28 := by omega
    unfold f_X12_lean_57l f_X12_lean_57
    rw [h.1.1.signs, if_pos ((n3_le (by omega) (by omega)).mpr (by omega)), hkk]
    exact hQ M h
  | succ e ih =>
    intro k n M hk hn h
    obtain ⟨m, rfl⟩ : ∃ m, n = m + 1 := ⟨n - 1, by omega⟩
    have hks : k < S 0 28 := by omega
    have e1 : Int32.ofNat k + 1 = Int32.ofNat (k + 1) := n3_add k 1
    have hix : ix_ok (Int32.ofNat k) 17 := (n3_ix (by omega)).mpr (by omega)
    have et : (Int32.ofNat k).toNatClampNeg = k := n3_tn (by omega)
    obtain ⟨g18, -, -, -, g24, -, g26⟩ := h.1.1.sg hks
    have hpo := hw.poet k hks
    have hki := hw.kind k hks
    have go : ∀ M', rt_ S no_ vs M' → wp_ (f_X12_lean_57l q m (Int32.ofNat p) x2 x3 x4 (Int32.ofNat hi) (Int32.ofNat (lnq_c S p hi (k + 1))) (bi_ (lnq_f S p hi (k + 1))) (Int32.ofNat (k + 1)) M') Q := fun M' h' => ih (k + 1) m M' (by omega) (by omega) h'
    have no : er_ S p k = false → wp_ (f_X12_lean_91 (f_X12_lean_57l q m) (Int32.ofNat p) x2 x3 x4 (Int32.ofNat hi) (Int32.ofNat (lnq_c S p hi k)) (bi_ (lnq_f S p hi k)) (Int32.ofNat k) M) Q := by
      intro her
      rw [lnq_cs, lnq_fs, her, Bool.false_and, if_neg (by decide), Nat.add_zero, show lnq_o S p hi k = (!decide (S 26 k = 1) || ho_ S k hi) by unfold lnq_o; rw [her, Bool.false_or]] at go
      unfold f_X12_lean_91 f_X12_lean_92 f_X12_lean_143
      rw [if_pos rfl]
      refine wp_ck hix ?_
      simp only [et]
      rw [g26]
      by_cases con : S 26 k = 1
      · rw [if_neg (fun h0 => (on_ne hw hks).mp h0 con)]
        rw [decide_eq_true con, Bool.not_true, Bool.false_or] at go
        cases hf : lnq_f S p hi k with
        | false =>
          rw [if_pos (by decide)]
          refine wp_sr ?_
          rw [e1]
          rw [hf, Bool.false_and] at go
          exact go M h
        | true =>
          rw [if_neg (by decide)]
          refine wp_bd (wp_mo (r_heldS h.1 hw hks (show hi < 2147483648 by omega)) (fun z hz => wp_sr ?_))
          rw [hz.2, e1]
          rw [hf, Bool.true_and] at go
          exact go z.2 (h.fr2 hz.1)
      · rw [if_pos ((on_ne hw hks).mpr con)]
        refine wp_sr ?_
        rw [e1]
        rw [decide_eq_false con, Bool.not_false, Bool.true_or, Bool.and_true] at go
        exact go M h
    unfold f_X12_lean_57l f_X12_lean_57
    rw [h.1.1.signs, if_neg (by rw [n3_le (by omega) (by omega)]; omega)]
    refine wp_ck hix ?_
    simp only [et]
    rw [g18]
    by_cases c : S 18 k = 0
    · rw [if_pos (show Int32.ofNat (S 18 k) = 0 by rw [c]; rfl)]
      refine wp_ck hix ?_
      rw [g24]
      by_cases c2 : S 24 k = p
      · rw [if_pos (by rw [c2])]
        have her : er_ S p k = true := decide_eq_true ⟨c, c2⟩
        rw [lnq_cs, lnq_fs, her, Bool.true_and, show lnq_o S p hi k = true by unfold lnq_o; rw [her, Bool.true_or], Bool.and_true] at go
        unfold f_X12_lean_92 f_X12_lean_143
        rw [if_neg (by decide)]
        refine wp_bd (wp_mo (r_heldS h.1 hw hks (show hi < 2147483648 by omega)) (fun z hz => wp_sr (wp_sr (wp_sr ?_))))
        rw [hz.2, e1]
        rw [show ho_ S k hi = ho_n S no_ k hi from rfl] at go
        cases hh : ho_n S no_ k hi with
        | false =>
          rw [hh, if_neg (by decide)] at go
          rw [show f_X12_truth (bi_ false) = Int32.ofNat 0 from rfl, n3_add]
          exact go z.2 (h.fr2 hz.1)
        | true =>
          rw [hh, if_pos rfl] at go
          rw [show f_X12_truth (bi_ true) = Int32.ofNat 1 from rfl, n3_add]
          exact go z.2 (h.fr2 hz.1)
      · rw [if_neg (by rw [n3_eq (by omega) (by omega)]; exact c2)]
        exact no (decide_eq_false (fun hh => c2 hh.2))
    · rw [if_neg (show ¬ (Int32.ofNat (S 18 k) = 0) from fun hh => c ((n3_eq (b := 0) (by omega) (by omega)).mp hh))]
      exact no (decide_eq_false (fun hh => c hh.1))
theorem q_lean_l (hw : wf_ S) (hp : p < 6) (hwh : what < 2) : ∀ (e k n : Nat) (M : mm_M), k + e = hs_ S → e < n → rt_ S no_ vs M →
    wp_ (f_X12_lean_41l n (Int32.ofNat p) (Int32.ofNat what) (o2_ (lnq_m S what p k)) (Int32.ofNat (hs_ S)) (Int32.ofNat k) M) (fun z => z.1 = o2_ (lnq_m S what p (hs_ S)) ∧ rt_ S no_ vs z.2) := by
  have h600 := hw.hist
  have h16 := hw.signs
  intro e
  induction e with
  | zero =>
    intro k n M hk hn h
    obtain ⟨m, rfl⟩ : ∃ m, n = m + 1 := ⟨n - 1, by omega⟩
    have hkk : k = hs_ S := by omega
    unfold f_X12_lean_41l f_X12_lean_41
    rw [if_pos ((n3_le (by omega) (by omega)).mpr (by omega)), hkk]
    exact wp_some ⟨rfl, h⟩
  | succ e ih =>
    intro k n M hk hn h
    obtain ⟨m, rfl⟩ : ∃ m, n = m + 1 := ⟨n - 1, by omega⟩
    have hks : k < hs_ S := by omega
    have e1 : Int32.ofNat k + 1 = Int32.ofNat (k + 1) := n3_add k 1
    have hw0 : (Int32.ofNat what = 0) ↔ what = 0 := n3_eq (b := 0) (by omega) (by omega)
    unfold f_X12_lean_41l f_X12_lean_41
    rw [if_neg (by rw [n3_le (by omega) (by omega)]; omega)]
    refine q_lean_i (vs := vs) (hi := k) hw hp (by omega) (fun M' h' => ?_) (S 0 28) 0 fu_ M (by omega) (by unfold fu_; omega) h
    have go := ih (k + 1) m M' (by omega) (by omega) h'
    unfold f_X12_lean_149 f_X12_lean_182 f_X12_lean_183
    cases hf : lnq_f S p k (S 0 28) with
    | false =>
      rw [show lnq_m S what p (k + 1) = lnq_m S what p k by rw [lnq_m, if_neg (by rw [hf]; decide)]] at go
      rw [if_pos (by decide)]
      refine wp_sr ?_
      rw [e1]
      exact go
    | true =>
      rw [show lnq_m S what p (k + 1) = fu2_ what (lnq_m S what p k) (lnq_c S p k (S 0 28)) by rw [lnq_m, if_pos hf]] at go
      rw [if_neg (by decide)]
      have hle : lnq_c S p k (S 0 28) ≤ S 0 28 := nb_le (f := fun s => er_ S p s && ho_ S s k) (S 0 28)
      have hfu := o2_further hwh (lnq_b (what := what) (p := p) hw k) (show lnq_c S p k (S 0 28) < 1000 by omega)
      unfold f_X11_further at hfu
      by_cases c : 0 ≤ o2_ (lnq_m S what p k)
      · rw [if_pos c]
        have hn2 : ¬ (o2_ (lnq_m S what p k) = -2) := fun h => by rw [h] at c; exact absurd c (by decide)
        rw [if_neg hn2] at hfu
        by_cases c2 : what = 0
        · rw [if_pos (hw0.mpr c2)] at hfu ⊢
          refine wp_sr ?_
          rw [e1, hfu]; exact go
        · rw [if_neg (fun h => c2 (hw0.mp h))] at hfu ⊢
          refine wp_sr ?_
          rw [e1, hfu]; exact go
      · rw [if_neg c]
        have hn2 : o2_ (lnq_m S what p k) = -2 := by
          cases hs2 : lnq_m S what p k with
          | none => rfl
          | some x => exact absurd ((o2_nn (lnq_b (what := what) (p := p) hw k)).mpr ⟨x, hs2⟩) c
        rw [if_pos hn2] at hfu
        refine wp_sr ?_
        rw [e1, hfu]; exact go
theorem m_lean (h : rl_ Mc Mr) (x1 x2 : Int32) : bo_ (f_X11_lean x1 x2 Mc) (f_X12_lean x1 x2 Mr) := by
  obtain ⟨S, vs, hw, hv, hc, hr⟩ := h
  have hr1 := hr.th
  have hrl : rl_ Mc (mm_si Mr 0 0 0) := ⟨S, vs, hw, hv, hc, hr1⟩
  have h600 := hw.hist
  unfold f_X11_lean f_X12_lean
  rw [sq_n (x := mm_si Mr 0 0 0), show f_X11_isBelow x1 6 = f_X11_isPlace x1 from rfl, c_isPlace, show (2 : Int32) = Int32.ofNat 2 from rfl, c_bl (by omega), show (5 : Int64) = Int64.ofNat 5 from rfl, r_in0 (by omega), show (1 : Int64) = Int64.ofNat 1 from rfl, r_in0 (by omega)]
  refine bo_g hrl (fun b1 => bo_g hrl (fun b2 => ?_))
  obtain ⟨p, rfl, hp⟩ := lt_nat b1 (by omega)
  obtain ⟨what, rfl, hwh⟩ := lt_nat b2 (by omega)
  refine bo_mk (A := o2_ (lnq_m S what p (hs_ S))) hw hv ?_ ?_
  · refine wp_bd (wp_mo (hc.look hw) (fun z hz => ?_))
    unfold f_X11_lean_26
    refine wp_be (c_rhymesOf hz.1.2.1 hw hp) ?_
    exact k_lean_l hw hp hwh hz.1 hz.2.1 (hs_ S) 0 fu_ (by omega) (by unfold fu_; omega)
  · refine wp_be (r_hist hr1.1.1 hw) ?_
    exact q_lean_l hw hp hwh (hs_ S) 0 fu_ _ (by omega) (by unfold fu_; omega) hr1
end VO1
