/-! CALLS: ahead -/
section VP1
variable {S S' : sg_} {M M0 Mc Mr Z : mm_M} {vs : List Nat} {nv : Nat → Bool} {W : Nat} {pt : Nat → List Nat} {p what g : Nat}
/-- a course walked with a lag g -/
theorem c_amlag (ht : tc_ S M W pt) (hI : ic_ S M) (hw : wf_ S) {h : Nat} (hh : h < hs_ S) {x2 x3 : Int32} {nv : Nat → Bool} {y : Nat} (hup : yb_ x2 ((y : Int) - (g : Int))) (ham : am_ x3 nv) :
    wp_ (f_X3_courseAmong (Int32.ofNat h) x2 x3 M) (fun z => ∃ W' pt' d, z.1 = Int32.ofNat d ∧ d < W' ∧ pt' d = (or_ S h).filter (fun l => !nv l && decide (yr_ S l h + g ≤ y)) ∧ px_ W pt W' pt' ∧ fc_ M z.2 ∧ tc_ S z.2 W' pt') := by
  have h600 := hw.hist
  have h6 := hw.laws
  unfold f_X3_courseAmong
  refine wp_ck ((n3_ix (by omega)).mpr (by omega)) (wp_sr ?_)
  rw [n3_tn (by omega), hI.yrs h hh]
  have hl := or_len (S := S) h
  refine wp_mo (c_among_l hw hh hup ham (or_ S h) [] 0 M W pt fu_ rfl (by unfold fu_; omega) ht hI (by have := ht.w1; omega) (fun x hx => by rw [ht.root] at hx; exact hx)) (fun z hz => ?_)
  obtain ⟨W', pt', d, z1, z2, z3, z4⟩ := hz
  refine ⟨W', pt', d, z1, z2, ?_, z4⟩
  rw [z3, ht.root, List.nil_append]
  by_cases hc : g ≤ y
  · have e2 : (fun l => decide ((yr_ S l h : Int) ≤ (y : Int) - (g : Int))) = fun l => decide (yr_ S l h ≤ y - g) := by
      funext l; apply decide_eq_decide.mpr; omega
    rw [e2, ← sr_take _ (or_sr h), List.filter_filter]
    congr 1
    funext l
    congr 1
    apply decide_eq_decide.mpr; omega
  · have e2 : (or_ S h).takeWhile (fun l => decide ((yr_ S l h : Int) ≤ (y : Int) - (g : Int))) = [] := by
      cases or_ S h with
      | nil => rfl
      | cons a as => rw [List.takeWhile_cons, if_neg (by simp; omega)]
    rw [e2]
    symm
    apply List.filter_eq_nil_iff.mpr
    intro x _
    simp; intro _; omega
/-- the lag of place p is g -/
def tl1_ (S : sg_) (p g : Nat) : sg_ := lg_s S (fun q => if q = p then g else S 13 q)
theorem tl1_co : co_ S (tl1_ S p g) := lg_co
theorem tl1_o {x y : Nat} (h : ¬ (x = 13)) : tl1_ S p g x y = S x y := lg_o h
theorem tl1_wf (hw : wf_ S) (hg : g ≤ 200) : wf_ (tl1_ S p g) := wf_lg hw (fun q hq => by
  show (if q = p then g else S 13 q) ≤ 200
  split
  · exact hg
  · exact hw.lag q hq)
theorem tl1_ho1 {s h : Nat} (hp : S 22 s ≠ p) : ho_ (tl1_ S p g) s h = ho_ S s h :=
  tl1_co.ho (fun x h1 h2 => tl1_o (by omega)) (by unfold tl1_; rw [lg_13, if_neg hp]) no_ h
theorem tl1_pa {h y : Nat} : pa_ (tl1_ S p g) nv h y p = (or_ S h).filter (fun l => !nv l && decide (yr_ S l h + g ≤ y)) := by
  rw [pa_filter, tl1_co.or]
  congr 1
  funext l
  rw [tl1_co.yr]
  unfold tl1_
  rw [lg_13, if_pos rfl]
theorem tl1_ho2 {s h d : Nat} (ht : tc_ S M W pt) (hI : ic_ S M) (hw : wf_ S) (hs : s < S 0 28) (hd : d < W) (hp : S 22 s = p) (hpt : pt d = (or_ S h).filter (fun l => !no_ l && decide (yr_ S l h + g ≤ S 21 s))) : f_X5_isSoOn (22 + s) (Int32.ofNat d) M = some (bi_ (ho_ (tl1_ S p g) s h)) := by
  rw [c_soOn ht hI hw (sc_sco hI hs) (hw.kind s hs) (nm_le hw hs) (hw.one s hs) (fun h2 h3 => (hw.oth s hs h2 h3).1) hd, hpt]
  unfold ho_ ho_n sd_n
  rw [tl1_o (x := 18) (by omega), tl1_o (x := 19) (by omega), tl1_o (x := 20) (by omega), tl1_o (x := 21) (by omega), tl1_o (x := 22) (by omega), tl1_o (x := 23) (by omega), hp, tl1_pa, tl1_co.sa, tl1_co.sa, tl1_co.wd, tl1_co.wd, ho_k_cg (tl1_co.a 3 (by omega) (by omega))]
/-- signs that are on at place p -/
def atp_ (S : sg_) (p s : Nat) : Bool := decide (S 26 s = 1) && decide (S 22 s = p)
def ahd_r (S : sg_) (p g h k : Nat) : Bool := (List.range k).all (fun s => !atp_ S p s || ho_ (tl1_ S p g) s h)
theorem ahd_rs {h k : Nat} : ahd_r S p g h (k + 1) = (ahd_r S p g h k && (!atp_ S p k || ho_ (tl1_ S p g) k h)) := by
  unfold ahd_r
  rw [List.range_succ, List.all_append]
  show (_ && (_ && true)) = _
  rw [Bool.and_true]
theorem ahd_f {h k : Nat} (hk : k ≤ S 0 28) (hf : ahd_r S p g h k = false) : ahd_r S p g h (S 0 28) = false := by
  cases hb : ahd_r S p g h (S 0 28) with
  | false => rfl
  | true =>
    unfold ahd_r at hb hf
    rw [List.all_eq_true] at hb
    have : (List.range k).all (fun s => !atp_ S p s || ho_ (tl1_ S p g) s h) = true := by
      rw [List.all_eq_true]
      intro s hs
      exact hb s (List.mem_range.mpr (by have := List.mem_range.mp hs; omega))
    rw [hf] at this; cases this
theorem k_allso (hw : wf_ S) (hp : p < 6) (hg : g ≤ 200) {h : Nat} (hh : h < hs_ S) : ∀ (e k n : Nat) (M : mm_M), k + e = S 0 28 → e < n → cs_ S vs M → hl_ S M → ahd_r S p g h k = true →
    wp_ (f_X6_allAreSoWithLag_3l n (mk_b (atp_ S p) (S 0 28)) (Int32.ofNat h) (Int32.ofNat g) (Int32.ofNat k) M) (fun z => z.1 = bi_ (ahd_r S p g h (S 0 28)) ∧ cs_ S vs z.2 ∧ hl_ S z.2) := by
  have h16 := hw.signs
  intro e
  induction e with
  | zero =>
    intro k n M hk hn hc hl hr
    obtain ⟨m, rfl⟩ : ∃ m, n = m + 1 := ⟨n - 1, by omega⟩
    have hkk : k = S 0 28 := by omega
    unfold f_X6_allAreSoWithLag_3l f_X6_allAreSoWithLag_3
    rw [hc.2.1.told, if_pos ((n3_le (by omega) (by omega)).mpr (by omega))]
    rw [hkk] at hr
    exact wp_some ⟨by rw [hr]; rfl, hc, hl⟩
  | succ e ih =>
    intro k n M hk hn hc hl hr
    obtain ⟨m, rfl⟩ : ∃ m, n = m + 1 := ⟨n - 1, by omega⟩
    have hks : k < S 0 28 := by omega
    have e1 : Int32.ofNat k + 1 = Int32.ofNat (k + 1) := n3_add k 1
    have hix : ix_ok (Int32.ofNat k) 16 := (n3_ix (by omega)).mpr (by omega)
    have et : (Int32.ofNat k).toNatClampNeg = k := n3_tn (by omega)
    unfold f_X6_allAreSoWithLag_3l f_X6_allAreSoWithLag_3 f_X6_allAreSoWithLag_66
    rw [hc.2.1.told, if_neg (by rw [n3_le (by omega) (by omega)]; omega), ib_bit (by omega), mk_bit (by omega) hks]
    cases hat : atp_ S p k with
    | false =>
      rw [if_pos (by decide)]
      refine wp_sr ?_
      rw [e1]
      exact ih (k + 1) m M (by omega) (by omega) hc hl (by rw [ahd_rs, hr, hat]; rfl)
    | true =>
      rw [if_neg (by decide)]
      have hat2 : S 22 k = p := of_decide_eq_true (and_t hat).2
      obtain ⟨⟨W, pt, ht⟩, hI, -⟩ := id hc
      obtain ⟨-, -, -, -, -, b5, -⟩ := hI.sg k hks
      have hyr := hw.year k hks
      refine wp_ck hix (wp_sr (wp_ck hix ?_))
      simp only [et]
      rw [b5]
      refine wp_bd (wp_mo (c_amlag ht hI hw hh (yb_sub (by omega) hg) am_63) (fun z hz => ?_))
      obtain ⟨W1, pt1, d1, z1, z2, z3, z4, z5, z6⟩ := hz
      have hc1 := hc.fc hw z5 z6
      have hl1 : hl_ S z.2 := hl.fr (fun b => z5.1 21 b (by omega) (by omega))
      unfold f_X6_allAreSoWithLag_54 f_X6_allAreSoWithLag_66
      rw [z1]
      refine wp_be (tl1_ho2 z6 hc1.2.1 hw hks z2 hat2 z3) ?_
      cases hho : ho_ (tl1_ S p g) k h with
      | false =>
        rw [if_pos (by decide)]
        refine wp_some ⟨?_, hc1, hl1⟩
        rw [ahd_f (k := k + 1) (by omega) (by rw [ahd_rs, hr, hat, hho]; rfl)]; rfl
      | true =>
        rw [if_neg (by decide)]
        refine wp_sr ?_
        rw [e1]
        exact ih (k + 1) m z.2 (by omega) (by omega) hc1 hl1 (by rw [ahd_rs, hr, hat, hho]; rfl)
theorem ahd_ft (hw : wf_ S) {h : Nat} : ft_ (tl1_ S p g) h = (decide (wr_ S no_ h &&& (mk_b (atp_ S p) (S 0 28) ^^^ (-1)) = 0) && ahd_r S p g h (S 0 28)) := by
  have h16 := hw.signs
  have hw0 : (wr_ S no_ h &&& (mk_b (atp_ S p) (S 0 28) ^^^ (-1)) = 0) ↔ ∀ s, s < S 0 28 → (atp_ S p s || (!decide (S 26 s = 1) || ho_ S s h)) = true := by
    constructor
    · intro h0 s hs2
      have hb : ib_ (wr_ S no_ h &&& (mk_b (atp_ S p) (S 0 28) ^^^ (-1))) s = false := by rw [h0, ib_0]
      rw [ib_and, ib_not (by omega), wr_ib hw (by omega), mk_bit (by omega) hs2, decide_eq_true hs2] at hb
      rw [show ho_ S s h = ho_n S no_ s h from rfl]
      revert hb
      cases atp_ S p s <;> cases decide (S 26 s = 1) <;> cases ho_n S no_ s h <;> decide
    · intro h0
      apply ib_ext
      intro s hs
      rw [ib_and, ib_not hs, wr_ib hw hs, ib_0, mk_ib _ (by omega) s hs]
      by_cases c : s < S 0 28
      · have := h0 s c
        rw [show ho_ S s h = ho_n S no_ s h from rfl] at this
        rw [decide_eq_true c]
        revert this
        cases atp_ S p s <;> cases decide (S 26 s = 1) <;> cases ho_n S no_ s h <;> decide
      · rw [decide_eq_false c]; rfl
  have hft : ft_ (tl1_ S p g) h = true ↔ ∀ s, s < S 0 28 → (!decide (S 26 s = 1) || ho_ (tl1_ S p g) s h) = true := by
    unfold ft_ ft_n
    rw [List.all_eq_true, tl1_o (by omega)]
    constructor
    · intro h0 s hs
      have := h0 s (List.mem_range.mpr hs)
      rw [tl1_o (by omega)] at this
      exact this
    · intro h0 s hs
      rw [tl1_o (by omega)]
      exact h0 s (List.mem_range.mp hs)
  have hr : ahd_r S p g h (S 0 28) = true ↔ ∀ s, s < S 0 28 → (!atp_ S p s || ho_ (tl1_ S p g) s h) = true := by
    unfold ahd_r
    rw [List.all_eq_true]
    exact ⟨fun h0 s hs => h0 s (List.mem_range.mpr hs), fun h0 s hs => h0 s (List.mem_range.mp hs)⟩
  have key : ft_ (tl1_ S p g) h = true ↔ (decide (wr_ S no_ h &&& (mk_b (atp_ S p) (S 0 28) ^^^ (-1)) = 0) && ahd_r S p g h (S 0 28)) = true := by
    rw [hft, Bool.and_eq_true, decide_eq_true_iff, hw0, hr]
    have pw : ∀ s, ((!decide (S 26 s = 1) || ho_ (tl1_ S p g) s h) = true) ↔ ((atp_ S p s || (!decide (S 26 s = 1) || ho_ S s h)) = true ∧ (!atp_ S p s || ho_ (tl1_ S p g) s h) = true) := by
      intro s
      unfold atp_
      by_cases cp : S 22 s = p
      · rw [decide_eq_true cp, Bool.and_true]
        cases decide (S 26 s = 1) <;> cases ho_ (tl1_ S p g) s h <;> simp
      · rw [decide_eq_false cp, Bool.and_false, tl1_ho1 cp]
        cases decide (S 26 s = 1) <;> cases ho_ S s h <;> simp
    constructor
    · intro h0
      exact ⟨fun s hs => ((pw s).mp (h0 s hs)).1, fun s hs => ((pw s).mp (h0 s hs)).2⟩
    · intro h0 s hs
      exact (pw s).mpr ⟨h0.1 s hs, h0.2 s hs⟩
  cases h1 : ft_ (tl1_ S p g) h with
  | true => exact (key.mp h1).symm
  | false =>
    cases h2 : (decide (wr_ S no_ h &&& (mk_b (atp_ S p) (S 0 28) ^^^ (-1)) = 0) && ahd_r S p g h (S 0 28)) with
    | false => rfl
    | true => rw [key.mpr h2] at h1; cases h1
/-- whether some history fits, lag g at place p -/
def afl_ (S : sg_) (p g k : Nat) : Bool := (List.range k).any (fun h => ft_ (tl1_ S p g) h)
theorem afl_s {k : Nat} : afl_ S p g (k + 1) = (afl_ S p g k || ft_ (tl1_ S p g) k) := by
  unfold afl_
  rw [List.range_succ, List.any_append]
  show (_ || (_ || false)) = _
  rw [Bool.or_false]
theorem afl_t {k n : Nat} (hk : k ≤ n) (h : afl_ S p g k = true) : afl_ S p g n = true := by
  unfold afl_ at h ⊢
  rw [List.any_eq_true] at h ⊢
  obtain ⟨x, h1, h2⟩ := h
  exact ⟨x, List.mem_range.mpr (by have := List.mem_range.mp h1; omega), h2⟩
theorem k_someFits (hw : wf_ S) (hp : p < 6) (hg : g ≤ 200) (hc : cs_ S vs M) (hl : hl_ S M) : wp_ (f_X6_someFitsWithLag (Int32.ofNat p) (Int32.ofNat g) M) (fun z => z.1 = bi_ (afl_ S p g (hs_ S)) ∧ cs_ S vs z.2 ∧ hl_ S z.2) := by
  have h600 := hw.hist
  have h16 := hw.signs
  have key : ∀ (e k n : Nat) (M : mm_M), k + e = hs_ S → e < n → cs_ S vs M → hl_ S M → afl_ S p g k = false →
      wp_ (f_X6_someFitsWithLag_14l n (Int32.ofNat g) (mk_b (atp_ S p) (S 0 28)) (Int32.ofNat k) M) (fun z => z.1 = bi_ (afl_ S p g (hs_ S)) ∧ cs_ S vs z.2 ∧ hl_ S z.2) := by
    intro e
    induction e with
    | zero =>
      intro k n M hk hn hc hl hf
      obtain ⟨m, rfl⟩ : ∃ m, n = m + 1 := ⟨n - 1, by omega⟩
      have hkk : k = hs_ S := by omega
      unfold f_X6_someFitsWithLag_14l f_X6_someFitsWithLag_14
      rw [hc.2.1.hs, if_pos ((n3_le (by omega) (by omega)).mpr (by omega))]
      rw [hkk] at hf
      exact wp_some ⟨by rw [hf]; rfl, hc, hl⟩
    | succ e ih =>
      intro k n M hk hn hc hl hf
      obtain ⟨m, rfl⟩ : ∃ m, n = m + 1 := ⟨n - 1, by omega⟩
      have hks : k < hs_ S := by omega
      have e1 : Int32.ofNat k + 1 = Int32.ofNat (k + 1) := n3_add k 1
      have hft := ahd_ft (p := p) (g := g) (h := k) hw
      unfold f_X6_someFitsWithLag_14l f_X6_someFitsWithLag_14 f_X6_someFitsWithLag_52
      rw [hc.2.1.hs, if_neg (by rw [n3_le (by omega) (by omega)]; omega)]
      refine wp_be (c_failBy hc.2.1 hw hl hks) ?_
      by_cases c : wr_ S no_ k &&& (mk_b (atp_ S p) (S 0 28) ^^^ (-1)) = 0
      · rw [if_pos c]
        rw [decide_eq_true c, Bool.true_and] at hft
        refine wp_bd (wp_mo (k_allso hw hp hg hks (S 0 28) 0 fu_ M (by omega) (by unfold fu_; omega) hc hl rfl) (fun z hz => ?_))
        obtain ⟨z1, z2, z3⟩ := hz
        unfold f_X6_someFitsWithLag_47 f_X6_someFitsWithLag_52
        rw [z1, ← hft]
        cases h1 : ft_ (tl1_ S p g) k with
        | false =>
          rw [if_pos (by decide)]
          refine wp_sr ?_
          rw [e1]
          exact ih (k + 1) m z.2 (by omega) (by omega) z2 z3 (by rw [afl_s, hf, h1]; rfl)
        | true =>
          rw [if_neg (by decide)]
          refine wp_some ⟨?_, z2, z3⟩
          rw [afl_t (k := k + 1) (by omega) (by rw [afl_s, h1, Bool.or_true])]; rfl
      · rw [if_neg c]
        rw [decide_eq_false c, Bool.false_and] at hft
        refine wp_sr ?_
        rw [e1]
        exact ih (k + 1) m M (by omega) (by omega) hc hl (by rw [afl_s, hf, hft]; rfl)
  unfold f_X6_someFitsWithLag
  refine wp_be (c_atPlace hc.2.1 hw hp) (wp_sr ?_)
  have em : M.1 19 4 &&& mk_b (fun s => decide (S 22 s = p)) (S 0 28) = mk_b (atp_ S p) (S 0 28) := by
    rw [hc.2.1.on]
    apply ib_ext
    intro s hs
    rw [ib_and, mk_ib _ (by omega) s hs, mk_ib _ (by omega) s hs, mk_ib _ (by omega) s hs]
    unfold atp_
    cases decide (s < S 0 28) <;> cases decide (S 26 s = 1) <;> cases decide (S 22 s = p) <;> rfl
  rw [em]
  exact key (hs_ S) 0 fu_ M (by omega) (by unfold fu_; omega) hc hl rfl
end VP1
