/-! CALLS: swap; the histories that fit, gathered; fits -/
section UF1
variable {S : sg_} {M Mc Mr : mm_M} {vs : List Nat} {nv : Nat → Bool} {W : Nat} {pt : Nat → List Nat}
theorem sw_inv {a b l : Nat} : sw_f (some (a, b)) (sw_f (some (a, b)) l) = l := by
  unfold sw_f
  by_cases c1 : l = a
  · simp only [c1, if_true]
    by_cases c2 : b = a
    · rw [if_pos c2, c2]
    · rw [if_neg c2]
  · simp only [if_neg c1]
    by_cases c2 : l = b
    · simp only [c2, if_true]
    · simp only [if_neg c2, if_neg c1]
theorem sw_inj {a b l m : Nat} (h : sw_f (some (a, b)) l = sw_f (some (a, b)) m) : l = m := by
  rw [← sw_inv (a := a) (b := b) (l := l), h, sw_inv]
theorem c_swp_l (hw : wf_ S) {h a b : Nat} (hh : h < hs_ S) (ha : a < S 0 11) (hb : b < S 0 11) {x2 : Int32} {T : Int} (hup : yb_ x2 T) :
    ∀ (rest pre : List Nat) (c : Nat) (M : mm_M) (W : Nat) (pt : Nat → List Nat) (n : Nat), or_ S h = pre ++ rest → rest.length < n → tc_ S M W pt → ic_ S M → c < W → pt c = pre.map (sw_f (some (a, b))) →
    wp_ (f_X3_courseSwapped_6l n (Int32.ofNat h) x2 (Int32.ofNat a) (Int32.ofNat b) (Int32.ofNat c) (Int32.ofNat pre.length) M)
      (fun z => ∃ W' pt' d, z.1 = Int32.ofNat d ∧ d < W' ∧ pt' d = (pre ++ rest.takeWhile (fun l => decide ((yr_ S l h : Int) ≤ T))).map (sw_f (some (a, b))) ∧ px_ W pt W' pt' ∧ fc_ M z.2 ∧ tc_ S z.2 W' pt') := by
  have h600 := hw.hist
  have h6 := hw.laws
  have hlen := or_len (S := S) h
  have hnd := or_nd (S := S) h
  intro rest
  induction rest with
  | nil =>
    intro pre c M W pt n e1 hn ht hI hc hp
    obtain ⟨m, rfl⟩ : ∃ m, n = m + 1 := ⟨n - 1, by omega⟩
    have hl : pre.length = S 0 11 := by rw [← hlen, e1]; simp
    unfold f_X3_courseSwapped_6l f_X3_courseSwapped_6
    rw [hI.laws2, if_pos ((n3_le (by omega) (by omega)).mpr (by omega))]
    exact wp_some ⟨W, pt, c, rfl, hc, by simp [hp], px_.refl, fc_.refl, ht⟩
  | cons l rest ih =>
    intro pre c M W pt n e1 hn ht hI hc hp
    obtain ⟨m, rfl⟩ : ∃ m, n = m + 1 := ⟨n - 1, by omega⟩
    have hl : pre.length + (rest.length + 1) = S 0 11 := by rw [← hlen, e1]; simp
    have hat : (or_ S h)[pre.length]? = some l := by rw [e1]; simp
    have hlL : l < S 0 11 := or_mem.mp (List.mem_of_getElem? hat)
    have hy := yr_le (h := h) hw hlL
    have e2 : Int32.ofNat pre.length + 1 = Int32.ofNat (pre ++ [l]).length := by
      rw [show (pre ++ [l]).length = pre.length + 1 from by simp]; exact n3_add _ 1
    unfold f_X3_courseSwapped_6l f_X3_courseSwapped_6
    rw [hI.laws2, if_neg (by rw [n3_le (by omega) (by omega)]; omega)]
    refine wp_ck ((n3_ix (by omega)).mpr (by omega)) ?_
    rw [n3_tn (by omega), hI.yrs h hh, c_yearIn hw hat]
    refine wp_sr ?_
    rw [List.takeWhile_cons]
    by_cases c1 : T < (yr_ S l h : Int)
    · rw [if_pos ((hup _ hy).mpr c1)]
      refine wp_some ⟨W, pt, c, rfl, hc, ?_, px_.refl, fc_.refl, ht⟩
      rw [if_neg (by simp; omega), List.append_nil]; exact hp
    · rw [if_neg (by rw [hup _ hy]; exact c1), if_pos (by simp; omega)]
      refine wp_be (c_lawAt hI hw hh hat) ?_
      have hsl : sw_f (some (a, b)) l < S 0 11 := sw_lt (fun x y hxy => by cases hxy; exact ⟨ha, hb⟩) hlL
      have hnm : sw_f (some (a, b)) l ∉ pt c := fun hm => by
        rw [hp, List.mem_map] at hm
        obtain ⟨x, hx, hxe⟩ := hm
        have := sw_inj hxe
        rw [this] at hx
        rw [e1, List.nodup_append] at hnd
        exact hnd.2.2 l hx l (by simp) rfl
      have key : wp_ (f_X3_courseSwapped_69 (f_X3_courseSwapped_6l m) (Int32.ofNat h) x2 (Int32.ofNat a) (Int32.ofNat b) (Int32.ofNat pre.length) (Int32.ofNat c) (Int32.ofNat (sw_f (some (a, b)) l)) M)
          (fun z => ∃ W' pt' d, z.1 = Int32.ofNat d ∧ d < W' ∧ pt' d = (pre ++ l :: rest.takeWhile (fun l => decide ((yr_ S l h : Int) ≤ T))).map (sw_f (some (a, b))) ∧ px_ W pt W' pt' ∧ fc_ M z.2 ∧ tc_ S z.2 W' pt') := by
        unfold f_X3_courseSwapped_69 f_X3_courseSwapped_72
        refine wp_bd (wp_mo (c_after ht hw hI hc hsl hnm) (fun z hz => ?_))
        obtain ⟨W1, pt1, d1, z1, z2, z3, z4, z5, z6⟩ := hz
        refine wp_sr ?_
        rw [e2, z1]
        refine wp_mo (ih (pre ++ [l]) d1 z.2 W1 pt1 m (by rw [e1]; simp) (by simp at hn; omega) z6 (z5.ic hw hI) z2 (by rw [z3, hp]; simp)) (fun r hr => ?_)
        obtain ⟨W2, pt2, d2, r1, r2, r3, r4, r5, r6⟩ := hr
        refine ⟨W2, pt2, d2, r1, r2, ?_, z4.trans r4, z5.trans r5, r6⟩
        rw [r3, List.append_assoc]; rfl
      unfold sw_f at key
      by_cases ca : l = a
      · rw [if_pos (by rw [ca])]
        simp only [if_pos ca] at key
        exact key
      · rw [if_neg (by rw [n3_eq (by omega) (by omega)]; exact ca)]
        simp only [if_neg ca] at key
        by_cases cb : l = b
        · rw [if_pos (by rw [cb])]
          simp only [if_pos cb] at key
          exact key
        · rw [if_neg (by rw [n3_eq (by omega) (by omega)]; exact cb)]
          simp only [if_neg cb] at key
          exact key
theorem pa_take {h y p : Nat} : (or_ S h).takeWhile (fun l => decide ((yr_ S l h : Int) ≤ (y : Int) - (S 13 p : Int))) = pa_ S no_ h y p := by
  rw [pa_filter]
  by_cases hc : S 13 p ≤ y
  · have e2 : (fun l => decide ((yr_ S l h : Int) ≤ (y : Int) - (S 13 p : Int))) = fun l => decide (yr_ S l h ≤ y - S 13 p) := by
      funext l; apply decide_eq_decide.mpr; omega
    rw [e2, ← sr_take _ (or_sr h)]
    congr 1
    funext l
    show _ = (!false && _)
    rw [Bool.not_false, Bool.true_and]
    apply decide_eq_decide.mpr; omega
  · have e2 : (or_ S h).takeWhile (fun l => decide ((yr_ S l h : Int) ≤ (y : Int) - (S 13 p : Int))) = [] := by
      cases or_ S h with
      | nil => rfl
      | cons a as => rw [List.takeWhile_cons, if_neg (by simp; omega)]
    rw [e2]
    symm
    apply List.filter_eq_nil_iff.mpr
    intro x _
    simp; intro _; omega
/-- how a word would be said with two laws in each other's place -/
def sx_ (S : sg_) (a b w h y p : Nat) : List Nat := sa_l S ((pa_ S no_ h y p).map (sw_f (some (a, b)))) (wd_w S w)
theorem q_swap_l (hw : wf_ S) {a b hi y p : Nat} (ha : a < S 0 11) (hb : b < S 0 11) (hh : hi < 2147483648) (hy : y < 601) (hp : p < 6) : ∀ (e k n : Nat) (M : mm_M), k + e = S 0 8 → e < n → rt_ S no_ vs M →
    wp_ (f_X12_swap_80l n (Int32.ofNat a) (Int32.ofNat b) (Int32.ofNat hi) (Int32.ofNat y) (Int32.ofNat p) (mk_b (fun w => decide (sd_ S w hi y p ≠ sx_ S a b w hi y p)) k) (Int32.ofNat k) M) (fun z => z.1 = mk_b (fun w => decide (sd_ S w hi y p ≠ sx_ S a b w hi y p)) (S 0 8) ∧ rt_ S no_ vs z.2) := by
  have h20 := hw.words
  have hL := hw.laws
  intro e
  induction e with
  | zero =>
    intro k n M hk hn h
    obtain ⟨m, rfl⟩ : ∃ m, n = m + 1 := ⟨n - 1, by omega⟩
    have hkk : k = S 0 8 := by omega
    unfold f_X12_swap_80l f_X12_swap_80
    rw [h.1.1.words, if_pos ((n3_le (by omega) (by omega)).mpr (by omega)), hkk]
    exact wp_some ⟨rfl, h⟩
  | succ e ih =>
    intro k n M hk hn h
    obtain ⟨m, rfl⟩ : ∃ m, n = m + 1 := ⟨n - 1, by omega⟩
    have hkw : k < S 0 8 := by omega
    unfold f_X12_swap_80l f_X12_swap_80
    rw [h.1.1.words, if_neg (by rw [n3_le (by omega) (by omega)]; omega)]
    refine wp_bd (wp_mo (r_sd (hand := 0) h.1 hw hkw (by omega) hh (by omega) hp) (fun z1 hz1 => wp_sr (wp_sr ?_)))
    have f1 : fr_ pw_s2 M z1 := hz1.1.mono (fun a b h => pw_sa2 h)
    have h1 := h.fr2 f1
    -- with the two swapped
    have fs : fr_ (fun a b => a = 0 ∧ (b = 26 ∨ b = 27)) z1 (mm_si (mm_si z1 0 26 (Int32.ofNat a)) 0 27 (Int32.ofNat b)) := fr_.trans (fr_si (by omega)) (fr_si (by omega))
    have i2 : ir_ S (mm_si (mm_si z1 0 26 (Int32.ofNat a)) 0 27 (Int32.ofNat b)) := fs.ir h1.1.1 (fun x y hxy hpe => by
      obtain ⟨rfl, hyy⟩ := hxy
      have := pe_0 hpe
      omega)
    have n2 : nv_ (mm_si (mm_si z1 0 26 (Int32.ofNat a)) 0 27 (Int32.ofNat b)) no_ := fun l hl => by rw [fs.1 0 25 (by omega)]; exact h1.1.2.1 l hl
    have w2 : sw_ (mm_si (mm_si z1 0 26 (Int32.ofNat a)) 0 27 (Int32.ofNat b)) (some (a, b)) := ⟨by rw [si_1, if_neg (by omega), si_1, if_pos ⟨rfl, rfl⟩], by rw [si_1, if_pos ⟨rfl, rfl⟩], by omega, by omega⟩
    refine wp_bd (wp_mo (r_says (hand := 1) i2 hw hkw (by omega) n2 w2 (fun x y hxy => by cases hxy; exact ⟨ha, hb⟩) hh (by omega) hp) (fun z2 hz2 => wp_sr (wp_sr ?_)))
    have fb : fr_ (fun a b => a = 0 ∧ (b = 26 ∨ b = 27)) z2 (mm_si (mm_si z2 0 26 (-1)) 0 27 (-1)) := fr_.trans (fr_si (by omega)) (fr_si (by omega))
    have hk8 := (sd_ok hw hkw (nv := no_) (h := hi) (y := y) (p := p)).1
    have d0 : hd_ (mm_si (mm_si z2 0 26 (-1)) 0 27 (-1)) 0 (sd_ S k hi y p) := ((hz1.2.fr fs (by omega) (fun _ _ => by omega)).fr hz2.1 (by simp [pw_sa, pw_wk, pw_ln]) (fun i hi2 => by unfold pw_sa pw_wk pw_ln; omega)).fr fb (by omega) (fun _ _ => by omega)
    have d1 : hd_ (mm_si (mm_si z2 0 26 (-1)) 0 27 (-1)) 1 (sx_ S a b k hi y p) := hz2.2.fr fb (by omega) (fun _ _ => by omega)
    have ho : ok_ (sx_ S a b k hi y p) := sa_ok hw _ _ (fun x hx => by
      rw [List.mem_map] at hx
      obtain ⟨l, hl, rfl⟩ := hx
      exact sw_lt (fun x y hxy => by cases hxy; exact ⟨ha, hb⟩) (pa_mem hl)) (wd_ok hw hkw)
    have h3 : rt_ S no_ vs (mm_si (mm_si z2 0 26 (-1)) 0 27 (-1)) := by
      have e0 : ∀ x q, ¬ pw_s2 x q → ¬ (x = 0 ∧ (q = 26 ∨ q = 27)) → (mm_si (mm_si z2 0 26 (-1)) 0 27 (-1)).1 x q = M.1 x q := by
        intro x q hs hq
        rw [fb.1 x q hq, hz2.1.1 x q (fun hh => hs (pw_sa2 hh)), fs.1 x q hq, f1.1 x q hs]
      refine ⟨⟨h.1.1.fr (fun x q hpe => e0 x q (fun hh => pw_s2_pe hh hpe) (fun hh => ?_)), fun l hl => ?_, ?_⟩, ?_, ?_⟩
      · obtain ⟨rfl, hyy⟩ := hh
        have := pe_0 hpe
        omega
      · rw [e0 0 25 (by simp [pw_s2]) (by omega)]; exact h.1.2.1 l hl
      · show (mm_si (mm_si z2 0 26 (-1)) 0 27 (-1)).1 0 26 = -1
        rw [si_1, if_neg (by omega), si_1, if_pos ⟨rfl, rfl⟩]
      · rw [e0 0 1 (by simp [pw_s2]) (by omega)]; exact h.2.1
      · intro j v hv
        rw [fb.2, hz2.1.2, fs.2, f1.2]; exact h.2.2 j v hv
    refine wp_be (r_al (sd_ok hw hkw) ho d0 d1) ?_
    have e1 : Int32.ofNat k + 1 = Int32.ofNat (k + 1) := n3_add k 1
    have go := ih (k + 1) m _ (by omega) (by omega) h3
    rw [show mk_b (fun w => decide (sd_ S w hi y p ≠ sx_ S a b w hi y p)) (k + 1) = mk_b (fun w => decide (sd_ S w hi y p ≠ sx_ S a b w hi y p)) k ||| (if decide (sd_ S k hi y p ≠ sx_ S a b k hi y p) = true then 1 <<< (Int32.ofNat k &&& 31) else 0) from rfl] at go
    unfold f_X12_swap_150
    by_cases c : sd_ S k hi y p = sx_ S a b k hi y p
    · have c' : sd_n S no_ k hi y p = sx_ S a b k hi y p := c
      rw [decide_eq_true c', if_neg (by decide)]
      refine wp_sr (wp_sr ?_)
      rw [if_neg (by rw [decide_eq_false (fun hh => hh c)]; decide)] at go
      rw [e1]
      exact go
    · have c' : ¬ sd_n S no_ k hi y p = sx_ S a b k hi y p := c
      rw [decide_eq_false c', if_pos (by decide)]
      refine wp_sr (wp_sr ?_)
      rw [if_pos (decide_eq_true c)] at go
      rw [e1]
      exact go
theorem m_swap (h : rl_ Mc Mr) (x1 x2 x3 x4 x5 : Int32) : bo_ (f_X11_swap x1 x2 x3 x4 x5 Mc) (f_X12_swap x1 x2 x3 x4 x5 Mr) := by
  obtain ⟨S, vs, hw, hv, hc, hr⟩ := h
  have hr1 := hr.th
  have hrl : rl_ Mc (mm_si Mr 0 0 0) := ⟨S, vs, hw, hv, hc, hr1⟩
  have h600 := hw.hist
  have h20 := hw.words
  have hL := hw.laws
  unfold f_X11_swap f_X12_swap
  rw [sq_n (x := mm_si Mr 0 0 0), c_isLaw (x := x1) hc.2.1 hw, c_isLaw (x := x2) hc.2.1 hw, c_isThen hc.2.1 hw, r_isLaw (x := x1) hr1.1.1 hw, r_isLaw (x := x2) hr1.1.1 hw, r_isHist hr1.1.1 hw, r_isThen]
  refine bo_g hrl (fun b0 => bo_g hrl (fun b1 => ?_))
  by_cases hne : x1 = x2
  · rw [if_pos hne, if_pos hne]; exact bo_no hrl
  · rw [if_neg hne, if_neg hne]
    refine bo_gt hrl (fun b2 b3 => ?_)
    obtain ⟨a, rfl, ha⟩ := lt_nat b0 (by omega)
    obtain ⟨b, rfl, hb⟩ := lt_nat b1 (by omega)
    obtain ⟨hi, rfl, hhi⟩ := lt_nat b2 (by omega)
    obtain ⟨y, rfl, hy⟩ := lt_nat (and_t b3).1 (by omega)
    obtain ⟨p, rfl, hp⟩ := lt_nat (and_t b3).2 (by omega)
    rw [c_hasCome hc.2.1 hw hhi ha hy hp, c_hasCome hc.2.1 hw hhi hb hy hp, r_hasCome hr1.1.1 hw (by omega) ha hy hp, r_hasCome hr1.1.1 hw (by omega) hb hy hp]
    cases decide (yr_ S a hi + S 13 p ≤ y) with
    | false => rw [gb_f, gb_f]; exact bo_no hrl
    | true =>
      rw [gb_t, gb_t]
      cases decide (yr_ S b hi + S 13 p ≤ y) with
      | false => rw [gb_f, gb_f]; exact bo_no hrl
      | true =>
        rw [gb_t, gb_t]
        refine bo_mk hw hv ?_ (q_swap_l hw ha hb (by omega) hy hp (S 0 8) 0 fu_ _ (by omega) (by unfold fu_; omega) hr1)
        refine wp_ck ((n3_ix (by omega)).mpr hp) ?_
        rw [n3_tn (by omega), hc.2.1.lag p hp]
        obtain ⟨⟨W, pt, ht⟩, hI, hk, hro⟩ := id hc
        have hlen := or_len (S := S) hi
        unfold f_X3_courseSwapped
        refine wp_bd (wp_mo (c_swp_l hw hhi ha hb (yb_sub (y := y) (by omega) (hw.lag p hp)) (or_ S hi) [] 0 Mc W pt fu_ rfl (by unfold fu_; omega) ht hI (by have := ht.w1; omega) ht.root) (fun z hz => ?_))
        obtain ⟨W1, pt1, d1, z1, z2, z3, z4, z5, z6⟩ := hz
        rw [List.nil_append, pa_take] at z3
        have hc1 := hc.fc hw z5 z6
        unfold f_X11_swap_92
        rw [z1]
        refine wp_bd (wp_mo (c_at z6 hc1.2.1 hw hhi (show y < 1073741824 by omega) hp) (fun q hq => ?_))
        obtain ⟨W2, pt2, d2, q1, q2, q3, q4, q5, q6⟩ := hq
        have hc2 := hc1.fc hw q5 q6
        unfold f_X11_swap_110
        rw [q1]
        refine wp_be (c_diff hw hc2.2.1 q6 q2 (show d1 < W2 by have := q4.1; omega) (S 0 8) 0 fu_ (by omega) (by unfold fu_; omega)) (wp_some ⟨?_, hc2⟩)
        show mk_b _ _ = mk_b _ _
        apply mk_cg
        intro w hwd
        rw [q3, q4.2 d1 z2, z3]; rfl
/-! gathers -/
def pw_ga (a b : Nat) : Prop := pw_s2 a b ∨ a = 27 ∨ (a = 0 ∧ b = 39)
theorem pw_ga_pe {a b : Nat} (h : pw_ga a b) : ¬ pe_ S a b := by
  unfold pw_ga pw_s2 at h
  unfold pe_
  omega
theorem rt_.ga {M M' : mm_M} (h : rt_ S nv vs M) (hf : fr_ pw_ga M M') : rt_ S nv vs M' :=
  ⟨h.1.fr hf (fun a b h => pw_ga_pe h) (by simp [pw_ga, pw_s2]) (by simp [pw_ga, pw_s2]), h.2.fr hf (by simp [pw_ga, pw_s2])⟩
def ga_ (M : mm_M) (fl : List Nat) : Prop := M.1 0 39 = Int32.ofNat fl.length ∧ ∀ i v, fl[i]? = some v → M.1 27 i = Int32.ofNat v
theorem ga_.fr {P : Nat → Nat → Prop} {M M' : mm_M} {fl : List Nat} (h : ga_ M fl) (hf : fr_ P M M') (h1 : ¬ P 0 39) (h2 : ∀ b, ¬ P 27 b) : ga_ M' fl :=
  ⟨by rw [hf.1 0 39 h1]; exact h.1, fun i v hv => by rw [hf.1 27 i (h2 i)]; exact h.2 i v hv⟩
theorem ga_.fq {P : Nat → Nat → Prop} {Q : Nat → Prop} {M M' : mm_M} {fl : List Nat} (h : ga_ M fl) (hf : fq_ P Q M M') (h1 : ¬ P 0 39) (h2 : ∀ b, ¬ P 27 b) : ga_ M' fl :=
  ⟨by rw [hf.1 0 39 h1]; exact h.1, fun i v hv => by rw [hf.1 27 i (h2 i)]; exact h.2 i v hv⟩
def fl_ (S : sg_) (nv : Nat → Bool) (k : Nat) : List Nat := (List.range k).filter (ft_n S nv)
theorem fl_s {k : Nat} : fl_ S nv (k + 1) = fl_ S nv k ++ (if ft_n S nv k = true then [k] else []) := by
  unfold fl_
  rw [List.range_succ, List.filter_append, List.filter_cons, List.filter_nil]
theorem fl_len {k : Nat} : (fl_ S nv k).length ≤ k := by
  have := List.length_filter_le (ft_n S nv) (List.range k)
  rw [List.length_range] at this
  exact this
theorem fl_mem {k h : Nat} (hm : h ∈ fl_ S nv k) : h < k ∧ ft_n S nv h = true := by
  have := List.mem_filter.mp hm
  exact ⟨List.mem_range.mp this.1, this.2⟩
theorem q_gath_l (hw : wf_ S) : ∀ (e k n : Nat) (M : mm_M), k + e = hs_ S → e < n → rs_ S nv M → ga_ M (fl_ S nv k) →
    wp_ (f_X12_gathers_12l n (Int32.ofNat (hs_ S)) (Int32.ofNat k) M) (fun M' => fr_ pw_ga M M' ∧ ga_ M' (fl_ S nv (hs_ S))) := by
  have h600 := hw.hist
  intro e
  induction e with
  | zero =>
    intro k n M hk hn h hg
    obtain ⟨m, rfl⟩ : ∃ m, n = m + 1 := ⟨n - 1, by omega⟩
    have hkk : k = hs_ S := by omega
    unfold f_X12_gathers_12l f_X12_gathers_12
    rw [if_pos ((n3_le (by omega) (by omega)).mpr (by omega))]
    rw [hkk] at hg
    exact wp_some ⟨fr_.refl, hg⟩
  | succ e ih =>
    intro k n M hk hn h hg
    obtain ⟨m, rfl⟩ : ∃ m, n = m + 1 := ⟨n - 1, by omega⟩
    have e1 : Int32.ofNat k + 1 = Int32.ofNat (k + 1) := n3_add k 1
    have hl := fl_len (S := S) (nv := nv) (k := k)
    unfold f_X12_gathers_12l f_X12_gathers_12 f_X12_gathers_45
    rw [if_neg (by rw [n3_le (by omega) (by omega)]; omega)]
    refine wp_bd (wp_mo (r_fit h hw (show k < 2147483648 by omega)) (fun z hz => ?_))
    have f1 : fr_ pw_ga M z.2 := hz.1.mono (fun a b h => Or.inl h)
    have hg1 := hg.fr hz.1 (by simp [pw_s2]) (fun b => by simp [pw_s2])
    rw [hz.2]
    cases hb : ft_n S nv k with
    | false =>
      rw [if_pos (by decide)]
      refine wp_sr ?_
      rw [e1]
      refine wp_mo (ih (k + 1) m z.2 (by omega) (by omega) (h.fr2 hz.1) ?_) (fun r hr => ⟨f1.trans hr.1, hr.2⟩)
      rw [fl_s, if_neg (by rw [hb]; decide), List.append_nil]; exact hg1
    | true =>
      rw [if_neg (by decide), hg1.1]
      refine wp_ck ((n3_ix (by omega)).mpr (by omega)) (wp_sr (wp_sr (wp_sr ?_)))
      rw [e1, n3_tn (by omega)]
      have f2 : fr_ pw_ga z.2 (mm_si (mm_si z.2 27 (fl_ S nv k).length (Int32.ofNat k)) 0 39 ((mm_si z.2 27 (fl_ S nv k).length (Int32.ofNat k)).1 0 39 + 1)) := fr_.trans (fr_si (by simp [pw_ga])) (fr_si (by simp [pw_ga]))
      refine wp_mo (ih (k + 1) m _ (by omega) (by omega) ((h.fr2 hz.1).fr f2 (fun a b h => pw_ga_pe h) (by simp [pw_ga, pw_s2]) (by simp [pw_ga, pw_s2])) ?_) (fun r hr => ⟨(f1.trans f2).trans hr.1, hr.2⟩)
      rw [fl_s, if_pos hb]
      refine ⟨?_, ?_⟩
      · rw [si_1, if_pos ⟨rfl, rfl⟩, si_1, if_neg (by omega), hg1.1]
        show Int32.ofNat _ + Int32.ofNat 1 = _
        rw [n3_add]; simp
      · intro i v hv
        rw [si_1, if_neg (by omega), si_1]
        by_cases c : i = (fl_ S nv k).length
        · rw [if_pos ⟨rfl, c⟩]
          rw [c] at hv; simp at hv; rw [hv]
        · rw [if_neg (by simp [c])]
          have := lt_of_some hv
          simp at this
          rw [List.getElem?_append_left (by omega)] at hv
          exact hg1.2 i v hv
theorem q_gath (h : rs_ S nv M) (hw : wf_ S) : wp_ (f_X12_gathers M) (fun M' => fr_ pw_ga M M' ∧ ga_ M' (fl_ S nv (hs_ S))) := by
  have h600 := hw.hist
  unfold f_X12_gathers
  have f1 : fr_ pw_ga M (mm_si M 0 39 0) := fr_si (by simp [pw_ga])
  have h1 : rs_ S nv (mm_si M 0 39 0) := h.fr f1 (fun a b h => pw_ga_pe h) (by simp [pw_ga, pw_s2]) (by simp [pw_ga, pw_s2])
  refine wp_sr (wp_be (r_hist h1.1 hw) ?_)
  refine wp_mo (q_gath_l hw (hs_ S) 0 fu_ _ (by omega) (by unfold fu_; omega) h1 ⟨by rw [si_1, if_pos ⟨rfl, rfl⟩]; rfl, fun i v hv => by simp [fl_] at hv⟩) (fun r hr => ⟨f1.trans hr.1, hr.2⟩)
/-! fits -/
theorem k_fits_l (hw : wf_ S) : ∀ (e k n : Nat) (M : mm_M), k + e = hs_ S → e < n → cs_ S ((fl_ S no_ k).take 1) M → hl_ S M →
    wp_ (f_X11_fits_18l n (Int32.ofNat (fl_ S no_ k).length) (Int32.ofNat k) M) (fun z => z.1 = Int32.ofNat (fl_ S no_ (hs_ S)).length ∧ cs_ S ((fl_ S no_ (hs_ S)).take 1) z.2) := by
  have h600 := hw.hist
  intro e
  induction e with
  | zero =>
    intro k n M hk hn h hl
    obtain ⟨m, rfl⟩ : ∃ m, n = m + 1 := ⟨n - 1, by omega⟩
    have hkk : k = hs_ S := by omega
    unfold f_X11_fits_18l f_X11_fits_18
    rw [h.2.1.hs, if_pos ((n3_le (by omega) (by omega)).mpr (by omega))]
    rw [hkk] at h ⊢
    exact wp_some ⟨rfl, h⟩
  | succ e ih =>
    intro k n M hk hn h hl
    obtain ⟨m, rfl⟩ : ∃ m, n = m + 1 := ⟨n - 1, by omega⟩
    have e1 : Int32.ofNat k + 1 = Int32.ofNat (k + 1) := n3_add k 1
    have hll := fl_len (S := S) (nv := no_) (k := k)
    unfold f_X11_fits_18l f_X11_fits_18 f_X11_fits_56 f_X11_fits_53 f_X11_fits_56
    rw [h.2.1.hs, if_neg (by rw [n3_le (by omega) (by omega)]; omega)]
    refine wp_be (c_fits h.2.1 hw hl (show k < hs_ S by omega)) ?_
    cases hb : ft_ S k with
    | false =>
      rw [if_pos (by decide)]
      refine wp_sr ?_
      rw [e1]
      have e2 : fl_ S no_ (k + 1) = fl_ S no_ k := by
        rw [fl_s, if_neg (by rw [show ft_n S no_ k = ft_ S k from rfl, hb]; decide), List.append_nil]
      have := ih (k + 1) m M (by omega) (by omega) (by rw [e2]; exact h) hl
      rw [e2] at this
      exact this
    | true =>
      rw [if_neg (by decide)]
      have e2 : fl_ S no_ (k + 1) = fl_ S no_ k ++ [k] := by
        rw [fl_s, if_pos (show ft_n S no_ k = true from hb)]
      have e3 : Int32.ofNat (fl_ S no_ k).length + 1 = Int32.ofNat (fl_ S no_ (k + 1)).length := by
        rw [e2, List.length_append]; exact n3_add _ 1
      by_cases c : (fl_ S no_ k).length = 0
      · have hnil : fl_ S no_ k = [] := List.length_eq_zero_iff.mp c
        rw [if_pos (by rw [c]; rfl), n3_6 (by omega)]
        rw [hnil] at h
        refine wp_bd (wp_mo (h.add hw (by simp) k) (fun z hz => wp_sr (wp_sr ?_)))
        rw [e1, e3]
        refine ih (k + 1) m z (by omega) (by omega) (by rw [e2, hnil]; exact hz.1) ?_
        intro s q hs hq
        rw [hz.2.1.1 21 q (by omega) (by omega) (by simp [pk_r])]; exact hl s q hs hq
      · rw [if_neg (by show ¬ (_ = Int32.ofNat 0); rw [n3_eq (by omega) (by omega)]; exact c)]
        refine wp_sr (wp_sr ?_)
        rw [e1, e3]
        refine ih (k + 1) m M (by omega) (by omega) ?_ hl
        rw [e2, List.take_append_of_le_length (by omega)]; exact h
theorem m_fits (h : rl_ Mc Mr) : bo_ (f_X11_fits Mc) (f_X12_fits Mr) := by
  obtain ⟨S, vs, hw, hv, hc, hr⟩ := h
  have hr1 := hr.th
  have h600 := hw.hist
  unfold f_X11_fits f_X12_fits
  rw [sq_n]
  have hll := fl_len (S := S) (nv := no_) (k := hs_ S)
  refine bo_mk (S := S) (vs := (fl_ S no_ (hs_ S)).take 1) (A := Int32.ofNat (fl_ S no_ (hs_ S)).length) hw ?_ ?_ ?_
  · refine ⟨by simp; omega, fun v hv2 => ?_⟩
    have := (fl_mem (List.mem_of_mem_take hv2)).1
    omega
  · refine wp_bd (wp_mo (hc.look hw) (fun z hz => ?_))
    unfold f_X11_fits_7
    refine wp_sr ?_
    refine k_fits_l hw (hs_ S) 0 fu_ _ (by omega) (by unfold fu_; omega) (hz.1.clear hw) ?_
    intro s q hs hq
    rw [(clr_fk (M := z)).1 21 q (by omega) (by omega) (by simp [pk_r])]; exact hz.2.1 s q hs hq
  · refine wp_bd (wp_mo (q_gath hr1.1 hw) (fun z hz => wp_sr ?_))
    have h2 := rr_nil (hr1.ga hz.1)
    have hg : ga_ (mm_si z 0 1 0) (fl_ S no_ (hs_ S)) := hz.2.fr (P := fun a b => a = 0 ∧ b = 1) (fr_si ⟨rfl, rfl⟩) (by omega) (fun b => by omega)
    unfold f_X12_fits_32
    rw [hg.1]
    by_cases c : (fl_ S no_ (hs_ S)).length = 0
    · have hnil : fl_ S no_ (hs_ S) = [] := List.length_eq_zero_iff.mp c
      rw [if_pos (by rw [c]; decide)]
      refine wp_some ⟨rfl, ?_⟩
      rw [hnil]; exact h2
    · rw [if_neg (by show ¬ (_ ≤ Int32.ofNat 0); rw [n3_le (by omega) (by omega)]; omega)]
      obtain ⟨q, qs, hq⟩ : ∃ q qs, fl_ S no_ (hs_ S) = q :: qs := by
        cases hf : fl_ S no_ (hs_ S) with
        | nil => rw [hf] at c; simp at c
        | cons q qs => exact ⟨q, qs, rfl⟩
      have hq0 : (mm_si z 0 1 0).1 27 (0 : Int32).toNatClampNeg = Int32.ofNat q := hg.2 0 q (by rw [hq]; rfl)
      have hql := (fl_mem (S := S) (nv := no_) (k := hs_ S) (h := q) (by rw [hq]; simp)).1
      rw [hq0, n3_6 (by omega)]
      refine wp_bd (wp_mo (r_ent h2 (by simp) q) (fun z2 hz2 => wp_some ⟨?_, ?_⟩))
      · show z2.1 0 39 = _
        rw [hz2.2.1 0 39 (by simp [pw_en]), hg.1]
      · rw [hq]; exact hz2.1
end UF1
