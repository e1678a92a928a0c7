/-! CALLS: works, year, holds, count -/
section UE1
variable {S : sg_} {M Mc Mr : mm_M} {vs : List Nat} {nv : Nat → Bool} {W : Nat} {pt : Nat → List Nat}
theorem gt_t {α : Type} {v X : α} : sq_ (bi_ true) (fun z => if z = 0 then v else X) = X := by rw [sq_n, if_neg (by decide)]
theorem gt_f {α : Type} {v X : α} : sq_ (bi_ false) (fun z => if z = 0 then v else X) = v := by rw [sq_n, if_pos (by decide)]
theorem gb_t {α : Type} {v X : Option α} : ((some (bi_ true)).bind (fun z => if z = 0 then v else X)) = X := by rw [Option.bind_some, if_neg (by decide)]
theorem gb_f {α : Type} {v X : Option α} : ((some (bi_ false)).bind (fun z => if z = 0 then v else X)) = v := by rw [Option.bind_some, if_pos (by decide)]
/-- whether law l, somewhere in a row of laws, changes what stands ahead of it -/
def wb_ (S : sg_) (l : Nat) : List Nat → List Nat → Bool
  | [], _ => false
  | a :: as, xs => (decide (a = l) && lw_ch S l none xs) || wb_ S l as (lw_on S a xs)
theorem wb_no {l : Nat} : ∀ (ls xs : List Nat), l ∉ ls → wb_ S l ls xs = false := by
  intro ls
  induction ls with
  | nil => intro xs _; rfl
  | cons a as ih =>
    intro xs h
    unfold wb_
    rw [decide_eq_false (fun he => h (by rw [he]; simp)), Bool.false_and, Bool.false_or]
    exact ih _ (fun hm => h (by simp [hm]))
theorem wb_sp {l : Nat} : ∀ (pre suf xs : List Nat), l ∉ pre → l ∉ suf → wb_ S l (pre ++ l :: suf) xs = lw_ch S l none (sa_l S pre xs) := by
  intro pre
  induction pre with
  | nil =>
    intro suf xs _ h
    show ((decide (l = l) && lw_ch S l none xs) || wb_ S l suf (lw_on S l xs)) = _
    rw [wb_no suf _ h, decide_eq_true rfl, Bool.true_and, Bool.or_false]; rfl
  | cons a as ih =>
    intro suf xs h1 h2
    show ((decide (a = l) && lw_ch S l none xs) || wb_ S l (as ++ l :: suf) (lw_on S a xs)) = _
    rw [decide_eq_false (fun he => h1 (by rw [he]; simp)), Bool.false_and, Bool.false_or]
    exact ih suf _ (fun hm => h1 (by simp [hm])) h2
theorem or_if {x b : Int32} {c d : Bool} : (x ||| (if c = true then b else 0)) ||| (if d = true then b else 0) = x ||| (if (c || d) = true then b else 0) := by
  cases c <;> cases d <;> simp [Int32.or_assoc]
theorem q_wk_i (hw : wf_ S) {w l : Nat} (hwN : w < S 0 8) (hl : l < S 0 11) {x2 x3 x4 : Int32} {os : List Nat} (h6 : os.length ≤ 6) (hos : ∀ x, x ∈ os → x < S 0 11) {x5 : Int32} {tot : Bool} {q38 : Int32 → Int32 → Int32 → Int32 → Int32 → Int32 → mm_M → Option (Int32 × mm_M)} {Q : Int32 × mm_M → Prop}
    (hq : ∀ M', rt_ S no_ vs M' → wp_ (q38 (Int32.ofNat l) x2 x3 x4 (x5 ||| (if tot = true then 1 <<< (Int32.ofNat w &&& 31) else 0)) (Int32.ofNat (w + 1)) M') Q) :
    ∀ (rest pre xs : List Nat) (f : Bool) (n : Nat) (M : mm_M), os = pre ++ rest → rest.length < n → rt_ S no_ vs M → ok_ xs → hd_ M 0 xs → ol_ M os → (f || wb_ S l rest xs) = tot →
    wp_ (f_X12_works_65l q38 n (Int32.ofNat l) x2 x3 x4 (x5 ||| (if f = true then 1 <<< (Int32.ofNat w &&& 31) else 0)) (Int32.ofNat w) (Int32.ofNat pre.length) M) Q := by
  have h20 := hw.words
  have hL := hw.laws
  intro rest
  induction rest with
  | nil =>
    intro pre xs f n M e1 hn h hx hd ho hf
    obtain ⟨m, rfl⟩ : ∃ m, n = m + 1 := ⟨n - 1, by omega⟩
    have hlen : os.length = pre.length := by rw [e1]; simp
    unfold f_X12_works_65l f_X12_works_65 f_X12_works_123
    rw [ho.1, if_pos ((n3_le (by omega) (by omega)).mpr (by omega))]
    refine wp_sr ?_
    have e2 : Int32.ofNat w + 1 = Int32.ofNat (w + 1) := n3_add w 1
    rw [e2, show f = tot from by rw [← hf]; simp [wb_]]
    exact hq M h
  | cons a rest ih =>
    intro pre xs f n M e1 hn h hx hd ho hf
    obtain ⟨m, rfl⟩ : ∃ m, n = m + 1 := ⟨n - 1, by omega⟩
    have hlen : os.length = pre.length + (rest.length + 1) := by rw [e1]; simp
    have ha := hos a (by rw [e1]; simp)
    have hat := ho.2 pre.length a (by rw [e1]; simp)
    have hix : ix_ok (Int32.ofNat pre.length) 6 := (n3_ix (by omega)).mpr (by omega)
    have et : (Int32.ofNat pre.length).toNatClampNeg = pre.length := n3_tn (by omega)
    unfold f_X12_works_65l f_X12_works_65
    rw [ho.1, if_neg (by rw [n3_le (by omega) (by omega)]; omega)]
    refine wp_ck hix ?_
    simp only [et, hat]
    refine wp_bd (wp_mo (r_wk (hand := 0) h.1.1 hw ha (by omega) hx hd) (fun z hz => ?_))
    have f1 : fr_ pw_s2 M z.2 := hz.1.mono (fun a b h => pw_sa2 (Or.inl h))
    have ho2 := ho.fr hz.1 (by simp [pw_wk]) (fun b => by simp [pw_wk])
    have e3 : Int32.ofNat pre.length + 1 = Int32.ofNat (pre ++ [a]).length := by
      rw [show (pre ++ [a]).length = pre.length + 1 from by simp]; exact n3_add _ 1
    have go : ∀ g, g = (decide (a = l) && lw_ch S l none xs) → ∀ v, v = (if g = true then 1 <<< (Int32.ofNat w &&& 31) else 0) → wp_ (f_X12_works_114 (f_X12_works_65l q38 m) (Int32.ofNat l) x2 x3 x4 (Int32.ofNat w) (Int32.ofNat pre.length) (x5 ||| (if f = true then 1 <<< (Int32.ofNat w &&& 31) else 0)) v z.2) Q := by
      intro g hg v hv
      unfold f_X12_works_114
      refine wp_sr (wp_sr ?_)
      rw [e3, hv, or_if]
      refine ih (pre ++ [a]) (lw_on S a xs) (f || g) m z.2 (by rw [e1]; simp) (by simp at hn; omega) (h.fr2 f1) (lw_on_ok hw ha hx) hz.2.1 ho2 ?_
      rw [hg, Bool.or_assoc, ← hf]; rfl
    unfold f_X12_works_113
    rw [hz.2.2]
    cases hb : lw_ch S a none xs with
    | false =>
      rw [if_pos (by decide)]
      refine go false ?_ 0 rfl
      by_cases c : a = l
      · rw [← c, hb]; simp
      · rw [decide_eq_false c]; rfl
    | true =>
      rw [if_neg (by decide)]
      refine wp_ck hix ?_
      rw [ho2.2 pre.length a (by rw [e1]; simp)]
      by_cases c : a = l
      · rw [if_pos (by rw [c])]
        refine go true ?_ _ (by rw [if_pos rfl])
        rw [← c, hb]; simp
      · rw [if_neg (by rw [n3_eq (by omega) (by omega)]; exact c)]
        refine go false ?_ 0 rfl
        rw [decide_eq_false c]; rfl
def wo_ (S : sg_) (l hi y p : Nat) : Nat → Bool := fun w => wb_ S l (pa_ S no_ hi y p) (wd_w S w)
theorem q_works_l (hw : wf_ S) {l hi y p : Nat} (hl : l < S 0 11) (hh : hi < 2147483648) (hy : y < 601) (hp : p < 6) : ∀ (e k n : Nat) (M : mm_M), k + e = S 0 8 → e < n → rt_ S no_ vs M →
    wp_ (f_X12_works_38l n (Int32.ofNat l) (Int32.ofNat hi) (Int32.ofNat y) (Int32.ofNat p) (mk_b (wo_ S l hi y p) k) (Int32.ofNat k) M) (fun z => z.1 = mk_b (wo_ S l hi y p) (S 0 8) ∧ rt_ S no_ vs z.2) := by
  have h20 := hw.words
  have hL := hw.laws
  intro e
  induction e with
  | zero =>
    intro k n M hk hn h
    obtain ⟨m, rfl⟩ : ∃ m, n = m + 1 := ⟨n - 1, by omega⟩
    have hkk : k = S 0 8 := by omega
    unfold f_X12_works_38l f_X12_works_38
    rw [h.1.1.words, if_pos ((n3_le (by omega) (by omega)).mpr (by omega)), hkk]
    exact wp_some ⟨rfl, h⟩
  | succ e ih =>
    intro k n M hk hn h
    obtain ⟨m, rfl⟩ : ∃ m, n = m + 1 := ⟨n - 1, by omega⟩
    have hkw : k < S 0 8 := by omega
    unfold f_X12_works_38l f_X12_works_38
    rw [h.1.1.words, if_neg (by rw [n3_le (by omega) (by omega)]; omega)]
    refine wp_bd (wp_mo (r_sp (hand := 0) h.1.1 hw hkw (by omega)) (fun z1 hz1 => ?_))
    have f1 : fr_ pw_s2 M z1 := hz1.1.mono (fun a b h => pw_sa2 (Or.inl h))
    have h1 := h.fr2 f1
    refine wp_bd (wp_mo (r_lines h1.1.1 hw h1.1.2.1 h1.1.2.2 hh (by omega) hp) (fun z2 hz2 => ?_))
    have f2 : fr_ pw_s2 z1 z2 := hz2.1.mono (fun a b h => pw_sa2 (hd := 0) (Or.inr h))
    have ho := hz2.2
    rw [sw_id, List.map_id] at ho
    have hpl := pa_len (S := S) (nv := no_) (h := hi) (y := y) (p := p)
    have go := q_wk_i (vs := vs) (w := k) hw hkw hl (x2 := Int32.ofNat hi) (x3 := Int32.ofNat y) (x4 := Int32.ofNat p) (os := pa_ S no_ hi y p) (by omega) (fun x hx => pa_mem hx) (x5 := mk_b (wo_ S l hi y p) k) (tot := wo_ S l hi y p k) (q38 := f_X12_works_38l m) (fun M' h' => ih (k + 1) m M' (by omega) (by omega) h') (pa_ S no_ hi y p) [] (wd_w S k) false fu_ z2 rfl (by unfold fu_; omega) (h1.fr2 f2) (wd_ok hw hkw) (hz1.2.fr hz2.1 (by simp [pw_ln]) (fun i _ => by simp [pw_ln])) ho (by simp [wo_])
    rw [if_neg (by decide), Int32.or_zero] at go
    exact go
theorem mk_0 : ∀ n, mk_b (fun _ => false) n = 0 := by
  intro n
  induction n with
  | zero => rfl
  | succ n ih => show mk_b (fun _ => false) n ||| (if false = true then _ else 0) = 0; rw [ih, if_neg (by decide)]; rfl
theorem m_works (h : rl_ Mc Mr) (x1 x2 x3 x4 : Int32) : bo_ (f_X11_works x1 x2 x3 x4 Mc) (f_X12_works x1 x2 x3 x4 Mr) := by
  obtain ⟨S, vs, hw, hv, hc, hr⟩ := h
  have hr1 := hr.th
  have hrl : rl_ Mc (mm_si Mr 0 0 0) := ⟨S, vs, hw, hv, hc, hr1⟩
  have h600 := hw.hist
  have h20 := hw.words
  have hL := hw.laws
  unfold f_X11_works f_X12_works
  rw [sq_n (x := mm_si Mr 0 0 0), c_isLaw hc.2.1 hw, c_isThen hc.2.1 hw, r_isLaw hr1.1.1 hw, r_isHist hr1.1.1 hw, r_isThen]
  refine bo_g hrl (fun b1 => bo_gt hrl (fun b2 b3 => ?_))
  obtain ⟨l, rfl, hl⟩ := lt_nat b1 (by omega)
  obtain ⟨hi, rfl, hhi⟩ := lt_nat b2 (by omega)
  obtain ⟨y, rfl, hy⟩ := lt_nat (and_t b3).1 (by omega)
  obtain ⟨p, rfl, hp⟩ := lt_nat (and_t b3).2 (by omega)
  refine bo_mk hw hv ?_ (q_works_l hw hl (by omega) hy hp (S 0 8) 0 fu_ _ (by omega) (by unfold fu_; omega) hr1)
  refine wp_be (c_hasCome hc.2.1 hw hhi hl hy hp) ?_
  by_cases c : yr_ S l hi + S 13 p ≤ y
  · rw [decide_eq_true c, if_neg (by decide)]
    obtain ⟨⟨W, pt, ht⟩, hI, hk, hro⟩ := id hc
    have hlen := or_len (S := S) hi
    obtain ⟨suf, s1, s2⟩ := ah_split (S := S) (h := hi) hl
    obtain ⟨suf2, p1, p2⟩ := pa_split (S := S) (h := hi) hl c
    unfold f_X3_courseUpTo
    refine wp_bd (wp_mo (c_upTo_l hw hhi hl (or_ S hi) [] 0 Mc W pt fu_ rfl (by unfold fu_; omega) ht hI (by have := ht.w1; omega) ht.root) (fun z hz => ?_))
    obtain ⟨W1, pt1, d1, z1, z2, z3, z4, z5, z6⟩ := hz
    rw [List.nil_append] at z3
    have z3' : pt1 d1 = ah_ S hi l := z3
    unfold f_X11_works_47
    rw [z1]
    refine wp_bd (wp_mo (c_after z6 hw (z5.ic hw hI) z2 hl (by rw [z3']; exact s2)) (fun q hq => ?_))
    obtain ⟨W2, pt2, d2, q1, q2, q3, q4, q5, q6⟩ := hq
    have hcs := (hc.fc hw z5 z6).fc hw q5 q6
    unfold f_X11_works_65
    rw [q1]
    refine wp_be (c_diff hw hcs.2.1 q6 (show d1 < W2 by have := q4.1; omega) q2 (S 0 8) 0 fu_ (by omega) (by unfold fu_; omega)) (wp_some ⟨?_, hcs⟩)
    show mk_b _ _ = mk_b _ _
    apply mk_cg
    intro w hwd
    rw [q4.2 d1 z2, q3, z3', sa_app]
    unfold wo_
    rw [p1, wb_sp _ _ _ s2 p2, lw_on_ch (sa_ok hw _ _ (fun x hx => or_mem.mp (by rw [s1]; simp [hx])) (wd_ok hw hwd))]
    apply decide_eq_decide.mpr
    exact ne_comm
  · rw [decide_eq_false c, if_pos (by decide)]
    refine wp_some ⟨?_, hc⟩
    show (0 : Int32) = mk_b _ _
    rw [← mk_0 (S 0 8)]
    apply mk_cg
    intro w _
    unfold wo_
    rw [wb_no]
    intro hm
    exact c (pa_mem_iff.mp hm).2
/-! year, holds -/
theorem m_year (h : rl_ Mc Mr) (x1 x2 : Int32) : ∃ r Mr', f_X11_year x1 x2 Mc = some r ∧ f_X12_year x1 x2 Mr = some (r, Mr') ∧ rl_ Mc Mr' := by
  obtain ⟨S, vs, hw, hv, hc, hr⟩ := h
  have hr1 := hr.th
  have hrl : rl_ Mc (mm_si Mr 0 0 0) := ⟨S, vs, hw, hv, hc, hr1⟩
  have h600 := hw.hist
  have hL := hw.laws
  unfold f_X11_year f_X12_year
  rw [sq_n (x := mm_si Mr 0 0 0), c_isLaw hc.2.1 hw, c_isHist hc.2.1 hw, r_isLaw hr1.1.1 hw, r_isHist hr1.1.1 hw]
  cases b1 : lt_ x1 (S 0 11) with
  | false => rw [gt_f, gt_f]; exact ⟨_, _, rfl, rfl, hrl⟩
  | true =>
    rw [gt_t, gt_t]
    cases b2 : lt_ x2 (hs_ S) with
    | false => rw [gt_f, gb_f]; exact ⟨_, _, rfl, rfl, hrl⟩
    | true =>
      rw [gt_t, gb_t]
      obtain ⟨l, rfl, hl⟩ := lt_nat b1 (by omega)
      obtain ⟨hi, rfl, hhi⟩ := lt_nat b2 (by omega)
      rw [c_yearOf hc.2.1 hw hhi hl, r_yr hr1.1.1 hw hl (by omega), Option.bind_some, Option.bind_some]
      exact ⟨_, _, rfl, rfl, hrl⟩
theorem m_holds (h : rl_ Mc Mr) (x1 x2 : Int32) : bo_ (f_X11_holds x1 x2 Mc) (f_X12_holds x1 x2 Mr) := by
  obtain ⟨S, vs, hw, hv, hc, hr⟩ := h
  have hr1 := hr.th
  have hrl : rl_ Mc (mm_si Mr 0 0 0) := ⟨S, vs, hw, hv, hc, hr1⟩
  have h600 := hw.hist
  have h16 := hw.signs
  unfold f_X11_holds f_X12_holds
  rw [sq_n (x := mm_si Mr 0 0 0), c_isSign hc.2.1 hw, c_isHist hc.2.1 hw, r_isSign hr1.1.1 hw, r_isHist hr1.1.1 hw]
  refine bo_g hrl (fun b1 => bo_gb hrl (fun b2 => ?_))
  obtain ⟨s, rfl, hs⟩ := lt_nat b1 (by omega)
  obtain ⟨hi, rfl, hhi⟩ := lt_nat b2 (by omega)
  refine bo_mk (A := bi_ (ho_ S s hi)) hw hv ?_ ?_
  · refine wp_bd (wp_mo (hc.look hw) (fun z hz => ?_))
    unfold f_X11_holds_25
    refine wp_be (c_held hw hhi) (wp_some ⟨?_, hz.1⟩)
    show (z.1 21 hi >>> (Int32.ofNat s &&& 31)) &&& 1 = _
    rw [ib_bit (by omega), hz.2.1 s hi hs hhi]; rfl
  · refine wp_bd (wp_mo (r_heldS hr1.1 hw hs (by omega)) (fun z hz => wp_sr (wp_some ⟨?_, hr1.fr2 hz.1⟩)))
    show f_X12_truth z.1 = _
    rw [hz.2, tr_bi]; rfl
theorem q_on (hI : ir_ S M) (hw : wf_ S) : ∀ (e k n : Nat), k + e = S 0 28 → e < n → f_X12_onBits_4l M n (mk_b (fun s => decide (S 26 s = 1)) k) (Int32.ofNat k) = some (mk_b (fun s => decide (S 26 s = 1)) (S 0 28)) := by
  have h16 := hw.signs
  intro e
  induction e with
  | zero =>
    intro k n hk hn
    obtain ⟨m, rfl⟩ : ∃ m, n = m + 1 := ⟨n - 1, by omega⟩
    have hkk : k = S 0 28 := by omega
    unfold f_X12_onBits_4l f_X12_onBits_4
    rw [hI.signs, if_pos ((n3_le (by omega) (by omega)).mpr (by omega)), hkk]
  | succ e ih =>
    intro k n hk hn
    obtain ⟨m, rfl⟩ : ∃ m, n = m + 1 := ⟨n - 1, by omega⟩
    have hks : k < S 0 28 := by omega
    have e1 : Int32.ofNat k + 1 = Int32.ofNat (k + 1) := n3_add k 1
    have go := ih (k + 1) m (by omega) (by omega)
    rw [show mk_b (fun s => decide (S 26 s = 1)) (k + 1) = mk_b (fun s => decide (S 26 s = 1)) k ||| (if decide (S 26 k = 1) = true then 1 <<< (Int32.ofNat k &&& 31) else 0) from rfl] at go
    unfold f_X12_onBits_4l f_X12_onBits_4 f_X12_onBits_29
    rw [hI.signs, if_neg (by rw [n3_le (by omega) (by omega)]; omega), if_pos ((n3_ix (by omega)).mpr (by omega)), n3_tn (by omega), (hI.sg hks).2.2.2.2.2.2]
    by_cases c : S 26 k = 1
    · rw [if_neg (by rw [on_ne hw hks]; exact fun h => h c), sq_n, sq_n, e1]
      rw [if_pos (decide_eq_true c)] at go
      exact go
    · rw [if_pos (by rw [on_ne hw hks]; exact c), sq_n, sq_n, e1]
      rw [if_neg (by rw [decide_eq_false c]; decide)] at go
      exact go
theorem m_count (h : rl_ Mc Mr) (x1 : Int32) : ∃ Mr', f_X12_count x1 Mr = some (f_X11_count x1 Mc, Mr') ∧ rl_ Mc Mr' := by
  obtain ⟨S, vs, hw, hv, hc, hr⟩ := h
  have hr1 := hr.th
  have hrl : rl_ Mc (mm_si Mr 0 0 0) := ⟨S, vs, hw, hv, hc, hr1⟩
  refine ⟨mm_si Mr 0 0 0, ?_, hrl⟩
  unfold f_X11_count f_X12_count
  rw [sq_n]
  by_cases c0 : x1 = 0
  · rw [if_pos c0, if_pos c0, hc.2.1.words, hr1.1.1.words]
  · rw [if_neg c0, if_neg c0]
    by_cases c1 : x1 = 1
    · rw [if_pos c1, if_pos c1, hc.2.1.laws, hr1.1.1.laws]
    · rw [if_neg c1, if_neg c1]
      by_cases c2 : x1 = 2
      · rw [if_pos c2, if_pos c2, hc.2.1.hs, r_hist hr1.1.1 hw, Option.bind_some]
      · rw [if_neg c2, if_neg c2]
        by_cases c3 : x1 = 3
        · rw [if_pos c3, if_pos c3, hc.2.1.told, hr1.1.1.signs]
        · rw [if_neg c3, if_neg c3]
          by_cases c4 : x1 = 4
          · have h16 := hw.signs
            have e : f_X12_onBits (mm_si Mr 0 0 0) = some (mk_b (fun s => decide (S 26 s = 1)) (S 0 28)) := q_on hr1.1.1 hw (S 0 28) 0 fu_ (by omega) (by unfold fu_; omega)
            rw [if_pos c4, if_pos c4, hc.2.1.on, e, Option.bind_some]
          · rw [if_neg c4, if_neg c4]
            by_cases c5 : x1 = 5
            · rw [if_pos c5, if_pos c5, hc.2.2.2.1, hr1.2.1]
            · rw [if_neg c5, if_neg c5]
              by_cases c6 : x1 = 6
              · rw [if_pos c6, if_pos c6, hc.2.1.tp, hr1.1.1.tp]
              · rw [if_neg c6, if_neg c6]
end UE1
