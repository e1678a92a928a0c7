/-! CALLS: shows, next -/
section UI1
variable {S : sg_} {M Mc Mr : mm_M} {vs : List Nat} {nv nv' : Nat → Bool} {W : Nat} {pt : Nat → List Nat}
theorem rt_.nev (h : rt_ S nv vs M) {v : Int32} (hv : ∀ l, l < 6 → ib_ v l = nv' l) : rt_ S nv' vs (mm_si M 0 25 v) := by
  have hf : fr_ (fun a b => a = 0 ∧ b = 25) M (mm_si M 0 25 v) := fr_si ⟨rfl, rfl⟩
  refine ⟨⟨hf.ir h.1.1 (fun a b hab hp => ?_), fun l hl => ?_, ?_⟩, h.2.fr hf (by omega)⟩
  · obtain ⟨rfl, rfl⟩ := hab
    have := pe_0 hp
    omega
  · rw [si_1, if_pos ⟨rfl, rfl⟩]; exact hv l hl
  · show (mm_si M 0 25 v).1 0 26 = -1
    rw [si_1, if_neg (by omega)]; exact h.1.2.2
def nvl_ (l : Nat) : Nat → Bool := fun x => decide (x = l)
def sh_ (S : sg_) (l h : Nat) : Nat → Bool := fun s => (decide (S 26 s = 1) && ho_ S s h) && !ho_n S (nvl_ l) s h
theorem k_shows_l (hw : wf_ S) {l h : Nat} (hl : l < S 0 11) (hh : h < hs_ S) {x3 x4 : Int32} (hx3 : ∀ s, s < S 0 28 → ib_ x3 s = (decide (S 26 s = 1) && ho_ S s h)) (hx4 : am_ x4 (nvl_ l)) : ∀ (e k n : Nat) (M : mm_M), k + e = S 0 28 → e < n → cs_ S vs M →
    wp_ (f_X11_shows_58l n (Int32.ofNat h) x3 x4 (mk_b (sh_ S l h) k) (Int32.ofNat k) M) (fun z => z.1 = mk_b (sh_ S l h) (S 0 28) ∧ cs_ S vs z.2) := by
  have h16 := hw.signs
  intro e
  induction e with
  | zero =>
    intro k n M hk hn hc
    obtain ⟨m, rfl⟩ : ∃ m, n = m + 1 := ⟨n - 1, by omega⟩
    have hkk : k = S 0 28 := by omega
    unfold f_X11_shows_58l f_X11_shows_58
    rw [hc.2.1.told, if_pos ((n3_le (by omega) (by omega)).mpr (by omega)), hkk]
    exact wp_some ⟨rfl, hc⟩
  | succ e ih =>
    intro k n M hk hn hc
    obtain ⟨m, rfl⟩ : ∃ m, n = m + 1 := ⟨n - 1, by omega⟩
    have hks : k < S 0 28 := by omega
    have e1 : Int32.ofNat k + 1 = Int32.ofNat (k + 1) := n3_add k 1
    have hstep : mk_b (sh_ S l h) (k + 1) = mk_b (sh_ S l h) k ||| (if sh_ S l h k = true then 1 <<< (Int32.ofNat k &&& 31) else 0) := rfl
    have hbit : ∀ i, i < 32 → ib_ (x3 &&& (1 <<< (Int32.ofNat k &&& 31))) i = (decide (i = k) && ib_ x3 k) := by
      intro i hi
      rw [ib_and, ib_shl k (by omega) i hi]
      by_cases c : i = k
      · rw [c]; simp
      · rw [decide_eq_false c]; simp
    unfold f_X11_shows_58l f_X11_shows_58 f_X11_shows_105
    rw [hc.2.1.told, if_neg (by rw [n3_le (by omega) (by omega)]; omega)]
    refine wp_sr ?_
    cases hb : ib_ x3 k with
    | false =>
      have hz : x3 &&& (1 <<< (Int32.ofNat k &&& 31)) = 0 := by
        apply ib_ext; intro i hi
        rw [hbit i hi, hb, ib_0]; simp
      rw [if_pos hz]
      refine wp_sr ?_
      have : sh_ S l h k = false := by
        have := hx3 k hks
        rw [hb] at this
        unfold sh_; rw [← this]; rfl
      rw [this, if_neg (by decide), Int32.or_zero] at hstep
      rw [e1, ← hstep]
      exact ih (k + 1) m M (by omega) (by omega) hc
    | true =>
      have hz : ¬ (x3 &&& (1 <<< (Int32.ofNat k &&& 31)) = 0) := fun h0 => by
        have := hbit k (by omega)
        rw [h0, ib_0, hb, decide_eq_true rfl] at this
        cases this
      have hbe : x3 &&& (1 <<< (Int32.ofNat k &&& 31)) = 1 <<< (Int32.ofNat k &&& 31) := by
        apply ib_ext; intro i hi
        rw [hbit i hi, hb, ib_shl k (by omega) i hi, Bool.and_true]
      rw [if_neg hz]
      refine wp_bd (wp_mo (c_allAmong hw hc hh hx4) (fun z hz2 => ?_))
      obtain ⟨hc1, -, b, b1, b2⟩ := hz2
      have hbv : b = ho_n S (nvl_ l) k h := by
        rw [Bool.eq_iff_iff, b2]
        constructor
        · intro hall
          refine hall k hks ?_
          rw [hbit k (by omega), hb]; simp
        · intro hk2 s hs hsb
          rw [hbit s (by omega)] at hsb
          have := (and_t hsb).1
          rw [of_decide_eq_true this]; exact hk2
      unfold f_X11_shows_95 f_X11_shows_105
      rw [b1, hbv]
      have hsh : sh_ S l h k = !ho_n S (nvl_ l) k h := by
        have := hx3 k hks
        rw [hb] at this
        unfold sh_; rw [← this]; rfl
      cases hho : ho_n S (nvl_ l) k h with
      | false =>
        rw [if_pos (by decide)]
        refine wp_sr (wp_sr ?_)
        rw [hho, Bool.not_false] at hsh
        rw [hsh, if_pos rfl] at hstep
        rw [e1, hbe, ← hstep]
        exact ih (k + 1) m z.2 (by omega) (by omega) hc1
      | true =>
        rw [if_neg (by decide)]
        refine wp_sr ?_
        rw [hho] at hsh
        rw [hsh, if_neg (by decide), Int32.or_zero] at hstep
        rw [e1, ← hstep]
        exact ih (k + 1) m z.2 (by omega) (by omega) hc1
theorem m_shows (h : rl_ Mc Mr) (x1 x2 : Int32) : bo_ (f_X11_shows x1 x2 Mc) (f_X12_shows x1 x2 Mr) := by
  obtain ⟨S, vs, hw, hv, hc, hr⟩ := h
  have hr1 := hr.th
  have hrl : rl_ Mc (mm_si Mr 0 0 0) := ⟨S, vs, hw, hv, hc, hr1⟩
  have h600 := hw.hist
  have hL := hw.laws
  have h16 := hw.signs
  unfold f_X11_shows f_X12_shows
  rw [sq_n (x := mm_si Mr 0 0 0), c_isLaw hc.2.1 hw, c_isHist hc.2.1 hw, r_isLaw hr1.1.1 hw, r_isHist hr1.1.1 hw]
  refine bo_g hrl (fun b1 => bo_gb hrl (fun b2 => ?_))
  obtain ⟨l, rfl, hl⟩ := lt_nat b1 (by omega)
  obtain ⟨hi, rfl, hhi⟩ := lt_nat b2 (by omega)
  refine bo_mk (A := mk_b (sh_ S l hi) (S 0 28)) hw hv ?_ ?_
  · refine wp_bd (wp_mo (hc.look hw) (fun z hz => ?_))
    unfold f_X11_shows_25
    refine wp_be (c_held hw hhi) (wp_sr (wp_sr ?_))
    refine k_shows_l hw hl hhi ?_ ?_ (S 0 28) 0 fu_ z (by omega) (by unfold fu_; omega) hz.1
    · intro s hs
      rw [ib_and, hz.1.2.1.on, mk_ib _ (by omega) s (by omega), hz.2.1 s hi hs hhi, decide_eq_true hs]; rfl
    · intro x hx
      have h63 : ∀ l, l < 6 → ib_ 63 l = true := by decide
      rw [ib_and, h63 x hx, ib_not (by omega), ib_shl l (by omega) x (by omega)]; rfl
  · refine wp_bd (wp_mo (r_wr hr1.1 hw (show hi < 2147483648 by omega)) (fun z hz => wp_sr ?_))
    have h2 : rt_ S (nvl_ l) vs (mm_si z.2 0 25 (1 <<< (Int32.ofNat l &&& 31))) := (hr1.fr2 hz.1).nev (fun x hx => by rw [ib_shl l (by omega) x (by omega)]; rfl)
    refine wp_bd (wp_mo (r_wr h2.1 hw (show hi < 2147483648 by omega)) (fun q hq => wp_sr (wp_some ⟨?_, ?_⟩)))
    · show q.1 &&& (z.1 ^^^ (-1)) = _
      rw [hz.2, hq.2]
      apply ib_ext
      intro i hi2
      rw [ib_and, ib_not hi2, wr_ib hw hi2, wr_ib hw hi2, mk_ib _ (by omega) i hi2]
      unfold sh_
      rw [show ho_ S i hi = ho_n S no_ i hi from rfl]
      cases decide (i < S 0 28) <;> cases decide (S 26 i = 1) <;> cases ho_n S no_ i hi <;> cases ho_n S (nvl_ l) i hi <;> rfl
    · exact (h2.fr2 hq.1).nev (fun x hx => by rw [ib_0]; rfl)
/-! counts -/
theorem c_fitCount (hI : ic_ S M) (hw : wf_ S) (hk : hl_ S M) : f_X6_fitCount M = some (Int32.ofNat (fl_ S no_ (hs_ S)).length) := by
  have h600 := hw.hist
  have key : ∀ (e k n : Nat), k + e = hs_ S → e < n → f_X6_fitCount_4l M n (Int32.ofNat (fl_ S no_ k).length) (Int32.ofNat k) = some (Int32.ofNat (fl_ S no_ (hs_ S)).length) := by
    intro e
    induction e with
    | zero =>
      intro k n hk2 hn
      obtain ⟨m, rfl⟩ : ∃ m, n = m + 1 := ⟨n - 1, by omega⟩
      have hkk : k = hs_ S := by omega
      unfold f_X6_fitCount_4l f_X6_fitCount_4
      rw [hI.hs, if_pos ((n3_le (by omega) (by omega)).mpr (by omega)), hkk]
    | succ e ih =>
      intro k n hk2 hn
      obtain ⟨m, rfl⟩ : ∃ m, n = m + 1 := ⟨n - 1, by omega⟩
      have e1 : Int32.ofNat k + 1 = Int32.ofNat (k + 1) := n3_add k 1
      have go := ih (k + 1) m (by omega) (by omega)
      rw [fl_s] at go
      unfold f_X6_fitCount_4l f_X6_fitCount_4 f_X6_fitCount_29
      rw [hI.hs, if_neg (by rw [n3_le (by omega) (by omega)]; omega), c_fits hI hw hk (show k < hs_ S by omega), Option.bind_some]
      cases hb : ft_ S k with
      | false =>
        rw [if_neg (by rw [show ft_n S no_ k = ft_ S k from rfl, hb]; decide), List.append_nil] at go
        rw [if_pos (by decide), sq_n, sq_n, e1, show (0 : Int32) = Int32.ofNat 0 from rfl, n3_add]
        exact go
      | true =>
        rw [if_pos (show ft_n S no_ k = true from hb), List.length_append] at go
        rw [if_neg (by decide), sq_n, sq_n, e1, show (1 : Int32) = Int32.ofNat 1 from rfl, n3_add]
        exact go
  exact key (hs_ S) 0 fu_ (by omega) (by unfold fu_; omega)
theorem c_fitHold (hI : ic_ S M) (hw : wf_ S) (hk : hl_ S M) {s : Nat} (hs : s < S 0 28) : f_X6_fitCountHolding (Int32.ofNat s) M = some (Int32.ofNat (nl_ (ho_ S s) (fl_ S no_ (hs_ S)))) := by
  have h600 := hw.hist
  have h16 := hw.signs
  have key : ∀ (e k n : Nat), k + e = hs_ S → e < n → f_X6_fitCountHolding_4l M n (Int32.ofNat s) (Int32.ofNat (nl_ (ho_ S s) (fl_ S no_ k))) (Int32.ofNat k) = some (Int32.ofNat (nl_ (ho_ S s) (fl_ S no_ (hs_ S)))) := by
    intro e
    induction e with
    | zero =>
      intro k n hk2 hn
      obtain ⟨m, rfl⟩ : ∃ m, n = m + 1 := ⟨n - 1, by omega⟩
      have hkk : k = hs_ S := by omega
      unfold f_X6_fitCountHolding_4l f_X6_fitCountHolding_4
      rw [hI.hs, if_pos ((n3_le (by omega) (by omega)).mpr (by omega)), hkk]
    | succ e ih =>
      intro k n hk2 hn
      obtain ⟨m, rfl⟩ : ∃ m, n = m + 1 := ⟨n - 1, by omega⟩
      have e1 : Int32.ofNat k + 1 = Int32.ofNat (k + 1) := n3_add k 1
      have go := ih (k + 1) m (by omega) (by omega)
      rw [fl_s] at go
      unfold f_X6_fitCountHolding_4l f_X6_fitCountHolding_4 f_X6_fitCountHolding_38
      rw [hI.hs, if_neg (by rw [n3_le (by omega) (by omega)]; omega), c_fits hI hw hk (show k < hs_ S by omega), Option.bind_some]
      cases hb : ft_ S k with
      | false =>
        rw [if_neg (by rw [show ft_n S no_ k = ft_ S k from rfl, hb]; decide), List.append_nil] at go
        rw [if_pos (by decide), sq_n, sq_n, e1, show (0 : Int32) = Int32.ofNat 0 from rfl, n3_add]
        exact go
      | true =>
        rw [if_pos (show ft_n S no_ k = true from hb), nl_s] at go
        rw [if_neg (by decide), if_pos ((n3_ix (by omega)).mpr (by omega)), n3_tn (by omega), ib_bit (by omega), hk s k hs (by omega), sq_n, sq_n, e1]
        cases hho : ho_ S s k with
        | false =>
          rw [hho, if_neg (by decide)] at go
          rw [if_neg (by decide), show (0 : Int32) = Int32.ofNat 0 from rfl, n3_add]
          exact go
        | true =>
          rw [hho, if_pos rfl] at go
          rw [if_pos rfl, show (1 : Int32) = Int32.ofNat 1 from rfl, n3_add]
          exact go
  exact key (hs_ S) 0 fu_ (by omega) (by unfold fu_; omega)
/-- the reference counts by how many of the gathered histories a sign holds -/
theorem q_heldBy (hw : wf_ S) {s kd one oth yr pl nm : Nat} (hs : s < 17) (hk : kd ≤ 4) (h1 : one < S 0 8) (h2 : kd ≠ 2 → kd ≠ 3 → oth < S 0 8) (hy : yr < 2147483648) (hp : pl < 6) (hn : kd = 2 ∨ kd = 3 → nm ≤ 127) {fl : List Nat} (hf : ∀ x, x ∈ fl → x < 600) (hfl : fl.length ≤ 600) :
    ∀ (rest pre : List Nat) (n : Nat) (M : mm_M), fl = pre ++ rest → rest.length < n → rt_ S nv vs M → ga_ M fl → sgn_ M s kd one oth yr pl nm →
    wp_ (f_X12_heldBy_4l n (Int32.ofNat s) (Int32.ofNat (nl_ (fun h => ho_k S kd nm (sd_n S nv one h yr pl) (sd_n S nv oth h yr pl)) pre)) (Int32.ofNat pre.length) M) (fun z => z.1 = Int32.ofNat (nl_ (fun h => ho_k S kd nm (sd_n S nv one h yr pl) (sd_n S nv oth h yr pl)) fl) ∧ rt_ S nv vs z.2 ∧ ga_ z.2 fl ∧ fr_ pw_s2 M z.2) := by
  intro rest
  induction rest with
  | nil =>
    intro pre n M e1 hn2 h hg hsg
    obtain ⟨m, rfl⟩ : ∃ m, n = m + 1 := ⟨n - 1, by omega⟩
    rw [List.append_nil] at e1
    subst e1
    unfold f_X12_heldBy_4l f_X12_heldBy_4
    rw [hg.1, if_pos (Int32.le_refl _)]
    exact wp_some ⟨rfl, h, hg, fr_.refl⟩
  | cons q rest ih =>
    intro pre n M e1 hn2 h hg hsg
    obtain ⟨m, rfl⟩ : ∃ m, n = m + 1 := ⟨n - 1, by omega⟩
    have hlen : fl.length = pre.length + (rest.length + 1) := by rw [e1]; simp
    have hq := hf q (by rw [e1]; simp)
    have e3 : Int32.ofNat pre.length + 1 = Int32.ofNat (pre ++ [q]).length := by
      rw [show (pre ++ [q]).length = pre.length + 1 from by simp]; exact n3_add _ 1
    unfold f_X12_heldBy_4l f_X12_heldBy_4
    rw [hg.1, if_neg (by rw [n3_le (by omega) (by omega)]; omega)]
    refine wp_ck ((n3_ix (by omega)).mpr (by omega)) ?_
    rw [n3_tn (by omega), hg.2 pre.length q (by rw [e1]; simp)]
    refine wp_bd (wp_mo (r_held h.1 hw hsg hs hk h1 h2 hy hp hn (show q < 2147483648 by omega)) (fun z hz => wp_sr (wp_sr (wp_sr ?_))))
    rw [e3, hz.2, tr_bi]
    have hsg2 := hsg.fr hz.1 (fun a _ _ => by unfold pw_s2; omega)
    have hg2 := hg.fr hz.1 (by simp [pw_s2]) (fun b => by simp [pw_s2])
    have go := ih (pre ++ [q]) m z.2 (by rw [e1]; simp) (by simp at hn2; omega) (h.fr2 hz.1) hg2 hsg2
    rw [nl_s] at go
    refine wp_mo (P := fun r => r.1 = Int32.ofNat (nl_ (fun h => ho_k S kd nm (sd_n S nv one h yr pl) (sd_n S nv oth h yr pl)) fl) ∧ rt_ S nv vs r.2 ∧ ga_ r.2 fl ∧ fr_ pw_s2 z.2 r.2) ?_ (fun r hr => ⟨hr.1, hr.2.1, hr.2.2.1, hz.1.trans hr.2.2.2⟩)
    cases hho : ho_k S kd nm (sd_n S nv one q yr pl) (sd_n S nv oth q yr pl) with
    | false =>
      rw [hho, if_neg (by decide)] at go
      rw [show bi_ false = Int32.ofNat 0 from rfl, n3_add]
      exact go
    | true =>
      rw [hho, if_pos rfl] at go
      rw [show bi_ true = Int32.ofNat 1 from rfl, n3_add]
      exact go
theorem q_heldS (hw : wf_ S) (h : rt_ S nv vs M) {s : Nat} (hs : s < S 0 28) {fl : List Nat} (hf : ∀ x, x ∈ fl → x < 600) (hfl : fl.length ≤ 600) (hg : ga_ M fl) : wp_ (f_X12_heldBy (Int32.ofNat s) M) (fun z => z.1 = Int32.ofNat (nl_ (ho_n S nv s) fl) ∧ rt_ S nv vs z.2 ∧ ga_ z.2 fl ∧ fr_ pw_s2 M z.2) := by
  have h16 := hw.signs
  have hy := hw.year s hs
  exact q_heldBy hw (by omega) (hw.kind s hs) (hw.one s hs) (fun h2 h3 => (hw.oth s hs h2 h3).1) (by omega) (hw.pl s hs) (nm_le hw hs) hf hfl fl [] fu_ M rfl (by unfold fu_; omega) h hg (ir_sgn h.1.1 hs)
theorem q_onMany (hI : ir_ S M) (hw : wf_ S) (x1 : Int32) : f_X12_onMany x1 M = some (Int32.ofNat (nb_ (fun s => decide (S 26 s = 1) && decide (Int32.ofNat s ≠ x1)) (S 0 28))) := by
  have h16 := hw.signs
  have key : ∀ (e k n : Nat), k + e = S 0 28 → e < n → f_X12_onMany_4l M n x1 (Int32.ofNat (nb_ (fun s => decide (S 26 s = 1) && decide (Int32.ofNat s ≠ x1)) k)) (Int32.ofNat k) = some (Int32.ofNat (nb_ (fun s => decide (S 26 s = 1) && decide (Int32.ofNat s ≠ x1)) (S 0 28))) := by
    intro e
    induction e with
    | zero =>
      intro k n hk2 hn
      obtain ⟨m, rfl⟩ : ∃ m, n = m + 1 := ⟨n - 1, by omega⟩
      have hkk : k = S 0 28 := by omega
      unfold f_X12_onMany_4l f_X12_onMany_4
      rw [hI.signs, if_pos ((n3_le (by omega) (by omega)).mpr (by omega)), hkk]
    | succ e ih =>
      intro k n hk2 hn
      obtain ⟨m, rfl⟩ : ∃ m, n = m + 1 := ⟨n - 1, by omega⟩
      have hks : k < S 0 28 := by omega
      have e1 : Int32.ofNat k + 1 = Int32.ofNat (k + 1) := n3_add k 1
      have go := ih (k + 1) m (by omega) (by omega)
      rw [show nb_ (fun s => decide (S 26 s = 1) && decide (Int32.ofNat s ≠ x1)) (k + 1) = nb_ (fun s => decide (S 26 s = 1) && decide (Int32.ofNat s ≠ x1)) k + (if (decide (S 26 k = 1) && decide (Int32.ofNat k ≠ x1)) = true then 1 else 0) from rfl] at go
      unfold f_X12_onMany_4l f_X12_onMany_4 f_X12_onMany_31 f_X12_onMany_32
      rw [hI.signs, if_neg (by rw [n3_le (by omega) (by omega)]; omega), if_pos ((n3_ix (by omega)).mpr (by omega)), n3_tn (by omega), (hI.sg hks).2.2.2.2.2.2]
      by_cases c : S 26 k = 1
      · rw [if_neg (by rw [on_ne hw hks]; exact fun h => h c)]
        by_cases c2 : Int32.ofNat k = x1
        · rw [if_neg (by rw [decide_eq_false (p := Int32.ofNat k ≠ x1) (fun h => h c2)]; simp)] at go
          rw [if_pos c2, sq_n, sq_n, sq_n, e1, show f_X12_truth 0 = Int32.ofNat 0 from rfl, n3_add]
          exact go
        · rw [if_pos (by rw [decide_eq_true c, decide_eq_true c2]; rfl)] at go
          rw [if_neg c2, sq_n, sq_n, sq_n, e1, show f_X12_truth 1 = Int32.ofNat 1 from rfl, n3_add]
          exact go
      · rw [if_neg (by rw [decide_eq_false c]; simp)] at go
        rw [if_pos (by rw [on_ne hw hks]; exact c), sq_n, sq_n, sq_n, e1, show f_X12_truth 0 = Int32.ofNat 0 from rfl, n3_add]
        exact go
  exact key (S 0 28) 0 fu_ (by omega) (by unfold fu_; omega)
theorem on_1 (s : Nat) (hs : s < 2147483648) : decide (Int32.ofNat s ≠ -1) = true := decide_eq_true (fun h => (n3_nm hs).mp h)
theorem nb_all {f : Nat → Bool} : ∀ n, nb_ f n = n ↔ ∀ s, s < n → f s = true := by
  intro n
  induction n with
  | zero => constructor
            · intro _ s hs; omega
            · intro _; rfl
  | succ n ih =>
    have hl := nb_le (f := f) n
    show nb_ f n + _ = n + 1 ↔ _
    constructor
    · intro h
      by_cases c : f n = true
      · rw [if_pos c] at h
        intro s hs
        by_cases c2 : s = n
        · rw [c2]; exact c
        · exact ih.mp (by omega) s (by omega)
      · rw [if_neg c] at h; omega
    · intro h
      rw [if_pos (h n (by omega)), ih.mpr (fun s hs => h s (by omega))]
theorem mn_all {f : Nat → Bool} : ∀ n, mn_ f n = 2 ^ n - 1 ↔ ∀ s, s < n → f s = true := by
  intro n
  induction n with
  | zero => constructor
            · intro _ s hs; omega
            · intro _; rfl
  | succ n ih =>
    have hl := mn_lt (f := f) n
    show mn_ f n + _ = 2 ^ (n + 1) - 1 ↔ _
    rw [Nat.pow_succ]
    constructor
    · intro h
      by_cases c : f n = true
      · rw [if_pos c] at h
        intro s hs
        by_cases c2 : s = n
        · rw [c2]; exact c
        · exact ih.mp (by omega) s (by omega)
      · rw [if_neg c] at h; omega
    · intro h
      rw [if_pos (h n (by omega)), ih.mpr (fun s hs => h s (by omega))]; omega
theorem mk_full {f : Nat → Bool} {n : Nat} (hn : n ≤ 16) : (mk_b f n = ((1 : Int32) <<< (Int32.ofNat n &&& 31)) - 1) ↔ ∀ s, s < n → f s = true := by
  have h1 := mn_lt (f := f) n
  have h2 : 2 ^ n ≤ 2 ^ 16 := Nat.pow_le_pow_right (n := 2) (by omega) hn
  have h3 : 1 ≤ 2 ^ n := Nat.one_le_two_pow
  rw [mk_mn n (by omega), show (1 : Int32) = Int32.ofNat 1 from rfl, n3_shl (by omega), Nat.one_mul, n3_sub h3, n3_eq (by omega) (by omega), mn_all]
end UI1
