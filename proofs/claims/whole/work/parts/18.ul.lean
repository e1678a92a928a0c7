/-! CALLS: sure, settled -/
def mi_ : List (List Nat × Nat) → Nat
  | [] => 8
  | q :: r => min q.1.length (mi_ r)
def ma_ : List (List Nat × Nat) → Nat
  | [] => 0
  | q :: r => max q.1.length (ma_ r)
theorem mi_s {q : List Nat × Nat} : ∀ ws, mi_ (ws ++ [q]) = min q.1.length (mi_ ws) := by
  intro ws
  induction ws with
  | nil => rfl
  | cons a r ih => show min a.1.length (mi_ (r ++ [q])) = min q.1.length (min a.1.length (mi_ r)); rw [ih]; omega
theorem ma_s {q : List Nat × Nat} : ∀ ws, ma_ (ws ++ [q]) = max q.1.length (ma_ ws) := by
  intro ws
  induction ws with
  | nil => rfl
  | cons a r ih => show max a.1.length (ma_ (r ++ [q])) = max q.1.length (max a.1.length (ma_ r)); rw [ih]; omega
theorem mi_wa {xs : List Nat} {w : Nat} : ∀ ws, mi_ (wa_ ws xs w) = min xs.length (mi_ ws) := by
  intro ws
  induction ws with
  | nil => rfl
  | cons a r ih =>
    unfold wa_
    by_cases c : a.1 = xs
    · rw [if_pos c]
      show min a.1.length (mi_ r) = min xs.length (min a.1.length (mi_ r))
      rw [c]; omega
    · rw [if_neg c]
      show min a.1.length (mi_ (wa_ r xs w)) = min xs.length (min a.1.length (mi_ r))
      rw [ih]; omega
theorem ma_wa {xs : List Nat} {w : Nat} : ∀ ws, ma_ (wa_ ws xs w) = max xs.length (ma_ ws) := by
  intro ws
  induction ws with
  | nil => rfl
  | cons a r ih =>
    unfold wa_
    by_cases c : a.1 = xs
    · rw [if_pos c]
      show max a.1.length (ma_ r) = max xs.length (max a.1.length (ma_ r))
      rw [c]; omega
    · rw [if_neg c]
      show max a.1.length (ma_ (wa_ r xs w)) = max xs.length (max a.1.length (ma_ r))
      rw [ih]; omega
theorem mi_le : ∀ ws, mi_ ws ≤ 8 := by
  intro ws
  induction ws with
  | nil => exact Nat.le_refl _
  | cons a r ih => show min _ (mi_ r) ≤ 8; omega
theorem ma_le : ∀ ws, (∀ q, q ∈ ws → ok_ q.1) → ma_ ws ≤ 8 := by
  intro ws
  induction ws with
  | nil => intro _; show 0 ≤ 8; omega
  | cons a r ih =>
    intro h
    have h1 := (h a (by simp)).1
    have h2 := ih (fun q hq => h q (by simp [hq]))
    show max _ (ma_ r) ≤ 8
    omega
section UL1
variable {S : sg_} {M Mc Mr : mm_M} {vs : List Nat} {nv : Nat → Bool} {W : Nat} {pt : Nat → List Nat}
theorem hl_.fr {M' : mm_M} (h : hl_ S M) (h1 : ∀ b, M'.1 21 b = M.1 21 b) : hl_ S M' := fun s q hs hq => by rw [h1]; exact h s q hs hq
theorem wc_.fr {M' : mm_M} {ws : List (List Nat × Nat)} (h : wc_ M ws) (h1 : M'.1 39 2 = M.1 39 2) (h2 : M'.2.1 40 = M.2.1 40) (h3 : M'.2.1 41 = M.2.1 41) : wc_ M' ws :=
  ⟨by rw [h1]; exact h.1, fun i q hq => by rw [h2, h3]; exact h.2 i q hq⟩
/-- the ways of a word by some histories, each with weight f -/
def wl_ (S : sg_) (w y p : Nat) (f : Nat → Nat) (hs : List Nat) : List (List Nat × Nat) := hs.foldl (fun ws h => wa_ ws (sd_ S w h y p) (f h)) []
theorem wl_s {w y p h : Nat} {f : Nat → Nat} {hs : List Nat} : wl_ S w y p f (hs ++ [h]) = wa_ (wl_ S w y p f hs) (sd_ S w h y p) (f h) := by
  unfold wl_; rw [List.foldl_append]; rfl
theorem wl_p (hw : wf_ S) {w y p : Nat} {f : Nat → Nat} (hwd : w < S 0 8) : ∀ (n : Nat) (hs : List Nat), hs.length = n → (wl_ S w y p f hs).length ≤ n ∧ (∀ q, q ∈ wl_ S w y p f hs → ok_ q.1) ∧ (1 ≤ n → 1 ≤ (wl_ S w y p f hs).length) := by
  intro n
  induction n with
  | zero =>
    intro hs h
    rw [List.length_eq_zero_iff.mp h]
    exact ⟨Nat.le_refl _, fun q hq => (by cases hq), fun h => (by omega)⟩
  | succ n ih =>
    intro hs h
    rcases List.eq_nil_or_concat hs with hh | ⟨pr, a, hh⟩
    · rw [hh] at h; simp at h
    · rw [List.concat_eq_append] at hh
      subst hh
      have := ih pr (by simpa using h)
      have hl := wa_len (xs := sd_ S w a y p) (w := f a) (wl_ S w y p f pr)
      rw [wl_s]
      refine ⟨by omega, wa_ok (sd_ok hw hwd) _ this.2.1, fun _ => ?_⟩
      rcases wa_sp (xs := sd_ S w a y p) (w := f a) (wl_ S w y p f pr) with ⟨p, q, r, _, _, _, h4⟩ | ⟨_, h4⟩
      · rw [h4]; simp; omega
      · rw [h4]; simp
theorem k_short {ws : List (List Nat × Nat)} (hwc : wc_ M ws) (hok : ∀ q, q ∈ ws → ok_ q.1) (hl : ws.length ≤ 600) : f_X10_shortest M = some (Int32.ofNat (mi_ ws)) := by
  have key : ∀ (rest pre : List (List Nat × Nat)) (n : Nat), ws = pre ++ rest → rest.length < n → f_X10_shortest_5l M n (Int32.ofNat (mi_ pre)) (Int32.ofNat pre.length) = some (Int32.ofNat (mi_ ws)) := by
    intro rest
    induction rest with
    | nil =>
      intro pre n e1 hn
      obtain ⟨m, rfl⟩ : ∃ m, n = m + 1 := ⟨n - 1, by omega⟩
      rw [List.append_nil] at e1
      subst e1
      unfold f_X10_shortest_5l f_X10_shortest_5
      rw [hwc.1, if_pos (Int32.le_refl _)]
    | cons q rest ih =>
      intro pre n e1 hn
      obtain ⟨m, rfl⟩ : ∃ m, n = m + 1 := ⟨n - 1, by omega⟩
      have hlen : ws.length = pre.length + (rest.length + 1) := by rw [e1]; simp
      have hq := hok q (by rw [e1]; simp)
      have hq8 := hq.1
      have hm8 := mi_le pre
      have e2 : Int32.ofNat pre.length + 1 = Int32.ofNat (pre ++ [q]).length := by
        rw [show (pre ++ [q]).length = pre.length + 1 from by simp]; exact n3_add _ 1
      unfold f_X10_shortest_5l f_X10_shortest_5
      rw [hwc.1, if_neg (by rw [n3_le (by omega) (by omega)]; omega), if_pos ((n3_ix (by omega)).mpr (by omega)), n3_tn (by omega), (hwc.2 pre.length q (by rw [e1]; simp)).1, c_len hq, sq_n, sq_n, sq_n, e2]
      have e3 : (if Int32.ofNat q.1.length < Int32.ofNat (mi_ pre) then Int32.ofNat q.1.length else Int32.ofNat (mi_ pre)) = Int32.ofNat (mi_ (pre ++ [q])) := by
        rw [mi_s]
        by_cases c : q.1.length < mi_ pre
        · rw [if_pos ((n3_lt (by omega) (by omega)).mpr c)]; congr 1; omega
        · rw [if_neg (by rw [n3_lt (by omega) (by omega)]; exact c)]; congr 1; omega
      rw [e3]
      exact ih (pre ++ [q]) m (by rw [e1]; simp) (by simp at hn; omega)
  exact key ws [] fu_ rfl (by unfold fu_; omega)
theorem k_long {ws : List (List Nat × Nat)} (hwc : wc_ M ws) (hok : ∀ q, q ∈ ws → ok_ q.1) (hl : ws.length ≤ 600) : f_X10_longest M = some (Int32.ofNat (ma_ ws)) := by
  have key : ∀ (rest pre : List (List Nat × Nat)) (n : Nat), ws = pre ++ rest → rest.length < n → f_X10_longest_4l M n (Int32.ofNat (ma_ pre)) (Int32.ofNat pre.length) = some (Int32.ofNat (ma_ ws)) := by
    intro rest
    induction rest with
    | nil =>
      intro pre n e1 hn
      obtain ⟨m, rfl⟩ : ∃ m, n = m + 1 := ⟨n - 1, by omega⟩
      rw [List.append_nil] at e1
      subst e1
      unfold f_X10_longest_4l f_X10_longest_4
      rw [hwc.1, if_pos (Int32.le_refl _)]
    | cons q rest ih =>
      intro pre n e1 hn
      obtain ⟨m, rfl⟩ : ∃ m, n = m + 1 := ⟨n - 1, by omega⟩
      have hlen : ws.length = pre.length + (rest.length + 1) := by rw [e1]; simp
      have hq := hok q (by rw [e1]; simp)
      have hq8 := hq.1
      have hm8 := ma_le pre (fun q hq => hok q (by rw [e1]; simp [hq]))
      have e2 : Int32.ofNat pre.length + 1 = Int32.ofNat (pre ++ [q]).length := by
        rw [show (pre ++ [q]).length = pre.length + 1 from by simp]; exact n3_add _ 1
      unfold f_X10_longest_4l f_X10_longest_4
      rw [hwc.1, if_neg (by rw [n3_le (by omega) (by omega)]; omega), if_pos ((n3_ix (by omega)).mpr (by omega)), n3_tn (by omega), (hwc.2 pre.length q (by rw [e1]; simp)).1, c_len hq, sq_n, sq_n, sq_n, e2]
      have e3 : (if Int32.ofNat (ma_ pre) < Int32.ofNat q.1.length then Int32.ofNat q.1.length else Int32.ofNat (ma_ pre)) = Int32.ofNat (ma_ (pre ++ [q])) := by
        rw [ma_s]
        by_cases c : ma_ pre < q.1.length
        · rw [if_pos ((n3_lt (by omega) (by omega)).mpr c)]; congr 1; omega
        · rw [if_neg (by rw [n3_lt (by omega) (by omega)]; exact c)]; congr 1; omega
      rw [e3]
      exact ih (pre ++ [q]) m (by rw [e1]; simp) (by simp at hn; omega)
  exact key ws [] fu_ rfl (by unfold fu_; omega)
def f1_ : Nat → Nat := fun _ => 1
theorem k_sure_l (hw : wf_ S) {w y p : Nat} (hwd : w < S 0 8) (hy : y < 601) (hp : p < 6) : ∀ (e k n : Nat) (M : mm_M), k + e = hs_ S → e < n → cs_ S vs M → hl_ S M → wc_ M (wl_ S w y p f1_ (fl_ S no_ k)) →
    wp_ (f_X11_sure_41l n (Int32.ofNat w) (Int32.ofNat y) (Int32.ofNat p) (Int32.ofNat k) M) (fun z => if fl_ S no_ (hs_ S) = [] then z.1 = -2 ∧ cs_ S vs z.2 else z.1 = Int32.ofNat (wl_ S w y p f1_ (fl_ S no_ (hs_ S))).length ∧ cs_ S [mi_ (wl_ S w y p f1_ (fl_ S no_ (hs_ S))), ma_ (wl_ S w y p f1_ (fl_ S no_ (hs_ S)))] z.2) := by
  have h600 := hw.hist
  intro e
  induction e with
  | zero =>
    intro k n M hk2 hn hc hk hwc
    obtain ⟨m, rfl⟩ : ∃ m, n = m + 1 := ⟨n - 1, by omega⟩
    have hkk : k = hs_ S := by omega
    have hll := fl_len (S := S) (nv := no_) (k := hs_ S)
    have hwp := wl_p (y := y) (p := p) (f := f1_) hw hwd _ (fl_ S no_ (hs_ S)) rfl
    rw [hkk] at hwc
    unfold f_X11_sure_41l f_X11_sure_41 f_X11_sure_98
    rw [hc.2.1.hs, if_pos ((n3_le (by omega) (by omega)).mpr (by omega)), hwc.1]
    by_cases c : fl_ S no_ (hs_ S) = []
    · rw [c]
      rw [if_pos (by rfl)]
      refine wp_some ?_
      rw [if_pos rfl]
      exact ⟨rfl, hc⟩
    · have hne : 1 ≤ (fl_ S no_ (hs_ S)).length := by
        cases hf : fl_ S no_ (hs_ S) with
        | nil => exact absurd hf c
        | cons a b => simp
      have hw1 := hwp.2.2 hne
      have hm8 := mi_le (wl_ S w y p f1_ (fl_ S no_ (hs_ S)))
      have hx8 := ma_le _ hwp.2.1
      rw [if_neg (by show ¬ (_ = Int32.ofNat 0); rw [n3_eq (by omega) (by omega)]; omega)]
      simp only [if_neg c]
      refine wp_sr ?_
      have wc1 : wc_ (f_X4_clear M) (wl_ S w y p f1_ (fl_ S no_ (hs_ S))) := hwc.fr (clr_fk.1 39 2 (by omega) (by omega) (by simp [pk_r])) (clr_fk.2 40 (by omega) (by omega)) (clr_fk.2 41 (by omega) (by omega))
      refine wp_be (k_short wc1 hwp.2.1 (by omega)) ?_
      rw [n3_6 (by omega)]
      refine wp_bd (wp_mo ((hc.clear hw).add hw (by simp) _) (fun z hz => ?_))
      have wc2 : wc_ z (wl_ S w y p f1_ (fl_ S no_ (hs_ S))) := wc1.fr (hz.2.1.1 39 2 (by omega) (by omega) (by simp [pk_r])) (hz.2.1.2 40 (by omega) (by omega)) (hz.2.1.2 41 (by omega) (by omega))
      refine wp_be (k_long wc2 hwp.2.1 (by omega)) ?_
      rw [n3_6 (by omega)]
      refine wp_bd (wp_mo (hz.1.add hw (by simp) _) (fun z2 hz2 => wp_some ⟨?_, hz2.1⟩))
      show z2.1 39 2 = _
      rw [hz2.2.1.1 39 2 (by omega) (by omega) (by simp [pk_r]), wc2.1]
  | succ e ih =>
    intro k n M hk2 hn hc hk hwc
    obtain ⟨m, rfl⟩ : ∃ m, n = m + 1 := ⟨n - 1, by omega⟩
    have e1 : Int32.ofNat k + 1 = Int32.ofNat (k + 1) := n3_add k 1
    have hll := fl_len (S := S) (nv := no_) (k := k)
    have hwp := wl_p (y := y) (p := p) (f := f1_) hw hwd _ (fl_ S no_ k) rfl
    unfold f_X11_sure_41l f_X11_sure_41 f_X11_sure_92
    rw [hc.2.1.hs, if_neg (by rw [n3_le (by omega) (by omega)]; omega)]
    refine wp_be (c_fits hc.2.1 hw hk (show k < hs_ S by omega)) ?_
    cases hb : ft_ S k with
    | false =>
      rw [if_pos (by decide)]
      refine wp_sr ?_
      rw [e1]
      refine ih (k + 1) m M (by omega) (by omega) hc hk ?_
      rw [fl_s, if_neg (by rw [show ft_n S no_ k = ft_ S k from rfl, hb]; decide), List.append_nil]; exact hwc
    | true =>
      rw [if_neg (by decide)]
      obtain ⟨⟨W, pt, ht⟩, hI, -⟩ := id hc
      refine wp_bd (wp_mo (c_at ht hI hw (show k < hs_ S by omega) (show y < 1073741824 by omega) hp) (fun z hz => ?_))
      obtain ⟨W1, pt1, d1, z1, z2, z3, z4, z5, z6⟩ := hz
      have hc1 := hc.fc hw z5 z6
      unfold f_X11_sure_84
      rw [z1]
      refine wp_be (c_form z6 hw z2 hwd) ?_
      rw [z3, sa_sd]
      have wc1 : wc_ z.2 (wl_ S w y p f1_ (fl_ S no_ k)) := hwc.fr (z5.1 39 2 (by omega) (by omega)) (z5.2 40 (by omega)) (z5.2 41 (by omega))
      refine wp_bd (wp_mo (k_wadd hw hc1 wc1 hwp.2.1 (by omega) (sd_ok hw hwd) 1) (fun q hq => ?_))
      unfold f_X11_sure_92
      refine wp_sr ?_
      rw [e1]
      refine ih (k + 1) m q (by omega) (by omega) hq.1 ?_ ?_
      · refine hk.fr (fun b => ?_)
        rw [hq.2.2.1.1 21 b (by omega) (by omega) (by simp [pk_w]), z5.1 21 b (by omega) (by omega)]
      · rw [fl_s, if_pos (show ft_n S no_ k = true from hb), wl_s]; exact hq.2.1
theorem wq_.fr {M' : mm_M} {ws : List (List Nat × Nat)} (h : wq_ M ws) (h1 : M'.1 0 42 = M.1 0 42) (h2 : M'.2.1 28 = M.2.1 28) (h3 : M'.2.1 29 = M.2.1 29) : wq_ M' ws :=
  ⟨by rw [h1]; exact h.1, fun i q hq => by rw [h2, h3]; exact h.2 i q hq⟩
theorem q_sure_l (hw : wf_ S) {w y p : Nat} (hwd : w < S 0 8) (hy : y < 601) (hp : p < 6) {fl : List Nat} (hf : ∀ x, x ∈ fl → x < 600) (hfl : fl.length ≤ 600) : ∀ (rest pre : List Nat) (n : Nat) (M : mm_M), fl = pre ++ rest → rest.length < n → rt_ S no_ vs M → ga_ M fl → wq_ M (wl_ S w y p f1_ pre) →
    wp_ (f_X12_sure_52l n (Int32.ofNat w) (Int32.ofNat y) (Int32.ofNat p) (Int32.ofNat (mi_ (wl_ S w y p f1_ pre))) (Int32.ofNat (ma_ (wl_ S w y p f1_ pre))) (Int32.ofNat pre.length) M) (fun z => z.1 = Int32.ofNat (wl_ S w y p f1_ fl).length ∧ rt_ S no_ [mi_ (wl_ S w y p f1_ fl), ma_ (wl_ S w y p f1_ fl)] z.2) := by
  intro rest
  induction rest with
  | nil =>
    intro pre n M e1 hn h hg hwq
    obtain ⟨m, rfl⟩ : ∃ m, n = m + 1 := ⟨n - 1, by omega⟩
    rw [List.append_nil] at e1
    subst e1
    have hwp := wl_p (y := y) (p := p) (f := f1_) hw hwd _ fl rfl
    have hm8 := mi_le (wl_ S w y p f1_ fl)
    have hx8 := ma_le _ hwp.2.1
    unfold f_X12_sure_52l f_X12_sure_52 f_X12_sure_118
    rw [hg.1, if_pos (Int32.le_refl _), n3_6 (by omega), n3_6 (by omega)]
    refine wp_sr (wp_bd (wp_mo (r_ent (rr_nil h) (by simp) _) (fun z hz => ?_)))
    refine wp_bd (wp_mo (r_ent hz.1 (by simp) _) (fun z2 hz2 => wp_some ⟨?_, hz2.1⟩))
    show z2.1 0 42 = _
    rw [hz2.2.1 0 42 (by simp [pw_en]), hz.2.1 0 42 (by simp [pw_en]), si_1, if_neg (by omega), hwq.1]
  | cons a rest ih =>
    intro pre n M e1 hn h hg hwq
    obtain ⟨m, rfl⟩ : ∃ m, n = m + 1 := ⟨n - 1, by omega⟩
    have hlen : fl.length = pre.length + (rest.length + 1) := by rw [e1]; simp
    have ha := hf a (by rw [e1]; simp)
    have hwp := wl_p (y := y) (p := p) (f := f1_) hw hwd _ pre rfl
    have hm8 := mi_le (wl_ S w y p f1_ pre)
    have hx8 := ma_le _ hwp.2.1
    have e3 : Int32.ofNat pre.length + 1 = Int32.ofNat (pre ++ [a]).length := by
      rw [show (pre ++ [a]).length = pre.length + 1 from by simp]; exact n3_add _ 1
    unfold f_X12_sure_52l f_X12_sure_52
    rw [hg.1, if_neg (by rw [n3_le (by omega) (by omega)]; omega)]
    refine wp_ck ((n3_ix (by omega)).mpr (by omega)) ?_
    rw [n3_tn (by omega), hg.2 pre.length a (by rw [e1]; simp)]
    refine wp_bd (wp_mo (r_sd (hand := 0) h.1 hw hwd (by omega) (show a < 2147483648 by omega) (by omega) hp) (fun z hz => ?_))
    have f1 : fr_ pw_s2 M z := hz.1.mono (fun a b h => pw_sa2 h)
    have ok := sd_ok (nv := no_) (h := a) (y := y) (p := p) hw hwd
    have ok8 := ok.1
    have hg1 := hg.fr f1 (by simp [pw_s2]) (fun b => by simp [pw_s2])
    have wq1 : wq_ z (wl_ S w y p f1_ pre) := hwq.fr (f1.1 0 42 (by simp [pw_s2])) (by rw [f1.2]) (by rw [f1.2])
    refine wp_be (r_pk (hand := 0) (by omega) ok hz.2) ?_
    refine wp_bd (wp_mo (q_note wq1 hwp.2.1 (by omega) ok 1) (fun q hq => wp_sr (wp_sr (wp_sr ?_))))
    have e15 : q.1 15 (0 : Int32).toNatClampNeg = Int32.ofNat (sd_n S no_ w a y p).length := by
      rw [hq.2.1 15 _ (by simp [pw_no])]; exact hz.2.1
    rw [e3, e15]
    have e4 : (if Int32.ofNat (sd_n S no_ w a y p).length < Int32.ofNat (mi_ (wl_ S w y p f1_ pre)) then Int32.ofNat (sd_n S no_ w a y p).length else Int32.ofNat (mi_ (wl_ S w y p f1_ pre))) = Int32.ofNat (mi_ (wl_ S w y p f1_ (pre ++ [a]))) := by
      rw [wl_s, mi_wa, show sd_ S w a y p = sd_n S no_ w a y p from rfl]
      by_cases c : (sd_n S no_ w a y p).length < mi_ (wl_ S w y p f1_ pre)
      · rw [if_pos ((n3_lt (by omega) (by omega)).mpr c)]; congr 1; omega
      · rw [if_neg (by rw [n3_lt (by omega) (by omega)]; exact c)]; congr 1; omega
    have e5 : (if Int32.ofNat (ma_ (wl_ S w y p f1_ pre)) < Int32.ofNat (sd_n S no_ w a y p).length then Int32.ofNat (sd_n S no_ w a y p).length else Int32.ofNat (ma_ (wl_ S w y p f1_ pre))) = Int32.ofNat (ma_ (wl_ S w y p f1_ (pre ++ [a]))) := by
      rw [wl_s, ma_wa, show sd_ S w a y p = sd_n S no_ w a y p from rfl]
      by_cases c : ma_ (wl_ S w y p f1_ pre) < (sd_n S no_ w a y p).length
      · rw [if_pos ((n3_lt (by omega) (by omega)).mpr c)]; congr 1; omega
      · rw [if_neg (by rw [n3_lt (by omega) (by omega)]; exact c)]; congr 1; omega
    rw [e4, e5]
    refine ih (pre ++ [a]) m q (by rw [e1]; simp) (by simp at hn; omega) ((h.fr2 f1).no hq.2) (hg1.fq hq.2 (by simp [pw_no]) (fun b => by simp [pw_no])) ?_
    rw [wl_s]; exact hq.1
theorem m_sure (h : rl_ Mc Mr) (x1 x2 x3 : Int32) : bo_ (f_X11_sure x1 x2 x3 Mc) (f_X12_sure x1 x2 x3 Mr) := by
  obtain ⟨S, vs, hw, hv, hc, hr⟩ := h
  have hr1 := hr.th
  have hrl : rl_ Mc (mm_si Mr 0 0 0) := ⟨S, vs, hw, hv, hc, hr1⟩
  have h600 := hw.hist
  have h20 := hw.words
  unfold f_X11_sure f_X12_sure
  rw [sq_n (x := mm_si Mr 0 0 0), c_isWord hc.2.1 hw, c_isYear, c_isPlace, r_isWord hr1.1.1 hw, r_isThen]
  refine bo_g hrl (fun b1 => bo_g2 hrl (fun b2 b3 => ?_))
  obtain ⟨w, rfl, hwd⟩ := lt_nat b1 (by omega)
  obtain ⟨y, rfl, hy⟩ := lt_nat b2 (by omega)
  obtain ⟨p, rfl, hp⟩ := lt_nat b3 (by omega)
  have hll := fl_len (S := S) (nv := no_) (k := hs_ S)
  have hwp := wl_p (y := y) (p := p) (f := f1_) hw hwd _ (fl_ S no_ (hs_ S)) rfl
  have kc : wp_ ((f_X6_lookAnew Mc).bind fun z7 => f_X11_sure_31 (Int32.ofNat w) (Int32.ofNat y) (Int32.ofNat p) z7) (fun z => if fl_ S no_ (hs_ S) = [] then z.1 = -2 ∧ cs_ S vs z.2 else z.1 = Int32.ofNat (wl_ S w y p f1_ (fl_ S no_ (hs_ S))).length ∧ cs_ S [mi_ (wl_ S w y p f1_ (fl_ S no_ (hs_ S))), ma_ (wl_ S w y p f1_ (fl_ S no_ (hs_ S)))] z.2) := by
    refine wp_bd (wp_mo (hc.look hw) (fun z hz => ?_))
    unfold f_X11_sure_31
    refine wp_sr ?_
    have hfw : fk_ pk_w (fun a => a = 40 ∨ a = 41) z (f_X10_clear z) := fk_si (k := 39) rfl
    have htw : ∀ W pt, tc_ S z W pt → tc_ S (f_X10_clear z) W pt := fun W pt ht => ht.si (k := 39) (by omega) (by omega)
    refine k_sure_l hw hwd hy hp (hs_ S) 0 fu_ _ (by omega) (by unfold fu_; omega) (hz.1.ways hw hfw htw) (hz.2.1.fr (fun b => hfw.1 21 b (by omega) (by omega) (by simp [pk_w]))) ?_
    exact ⟨by show (mm_si z 39 2 0).1 39 2 = _; rw [si_1, if_pos ⟨rfl, rfl⟩]; rfl, fun i q hq => by simp [fl_, wl_] at hq⟩
  by_cases c : fl_ S no_ (hs_ S) = []
  · simp only [if_pos c] at kc
    refine bo_mk hw hv kc ?_
    refine wp_bd (wp_mo (q_gath hr1.1 hw) (fun z hz => ?_))
    rw [hz.2.1, c, if_pos (by rfl)]
    exact wp_some ⟨rfl, hr1.ga hz.1⟩
  · simp only [if_neg c] at kc
    have hne : 1 ≤ (fl_ S no_ (hs_ S)).length := by
      cases hf : fl_ S no_ (hs_ S) with
      | nil => exact absurd hf c
      | cons a b => simp
    refine bo_mk hw ?_ kc ?_
    · have hm8 := mi_le (wl_ S w y p f1_ (fl_ S no_ (hs_ S)))
      have hx8 := ma_le _ hwp.2.1
      refine ⟨by simp, fun v hv2 => ?_⟩
      simp at hv2
      rcases hv2 with hv2 | hv2 <;> omega
    · refine wp_bd (wp_mo (q_gath hr1.1 hw) (fun z hz => ?_))
      rw [hz.2.1, if_neg (by show ¬ (_ = Int32.ofNat 0); rw [n3_eq (by omega) (by omega)]; omega)]
      refine wp_sr ?_
      refine q_sure_l hw hwd hy hp (fun x hx => by have := (fl_mem hx).1; omega) (by omega) (fl_ S no_ (hs_ S)) [] fu_ _ rfl (by unfold fu_; omega) ((hr1.ga hz.1).si0 (by omega)) ?_ ?_
      · exact hz.2.fr (P := fun a b => a = 0 ∧ b = 42) (fr_si ⟨rfl, rfl⟩) (by omega) (fun b => by omega)
      · exact ⟨by rw [si_1, if_pos ⟨rfl, rfl⟩]; rfl, fun i q hq => by simp [wl_] at hq⟩
end UL1
