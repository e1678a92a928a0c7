/-! CALLS: settled, might -/
section UM1
variable {S : sg_} {M Mc Mr : mm_M} {vs : List Nat} {nv : Nat → Bool} {W : Nat} {pt : Nat → List Nat}
/-- whether a word is said alike by some histories -/
def ow_ (S : sg_) (w y p : Nat) : List Nat → Bool
  | [] => true
  | a :: r => r.all (fun h => decide (sd_ S w h y p = sd_ S w a y p))
theorem ow_app {w y p h : Nat} : ∀ fl a, ow_ S w y p (a :: fl ++ [h]) = (ow_ S w y p (a :: fl) && decide (sd_ S w h y p = sd_ S w a y p)) := by
  intro fl a
  show (fl ++ [h]).all _ = _
  rw [List.all_append]
  show (fl.all _ && (decide _ && true)) = _
  rw [Bool.and_true]; rfl
theorem ow_f {w y p : Nat} {a : Nat} {r : List Nat} : ∀ suf, ow_ S w y p (a :: r) = false → ow_ S w y p (a :: r ++ suf) = false := by
  intro suf h
  show (r ++ suf).all _ = false
  rw [List.all_append, show r.all (fun h => decide (sd_ S w h y p = sd_ S w a y p)) = false from h]; rfl
theorem fl_ext {k : Nat} : ∀ d, ∃ suf, fl_ S nv (k + d) = fl_ S nv k ++ suf := by
  intro d
  induction d with
  | zero => exact ⟨[], by simp⟩
  | succ d ih =>
    obtain ⟨suf, h⟩ := ih
    refine ⟨suf ++ (if ft_n S nv (k + d) = true then [k + d] else []), ?_⟩
    rw [show k + (d + 1) = (k + d) + 1 from by omega, fl_s, h, List.append_assoc]
theorem k_ow_l (hw : wf_ S) {w y p : Nat} (hwd : w < S 0 8) (hy : y < 601) (hp : p < 6) : ∀ (e k n : Nat) (M : mm_M) (x4 : Int64), k + e = hs_ S → e < n → cs_ S vs M → hl_ S M → (fl_ S no_ k = [] → x4 = 0) → (∀ a r, fl_ S no_ k = a :: r → ow_ S w y p (a :: r) = true ∧ x4 = Int64.ofNat (en_ (sd_ S w a y p))) →
    wp_ (f_X11_isOneWay_6l n (Int32.ofNat w) (Int32.ofNat y) (Int32.ofNat p) x4 (Int32.ofNat k) M) (fun z => z.1 = bi_ (ow_ S w y p (fl_ S no_ (hs_ S))) ∧ cs_ S vs z.2 ∧ hl_ S z.2) := by
  have h600 := hw.hist
  intro e
  induction e with
  | zero =>
    intro k n M x4 hk2 hn hc hk h0 h1
    obtain ⟨m, rfl⟩ : ∃ m, n = m + 1 := ⟨n - 1, by omega⟩
    have hkk : k = hs_ S := by omega
    unfold f_X11_isOneWay_6l f_X11_isOneWay_6
    rw [hc.2.1.hs, if_pos ((n3_le (by omega) (by omega)).mpr (by omega))]
    refine wp_some ⟨?_, hc, hk⟩
    rw [← hkk]
    cases hf : fl_ S no_ k with
    | nil => rfl
    | cons a r => rw [(h1 a r hf).1]; rfl
  | succ e ih =>
    intro k n M x4 hk2 hn hc hk h0 h1
    obtain ⟨m, rfl⟩ : ∃ m, n = m + 1 := ⟨n - 1, by omega⟩
    have e1 : Int32.ofNat k + 1 = Int32.ofNat (k + 1) := n3_add k 1
    unfold f_X11_isOneWay_6l f_X11_isOneWay_6 f_X11_isOneWay_72
    rw [hc.2.1.hs, if_neg (by rw [n3_le (by omega) (by omega)]; omega)]
    refine wp_be (c_fits hc.2.1 hw hk (show k < hs_ S by omega)) ?_
    cases hb : ft_ S k with
    | false =>
      have efl : fl_ S no_ (k + 1) = fl_ S no_ k := by
        rw [fl_s, if_neg (by rw [show ft_n S no_ k = ft_ S k from rfl, hb]; decide), List.append_nil]
      rw [if_pos (by decide)]
      refine wp_sr ?_
      rw [e1]
      exact ih (k + 1) m M x4 (by omega) (by omega) hc hk (by rw [efl]; exact h0) (by rw [efl]; exact h1)
    | true =>
      have efl : fl_ S no_ (k + 1) = fl_ S no_ k ++ [k] := by rw [fl_s, if_pos (show ft_n S no_ k = true from hb)]
      rw [if_neg (by decide)]
      obtain ⟨⟨W, pt, ht⟩, hI, -⟩ := id hc
      refine wp_bd (wp_mo (c_at ht hI hw (show k < hs_ S by omega) (show y < 1073741824 by omega) hp) (fun z hz => ?_))
      obtain ⟨W1, pt1, d1, z1, z2, z3, z4, z5, z6⟩ := hz
      have hc1 := hc.fc hw z5 z6
      have hk1 : hl_ S z.2 := hk.fr (fun b => z5.1 21 b (by omega) (by omega))
      unfold f_X11_isOneWay_45 f_X11_isOneWay_68 f_X11_isOneWay_72
      rw [z1]
      refine wp_be (c_form z6 hw z2 hwd) ?_
      rw [z3, sa_sd]
      have ok := sd_ok (nv := no_) (h := k) (y := y) (p := p) hw hwd
      cases hf : fl_ S no_ k with
      | nil =>
        rw [h0 hf, if_pos rfl]
        refine wp_sr ?_
        rw [e1]
        refine ih (k + 1) m z.2 _ (by omega) (by omega) hc1 hk1 (fun hn2 => ?_) (fun a r har => ?_)
        · rw [efl, hf] at hn2; cases hn2
        · rw [efl, hf] at har
          cases har
          exact ⟨rfl, rfl⟩
      | cons a r =>
        obtain ⟨o1, o2⟩ := h1 a r hf
        have oka := sd_ok (nv := no_) (h := a) (y := y) (p := p) hw hwd
        have hen := en_lt oka
        have hnz : ¬ (x4 = 0) := by
          rw [o2, n6_nz (by rw [show sd_ S w a y p = sd_n S no_ w a y p from rfl]; omega)]
          unfold en_; omega
        rw [if_neg hnz]
        by_cases c : sd_ S w k y p = sd_ S w a y p
        · rw [if_pos (by rw [o2, c])]
          refine wp_sr ?_
          rw [e1]
          refine ih (k + 1) m z.2 _ (by omega) (by omega) hc1 hk1 (fun hn2 => ?_) (fun a2 r2 har => ?_)
          · rw [efl, hf] at hn2; cases hn2
          · rw [efl, hf] at har
            have h3 := List.cons.inj har
            rw [← h3.1, ← h3.2]
            refine ⟨?_, by rw [c]⟩
            have := ow_app (S := S) (w := w) (y := y) (p := p) (h := k) r a
            rw [o1, decide_eq_true c] at this
            exact this
        · rw [if_neg (by rw [o2]; exact fun he => c ((en_eq ok oka).mp he))]
          refine wp_some ⟨?_, hc1, hk1⟩
          obtain ⟨suf, hs2⟩ := fl_ext (S := S) (nv := no_) (k := k + 1) e
          rw [show hs_ S = k + 1 + e from by omega, hs2, efl, hf]
          have hf2 : ow_ S w y p (a :: (r ++ [k])) = false := by
            have := ow_app (S := S) (w := w) (y := y) (p := p) (h := k) r a
            rw [decide_eq_false c, Bool.and_false] at this
            exact this
          have := ow_f suf hf2
          rw [show (a :: r ++ [k]) ++ suf = a :: (r ++ [k]) ++ suf from rfl, this]; rfl
theorem q_ow (hw : wf_ S) {w y p a : Nat} {r : List Nat} (hwd : w < S 0 8) (hy : y < 601) (hp : p < 6) (hf : ∀ x, x ∈ a :: r → x < 600) (hfl : (a :: r).length ≤ 600) (h : rt_ S no_ vs M) (hg : ga_ M (a :: r)) :
    wp_ (f_X12_isOneWay (Int32.ofNat w) (Int32.ofNat y) (Int32.ofNat p) M) (fun z => z.1 = bi_ (ow_ S w y p (a :: r)) ∧ rt_ S no_ vs z.2 ∧ ga_ z.2 (a :: r)) := by
  have key : ∀ (rest pre : List Nat) (n : Nat) (M : mm_M), r = pre ++ rest → rest.length < n → rt_ S no_ vs M → ga_ M (a :: r) → wp_ (f_X12_isOneWay_24l n (Int32.ofNat w) (Int32.ofNat y) (Int32.ofNat p) (Int64.ofNat (pk_ (sd_n S no_ w a y p))) (Int32.ofNat (pre.length + 1)) M) (fun z => z.1 = bi_ (rest.all (fun h => decide (sd_ S w h y p = sd_ S w a y p))) ∧ rt_ S no_ vs z.2 ∧ ga_ z.2 (a :: r)) := by
    intro rest
    induction rest with
    | nil =>
      intro pre n M e1 hn h hg
      obtain ⟨m, rfl⟩ : ∃ m, n = m + 1 := ⟨n - 1, by omega⟩
      have hlen : r.length = pre.length := by rw [e1]; simp
      simp at hfl
      unfold f_X12_isOneWay_24l f_X12_isOneWay_24
      rw [hg.1, if_pos ((n3_le (by simp; omega) (by omega)).mpr (by simp; omega))]
      exact wp_some ⟨rfl, h, hg⟩
    | cons b rest ih =>
      intro pre n M e1 hn h hg
      obtain ⟨m, rfl⟩ : ∃ m, n = m + 1 := ⟨n - 1, by omega⟩
      have hlen : r.length = pre.length + (rest.length + 1) := by rw [e1]; simp
      have hb := hf b (by rw [e1]; simp)
      have hfl2 : r.length + 1 ≤ 600 := by simpa using hfl
      unfold f_X12_isOneWay_24l f_X12_isOneWay_24
      rw [hg.1, if_neg (by rw [n3_le (by simp; omega) (by omega)]; simp; omega)]
      refine wp_ck ((n3_ix (by omega)).mpr (by omega)) ?_
      rw [n3_tn (by omega), hg.2 (pre.length + 1) b (by rw [e1]; simp)]
      refine wp_bd (wp_mo (r_sd (hand := 0) h.1 hw hwd (by omega) (show b < 2147483648 by omega) (by omega) hp) (fun z hz => ?_))
      have f1 : fr_ pw_s2 M z := hz.1.mono (fun a b h => pw_sa2 h)
      have ok := sd_ok (nv := no_) (h := b) (y := y) (p := p) hw hwd
      have oka := sd_ok (nv := no_) (h := a) (y := y) (p := p) hw hwd
      have hg1 := hg.fr f1 (by simp [pw_s2]) (fun b => by simp [pw_s2])
      refine wp_be (r_pk (hand := 0) (by omega) ok hz.2) ?_
      rw [List.all_cons]
      by_cases c : sd_n S no_ w b y p = sd_n S no_ w a y p
      · rw [if_pos (by rw [c])]
        refine wp_sr ?_
        have e2 : Int32.ofNat (pre.length + 1) + 1 = Int32.ofNat ((pre ++ [b]).length + 1) := by
          rw [show (pre ++ [b]).length + 1 = pre.length + 1 + 1 from by simp]; exact n3_add _ 1
        have := ih (pre ++ [b]) m z (by rw [e1]; simp) (by simp at hn; omega) (h.fr2 f1) hg1
        rw [e2, decide_eq_true (show sd_ S w b y p = sd_ S w a y p from c), Bool.true_and]
        exact this
      · rw [if_neg (fun he => c ((pkk_eq ok oka).mp he))]
        refine wp_some ⟨?_, h.fr2 f1, hg1⟩
        rw [decide_eq_false (show ¬ sd_ S w b y p = sd_ S w a y p from c), Bool.false_and]; rfl
  have ha := hf a (by simp)
  unfold f_X12_isOneWay
  have h0 : M.1 27 (0 : Int32).toNatClampNeg = Int32.ofNat a := hg.2 0 a rfl
  rw [h0]
  refine wp_bd (wp_mo (r_sd (hand := 0) h.1 hw hwd (by omega) (show a < 2147483648 by omega) (by omega) hp) (fun z hz => ?_))
  have f1 : fr_ pw_s2 M z := hz.1.mono (fun a b h => pw_sa2 h)
  have oka := sd_ok (nv := no_) (h := a) (y := y) (p := p) hw hwd
  have hg1 := hg.fr f1 (by simp [pw_s2]) (fun b => by simp [pw_s2])
  refine wp_be (r_pk (hand := 0) (by omega) oka hz.2) ?_
  have hfl2 : r.length + 1 ≤ 600 := by simpa using hfl
  exact key r [] fu_ z rfl (by unfold fu_; omega) (h.fr2 f1) hg1
/-- years 10 j, 10 (j - 1), .. -/
def se_ (f : Nat → Bool) : Nat → Int32 → Int32
  | 0, x => if f 0 = true then 0 else x
  | j + 1, x => if f (j + 1) = true then se_ f j (Int32.ofNat (10 * (j + 1))) else x
theorem ten_0 : Int32.ofNat 0 + (-10) < 0 := by decide
theorem ten_s (j : Nat) : Int32.ofNat (10 * (j + 1)) + (-10) = Int32.ofNat (10 * j) := by
  rw [show 10 * (j + 1) = 10 * j + 10 from by omega, ← n3_add, Int32.add_assoc, show Int32.ofNat 10 + (-10) = 0 from by decide, Int32.add_zero]
theorem k_set_l (hw : wf_ S) {w p : Nat} (hwd : w < S 0 8) (hp : p < 6) : ∀ (j n : Nat) (M : mm_M) (x : Int32), j ≤ 60 → j + 1 < n → cs_ S vs M → hl_ S M →
    wp_ (f_X11_settled_45l n (Int32.ofNat w) (Int32.ofNat p) x (Int32.ofNat (10 * j)) M) (fun z => z.1 = se_ (fun j => ow_ S w (10 * j) p (fl_ S no_ (hs_ S))) j x ∧ cs_ S vs z.2) := by
  have h600 := hw.hist
  intro j
  induction j with
  | zero =>
    intro n M x hj hn hc hk
    obtain ⟨m, rfl⟩ : ∃ m, n = m + 2 := ⟨n - 2, by omega⟩
    unfold f_X11_settled_45l f_X11_settled_45
    rw [if_neg (show ¬ (Int32.ofNat (10 * 0) < 0) from fun h => (n3_neg (by omega)).mp h)]
    unfold f_X11_isOneWay
    refine wp_bd (wp_mo (k_ow_l hw hwd (y := 10 * 0) (by omega) hp (hs_ S) 0 fu_ M 0 (by omega) (by unfold fu_; omega) hc hk (fun _ => rfl) (fun a r h => by simp [fl_] at h)) (fun z hz => ?_))
    unfold f_X11_settled_58 se_
    rw [hz.1]
    show wp_ (if bi_ (ow_ S w (10 * 0) p (fl_ S no_ (hs_ S))) = 0 then _ else _) _
    cases ow_ S w (10 * 0) p (fl_ S no_ (hs_ S)) with
    | false => rw [if_pos (by decide), if_neg (by decide)]; exact wp_some ⟨rfl, hz.2.1⟩
    | true =>
      rw [if_neg (by decide), if_pos rfl]
      refine wp_sr ?_
      unfold f_X11_settled_45l f_X11_settled_45
      rw [if_pos ten_0]
      exact wp_some ⟨rfl, hz.2.1⟩
  | succ j ih =>
    intro n M x hj hn hc hk
    obtain ⟨m, rfl⟩ : ∃ m, n = m + 1 := ⟨n - 1, by omega⟩
    unfold f_X11_settled_45l f_X11_settled_45
    rw [if_neg (show ¬ (Int32.ofNat (10 * (j + 1)) < 0) from fun h => (n3_neg (by omega)).mp h)]
    unfold f_X11_isOneWay
    refine wp_bd (wp_mo (k_ow_l hw hwd (y := 10 * (j + 1)) (by omega) hp (hs_ S) 0 fu_ M 0 (by omega) (by unfold fu_; omega) hc hk (fun _ => rfl) (fun a r h => by simp [fl_] at h)) (fun z hz => ?_))
    unfold f_X11_settled_58 se_
    rw [hz.1]
    show wp_ (if bi_ (ow_ S w (10 * (j + 1)) p (fl_ S no_ (hs_ S))) = 0 then _ else _) _
    cases ow_ S w (10 * (j + 1)) p (fl_ S no_ (hs_ S)) with
    | false => rw [if_pos (by decide), if_neg (by decide)]; exact wp_some ⟨rfl, hz.2.1⟩
    | true =>
      rw [if_neg (by decide), if_pos rfl]
      refine wp_sr ?_
      rw [ten_s]
      exact ih m z.2 _ (by omega) (by omega) hz.2.1 hz.2.2
theorem q_set_l (hw : wf_ S) {w p a : Nat} {r : List Nat} (hwd : w < S 0 8) (hp : p < 6) (hf : ∀ x, x ∈ a :: r → x < 600) (hfl : (a :: r).length ≤ 600) : ∀ (j n : Nat) (M : mm_M) (x : Int32), j ≤ 60 → j + 1 < n → rt_ S no_ vs M → ga_ M (a :: r) →
    wp_ (f_X12_settled_35l n (Int32.ofNat w) (Int32.ofNat p) x (Int32.ofNat (10 * j)) M) (fun z => z.1 = se_ (fun j => ow_ S w (10 * j) p (a :: r)) j x ∧ rt_ S no_ vs z.2) := by
  have hfl2 : r.length + 1 ≤ 600 := by simpa using hfl
  have hpos : ¬ (Int32.ofNat (a :: r).length ≤ 0) := by
    show ¬ (_ ≤ Int32.ofNat 0)
    rw [n3_le (by simp; omega) (by omega)]; simp
  intro j
  induction j with
  | zero =>
    intro n M x hj hn h hg
    obtain ⟨m, rfl⟩ : ∃ m, n = m + 2 := ⟨n - 2, by omega⟩
    unfold f_X12_settled_35l f_X12_settled_35
    rw [if_neg (show ¬ (Int32.ofNat (10 * 0) < 0) from fun h => (n3_neg (by omega)).mp h), hg.1, if_neg hpos]
    refine wp_bd (wp_mo (q_ow hw hwd (y := 10 * 0) (by omega) hp hf hfl h hg) (fun z hz => ?_))
    unfold se_
    rw [hz.1]
    show wp_ (if bi_ (ow_ S w (10 * 0) p (a :: r)) = 0 then _ else _) _
    cases ow_ S w (10 * 0) p (a :: r) with
    | false => rw [if_pos (by decide), if_neg (by decide)]; exact wp_some ⟨rfl, hz.2.1⟩
    | true =>
      rw [if_neg (by decide), if_pos rfl]
      refine wp_sr ?_
      unfold f_X12_settled_35l f_X12_settled_35
      rw [if_pos ten_0]
      exact wp_some ⟨rfl, hz.2.1⟩
  | succ j ih =>
    intro n M x hj hn h hg
    obtain ⟨m, rfl⟩ : ∃ m, n = m + 1 := ⟨n - 1, by omega⟩
    unfold f_X12_settled_35l f_X12_settled_35
    rw [if_neg (show ¬ (Int32.ofNat (10 * (j + 1)) < 0) from fun h => (n3_neg (by omega)).mp h), hg.1, if_neg hpos]
    refine wp_bd (wp_mo (q_ow hw hwd (y := 10 * (j + 1)) (by omega) hp hf hfl h hg) (fun z hz => ?_))
    unfold se_
    rw [hz.1]
    show wp_ (if bi_ (ow_ S w (10 * (j + 1)) p (a :: r)) = 0 then _ else _) _
    cases ow_ S w (10 * (j + 1)) p (a :: r) with
    | false => rw [if_pos (by decide), if_neg (by decide)]; exact wp_some ⟨rfl, hz.2.1⟩
    | true =>
      rw [if_neg (by decide), if_pos rfl]
      refine wp_sr ?_
      rw [ten_s]
      exact ih m z.2 _ (by omega) (by omega) hz.2.1 hz.2.2
theorem lt_z0 {n : Nat} (hn : 0 < n) : lt_ 0 n = true := by
  rw [show (0 : Int32) = Int32.ofNat 0 from rfl, lt_of_nat (by omega)]; exact decide_eq_true hn
theorem m_settled (h : rl_ Mc Mr) (x1 x2 : Int32) : bo_ (f_X11_settled x1 x2 Mc) (f_X12_settled x1 x2 Mr) := by
  obtain ⟨S, vs, hw, hv, hc, hr⟩ := h
  have hr1 := hr.th
  have hrl : rl_ Mc (mm_si Mr 0 0 0) := ⟨S, vs, hw, hv, hc, hr1⟩
  have h600 := hw.hist
  have h20 := hw.words
  unfold f_X11_settled f_X12_settled
  rw [sq_n (x := mm_si Mr 0 0 0), c_isWord hc.2.1 hw, c_isPlace, r_isWord hr1.1.1 hw, r_isThen, lt_z0 (by omega), Bool.true_and]
  refine bo_g hrl (fun b1 => bo_g hrl (fun b3 => ?_))
  obtain ⟨w, rfl, hwd⟩ := lt_nat b1 (by omega)
  obtain ⟨p, rfl, hp⟩ := lt_nat b3 (by omega)
  have hll := fl_len (S := S) (nv := no_) (k := hs_ S)
  cases hf : fl_ S no_ (hs_ S) with
  | nil =>
    refine bo_mk (A := -2) hw hv ?_ ?_
    · refine wp_bd (wp_mo (hc.look hw) (fun z hz => ?_))
      unfold f_X11_settled_24
      refine wp_be (c_fitCount hz.1.2.1 hw hz.2.1) ?_
      rw [hf, if_pos (by rfl)]
      exact wp_some ⟨rfl, hz.1⟩
    · refine wp_bd (wp_mo (q_gath hr1.1 hw) (fun z hz => ?_))
      have hg := hz.2
      rw [hf] at hg
      unfold fu_ f_X12_settled_35l f_X12_settled_35
      rw [if_neg (by decide), hg.1, if_pos (by decide)]
      exact wp_some ⟨rfl, hr1.ga hz.1⟩
  | cons a r =>
    have hfl : (a :: r).length ≤ 600 := by rw [← hf]; omega
    have hfm : ∀ x, x ∈ a :: r → x < 600 := fun x hx => by
      rw [← hf] at hx
      have := (fl_mem hx).1; omega
    refine bo_mk (A := se_ (fun j => ow_ S w (10 * j) p (fl_ S no_ (hs_ S))) 60 (-2)) hw hv ?_ ?_
    · refine wp_bd (wp_mo (hc.look hw) (fun z hz => ?_))
      unfold f_X11_settled_24
      refine wp_be (c_fitCount hz.1.2.1 hw hz.2.1) ?_
      rw [if_neg (by show ¬ (_ = Int32.ofNat 0); rw [n3_eq (by omega) (by omega), hf]; simp)]
      exact k_set_l hw hwd hp 60 fu_ z (-2) (by omega) (by unfold fu_; omega) hz.1 hz.2.1
    · refine wp_bd (wp_mo (q_gath hr1.1 hw) (fun z hz => ?_))
      have hg := hz.2
      rw [hf] at hg ⊢
      exact q_set_l hw hwd hp hfm hfl 60 fu_ z (-2) (by omega) (by unfold fu_; omega) (hr1.ga hz.1) hg
end UM1
