/-! CALLS: changes -/
section VS1
variable {S S' : sg_} {M M0 Mc Mr Z : mm_M} {vs : List Nat} {nv : Nat → Bool} {W : Nat} {pt : Nat → List Nat} {p h w : Nat}
/-- the row and the form before turn t -/
def cw_ (S : sg_) (w h p t : Nat) : List Nat := if t = 0 then [] else cy_ (wd_w S w) (fun Y => sd_ S w h Y p) (ny_ S h p (t - 1) + 1)
def cf_ (S : sg_) (w h p t : Nat) : List Nat := if t = 0 then wd_w S w else sd_ S w h (ny_ S h p (t - 1)) p
theorem cw_s {t : Nat} (ht : t ≤ S 0 11) : cw_ S w h p (t + 1) = cw_ S w h p t ++ (if sd_ S w h (ny_ S h p t) p = cf_ S w h p t then [] else [ny_ S h p t]) := by
  unfold cw_ cf_
  rw [if_neg (by omega), Nat.add_sub_cancel]
  by_cases c : t = 0
  · rw [if_pos c, if_pos c]
    have h0 : ny_ S h p t = 0 := by rw [c]; unfold ny_; rw [if_pos rfl]
    rw [h0, cy_s]
    rfl
  · obtain ⟨i, rfl⟩ : ∃ i, t = i + 1 := ⟨t - 1, by omega⟩
    rw [if_neg c, if_neg c, Nat.add_sub_cancel]
    exact cy_turn (F := fun Y => sd_ S w h Y p) (ny_mono (show i ≤ i + 1 by omega) ht) (fun Y h1 h2 => sd_turn (by omega) h1 (fun _ => h2))
theorem cw_l {t : Nat} (ht : t ≤ S 0 11 + 1) : (cw_ S w h p t).length ≤ t := by
  unfold cw_
  by_cases c : t = 0
  · rw [if_pos c]; simp
  · rw [if_neg c]
    have := cy_len (S := S) (h := h) (p := p) (w := w) (a := wd_w S w) (t - 1) (by omega)
    omega
theorem k_changes_l (hw : wf_ S) (hwd : w < S 0 8) (hh : h < hs_ S) (hp : p < 6) : ∀ (e t n : Nat) (M : mm_M), t + e = S 0 11 + 1 → e < n → cs_ S (cw_ S w h p t) M →
    wp_ (f_X11_changes_46l n (Int32.ofNat w) (Int32.ofNat h) (Int32.ofNat p) (Int64.ofNat (en_ (cf_ S w h p t))) (Int32.ofNat t) M) (fun z => z.1 = Int32.ofNat (cw_ S w h p (S 0 11 + 1)).length ∧ cs_ S (cw_ S w h p (S 0 11 + 1)) z.2) := by
  have h6 := hw.laws
  intro e
  induction e with
  | zero =>
    intro t n M ht hn hc
    obtain ⟨m, rfl⟩ : ∃ m, n = m + 1 := ⟨n - 1, by omega⟩
    have htt : t = S 0 11 + 1 := by omega
    unfold f_X11_changes_46l f_X11_changes_46 f_X11_changes_120
    rw [hc.2.1.laws, if_pos ((n3_lt (by omega) (by omega)).mpr (by omega))]
    rw [htt] at hc
    exact wp_some ⟨hc.2.2.2.1, hc⟩
  | succ e ih =>
    intro t n M ht hn hc
    obtain ⟨m, rfl⟩ : ∃ m, n = m + 1 := ⟨n - 1, by omega⟩
    have e1 : Int32.ofNat t + 1 = Int32.ofNat (t + 1) := n3_add t 1
    have hny := ny_le (h := h) hw hp (show t ≤ S 0 11 by omega)
    have hlen := cw_l (S := S) (w := w) (h := h) (p := p) (show t ≤ S 0 11 + 1 by omega)
    have hcw := cw_s (S := S) (w := w) (h := h) (p := p) (show t ≤ S 0 11 by omega)
    have hcf : cf_ S w h p (t + 1) = sd_ S w h (ny_ S h p t) p := by
      unfold cf_; rw [if_neg (by omega), Nat.add_sub_cancel]
    unfold f_X11_changes_46l f_X11_changes_46
    rw [hc.2.1.laws, if_neg (by rw [n3_lt (by omega) (by omega)]; omega)]
    refine wp_be (c_newsYear hc.2.1 hw hh (by omega) hp) ?_
    refine wp_bd (wp_mo (hc.at hw hh (show ny_ S h p t < 1073741824 by omega) hp) (fun z hz => ?_))
    obtain ⟨hc1, W1, pt1, d1, z1, z2, z3, z4⟩ := hz
    unfold f_X11_changes_86 f_X11_changes_114
    rw [z1]
    refine wp_be (c_form z4 hw z2 hwd) ?_
    rw [z3, sa_sd]
    have ok1 : ok_ (sd_ S w h (ny_ S h p t) p) := sd_ok (nv := no_) hw hwd
    have ok2 : ok_ (cf_ S w h p t) := by
      unfold cf_
      split
      · exact wd_ok hw hwd
      · exact sd_ok (nv := no_) hw hwd
    by_cases c : sd_ S w h (ny_ S h p t) p = cf_ S w h p t
    · rw [if_pos (by rw [c])]
      refine wp_sr ?_
      rw [if_pos c, List.append_nil] at hcw
      have go := ih (t + 1) m z.2 (by omega) (by omega) (by rw [hcw]; exact hc1)
      rw [hcf, c] at go
      rw [e1]
      exact go
    · rw [if_neg (fun he => c ((en_eq ok1 ok2).mp he)), n3_6 (by omega)]
      rw [if_neg c] at hcw
      refine wp_bd (wp_mo (hc1.add hw (by omega) _) (fun u hu => wp_sr ?_))
      have go := ih (t + 1) m u (by omega) (by omega) (by rw [hcw]; exact hu.1)
      rw [hcf] at go
      rw [e1]
      exact go
theorem q_changes_l (hw : wf_ S) (hwd : w < S 0 8) (hh : h < hs_ S) (hp : p < 6) : ∀ (e Y n : Nat) (M : mm_M), Y + e = 601 → e < n → rt_ S no_ (cy_ (wd_w S w) (fun Y => sd_ S w h Y p) Y) M →
    wp_ (f_X12_changes_39l n (Int32.ofNat w) (Int32.ofNat h) (Int32.ofNat p) (Int32.ofNat Y) M) (fun z => z.1 = Int32.ofNat (cy_ (wd_w S w) (fun Y => sd_ S w h Y p) 601).length ∧ rt_ S no_ (cy_ (wd_w S w) (fun Y => sd_ S w h Y p) 601) z.2) := by
  have h600 := hw.hist
  have h6 := hw.laws
  have hl : (cy_ (wd_w S w) (fun Y => sd_ S w h Y p) 601).length ≤ 7 := by
    rw [cy_end hw hp]
    have := cy_len (S := S) (h := h) (p := p) (w := w) (a := wd_w S w) (S 0 11) (Nat.le_refl _)
    omega
  intro e
  induction e with
  | zero =>
    intro Y n M hY hn hr
    obtain ⟨m, rfl⟩ : ∃ m, n = m + 1 := ⟨n - 1, by omega⟩
    have hYY : Y = 601 := by omega
    unfold f_X12_changes_39l f_X12_changes_39 f_X12_changes_103
    rw [if_pos (show (600 : Int32) < Int32.ofNat Y from (n3_lt (a := 600) (by omega) (by omega)).mpr (by omega))]
    rw [hYY] at hr
    exact wp_some ⟨hr.2.1, hr⟩
  | succ e ih =>
    intro Y n M hY hn hr
    obtain ⟨m, rfl⟩ : ∃ m, n = m + 1 := ⟨n - 1, by omega⟩
    have e1 : Int32.ofNat Y + 1 = Int32.ofNat (Y + 1) := n3_add Y 1
    have ok1 : ok_ (sd_n S no_ w h Y p) := sd_ok hw hwd
    have hlY := cy_mono (a := wd_w S w) (F := fun Y => sd_ S w h Y p) (show Y ≤ 601 by omega)
    have fin : ∀ M', rt_ S no_ (cy_ (wd_w S w) (fun Y => sd_ S w h Y p) Y) M' → hd_ M' 0 (sd_n S no_ w h Y p) → hd_ M' 1 (pv_ (wd_w S w) (fun Y => sd_ S w h Y p) Y) → ok_ (pv_ (wd_w S w) (fun Y => sd_ S w h Y p) Y) →
        wp_ (f_X12_changes_83 (f_X12_changes_39l m) (Int32.ofNat w) (Int32.ofNat h) (Int32.ofNat p) (Int32.ofNat Y) M') (fun z => z.1 = Int32.ofNat (cy_ (wd_w S w) (fun Y => sd_ S w h Y p) 601).length ∧ rt_ S no_ (cy_ (wd_w S w) (fun Y => sd_ S w h Y p) 601) z.2) := by
      intro M' hr' hd0 hd1 ok2
      unfold f_X12_changes_83 f_X12_changes_97
      refine wp_be (r_al ok1 ok2 hd0 hd1) ?_
      have hcs := cy_s (a := wd_w S w) (F := fun Y => sd_ S w h Y p) (k := Y)
      by_cases c : sd_ S w h Y p = pv_ (wd_w S w) (fun Y => sd_ S w h Y p) Y
      · rw [show decide (sd_n S no_ w h Y p = pv_ (wd_w S w) (fun Y => sd_ S w h Y p) Y) = true from decide_eq_true c, if_neg (by decide)]
        refine wp_sr ?_
        rw [if_pos c, List.append_nil] at hcs
        rw [e1]
        exact ih (Y + 1) m M' (by omega) (by omega) (by rw [hcs]; exact hr')
      · rw [show decide (sd_n S no_ w h Y p = pv_ (wd_w S w) (fun Y => sd_ S w h Y p) Y) = false from decide_eq_false c, if_pos (by decide), n3_6 (by omega)]
        rw [if_neg c] at hcs
        refine wp_bd (wp_mo (r_ent hr' (by omega) _) (fun u hu => wp_sr ?_))
        rw [e1]
        exact ih (Y + 1) m u (by omega) (by omega) (by rw [hcs]; exact hu.1)
    unfold f_X12_changes_39l f_X12_changes_39
    rw [if_neg (show ¬ ((600 : Int32) < Int32.ofNat Y) from fun hh => by have := (n3_lt (a := 600) (by omega) (by omega)).mp hh; omega)]
    refine wp_bd (wp_mo (r_sd (hand := 0) hr.1 hw hwd (by omega) (show h < 2147483648 by omega) (show Y < 2147483648 by omega) hp) (fun z hz => ?_))
    have f1 : fr_ pw_s2 M z := hz.1.mono (fun a b hab => pw_sa2 hab)
    have hr1 := hr.fr2 f1
    by_cases c0 : Y = 0
    · rw [if_pos (show Int32.ofNat Y = 0 by rw [c0]; rfl)]
      refine wp_bd (wp_mo (r_sp (hand := 1) hr1.1.1 hw hwd (by omega)) (fun u hu => ?_))
      have f2 : fr_ pw_s2 z u := hu.1.mono (fun a b hab => pw_sa2 (Or.inl hab))
      have hpv : pv_ (wd_w S w) (fun Y => sd_ S w h Y p) Y = wd_w S w := by unfold pv_; rw [if_pos c0]
      refine fin u (hr1.fr2 f2) (hz.2.fr hu.1 (by simp [pw_wk]) (fun i hi2 => by
          have := ok1.1
          unfold pw_wk
          omega)) (by rw [hpv]; exact hu.2) (by rw [hpv]; exact wd_ok hw hwd)
    · rw [if_neg (show ¬ (Int32.ofNat Y = 0) from fun hh => c0 ((n3_eq (b := 0) (by omega) (by omega)).mp hh)), show Int32.ofNat Y - 1 = Int32.ofNat (Y - 1) from n3_sub (a := Y) (b := 1) (by omega)]
      refine wp_bd (wp_mo (r_sd (hand := 1) hr1.1 hw hwd (by omega) (show h < 2147483648 by omega) (show Y - 1 < 2147483648 by omega) hp) (fun u hu => ?_))
      have f2 : fr_ pw_s2 z u := hu.1.mono (fun a b hab => pw_sa2 hab)
      have hpv : pv_ (wd_w S w) (fun Y => sd_ S w h Y p) Y = sd_n S no_ w h (Y - 1) p := by unfold pv_; rw [if_neg c0]; rfl
      refine fin u (hr1.fr2 f2) (hz.2.fr hu.1 (by simp [pw_sa, pw_wk, pw_ln]) (fun i hi2 => by
          have := ok1.1
          unfold pw_sa pw_wk pw_ln
          omega)) (by rw [hpv]; exact hu.2) (by rw [hpv]; exact sd_ok hw hwd)
theorem m_changes (hrl0 : rl_ Mc Mr) (x1 x2 x3 : Int32) : bo_ (f_X11_changes x1 x2 x3 Mc) (f_X12_changes x1 x2 x3 Mr) := by
  obtain ⟨S, vs, hw, hv, hc, hr⟩ := hrl0
  have hr1 := hr.th
  have hrl : rl_ Mc (mm_si Mr 0 0 0) := ⟨S, vs, hw, hv, hc, hr1⟩
  have h600 := hw.hist
  have h20 := hw.words
  have h6 := hw.laws
  unfold f_X11_changes f_X12_changes
  rw [sq_n (x := mm_si Mr 0 0 0), c_isWord hc.2.1 hw, c_isHist hc.2.1 hw, c_isPlace, r_isWord hr1.1.1 hw, r_isHist hr1.1.1 hw, r_isThen, show lt_ 0 601 = true from rfl, Bool.true_and]
  refine bo_g hrl (fun b1 => bo_gb hrl (fun b2 => bo_g hrl (fun b3 => ?_)))
  obtain ⟨w, rfl, hwd⟩ := lt_nat b1 (by omega)
  obtain ⟨h, rfl, hh⟩ := lt_nat b2 (by omega)
  obtain ⟨p, rfl, hp⟩ := lt_nat b3 (by omega)
  have hcw : cw_ S w h p (S 0 11 + 1) = cy_ (wd_w S w) (fun Y => sd_ S w h Y p) 601 := by
    unfold cw_
    rw [if_neg (by omega), Nat.add_sub_cancel, cy_end hw hp]
  have hl : (cy_ (wd_w S w) (fun Y => sd_ S w h Y p) 601).length ≤ 7 := by
    rw [← hcw]
    have := cw_l (S := S) (w := w) (h := h) (p := p) (Nat.le_refl (S 0 11 + 1))
    omega
  refine bo_mk (S := S) (vs := cy_ (wd_w S w) (fun Y => sd_ S w h Y p) 601) (A := Int32.ofNat (cy_ (wd_w S w) (fun Y => sd_ S w h Y p) 601).length) hw ⟨by omega, fun v hv2 => by
    unfold cy_ at hv2
    have := List.mem_range.mp (List.mem_filter.mp hv2).1
    omega⟩ ?_ ?_
  · refine wp_sr ?_
    have hc0 := hc.clear hw
    obtain ⟨⟨W, pt, ht⟩, hI, -⟩ := id hc0
    have hf := c_form (c := 0) ht hw (by have := ht.w1; omega) hwd
    rw [ht.root] at hf
    refine wp_be hf ?_
    have := k_changes_l (p := p) hw hwd hh hp (S 0 11 + 1) 0 fu_ (f_X4_clear Mc) (by omega) (by unfold fu_; omega) hc0
    rw [hcw] at this
    exact this
  · refine wp_sr ?_
    exact q_changes_l hw hwd hh hp 601 0 fu_ _ (by omega) (by unfold fu_; omega) (rr_nil hr1)
end VS1
