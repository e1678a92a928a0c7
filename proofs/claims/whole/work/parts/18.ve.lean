/-! CALLS: might, mark -/
section VE1
variable {S S' : sg_} {M Mc Mr : mm_M} {vs : List Nat} {nv : Nat → Bool} {W : Nat} {pt : Nat → List Nat}
theorem mb_nat (hw : wf_ S) {x1 x2 x3 x6 : Int32} (h : mb_ S x1 x2 x3 x6 = true) : ∃ kd one oth nm, x1 = Int32.ofNat kd ∧ kd ≤ 4 ∧ x2 = Int32.ofNat one ∧ one < S 0 8 ∧ (kd ≠ 2 → kd ≠ 3 → x3 = Int32.ofNat oth ∧ oth < S 0 8 ∧ oth ≠ one) ∧ (kd = 2 ∨ kd = 3 → x6 = Int32.ofNat nm) ∧ (kd = 2 → nm ≤ 8) ∧ (kd = 3 → nm ≤ 127) := by
  have h20 := hw.words
  unfold mb_ at h
  obtain ⟨h1, h2⟩ := and_t h
  obtain ⟨one, rfl, ho⟩ := lt_nat h1 (by omega)
  by_cases c : x1 = 0 ∨ x1 = 1 ∨ x1 = 4
  · rw [if_pos c] at h2
    obtain ⟨h3, h4⟩ := and_t h2
    obtain ⟨oth, rfl, hoth⟩ := lt_nat h3 (by omega)
    have hne : oth ≠ one := fun he => by
      have := of_decide_eq_true h4
      exact this (by rw [he])
    rcases c with c | c | c
    · exact ⟨0, one, oth, 0, c, by omega, rfl, ho, fun _ _ => ⟨rfl, hoth, hne⟩, fun hk => by omega, fun hk => by omega, fun hk => by omega⟩
    · exact ⟨1, one, oth, 0, c, by omega, rfl, ho, fun _ _ => ⟨rfl, hoth, hne⟩, fun hk => by omega, fun hk => by omega, fun hk => by omega⟩
    · exact ⟨4, one, oth, 0, c, by omega, rfl, ho, fun _ _ => ⟨rfl, hoth, hne⟩, fun hk => by omega, fun hk => by omega, fun hk => by omega⟩
  · rw [if_neg c] at h2
    by_cases c2 : x1 = 2
    · rw [if_pos c2] at h2
      obtain ⟨nm, rfl, hn⟩ := lt_nat h2 (by omega)
      exact ⟨2, one, 0, nm, c2, by omega, rfl, ho, fun hk => absurd rfl hk, fun _ => rfl, fun _ => by omega, fun hk => by omega⟩
    · rw [if_neg c2] at h2
      by_cases c3 : x1 = 3
      · rw [if_pos c3] at h2
        obtain ⟨nm, rfl, hn⟩ := lt_nat h2 (by omega)
        exact ⟨3, one, 0, nm, c3, by omega, rfl, ho, fun _ hk => absurd rfl hk, fun _ => rfl, fun hk => by omega, fun _ => by omega⟩
      · rw [if_neg c3] at h2; cases h2
theorem c_tell {k0 : Nat} {x1 x2 x3 x4 : Int32} : (∀ a b, ¬ (a = k0 ∧ b < 4) → (f_X5_tell k0 x1 x2 x3 x4 M).1 a b = M.1 a b) ∧ (f_X5_tell k0 x1 x2 x3 x4 M).1 k0 0 = x1 ∧ (f_X5_tell k0 x1 x2 x3 x4 M).1 k0 1 = x2 ∧ (f_X5_tell k0 x1 x2 x3 x4 M).1 k0 2 = (if x1 = 2 ∨ x1 = 3 then x2 else x3) ∧ (f_X5_tell k0 x1 x2 x3 x4 M).1 k0 3 = x4 ∧ (f_X5_tell k0 x1 x2 x3 x4 M).2 = M.2 := by
  have key : ∀ t, (∀ a b, ¬ (a = k0 ∧ b < 4) → (mm_si (mm_si (mm_si (mm_si M k0 0 x1) k0 1 x2) k0 2 t) k0 3 x4).1 a b = M.1 a b) ∧ (mm_si (mm_si (mm_si (mm_si M k0 0 x1) k0 1 x2) k0 2 t) k0 3 x4).1 k0 0 = x1 ∧ (mm_si (mm_si (mm_si (mm_si M k0 0 x1) k0 1 x2) k0 2 t) k0 3 x4).1 k0 1 = x2 ∧ (mm_si (mm_si (mm_si (mm_si M k0 0 x1) k0 1 x2) k0 2 t) k0 3 x4).1 k0 2 = t ∧ (mm_si (mm_si (mm_si (mm_si M k0 0 x1) k0 1 x2) k0 2 t) k0 3 x4).1 k0 3 = x4 ∧ (mm_si (mm_si (mm_si (mm_si M k0 0 x1) k0 1 x2) k0 2 t) k0 3 x4).2 = M.2 := by
    intro t
    refine ⟨fun a b h => ?_, ?_, ?_, ?_, ?_, rfl⟩
    · rw [si_1, if_neg (by omega), si_1, if_neg (by omega), si_1, if_neg (by omega), si_1, if_neg (by omega)]
    · rw [si_1, if_neg (by omega), si_1, if_neg (by omega), si_1, if_neg (by omega), si_1, if_pos ⟨rfl, rfl⟩]
    · rw [si_1, if_neg (by omega), si_1, if_neg (by omega), si_1, if_pos ⟨rfl, rfl⟩]
    · rw [si_1, if_neg (by omega), si_1, if_pos ⟨rfl, rfl⟩]
    · rw [si_1, if_pos ⟨rfl, rfl⟩]
  unfold f_X5_tell f_X5_tell_21 f_X5_tell_26
  simp only [sq_n]
  by_cases c2 : x1 = 2
  · rw [if_pos c2, if_pos (Or.inl c2)]; exact key x2
  · rw [if_neg c2]
    by_cases c3 : x1 = 3
    · rw [if_pos c3, if_pos (Or.inr c3)]; exact key x2
    · rw [if_neg c3, if_neg (fun h => by rcases h with h | h; exact c2 h; exact c3 h)]; exact key x3
/-! might -/
theorem k_might_l (hw : wf_ S) {kd one oth nm y p : Nat} (hkd : kd ≤ 4) (h1 : one < S 0 8) (h2 : kd ≠ 2 → kd ≠ 3 → oth < S 0 8) (hnm : kd = 2 ∨ kd = 3 → nm ≤ 127) (hy : y < 601) (hp : p < 6) : ∀ (e k n : Nat) (M : mm_M), k + e = hs_ S → e < n → cs_ S vs M → hl_ S M → sco_ M 38 kd one oth nm →
    wp_ (f_X11_might_58l n (Int32.ofNat y) (Int32.ofNat p) (Int32.ofNat (fl_ S no_ k).length) (Int32.ofNat (nl_ (fun h => ho_k S kd nm (sd_n S no_ one h y p) (sd_n S no_ oth h y p)) (fl_ S no_ k))) (Int32.ofNat k) M) (fun z => z.1 = Int32.ofNat (fl_ S no_ (hs_ S)).length ∧ cs_ S [nl_ (fun h => ho_k S kd nm (sd_n S no_ one h y p) (sd_n S no_ oth h y p)) (fl_ S no_ (hs_ S)), (fl_ S no_ (hs_ S)).length - nl_ (fun h => ho_k S kd nm (sd_n S no_ one h y p) (sd_n S no_ oth h y p)) (fl_ S no_ (hs_ S))] z.2) := by
  have h600 := hw.hist
  intro e
  induction e with
  | zero =>
    intro k n M hk2 hn hc hk hso
    obtain ⟨m, rfl⟩ : ∃ m, n = m + 1 := ⟨n - 1, by omega⟩
    have hkk : k = hs_ S := by omega
    have hll := fl_len (S := S) (nv := no_) (k := hs_ S)
    have hnl := nl_le (f := fun h => ho_k S kd nm (sd_n S no_ one h y p) (sd_n S no_ oth h y p)) (hs := fl_ S no_ (hs_ S))
    unfold f_X11_might_58l f_X11_might_58 f_X11_might_128
    rw [hc.2.1.hs, if_pos ((n3_le (by omega) (by omega)).mpr (by omega)), hkk, n3_sub hnl, n3_6 (by omega), n3_6 (by omega)]
    refine wp_sr (wp_bd (wp_mo ((hc.clear hw).add hw (by simp) _) (fun z hz => ?_)))
    refine wp_bd (wp_mo (hz.1.add hw (by simp) _) (fun z2 hz2 => wp_some ⟨rfl, hz2.1⟩))
  | succ e ih =>
    intro k n M hk2 hn hc hk hso
    obtain ⟨m, rfl⟩ : ∃ m, n = m + 1 := ⟨n - 1, by omega⟩
    have e1 : Int32.ofNat k + 1 = Int32.ofNat (k + 1) := n3_add k 1
    unfold f_X11_might_58l f_X11_might_58 f_X11_might_122
    rw [hc.2.1.hs, if_neg (by rw [n3_le (by omega) (by omega)]; omega)]
    refine wp_be (c_fits hc.2.1 hw hk (show k < hs_ S by omega)) ?_
    cases hb : ft_ S k with
    | false =>
      rw [if_pos (by decide)]
      refine wp_sr ?_
      have go := ih (k + 1) m M (by omega) (by omega) hc hk hso
      rw [fl_s, if_neg (by rw [show ft_n S no_ k = ft_ S k from rfl, hb]; decide), List.append_nil] at go
      rw [e1]
      exact go
    | true =>
      rw [if_neg (by decide)]
      obtain ⟨⟨W, pt, ht⟩, hI, -⟩ := id hc
      refine wp_sr (wp_bd (wp_mo (c_at ht hI hw (show k < hs_ S by omega) (show y < 1073741824 by omega) hp) (fun z hz => ?_)))
      obtain ⟨W1, pt1, d1, z1, z2, z3, z4, z5, z6⟩ := hz
      have hc1 := hc.fc hw z5 z6
      have hk1 : hl_ S z.2 := hk.fr (fun b => z5.1 21 b (by omega) (by omega))
      have hso1 : sco_ z.2 38 kd one oth nm := by
        unfold sco_ at hso ⊢
        rw [z5.1 38 0 (by omega) (by omega), z5.1 38 1 (by omega) (by omega), z5.1 38 2 (by omega) (by omega), z5.1 38 3 (by omega) (by omega)]
        exact hso
      have go := ih (k + 1) m z.2 (by omega) (by omega) hc1 hk1 hso1
      rw [fl_s, if_pos (show ft_n S no_ k = true from hb), nl_s, List.length_append] at go
      have e2 : Int32.ofNat (fl_ S no_ k).length + 1 = Int32.ofNat ((fl_ S no_ k).length + [k].length) := n3_add _ 1
      unfold f_X11_might_104 f_X11_might_119 f_X11_might_122
      rw [z1, e2]
      have hson := c_soOn z6 hc1.2.1 hw hso1 hkd hnm h1 h2 z2
      rw [z3] at hson
      refine wp_be hson ?_
      cases hho : ho_k S kd nm (sd_n S no_ one k y p) (sd_n S no_ oth k y p) with
      | false =>
        have hho2 : ho_k S kd nm (sa_l S (pa_ S no_ k y p) (wd_w S one)) (sa_l S (pa_ S no_ k y p) (wd_w S oth)) = false := hho
        rw [hho2, if_pos (by decide)]
        refine wp_sr (wp_sr ?_)
        rw [hho, if_neg (by decide)] at go
        rw [e1, show (0 : Int32) = Int32.ofNat 0 from rfl, n3_add]
        exact go
      | true =>
        have hho2 : ho_k S kd nm (sa_l S (pa_ S no_ k y p) (wd_w S one)) (sa_l S (pa_ S no_ k y p) (wd_w S oth)) = true := hho
        rw [hho2, if_neg (by decide)]
        refine wp_sr (wp_sr ?_)
        rw [hho, if_pos rfl] at go
        rw [e1, show (1 : Int32) = Int32.ofNat 1 from rfl, n3_add]
        exact go
theorem q_lays {s kd one oth yr pl nm : Nat} (hs : s < 17) {x4 x7 : Int32} (h4 : kd ≠ 2 → kd ≠ 3 → x4 = Int32.ofNat oth) (h7 : kd = 2 ∨ kd = 3 → x7 = Int32.ofNat nm) :
    wp_ (f_X12_lays (Int32.ofNat s) (Int32.ofNat kd) (Int32.ofNat one) x4 (Int32.ofNat yr) (Int32.ofNat pl) x7 M) (fun M' => sgn_ M' s kd one oth yr pl nm ∧ M'.1 24 s = Int32.ofNat 0 ∧ M'.1 25 s = Int32.ofNat 5 ∧ M'.1 26 s = Int32.ofNat 1 ∧ fr_ (fun a b => 18 ≤ a ∧ a ≤ 26 ∧ b = s) M M') := by
  have hix : ix_ok (Int32.ofNat s) 17 := (n3_ix (by omega)).mpr hs
  have et : (Int32.ofNat s).toNatClampNeg = s := n3_tn (by omega)
  have hnar : vp_nar .boolean 1 = Int32.ofNat 1 := rfl
  unfold f_X12_lays
  simp only [et]
  refine wp_ck hix (wp_sr (wp_ck hix (wp_sr (wp_ck hix (wp_sr (wp_ck hix (wp_sr (wp_ck hix (wp_sr (wp_ck hix (wp_sr (wp_ck hix (wp_sr (wp_ck hix (wp_sr (wp_ck hix (wp_sr (wp_some ?_))))))))))))))))))
  rw [hnar]
  refine ⟨⟨?_, ?_, fun h2 h3 => ?_, ?_, ?_, fun h => ?_⟩, ?_, ?_, ?_, ?_⟩
  · simp [si_1]
  · simp [si_1]
  · rw [h4 h2 h3]; simp [si_1]
  · simp [si_1]
  · simp [si_1]
  · rw [h7 h]; simp [si_1]
  · simp only [si_1]; simp
  · simp only [si_1]; simp
  · simp [si_1]
  · exact fr_.trans (fr_.trans (fr_.trans (fr_.trans (fr_.trans (fr_.trans (fr_.trans (fr_.trans (fr_si (by omega)) (fr_si (by omega))) (fr_si (by omega))) (fr_si (by omega))) (fr_si (by omega))) (fr_si (by omega))) (fr_si (by omega))) (fr_si (by omega))) (fr_si (by omega))
theorem m_might (h : rl_ Mc Mr) (x1 x2 x3 x4 x5 x6 : Int32) : bo_ (f_X11_might x1 x2 x3 x4 x5 x6 Mc) (f_X12_might x1 x2 x3 x4 x5 x6 Mr) := by
  obtain ⟨S, vs, hw, hv, hc, hr⟩ := h
  have hr1 := hr.th
  have hrl : rl_ Mc (mm_si Mr 0 0 0) := ⟨S, vs, hw, hv, hc, hr1⟩
  have h600 := hw.hist
  have h16 := hw.signs
  unfold f_X11_might f_X12_might
  rw [sq_n (x := mm_si Mr 0 0 0), c_may hc.2.1 hw, c_isYear, c_isPlace, r_may hr1.1.1 hw]
  cases b0 : mb_ S x1 x2 x3 x6 with
  | false => rw [gt_f, Bool.false_and, gt_f]; exact bo_no hrl
  | true =>
    rw [gt_t, Bool.true_and]
    refine bo_g2 hrl (fun b1 b2 => ?_)
    obtain ⟨kd, one, oth, nm, rfl, hkd, rfl, hone, hoth, hnm, hn2, hn3⟩ := mb_nat hw b0
    obtain ⟨y, rfl, hy⟩ := lt_nat b1 (by omega)
    obtain ⟨p, rfl, hp⟩ := lt_nat b2 (by omega)
    have hnm2 : kd = 2 ∨ kd = 3 → nm ≤ 127 := fun hk => by
      rcases hk with hk | hk
      · have := hn2 hk; omega
      · exact hn3 hk
    have hll := fl_len (S := S) (nv := no_) (k := hs_ S)
    have hnl := nl_le (f := fun h => ho_k S kd nm (sd_n S no_ one h y p) (sd_n S no_ oth h y p)) (hs := fl_ S no_ (hs_ S))
    refine bo_mk (S := S) (vs := [nl_ (fun h => ho_k S kd nm (sd_n S no_ one h y p) (sd_n S no_ oth h y p)) (fl_ S no_ (hs_ S)), (fl_ S no_ (hs_ S)).length - nl_ (fun h => ho_k S kd nm (sd_n S no_ one h y p) (sd_n S no_ oth h y p)) (fl_ S no_ (hs_ S))]) (A := Int32.ofNat (fl_ S no_ (hs_ S)).length) hw ⟨by simp, fun v hv2 => by simp at hv2; omega⟩ ?_ ?_
    · refine wp_bd (wp_mo (hc.look hw) (fun z hz => ?_))
      unfold f_X11_might_37
      refine wp_sr ?_
      obtain ⟨t1, t2, t3, t4, t5, t6⟩ := c_tell (M := z) (k0 := 38) (x1 := Int32.ofNat kd) (x2 := Int32.ofNat one) (x3 := x3) (x4 := x6)
      have hfk : fk_ (fun a b => a = 38) (fun _ => False) z (f_X5_tell 38 (Int32.ofNat kd) (Int32.ofNat one) x3 x6 z) := ⟨fun a b _ _ hp2 => t1 a b (fun hh => hp2 hh.1), fun a _ _ => by rw [t6]⟩
      obtain ⟨⟨W, pt, ht⟩, -⟩ := id hz.1
      have htc : tc_ S (f_X5_tell 38 (Int32.ofNat kd) (Int32.ofNat one) x3 x6 z) W pt := ht.fr (t1 5 4 (by omega)) (by funext b; exact t1 70 b (by omega)) (by rw [t6]) (by rw [t6])
      have k2 : (Int32.ofNat kd = 2) ↔ kd = 2 := n3_eq (b := 2) (by omega) (by omega)
      have k3 : (Int32.ofNat kd = 3) ↔ kd = 3 := n3_eq (b := 3) (by omega) (by omega)
      refine k_might_l hw hkd hone (fun h2 h3 => (hoth h2 h3).2.1) hnm2 hy hp (hs_ S) 0 fu_ _ (by omega) (by unfold fu_; omega) (hz.1.fk hw hfk htc (fun a b hab => by
        refine ⟨?_, by omega, by omega, by omega⟩
        have hL := hw.laws
        unfold pc_
        omega) (fun a ha => ha.elim)) (hz.2.1.fr (fun b => t1 21 b (by omega))) ?_
      refine ⟨t2, t3, fun h2 h3 => ?_, fun hk => ?_, fun hk => ?_⟩
      · rw [t4, if_neg (fun hh => by rcases hh with hh | hh; exact h2 (k2.mp hh); exact h3 (k3.mp hh))]; exact (hoth h2 h3).1
      · rw [t4, if_pos (by rcases hk with hk | hk; exact Or.inl (k2.mpr hk); exact Or.inr (k3.mpr hk))]
      · rw [t5]; exact hnm hk
    · refine wp_bd (wp_mo (q_gath hr1.1 hw) (fun z hz => ?_))
      refine wp_bd (wp_mo (q_lays (s := 16) (kd := kd) (one := one) (oth := oth) (yr := y) (pl := p) (nm := nm) (by omega) (fun h2 h3 => (hoth h2 h3).1) hnm) (fun q hq => ?_))
      obtain ⟨q1, -, -, -, q5⟩ := hq
      have hrq : rt_ S no_ vs q := by
        refine ⟨(hr1.ga hz.1).1.fr q5 (fun a b hab hpe => ?_) (by omega) (by omega), (hr1.ga hz.1).2.fr q5 (by omega)⟩
        obtain ⟨h18, h26, rfl⟩ := hab
        have h16b := hw.signs
        unfold pe_ at hpe
        rcases hpe with h | h | h | h | h | h | h | h | h | h | h | h | h <;> omega
      have hgq := hz.2.fr q5 (by omega) (fun b => by omega)
      refine wp_bd (wp_mo (q_heldBy hw (s := 16) (by omega) hkd hone (fun h2 h3 => (hoth h2 h3).2.1) (show y < 2147483648 by omega) hp hnm2 (fun x hx => by have := (fl_mem hx).1; omega) (show (fl_ S no_ (hs_ S)).length ≤ 600 by omega) (fl_ S no_ (hs_ S)) [] fu_ q rfl (by unfold fu_; omega) hrq hgq q1) (fun r hr2 => wp_sr ?_))
      obtain ⟨r1, r2, r3, -⟩ := hr2
      rw [r1, n3_6 (by omega)]
      refine wp_bd (wp_mo (r_ent (rr_nil r2) (by simp) _) (fun u hu => ?_))
      have e39 : u.1 0 39 = Int32.ofNat (fl_ S no_ (hs_ S)).length := by
        rw [hu.2.1 0 39 (by simp [pw_en]), si_1, if_neg (by omega)]; exact r3.1
      rw [e39, n3_sub hnl, n3_6 (by omega)]
      refine wp_bd (wp_mo (r_ent hu.1 (by simp) _) (fun u2 hu2 => wp_some ⟨?_, hu2.1⟩))
      show u2.1 0 39 = _
      rw [hu2.2.1 0 39 (by simp [pw_en]), e39]
end VE1
