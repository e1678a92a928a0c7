/-! CALLS: one -/
section VU1
variable {S S' : sg_} {M M0 Mc Mr Z : mm_M} {vs : List Nat} {p h v w : Nat}
theorem q_one_l (hw : wf_ S) (hv : v < S 0 8) (hwd : w < S 0 8) (hh : h < hs_ S) (hp : p < 6) : ∀ (e Y n : Nat) (M : mm_M), Y + e = 601 → e + 1 < n → rt_ S no_ (beo_ (alo_ S v w h p) Y) M →
    wp_ (f_X12_one_54l n (Int32.ofNat v) (Int32.ofNat w) (Int32.ofNat h) (Int32.ofNat p) (Int32.ofNat (bno_ (alo_ S v w h p) Y)) (bi_ (pbo_ (alo_ S v w h p) Y)) (Int32.ofNat Y) M) (fun z => z.1 = Int32.ofNat (bno_ (alo_ S v w h p) 601) ∧ rt_ S no_ (beo_ (alo_ S v w h p) 601 ++ (if alo_ S v w h p 600 = true then [600] else [])) z.2) := by
  have h600 := hw.hist
  have h6 := hw.laws
  have hl : (beo_ (alo_ S v w h p) 601).length ≤ 7 := by
    rw [(beb_end hw hp).1]
    have := beb_l (S := S) (h := h) (p := p) (w := w) (v := v) (S 0 11 + 1) (Nat.le_refl _)
    omega
  have hn12 : ∀ k, k ≤ 601 → bno_ (alo_ S v w h p) k ≤ 7 ∧ (beo_ (alo_ S v w h p) k).length ≤ 7 := fun k hk => by
    have a1 := bno_le (F := alo_ S v w h p) k
    have a2 := beo_mono (F := alo_ S v w h p) (k := k) (601 - k)
    rw [show k + (601 - k) = 601 by omega] at a2
    omega
  intro e
  induction e with
  | zero =>
    intro Y n M hY hn hr
    obtain ⟨m, rfl⟩ : ∃ m, n = m + 1 + 1 := ⟨n - 2, by omega⟩
    have hYY : Y = 601 := by omega
    subst hYY
    have hb := hn12 601 (by omega)
    have z0 : ∀ x, Int32.ofNat x + 0 = Int32.ofNat x := fun x => by
      have := n3_add x 0
      rw [Nat.add_zero] at this; exact this
    have hpb : pbo_ (alo_ S v w h p) 601 = alo_ S v w h p 600 := rfl
    have last : ∀ M', rt_ S no_ (beo_ (alo_ S v w h p) 601 ++ (if alo_ S v w h p 600 = true then [600] else [])) M' → wp_ (f_X12_one_54l (m + 1) (Int32.ofNat v) (Int32.ofNat w) (Int32.ofNat h) (Int32.ofNat p) (Int32.ofNat (bno_ (alo_ S v w h p) 601) + 0) 0 (Int32.ofNat 601 + 1) M') (fun z => z.1 = Int32.ofNat (bno_ (alo_ S v w h p) 601) ∧ rt_ S no_ (beo_ (alo_ S v w h p) 601 ++ (if alo_ S v w h p 600 = true then [600] else [])) z.2) := by
      intro M' hr'
      unfold f_X12_one_54l f_X12_one_54
      rw [if_pos (by decide)]
      exact wp_some ⟨z0 _, hr'⟩
    rw [f_X12_one_54l]
    unfold f_X12_one_54
    rw [if_neg (by decide), if_pos (by decide)]
    unfold f_X12_one_90
    rw [if_pos rfl]
    unfold f_X12_one_106 f_X12_one_107 f_X12_one_144 f_X12_one_147
    rw [hpb]
    refine wp_sr (wp_sr ?_)
    rw [show f_X12_truth 0 = 0 from rfl]
    cases ha : alo_ S v w h p 600 with
    | false =>
      rw [if_pos rfl]
      refine wp_sr ?_
      rw [ha] at last
      exact last M (by simpa using hr)
    | true =>
      rw [if_neg (by decide), if_neg (show ¬ ((12 : Int32) < Int32.ofNat (bno_ (alo_ S v w h p) 601) + 0) from fun hh => by
        rw [z0] at hh
        have := (n3_lt (a := 12) (by omega) (by omega)).mp hh
        omega), if_pos rfl, show (Int32.ofNat 601 - 1).toInt64 = Int64.ofNat 600 by decide]
      refine wp_bd (wp_mo (r_ent hr (by omega) _) (fun u hu => wp_sr ?_))
      rw [ha] at last
      exact last u hu.1
  | succ e ih =>
    intro Y n M hY hn hr
    obtain ⟨m, rfl⟩ : ∃ m, n = m + 1 := ⟨n - 1, by omega⟩
    have e1 : Int32.ofNat Y + 1 = Int32.ofNat (Y + 1) := n3_add Y 1
    have hb := hn12 (Y + 1) (by omega)
    have hb0 := hn12 Y (by omega)
    have ok1 : ok_ (sd_n S no_ v h Y p) := sd_ok hw hv
    have ok2 : ok_ (sd_n S no_ w h Y p) := sd_ok hw hwd
    have hbe : beo_ (alo_ S v w h p) (Y + 1) = beo_ (alo_ S v w h p) Y ++ (if alo_ S v w h p Y = pbo_ (alo_ S v w h p) Y then [] else [if alo_ S v w h p Y = true then Y else Y - 1]) := rfl
    have hbn : bno_ (alo_ S v w h p) (Y + 1) = bno_ (alo_ S v w h p) Y + (if (alo_ S v w h p Y && !pbo_ (alo_ S v w h p) Y) = true then 1 else 0) := rfl
    have hpb : pbo_ (alo_ S v w h p) (Y + 1) = alo_ S v w h p Y := by unfold pbo_; rw [if_neg (by omega), Nat.add_sub_cancel]
    rw [f_X12_one_54l]
    unfold f_X12_one_54
    rw [if_neg (show ¬ ((601 : Int32) < Int32.ofNat Y) from fun hh => by have := (n3_lt (a := 601) (by omega) (by omega)).mp hh; omega), if_neg (show ¬ ((600 : Int32) < Int32.ofNat Y) from fun hh => by have := (n3_lt (a := 600) (by omega) (by omega)).mp hh; omega)]
    refine wp_bd (wp_mo (r_both hr.1 hw hv hwd (show h < 2147483648 by omega) (show Y < 2147483648 by omega) hp) (fun z hz => ?_))
    have hr1 := hr.fr2 hz.1
    refine wp_be (r_al ok1 ok2 hz.2.2.1 hz.2.2.2) ?_
    rw [show decide (sd_n S no_ v h Y p = sd_n S no_ w h Y p) = alo_ S v w h p Y from rfl]
    have go := fun M' hr' => ih (Y + 1) m M' (by omega) (by omega) hr'
    rw [hpb] at go
    have c12 : ∀ x, x ≤ 7 → ¬ ((12 : Int32) < Int32.ofNat x) := fun x hx hh => by have := (n3_lt (a := 12) (by omega) (by omega)).mp hh; omega
    unfold f_X12_one_90
    cases ha : alo_ S v w h p Y with
    | false =>
      rw [if_pos (by decide)]
      unfold f_X12_one_106 f_X12_one_107 f_X12_one_144 f_X12_one_147
      rw [ha, Bool.false_and, if_neg (by decide)] at hbn
      refine wp_sr (wp_sr ?_)
      rw [show f_X12_truth 0 = Int32.ofNat 0 from rfl, n3_add, ← hbn]
      rw [ha] at hbe go
      cases hq : pbo_ (alo_ S v w h p) Y with
      | false =>
        rw [if_pos rfl]
        refine wp_sr ?_
        rw [hq, if_pos rfl, List.append_nil] at hbe
        rw [e1]
        exact go z (by rw [hbe]; exact hr1)
      | true =>
        have hpos : 1 ≤ Y := by
          by_cases c0 : Y = 0
          · rw [c0] at hq; cases hq
          · omega
        rw [hq, if_neg (by decide), if_neg (by decide)] at hbe
        rw [if_neg (by decide), if_neg (c12 _ hb.1), if_pos (by decide), show Int32.ofNat Y - 1 = Int32.ofNat (Y - 1) from n3_sub (a := Y) (b := 1) hpos, n3_6 (by omega)]
        refine wp_bd (wp_mo (r_ent hr1 (by omega) _) (fun u hu => wp_sr ?_))
        rw [e1]
        exact go u (by rw [hbe]; exact hu.1)
    | true =>
      rw [if_neg (by decide)]
      rw [ha] at hbe go
      rw [ha, Bool.true_and] at hbn
      cases hq : pbo_ (alo_ S v w h p) Y with
      | false =>
        rw [if_pos (by decide)]
        unfold f_X12_one_107 f_X12_one_144 f_X12_one_147
        rw [hq, if_pos (by decide)] at hbn
        refine wp_sr (wp_sr ?_)
        rw [show f_X12_truth 1 = Int32.ofNat 1 from rfl, n3_add, ← hbn]
        rw [hq, if_neg (by decide), if_pos rfl] at hbe
        rw [if_neg (by decide), if_neg (c12 _ hb.1), if_neg (by decide), n3_6 (by omega)]
        refine wp_bd (wp_mo (r_ent hr1 (by omega) _) (fun u hu => wp_sr ?_))
        rw [e1]
        exact go u (by rw [hbe]; exact hu.1)
      | true =>
        rw [if_neg (by decide)]
        unfold f_X12_one_106 f_X12_one_107 f_X12_one_144 f_X12_one_147
        rw [hq, if_neg (by decide)] at hbn
        refine wp_sr (wp_sr ?_)
        rw [show f_X12_truth 0 = Int32.ofNat 0 from rfl, n3_add, ← hbn, if_pos rfl]
        refine wp_sr ?_
        rw [hq, if_pos rfl, List.append_nil] at hbe
        rw [e1]
        exact go z (by rw [hbe]; exact hr1)
theorem beo_m {F : Nat → Bool} : ∀ k x, x ∈ beo_ F k → x < k := by
  intro k
  induction k with
  | zero => intro x hx; cases hx
  | succ k ih =>
    intro x hx
    rw [beo_, List.mem_append] at hx
    rcases hx with hx | hx
    · have := ih x hx; omega
    · split at hx
      · cases hx
      · rw [List.mem_singleton] at hx
        rw [hx]
        split <;> omega
theorem m_one (hrl0 : rl_ Mc Mr) (x1 x2 x3 x4 : Int32) : bo_ (f_X11_one x1 x2 x3 x4 Mc) (f_X12_one x1 x2 x3 x4 Mr) := by
  obtain ⟨S, vs, hw, hv, hc, hr⟩ := hrl0
  have hr1 := hr.th
  have hrl : rl_ Mc (mm_si Mr 0 0 0) := ⟨S, vs, hw, hv, hc, hr1⟩
  have h600 := hw.hist
  have h20 := hw.words
  have h6 := hw.laws
  unfold f_X11_one f_X12_one
  rw [sq_n (x := mm_si Mr 0 0 0), c_isWord hc.2.1 hw, c_isWord hc.2.1 hw, c_isHist hc.2.1 hw, c_isPlace, r_isWord hr1.1.1 hw, r_isWord hr1.1.1 hw, r_isHist hr1.1.1 hw, r_isThen, show lt_ 0 601 = true from rfl, Bool.true_and]
  refine bo_g hrl (fun b0 => bo_g hrl (fun b1 => bo_gb hrl (fun b2 => bo_g hrl (fun b3 => ?_))))
  obtain ⟨v, rfl, hvd⟩ := lt_nat b0 (by omega)
  obtain ⟨w, rfl, hwd⟩ := lt_nat b1 (by omega)
  obtain ⟨h, rfl, hh⟩ := lt_nat b2 (by omega)
  obtain ⟨p, rfl, hp⟩ := lt_nat b3 (by omega)
  obtain ⟨g1, g2, g3⟩ := beb_end (S := S) (v := v) (w := w) (h := h) hw hp
  have hl : (beo_ (alo_ S v w h p) 601).length ≤ 7 := by
    rw [g1]
    have := beb_l (S := S) (h := h) (p := p) (w := w) (v := v) (S 0 11 + 1) (Nat.le_refl _)
    omega
  refine bo_mk (S := S) (vs := beo_ (alo_ S v w h p) 601 ++ (if alo_ S v w h p 600 = true then [600] else [])) (A := Int32.ofNat (bno_ (alo_ S v w h p) 601)) hw ⟨by rw [List.length_append]; split <;> simp <;> omega, fun x hx => by
    rw [List.mem_append] at hx
    rcases hx with hx | hx
    · have := beo_m 601 x hx; omega
    · split at hx
      · rw [List.mem_singleton] at hx; omega
      · cases hx⟩ ?_ ?_
  · refine wp_sr ?_
    have := k_one_l (v := v) (w := w) (h := h) (p := p) hw hvd hwd hh hp (S 0 11 + 1) 0 fu_ (f_X4_clear Mc) [] none (by omega) (by unfold fu_; omega) (hc.clear hw) rfl (fun x hx => by cases hx) rfl
    rw [← g1, ← g2, ← g3] at this
    exact this
  · refine wp_sr ?_
    exact q_one_l hw hvd hwd hh hp 601 0 fu_ _ (by omega) (by unfold fu_; omega) (rr_nil hr1)
end VU1
