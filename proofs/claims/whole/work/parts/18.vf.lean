/-! CALLS: mark -/
section VF1
variable {S S' : sg_} {M Mc Mr : mm_M} {vs : List Nat} {nv : Nat → Bool} {W : Nat} {pt : Nat → List Nat}
def adv_ (kd one oth yr pl nm a : Nat) : Nat := if a = 18 then kd else if a = 19 then one else if a = 20 then oth else if a = 21 then yr else if a = 22 then pl else if a = 23 then nm else if a = 24 then 0 else if a = 25 then 5 else 1
/-- one sign more -/
def ad_ (S : sg_) (kd one oth yr pl nm : Nat) : sg_ := fun a b => if a = 0 ∧ b = 28 then S 0 28 + 1 else if b = S 0 28 ∧ 18 ≤ a ∧ a ≤ 26 then adv_ kd one oth yr pl nm a else S a b
section AD
variable {kd one oth yr pl nm : Nat}
theorem ad_n : ad_ S kd one oth yr pl nm 0 28 = S 0 28 + 1 := by unfold ad_; rw [if_pos ⟨rfl, rfl⟩]
theorem ad_v {a : Nat} (h1 : 18 ≤ a) (h2 : a ≤ 26) : ad_ S kd one oth yr pl nm a (S 0 28) = adv_ kd one oth yr pl nm a := by unfold ad_; rw [if_neg (by omega), if_pos ⟨rfl, h1, h2⟩]
theorem ad_o {a b : Nat} (h : ¬ (a = 0 ∧ b = 28) ∧ ¬ (b = S 0 28 ∧ 18 ≤ a ∧ a ≤ 26)) : ad_ S kd one oth yr pl nm a b = S a b := by unfold ad_; rw [if_neg h.1, if_neg h.2]
theorem ad_co : co_ S (ad_ S kd one oth yr pl nm) := ⟨fun a h1 h2 => by funext y; exact ad_o (by omega), ad_o (by omega), ad_o (by omega)⟩
theorem wf_ad (hw : wf_ S) (hn : S 0 28 < 16) (h1 : kd ≤ 4) (h2 : one < S 0 8) (h3 : kd ≠ 2 → kd ≠ 3 → oth < S 0 8 ∧ oth ≠ one) (h4 : yr ≤ 600) (h5 : pl < 6) (h6 : kd = 2 → nm ≤ 8) (h7 : kd = 3 → nm ≤ 127) : wf_ (ad_ S kd one oth yr pl nm) := by
  have e : ∀ x y, ¬ (x = 0 ∧ y = 28) ∧ ¬ (y = S 0 28 ∧ 18 ≤ x ∧ x ≤ 26) → ad_ S kd one oth yr pl nm x y = S x y := fun x y h => ad_o h
  have key : ∀ (P : sg_ → Nat → Prop), (∀ s, s < S 0 28 → P S s) → (∀ s, s < S 0 28 → P S s → P (ad_ S kd one oth yr pl nm) s) → P (ad_ S kd one oth yr pl nm) (S 0 28) → ∀ s, s < ad_ S kd one oth yr pl nm 0 28 → P (ad_ S kd one oth yr pl nm) s := by
    intro P a1 a2 a3 s hs
    rw [ad_n] at hs
    by_cases c : s = S 0 28
    · rw [c]; exact a3
    · exact a2 s (by omega) (a1 s (by omega))
  refine ad_co.wf hw ?_ ?_ ?_ ?_ ?_ ?_ ?_ ?_ ?_ ?_ ?_ ?_ ?_ ?_ ?_ ?_ ?_ ?_
  · rw [e 0 4 (by omega)]; exact hw.tp
  · intro j hj; rw [e 0 4 (by omega)] at hj; rw [e 2 j (by omega)]; exact hw.tape j hj
  · intro p hp; rw [e 13 p (by omega)]; exact hw.lag p hp
  · rw [ad_n]; omega
  · refine key (fun T s => T 18 s ≤ 4) hw.kind (fun s hs h => by rw [e 18 s (by omega)]; exact h) ?_
    rw [ad_v (by omega) (by omega)]; exact h1
  · refine key (fun T s => T 19 s < T 0 8) hw.one (fun s hs h => by rw [e 19 s (by omega), e 0 8 (by omega)]; exact h) ?_
    rw [ad_v (by omega) (by omega), e 0 8 (by omega)]; exact h2
  · refine key (fun T s => T 18 s ≠ 2 → T 18 s ≠ 3 → T 20 s < T 0 8 ∧ T 20 s ≠ T 19 s) hw.oth (fun s hs h => by rw [e 18 s (by omega), e 19 s (by omega), e 20 s (by omega), e 0 8 (by omega)]; exact h) ?_
    rw [ad_v (by omega) (by omega), ad_v (by omega) (by omega), ad_v (by omega) (by omega), e 0 8 (by omega)]; exact h3
  · refine key (fun T s => T 21 s ≤ 600) hw.year (fun s hs h => by rw [e 21 s (by omega)]; exact h) ?_
    rw [ad_v (by omega) (by omega)]; exact h4
  · refine key (fun T s => T 22 s < 6) hw.pl (fun s hs h => by rw [e 22 s (by omega)]; exact h) ?_
    rw [ad_v (by omega) (by omega)]; exact h5
  · refine key (fun T s => T 18 s = 2 → T 23 s ≤ 8) hw.nm2 (fun s hs h => by rw [e 18 s (by omega), e 23 s (by omega)]; exact h) ?_
    rw [ad_v (by omega) (by omega), ad_v (by omega) (by omega)]; exact h6
  · refine key (fun T s => T 18 s = 3 → T 23 s ≤ 127) hw.nm3 (fun s hs h => by rw [e 18 s (by omega), e 23 s (by omega)]; exact h) ?_
    rw [ad_v (by omega) (by omega), ad_v (by omega) (by omega)]; exact h7
  · refine key (fun T s => T 24 s < 6) hw.poet (fun s hs h => by rw [e 24 s (by omega)]; exact h) ?_
    rw [ad_v (by omega) (by omega)]; show 0 < 6; omega
  · refine key (fun T s => 1 ≤ T 25 s ∧ T 25 s ≤ 9) hw.trust (fun s hs h => by rw [e 25 s (by omega)]; exact h) ?_
    rw [ad_v (by omega) (by omega)]; show 1 ≤ 5 ∧ 5 ≤ 9; omega
  · refine key (fun T s => T 26 s ≤ 1) hw.on (fun s hs h => by rw [e 26 s (by omega)]; exact h) ?_
    rw [ad_v (by omega) (by omega)]; show 1 ≤ 1; omega
  · intro i hi; rw [e 36 i (by omega)]; exact hw.kept i hi
  · intro i hi; rw [e 37 i (by omega), ad_n]; have := hw.ks i hi; omega
  · intro i hi q hq; rw [e 37 i (by omega)] at hq; rw [e 38 _ (by omega), e 39 _ (by omega), e 40 _ (by omega)]; exact hw.kon i hi q hq
  · intro i hi hk k hk2; rw [e 36 i (by omega)] at hk; rw [e 41 _ (by omega), e 42 _ (by omega)]; exact hw.klag i hi hk k hk2
theorem rt_ad (h : rt_ S nv vs M) {M' : mm_M} (hm : ∀ a b, ¬ (b = S 0 28 ∧ 18 ≤ a ∧ a ≤ 26) → ¬ (a = 0 ∧ b = 28) → M'.1 a b = M.1 a b) (h2 : M'.2 = M.2) (hn : M'.1 0 28 = Int32.ofNat (S 0 28 + 1)) (hs : sgn_ M' (S 0 28) kd one oth yr pl nm) (hp0 : M'.1 24 (S 0 28) = Int32.ofNat 0) (ht : M'.1 25 (S 0 28) = Int32.ofNat 5) (ho : M'.1 26 (S 0 28) = Int32.ofNat 1) : rt_ (ad_ S kd one oth yr pl nm) nv vs M' := by
  refine ⟨⟨fun a b hp => ?_, fun l hl => by rw [hm 0 25 (by omega) (by omega)]; exact h.1.2.1 l hl, ?_⟩, ?_, fun j v hv => by rw [h2]; exact h.2.2 j v hv⟩
  · by_cases c0 : a = 0 ∧ b = 28
    · rw [c0.1, c0.2, hn, ad_n]
    · have e : ∀ x y, ¬ (x = 0 ∧ y = 28) ∧ ¬ (y = S 0 28 ∧ 18 ≤ x ∧ x ≤ 26) → ad_ S kd one oth yr pl nm x y = S x y := fun x y h => ad_o h
      unfold pe_ at hp
      rw [ad_n, e 0 4 (by omega), e 0 8 (by omega), e 0 11 (by omega), e 5 _ (by omega), e 36 _ (by omega), e 37 _ (by omega)] at hp
      by_cases c1 : b = S 0 28 ∧ 18 ≤ a ∧ a ≤ 26
      · obtain ⟨rfl, c2, c3⟩ := c1
        rw [ad_v c2 c3]
        rw [ad_v (by omega) (by omega)] at hp
        obtain ⟨s1, s2, s3, s4, s5, s6⟩ := hs
        have h18 : adv_ kd one oth yr pl nm 18 = kd := rfl
        rw [h18] at hp
        rcases (show a = 18 ∨ a = 19 ∨ a = 20 ∨ a = 21 ∨ a = 22 ∨ a = 23 ∨ a = 24 ∨ a = 25 ∨ a = 26 by omega) with rfl | rfl | rfl | rfl | rfl | rfl | rfl | rfl | rfl
        · exact s1
        · exact s2
        · exact s3 (by omega) (by omega)
        · exact s4
        · exact s5
        · exact s6 (by omega)
        · exact hp0
        · exact ht
        · exact ho
      · rw [e a b ⟨c0, c1⟩, hm a b c1 c0]
        refine h.1.1 a b ?_
        unfold pe_
        rcases hp with h | h | h | h | h | h | h | h | h | h | h | h | h
        · exact Or.inl h
        · exact Or.inr (Or.inl h)
        · exact Or.inr (Or.inr (Or.inl h))
        · exact Or.inr (Or.inr (Or.inr (Or.inl h)))
        · exact Or.inr (Or.inr (Or.inr (Or.inr (Or.inl h))))
        · exact Or.inr (Or.inr (Or.inr (Or.inr (Or.inr (Or.inl h)))))
        · exact Or.inr (Or.inr (Or.inr (Or.inr (Or.inr (Or.inr (Or.inl h))))))
        · exact Or.inr (Or.inr (Or.inr (Or.inr (Or.inr (Or.inr (Or.inr (Or.inl ⟨h.1, by omega⟩)))))))
        · rw [e 18 b (by omega)] at h
          exact Or.inr (Or.inr (Or.inr (Or.inr (Or.inr (Or.inr (Or.inr (Or.inr (Or.inl ⟨h.1, by omega, h.2.2⟩))))))))
        · rw [e 18 b (by omega)] at h
          exact Or.inr (Or.inr (Or.inr (Or.inr (Or.inr (Or.inr (Or.inr (Or.inr (Or.inr (Or.inl ⟨h.1, by omega, h.2.2⟩)))))))))
        · exact Or.inr (Or.inr (Or.inr (Or.inr (Or.inr (Or.inr (Or.inr (Or.inr (Or.inr (Or.inr (Or.inl h))))))))))
        · exact Or.inr (Or.inr (Or.inr (Or.inr (Or.inr (Or.inr (Or.inr (Or.inr (Or.inr (Or.inr (Or.inr (Or.inl h)))))))))))
        · exact Or.inr (Or.inr (Or.inr (Or.inr (Or.inr (Or.inr (Or.inr (Or.inr (Or.inr (Or.inr (Or.inr (Or.inr h)))))))))))
  · show M'.1 0 26 = -1
    rw [hm 0 26 (by omega) (by omega)]; exact h.1.2.2
  · rw [hm 0 1 (by omega) (by omega)]; exact h.2.1
theorem cs_ad {M' : mm_M} (hw : wf_ S) (h : cs_ S vs M) (hn16 : S 0 28 < 16) (hm : ∀ a b, ¬ (a = 22 + S 0 28 ∧ b < 6) → ¬ (a = 19 ∧ (b = 3 ∨ b = 4 ∨ b = 6)) → M'.1 a b = M.1 a b) (h2 : M'.2 = M.2) (hn : M'.1 19 3 = Int32.ofNat (S 0 28 + 1))
    (hsc : sco_ M' (22 + S 0 28) kd one oth nm) (hy : M'.1 (22 + S 0 28) 4 = Int32.ofNat yr) (hp : M'.1 (22 + S 0 28) 5 = Int32.ofNat pl)
    (hon : M'.1 19 4 = M.1 19 4 ||| (1 <<< (Int32.ofNat (S 0 28) &&& 31))) (hd : M'.1 19 6 = M.1 19 6 ||| (1 <<< (Int32.ofNat (S 0 28) &&& 31))) : cs_ (ad_ S kd one oth yr pl nm) vs M' := by
  obtain ⟨⟨W, pt, htc⟩, hI, hh, hro⟩ := h
  have hco : co_ S (ad_ S kd one oth yr pl nm) := ad_co
  have e : ∀ x y, ¬ (x = 0 ∧ y = 28) ∧ ¬ (y = S 0 28 ∧ 18 ≤ x ∧ x ≤ 26) → ad_ S kd one oth yr pl nm x y = S x y := fun x y h => ad_o h
  refine ⟨⟨W, pt, hco.tc (htc.fr (hm 5 4 (by omega) (by omega)) (by funext b; exact hm 70 b (by omega) (by omega)) (by rw [h2]) (by rw [h2]))⟩, ?_, ?_, ?_⟩
  · refine hco.ic hw hI (fun x y hab => hm x y (by omega) (by omega)) (by rw [h2]) ?_ ?_ ?_ ?_ ?_ ?_ ?_ ?_
    · rw [hm 1 1 (by omega) (by omega), e 0 4 (by omega)]; exact hI.tp
    · intro j hj; rw [e 0 4 (by omega)] at hj; rw [hm 2 j (by omega) (by omega), e 2 j (by omega)]; exact hI.tape j hj
    · intro p hp; rw [hm 15 p (by omega) (by omega), e 13 p (by omega)]; exact hI.lag p hp
    · rw [hn, ad_n]
    · rw [hon, ad_n, hI.on, show mk_b (fun s => decide (ad_ S kd one oth yr pl nm 26 s = 1)) (S 0 28 + 1) = mk_b (fun s => decide (ad_ S kd one oth yr pl nm 26 s = 1)) (S 0 28) ||| (if decide (ad_ S kd one oth yr pl nm 26 (S 0 28) = 1) = true then 1 <<< (Int32.ofNat (S 0 28) &&& 31) else 0) from rfl]
      rw [ad_v (by omega) (by omega), if_pos (show decide (adv_ kd one oth yr pl nm 26 = 1) = true from rfl)]
      rw [mk_cg (f := fun s => decide (ad_ S kd one oth yr pl nm 26 s = 1)) (g := fun s => decide (S 26 s = 1)) (S 0 28) (fun s hs => by rw [e 26 s (by omega)])]
    · intro q hq; rw [ad_n] at hq
      by_cases c : q = S 0 28
      · subst c
        obtain ⟨f6, f7⟩ := hI.fresh (S 0 28) (by omega) hn16
        obtain ⟨t1, t2, t3, t4, t5⟩ := hsc
        unfold sc_
        rw [ad_v (by omega) (by omega), ad_v (by omega) (by omega), ad_v (by omega) (by omega), ad_v (by omega) (by omega), ad_v (by omega) (by omega), ad_v (by omega) (by omega), ad_v (by omega) (by omega), ad_v (by omega) (by omega)]
        exact ⟨t1, t2, t3, t4, t5, hy, hp, by rw [hm _ 6 (by omega) (by omega)]; exact f6, by rw [hm _ 7 (by omega) (by omega)]; exact f7⟩
      · exact sc_cg (hI.sg q (by omega)) (fun b hb => hm (22 + q) b (by omega) (by omega)) (fun a h1 h2 => e _ _ (by omega))
    · intro i hi; exact kp_cg (hI.kept i hi) (fun x y h1 h2 => hm x y (by omega) (by omega)) hi (fun x h1 => by funext y; exact e _ _ (by omega))
    · intro q h1 h3; rw [ad_n] at h1; rw [hm (22 + q) 6 (by omega) (by omega), hm (22 + q) 7 (by omega) (by omega)]; exact hI.fresh q (by omega) h3
  · intro q hq hd2 hi2 hhi
    rw [ad_n] at hq
    rw [hco.hs] at hhi
    rw [hd, ib_or] at hd2
    by_cases c : q = S 0 28
    · rw [c, ib_shl _ (by omega) _ (by omega)] at hd2
      simp at hd2
    · have hd3 : ib_ (M.1 19 6) q = false := by
        cases hb : ib_ (M.1 19 6) q with
        | false => rfl
        | true => rw [hb, Bool.true_or] at hd2; cases hd2
      rw [hm 21 hi2 (by omega) (by omega), show ho_ (ad_ S kd one oth yr pl nm) q hi2 = ho_ S q hi2 from hco.ho (fun x h1 h2 => e _ _ (by omega)) (e _ _ (by omega)) no_ hi2]
      exact hh q (by omega) hd3 hi2 hhi
  · exact ⟨by rw [hm 3 1 (by omega) (by omega)]; exact hro.1, fun j v hv => by rw [h2]; exact hro.2 j v hv⟩
end AD
theorem m_mark (h : rl_ Mc Mr) (x1 x2 x3 x4 x5 x6 : Int32) : bo_ (f_X11_mark x1 x2 x3 x4 x5 x6 Mc) (f_X12_mark x1 x2 x3 x4 x5 x6 Mr) := by
  obtain ⟨S, vs, hw, hv, hc, hr⟩ := h
  have hr1 := hr.th
  have hrl : rl_ Mc (mm_si Mr 0 0 0) := ⟨S, vs, hw, hv, hc, hr1⟩
  have h16 := hw.signs
  unfold f_X11_mark f_X12_mark
  rw [sq_n (x := mm_si Mr 0 0 0), c_may hc.2.1 hw, c_isYear, c_isPlace, r_may hr1.1.1 hw, hc.2.1.told, hr1.1.1.signs]
  by_cases c16 : S 0 28 = 16
  · rw [if_pos (show (16 : Int32) ≤ Int32.ofNat (S 0 28) from (n3_le (a := 16) (by omega) (by omega)).mpr (by omega)), if_pos (show Int32.ofNat (S 0 28) = 16 by rw [c16]; rfl)]
    cases hb : (mb_ S x1 x2 x3 x6 && (lt_ x4 601 && lt_ x5 6)) with
    | false => rw [gt_f]; exact bo_no hrl
    | true => rw [gt_t]; exact bo_no hrl
  · rw [if_neg (show ¬ ((16 : Int32) ≤ Int32.ofNat (S 0 28)) by rw [show (16 : Int32) = Int32.ofNat 16 from rfl, n3_le (by omega) (by omega)]; omega), if_neg (show ¬ (Int32.ofNat (S 0 28) = 16) by rw [show (16 : Int32) = Int32.ofNat 16 from rfl, n3_eq (by omega) (by omega)]; exact c16)]
    cases b0 : mb_ S x1 x2 x3 x6 with
    | false => rw [gt_f, Bool.false_and, gt_f]; exact bo_no hrl
    | true =>
      rw [gt_t, Bool.true_and]
      refine bo_g2 hrl (fun b1 b2 => ?_)
      obtain ⟨kd, one, oth, nm, rfl, hkd, rfl, hone, hoth, hnm, hn2, hn3⟩ := mb_nat hw b0
      obtain ⟨y, rfl, hy⟩ := lt_nat b1 (by omega)
      obtain ⟨p, rfl, hp⟩ := lt_nat b2 (by omega)
      have hix : ix_ok (Int32.ofNat (S 0 28)) 16 := (n3_ix (by omega)).mpr (by omega)
      have et : (Int32.ofNat (S 0 28)).toNatClampNeg = S 0 28 := n3_tn (by omega)
      have ea : Int32.ofNat (S 0 28) + 1 = Int32.ofNat (S 0 28 + 1) := n3_add _ 1
      refine bo_mk (A := Int32.ofNat (S 0 28)) (wf_ad (kd := kd) (one := one) (oth := oth) (yr := y) (pl := p) (nm := nm) hw (by omega) hkd hone (fun h2 h3 => (hoth h2 h3).2) (by omega) hp hn2 hn3) hv ?_ ?_
      · refine wp_ck hix (wp_sr (wp_sr (wp_sr (wp_some ?_))))
        simp only [et]
        obtain ⟨t1, t2, t3, t4, t5, t6⟩ := c_tell (M := Mc) (k0 := 22 + S 0 28) (x1 := Int32.ofNat kd) (x2 := Int32.ofNat one) (x3 := x3) (x4 := x6)
        have k2 : (Int32.ofNat kd = 2) ↔ kd = 2 := n3_eq (b := 2) (by omega) (by omega)
        have k3 : (Int32.ofNat kd = 3) ↔ kd = 3 := n3_eq (b := 3) (by omega) (by omega)
        unfold f_X6_addTold f_X5_put
        simp only [sq_n]
        generalize f_X5_tell (22 + S 0 28) (Int32.ofNat kd) (Int32.ofNat one) x3 x6 Mc = Z at t1 t2 t3 t4 t5 t6
        have z3 : Z.1 19 3 = Int32.ofNat (S 0 28) := by rw [t1 19 3 (by omega)]; exact hc.2.1.told
        refine ⟨?_, ?_⟩
        · rw [si_1, if_neg (by omega), si_1, if_neg (by omega)]; exact z3
        · have e3 : (mm_si (mm_si Z (22 + S 0 28) 4 (Int32.ofNat y)) (22 + S 0 28) 5 (Int32.ofNat p)).1 19 3 = Int32.ofNat (S 0 28) := by
            rw [si_1, if_neg (by omega), si_1, if_neg (by omega)]; exact z3
          rw [e3, ea]
          refine cs_ad hw hc (by omega) (fun a b h1 h2 => ?_) t6 ?_ ?_ ?_ ?_ ?_ ?_
          · rw [si_1, if_neg (by omega), si_1, if_neg (by omega), si_1, if_neg (by omega), si_1, if_neg (by omega), si_1, if_neg (by omega)]
            exact t1 a b (by omega)
          · rw [si_1, if_neg (by omega), si_1, if_neg (by omega), si_1, if_pos ⟨rfl, rfl⟩]
          · have q : ∀ b, b < 4 → (mm_si (mm_si (mm_si (mm_si (mm_si Z (22 + S 0 28) 4 (Int32.ofNat y)) (22 + S 0 28) 5 (Int32.ofNat p)) 19 3 (Int32.ofNat (S 0 28 + 1))) 19 4 ((mm_si (mm_si (mm_si Z (22 + S 0 28) 4 (Int32.ofNat y)) (22 + S 0 28) 5 (Int32.ofNat p)) 19 3 (Int32.ofNat (S 0 28 + 1))).1 19 4 ||| (1 <<< (Int32.ofNat (S 0 28) &&& 31)))) 19 6 ((mm_si (mm_si (mm_si (mm_si Z (22 + S 0 28) 4 (Int32.ofNat y)) (22 + S 0 28) 5 (Int32.ofNat p)) 19 3 (Int32.ofNat (S 0 28 + 1))) 19 4 ((mm_si (mm_si (mm_si Z (22 + S 0 28) 4 (Int32.ofNat y)) (22 + S 0 28) 5 (Int32.ofNat p)) 19 3 (Int32.ofNat (S 0 28 + 1))).1 19 4 ||| (1 <<< (Int32.ofNat (S 0 28) &&& 31)))).1 19 6 ||| (1 <<< (Int32.ofNat (S 0 28) &&& 31)))).1 (22 + S 0 28) b = Z.1 (22 + S 0 28) b := fun b hb => by
              rw [si_1, if_neg (by omega), si_1, if_neg (by omega), si_1, if_neg (by omega), si_1, if_neg (by omega), si_1, if_neg (by omega)]
            unfold sco_
            rw [q 0 (by omega), q 1 (by omega), q 2 (by omega), q 3 (by omega)]
            refine ⟨t2, t3, fun h2 h3 => ?_, fun hk => ?_, fun hk => ?_⟩
            · rw [t4, if_neg (fun hh => by rcases hh with hh | hh; exact h2 (k2.mp hh); exact h3 (k3.mp hh))]; exact (hoth h2 h3).1
            · rw [t4, if_pos (by rcases hk with hk | hk; exact Or.inl (k2.mpr hk); exact Or.inr (k3.mpr hk))]
            · rw [t5]; exact hnm hk
          · rw [si_1, if_neg (by omega), si_1, if_neg (by omega), si_1, if_neg (by omega), si_1, if_neg (by omega), si_1, if_pos ⟨rfl, rfl⟩]
          · rw [si_1, if_neg (by omega), si_1, if_neg (by omega), si_1, if_neg (by omega), si_1, if_pos ⟨rfl, rfl⟩]
          · rw [si_1, if_neg (by omega), si_1, if_pos ⟨rfl, rfl⟩, si_1, if_neg (by omega), si_1, if_neg (by omega), si_1, if_neg (by omega), t1 19 4 (by omega)]
          · rw [si_1, if_pos ⟨rfl, rfl⟩, si_1, if_neg (by omega), si_1, if_neg (by omega), si_1, if_neg (by omega), si_1, if_neg (by omega), t1 19 6 (by omega)]
      · refine wp_bd (wp_mo (q_lays (s := S 0 28) (kd := kd) (one := one) (oth := oth) (yr := y) (pl := p) (nm := nm) (by omega) (fun h2 h3 => (hoth h2 h3).1) hnm) (fun q hq => wp_sr (wp_some ?_)))
        obtain ⟨q1, q2, q3, q4, q5⟩ := hq
        have e28 : q.1 0 28 = Int32.ofNat (S 0 28) := by rw [q5.1 0 28 (by omega)]; exact hr1.1.1.signs
        refine ⟨?_, ?_⟩
        · show (mm_si q 0 28 (q.1 0 28 + 1)).1 0 28 - 1 = _
          rw [si_1, if_pos ⟨rfl, rfl⟩, e28, ea]
          exact n3_sub (show 1 ≤ S 0 28 + 1 by omega)
        · rw [e28, ea]
          have qq : ∀ a b, 18 ≤ a → (mm_si q 0 28 (Int32.ofNat (S 0 28 + 1))).1 a b = q.1 a b := fun a b ha => by rw [si_1, if_neg (by omega)]
          refine rt_ad hr1 (fun a b h1 h2 => ?_) ?_ ?_ ?_ ?_ ?_ ?_
          · rw [si_1, if_neg h2]; exact q5.1 a b (by omega)
          · exact q5.2
          · rw [si_1, if_pos ⟨rfl, rfl⟩]
          · unfold sgn_ at q1 ⊢
            rw [qq 18 _ (by omega), qq 19 _ (by omega), qq 20 _ (by omega), qq 21 _ (by omega), qq 22 _ (by omega), qq 23 _ (by omega)]
            exact q1
          · rw [qq _ _ (by omega)]; exact q2
          · rw [qq _ _ (by omega)]; exact q3
          · rw [qq _ _ (by omega)]; exact q4
end VF1
