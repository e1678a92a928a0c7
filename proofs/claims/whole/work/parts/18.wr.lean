/-! CALLS: law -/
section WR1
variable {S : sg_} {M M0 Mc Mr Z : mm_M} {vs : List Nat} {nv : Nat → Bool} {g b lf rt f by' m : Nat}
theorem wf_ns (hw : wf_ S) (hL : S 0 11 ≤ 5) (hg : g < 22) (hb : b < 16 ∨ b = 24) (hlf : lf ≤ 23) (hrt : rt ≤ 23) (hm : 1 ≤ m ∧ m ≤ 8) (hby : 1 ≤ by' ∧ by' < 2147483648) (hy : f + by' * (m - 1) ≤ 400) (h600 : hs_ S * m ≤ 600) : wf_ (nl_s_ S g b lf rt f by' m) := by
  have e : ∀ x y, ¬ (x = 0 ∧ (y = 11 ∨ y = 4)) ∧ ¬ (y = S 0 11 ∧ 6 ≤ x ∧ x ≤ 12) → nl_s_ S g b lf rt f by' m x y = S x y := fun x y h => ns_o h
  have ef : ∀ x, x ≠ 0 ∧ ¬ (6 ≤ x ∧ x ≤ 12) → nl_s_ S g b lf rt f by' m x = S x := fun x h => ns_f h
  refine ⟨?_, ?_, ?_, ?_, ?_, ?_, ?_, ?_, ?_, ?_, ?_, ?_, ?_, ?_, ?_, ?_, ?_, ?_, ?_, ?_, ?_, ?_, ?_, ?_, ?_, ?_, ?_, ?_, ?_⟩
  · rw [ns_4]; omega
  · intro j hj; rw [ns_4] at hj; omega
  · rw [ef 3 (by omega)]; exact hw.cl
  · rw [e 0 8 (by omega)]; exact hw.words
  · rw [e 0 8 (by omega), ef 5 (by omega)]; exact hw.sl
  · rw [e 0 8 (by omega), ef 5 (by omega), ef 4 (by omega)]; exact hw.sp
  · rw [ns_11]; omega
  · intro l hl; rw [ns_11] at hl
    by_cases c : l = S 0 11
    · rw [c, ns_n (by omega), if_pos rfl]; exact hg
    · rw [e 6 l (by omega)]; exact hw.goes l (by omega)
  · intro l hl; rw [ns_11] at hl
    by_cases c : l = S 0 11
    · rw [c, ns_n (by omega), if_neg (by omega), if_pos rfl]; exact hb
    · rw [e 7 l (by omega)]; exact hw.bec l (by omega)
  · intro l hl; rw [ns_11] at hl
    by_cases c : l = S 0 11
    · rw [c, ns_n (by omega), if_neg (by omega), if_neg (by omega), if_pos rfl]; exact hlf
    · rw [e 8 l (by omega)]; exact hw.lf l (by omega)
  · intro l hl; rw [ns_11] at hl
    by_cases c : l = S 0 11
    · rw [c, ns_n (by omega), if_neg (by omega), if_neg (by omega), if_neg (by omega), if_pos rfl]; exact hrt
    · rw [e 9 l (by omega)]; exact hw.rt l (by omega)
  · intro l hl; rw [ns_11] at hl
    by_cases c : l = S 0 11
    · rw [c, ns_n (x := 10) (by omega), ns_n (x := 11) (by omega), ns_n (x := 12) (by omega), if_neg (by omega), if_neg (by omega), if_neg (by omega), if_neg (by omega), if_pos rfl, if_neg (by omega), if_neg (by omega), if_neg (by omega), if_neg (by omega), if_neg (by omega), if_pos rfl, if_neg (by omega), if_neg (by omega), if_neg (by omega), if_neg (by omega), if_neg (by omega), if_neg (by omega)]
      exact ⟨hm.1, hm.2, hby.1, hby.2, hy⟩
    · rw [e 10 l (by omega), e 11 l (by omega), e 12 l (by omega)]; exact hw.yr l (by omega)
  · rw [ns_hs]; exact h600
  · rw [ef 13 (by omega)]; exact hw.lag
  · rw [e 0 28 (by omega)]; exact hw.signs
  · rw [e 0 28 (by omega), ef 18 (by omega)]; exact hw.kind
  · rw [e 0 28 (by omega), ef 19 (by omega), e 0 8 (by omega)]; exact hw.one
  · rw [e 0 28 (by omega), ef 18 (by omega), ef 20 (by omega), ef 19 (by omega), e 0 8 (by omega)]; exact hw.oth
  · rw [e 0 28 (by omega), ef 21 (by omega)]; exact hw.year
  · rw [e 0 28 (by omega), ef 22 (by omega)]; exact hw.pl
  · rw [e 0 28 (by omega), ef 18 (by omega), ef 23 (by omega)]; exact hw.nm2
  · rw [e 0 28 (by omega), ef 18 (by omega), ef 23 (by omega)]; exact hw.nm3
  · rw [e 0 28 (by omega), ef 24 (by omega)]; exact hw.poet
  · rw [e 0 28 (by omega), ef 25 (by omega)]; exact hw.trust
  · rw [e 0 28 (by omega), ef 26 (by omega)]; exact hw.on
  · rw [ef 36 (by omega)]; exact hw.kept
  · rw [e 0 28 (by omega), ef 37 (by omega)]; exact hw.ks
  · rw [ef 37 (by omega), ef 38 (by omega), ef 39 (by omega), ef 40 (by omega)]; exact hw.kon
  · rw [ef 36 (by omega), ef 41 (by omega), ef 42 (by omega)]; exact hw.klag
theorem rt_ns (h : rt_ S nv vs M) {M' : mm_M} (hm : ∀ x y, ¬ (x = 0 ∧ (y = 0 ∨ y = 4 ∨ y = 5 ∨ y = 6 ∨ y = 11)) → ¬ (6 ≤ x ∧ x ≤ 12 ∧ y = S 0 11) → M'.1 x y = M.1 x y) (h2 : M'.2 = M.2) (h11 : M'.1 0 11 = Int32.ofNat (S 0 11 + 1)) (h4 : M'.1 0 4 = Int32.ofNat 0)
    (hn : ∀ x, 6 ≤ x → x ≤ 12 → M'.1 x (S 0 11) = Int32.ofNat (if x = 6 then g else if x = 7 then b else if x = 8 then lf else if x = 9 then rt else if x = 10 then f else if x = 11 then by' else m)) : rt_ (nl_s_ S g b lf rt f by' m) nv vs M' := by
  refine ⟨⟨fun a c hp => ?_, fun l hl => by rw [hm 0 25 (by omega) (by omega)]; exact h.1.2.1 l hl, ?_⟩, ?_, fun j v hv => by rw [h2]; exact h.2.2 j v hv⟩
  · by_cases c0 : a = 0 ∧ c = 11
    · rw [c0.1, c0.2, h11, ns_11]
    · by_cases c1 : a = 0 ∧ c = 4
      · rw [c1.1, c1.2, h4, ns_4]
      · by_cases c2 : c = S 0 11 ∧ 6 ≤ a ∧ a ≤ 12
        · rw [c2.1, hn a c2.2.1 c2.2.2, ns_n c2.2]
        · have e : ∀ x y, ¬ (x = 0 ∧ (y = 11 ∨ y = 4)) ∧ ¬ (y = S 0 11 ∧ 6 ≤ x ∧ x ≤ 12) → nl_s_ S g b lf rt f by' m x y = S x y := fun x y h => ns_o h
          unfold pe_ at hp
          rw [ns_11, ns_4, e 0 8 (by omega), e 0 28 (by omega), e 5 _ (by omega), e 18 _ (by omega), e 36 _ (by omega), e 37 _ (by omega)] at hp
          have hpe : pe_ S a c := by
            unfold pe_
            rcases hp with h | h | h | h | h | h | h | h | h | h | h | h | h
            · exact Or.inl h
            · omega
            · exact Or.inr (Or.inr (Or.inl h))
            · exact Or.inr (Or.inr (Or.inr (Or.inl h)))
            · exact Or.inr (Or.inr (Or.inr (Or.inr (Or.inl h))))
            · exact Or.inr (Or.inr (Or.inr (Or.inr (Or.inr (Or.inl ⟨h.1, by omega⟩)))))
            · exact Or.inr (Or.inr (Or.inr (Or.inr (Or.inr (Or.inr (Or.inl h))))))
            · exact Or.inr (Or.inr (Or.inr (Or.inr (Or.inr (Or.inr (Or.inr (Or.inl h)))))))
            · exact Or.inr (Or.inr (Or.inr (Or.inr (Or.inr (Or.inr (Or.inr (Or.inr (Or.inl h))))))))
            · exact Or.inr (Or.inr (Or.inr (Or.inr (Or.inr (Or.inr (Or.inr (Or.inr (Or.inr (Or.inl h)))))))))
            · exact Or.inr (Or.inr (Or.inr (Or.inr (Or.inr (Or.inr (Or.inr (Or.inr (Or.inr (Or.inr (Or.inl h))))))))))
            · exact Or.inr (Or.inr (Or.inr (Or.inr (Or.inr (Or.inr (Or.inr (Or.inr (Or.inr (Or.inr (Or.inr (Or.inl h)))))))))))
            · exact Or.inr (Or.inr (Or.inr (Or.inr (Or.inr (Or.inr (Or.inr (Or.inr (Or.inr (Or.inr (Or.inr (Or.inr h)))))))))))
          have h0 : a = 0 → c = 8 ∨ c = 28 := fun ha => by
            subst ha
            have := pe_0 hpe
            omega
          rw [e a c ⟨by omega, c2⟩, hm a c (by omega) (by omega)]
          exact h.1.1 a c hpe
  · show M'.1 0 26 = -1
    rw [hm 0 26 (by omega) (by omega)]; exact h.1.2.2
  · rw [hm 0 1 (by omega) (by omega)]; exact h.2.1
/-- the text is gone, a law half read stays outside -/
theorem rt_cutL {M' : mm_M} (h : rt_ S nv vs M) (hm : ∀ x y, ¬ (x = 0 ∧ (y = 4 ∨ y = 5 ∨ y = 6)) → ¬ (6 ≤ x ∧ x ≤ 9 ∧ y = S 0 11) → M'.1 x y = M.1 x y) (h2 : M'.2 = M.2) (h4 : M'.1 0 4 = Int32.ofNat 0) : rt_ (tx_ S 0 (S 2)) nv vs M' := by
  have hf : fr_ (fun x y => (x = 0 ∧ (y = 5 ∨ y = 6)) ∨ (6 ≤ x ∧ x ≤ 9 ∧ y = S 0 11)) M (mm_si M' 0 4 (M.1 0 4)) := ⟨fun x y hab => by
      rw [si_1]
      by_cases c : x = 0 ∧ y = 4
      · rw [if_pos c, c.1, c.2]
      · rw [if_neg c]; exact hm x y (by omega) (by omega), h2⟩
  have hx : rt_ S nv vs (mm_si M' 0 4 (M.1 0 4)) := by
    refine ⟨h.1.fr hf (fun x y hab hpe => ?_) (by omega) (by omega), h.2.fr hf (by omega)⟩
    rcases hab with ⟨rfl, hb⟩ | ⟨h1, h3, rfl⟩
    · have := pe_0 hpe; omega
    · unfold pe_ at hpe; omega
  exact rt_tx hx (fun x y h1 h3 => by rw [si_1, if_neg (by omega)]) rfl h4 (fun j hj => by omega)
theorem cs_ns {E : mm_M} (hw : wf_ S) (hc : cs_ S vs M) (hL : S 0 11 ≤ 5)
    (hm : ∀ x y, ¬ (x = 8 + S 0 11 ∧ y < 7) → ¬ (x = 5 ∧ y = 1) → x ≠ 16 → ¬ (x = 18 ∧ y = S 0 11) → ¬ (x = 14 ∧ (y = 2 ∨ y = 3)) → ¬ (x = 19 ∧ y = 6) → ¬ (x = 1 ∧ y = 1) → E.1 x y = M.1 x y) (h2 : ∀ a, a ≠ 17 → E.2.1 a = M.2.1 a) (h3 : E.2.2 = M.2.2)
    (h11 : E.1 1 1 = Int32.ofNat 0) (h51 : E.1 5 1 = Int32.ofNat (S 0 11 + 1)) (hlo : E.1 (8 + S 0 11) 0 = tg_ g ∧ E.1 (8 + S 0 11) 1 = tg_ lf ∧ E.1 (8 + S 0 11) 2 = tg_ rt ∧ E.1 (8 + S 0 11) 3 = bc_ b ∧ E.1 (8 + S 0 11) 4 = Int32.ofNat (st_ S g) ∧ E.1 (8 + S 0 11) 5 = Int32.ofNat (st_ S lf) ∧ E.1 (8 + S 0 11) 6 = Int32.ofNat (st_ S rt))
    (h142 : E.1 14 2 = Int32.ofNat (hs_ S * m)) (h143 : E.1 14 3 = Int32.ofNat (S 0 11 + 1)) (h18 : E.1 18 (S 0 11) = Int32.ofNat f) (hd : E.1 19 6 = ((1 : Int32) <<< (Int32.ofNat (S 0 28) &&& 31)) - 1)
    (hor : ∀ q, q < hs_ S * m → E.1 16 q = Int32.ofNat (bv_ 8 (or_ (nl_s_ S g b lf rt f by' m) q)) ∧ E.2.1 17 q = Int64.ofNat (bv_ 512 ((or_ (nl_s_ S g b lf rt f by' m) q).map (fun l => yr_ (nl_s_ S g b lf rt f by' m) l q)))) : cs_ (nl_s_ S g b lf rt f by' m) vs E := by
  obtain ⟨⟨W, pt, ht⟩, hI, hh, hro⟩ := hc
  have h16 := hw.signs
  have e : ∀ x y, ¬ (x = 0 ∧ (y = 11 ∨ y = 4)) ∧ ¬ (y = S 0 11 ∧ 6 ≤ x ∧ x ≤ 12) → nl_s_ S g b lf rt f by' m x y = S x y := fun x y h => ns_o h
  have ef : ∀ x, x ≠ 0 ∧ ¬ (6 ≤ x ∧ x ≤ 12) → nl_s_ S g b lf rt f by' m x = S x := fun x h => ns_f h
  have est : ∀ q, st_ (nl_s_ S g b lf rt f by' m) q = st_ S q := fun q => by unfold st_; rw [ef 3 (by omega)]
  have zz : ∀ x y, ¬ (x = 8 + S 0 11 ∧ y < 7) → ¬ (x = 5 ∧ y = 1) → x ≠ 16 → ¬ (x = 18 ∧ y = S 0 11) → ¬ (x = 14 ∧ (y = 2 ∨ y = 3)) → ¬ (x = 19 ∧ y = 6) → ¬ (x = 1 ∧ y = 1) → E.1 x y = M.1 x y := hm
  refine ⟨⟨W, pt, ?_⟩, ⟨?_, ?_, ?_, ?_, ?_, ?_, ?_, ?_, ?_, ?_, ?_, ?_, ?_, ?_, ?_, ?_, ?_⟩, ?_, ?_⟩
  · have e70 : E.1 70 = M.1 70 := by funext y; exact zz 70 y (by omega) (by omega) (by omega) (by omega) (by omega) (by omega) (by omega)
    refine ⟨by rw [zz 5 4 (by omega) (by omega) (by omega) (by omega) (by omega) (by omega) (by omega)]; exact ht.wk, ht.w1, by rw [h3]; exact ht.cap, by rw [h3]; exact ht.pow, ht.root, fun c hc l hl => by rw [ns_11]; have := ht.lt c hc l hl; omega, ht.nd, ht.inj, ht.pre, by rw [e70]; exact ht.fol, by rw [e70, h3]; exact ht.zero, fun c w hc hw2 => ?_⟩
    rw [e 0 8 (by omega)] at hw2
    rw [h2 71 (by omega), ht.frm c w hc hw2]
    congr 2
    rw [show wd_w (nl_s_ S g b lf rt f by' m) w = wd_w S w by unfold wd_w; rw [ef 5 (by omega), ef 4 (by omega)]]
    refine (sa_cg _ _ (fun l hl ys => ?_)).symm
    have hlt := ht.lt c hc l hl
    unfold lw_on
    exact lw_go_cg (ef 3 (by omega)) (e 6 l (by omega)) (e 7 l (by omega)) (e 8 l (by omega)) (e 9 l (by omega)) ys none
  · rw [ns_4]; exact h11
  · intro j hj; rw [ns_4] at hj; omega
  · rw [ns_11]; exact h51
  · rw [zz 5 2 (by omega) (by omega) (by omega) (by omega) (by omega) (by omega) (by omega), e 0 8 (by omega)]; exact hI.words
  · intro c hc; rw [zz 7 c (by omega) (by omega) (by omega) (by omega) (by omega) (by omega) (by omega), ef 3 (by omega)]; exact hI.cl c hc
  · intro l hl
    rw [ns_11] at hl
    unfold lo_
    rw [est, est, est]
    by_cases c : l = S 0 11
    · rw [c, ns_n (x := 6) (by omega), ns_n (x := 8) (by omega), ns_n (x := 9) (by omega), ns_n (x := 7) (by omega)]
      exact ⟨hlo.1, hlo.2.1, hlo.2.2.1, hlo.2.2.2.1, hlo.2.2.2.2.1, hlo.2.2.2.2.2.1, hlo.2.2.2.2.2.2⟩
    · have hz : ∀ y, y < 7 → E.1 (8 + l) y = M.1 (8 + l) y := fun y hy => zz _ y (by omega) (by omega) (by omega) (by omega) (by omega) (by omega) (by omega)
      have hll := hI.lo l (by omega)
      unfold lo_ at hll
      rw [hz 0 (by omega), hz 1 (by omega), hz 2 (by omega), hz 3 (by omega), hz 4 (by omega), hz 5 (by omega), hz 6 (by omega), e 6 l (by omega), e 7 l (by omega), e 8 l (by omega), e 9 l (by omega)]
      exact hll
  · rw [ns_hs]; exact h142
  · rw [ns_11]; exact h143
  · intro q hq; rw [zz 15 q (by omega) (by omega) (by omega) (by omega) (by omega) (by omega) (by omega), ef 13 (by omega)]; exact hI.lag q hq
  · intro q hq; rw [ns_hs] at hq; exact (hor q hq).1
  · intro q hq; rw [ns_hs] at hq; exact (hor q hq).2
  · intro l hl
    rw [ns_11] at hl
    by_cases c : l = S 0 11
    · rw [c, h18, ns_n (by omega)]; rfl
    · rw [zz 18 l (by omega) (by omega) (by omega) (by omega) (by omega) (by omega) (by omega), e 10 l (by omega)]; exact hI.fy l (by omega)
  · rw [zz 19 3 (by omega) (by omega) (by omega) (by omega) (by omega) (by omega) (by omega), e 0 28 (by omega)]; exact hI.told
  · rw [zz 19 4 (by omega) (by omega) (by omega) (by omega) (by omega) (by omega) (by omega), e 0 28 (by omega), ef 26 (by omega)]; exact hI.on
  · intro q hq; rw [e 0 28 (by omega)] at hq
    exact sc_cg (hI.sg q hq) (fun y hy => zz (22 + q) y (by omega) (by omega) (by omega) (by omega) (by omega) (by omega) (by omega)) (fun x h1 h4 => e _ _ (by omega))
  · intro i hi; exact kp_cg (hI.kept i hi) (fun x y h1 h4 => zz x y (by omega) (by omega) (by omega) (by omega) (by omega) (by omega) (by omega)) hi (fun x h1 => ef x (by omega))
  · intro q h1 h4; rw [e 0 28 (by omega)] at h1; rw [zz (22 + q) 6 (by omega) (by omega) (by omega) (by omega) (by omega) (by omega) (by omega), zz (22 + q) 7 (by omega) (by omega) (by omega) (by omega) (by omega) (by omega) (by omega)]; exact hI.fresh q h1 h4
  · intro q hq hdq
    rw [e 0 28 (by omega)] at hq
    rw [hd, full_ib h16 hq] at hdq
    cases hdq
  · exact ⟨by rw [zz 3 1 (by omega) (by omega) (by omega) (by omega) (by omega) (by omega) (by omega)]; exact hro.1, fun j w hj => by rw [h2 4 (by omega)]; exact hro.2 j w hj⟩
end WR1
