/-! THE TEXT: sign, end -/
section VD1
variable {S S' : sg_} {M Mc Mr : mm_M} {vs : List Nat} {nv : Nat → Bool} {W : Nat} {pt : Nat → List Nat}
def tx_ (S : sg_) (n : Nat) (f : Nat → Nat) : sg_ := fun a b => if a = 0 ∧ b = 4 then n else if a = 2 then f b else S a b
theorem tx_tp {n : Nat} {f : Nat → Nat} : tx_ S n f 0 4 = n := by unfold tx_; rw [if_pos ⟨rfl, rfl⟩]
theorem tx_tape {n : Nat} {f : Nat → Nat} {j : Nat} : tx_ S n f 2 j = f j := by unfold tx_; rw [if_neg (by omega), if_pos rfl]
theorem tx_o {n : Nat} {f : Nat → Nat} {x y : Nat} (h : ¬ (x = 0 ∧ y = 4) ∧ x ≠ 2) : tx_ S n f x y = S x y := by unfold tx_; rw [if_neg h.1, if_neg h.2]
theorem tx_co {n : Nat} {f : Nat → Nat} : co_ S (tx_ S n f) := ⟨fun a h1 h2 => by funext y; exact tx_o (by omega), tx_o (by omega), tx_o (by omega)⟩
theorem wf_tx (hw : wf_ S) {n : Nat} {f : Nat → Nat} (hn : n ≤ 40) (hf : ∀ j, j < n → f j < 256) : wf_ (tx_ S n f) := by
  have e : ∀ x y, ¬ (x = 0 ∧ y = 4) ∧ x ≠ 2 → tx_ S n f x y = S x y := fun x y h => tx_o h
  refine tx_co.wf hw ?_ ?_ ?_ ?_ ?_ ?_ ?_ ?_ ?_ ?_ ?_ ?_ ?_ ?_ ?_ ?_ ?_ ?_
  · rw [tx_tp]; exact hn
  · intro j hj; rw [tx_tp] at hj; rw [tx_tape]; exact hf j hj
  · intro p hp; rw [e 13 p (by omega)]; exact hw.lag p hp
  · rw [e 0 28 (by omega)]; exact hw.signs
  · intro q hq; rw [e 0 28 (by omega)] at hq; rw [e 18 q (by omega)]; exact hw.kind q hq
  · intro q hq; rw [e 0 28 (by omega)] at hq; rw [e 19 q (by omega), e 0 8 (by omega)]; exact hw.one q hq
  · intro q hq; rw [e 0 28 (by omega)] at hq; rw [e 18 q (by omega), e 19 q (by omega), e 20 q (by omega), e 0 8 (by omega)]; exact hw.oth q hq
  · intro q hq; rw [e 0 28 (by omega)] at hq; rw [e 21 q (by omega)]; exact hw.year q hq
  · intro q hq; rw [e 0 28 (by omega)] at hq; rw [e 22 q (by omega)]; exact hw.pl q hq
  · intro q hq; rw [e 0 28 (by omega)] at hq; rw [e 18 q (by omega), e 23 q (by omega)]; exact hw.nm2 q hq
  · intro q hq; rw [e 0 28 (by omega)] at hq; rw [e 18 q (by omega), e 23 q (by omega)]; exact hw.nm3 q hq
  · intro q hq; rw [e 0 28 (by omega)] at hq; rw [e 24 q (by omega)]; exact hw.poet q hq
  · intro q hq; rw [e 0 28 (by omega)] at hq; rw [e 25 q (by omega)]; exact hw.trust q hq
  · intro q hq; rw [e 0 28 (by omega)] at hq; rw [e 26 q (by omega)]; exact hw.on q hq
  · intro i hi; rw [e 36 i (by omega)]; exact hw.kept i hi
  · intro i hi; rw [e 37 i (by omega), e 0 28 (by omega)]; exact hw.ks i hi
  · intro i hi q hq; rw [e 37 i (by omega)] at hq; rw [e 38 _ (by omega), e 39 _ (by omega), e 40 _ (by omega)]; exact hw.kon i hi q hq
  · intro i hi hk k hk2; rw [e 36 i (by omega)] at hk; rw [e 41 _ (by omega), e 42 _ (by omega)]; exact hw.klag i hi hk k hk2
theorem rt_tx {n : Nat} {f : Nat → Nat} {M' : mm_M} (h : rt_ S nv vs M) (hm : ∀ a b, a ≠ 2 → ¬ (a = 0 ∧ (b = 0 ∨ b = 4 ∨ b = 5 ∨ b = 6)) → M'.1 a b = M.1 a b) (h2 : M'.2 = M.2) (hn : M'.1 0 4 = Int32.ofNat n) (hf : ∀ j, j < n → M'.1 2 j = Int32.ofNat (f j)) : rt_ (tx_ S n f) nv vs M' := by
  refine ⟨⟨fun a b hp => ?_, fun l hl => by rw [hm 0 25 (by omega) (by omega)]; exact h.1.2.1 l hl, ?_⟩, ?_, fun j v hv => by rw [h2]; exact h.2.2 j v hv⟩
  · have e : ∀ x y, ¬ (x = 0 ∧ y = 4) ∧ x ≠ 2 → tx_ S n f x y = S x y := fun x y h => tx_o h
    by_cases c0 : a = 0 ∧ b = 4
    · rw [c0.1, c0.2, hn, tx_tp]
    · by_cases c2 : a = 2
      · subst c2
        have hb : b < n := by
          unfold pe_ at hp
          rw [tx_tp] at hp
          omega
        rw [hf b hb, tx_tape]
      · rw [tx_o ⟨c0, c2⟩]
        have hp2 : pe_ S a b := by
          unfold pe_ at hp ⊢
          rw [e 0 8 (by omega), e 0 11 (by omega), e 0 28 (by omega), e 5 _ (by omega), e 18 _ (by omega), e 36 _ (by omega), e 37 _ (by omega)] at hp
          rcases hp with h1 | h1 | h1
          · exact Or.inl h1
          · exact absurd h1.1 c2
          · exact Or.inr (Or.inr h1)
        rw [hm a b c2 (by
          intro hh
          obtain ⟨rfl, hh2⟩ := hh
          have := pe_0 hp2
          omega)]
        exact h.1.1 a b hp2
  · show M'.1 0 26 = -1
    rw [hm 0 26 (by omega) (by omega)]; exact h.1.2.2
  · rw [hm 0 1 (by omega) (by omega)]; exact h.2.1
theorem cs_tx {n : Nat} {f : Nat → Nat} {M' : mm_M} (hw : wf_ S) (h : cs_ S vs M) (hm : ∀ a b, a ≠ 2 → ¬ (a = 1 ∧ b = 1) → M'.1 a b = M.1 a b) (h2 : M'.2 = M.2) (hn : M'.1 1 1 = Int32.ofNat n) (hf : ∀ j, j < n → M'.1 2 j = Int32.ofNat (f j)) : cs_ (tx_ S n f) vs M' := by
  obtain ⟨⟨W, pt, htc⟩, hI, hh, hro⟩ := h
  have hco : co_ S (tx_ S n f) := tx_co
  have h16 := hw.signs
  refine ⟨⟨W, pt, hco.tc (htc.fr (hm 5 4 (by omega) (by omega)) (by funext b; exact hm 70 b (by omega) (by omega)) (by rw [h2]) (by rw [h2]))⟩, ?_, ?_, ?_⟩
  · refine hco.ic hw hI (fun x y hab => hm x y (by omega) (by omega)) (by rw [h2]) ?_ ?_ ?_ ?_ ?_ ?_ ?_ ?_
    · rw [hn, tx_tp]
    · intro j hj; rw [tx_tp] at hj; rw [hf j hj, tx_tape]
    · intro p hp; rw [hm 15 p (by omega) (by omega), tx_o (by omega)]; exact hI.lag p hp
    · rw [hm 19 3 (by omega) (by omega), tx_o (by omega)]; exact hI.told
    · rw [hm 19 4 (by omega) (by omega), tx_o (x := 0) (by omega), show (fun q => decide (tx_ S n f 26 q = 1)) = fun q => decide (S 26 q = 1) from funext (fun q => by rw [tx_o (by omega)])]; exact hI.on
    · intro q hq; rw [tx_o (by omega)] at hq
      exact sc_cg (hI.sg q hq) (fun b hb => hm (22 + q) b (by omega) (by omega)) (fun a h1 h2 => tx_o (by omega))
    · intro i hi; exact kp_cg (hI.kept i hi) (fun x y h1 h2 => hm x y (by omega) (by omega)) hi (fun x h1 => by funext y; exact tx_o (by omega))
    · intro q h1 h3; rw [tx_o (by omega)] at h1; rw [hm (22 + q) 6 (by omega) (by omega), hm (22 + q) 7 (by omega) (by omega)]; exact hI.fresh q h1 h3
  · intro q hq hd2 hi2 hhi
    rw [tx_o (by omega)] at hq
    rw [hco.hs] at hhi
    rw [hm 19 6 (by omega) (by omega)] at hd2
    rw [hm 21 hi2 (by omega) (by omega), show ho_ (tx_ S n f) q hi2 = ho_ S q hi2 from hco.ho (fun x h1 h2 => tx_o (by omega)) (tx_o (by omega)) no_ hi2]
    exact hh q hq hd2 hi2 hhi
  · exact ⟨by rw [hm 3 1 (by omega) (by omega)]; exact hro.1, fun j v hv => by rw [h2]; exact hro.2 j v hv⟩
/-! end -/
theorem m_end (h : rl_ Mc Mr) (x1 : Int32) : (f_X11_end x1 Mc).1 = (f_X12_end x1 Mr).1 ∧ rl_ (f_X11_end x1 Mc).2 (f_X12_end x1 Mr).2 := by
  obtain ⟨S, vs, hw, hv, hc, hr⟩ := h
  have hr1 := hr.th
  have hrl : rl_ Mc (mm_si Mr 0 0 0) := ⟨S, vs, hw, hv, hc, hr1⟩
  have h40 := hw.tp
  unfold f_X11_end f_X8_cutTo f_X12_end
  rw [sq_n (x := mm_si Mr 0 0 0), hr1.1.1.tp, n3_6 (by omega), r_in0 (by omega), hc.2.1.tp]
  have i1 : (x1 < 0) ↔ x1.toInt < 0 := Int32.lt_iff_toInt_lt
  have i2 : (x1 ≤ Int32.ofNat (S 0 4)) ↔ x1.toInt ≤ (S 0 4 : Int) := by rw [Int32.le_iff_toInt_le, n3_ti (by omega)]
  cases b1 : lt_ x1 (S 0 4 + 1) with
  | false =>
    rw [gt_f]
    have := of_decide_eq_false b1
    by_cases c : x1.toInt < 0
    · rw [if_pos (i1.mpr c), sq_n]; exact ⟨rfl, hrl⟩
    · rw [if_neg (fun hh => c (i1.mp hh)), if_neg (fun hh => by have := i2.mp hh; omega), sq_n]; exact ⟨rfl, hrl⟩
  | true =>
    rw [gt_t]
    obtain ⟨n, rfl, hn⟩ := lt_nat b1 (by omega)
    rw [if_neg (show ¬ (Int32.ofNat n < 0) from fun hh => (n3_neg (by omega)).mp hh), if_pos ((n3_le (by omega) (by omega)).mpr (by omega)), sq_n, sq_n, sq_n]
    refine ⟨rfl, tx_ S n (S 2), vs, wf_tx hw (by omega) (fun j hj => hw.tape j (by omega)), hv, ?_, ?_⟩
    · exact cs_tx hw hc (fun a b h1 h2 => by rw [si_1, if_neg h2]) rfl (by rw [si_1, if_pos ⟨rfl, rfl⟩]) (fun j hj => by rw [si_1, if_neg (by omega)]; exact hc.2.1.tape j (by omega))
    · exact rt_tx hr1 (fun a b h1 h2 => by rw [si_1, if_neg (by omega)]) rfl (by rw [si_1, if_pos ⟨rfl, rfl⟩]) (fun j hj => by rw [si_1, if_neg (by omega)]; exact hr1.1.1.tape (by omega))
/-! sign -/
def byt_ (x : Int32) : Nat := x.toBitVec.toNat % 256
theorem byt_eq (x : Int32) : x &&& 255 = Int32.ofNat (byt_ x) := by
  have e : x = Int32.ofNat x.toBitVec.toNat := (Int32.ofNat_bitVecToNat x.toBitVec).symm
  conv => lhs; rw [e]
  exact n3_md x.toBitVec.toNat 8 (by omega)
theorem byt_lt (x : Int32) : byt_ x < 256 := Nat.mod_lt _ (by omega)
/-- sign k (0 .. 3) of an int -/
def sg4_ (x : Int32) (k : Nat) : Nat := byt_ (x >>> (Int32.ofNat (24 - 8 * k) &&& 31))
/-- a text of n signs with four signs behind -/
def t4_ (S : sg_) (x : Int32) (n : Nat) : Nat → Nat := fun j => if j < n then S 2 j else sg4_ x (j - n)
theorem sh_8 : ∀ k, k < 4 → Int32.ofNat (24 - 8 * k) + (-8) = (if k = 3 then -8 else Int32.ofNat (24 - 8 * (k + 1))) := by decide
theorem k_takes (hw : wf_ S) (hc : cs_ S vs Mc) {x : Int32} (hn : S 0 4 ≤ 36) : ∀ (e k n : Nat) (M : mm_M) (y : Int32), k + e = 4 → e < n → y = (if k = 4 then -8 else Int32.ofNat (24 - 8 * k)) → (∀ a b, a ≠ 2 → ¬ (a = 1 ∧ b = 1) → M.1 a b = Mc.1 a b) → M.2 = Mc.2 → M.1 1 1 = Int32.ofNat (S 0 4 + k) → (∀ j, j < S 0 4 + k → M.1 2 j = Int32.ofNat (t4_ S x (S 0 4) j)) →
    wp_ (f_X8_takes_16l n x y M) (fun z => z.1 = 1 ∧ cs_ (tx_ S (S 0 4 + 4) (t4_ S x (S 0 4))) vs z.2 ∧ z.2.1 1 1 = Int32.ofNat (S 0 4 + 4)) := by
  intro e
  induction e with
  | zero =>
    intro k n M y hk hfu hy hm h2 h1 hf
    obtain ⟨m, rfl⟩ : ∃ m, n = m + 1 := ⟨n - 1, by omega⟩
    have hkk : k = 4 := by omega
    subst hkk
    unfold f_X8_takes_16l f_X8_takes_16
    rw [hy, if_pos rfl, if_pos (by decide)]
    exact wp_some ⟨rfl, cs_tx hw hc hm h2 h1 hf, h1⟩
  | succ e ih =>
    intro k n M y hk hfu hy hm h2 h1 hf
    obtain ⟨m, rfl⟩ : ∃ m, n = m + 1 := ⟨n - 1, by omega⟩
    unfold f_X8_takes_16l f_X8_takes_16
    rw [hy, if_neg (show ¬ (k = 4) by omega), if_neg (show ¬ (Int32.ofNat (24 - 8 * k) < 0) from fun hh => (n3_neg (by omega)).mp hh), h1]
    refine wp_ck ((n3_ix (by omega)).mpr (by omega)) (wp_sr (wp_sr (wp_sr ?_)))
    rw [n3_tn (by omega), byt_eq, si_1, if_neg (by omega), h1]
    have e1 : Int32.ofNat (S 0 4 + k) + 1 = Int32.ofNat (S 0 4 + (k + 1)) := n3_add _ 1
    rw [e1]
    refine ih (k + 1) m _ _ (by omega) (by omega) ?_ (fun a b h3 h4 => by rw [si_1, if_neg h4, si_1, if_neg (by omega)]; exact hm a b h3 h4) h2 (by rw [si_1, if_pos ⟨rfl, rfl⟩]) (fun j hj => ?_)
    · rw [sh_8 k (by omega)]
      by_cases c : k = 3
      · rw [if_pos c, if_pos (by omega)]
      · rw [if_neg c, if_neg (by omega)]
    · rw [si_1, if_neg (by omega), si_1]
      by_cases c : j = S 0 4 + k
      · rw [if_pos ⟨rfl, c⟩]
        unfold t4_
        rw [if_neg (by omega), c, Nat.add_sub_cancel_left]; rfl
      · rw [if_neg (by omega)]; exact hf j (by omega)
theorem q_sign_l (hw : wf_ S) (hr : rt_ S no_ vs Mr) {x : Int32} (hn : S 0 4 ≤ 36) : ∀ (e k n : Nat) (M : mm_M), k + e = 4 → e < n → (∀ a b, a ≠ 2 → M.1 a b = Mr.1 a b) → M.2 = Mr.2 → (∀ j, j < S 0 4 + k → M.1 2 j = Int32.ofNat (t4_ S x (S 0 4) j)) →
    wp_ (f_X12_sign_18l n x (Int32.ofNat k) M) (fun z => z.1 = Int32.ofNat (S 0 4 + 4) ∧ rt_ (tx_ S (S 0 4 + 4) (t4_ S x (S 0 4))) no_ vs z.2) := by
  intro e
  induction e with
  | zero =>
    intro k n M hk hfu hm h2 hf
    obtain ⟨m, rfl⟩ : ∃ m, n = m + 1 := ⟨n - 1, by omega⟩
    have hkk : k = 4 := by omega
    subst hkk
    unfold f_X12_sign_18l f_X12_sign_18 f_X12_sign_53
    rw [if_pos (by decide), hm 0 4 (by omega), hr.1.1.tp]
    have e1 : Int32.ofNat (S 0 4) + 4 = Int32.ofNat (S 0 4 + 4) := n3_add _ 4
    rw [e1]
    refine wp_sr (wp_some ⟨?_, ?_⟩)
    · show (mm_si M 0 4 (Int32.ofNat (S 0 4 + 4))).1 0 4 = Int32.ofNat (S 0 4 + 4)
      rw [si_1, if_pos ⟨rfl, rfl⟩]
    · exact rt_tx hr (fun a b h3 h4 => by rw [si_1, if_neg (by omega)]; exact hm a b h3) h2 (by rw [si_1, if_pos ⟨rfl, rfl⟩]) (fun j hj => by rw [si_1, if_neg (by omega)]; exact hf j hj)
  | succ e ih =>
    intro k n M hk hfu hm h2 hf
    obtain ⟨m, rfl⟩ : ∃ m, n = m + 1 := ⟨n - 1, by omega⟩
    have e1 : Int32.ofNat k + 1 = Int32.ofNat (k + 1) := n3_add k 1
    have e2 : (24 : Int32) - 8 * Int32.ofNat k = Int32.ofNat (24 - 8 * k) := by
      show Int32.ofNat 24 - Int32.ofNat 8 * _ = _
      rw [n3_mul, n3_sub (by omega)]
    unfold f_X12_sign_18l f_X12_sign_18
    rw [if_neg (by show ¬ (Int32.ofNat 4 ≤ _); rw [n3_le (by omega) (by omega)]; omega), hm 0 4 (by omega), hr.1.1.tp, n3_add, e2]
    refine wp_ck ((n3_ix (by omega)).mpr (by omega)) (wp_sr (wp_sr ?_))
    rw [n3_tn (by omega), byt_eq, e1]
    refine ih (k + 1) m _ (by omega) (by omega) (fun a b h3 => by rw [si_1, if_neg (by omega)]; exact hm a b h3) h2 (fun j hj => ?_)
    rw [si_1]
    by_cases c : j = S 0 4 + k
    · rw [if_pos ⟨rfl, c⟩]
      unfold t4_
      rw [if_neg (by omega), c, Nat.add_sub_cancel_left]; rfl
    · rw [if_neg (by omega)]; exact hf j (by omega)
theorem m_sign (h : rl_ Mc Mr) (x1 : Int32) : bo_ (f_X11_sign x1 Mc) (f_X12_sign x1 Mr) := by
  obtain ⟨S, vs, hw, hv, hc, hr⟩ := h
  have hr1 := hr.th
  have hrl : rl_ Mc (mm_si Mr 0 0 0) := ⟨S, vs, hw, hv, hc, hr1⟩
  have h40 := hw.tp
  unfold f_X11_sign f_X8_takes f_X12_sign
  rw [sq_n, hr1.1.1.tp, hc.2.1.tp]
  have e1 : Int32.ofNat (S 0 4) + 4 = Int32.ofNat (S 0 4 + 4) := n3_add _ 4
  have i1 : (Int32.ofNat (S 0 4 + 4) ≤ 40) ↔ S 0 4 + 4 ≤ 40 := n3_le (b := 40) (by omega) (by omega)
  have i2 : (Int32.ofNat (S 0 4) ≤ 36) ↔ S 0 4 ≤ 36 := n3_le (b := 36) (by omega) (by omega)
  rw [e1]
  by_cases c : S 0 4 ≤ 36
  · rw [if_pos (i1.mpr (by omega)), if_pos (i2.mpr c)]
    refine bo_mk (S := tx_ S (S 0 4 + 4) (t4_ S x1 (S 0 4))) (vs := vs) (A := Int32.ofNat (S 0 4 + 4)) (wf_tx hw (by omega) (fun j hj => ?_)) hv ?_ ?_
    · unfold t4_
      split
      · rename_i h2; exact hw.tape j h2
      · exact byt_lt _
    · refine wp_bd (wp_mo (k_takes hw hc c 4 0 fu_ Mc 24 (by omega) (by unfold fu_; omega) (by decide) (fun _ _ _ _ => rfl) rfl hc.2.1.tp (fun j hj => ?_)) (fun z hz => ?_))
      · unfold t4_; rw [if_pos (by omega)]; exact hc.2.1.tape j (by omega)
      · rw [hz.1, if_neg (by decide)]
        exact wp_some ⟨hz.2.2, hz.2.1⟩
    · refine q_sign_l hw hr1 c 4 0 fu_ _ (by omega) (by unfold fu_; omega) (fun _ _ _ => rfl) rfl (fun j hj => ?_)
      unfold t4_; rw [if_pos (by omega)]; exact hr1.1.1.tape (by omega)
  · rw [if_neg (fun hh => c (by have := i1.mp hh; omega)), if_neg (fun hh => c (i2.mp hh)), Option.bind_some, if_pos rfl]
    exact bo_no hrl
end VD1
