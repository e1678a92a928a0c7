/-! STAGE: pairs, digits, the class plays -/
section WJ1
variable {S : sg_} {M Mc Mr : mm_M} {vs : List Nat} {L : List Nat} {F : Nat → Nat → Nat → Bool}
theorem k_addPair (hw : wf_ S) {h p s : Nat} {t : Nat → Nat} (hs : s < S 0 28) (hI : ic_ S M) (hc : crs_ S h p t M) (hst : stg_ S s = true) (hL : stc_ L M) (hl7 : L.length ≤ 7) (h20 : ∀ x, x ∈ L → x < 20) (hp : prc_ S L (sgF_ S h p t) s M) :
    wp_ (f_X7_addPair (22 + s) M) (fun z => (∀ a b, ¬ (a = 47 ∨ a = 48 ∨ a = 49) → ¬ (a = 42 ∧ b = 6) → z.1 a b = M.1 a b) ∧ z.2 = M.2 ∧ prc_ S L (sgF_ S h p t) (s + 1) z) := by
  have h16 := hw.signs
  have hwd := hw.words
  have h6 := hw.laws
  obtain ⟨s1, s2⟩ := stg_k hst
  have hone := hw.one s hs
  have hoth := (hw.oth s hs (by omega) (by omega)).1
  obtain ⟨g0, g1, g2, -⟩ := hI.sg s hs
  have hpl := prs_len (S := S) (L := L) s
  have e19 := c_seatOf hL hl7 h20 (w := S 19 s) (by omega)
  have e20 := c_seatOf hL hl7 h20 (w := S 20 s) (by omega)
  have skip : prb_ S L s = false → prc_ S L (sgF_ S h p t) (s + 1) M := fun hb => by
    unfold prc_
    rw [show prs_ S L (s + 1) = prs_ S L s by
      show (if prb_ S L s = true then _ else _) = _
      rw [hb, if_neg (by decide)]]
    exact hp
  unfold f_X7_addPair
  rw [g1, g2 (by omega) (by omega), e19, e20, Option.bind_some, Option.bind_some, hp.1]
  cases q1 : sei_ L (S 19 s) with
  | none =>
    rw [if_pos (show sto_ none = (-1 : Int32) from rfl)]
    exact wp_some ⟨fun _ _ _ _ => rfl, rfl, skip (by unfold prb_; rw [hst, q1]; rfl)⟩
  | some a =>
    obtain ⟨a1, a2⟩ := sei_at q1
    rw [if_neg (show ¬ (sto_ (some a) = (-1 : Int32)) from fun hh => (n3_nm (a := a) (by omega)).mp hh)]
    cases q2 : sei_ L (S 20 s) with
    | none =>
      rw [if_pos (show sto_ none = (-1 : Int32) from rfl)]
      exact wp_some ⟨fun _ _ _ _ => rfl, rfl, skip (by unfold prb_; rw [hst, q1, q2]; rfl)⟩
    | some b =>
      obtain ⟨b1, b2⟩ := sei_at q2
      have hb : prb_ S L s = true := by unfold prb_; rw [hst, q1, q2]; rfl
      have hps : prs_ S L (s + 1) = prs_ S L s ++ [s] := by
        show (if prb_ S L s = true then _ else _) = _
        rw [if_pos hb]
      have hix : ix_ok (Int32.ofNat (prs_ S L s).length) 16 := (n3_ix (by omega)).mpr (by omega)
      have et : (Int32.ofNat (prs_ S L s).length).toNatClampNeg = (prs_ S L s).length := n3_tn (by omega)
      have sa : sea_ L (S 19 s) = a := by unfold sea_; rw [q1]; rfl
      have sb : sea_ L (S 20 s) = b := by unfold sea_; rw [q2]; rfl
      rw [if_neg (show ¬ (sto_ (some b) = (-1 : Int32)) from fun hh => (n3_nm (a := b) (by omega)).mp hh), if_pos (show Int32.ofNat (prs_ S L s).length < 16 from (n3_lt (b := 16) (by omega) (by omega)).mpr (by omega))]
      have z47 : ∀ x v, (mm_si M 47 x v).1 42 6 = Int32.ofNat (prs_ S L s).length := fun x v => by rw [si_1, if_neg (by omega)]; exact hp.1
      have z48 : ∀ x v y u, (mm_si (mm_si M 47 x v) 48 y u).1 42 6 = Int32.ofNat (prs_ S L s).length := fun x v y u => by rw [si_1, if_neg (by omega)]; exact z47 x v
      refine wp_ck hix (wp_sr ?_)
      rw [z47]
      refine wp_ck hix (wp_sr ?_)
      rw [z48]
      refine wp_ck hix (wp_sr ?_)
      rw [et, show sto_ (some a) = Int32.ofNat a from rfl, show sto_ (some b) = Int32.ofNat b from rfl]
      have hfr : ∀ x y, ¬ (x = 47 ∨ x = 48 ∨ x = 49) → (mm_si (mm_si (mm_si M 47 (prs_ S L s).length (Int32.ofNat a)) 48 (prs_ S L s).length (Int32.ofNat b)) 49 (prs_ S L s).length 0).1 x y = M.1 x y := by
        intro x y hxy
        rw [si_1, if_neg (by omega), si_1, if_neg (by omega), si_1, if_neg (by omega)]
      have hI2 : ic_ S (mm_si (mm_si (mm_si M 47 (prs_ S L s).length (Int32.ofNat a)) 48 (prs_ S L s).length (Int32.ofNat b)) 49 (prs_ S L s).length 0) := hI.fr h16 (fun x y hxy => hfr x y (fun hh => by
        unfold pc_ at hxy
        omega)) (fun q _ => rfl)
      have hc2 : crs_ S h p t (mm_si (mm_si (mm_si M 47 (prs_ S L s).length (Int32.ofNat a)) 48 (prs_ S L s).length (Int32.ofNat b)) 49 (prs_ S L s).length 0) := by
        obtain ⟨W, pt, ht0, hcr⟩ := hc
        exact ⟨W, pt, ht0.fr (hfr 5 4 (by omega)) (by funext b; exact hfr 70 b (by omega)) rfl rfl, fun q hq => by rw [hfr 45 q (by omega)]; exact hcr q hq⟩
      refine wp_mo (k_apr_o (j0 := (prs_ S L s).length) hw hs (by omega) hI2 hc2 (by rw [hfr 42 6 (by omega)]; exact hp.1) hst 3 0 fu_ _ (by omega) (by unfold fu_; omega) (fun _ _ _ => rfl) rfl (by rw [si_1, if_pos ⟨rfl, rfl⟩]; rfl)) (fun z hz => ⟨fun x y h1 h2 => ?_, hz.2.1, ?_, fun j q hj => ?_⟩)
      · rw [hz.1 x y (by omega) h2]; exact hfr x y h1
      · rw [hz.2.2.1, hps, List.length_append]; rfl
      · rw [hps] at hj
        by_cases c : j = (prs_ S L s).length
        · rw [c] at hj ⊢
          have hq : q = s := by simp at hj; exact hj.symm
          rw [hq, sa, sb]
          refine ⟨?_, ?_, hz.2.2.2⟩
          · rw [hz.1 47 _ (by omega) (by omega), si_1, if_neg (by omega), si_1, if_neg (by omega), si_1, if_pos ⟨rfl, rfl⟩]
          · rw [hz.1 48 _ (by omega) (by omega), si_1, if_neg (by omega), si_1, if_pos ⟨rfl, rfl⟩]
        · have hlt := lt_of_some hj
          simp at hlt
          rw [List.getElem?_append_left (by omega)] at hj
          obtain ⟨u1, u2, u3⟩ := hp.2 j q hj
          refine ⟨?_, ?_, ?_⟩
          · rw [hz.1 47 _ (by omega) (by omega), si_1, if_neg (by omega), si_1, if_neg (by omega), si_1, if_neg (by omega)]; exact u1
          · rw [hz.1 48 _ (by omega) (by omega), si_1, if_neg (by omega), si_1, if_neg (by omega), si_1, if_neg (by omega)]; exact u2
          · rw [hz.1 49 _ (by omega) (by omega), si_1, if_neg (by omega), si_1, if_neg (by omega), si_1, if_neg (by omega)]; exact u3
theorem k_prs_l (hw : wf_ S) {h p : Nat} {t : Nat → Nat} {Q : Int32 × mm_M → Prop} {M0 : mm_M} (hI0 : ic_ S M0) (hc0 : crs_ S h p t M0) (hL0 : stc_ L M0) (hl7 : L.length ≤ 7) (h20 : ∀ x, x ∈ L → x < 20)
    (hQ : ∀ M', o42_ M0 M' → stc_ L M' → prc_ S L (sgF_ S h p t) (S 0 28) M' → wp_ (f_X11_stage_228 M') Q) :
    ∀ (e k n : Nat) (M : mm_M), k + e = S 0 28 → e < n → (∀ a b, ¬ (a = 47 ∨ a = 48 ∨ a = 49) → ¬ (a = 42 ∧ b = 6) → M.1 a b = M0.1 a b) → M.2 = M0.2 → prc_ S L (sgF_ S h p t) k M →
    wp_ (f_X11_stage_177l n (Int32.ofNat k) M) Q := by
  have h16 := hw.signs
  have h6 := hw.laws
  intro e
  induction e with
  | zero =>
    intro k n M hk hn hm h2 hp
    obtain ⟨m, rfl⟩ : ∃ m, n = m + 1 := ⟨n - 1, by omega⟩
    have hkk : k = S 0 28 := by omega
    unfold f_X11_stage_177l f_X11_stage_177
    rw [hm 19 3 (by omega) (by omega), hI0.told, if_pos ((n3_le (by omega) (by omega)).mpr (by omega))]
    rw [hkk] at hp
    exact hQ M ⟨fun a b hab => hm a b (by omega) (by omega), h2⟩ ⟨by rw [hm 42 1 (by omega) (by omega)]; exact hL0.1, fun i v hv => by rw [hm 43 i (by omega) (by omega)]; exact hL0.2 i v hv⟩ hp
  | succ e ih =>
    intro k n M hk hn hm h2 hp
    obtain ⟨m, rfl⟩ : ∃ m, n = m + 1 := ⟨n - 1, by omega⟩
    have e1 : Int32.ofNat k + 1 = Int32.ofNat (k + 1) := n3_add k 1
    have hks : k < S 0 28 := by omega
    have hI : ic_ S M := hI0.fr h16 (fun a b hab => hm a b (fun hh => by unfold pc_ at hab; omega) (fun hh => by unfold pc_ at hab; omega)) (fun q _ => by rw [h2])
    have hc : crs_ S h p t M := by
      obtain ⟨W, pt, ht0, hcr⟩ := hc0
      exact ⟨W, pt, ht0.fr (hm 5 4 (by omega) (by omega)) (by funext b; exact hm 70 b (by omega) (by omega)) (by rw [h2]) (by rw [h2]), fun q hq => by rw [hm 45 q (by omega) (by omega)]; exact hcr q hq⟩
    have hL : stc_ L M := ⟨by rw [hm 42 1 (by omega) (by omega)]; exact hL0.1, fun i v hv => by rw [hm 43 i (by omega) (by omega)]; exact hL0.2 i v hv⟩
    unfold f_X11_stage_177l f_X11_stage_177 f_X11_stage_222
    rw [hm 19 3 (by omega) (by omega), hI0.told, if_neg (by rw [n3_le (by omega) (by omega)]; omega)]
    refine wp_be (c_staged hI hw hks) ?_
    cases hs : stg_ S k with
    | false =>
      rw [if_pos (by decide)]
      refine wp_sr ?_
      rw [e1]
      refine ih (k + 1) m M (by omega) (by omega) hm h2 ?_
      unfold prc_
      rw [show prs_ S L (k + 1) = prs_ S L k by
        show (if prb_ S L k = true then _ else _) = _
        rw [show prb_ S L k = false by unfold prb_; rw [hs]; rfl, if_neg (by decide)]]
      exact hp
    | true =>
      rw [if_neg (by decide)]
      refine wp_ck ((n3_ix (by omega)).mpr (by omega)) ?_
      rw [n3_tn (by omega)]
      refine wp_bd (wp_mo (k_addPair hw hks hI hc hs hL hl7 h20 hp) (fun z hz => wp_sr ?_))
      rw [e1]
      exact ih (k + 1) m z (by omega) (by omega) (fun a b h1 h3 => by rw [hz.1 a b h1 h3]; exact hm a b h1 h3) (hz.2.1.trans h2) hz.2.2
/-! digits -/
def dg_ (j r : Nat) : Nat := r / 3 ^ j % 3
theorem dg_lt {j r : Nat} : dg_ j r < 3 := Nat.mod_lt _ (by omega)
theorem p3_pos (j : Nat) : 0 < 3 ^ j := Nat.pow_pos (by omega)
theorem dg_succ {j r t : Nat} (h : r + 1 = 3 ^ j * t) : dg_ j (r + 1) = t % 3 ∧ dg_ j r = (t - 1) % 3 ∧ (∀ i, i < j → dg_ i (r + 1) = 0) ∧ (t % 3 ≠ 0 → ∀ i, j < i → dg_ i (r + 1) = dg_ i r) := by
  have hp := p3_pos j
  have ht : 1 ≤ t := by
    cases t with
    | zero => rw [Nat.mul_zero] at h; omega
    | succ t => omega
  have hr : r = 3 ^ j * (t - 1) + (3 ^ j - 1) := by
    have h2 : 3 ^ j * t = 3 ^ j * (t - 1) + 3 ^ j := by
      rw [← Nat.mul_succ]; congr 1; omega
    omega
  have d1 : (r + 1) / 3 ^ j = t := by rw [h, Nat.mul_div_cancel_left _ hp]
  have d2 : r / 3 ^ j = t - 1 := by
    rw [hr, Nat.mul_add_div hp, Nat.div_eq_of_lt (by omega), Nat.add_zero]
  refine ⟨by unfold dg_; rw [d1], by unfold dg_; rw [d2], fun i hi => ?_, fun h3 i hi => ?_⟩
  · unfold dg_
    obtain ⟨c, rfl⟩ : ∃ c, j = i + (c + 1) := ⟨j - i - 1, by omega⟩
    rw [h, Nat.pow_add, Nat.mul_assoc, Nat.mul_div_cancel_left _ (p3_pos i), Nat.pow_succ, Nat.mul_comm (3 ^ c) 3, Nat.mul_assoc, Nat.mul_mod_right]
  · unfold dg_
    obtain ⟨c, rfl⟩ : ∃ c, i = j + (1 + c) := ⟨i - j - 1, by omega⟩
    rw [Nat.pow_add, ← Nat.div_div_eq_div_mul, ← Nat.div_div_eq_div_mul, d1, d2, Nat.pow_add, Nat.pow_one, ← Nat.div_div_eq_div_mul, ← Nat.div_div_eq_div_mul, show t / 3 = (t - 1) / 3 by omega]
/-- what is chosen -/
def chn_ (m r : Nat) (M : mm_M) : Prop := ∀ k, k < m → M.1 46 k = Int32.ofNat (dg_ (m - 1 - k) r)
theorem k_next (hm7 : M.1 42 1 = Int32.ofNat L.length) (hl7 : L.length ≤ 7) {r : Nat} (hc : chn_ L.length r M) (hr : r + 1 < 3 ^ L.length) : wp_ (f_X7_chooseNext M) (fun z => (∀ a b, a ≠ 46 → z.1 a b = M.1 a b) ∧ z.2 = M.2 ∧ chn_ L.length (r + 1) z) := by
  have key : ∀ (j n : Nat) (Z : mm_M), j ≤ L.length → L.length - j < n → (∀ a b, a ≠ 46 → Z.1 a b = M.1 a b) → Z.2 = M.2 → (∃ t, r + 1 = 3 ^ j * t) → (∀ k, k < L.length - j → Z.1 46 k = Int32.ofNat (dg_ (L.length - 1 - k) r)) → (∀ k, L.length - j ≤ k → k < L.length → Z.1 46 k = Int32.ofNat 0) →
      wp_ (f_X7_chooseNext_7l n (Int32.ofNat (L.length - j) + (-1)) Z) (fun z => (∀ a b, a ≠ 46 → z.1 a b = M.1 a b) ∧ z.2 = M.2 ∧ chn_ L.length (r + 1) z) := by
    intro j n
    induction n generalizing j with
    | zero => intro Z _ hn; omega
    | succ n ih =>
      intro Z hj hn hm h2 ht hlo hhi
      obtain ⟨t, ht⟩ := ht
      have hjl : j < L.length := by
        rcases Nat.lt_or_ge j L.length with h | h
        · exact h
        · exfalso
          have hjj : j = L.length := by omega
          rw [hjj] at ht
          cases t with
          | zero => rw [Nat.mul_zero] at ht; omega
          | succ t =>
            have := Nat.le_mul_of_pos_right (3 ^ L.length) (show 0 < t + 1 by omega)
            omega
      obtain ⟨g1, g2, g3, g4⟩ := dg_succ ht
      have ht1 : 1 ≤ t := by
        cases t with
        | zero => rw [Nat.mul_zero] at ht; omega
        | succ t => omega
      have e1 : Int32.ofNat (L.length - j) + (-1) = Int32.ofNat (L.length - j - 1) := n3_pred (by omega)
      have hat := hlo (L.length - j - 1) (by omega)
      rw [show L.length - 1 - (L.length - j - 1) = j by omega] at hat
      have hd := dg_lt (j := j) (r := r)
      have hix : ix_ok (Int32.ofNat (L.length - j - 1)) 7 := (n3_ix (by omega)).mpr (by omega)
      have et : (Int32.ofNat (L.length - j - 1)).toNatClampNeg = L.length - j - 1 := n3_tn (by omega)
      unfold f_X7_chooseNext_7l f_X7_chooseNext_7 f_X7_chooseNext_34
      rw [e1, if_neg (show ¬ (Int32.ofNat (L.length - j - 1) < 0) from fun hh => (n3_neg (by omega)).mp hh)]
      refine wp_ck hix ?_
      simp only [et]
      rw [hat]
      by_cases c : dg_ j r = 2
      · rw [if_pos (by rw [c]; rfl)]
        refine wp_ck hix (wp_sr (wp_sr ?_))
        rw [show L.length - j - 1 = L.length - (j + 1) by omega]
        refine ih (j + 1) _ (by omega) (by omega) (fun a b hab => by rw [si_1, if_neg (by omega)]; exact hm a b hab) h2 ⟨t / 3, ?_⟩ (fun k hk => ?_) (fun k h1 h3 => ?_)
        · have h3 : t = 3 * (t / 3) := by omega
          rw [ht, Nat.pow_succ, Nat.mul_assoc, ← h3]
        · rw [si_1, if_neg (by omega)]; exact hlo k (by omega)
        · rw [si_1]
          by_cases c2 : k = L.length - (j + 1)
          · rw [if_pos ⟨rfl, c2⟩]; rfl
          · rw [if_neg (by simp [c2])]; exact hhi k (by omega) h3
      · rw [if_neg (show ¬ (Int32.ofNat (dg_ j r) = 2) from fun hh => c ((n3_eq (b := 2) (by omega) (by omega)).mp hh)), if_neg (show ¬ (Int32.ofNat (L.length - j - 1) < 0) from fun hh => (n3_neg (by omega)).mp hh)]
        refine wp_ck hix (wp_ck hix (wp_sr (wp_some ⟨fun a b hab => by rw [si_1, if_neg (by omega)]; exact hm a b hab, h2, fun k hk => ?_⟩)))
        rw [si_1]
        by_cases c2 : k = L.length - j - 1
        · rw [if_pos ⟨rfl, c2⟩, c2, show L.length - 1 - (L.length - j - 1) = j by omega, g1, show Int32.ofNat (dg_ j r) + 1 = Int32.ofNat (dg_ j r + 1) from n3_add _ 1]
          congr 1
          omega
        · rw [if_neg (by simp [c2])]
          by_cases c3 : k < L.length - j
          · rw [hlo k c3, g4 (by omega) (L.length - 1 - k) (by omega)]
          · rw [hhi k (by omega) hk, g3 (L.length - 1 - k) (by omega)]
  unfold f_X7_chooseNext
  refine wp_sr ?_
  rw [hm7, Int32.sub_eq_add_neg]
  have := key 0 fu_ M (Nat.zero_le _) (by unfold fu_; omega) (fun _ _ _ => rfl) rfl ⟨r + 1, by rw [Nat.pow_zero, Nat.one_mul]⟩ (fun k hk => hc k (by omega)) (fun k h1 h3 => by omega)
  exact this
/-- it ends, whatever is chosen -/
theorem k_nextE (hm7 : M.1 42 1 = Int32.ofNat L.length) (hl7 : L.length ≤ 7) {r : Nat} (hc : chn_ L.length r M) : wp_ (f_X7_chooseNext M) (fun z => (∀ a b, a ≠ 46 → z.1 a b = M.1 a b) ∧ z.2 = M.2) := by
  have key : ∀ (k n : Nat) (Z : mm_M), k ≤ L.length → k < n → (∀ a b, a ≠ 46 → Z.1 a b = M.1 a b) → Z.2 = M.2 →
      wp_ (f_X7_chooseNext_7l n (Int32.ofNat k + (-1)) Z) (fun z => (∀ a b, a ≠ 46 → z.1 a b = M.1 a b) ∧ z.2 = M.2) := by
    intro k n
    induction n generalizing k with
    | zero => intro Z _ hn; omega
    | succ n ih =>
      intro Z hk hn hm h2
      unfold f_X7_chooseNext_7l f_X7_chooseNext_7 f_X7_chooseNext_34
      by_cases c0 : k = 0
      · rw [if_pos ((m1_neg k (by omega)).mpr c0), if_pos ((m1_neg k (by omega)).mpr c0)]
        exact wp_some ⟨hm, h2⟩
      · have hneg : ¬ (Int32.ofNat k + (-1) < 0) := fun hh => c0 ((m1_neg k (by omega)).mp hh)
        rw [if_neg hneg, if_neg hneg, n3_pred (by omega)]
        have hix : ix_ok (Int32.ofNat (k - 1)) 7 := (n3_ix (by omega)).mpr (by omega)
        refine wp_ck hix (wp_if (fun _ => wp_ck hix (wp_sr (wp_sr ?_))) (fun _ => wp_ck hix (wp_ck hix (wp_sr (wp_some ⟨fun a b hab => ?_, h2⟩)))))
        · exact ih (k - 1) _ (by omega) (by omega) (fun a b hab => by rw [si_1, if_neg (by omega)]; exact hm a b hab) h2
        · rw [si_1, if_neg (by omega)]; exact hm a b hab
  unfold f_X7_chooseNext
  refine wp_sr ?_
  rw [hm7, Int32.sub_eq_add_neg]
  exact key L.length fu_ M (Nat.le_refl _) (by unfold fu_; omega) (fun _ _ _ => rfl) rfl
end WJ1
