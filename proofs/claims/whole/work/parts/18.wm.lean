/-! CALLS: stage -/
section WM1
variable {S : sg_} {M Mc Mr : mm_M} {vs : List Nat} {L : List Nat} {h p : Nat} {t : Nat → Nat}
/-- a choice is taken, if it is better -/
theorem q_take {m : Nat} {f : Nat → Nat} {r : Nat} (hm7 : m ≤ 7) (hf : ∀ r, f r ≤ 16) (hm : M.1 0 49 = Int32.ofNat m) (hd : ∀ k, k < m → M.1 33 k = Int32.ofNat (dg_ (m - 1 - k) r)) (hs : psq_ m f r M) {rc : Int32 → Int32 → Int32 → mm_M → Option mm_M} :
    wp_ (f_X12_stages_192 rc (Int32.ofNat (f r)) M) (fun z => fr_ (fun a b => a = 34 ∨ (a = 0 ∧ b = 50)) M z ∧ psq_ m f (r + 1) z) := by
  have key : ∀ (e k n : Nat) (Z : mm_M), k + e = m → e < n → fr_ (fun a b => a = 34 ∨ (a = 0 ∧ b = 50)) M Z → Z.1 0 50 = Int32.ofNat (f r) → (∀ i, i < k → Z.1 34 i = Int32.ofNat (dg_ (m - 1 - i) r)) →
      wp_ (f_X12_stages_210l rc n (Int32.ofNat k) Z) (fun z => fr_ (fun a b => a = 34 ∨ (a = 0 ∧ b = 50)) M z ∧ z.1 0 50 = Int32.ofNat (f r) ∧ ∀ i, i < m → z.1 34 i = Int32.ofNat (dg_ (m - 1 - i) r)) := by
    intro e
    induction e with
    | zero =>
      intro k n Z hk hn hfr h50 h34
      obtain ⟨q, rfl⟩ : ∃ q, n = q + 1 := ⟨n - 1, by omega⟩
      unfold f_X12_stages_210l f_X12_stages_210
      rw [hfr.1 0 49 (by omega), hm, if_pos ((n3_le (by omega) (by omega)).mpr (by omega))]
      exact wp_some ⟨hfr, h50, fun i hi => h34 i (by omega)⟩
    | succ e ih =>
      intro k n Z hk hn hfr h50 h34
      obtain ⟨q, rfl⟩ : ∃ q, n = q + 1 := ⟨n - 1, by omega⟩
      have hix : ix_ok (Int32.ofNat k) 7 := (n3_ix (by omega)).mpr (by omega)
      unfold f_X12_stages_210l f_X12_stages_210
      rw [hfr.1 0 49 (by omega), hm, if_neg (by rw [n3_le (by omega) (by omega)]; omega)]
      refine wp_ck hix (wp_ck hix (wp_sr (wp_sr ?_)))
      rw [n3_tn (by omega), show Int32.ofNat k + 1 = Int32.ofNat (k + 1) from n3_add k 1, hfr.1 33 k (by omega), hd k (by omega)]
      refine ih (k + 1) q _ (by omega) (by omega) (hfr.trans (fr_si (Or.inl rfl))) (by rw [si_1, if_neg (by omega)]; exact h50) (fun i hi => ?_)
      rw [si_1]
      by_cases c : i = k
      · rw [if_pos ⟨rfl, c⟩, c]
      · rw [if_neg (by simp [c])]; exact h34 i (by omega)
  have doit : ¬ (Int32.ofNat (f r) ≤ M.1 0 50) → abx_ f (r + 1 - 1) = r → wp_ (f_X12_stages_192 rc (Int32.ofNat (f r)) M) (fun z => fr_ (fun a b => a = 34 ∨ (a = 0 ∧ b = 50)) M z ∧ psq_ m f (r + 1) z) := by
    intro hx ha
    unfold f_X12_stages_192
    rw [if_neg hx]
    refine wp_sr (wp_mo (key m 0 fu_ _ (by omega) (by unfold fu_; omega) (fr_si (Or.inr ⟨rfl, rfl⟩)) (by rw [si_1, if_pos ⟨rfl, rfl⟩]) (fun i hi => by omega)) (fun z hz => ⟨hz.1, fun h0 => by omega, fun _ => ?_⟩))
    rw [ha]; exact hz.2
  have hfr := hf r
  by_cases c0 : r = 0
  · refine doit ?_ (by rw [c0]; rfl)
    rw [hs.1 c0]
    intro hh
    rw [Int32.le_iff_toInt_le, n3_ti (by omega)] at hh
    have : Int32.toInt (-1) = -1 := by decide
    omega
  · obtain ⟨s1, s2⟩ := hs.2 (by omega)
    have hf2 := hf (abx_ f (r - 1))
    obtain ⟨r', rfl⟩ : ∃ r', r = r' + 1 := ⟨r - 1, by omega⟩
    rw [Nat.add_sub_cancel] at s1 s2 hf2
    by_cases c : f (r' + 1) ≤ f (abx_ f r')
    · unfold f_X12_stages_192
      rw [s1, if_pos ((n3_le (by omega) (by omega)).mpr c)]
      have ha : abx_ f (r' + 1 + 1 - 1) = abx_ f r' := by
        rw [Nat.add_sub_cancel]
        show (if _ then _ else _) = _
        rw [if_pos c]
      exact wp_some ⟨fr_.refl, fun h0 => by omega, fun _ => by rw [ha]; exact ⟨s1, s2⟩⟩
    · refine doit ?_ ?_
      · rw [s1, n3_le (by omega) (by omega)]; exact c
      · rw [Nat.add_sub_cancel]
        show (if _ then _ else _) = _
        rw [if_neg c]
theorem dg_app {q y n k : Nat} (hy : y < 3) (hk : k < n) : dg_ (n - k) (3 * q + y) = dg_ (n - 1 - k) q := by
  unfold dg_
  rw [show n - k = 1 + (n - 1 - k) by omega, Nat.pow_add, Nat.pow_one, ← Nat.div_div_eq_div_mul, show (3 * q + y) / 3 = q by omega]
theorem q_stages (hw : wf_ S) (hl7 : L.length ≤ 7) (hL : ∀ x, x ∈ L → x < 20) (hnd : L.Nodup) (hh : h < 600) (ht : ∀ i, i < 3 → t i < 601) (hp : p < 6) :
    ∀ (c n q d : Nat) (M : mm_M), n + c = L.length → c < d → sqs_ S vs L t M → (∀ k, k < n → M.1 33 k = Int32.ofNat (dg_ (n - 1 - k) q)) → psq_ L.length (sct_ S L (sgF_ S h p t)) (q * 3 ^ c) M →
    wp_ (f_X12_stages d (Int32.ofNat n) (Int32.ofNat h) (Int32.ofNat p) M) (fun z => sqs_ S vs L t z ∧ (∀ k, k < n → z.1 33 k = M.1 33 k) ∧ psq_ L.length (sct_ S L (sgF_ S h p t)) ((q + 1) * 3 ^ c) z) := by
  have h16 := hw.signs
  intro c
  induction c with
  | zero =>
    intro n q d M hn hd hq h33 hs
    obtain ⟨d', rfl⟩ : ∃ d', d = d' + 1 := ⟨d - 1, by omega⟩
    have hnn : n = L.length := by omega
    rw [hnn] at h33
    unfold f_X12_stages f_X12_stages_0
    rw [hq.2.1.1, if_pos ((n3_le (by omega) (by omega)).mpr (by omega))]
    rw [Nat.pow_zero, Nat.mul_one] at hs ⊢
    refine q_leaf_l hw hl7 hL hnd hh ht hp (r := q) hq h33 (fun M' hf => ?_) (S 0 28) 0 fu_ M (by omega) (by unfold fu_; omega) fr_.refl
    have hq' := hq.fr (hf.mono (fun a b hab => Or.inl hab))
    refine wp_mo (q_take (r := q) hl7 (fun r => sct_le hw) hq'.2.1.1 (fun k hk => by rw [hf.1 33 k (by unfold pw_s2; omega)]; exact h33 k hk) (hs.fr (hf.1 0 50 (by unfold pw_s2; omega)) (fun k => hf.1 34 k (by unfold pw_s2; omega)))) (fun z hz => ⟨hq'.fr (hz.1.mono (fun a b hab => by unfold pw_st; omega)), fun k hk => ?_, hz.2⟩)
    rw [hz.1.1 33 k (by omega), hf.1 33 k (by unfold pw_s2; omega)]
  | succ c ih =>
    intro n q d M hn hd hq h33 hs
    obtain ⟨d', rfl⟩ : ∃ d', d = d' + 1 := ⟨d - 1, by omega⟩
    have key : ∀ (e y k : Nat) (Z : mm_M), y + e = 3 → e < k → sqs_ S vs L t Z → (∀ i, i < n → Z.1 33 i = M.1 33 i) → psq_ L.length (sct_ S L (sgF_ S h p t)) ((3 * q + y) * 3 ^ c) Z →
        wp_ (f_X12_stages_11l (f_X12_stages d') k (Int32.ofNat n) (Int32.ofNat h) (Int32.ofNat p) (Int32.ofNat y) Z) (fun z => sqs_ S vs L t z ∧ (∀ k, k < n → z.1 33 k = M.1 33 k) ∧ psq_ L.length (sct_ S L (sgF_ S h p t)) ((q + 1) * 3 ^ (c + 1)) z) := by
      intro e
      induction e with
      | zero =>
        intro y k Z hy hk hqZ hz33 hsZ
        obtain ⟨k', rfl⟩ : ∃ k', k = k' + 1 := ⟨k - 1, by omega⟩
        have hyy : y = 3 := by omega
        unfold f_X12_stages_11l f_X12_stages_11
        rw [if_pos (show (3 : Int32) ≤ Int32.ofNat y from (n3_le (a := 3) (by omega) (by omega)).mpr (by omega))]
        refine wp_some ⟨hqZ, hz33, ?_⟩
        rw [hyy] at hsZ
        rw [Nat.pow_succ, Nat.mul_comm (3 ^ c) 3, ← Nat.mul_assoc, show (q + 1) * 3 = 3 * q + 3 by omega]
        exact hsZ
      | succ e ihe =>
        intro y k Z hy hk hqZ hz33 hsZ
        obtain ⟨k', rfl⟩ : ∃ k', k = k' + 1 := ⟨k - 1, by omega⟩
        unfold f_X12_stages_11l f_X12_stages_11
        rw [if_neg (show ¬ ((3 : Int32) ≤ Int32.ofNat y) from fun hh => by have := (n3_le (a := 3) (by omega) (by omega)).mp hh; omega)]
        refine wp_ck ((n3_ix (by omega)).mpr (by omega)) (wp_sr ?_)
        rw [n3_tn (by omega), show Int32.ofNat n + 1 = Int32.ofNat (n + 1) from n3_add n 1]
        have hfr : fr_ pw_st Z (mm_si Z 33 n (Int32.ofNat y)) := fr_si (by unfold pw_st; omega)
        refine wp_bd (wp_mo (ih (n + 1) (3 * q + y) d' _ (by omega) (by omega) (hqZ.fr hfr) (fun i hi => ?_) (hsZ.fr (by rw [si_1, if_neg (by omega)]) (fun i => by rw [si_1, if_neg (by omega)]))) (fun u hu => wp_sr ?_))
        · rw [si_1, Nat.add_sub_cancel]
          by_cases c2 : i = n
          · rw [if_pos ⟨rfl, c2⟩, c2, Nat.sub_self]
            unfold dg_
            rw [Nat.pow_zero, Nat.div_one]
            congr 1; omega
          · rw [if_neg (by simp [c2]), hz33 i (by omega), h33 i (by omega), dg_app (by omega) (by omega)]
        · rw [show Int32.ofNat y + 1 = Int32.ofNat (y + 1) from n3_add y 1]
          refine ihe (y + 1) k' u (by omega) (by omega) hu.1 (fun i hi => ?_) hu.2.2
          rw [hu.2.1 i (by omega), si_1, if_neg (by omega)]; exact hz33 i hi
    unfold f_X12_stages f_X12_stages_0
    rw [hq.2.1.1, if_neg (by rw [n3_le (by omega) (by omega)]; omega)]
    refine key 3 0 fu_ M (by omega) (by unfold fu_; omega) hq (fun _ _ => rfl) ?_
    rw [Nat.add_zero, Nat.mul_comm 3 q, Nat.mul_assoc, ← Nat.pow_succ']
    exact hs
theorem q_strow (hl7 : L.length ≤ 7) (h20 : ∀ x, x ∈ L → x < 20) {r : Nat} {x : Int32} : ∀ (e k n : Nat) (M : mm_M), k + e = L.length → e < n → rt_ S no_ (stV_ L r k) M → stq_ L M → M.1 0 50 = x → (∀ i, i < L.length → M.1 34 i = Int32.ofNat (dg_ (L.length - 1 - i) r)) →
    wp_ (f_X12_stage_208l n (Int32.ofNat k) M) (fun z => z.1 = x ∧ rt_ S no_ (stV_ L r L.length) z.2) := by
  intro e
  induction e with
  | zero =>
    intro k n M hk hn hr hs h50 hb
    obtain ⟨m, rfl⟩ : ∃ m, n = m + 1 := ⟨n - 1, by omega⟩
    have hkk : k = L.length := by omega
    unfold f_X12_stage_208l f_X12_stage_208 f_X12_stage_247
    rw [hs.1, if_pos ((n3_le (by omega) (by omega)).mpr (by omega))]
    rw [hkk] at hr
    exact wp_some ⟨h50, hr⟩
  | succ e ih =>
    intro k n M hk hn hr hs h50 hb
    obtain ⟨m, rfl⟩ : ∃ m, n = m + 1 := ⟨n - 1, by omega⟩
    have hkl : k < L.length := by omega
    have hat : L[k]? = some (L.getD k 0) := by rw [List.getD_eq_getElem?_getD, List.getElem?_eq_getElem hkl]; rfl
    have hx := h20 _ (List.mem_of_getElem? hat)
    have hd := dg_lt (j := L.length - 1 - k) (r := r)
    have hix : ix_ok (Int32.ofNat k) 7 := (n3_ix (by omega)).mpr (by omega)
    have hvl := stV_len (L := L) (r := r) k
    unfold f_X12_stage_208l f_X12_stage_208
    simp only [n3_tn (show k < 2147483648 by omega)]
    rw [hs.1, if_neg (by rw [n3_le (by omega) (by omega)]; omega), hs.2 k _ hat, n3_6 (by omega)]
    refine wp_ck hix (wp_bd (wp_mo (r_ent hr (by omega) _) (fun u hu => wp_ck hix ?_)))
    rw [hu.2.1 34 k (by simp [pw_en]), hb k hkl, n3_6 (by omega)]
    refine wp_bd (wp_mo (r_ent hu.1 (by rw [List.length_append]; simp; omega) _) (fun v hv => wp_sr ?_))
    rw [show Int32.ofNat k + 1 = Int32.ofNat (k + 1) from n3_add k 1]
    have hfr : ∀ a b, ¬ (a = 0 ∧ b = 1) → v.1 a b = M.1 a b := fun a b h1 => by
      rw [hv.2.1 a b h1, hu.2.1 a b h1]
    refine ih (k + 1) m v (by omega) (by omega) ?_ ⟨by rw [hfr 0 49 (by omega)]; exact hs.1, fun i q hq => by rw [hfr 32 i (by omega)]; exact hs.2 i q hq⟩ (by rw [hfr 0 50 (by omega)]; exact h50) (fun i hi => by rw [hfr 34 i (by omega)]; exact hb i hi)
    have := hv.1
    rw [List.append_assoc] at this
    exact this
theorem q_st188 (hw : wf_ S) (hl7 : L.length ≤ 7) (hL : ∀ x, x ∈ L → x < 20) (hnd : L.Nodup) (hh : h < 600) (ht : ∀ i, i < 3 → t i < 601) (hp : p < 6) (hq : sqs_ S vs L t M) :
    wp_ (f_X12_stage_188 (Int32.ofNat h) (Int32.ofNat p) M) (fun z => z.1 = Int32.ofNat (sct_ S L (sgF_ S h p t) (abx_ (sct_ S L (sgF_ S h p t)) (3 ^ L.length - 1))) ∧ rt_ S no_ (stV_ L (abx_ (sct_ S L (sgF_ S h p t)) (3 ^ L.length - 1)) L.length) z.2) := by
  have h1 := p3_pos L.length
  unfold f_X12_stage_188
  refine wp_sr ?_
  have hfr : fr_ pw_st M (mm_si M 0 50 (-1)) := fr_si (by unfold pw_st; omega)
  refine wp_bd (wp_mo (q_stages hw hl7 hL hnd hh ht hp L.length 0 0 9 _ (by omega) (by omega) (hq.fr hfr) (fun k hk => by omega) ⟨fun _ => by rw [si_1, if_pos ⟨rfl, rfl⟩], fun h0 => by rw [Nat.zero_mul] at h0; omega⟩) (fun z hz => wp_sr ?_))
  obtain ⟨z1, -, z3⟩ := hz
  rw [Nat.zero_add, Nat.one_mul] at z3
  obtain ⟨s1, s2⟩ := z3.2 (by omega)
  refine q_strow hl7 hL L.length 0 fu_ _ (by omega) (by unfold fu_; omega) (rr_nil z1.1) ⟨?_, fun i v hv => ?_⟩ ?_ (fun i hi => ?_)
  · rw [si_1, if_neg (by omega)]; exact z1.2.1.1
  · rw [si_1, if_neg (by omega)]; exact z1.2.1.2 i v hv
  · rw [si_1, if_neg (by omega)]; exact s1
  · rw [si_1, if_neg (by omega)]; exact s2 i hi
/-- the words on the stage -/
theorem q_words_i (hw : wf_ S) {w : Nat} (hwd : w < S 0 8) {x1 x2 : Int32} {q72 : Int32 → Int32 → Int32 → mm_M → Option (Int32 × mm_M)} {Q : Int32 × mm_M → Prop} (hI : ir_ S M)
    (hQ : wp_ (f_X12_stage_156 q72 x1 x2 (Int32.ofNat w) (bi_ (ivb_ S (S 0 28) w)) M) Q) : ∀ (e k n : Nat), k + e = S 0 28 → e < n →
    wp_ (f_X12_stage_96l q72 n x1 x2 (Int32.ofNat w) (bi_ (ivb_ S k w)) (Int32.ofNat k) M) Q := by
  have h16 := hw.signs
  have h20w := hw.words
  intro e
  induction e with
  | zero =>
    intro k n hk hn
    obtain ⟨m, rfl⟩ : ∃ m, n = m + 1 := ⟨n - 1, by omega⟩
    have hkk : k = S 0 28 := by omega
    unfold f_X12_stage_96l f_X12_stage_96
    rw [hI.signs, if_pos ((n3_le (by omega) (by omega)).mpr (by omega)), hkk]
    exact hQ
  | succ e ih =>
    intro k n hk hn
    obtain ⟨m, rfl⟩ : ∃ m, n = m + 1 := ⟨n - 1, by omega⟩
    have hks : k < S 0 28 := by omega
    have e1 : Int32.ofNat k + 1 = Int32.ofNat (k + 1) := n3_add k 1
    have hix : ix_ok (Int32.ofNat k) 17 := (n3_ix (by omega)).mpr (by omega)
    have go := ih (k + 1) m (by omega) (by omega)
    rw [ivb_s] at go
    unfold f_X12_stage_96l f_X12_stage_96 f_X12_stage_143 f_X12_stage_147 f_X12_stage_148
    simp only [n3_tn (show k < 2147483648 by omega)]
    rw [hI.signs, if_neg (by rw [n3_le (by omega) (by omega)]; omega)]
    cases hb : ivb_ S k w with
    | true =>
      rw [hb, Bool.true_or] at go
      rw [if_neg (by decide)]
      refine wp_sr ?_
      rw [e1]; exact go
    | false =>
      rw [hb, Bool.false_or] at go
      rw [if_pos (by decide)]
      refine wp_be (r_onStage hI hw hks) ?_
      cases hst : stg_ S k with
      | false =>
        rw [hst, Bool.false_and] at go
        rw [if_pos (by decide)]
        refine wp_sr ?_
        rw [e1]; exact go
      | true =>
        obtain ⟨s1, s2⟩ := stg_k hst
        have hone := hw.one k hks
        have hoth := (hw.oth k hks (by omega) (by omega)).1
        rw [hst, Bool.true_and] at go
        rw [if_neg (by decide)]
        refine wp_ck hix ?_
        rw [(hI.sg hks).2.1, hI.oth hks (by omega) (by omega)]
        by_cases c1 : S 19 k = w
        · rw [if_pos (by rw [c1])]
          rw [decide_eq_true c1, Bool.true_or] at go
          refine wp_sr ?_
          rw [e1]; exact go
        · rw [if_neg (by rw [n3_eq (by omega) (by omega)]; exact c1)]
          rw [decide_eq_false c1, Bool.false_or] at go
          refine wp_ck hix ?_
          by_cases c2 : S 20 k = w
          · rw [if_pos (by rw [c2])]
            rw [decide_eq_true c2] at go
            refine wp_sr ?_
            rw [e1]; exact go
          · rw [if_neg (by rw [n3_eq (by omega) (by omega)]; exact c2)]
            rw [decide_eq_false c2] at go
            refine wp_sr ?_
            rw [e1]; exact go
theorem q_words_l (hw : wf_ S) {Q : Int32 × mm_M → Prop} (hQ : ∀ M', sqs_ S vs (stL_ S) t M' → wp_ (f_X12_stage_188 (Int32.ofNat h) (Int32.ofNat p) M') Q) : ∀ (e k n : Nat) (M : mm_M), k + e = S 0 8 → e < n → sqs_ S vs (cst_ (ivb_ S (S 0 28)) k) t M →
    wp_ (f_X12_stage_72l n (Int32.ofNat h) (Int32.ofNat p) (Int32.ofNat k) M) Q := by
  have h20w := hw.words
  have h16 := hw.signs
  intro e
  induction e with
  | zero =>
    intro k n M hk hn hq
    obtain ⟨m, rfl⟩ : ∃ m, n = m + 1 := ⟨n - 1, by omega⟩
    have hkk : k = S 0 8 := by omega
    have hend : stL_ S = cst_ (ivb_ S (S 0 28)) k := by
      have := cst_end (P := ivb_ S (S 0 28)) (k := k) (20 - k) (fun i h1 h2 => fun hh => by
        rw [ivb_lt hw (show S 0 8 ≤ i by omega) (S 0 28) (Nat.le_refl _)] at hh
        cases hh.1)
      rw [show k + (20 - k) = 20 by omega] at this
      exact this
    unfold f_X12_stage_72l f_X12_stage_72
    rw [hq.1.1.1.words, if_pos ((n3_le (by omega) (by omega)).mpr (by omega))]
    exact hQ M (by rw [hend]; exact hq)
  | succ e ih =>
    intro k n M hk hn hq
    obtain ⟨m, rfl⟩ : ∃ m, n = m + 1 := ⟨n - 1, by omega⟩
    have e1 : Int32.ofNat k + 1 = Int32.ofNat (k + 1) := n3_add k 1
    have hl := cst_len (P := ivb_ S (S 0 28)) k
    unfold f_X12_stage_72l f_X12_stage_72
    rw [hq.1.1.1.words, if_neg (by rw [n3_le (by omega) (by omega)]; omega), hq.2.1.1]
    by_cases c7 : 7 ≤ (cst_ (ivb_ S (S 0 28)) k).length
    · rw [if_pos (show (7 : Int32) ≤ Int32.ofNat (cst_ (ivb_ S (S 0 28)) k).length from (n3_le (a := 7) (by omega) (by omega)).mpr c7)]
      have hend : stL_ S = cst_ (ivb_ S (S 0 28)) k := by
        have := cst_end (P := ivb_ S (S 0 28)) (k := k) (20 - k) (fun i h1 h2 => fun hh => by omega)
        rw [show k + (20 - k) = 20 by omega] at this
        exact this
      exact hQ M (by rw [hend]; exact hq)
    · rw [if_neg (show ¬ ((7 : Int32) ≤ Int32.ofNat (cst_ (ivb_ S (S 0 28)) k).length) from fun hh => c7 ((n3_le (a := 7) (by omega) (by omega)).mp hh))]
      refine q_words_i hw (show k < S 0 8 by omega) hq.1.1.1 ?_ (S 0 28) 0 fu_ (by omega) (by unfold fu_; omega)
      unfold f_X12_stage_156 f_X12_stage_182
      cases hb : ivb_ S (S 0 28) k with
      | false =>
        rw [if_pos (by decide)]
        refine wp_sr ?_
        rw [e1]
        exact ih (k + 1) m M (by omega) (by omega) (by rw [cst_n (by rw [hb]; exact fun hh => by cases hh.1)]; exact hq)
      | true =>
        rw [if_neg (by decide), hq.2.1.1]
        refine wp_ck ((n3_ix (by omega)).mpr (by omega)) (wp_sr (wp_sr (wp_sr ?_)))
        rw [n3_tn (by omega), si_1, if_neg (by omega), hq.2.1.1, e1]
        refine ih (k + 1) m _ (by omega) (by omega) ?_
        rw [cst_y hb (by omega)]
        have f32 : fr_ (fun a b => a = 32 ∨ (a = 0 ∧ b = 49)) M (mm_si (mm_si M 32 (cst_ (ivb_ S (S 0 28)) k).length (Int32.ofNat k)) 0 49 (Int32.ofNat (cst_ (ivb_ S (S 0 28)) k).length + 1)) := fr_.trans (fr_si (Or.inl rfl)) (fr_si (Or.inr ⟨rfl, rfl⟩))
        refine ⟨⟨hq.1.1.fr f32 (fun a b hab => by unfold pe_; omega) (by omega) (by omega), hq.1.2.fr f32 (by omega)⟩, ⟨?_, fun i v hv => ?_⟩, fun i hi => by rw [f32.1 35 i (by omega)]; exact hq.2.2 i hi⟩
        · rw [si_1, if_pos ⟨rfl, rfl⟩, List.length_append]; exact n3_add _ 1
        · rw [si_1, if_neg (by omega), si_1]
          by_cases c2 : i = (cst_ (ivb_ S (S 0 28)) k).length
          · rw [if_pos ⟨rfl, c2⟩]
            rw [c2] at hv; simp at hv; rw [hv]
          · rw [if_neg (by simp [c2])]
            have := lt_of_some hv
            simp at this
            rw [List.getElem?_append_left (by omega)] at hv
            exact hq.2.1.2 i v hv
theorem m_stage (hrl0 : rl_ Mc Mr) (x1 x2 x3 x4 x5 : Int32) : bo_ (f_X11_stage x1 x2 x3 x4 x5 Mc) (f_X12_stage x1 x2 x3 x4 x5 Mr) := by
  obtain ⟨S, vs, hw, hv, hc, hr⟩ := hrl0
  have hr1 := hr.th
  have hrl : rl_ Mc (mm_si Mr 0 0 0) := ⟨S, vs, hw, hv, hc, hr1⟩
  have h600 := hw.hist
  have h20w := hw.words
  have hl7 := stL_len (S := S)
  have h20 := stL_lt hw
  unfold f_X11_stage f_X12_stage
  rw [sq_n (x := mm_si Mr 0 0 0), c_isThen hc.2.1 hw, c_isYear, c_isYear, r_isHist hr1.1.1 hw, r_isThen, r_isThen, r_isThen]
  refine bo_gt hrl (fun b1 b2 => ?_)
  obtain ⟨b2, b3⟩ := and_t b2
  rw [b3, Bool.and_true, Bool.and_true]
  refine bo_g hrl (fun b4 => bo_g hrl (fun b5 => ?_))
  obtain ⟨h, rfl, hh⟩ := lt_nat b1 (by omega)
  obtain ⟨y0, rfl, hy0⟩ := lt_nat b2 (by omega)
  obtain ⟨p, rfl, hp⟩ := lt_nat b3 (by omega)
  obtain ⟨y1, rfl, hy1⟩ := lt_nat b4 (by omega)
  obtain ⟨y2, rfl, hy2⟩ := lt_nat b5 (by omega)
  obtain ⟨t, rfl, rfl, rfl⟩ : ∃ t : Nat → Nat, t 0 = y0 ∧ t 1 = y1 ∧ t 2 = y2 := ⟨fun i => if i = 0 then y0 else if i = 1 then y1 else y2, rfl, rfl, rfl⟩
  have ht : ∀ i, i < 3 → t i < 601 := fun i hi => by
    by_cases c0 : i = 0
    · rw [c0]; exact hy0
    · by_cases c1 : i = 1
      · rw [c1]; exact hy1
      · rw [show i = 2 by omega]; exact hy2
  refine bo_mk (S := S) (vs := stV_ (stL_ S) (abx_ (sct_ S (stL_ S) (sgF_ S h p t)) (3 ^ (stL_ S).length - 1)) (stL_ S).length) (A := Int32.ofNat (sct_ S (stL_ S) (sgF_ S h p t) (abx_ (sct_ S (stL_ S) (sgF_ S h p t)) (3 ^ (stL_ S).length - 1)))) hw ⟨by rw [stV_len]; omega, fun v hv2 => by have := stV_lt h20 _ v hv2; omega⟩ ?_ ?_
  · exact k_stage hw hh ht hp hc
  · refine wp_sr (wp_sr (wp_sr (wp_sr ?_)))
    have f35 : fr_ (fun a b => a = 35 ∨ (a = 0 ∧ b = 49)) (mm_si Mr 0 0 0) (mm_si (mm_si (mm_si (mm_si (mm_si Mr 0 0 0) 35 (0 : Int32).toNatClampNeg (Int32.ofNat (t 0))) 35 (1 : Int32).toNatClampNeg (Int32.ofNat (t 1))) 35 (2 : Int32).toNatClampNeg (Int32.ofNat (t 2))) 0 49 0) :=
      fr_.trans (fr_.trans (fr_.trans (fr_si (Or.inl rfl)) (fr_si (Or.inl rfl))) (fr_si (Or.inl rfl))) (fr_si (Or.inr ⟨rfl, rfl⟩))
    refine q_words_l (t := t) hw (fun M' hq => q_st188 hw hl7 h20 (cst_nd 20) (show h < 600 by omega) ht hp hq) (S 0 8) 0 fu_ _ (by omega) (by unfold fu_; omega) ⟨⟨hr1.1.fr f35 (fun a b hab => by unfold pe_; omega) (by omega) (by omega), hr1.2.fr f35 (by omega)⟩, ⟨by rw [si_1, if_pos ⟨rfl, rfl⟩]; rfl, fun i v hv2 => by cases hv2⟩, fun i hi => ?_⟩
    have i0 : (0 : Int32).toNatClampNeg = 0 := rfl
    have i1 : (1 : Int32).toNatClampNeg = 1 := rfl
    have i2 : (2 : Int32).toNatClampNeg = 2 := rfl
    rw [i0, i1, i2, si_1, if_neg (by omega), si_1]
    by_cases c2 : i = 2
    · rw [if_pos ⟨rfl, c2⟩, c2]
    · rw [if_neg (by simp [c2]), si_1]
      by_cases c1 : i = 1
      · rw [if_pos ⟨rfl, c1⟩, c1]
      · have c0 : i = 0 := by omega
        rw [if_neg (by simp [c1]), si_1, if_pos ⟨rfl, c0⟩, c0]
end WM1
