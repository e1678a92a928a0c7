/-! THE REFERENCE, its inner methods (4): a law works; how a word is said -/
def so_ (o : Option Nat) : Int32 := match o with
  | none => -1
  | some s => Int32.ofNat s
def bi_ (b : Bool) : Int32 := if b = true then 1 else 0
theorem bi_0 {b : Bool} : (bi_ b = 0) ↔ b = false := by cases b <;> decide
theorem bi_01 {b : Bool} : bi_ b = 0 ∨ bi_ b = 1 := by cases b <;> decide
/-- a hand holds sounds -/
def hd_ (M : mm_M) (hand : Nat) (xs : List Nat) : Prop := M.1 15 hand = Int32.ofNat xs.length ∧ ∀ i v, xs[i]? = some v → M.1 14 (8 * hand + i) = Int32.ofNat v
def ok_ (xs : List Nat) : Prop := xs.length ≤ 8 ∧ ∀ x, x ∈ xs → x < 16
theorem lt_of_some {α : Type} {xs : List α} {i : Nat} {v : α} (h : xs[i]? = some v) : i < xs.length := by
  rcases Nat.lt_or_ge i xs.length with h1 | h1
  · exact h1
  · rw [List.getElem?_eq_none h1] at h; cases h
theorem hd_.fr {P : Nat → Nat → Prop} {M M' : mm_M} {hand : Nat} {xs : List Nat} (h : hd_ M hand xs) (hf : fr_ P M M') (h1 : ¬ P 15 hand) (h2 : ∀ i, i < xs.length → ¬ P 14 (8 * hand + i)) : hd_ M' hand xs :=
  ⟨by rw [hf.1 15 hand h1]; exact h.1, fun i v hv => by rw [hf.1 14 _ (h2 i (lt_of_some hv))]; exact h.2 i v hv⟩
def lw_ch (S : sg_) (l : Nat) : Option Nat → List Nat → Bool
  | _, [] => false
  | p, x :: xs => (lw_d S l p x xs.head? && decide (S 7 l ≠ x)) || lw_ch S l (some x) xs
section RD1
variable {S : sg_} {M : mm_M}
theorem r_isOf (hI : ir_ S M) {part s : Nat} (hp : part < 22) (hs : s < 16) : f_X12_isOf (Int32.ofNat part) (Int32.ofNat s) M = some (bi_ (is_of S part s)) := by
  unfold f_X12_isOf is_of
  by_cases hc : part < 16
  · rw [if_neg (by show ¬ (Int32.ofNat 16 ≤ _); rw [n3_le (by omega) (by omega)]; omega), if_pos hc]
    by_cases h2 : s = part
    · rw [if_pos (by rw [h2]), h2]; simp [bi_]
    · rw [if_neg (by rw [n3_eq (by omega) (by omega)]; exact h2)]; simp [bi_, h2]
  · rw [if_pos (by show (Int32.ofNat 16 ≤ _); rw [n3_le (by omega) (by omega)]; omega), if_neg hc, if_neg (by intro hn; exact (n3_neg (by omega)).mp hn)]
    have e : Int32.ofNat part - 16 = Int32.ofNat (part - 16) := by
      show _ - Int32.ofNat 16 = _
      rw [n3_sub (by omega)]
    rw [e, if_pos ((n3_ix (by omega)).mpr (by omega)), n3_tn (by omega), hI.cl (by omega), r_has (by omega)]
    cases (S 3 (part - 16)).testBit s <;> rfl
theorem r_isOfn {part : Nat} (hp : part < 22) : f_X12_isOf (Int32.ofNat part) (-1) M = some 0 := by
  unfold f_X12_isOf
  by_cases hc : part < 16
  · rw [if_neg (by show ¬ (Int32.ofNat 16 ≤ _); rw [n3_le (by omega) (by omega)]; omega), if_neg (by rw [n3_nm2 (by omega)]; exact id)]
  · rw [if_pos (by show (Int32.ofNat 16 ≤ _); rw [n3_le (by omega) (by omega)]; omega), if_pos (by decide)]
theorem r_isBy (hI : ir_ S M) {part : Nat} {o : Option Nat} (hp : part ≤ 23) (hs : ∀ s, o = some s → s < 16) : f_X12_isBeside (Int32.ofNat part) (so_ o) M = some (bi_ (is_by S part o)) := by
  unfold f_X12_isBeside is_by f_X12_isBeside_28
  by_cases c1 : part = 23
  · rw [if_pos (by rw [c1]; rfl), if_pos c1]; rfl
  · rw [if_neg (by show ¬ (_ = Int32.ofNat 23); rw [n3_eq (by omega) (by omega)]; exact c1), if_neg c1]
    by_cases c2 : part = 22
    · rw [if_pos (by rw [c2]; rfl), if_pos c2]
      cases o with
      | none => rw [if_neg (by decide)]; rfl
      | some s =>
        have := hs s rfl
        rw [if_pos (by show Int32.ofNat 0 ≤ Int32.ofNat s; rw [n3_le (by omega) (by omega)]; omega)]; rfl
    · rw [if_neg (by show ¬ (_ = Int32.ofNat 22); rw [n3_eq (by omega) (by omega)]; exact c2), if_neg c2]
      cases o with
      | none =>
        show (f_X12_isOf (Int32.ofNat part) (-1) M).bind _ = _
        rw [r_isOfn (by omega)]; rfl
      | some s =>
        have := hs s rfl
        show (f_X12_isOf (Int32.ofNat part) (Int32.ofNat s) M).bind _ = _
        rw [r_isOf hI (by omega) this]
        show _ = some (bi_ (is_of S part s))
        cases is_of S part s <;> rfl
/-- the new sounds are copied back -/
theorem r_cp {hand : Nat} (hh : hand < 2) {out : List Nat} (ho : out.length ≤ 8) {x5 : Bool} :
    ∀ (d k : Nat) (M : mm_M) (n : Nat), k + d = out.length → d < n → (∀ i v, out[i]? = some v → M.1 16 i = Int32.ofNat v) → (∀ i v, i < k → out[i]? = some v → M.1 14 (8 * hand + i) = Int32.ofNat v) →
    wp_ (f_X12_worksOn_220l n (Int32.ofNat hand) (Int32.ofNat out.length) (bi_ x5) (Int32.ofNat k) M) (fun z => fr_ (pw_wk hand) M z.2 ∧ hd_ z.2 hand out ∧ z.1 = bi_ x5) := by
  intro d
  induction d with
  | zero =>
    intro k M n hk hn h16 h14
    obtain ⟨m, rfl⟩ : ∃ m, n = m + 1 := ⟨n - 1, by omega⟩
    unfold f_X12_worksOn_220l f_X12_worksOn_220
    rw [if_pos ((n3_le (by omega) (by omega)).mpr (by omega))]
    unfold f_X12_worksOn_252
    refine wp_ck ((n3_ix (by omega)).mpr hh) (wp_sr (wp_ck bi_01 (wp_some ⟨?_, ⟨?_, ?_⟩, rfl⟩)))
    · exact fr_si (by rw [n3_tn (by omega)]; simp [pw_wk])
    · show (mm_si M 15 _ _).1 15 hand = _
      rw [si_1, if_pos ⟨rfl, (n3_tn (by omega)).symm⟩]
    · intro i v hv
      show (mm_si M 15 _ _).1 14 _ = _
      rw [si_1, if_neg (by simp)]
      have := lt_of_some hv
      exact h14 i v (by omega) hv
  | succ d ih =>
    intro k M n hk hn h16 h14
    obtain ⟨m, rfl⟩ : ∃ m, n = m + 1 := ⟨n - 1, by omega⟩
    obtain ⟨w, hw⟩ : ∃ w, out[k]? = some w := ⟨out[k]'(by omega), List.getElem?_eq_getElem (by omega)⟩
    have e : (8 : Int32) * Int32.ofNat hand + Int32.ofNat k = Int32.ofNat (8 * hand + k) := by
      show Int32.ofNat 8 * _ + _ = _
      rw [n3_mul, n3_add]
    unfold f_X12_worksOn_220l f_X12_worksOn_220
    rw [if_neg (by rw [n3_le (by omega) (by omega)]; omega), e]
    refine wp_ck ((n3_ix (by omega)).mpr (by omega)) (wp_ck ((n3_ix (by omega)).mpr (by omega)) (wp_sr (wp_sr ?_)))
    show wp_ (f_X12_worksOn_220l m _ _ _ (Int32.ofNat k + Int32.ofNat 1) _) _
    rw [n3_add, n3_tn (by omega), n3_tn (by omega), h16 k w hw]
    have hfr : fr_ (pw_wk hand) M (mm_si M 14 (8 * hand + k) (Int32.ofNat w)) := fr_si (Or.inl ⟨rfl, by omega⟩)
    refine wp_mo (ih (k + 1) _ m (by omega) (by omega) ?_ ?_) (fun r hr => ⟨hfr.trans hr.1, hr.2⟩)
    · intro i v hv; rw [si_1, if_neg (by simp)]; exact h16 i v hv
    · intro i v hi hv
      rw [si_1]
      by_cases hik : i = k
      · subst hik
        rw [hw] at hv; cases hv
        rw [if_pos ⟨rfl, rfl⟩]
      · rw [if_neg (by omega)]; exact h14 i v (by omega) hv
theorem r_wk1 {l hand i x : Nat} {out : List Nat} {flag does : Bool} {nn : Int32} {q16 : Int32 → Int32 → Int32 → Int32 → Int32 → Int32 → mm_M → Option (Int32 × mm_M)} {Q : Int32 × mm_M → Prop}
    (hI : ir_ S M) (hw : wf_ S) (hl : l < S 0 11) (hx : x < 16) (hil : out.length ≤ i) (hi : i < 8) (h16 : ∀ i v, out[i]? = some v → M.1 16 i = Int32.ofNat v)
    (hq : ∀ M' out', out' = (if does = true then (if S 7 l = 24 then out else out ++ [S 7 l]) else out ++ [x]) → fr_ (pw_wk hand) M M' → (∀ b, M'.1 14 b = M.1 14 b) → (∀ i v, out'[i]? = some v → M'.1 16 i = Int32.ofNat v) →
      wp_ (q16 (Int32.ofNat hand) (Int32.ofNat l) nn (Int32.ofNat out'.length) (bi_ (flag || (does && decide (S 7 l ≠ x)))) (Int32.ofNat (i + 1)) M') Q) :
    wp_ (f_X12_worksOn_139 q16 (Int32.ofNat hand) (Int32.ofNat l) nn (Int32.ofNat out.length) (bi_ flag) (Int32.ofNat i) (Int32.ofNat x) (bi_ does) M) Q := by
  have h6 := hw.laws
  have hb := hw.bec l hl
  have hbm := (hI.lw hl).2.1
  have hix : ix_ok (Int32.ofNat l) 6 := (n3_ix (by omega)).mpr (by omega)
  have et : (Int32.ofNat l).toNatClampNeg = l := n3_tn (by omega)
  have e1 : Int32.ofNat i + 1 = Int32.ofNat (i + 1) := n3_add i 1
  -- a sound is laid
  have lay : ∀ v fl, wp_ (q16 (Int32.ofNat hand) (Int32.ofNat l) nn (Int32.ofNat (out.length + 1)) fl (Int32.ofNat (i + 1)) (mm_si M 16 out.length (Int32.ofNat v))) Q →
      wp_ (f_X12_worksOn_207 q16 (Int32.ofNat hand) (Int32.ofNat l) nn (Int32.ofNat out.length) fl (Int32.ofNat i) (Int32.ofNat out.length) (Int32.ofNat v) M) Q := by
    intro v fl h
    unfold f_X12_worksOn_207
    refine wp_ck ((n3_ix (by omega)).mpr (by omega)) (wp_sr (wp_sr ?_))
    unfold f_X12_worksOn_211
    refine wp_sr ?_
    rw [e1, n3_tn (by omega)]
    show wp_ (q16 _ _ _ (Int32.ofNat out.length + Int32.ofNat 1) _ _ _) Q
    rw [n3_add]
    exact h
  have laid : ∀ v i w, (out ++ [v])[i]? = some w → (mm_si M 16 out.length (Int32.ofNat v)).1 16 i = Int32.ofNat w := by
    intro v i w hv
    rw [si_1]
    by_cases hil : i = out.length
    · rw [if_pos ⟨rfl, hil⟩]
      rw [hil] at hv; simp at hv; rw [hv]
    · rw [if_neg (by simp [hil])]
      have := lt_of_some hv
      simp at this
      rw [List.getElem?_append_left (by omega)] at hv
      exact h16 i w hv
  have hfr : ∀ v, fr_ (pw_wk hand) M (mm_si M 16 out.length (Int32.ofNat v)) := fun v => fr_si (by simp [pw_wk])
  have f14 : ∀ v b, (mm_si M 16 out.length (Int32.ofNat v)).1 14 b = M.1 14 b := fun v b => by rw [si_1, if_neg (by simp)]
  have tail : ∀ fl, fl = (flag || (does && decide (S 7 l ≠ x))) → wp_ (f_X12_worksOn_167 q16 (Int32.ofNat hand) (Int32.ofNat l) nn (Int32.ofNat out.length) (Int32.ofNat i) (Int32.ofNat x) (bi_ does) (bi_ fl) M) Q := by
    intro fl hfl
    unfold f_X12_worksOn_167
    cases does with
    | false =>
      rw [if_pos (by decide)]
      unfold f_X12_worksOn_185
      rw [if_pos (by decide)]
      refine lay x _ ?_
      have := hq (mm_si M 16 out.length (Int32.ofNat x)) (out ++ [x]) (by simp) (hfr x) (f14 x) (laid x)
      rw [← hfl] at this
      simpa using this
    | true =>
      rw [if_neg (by decide)]
      refine wp_ck hix ?_
      rw [et, hbm]
      by_cases c : S 7 l = 24
      · rw [if_pos (by rw [c]; rfl)]
        unfold f_X12_worksOn_211
        refine wp_sr ?_
        rw [e1]
        have := hq M out (by simp [c]) fr_.refl (fun _ => rfl) h16
        rw [← hfl] at this
        exact this
      · rw [if_neg (by show ¬ (_ = Int32.ofNat 24); rw [n3_eq (by omega) (by omega)]; exact c)]
        unfold f_X12_worksOn_185
        rw [if_neg (by decide)]
        refine wp_ck hix ?_
        rw [et, hbm]
        refine lay (S 7 l) _ ?_
        have := hq (mm_si M 16 out.length (Int32.ofNat (S 7 l))) (out ++ [S 7 l]) (by simp [c]) (hfr _) (f14 _) (laid _)
        rw [← hfl] at this
        simpa using this
  unfold f_X12_worksOn_139 f_X12_worksOn_166 f_X12_worksOn_162
  cases flag with
  | true =>
    rw [if_neg (by decide)]
    exact tail true (by simp)
  | false =>
    rw [if_pos (by decide)]
    cases does with
    | false => rw [if_pos (by decide)]; exact tail false (by simp)
    | true =>
      rw [if_neg (by decide)]
      refine wp_ck hix ?_
      rw [et, hbm]
      by_cases c : S 7 l = x
      · rw [if_pos (by rw [c])]; exact tail false (by simp [c])
      · rw [if_neg (by rw [n3_eq (by omega) (by omega)]; exact c)]; exact tail true (by simp [c])
end RD1
