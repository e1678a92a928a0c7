/-! THE REFERENCE, its inner methods (3): lines, the whole -/
section RC1
variable {S : sg_} {M : mm_M}
theorem r_swl {os : List Nat} {a b : Nat} (ha : a < 6) (hb : b < 6) (h6 : os.length ≤ 6) (hos : ∀ x, x ∈ os → x < 6) :
    ∀ (d k : Nat) (M : mm_M) (n : Nat), k + d = os.length → d < n → M.1 0 26 = Int32.ofNat a → M.1 0 27 = Int32.ofNat b → M.1 0 24 = Int32.ofNat os.length →
    (∀ i v, os[i]? = some v → M.1 17 i = Int32.ofNat (if i < k then sw_f (some (a, b)) v else v)) →
    wp_ (f_X12_lines_135l n (Int32.ofNat k) M) (fun M' => fr_ pw_ln M M' ∧ ol_ M' (os.map (sw_f (some (a, b))))) := by
  intro d
  induction d with
  | zero =>
    intro k M n hk hn h26 h27 h24 hv
    obtain ⟨m, rfl⟩ : ∃ m, n = m + 1 := ⟨n - 1, by omega⟩
    unfold f_X12_lines_135l f_X12_lines_135
    rw [h24, if_pos ((n3_le (by omega) (by omega)).mpr (by omega))]
    refine wp_some ⟨fr_.refl, ?_, ?_⟩
    · rw [h24]; simp
    · intro i v hi
      rw [List.getElem?_map] at hi
      cases ho : os[i]? with
      | none => rw [ho] at hi; cases hi
      | some w =>
        rw [ho] at hi
        have hil : i < os.length := by
          rcases Nat.lt_or_ge i os.length with h1 | h1
          · exact h1
          · rw [List.getElem?_eq_none h1] at ho; cases ho
        have := hv i w ho
        rw [if_pos (by omega)] at this
        rw [this]
        simp at hi; rw [hi]
  | succ d ih =>
    intro k M n hk hn h26 h27 h24 hv
    obtain ⟨m, rfl⟩ : ∃ m, n = m + 1 := ⟨n - 1, by omega⟩
    obtain ⟨w, hw⟩ : ∃ w, os[k]? = some w := ⟨os[k]'(by omega), List.getElem?_eq_getElem (by omega)⟩
    have hw6 := hos w (List.mem_of_getElem? hw)
    have hkv := hv k w hw
    rw [if_neg (by omega)] at hkv
    have hix : ix_ok (Int32.ofNat k) 6 := (n3_ix (by omega)).mpr (by omega)
    have e2 : (Int32.ofNat k).toNatClampNeg = k := n3_tn (by omega)
    have key : ∀ v, v = sw_f (some (a, b)) w → wp_ (f_X12_lines_206 (f_X12_lines_135l m) (Int32.ofNat k) (Int32.ofNat k) (Int32.ofNat v) M) (fun M' => fr_ pw_ln M M' ∧ ol_ M' (os.map (sw_f (some (a, b))))) := by
      intro v hvv
      unfold f_X12_lines_206
      refine wp_ck hix (wp_sr (wp_sr ?_))
      rw [e2]
      show wp_ (f_X12_lines_135l m (Int32.ofNat k + Int32.ofNat 1) _) _
      rw [n3_add]
      have hfr : fr_ pw_ln M (mm_si M 17 k (Int32.ofNat v)) := fr_si (by simp [pw_ln])
      refine wp_mo (ih (k + 1) _ m (by omega) (by omega) ?_ ?_ ?_ ?_) (fun r hr => ⟨hfr.trans hr.1, hr.2⟩)
      · rw [si_1, if_neg (by simp)]; exact h26
      · rw [si_1, if_neg (by simp)]; exact h27
      · rw [si_1, if_neg (by simp)]; exact h24
      · intro i u hu
        rw [si_1]
        by_cases hi : i = k
        · rw [if_pos ⟨rfl, hi⟩, if_pos (by omega)]
          rw [hi, hw] at hu
          cases hu
          rw [hvv]
        · rw [if_neg (by simp [hi]), hv i u hu]
          by_cases hik : i < k
          · rw [if_pos hik, if_pos (by omega)]
          · rw [if_neg hik, if_neg (by omega)]
    unfold f_X12_lines_135l f_X12_lines_135
    rw [h24, if_neg (by rw [n3_le (by omega) (by omega)]; omega), h26, if_neg (by intro hn; exact (n3_neg (by omega)).mp hn)]
    refine wp_ck hix ?_
    simp only [e2, hkv]
    by_cases c1 : w = a
    · rw [if_pos (by rw [c1]), h27]
      exact key b (by simp [sw_f, c1])
    · rw [if_neg (by rw [n3_eq (by omega) (by omega)]; exact c1)]
      refine wp_ck hix ?_
      rw [h27]
      by_cases c2 : w = b
      · rw [if_pos (by rw [c2])]
        exact key a (by simp only [sw_f]; rw [if_neg c1, if_pos c2])
      · rw [if_neg (by rw [n3_eq (by omega) (by omega)]; exact c2)]
        exact wp_ck hix (key w (by simp [sw_f, c1, c2]))
theorem r_swap {os : List Nat} {sw : Option (Nat × Nat)} (hs : sw_ M sw) (h6 : os.length ≤ 6) (hos : ∀ x, x ∈ os → x < 6) (ho : ol_ M os) :
    wp_ (f_X12_lines_132 M) (fun M' => fr_ pw_ln M M' ∧ ol_ M' (os.map (sw_f sw))) := by
  unfold f_X12_lines_132
  cases sw with
  | none =>
    have hid : os.map (sw_f none) = os := by
      have : sw_f none = id := rfl
      rw [this, List.map_id]
    have h26 : M.1 0 26 = -1 := hs
    rw [hid]
    unfold fu_ f_X12_lines_135l f_X12_lines_135
    refine wp_if (fun _ => wp_some ⟨fr_.refl, ho⟩) (fun _ => ?_)
    rw [h26, if_pos (by decide)]
    exact wp_some ⟨fr_.refl, ho⟩
  | some ab =>
    obtain ⟨a, b⟩ := ab
    obtain ⟨h26, h27, ha, hb⟩ : M.1 0 26 = Int32.ofNat a ∧ M.1 0 27 = Int32.ofNat b ∧ a < 6 ∧ b < 6 := hs
    exact r_swl ha hb h6 hos os.length 0 M fu_ (by omega) (by unfold fu_; omega) h26 h27 ho.1 (fun i v hi => by rw [if_neg (by omega)]; exact ho.2 i v hi)
theorem r_lines_l (hw : wf_ S) {nv : Nat → Bool} {sw : Option (Nat × Nat)} {h y p : Nat} (hh : h < 2147483648) (hy : y < 2147483648) (hp : p < 6) :
    ∀ (d k : Nat) (M : mm_M) (n : Nat), k + d = S 0 11 → d < n → ir_ S M → nv_ M nv → sw_ M sw → ol_ M (od_ (fun l => yr_ S l h) (fun l => !nv l && decide (yr_ S l h + S 13 p ≤ y)) k) →
    wp_ (f_X12_lines_8l n (Int32.ofNat h) (Int32.ofNat y) (Int32.ofNat p) (Int32.ofNat k) M) (fun M' => fr_ pw_ln M M' ∧ ol_ M' ((pa_ S nv h y p).map (sw_f sw))) := by
  have h6 := hw.laws
  intro d
  induction d with
  | zero =>
    intro k M n hk hn hI hnv hs ho
    obtain ⟨m, rfl⟩ : ∃ m, n = m + 1 := ⟨n - 1, by omega⟩
    have hkk : k = S 0 11 := by omega
    unfold f_X12_lines_8l f_X12_lines_8
    rw [hI.laws, if_pos ((n3_le (by omega) (by omega)).mpr (by omega))]
    rw [hkk] at ho
    have hl := od_len (y := fun l => yr_ S l h) (P := fun l => !nv l && decide (yr_ S l h + S 13 p ≤ y)) (S 0 11)
    exact r_swap (os := od_ (fun l => yr_ S l h) (fun l => !nv l && decide (yr_ S l h + S 13 p ≤ y)) (S 0 11)) hs (by omega) (fun x hx => by have := (od_mem (S 0 11)).mp hx; omega) ho
  | succ d ih =>
    intro k M n hk hn hI hnv hs ho
    obtain ⟨m, rfl⟩ : ∃ m, n = m + 1 := ⟨n - 1, by omega⟩
    have hkl : k < S 0 11 := by omega
    have hl := od_len (y := fun l => yr_ S l h) (P := fun l => !nv l && decide (yr_ S l h + S 13 p ≤ y)) k
    have hyl := yr_le (h := h) hw hkl
    have hlag := hw.lag p hp
    have next : ∀ M', fr_ pw_ln M M' → ol_ M' (od_ (fun l => yr_ S l h) (fun l => !nv l && decide (yr_ S l h + S 13 p ≤ y)) (k + 1)) → wp_ (f_X12_lines_8l m (Int32.ofNat h) (Int32.ofNat y) (Int32.ofNat p) (Int32.ofNat (k + 1)) M') (fun M' => fr_ pw_ln M M' ∧ ol_ M' ((pa_ S nv h y p).map (sw_f sw))) := by
      intro M' hf ho'
      refine wp_mo (ih (k + 1) M' m (by omega) (by omega) (hf.ir hI (fun a b h => pw_ln_pe h)) ?_ ?_ ho') (fun r hr => ⟨hf.trans hr.1, hr.2⟩)
      · intro l hl; rw [hf.1 0 25 (by simp [pw_ln])]; exact hnv l hl
      · cases sw with
        | none => show M'.1 0 26 = -1; rw [hf.1 0 26 (by simp [pw_ln])]; exact hs
        | some ab =>
          obtain ⟨a, b⟩ := ab
          obtain ⟨h26, h27, ha, hb⟩ : M.1 0 26 = Int32.ofNat a ∧ M.1 0 27 = Int32.ofNat b ∧ a < 6 ∧ b < 6 := hs
          exact ⟨by rw [hf.1 0 26 (by simp [pw_ln])]; exact h26, by rw [hf.1 0 27 (by simp [pw_ln])]; exact h27, ha, hb⟩
    unfold f_X12_lines_8l f_X12_lines_8
    rw [hI.laws, if_neg (by rw [n3_le (by omega) (by omega)]; omega), r_has2 (by omega), hnv k (by omega)]
    refine wp_sr ?_
    have skip : (!nv k && decide (yr_ S k h + S 13 p ≤ y)) = false → wp_ (f_X12_lines_126 (f_X12_lines_8l m) (Int32.ofNat h) (Int32.ofNat y) (Int32.ofNat p) (Int32.ofNat k) M) (fun M' => fr_ pw_ln M M' ∧ ol_ M' ((pa_ S nv h y p).map (sw_f sw))) := by
      intro hsk
      unfold f_X12_lines_126
      refine wp_sr ?_
      show wp_ (f_X12_lines_8l m _ _ _ (Int32.ofNat k + Int32.ofNat 1) M) _
      rw [n3_add]
      refine next M fr_.refl ?_
      unfold od_
      rw [if_neg (by rw [hsk]; decide)]
      exact ho
    cases hc : nv k
    · rw [if_pos (by decide)]
      refine wp_be (r_yr hI hw hkl hh) (wp_ck ((n3_ix (by omega)).mpr hp) ?_)
      rw [n3_tn (by omega), hI.lag hp, n3_add]
      by_cases c2 : yr_ S k h + S 13 p ≤ y
      · rw [if_pos ((n3_le (by omega) (by omega)).mpr c2)]
        refine wp_sr ?_
        rw [ho.1]
        refine r_ins hw hh hkl _ _ [] M fu_ rfl (by unfold fu_; omega) hI (by simp; omega) (by rw [ho.1]; simp) ho.2 (by intro i v hv; simp at hv) (fun x hx => by have := (od_mem k).mp hx; omega) (od_sr k) (fun x hx => by cases hx) ?_
        intro M' hf ho'
        rw [List.append_nil] at ho'
        refine next M' hf ?_
        show ol_ M' (od_ _ _ (k + 1))
        unfold od_
        rw [if_pos (by simp [hc, c2])]
        exact ho'
      · rw [if_neg (by rw [n3_le (by omega) (by omega)]; exact c2)]
        exact skip (by simp [c2])
    · rw [if_neg (by decide)]
      exact skip (by simp [hc])
theorem r_lines (hI : ir_ S M) (hw : wf_ S) {nv : Nat → Bool} {sw : Option (Nat × Nat)} {h y p : Nat} (hnv : nv_ M nv) (hs : sw_ M sw) (hh : h < 2147483648) (hy : y < 2147483648) (hp : p < 6) :
    wp_ (f_X12_lines (Int32.ofNat h) (Int32.ofNat y) (Int32.ofNat p) M) (fun M' => fr_ pw_ln M M' ∧ ol_ M' ((pa_ S nv h y p).map (sw_f sw))) := by
  have h6 := hw.laws
  unfold f_X12_lines
  refine wp_sr ?_
  have hf : fr_ pw_ln M (mm_si M 0 24 0) := fr_si (by simp [pw_ln])
  refine wp_mo (r_lines_l hw (nv := nv) (sw := sw) hh hy hp (S 0 11) 0 _ fu_ (by omega) (by unfold fu_; omega) (hf.ir hI (fun a b h => pw_ln_pe h)) ?_ ?_ ?_) (fun r hr => ⟨hf.trans hr.1, hr.2⟩)
  · intro l hl; rw [hf.1 0 25 (by simp [pw_ln])]; exact hnv l hl
  · cases sw with
    | none => show (mm_si M 0 24 0).1 0 26 = -1; rw [hf.1 0 26 (by simp [pw_ln])]; exact hs
    | some ab =>
      obtain ⟨a, b⟩ := ab
      obtain ⟨h26, h27, ha, hb⟩ : M.1 0 26 = Int32.ofNat a ∧ M.1 0 27 = Int32.ofNat b ∧ a < 6 ∧ b < 6 := hs
      exact ⟨by rw [hf.1 0 26 (by simp [pw_ln])]; exact h26, by rw [hf.1 0 27 (by simp [pw_ln])]; exact h27, ha, hb⟩
  · exact ⟨by rw [si_1, if_pos ⟨rfl, rfl⟩]; rfl, fun i v hv => by simp [od_] at hv⟩
end RC1
