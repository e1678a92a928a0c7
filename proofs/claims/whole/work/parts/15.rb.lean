/-! THE REFERENCE, its inner methods (2): lines -/
def ol_ (M : mm_M) (os : List Nat) : Prop := M.1 0 24 = Int32.ofNat os.length ∧ ∀ i v, os[i]? = some v → M.1 17 i = Int32.ofNat v
/-- swaps: none, or two laws -/
def sw_ (M : mm_M) (sw : Option (Nat × Nat)) : Prop := match sw with
  | none => M.1 0 26 = -1
  | some (a, b) => M.1 0 26 = Int32.ofNat a ∧ M.1 0 27 = Int32.ofNat b ∧ a < 6 ∧ b < 6
def sw_f (sw : Option (Nat × Nat)) (l : Nat) : Nat := match sw with
  | none => l
  | some (a, b) => if l = a then b else if l = b then a else l
def nv_ (M : mm_M) (nv : Nat → Bool) : Prop := ∀ l, l < 6 → ib_ (M.1 0 25) l = nv l
theorem ol_.fr {P : Nat → Nat → Prop} {M M' : mm_M} {os : List Nat} (h : ol_ M os) (hf : fr_ P M M') (h1 : ¬ P 0 24) (h2 : ∀ b, ¬ P 17 b) : ol_ M' os :=
  ⟨by rw [hf.1 0 24 h1]; exact h.1, fun i v hv => by rw [hf.1 17 i (h2 i)]; exact h.2 i v hv⟩
section RB1
variable {S : sg_} {M : mm_M}
theorem r_has {a k : Nat} (hk : k < 32) : f_X12_has (Int32.ofNat a) (Int32.ofNat k) = if a.testBit k = true then 1 else 0 := by
  unfold f_X12_has
  rw [ib_bit hk, ib_nat2 hk]
  cases a.testBit k
  · rw [if_neg (by decide), if_neg (by decide)]
  · rw [if_pos rfl, if_pos rfl]
theorem r_has2 {x : Int32} {k : Nat} (hk : k < 32) : f_X12_has x (Int32.ofNat k) = if ib_ x k = true then 1 else 0 := by
  unfold f_X12_has
  rw [ib_bit hk]
  cases ib_ x k
  · rw [if_neg (by decide), if_neg (by decide)]
  · rw [if_pos rfl, if_pos rfl]
theorem r_ins (hw : wf_ S) {h l : Nat} (hh : h < 2147483648) (hl : l < S 0 11) {x2 x3 : Int32} {Q : mm_M → Prop} {q8 : Int32 → Int32 → Int32 → Int32 → mm_M → Option mm_M} :
    ∀ (d : Nat) (pre suf : List Nat) (M : mm_M) (n : Nat), pre.length = d → d < n → ir_ S M → pre.length + suf.length < 6 → M.1 0 24 = Int32.ofNat (pre.length + suf.length) →
    (∀ i v, pre[i]? = some v → M.1 17 i = Int32.ofNat v) → (∀ i v, suf[i]? = some v → M.1 17 (pre.length + 1 + i) = Int32.ofNat v) →
    (∀ x, x ∈ pre → x < S 0 11) → sr_ (fun l => yr_ S l h) pre → (∀ x, x ∈ suf → yr_ S l h < yr_ S x h) →
    (∀ M', fr_ pw_ln M M' → ol_ M' (in_s (fun l => yr_ S l h) l (pre ++ suf)) → wp_ (q8 (Int32.ofNat h) x2 x3 (Int32.ofNat (l + 1)) M') Q) →
    wp_ (f_X12_lines_56l q8 n (Int32.ofNat h) x2 x3 (Int32.ofNat l) (Int32.ofNat pre.length) M) Q := by
  have h6 := hw.laws
  intro d
  induction d with
  | zero =>
    intro pre suf M n hd hn hI h6s h24 hpre hsuf hmem hsr hgt hq
    obtain ⟨m, rfl⟩ : ∃ m, n = m + 1 := ⟨n - 1, by omega⟩
    have hp : pre = [] := List.length_eq_zero_iff.mp hd
    subst hp
    unfold f_X12_lines_56l f_X12_lines_56
    rw [if_pos (by decide)]
    unfold f_X12_lines_107
    refine wp_ck (by decide) (wp_sr (wp_sr ?_))
    unfold f_X12_lines_126
    refine wp_sr ?_
    show wp_ (q8 (Int32.ofNat h) x2 x3 (Int32.ofNat l + Int32.ofNat 1) _) Q
    rw [n3_add]
    refine hq _ ?_ ?_
    · exact fr_.trans (fr_si (by simp [pw_ln])) (fr_si (by simp [pw_ln]))
    · rw [in_s_app hgt [] (fun x hx => by cases hx)]
      refine ⟨?_, ?_⟩
      · rw [si_1, if_pos ⟨rfl, rfl⟩, si_1, if_neg (by decide), h24]
        show Int32.ofNat _ + Int32.ofNat 1 = _
        rw [n3_add]; simp
      · intro i v hv
        rw [si_1, if_neg (by simp), si_1]
        cases i with
        | zero =>
          rw [if_pos ⟨rfl, rfl⟩]
          simp at hv; rw [hv]
        | succ i =>
          rw [if_neg (by simp [n3_tn])]
          have := hsuf i v (by simpa using hv)
          simpa [Nat.add_comm] using this
  | succ d ih =>
    intro pre suf M n hd hn hI h6s h24 hpre hsuf hmem hsr hgt hq
    obtain ⟨m, rfl⟩ : ∃ m, n = m + 1 := ⟨n - 1, by omega⟩
    obtain ⟨pr, a, rfl⟩ : ∃ pr a, pre = pr ++ [a] := by
      rcases List.eq_nil_or_concat pre with hh | ⟨pr, a, hh⟩
      · rw [hh] at hd; simp at hd
      · exact ⟨pr, a, by rw [hh, List.concat_eq_append]⟩
    have hlen : (pr ++ [a]).length = pr.length + 1 := by simp
    rw [hlen] at hd h6s h24 hsuf ⊢
    have ha6 := hmem a (by simp)
    have hat : M.1 17 pr.length = Int32.ofNat a := hpre pr.length a (by simp)
    have hya := r_yr hI hw ha6 hh
    have hyl := r_yr hI hw hl hh
    have hb1 := yr_le (h := h) hw ha6
    have hb2 := yr_le (h := h) hw hl
    have e1 : Int32.ofNat (pr.length + 1) - 1 = Int32.ofNat pr.length := by
      show Int32.ofNat _ - Int32.ofNat 1 = _
      rw [n3_sub (by omega)]; rfl
    unfold f_X12_lines_56l f_X12_lines_56
    rw [if_neg (by
      show ¬ (Int32.ofNat (pr.length + 1) ≤ Int32.ofNat 0)
      rw [n3_le (by omega) (by omega)]; omega), e1]
    refine wp_ck ((n3_ix (by omega)).mpr (by omega)) ?_
    simp only [n3_tn (show pr.length < 2147483648 by omega), hat]
    refine wp_be hya (wp_be hyl ?_)
    by_cases hc : yr_ S a h ≤ yr_ S l h
    · rw [if_pos ((n3_le (by omega) (by omega)).mpr hc)]
      unfold f_X12_lines_107
      refine wp_ck ((n3_ix (by omega)).mpr (by omega)) (wp_sr (wp_sr ?_))
      unfold f_X12_lines_126
      refine wp_sr ?_
      show wp_ (q8 (Int32.ofNat h) x2 x3 (Int32.ofNat l + Int32.ofNat 1) _) Q
      rw [n3_add, n3_tn (by omega)]
      refine hq _ ?_ ?_
      · exact fr_.trans (fr_si (by simp [pw_ln])) (fr_si (by simp [pw_ln]))
      · have hall : ∀ x, x ∈ pr ++ [a] → yr_ S x h ≤ yr_ S l h := by
          intro x hx
          rw [List.mem_append] at hx
          rcases hx with hx | hx
          · have := (List.pairwise_append.mp hsr).2.2 x hx a (by simp)
            have h3 : yr_ S x h ≤ yr_ S a h := this
            omega
          · rw [List.mem_singleton] at hx; rw [hx]; exact hc
        rw [in_s_app hgt (pr ++ [a]) hall]
        refine ⟨?_, ?_⟩
        · rw [si_1, if_pos ⟨rfl, rfl⟩, si_1, if_neg (by simp), h24]
          show Int32.ofNat _ + Int32.ofNat 1 = _
          rw [n3_add]; congr 1; simp; omega
        · intro i v hv
          rw [si_1, if_neg (by simp), si_1]
          by_cases hi : i = pr.length + 1
          · rw [if_pos ⟨rfl, hi⟩]
            rw [hi, List.getElem?_append_right (by simp)] at hv
            simp at hv; rw [hv]
          · rw [if_neg (by simp [hi])]
            by_cases hi2 : i < pr.length + 1
            · rw [List.getElem?_append_left (by simp; omega)] at hv
              exact hpre i v hv
            · rw [List.getElem?_append_right (by simp; omega)] at hv
              obtain ⟨j, rfl⟩ : ∃ j, i = pr.length + 1 + (j + 1) := ⟨i - pr.length - 2, by omega⟩
              have := hsuf j v (by simpa [show pr.length + 1 + (j + 1) - (pr.length + 1) = j + 1 from by omega] using hv)
              rw [show pr.length + 1 + (j + 1) = pr.length + 1 + 1 + j from by omega]; exact this
    · rw [if_neg (by rw [n3_le (by omega) (by omega)]; exact hc)]
      refine wp_ck ((n3_ix (by omega)).mpr (by omega)) (wp_ck ((n3_ix (by omega)).mpr (by omega)) (wp_sr (wp_sr ?_)))
      rw [n3_pred (by omega), n3_tn (by omega)]
      show wp_ (f_X12_lines_56l q8 m (Int32.ofNat h) x2 x3 (Int32.ofNat l) (Int32.ofNat pr.length) _) Q
      have hfr : fr_ pw_ln M (mm_si M 17 (pr.length + 1) (Int32.ofNat a)) := fr_si (by simp [pw_ln])
      refine ih pr (a :: suf) _ m (by omega) (by omega) (hfr.ir hI (fun a b h => pw_ln_pe h)) (by simp; omega) ?_ ?_ ?_ (fun x hx => hmem x (by simp [hx])) (List.pairwise_append.mp hsr).1 ?_ ?_
      · rw [si_1, if_neg (by simp), h24]; congr 1; simp; omega
      · intro i v hv
        have hi : i < pr.length := by
          rcases Nat.lt_or_ge i pr.length with h1 | h1
          · exact h1
          · rw [List.getElem?_eq_none h1] at hv; cases hv
        rw [si_1, if_neg (by omega)]
        exact hpre i v (by rw [List.getElem?_append_left hi]; exact hv)
      · intro i v hv
        rw [si_1]
        cases i with
        | zero => rw [if_pos ⟨rfl, rfl⟩]; simp at hv; rw [hv]
        | succ i =>
          rw [if_neg (by omega)]
          have := hsuf i v (by simpa using hv)
          rw [show pr.length + 1 + (i + 1) = pr.length + 1 + 1 + i from by omega]; exact this
      · intro x hx
        rw [List.mem_cons] at hx
        rcases hx with hx | hx
        · rw [hx]; omega
        · exact hgt x hx
      · intro M' hf ho
        refine hq M' (hfr.trans hf) ?_
        rw [List.append_assoc]; exact ho
end RB1
