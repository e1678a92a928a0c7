/-! THE REFERENCE, its inner methods (7): signs hold, histories fit -/
def pw_s2 (a b : Nat) : Prop := a = 14 ∨ a = 15 ∨ a = 16 ∨ a = 17 ∨ (a = 0 ∧ b = 24)
theorem pw_s2_pe {S : sg_} {a b : Nat} (h : pw_s2 a b) : ¬ pe_ S a b := by
  unfold pw_s2 at h
  unfold pe_
  omega
theorem pw_sa2 {hd a b : Nat} (h : pw_sa hd a b) : pw_s2 a b := by
  unfold pw_sa pw_wk pw_ln at h
  unfold pw_s2
  omega
/-- the reference as it stands between calls, but for laws that never come -/
def rs_ (S : sg_) (nv : Nat → Bool) (M : mm_M) : Prop := ir_ S M ∧ nv_ M nv ∧ sw_ M none
theorem rs_.fr {S : sg_} {nv : Nat → Bool} {P : Nat → Nat → Prop} {M M' : mm_M} (h : rs_ S nv M) (hf : fr_ P M M') (hp : ∀ a b, P a b → ¬ pe_ S a b) (h25 : ¬ P 0 25) (h26 : ¬ P 0 26) : rs_ S nv M' :=
  ⟨hf.ir h.1 hp, fun l hl => by rw [hf.1 0 25 h25]; exact h.2.1 l hl, by show M'.1 0 26 = -1; rw [hf.1 0 26 h26]; exact h.2.2⟩
theorem rs_.fr2 {S : sg_} {nv : Nat → Bool} {M M' : mm_M} (h : rs_ S nv M) (hf : fr_ pw_s2 M M') : rs_ S nv M' :=
  h.fr hf (fun a b h => pw_s2_pe h) (by simp [pw_s2]) (by simp [pw_s2])
/-- a sign as the reference holds it -/
def sgn_ (M : mm_M) (s kd one oth yr pl nm : Nat) : Prop := M.1 18 s = Int32.ofNat kd ∧ M.1 19 s = Int32.ofNat one ∧ (kd ≠ 2 → kd ≠ 3 → M.1 20 s = Int32.ofNat oth) ∧ M.1 21 s = Int32.ofNat yr ∧ M.1 22 s = Int32.ofNat pl ∧ (kd = 2 ∨ kd = 3 → M.1 23 s = Int32.ofNat nm)
theorem sgn_.fr {P : Nat → Nat → Prop} {M M' : mm_M} {s kd one oth yr pl nm : Nat} (h : sgn_ M s kd one oth yr pl nm) (hf : fr_ P M M') (hp : ∀ a, 18 ≤ a → a ≤ 23 → ¬ P a s) : sgn_ M' s kd one oth yr pl nm :=
  ⟨by rw [hf.1 18 s (hp 18 (by omega) (by omega))]; exact h.1, by rw [hf.1 19 s (hp 19 (by omega) (by omega))]; exact h.2.1, by rw [hf.1 20 s (hp 20 (by omega) (by omega))]; exact h.2.2.1, by rw [hf.1 21 s (hp 21 (by omega) (by omega))]; exact h.2.2.2.1, by rw [hf.1 22 s (hp 22 (by omega) (by omega))]; exact h.2.2.2.2.1, by rw [hf.1 23 s (hp 23 (by omega) (by omega))]; exact h.2.2.2.2.2⟩
theorem sw_id : (sw_f none) = id := rfl
section RG1
variable {S : sg_} {M : mm_M} {nv : Nat → Bool}
theorem sa_ok (hw : wf_ S) : ∀ (ls xs : List Nat), (∀ l, l ∈ ls → l < S 0 11) → ok_ xs → ok_ (sa_l S ls xs) := by
  intro ls
  induction ls with
  | nil => intro xs _ h; exact h
  | cons l ls ih => intro xs hl h; exact ih (lw_on S l xs) (fun x hx => hl x (by simp [hx])) (lw_on_ok hw (hl l (by simp)) h)
theorem sd_ok (hw : wf_ S) {w h y p : Nat} (hwd : w < S 0 8) : ok_ (sd_n S nv w h y p) :=
  sa_ok hw _ _ (fun _ hl => pa_mem hl) (wd_ok hw hwd)
theorem r_sd (h : rs_ S nv M) (hw : wf_ S) {hand w hi y p : Nat} (hwd : w < S 0 8) (hh : hand < 2) (hhi : hi < 2147483648) (hy : y < 2147483648) (hp : p < 6) :
    wp_ (f_X12_says (Int32.ofNat hand) (Int32.ofNat w) (Int32.ofNat hi) (Int32.ofNat y) (Int32.ofNat p) M) (fun z => fr_ (pw_sa hand) M z ∧ hd_ z hand (sd_n S nv w hi y p)) := by
  have := r_says h.1 hw (sw := none) hwd hh h.2.1 h.2.2 (fun a b hab => by cases hab) hhi hy hp
  rw [sw_id, List.map_id] at this
  exact this
theorem r_both (h : rs_ S nv M) (hw : wf_ S) {one oth hi y p : Nat} (h1 : one < S 0 8) (h2 : oth < S 0 8) (hhi : hi < 2147483648) (hy : y < 2147483648) (hp : p < 6) :
    wp_ (f_X12_saysBoth (Int32.ofNat one) (Int32.ofNat oth) (Int32.ofNat hi) (Int32.ofNat y) (Int32.ofNat p) M) (fun z => fr_ pw_s2 M z ∧ rs_ S nv z ∧ hd_ z 0 (sd_n S nv one hi y p) ∧ hd_ z 1 (sd_n S nv oth hi y p)) := by
  unfold f_X12_saysBoth
  refine wp_bd (wp_mo (r_sd (hand := 0) h hw h1 (by omega) hhi hy hp) (fun z1 hz1 => ?_))
  have f1 : fr_ pw_s2 M z1 := hz1.1.mono (fun a b h => pw_sa2 h)
  have g1 := h.fr2 f1
  refine wp_bd (wp_mo (r_sd (hand := 1) g1 hw h2 (by omega) hhi hy hp) (fun z2 hz2 => wp_some ?_))
  have f2 : fr_ pw_s2 z1 z2 := hz2.1.mono (fun a b h => pw_sa2 h)
  have hk := (sd_ok hw h1 (nv := nv) (h := hi) (y := y) (p := p)).1
  refine ⟨f1.trans f2, g1.fr2 f2, hz1.2.fr hz2.1 (by simp [pw_sa, pw_wk, pw_ln]) (fun i hi2 => ?_), hz2.2⟩
  unfold pw_sa pw_wk pw_ln
  omega
theorem r_bt {s kd one oth yr pl nm : Nat} (hI : ir_ S M) (hg : sgn_ M s kd one oth yr pl nm) (hs : s < 17) (hk : kd = 2) (hnm : nm < 2147483648) {xs : List Nat} (hx : ok_ xs) (hd : hd_ M 0 xs) :
    ∀ (us pre : List Nat) (n : Nat), xs = pre ++ us → us.length < n →
    f_X12_isHeld_39l n (Int32.ofNat s) (Int32.ofNat (pre.filter fun s => (S 3 0).testBit s).length) (Int32.ofNat pre.length) M = some (bi_ (decide ((xs.filter fun s => (S 3 0).testBit s).length = nm)), M) := by
  have hx8 := hx.1
  have hfl : (xs.filter fun s => (S 3 0).testBit s).length ≤ xs.length := List.length_filter_le _ _
  have e0 : M.1 15 (0 : Int32).toNatClampNeg = Int32.ofNat xs.length := hd.1
  intro us
  induction us with
  | nil =>
    intro pre n e1 hn
    obtain ⟨m, rfl⟩ : ∃ m, n = m + 1 := ⟨n - 1, by omega⟩
    rw [List.append_nil] at e1
    subst e1
    unfold f_X12_isHeld_39l f_X12_isHeld_39 f_X12_isHeld_78
    rw [e0, if_pos (Int32.le_refl _), if_pos ((n3_ix (by omega)).mpr hs), n3_tn (by omega), hg.2.2.2.2.2 (Or.inl hk)]
    by_cases c : (xs.filter fun s => (S 3 0).testBit s).length = nm
    · rw [if_pos (by rw [c]), decide_eq_true c]; rfl
    · rw [if_neg (by rw [n3_eq (by omega) hnm]; exact c), decide_eq_false c]; rfl
  | cons u us ih =>
    intro pre n e1 hn
    obtain ⟨m, rfl⟩ : ∃ m, n = m + 1 := ⟨n - 1, by omega⟩
    have hlx : xs.length = pre.length + (us.length + 1) := by rw [e1]; simp
    have hu := hx.2 u (by rw [e1]; simp)
    have a0 : M.1 14 pre.length = Int32.ofNat u := by
      have := hd.2 pre.length u (by rw [e1]; simp)
      simpa using this
    have ec : M.1 3 (0 : Int32).toNatClampNeg = Int32.ofNat (S 3 0) := hI.cl (j := 0) (by omega)
    unfold f_X12_isHeld_39l f_X12_isHeld_39
    rw [e0, if_neg (by rw [n3_le (by omega) (by omega)]; omega), if_pos ((n3_ix (by omega)).mpr (by omega)), n3_tn (by omega), a0, ec, r_has (by omega)]
    simp only [sq_]
    have e2 : Int32.ofNat pre.length + 1 = Int32.ofNat (pre ++ [u]).length := by
      rw [show (pre ++ [u]).length = pre.length + 1 from by simp]; exact n3_add _ 1
    have e3 : Int32.ofNat (pre.filter fun s => (S 3 0).testBit s).length + f_X12_truth (if (S 3 0).testBit u = true then 1 else 0) = Int32.ofNat ((pre ++ [u]).filter fun s => (S 3 0).testBit s).length := by
      rw [List.filter_append]
      cases c : (S 3 0).testBit u
      · rw [if_neg (by decide), show f_X12_truth 0 = Int32.ofNat 0 from rfl, n3_add]; simp [c]
      · rw [if_pos rfl, show f_X12_truth 1 = Int32.ofNat 1 from rfl, n3_add]; simp [c]
    rw [e2, e3]
    exact ih (pre ++ [u]) m (by rw [e1]; simp) (by simp at hn; omega)
theorem r_held (h : rs_ S nv M) (hw : wf_ S) {s kd one oth yr pl nm hi : Nat} (hg : sgn_ M s kd one oth yr pl nm) (hs : s < 17) (hk : kd ≤ 4) (h1 : one < S 0 8) (h2 : kd ≠ 2 → kd ≠ 3 → oth < S 0 8) (hy : yr < 2147483648) (hp : pl < 6) (hn : kd = 2 ∨ kd = 3 → nm ≤ 127) (hhi : hi < 2147483648) :
    wp_ (f_X12_isHeld (Int32.ofNat s) (Int32.ofNat hi) M) (fun z => fr_ pw_s2 M z.2 ∧ z.1 = bi_ (ho_k S kd nm (sd_n S nv one hi yr pl) (sd_n S nv oth hi yr pl))) := by
  have hix : ix_ok (Int32.ofNat s) 17 := (n3_ix (by omega)).mpr hs
  have et : (Int32.ofNat s).toNatClampNeg = s := n3_tn (by omega)
  obtain ⟨g1, g2, -, g4, g5, -⟩ := id hg
  unfold f_X12_isHeld
  refine wp_ck hix (wp_ck hix (wp_ck hix ?_))
  simp only [et, g2, g4, g5]
  refine wp_bd (wp_mo (r_sd (hand := 0) h hw h1 (by omega) hhi hy hp) (fun z1 hz1 => ?_))
  have f1 : fr_ pw_s2 M z1 := hz1.1.mono (fun a b h => pw_sa2 h)
  have s1 := h.fr2 f1
  have hg1 := hg.fr f1 (fun a _ _ => by unfold pw_s2; omega)
  obtain ⟨k1, k2, k3, k4, k5, k6⟩ := id hg1
  have ox := sd_ok (nv := nv) (h := hi) (y := yr) (p := pl) hw h1
  have ox8 := ox.1
  refine wp_ck hix ?_
  simp only [k1]
  by_cases c2 : kd = 2
  · rw [if_pos (by rw [c2]; rfl)]
    have := r_bt s1.1 hg1 hs c2 (by have := hn (Or.inl c2); omega) ox hz1.2 (sd_n S nv one hi yr pl) [] fu_ rfl (by unfold fu_; omega)
    refine wp_eq this ⟨f1, ?_⟩
    unfold ho_k
    rw [if_neg (by omega), if_pos c2]
  · rw [if_neg (by show ¬ (_ = Int32.ofNat 2); rw [n3_eq (by omega) (by omega)]; exact c2)]
    refine wp_ck hix ?_
    by_cases c3 : kd = 3
    · have hn3 := hn (Or.inr c3)
      rw [if_pos (by rw [c3]; rfl)]
      refine wp_ck hix (wp_sr ?_)
      have e0 : z1.1 15 (0 : Int32).toNatClampNeg = Int32.ofNat (sd_n S nv one hi yr pl).length := hz1.2.1
      have e16 : Int32.ofNat nm / 16 = Int32.ofNat (nm / 16) := n3_div (b := 16) (by omega) (by omega)
      have e17 : Int32.ofNat nm - Int32.ofNat (nm / 16) * 16 = Int32.ofNat (nm % 16) := by
        show _ - Int32.ofNat (nm / 16) * Int32.ofNat 16 = _
        rw [n3_mul, n3_mod2]
      simp only [k6 (Or.inr c3), e0, e16, e17]
      have hok : ho_k S kd nm (sd_n S nv one hi yr pl) (sd_n S nv oth hi yr pl) = decide ((sd_n S nv one hi yr pl)[nm / 16]? = some (nm % 16)) := by
        unfold ho_k
        rw [if_neg (by omega), if_neg (by omega), if_pos c3]
      rw [hok]
      by_cases c4 : (sd_n S nv one hi yr pl).length ≤ nm / 16
      · rw [if_pos ((n3_le (by omega) (by omega)).mpr c4)]
        refine wp_some ⟨f1, ?_⟩
        rw [List.getElem?_eq_none c4]; rfl
      · rw [if_neg (by rw [n3_le (by omega) (by omega)]; exact c4)]
        refine wp_ck ((n3_ix (by omega)).mpr (by omega)) (wp_ck hix ?_)
        have hat : (sd_n S nv one hi yr pl)[nm / 16]? = some ((sd_n S nv one hi yr pl)[nm / 16]'(by omega)) := List.getElem?_eq_getElem (by omega)
        have hv := hz1.2.2 _ _ hat
        rw [show 8 * 0 + nm / 16 = nm / 16 from by omega] at hv
        have h16 := ox.2 _ (List.mem_of_getElem? hat)
        rw [n3_tn (by omega), hv, hat]
        by_cases c5 : (sd_n S nv one hi yr pl)[nm / 16]'(by omega) = nm % 16
        · rw [if_pos (by rw [c5])]
          exact wp_some ⟨f1, by rw [c5]; simp [bi_]⟩
        · rw [if_neg (by rw [n3_eq (by omega) (by omega)]; exact c5)]
          exact wp_some ⟨f1, by simp [c5, bi_]⟩
    · rw [if_neg (by show ¬ (_ = Int32.ofNat 3); rw [n3_eq (by omega) (by omega)]; exact c3)]
      refine wp_ck hix (wp_ck hix (wp_ck hix ?_))
      simp only [k3 c2 c3, k4, k5]
      have h2o := h2 c2 c3
      refine wp_bd (wp_mo (r_sd (hand := 1) s1 hw h2o (by omega) hhi hy hp) (fun z2 hz2 => ?_))
      have f2 : fr_ pw_s2 z1 z2 := hz2.1.mono (fun a b h => pw_sa2 h)
      have s2 := s1.fr2 f2
      have hg2 := hg1.fr f2 (fun a _ _ => by unfold pw_s2; omega)
      have oy := sd_ok (nv := nv) (h := hi) (y := yr) (p := pl) hw h2o
      have hd0 : hd_ z2 0 (sd_n S nv one hi yr pl) := hz1.2.fr hz2.1 (by simp [pw_sa, pw_wk, pw_ln]) (fun i hi2 => by unfold pw_sa pw_wk pw_ln; omega)
      refine wp_ck hix ?_
      simp only [hg2.1]
      by_cases c1 : kd = 1
      · rw [if_pos (by rw [c1]; rfl)]
        refine wp_be (r_al ox oy hd0 hz2.2) (wp_some ⟨f1.trans f2, ?_⟩)
        unfold ho_k
        rw [if_pos c1]
      · rw [if_neg (by show ¬ (_ = Int32.ofNat 1); rw [n3_eq (by omega) (by omega)]; exact c1)]
        have hok : ho_k S kd nm (sd_n S nv one hi yr pl) (sd_n S nv oth hi yr pl) = decide (tl_ S (sd_n S nv one hi yr pl) ≠ [] ∧ tl_ S (sd_n S nv oth hi yr pl) ≠ [] ∧ (tl_ S (sd_n S nv one hi yr pl) = tl_ S (sd_n S nv oth hi yr pl) ↔ kd = 0)) := by
          unfold ho_k
          rw [if_neg c1, if_neg c2, if_neg c3]
        rw [hok]
        refine wp_be (r_ht s2.1 ox oy hd0 hz2.2) ?_
        by_cases t1 : tl_ S (sd_n S nv one hi yr pl) = []
        · rw [if_pos (by simp [t1, bi_])]
          exact wp_some ⟨f1.trans f2, by simp [t1, bi_]⟩
        · by_cases t2 : tl_ S (sd_n S nv oth hi yr pl) = []
          · rw [if_pos (by simp [t2, bi_])]
            exact wp_some ⟨f1.trans f2, by simp [t2, bi_]⟩
          · rw [if_neg (by simp [t1, t2, bi_])]
            refine wp_be (r_tt s2.1 ox oy hd0 hz2.2 t1 t2) (wp_ck hix ?_)
            unfold f_X12_isHeld_214
            by_cases c0 : kd = 0
            · rw [if_pos (by rw [c0]; rfl)]
              by_cases t3 : tl_ S (sd_n S nv one hi yr pl) = tl_ S (sd_n S nv oth hi yr pl)
              · rw [if_pos (by simp [t3, bi_])]
                exact wp_some ⟨f1.trans f2, by simp [t3, t2, c0, bi_]⟩
              · rw [if_neg (by simp [t3, bi_])]
                exact wp_some ⟨f1.trans f2, by simp [t3, c0, bi_]⟩
            · rw [if_neg (by show ¬ (_ = Int32.ofNat 0); rw [n3_eq (by omega) (by omega)]; exact c0)]
              by_cases t3 : tl_ S (sd_n S nv one hi yr pl) = tl_ S (sd_n S nv oth hi yr pl)
              · rw [if_neg (by simp [t3, bi_])]
                exact wp_some ⟨f1.trans f2, by simp [t3, c0, bi_]⟩
              · rw [if_pos (by simp [t3, bi_])]
                exact wp_some ⟨f1.trans f2, by simp [t1, t2, t3, c0, bi_]⟩
theorem ir_sgn (hI : ir_ S M) {s : Nat} (hs : s < S 0 28) : sgn_ M s (S 18 s) (S 19 s) (S 20 s) (S 21 s) (S 22 s) (S 23 s) :=
  ⟨(hI.sg hs).1, (hI.sg hs).2.1, fun h2 h3 => hI.oth hs h2 h3, (hI.sg hs).2.2.1, (hI.sg hs).2.2.2.1, fun h => hI.num hs h⟩
theorem r_heldS (h : rs_ S nv M) (hw : wf_ S) {s hi : Nat} (hs : s < S 0 28) (hhi : hi < 2147483648) :
    wp_ (f_X12_isHeld (Int32.ofNat s) (Int32.ofNat hi) M) (fun z => fr_ pw_s2 M z.2 ∧ z.1 = bi_ (ho_n S nv s hi)) := by
  have h16 := hw.signs
  have hy := hw.year s hs
  refine r_held h hw (ir_sgn h.1 hs) (by omega) (hw.kind s hs) (hw.one s hs) (fun h2 h3 => (hw.oth s hs h2 h3).1) (by omega) (hw.pl s hs) (fun hk => ?_) hhi
  rcases hk with hk | hk
  · have := hw.nm2 s hs hk; omega
  · exact hw.nm3 s hs hk
end RG1
