/-! CALLS: eye -/
section VN1
variable {S S' : sg_} {M M0 Mc Mr Z : mm_M} {vs : List Nat} {nv : Nat → Bool} {W : Nat} {pt : Nat → List Nat} {p hi : Nat}
theorem rt_.si31 {b : Nat} {v : Int32} (h : rt_ S nv vs M) : rt_ S nv vs (mm_si M 31 b v) := by
  have hf : fr_ (fun a _ => a = 31) M (mm_si M 31 b v) := fr_si rfl
  refine ⟨h.1.fr hf (fun a b hab hpe => ?_) (by omega) (by omega), h.2.fr hf (by omega)⟩
  subst hab
  simp [pe_] at hpe
def fr31_ (S : sg_) (p hi k : Nat) (M : mm_M) : Prop := ∀ t, t < 4 → M.1 31 t = Int32.ofNat (ez_ S p hi t k)
theorem q_eye_e (hw : wf_ S) : ∀ (e k n : Nat) (vs : List Nat) (M : mm_M), k + e = 4 → e < n → rt_ S nv vs M → vs = (List.range k).map (fun t => ez_ S p hi t (S 0 28)) → fr31_ S p hi (S 0 28) M →
    wp_ (f_X12_eye_181l n (Int32.ofNat (ea_ S p (S 0 28))) (Int32.ofNat k) M) (fun z => z.1 = Int32.ofNat (ea_ S p (S 0 28)) ∧ rt_ S nv ((List.range 4).map (fun t => ez_ S p hi t (S 0 28))) z.2) := by
  have h16 := hw.signs
  intro e
  induction e with
  | zero =>
    intro k n vs M hk hn h hv h31
    obtain ⟨m, rfl⟩ : ∃ m, n = m + 1 := ⟨n - 1, by omega⟩
    unfold f_X12_eye_181l f_X12_eye_181
    rw [if_pos (show (4 : Int32) ≤ Int32.ofNat k from (n3_le (a := 4) (by omega) (by omega)).mpr (by omega))]
    exact wp_some ⟨rfl, by rw [hv, show k = 4 by omega] at h; exact h⟩
  | succ e ih =>
    intro k n vs M hk hn h hv h31
    obtain ⟨m, rfl⟩ : ∃ m, n = m + 1 := ⟨n - 1, by omega⟩
    have e1 : Int32.ofNat k + 1 = Int32.ofNat (k + 1) := n3_add k 1
    have hle : ez_ S p hi k (S 0 28) ≤ 16 := by
      have := nl_le (f := ek_ S p hi k) (hs := List.range (S 0 28))
      rw [List.length_range] at this
      unfold ez_; omega
    have hlen : vs.length = k := by rw [hv]; simp
    unfold f_X12_eye_181l f_X12_eye_181
    rw [if_neg (show ¬ ((4 : Int32) ≤ Int32.ofNat k) from fun hh => by have := (n3_le (a := 4) (by omega) (by omega)).mp hh; omega)]
    refine wp_ck ((n3_ix (by omega)).mpr (by omega)) ?_
    rw [n3_tn (by omega), h31 k (by omega), n3_6 (by omega)]
    refine wp_bd (wp_mo (r_ent h (by omega) _) (fun z hz => wp_sr ?_))
    rw [e1]
    refine ih (k + 1) m _ z (by omega) (by omega) hz.1 (by rw [hv, List.range_succ, List.map_append]; rfl) (fun t ht => ?_)
    rw [hz.2.1 31 t (by simp [pw_en])]; exact h31 t ht
theorem q_eye_l (hw : wf_ S) (hp : p < 6) (hhi : hi < hs_ S) : ∀ (e k n : Nat) (M : mm_M), k + e = S 0 28 → e < n → rt_ S no_ vs M → fr31_ S p hi k M →
    wp_ (f_X12_eye_58l n (Int32.ofNat p) (Int32.ofNat hi) (Int32.ofNat (ea_ S p k)) (Int32.ofNat k) M) (fun z => z.1 = Int32.ofNat (ea_ S p (S 0 28)) ∧ rt_ S no_ ((List.range 4).map (fun t => ez_ S p hi t (S 0 28))) z.2) := by
  have h16 := hw.signs
  have h600 := hw.hist
  intro e
  induction e with
  | zero =>
    intro k n M hk hn h h31
    obtain ⟨m, rfl⟩ : ∃ m, n = m + 1 := ⟨n - 1, by omega⟩
    have hkk : k = S 0 28 := by omega
    unfold f_X12_eye_58l f_X12_eye_58 f_X12_eye_173
    rw [h.1.1.signs, if_pos ((n3_le (by omega) (by omega)).mpr (by omega)), hkk]
    refine wp_sr (q_eye_e hw 4 0 fu_ [] _ (by omega) (by unfold fu_; omega) (rr_nil h) rfl (fun t ht => ?_))
    rw [si_1, if_neg (by omega), h31 t ht, hkk]
  | succ e ih =>
    intro k n M hk hn h h31
    obtain ⟨m, rfl⟩ : ∃ m, n = m + 1 := ⟨n - 1, by omega⟩
    have hks : k < S 0 28 := by omega
    have e1 : Int32.ofNat k + 1 = Int32.ofNat (k + 1) := n3_add k 1
    have ea : Int32.ofNat (ea_ S p k) + 1 = Int32.ofNat (ea_ S p k + 1) := n3_add _ 1
    have hix : ix_ok (Int32.ofNat k) 17 := (n3_ix (by omega)).mpr (by omega)
    have et : (Int32.ofNat k).toNatClampNeg = k := n3_tn (by omega)
    obtain ⟨g18, g19, -, -, g24, -⟩ := h.1.1.sg hks
    have hpo := hw.poet k hks
    have hki := hw.kind k hks
    have no : er_ S p k = false → wp_ (f_X12_eye_167 (f_X12_eye_58l m) (Int32.ofNat p) (Int32.ofNat hi) (Int32.ofNat (ea_ S p k)) (Int32.ofNat k) M) (fun z => z.1 = Int32.ofNat (ea_ S p (S 0 28)) ∧ rt_ S no_ ((List.range 4).map (fun t => ez_ S p hi t (S 0 28))) z.2) := by
      intro her
      unfold f_X12_eye_167
      refine wp_sr ?_
      rw [e1]
      have go := ih (k + 1) m M (by omega) (by omega) h (fun t ht => by rw [ez_s, ek_n her]; exact h31 t ht)
      rw [ea_s, her] at go
      exact go
    unfold f_X12_eye_58l f_X12_eye_58
    rw [h.1.1.signs, if_neg (by rw [n3_le (by omega) (by omega)]; omega)]
    refine wp_ck hix ?_
    simp only [et]
    rw [g18]
    by_cases c : S 18 k = 0
    · rw [if_pos (show Int32.ofNat (S 18 k) = 0 by rw [c]; rfl)]
      refine wp_ck hix ?_
      rw [g24]
      by_cases c2 : S 24 k = p
      · rw [if_pos (by rw [c2])]
        have her : er_ S p k = true := decide_eq_true ⟨c, c2⟩
        refine wp_bd (wp_mo (r_heldS h.1 hw hks (show hi < 2147483648 by omega)) (fun z hz => ?_))
        have hr1 := h.fr2 hz.1
        have q19 := (hr1.1.1.sg hks).2.1
        refine wp_ck hix (wp_bd ?_)
        rw [q19]
        refine wp_mo (r_sp (hand := 0) hr1.1.1 hw (hw.one k hks) (by omega)) (fun u hu => ?_)
        have f1 : fr_ pw_s2 z.2 u := hu.1.mono (fun a b hab => pw_sa2 (Or.inl hab))
        have hr2 := hr1.fr2 f1
        have ho := hw.oth k hks (by omega) (by omega)
        have q20 := hr2.1.1.oth hks (by omega) (by omega)
        refine wp_ck hix (wp_bd ?_)
        rw [q20]
        refine wp_mo (r_sp (hand := 1) hr2.1.1 hw ho.1 (by omega)) (fun w hw2 => ?_)
        have f2 : fr_ pw_s2 u w := hw2.1.mono (fun a b hab => pw_sa2 (Or.inl hab))
        have hr3 := hr2.fr2 f2
        have ok1 := wd_ok hw (hw.one k hks)
        have ok2 := wd_ok hw ho.1
        have hd0 : hd_ w 0 (wd_w S (S 19 k)) := hu.2.fr hw2.1 (by simp [pw_wk]) (fun i hi2 => by
          have := ok1.1
          unfold pw_wk
          omega)
        refine wp_be (r_rh hr3.1.1 ok1 ok2 hd0 hw2.2) ?_
        rw [hz.2]
        have w31 : ∀ t, t < 4 → w.1 31 t = Int32.ofNat (ez_ S p hi t k) := fun t ht => by
          rw [f2.1 31 t (by simp [pw_s2]), f1.1 31 t (by simp [pw_s2]), hz.1.1 31 t (by simp [pw_s2])]; exact h31 t ht
        have yes : ∀ t0, t0 < 4 → (if ho_ S k hi = true then (if es_ S k = true then 0 else 1) else (if es_ S k = true then 2 else 3)) = t0 → wp_ (f_X12_eye_159 (f_X12_eye_58l m) (Int32.ofNat p) (Int32.ofNat hi) (Int32.ofNat (ea_ S p k)) (Int32.ofNat k) (Int32.ofNat t0) w) (fun z => z.1 = Int32.ofNat (ea_ S p (S 0 28)) ∧ rt_ S no_ ((List.range 4).map (fun t => ez_ S p hi t (S 0 28))) z.2) := by
          intro t0 ht0 hte
          have hix4 : ix_ok (Int32.ofNat t0) 4 := (n3_ix (by omega)).mpr ht0
          unfold f_X12_eye_159 f_X12_eye_167
          refine wp_ck hix4 (wp_ck hix4 (wp_sr (wp_sr (wp_sr ?_))))
          rw [n3_tn (by omega), w31 t0 ht0, ea, e1]
          have go := ih (k + 1) m (mm_si w 31 t0 (Int32.ofNat (ez_ S p hi t0 k) + 1)) (by omega) (by omega) hr3.si31 (fun t ht => by
            rw [ez_s, ek_y her, hte, si_1]
            by_cases c3 : t = t0
            · rw [if_pos ⟨rfl, c3⟩, c3, if_pos (decide_eq_true rfl)]; exact n3_add _ 1
            · rw [if_neg (by omega), if_neg (by rw [decide_eq_false (fun hh => c3 hh.symm)]; decide)]; exact w31 t ht)
          rw [ea_s, her, if_pos rfl] at go
          exact go
        have hes : rh_ S (wd_w S (S 19 k)) (wd_w S (S 20 k)) = es_ S k := rfl
        rw [hes, show ho_n S no_ k hi = ho_ S k hi from rfl]
        cases h1 : ho_ S k hi with
        | false =>
          rw [if_pos (by decide)]
          cases h2 : es_ S k with
          | false => rw [if_pos (by decide)]; exact yes 3 (by omega) (by rw [h1, h2]; rfl)
          | true => rw [if_neg (by decide)]; exact yes 2 (by omega) (by rw [h1, h2]; rfl)
        | true =>
          rw [if_neg (by decide)]
          cases h2 : es_ S k with
          | false => rw [if_pos (by decide)]; exact yes 1 (by omega) (by rw [h1, h2]; rfl)
          | true => rw [if_neg (by decide)]; exact yes 0 (by omega) (by rw [h1, h2]; rfl)
      · rw [if_neg (by rw [n3_eq (by omega) (by omega)]; exact c2)]
        exact no (decide_eq_false (fun hh => c2 hh.2))
    · rw [if_neg (show ¬ (Int32.ofNat (S 18 k) = 0) from fun hh => c ((n3_eq (b := 0) (by omega) (by omega)).mp hh))]
      exact no (decide_eq_false (fun hh => c hh.1))
theorem q_eye_z (hw : wf_ S) (hp : p < 6) (hhi : hi < hs_ S) : ∀ (e k n : Nat) (M : mm_M), k + e = 4 → e < n → rt_ S no_ vs M → (∀ t, t < k → M.1 31 t = Int32.ofNat 0) →
    wp_ (f_X12_eye_35l n (Int32.ofNat p) (Int32.ofNat hi) (Int32.ofNat k) M) (fun z => z.1 = Int32.ofNat (ea_ S p (S 0 28)) ∧ rt_ S no_ ((List.range 4).map (fun t => ez_ S p hi t (S 0 28))) z.2) := by
  have h16 := hw.signs
  intro e
  induction e with
  | zero =>
    intro k n M hk hn h h31
    obtain ⟨m, rfl⟩ : ∃ m, n = m + 1 := ⟨n - 1, by omega⟩
    unfold f_X12_eye_35l f_X12_eye_35 f_X12_eye_52
    rw [if_pos (show (4 : Int32) ≤ Int32.ofNat k from (n3_le (a := 4) (by omega) (by omega)).mpr (by omega))]
    exact q_eye_l hw hp hhi (S 0 28) 0 fu_ M (by omega) (by unfold fu_; omega) h (fun t ht => h31 t (by omega))
  | succ e ih =>
    intro k n M hk hn h h31
    obtain ⟨m, rfl⟩ : ∃ m, n = m + 1 := ⟨n - 1, by omega⟩
    have e1 : Int32.ofNat k + 1 = Int32.ofNat (k + 1) := n3_add k 1
    unfold f_X12_eye_35l f_X12_eye_35
    rw [if_neg (show ¬ ((4 : Int32) ≤ Int32.ofNat k) from fun hh => by have := (n3_le (a := 4) (by omega) (by omega)).mp hh; omega)]
    refine wp_ck ((n3_ix (by omega)).mpr (by omega)) (wp_sr (wp_sr ?_))
    rw [n3_tn (by omega), e1]
    refine ih (k + 1) m _ (by omega) (by omega) h.si31 (fun t ht => ?_)
    rw [si_1]
    by_cases c : t = k
    · rw [if_pos ⟨rfl, c⟩]; rfl
    · rw [if_neg (by omega)]; exact h31 t (by omega)
theorem m_eye (h : rl_ Mc Mr) (x1 x2 : Int32) : bo_ (f_X11_eye x1 x2 Mc) (f_X12_eye x1 x2 Mr) := by
  obtain ⟨S, vs, hw, hv, hc, hr⟩ := h
  have hr1 := hr.th
  have hrl : rl_ Mc (mm_si Mr 0 0 0) := ⟨S, vs, hw, hv, hc, hr1⟩
  have h600 := hw.hist
  have h16 := hw.signs
  unfold f_X11_eye f_X12_eye
  rw [sq_n (x := mm_si Mr 0 0 0), show f_X11_isBelow x1 6 = f_X11_isPlace x1 from rfl, c_isPlace, c_isHist hc.2.1 hw, show (5 : Int64) = Int64.ofNat 5 from rfl, r_in0 (by omega), r_isHist hr1.1.1 hw]
  refine bo_g hrl (fun b1 => bo_gb hrl (fun b2 => ?_))
  obtain ⟨p, rfl, hp⟩ := lt_nat b1 (by omega)
  obtain ⟨hi, rfl, hhi⟩ := lt_nat b2 (by omega)
  have hb : ∀ t, ez_ S p hi t (S 0 28) ≤ 16 := fun t => by
    have := nl_le (f := ek_ S p hi t) (hs := List.range (S 0 28))
    rw [List.length_range] at this
    unfold ez_; omega
  refine bo_mk (S := S) (vs := [ez_ S p hi 0 (S 0 28), ez_ S p hi 1 (S 0 28), ez_ S p hi 2 (S 0 28), ez_ S p hi 3 (S 0 28)]) (A := Int32.ofNat (ea_ S p (S 0 28))) hw ⟨by simp, fun v hv2 => by
    have h0 := hb 0
    have h1 := hb 1
    have h2 := hb 2
    have h3 := hb 3
    simp at hv2
    omega⟩ ?_ ?_
  · refine wp_bd (wp_mo (hc.look hw) (fun z hz => ?_))
    unfold f_X11_eye_26
    refine wp_be (c_rhymesOf hz.1.2.1 hw hp) ?_
    exact k_eye_l hw hp hhi hz.1 hz.2.1 (S 0 28) 0 fu_ (by omega) (by unfold fu_; omega)
  · exact q_eye_z hw hp hhi 4 0 fu_ _ (by omega) (by unfold fu_; omega) hr1 (fun t ht => by omega)
end VN1
