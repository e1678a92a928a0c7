/-! CALLS: word -/
section VI1
variable {S S' : sg_} {M M0 Mc Mr Z : mm_M} {vs : List Nat} {nv : Nat → Bool} {W : Nat} {pt : Nat → List Nat}
/-- k sounds of a word read -/
def wfc_ (S : sg_) (M0 : mm_M) (k : Nat) (Z : mm_M) : Prop := (∀ a b, ¬ (a = 0 ∧ b = 5) → ¬ (a = 4 ∧ b / 8 = S 0 8) → Z.1 a b = M0.1 a b) ∧ Z.2 = M0.2 ∧ Z.1 0 5 = Int32.ofNat k ∧ ∀ i, i < k → Z.1 4 (8 * S 0 8 + i) = Int32.ofNat (S 2 i - 97)
theorem q_word_l {x : Int32} {j mm : Nat} {Q : Int32 × mm_M → Prop} (h6 : M0.1 0 6 = Int32.ofNat mm) (hm : mm ≤ 8) (h8 : M0.1 0 8 = Int32.ofNat (S 0 8)) (h20 : S 0 8 < 20) (ht : ∀ i, i < mm → M0.1 2 i = Int32.ofNat (S 2 i) ∧ S 2 i < 256) (hj : j ≤ mm) (hs : ∀ i, i < j → sn_ (S 2 i) = true)
    (hQ : ∀ m Z, wfc_ S M0 j Z → wp_ (f_X12_word_42l (m + 1) x Z) Q) : ∀ (e k n : Nat) (Z : mm_M), k + e = j → e < n → wfc_ S M0 k Z → wp_ (f_X12_word_42l n x Z) Q := by
  intro e
  induction e with
  | zero =>
    intro k n Z hk hn hz
    obtain ⟨m, rfl⟩ : ∃ m, n = m + 1 := ⟨n - 1, by omega⟩
    exact hQ m Z (by rw [← show k = j by omega]; exact hz)
  | succ e ih =>
    intro k n Z hk hn hz
    obtain ⟨m, rfl⟩ : ∃ m, n = m + 1 := ⟨n - 1, by omega⟩
    obtain ⟨z1, z2, z3, z4⟩ := hz
    have hsn := hs k (by omega)
    have hsn2 := sn_1 hsn
    have e6 : Z.1 0 6 = Int32.ofNat mm := by rw [z1 0 6 (by omega) (by omega)]; exact h6
    unfold f_X12_word_42l f_X12_word_42
    rw [if_neg (by rw [e6, z3, n3_le (by omega) (by omega)]; omega)]
    have hq := q_sound (t := S 2) z3 e6 (by omega) (by omega) (fun i hi => by rw [z1 2 i (by omega) (by omega)]; exact ht i hi)
    rw [if_pos ⟨by omega, hsn⟩] at hq
    refine wp_be hq ?_
    rw [if_pos (show (0 : Int32) ≤ Int32.ofNat (S 2 k - 97) from (n3_le (a := 0) (by omega) (by omega)).mpr (by omega))]
    have e8 : (mm_si Z 0 5 (Int32.ofNat (k + 1))).1 0 8 = Int32.ofNat (S 0 8) := by rw [si_1, if_neg (by omega), z1 0 8 (by omega) (by omega)]; exact h8
    have e5 : (mm_si Z 0 5 (Int32.ofNat (k + 1))).1 0 5 = Int32.ofNat (k + 1) := by rw [si_1, if_pos ⟨rfl, rfl⟩]
    have eix : (8 : Int32) * (mm_si Z 0 5 (Int32.ofNat (k + 1))).1 0 8 + (mm_si Z 0 5 (Int32.ofNat (k + 1))).1 0 5 - 1 = Int32.ofNat (8 * S 0 8 + k) := by
      rw [e8, e5, show (8 : Int32) = Int32.ofNat 8 from rfl, n3_mul, n3_add, show (1 : Int32) = Int32.ofNat 1 from rfl, n3_sub (by omega)]; rfl
    show wp_ (if ix_ok ((8 : Int32) * (mm_si Z 0 5 (Int32.ofNat (k + 1))).1 0 8 + (mm_si Z 0 5 (Int32.ofNat (k + 1))).1 0 5 - 1) 160 then _ else none) Q
    rw [eix]
    refine wp_ck ((n3_ix (by omega)).mpr (by omega)) (wp_sr ?_)
    rw [n3_tn (by omega)]
    refine ih (k + 1) m _ (by omega) (by omega) ⟨fun a b h1 h2 => ?_, z2, ?_, fun i hi => ?_⟩
    · rw [si_1, if_neg (by omega), si_1, if_neg h1]; exact z1 a b h1 h2
    · rw [si_1, if_neg (by omega)]; exact e5
    · rw [si_1]
      by_cases c : i = k
      · rw [if_pos ⟨rfl, by omega⟩, c]
      · rw [if_neg (by omega), si_1, if_neg (by omega)]; exact z4 i (by omega)
/-- the text is gone, words half read stay outside -/
theorem rt_cut {M' : mm_M} (h : rt_ S nv vs M) (hm : ∀ a b, ¬ (a = 0 ∧ (b = 4 ∨ b = 5 ∨ b = 6)) → ¬ (a = 4 ∧ b / 8 = S 0 8) → M'.1 a b = M.1 a b) (h2 : M'.2 = M.2) (h4 : M'.1 0 4 = Int32.ofNat 0) : rt_ (tx_ S 0 (S 2)) nv vs M' := by
  have hf : fr_ (fun a b => (a = 0 ∧ (b = 5 ∨ b = 6)) ∨ (a = 4 ∧ b / 8 = S 0 8)) M (mm_si M' 0 4 (M.1 0 4)) := ⟨fun a b hab => by
      rw [si_1]
      by_cases c : a = 0 ∧ b = 4
      · rw [if_pos c, c.1, c.2]
      · rw [if_neg c]; exact hm a b (by omega) (by omega), h2⟩
  have hx : rt_ S nv vs (mm_si M' 0 4 (M.1 0 4)) := by
    refine ⟨h.1.fr hf (fun a b hab hpe => ?_) (by omega) (by omega), h.2.fr hf (by omega)⟩
    rcases hab with ⟨rfl, hb⟩ | ⟨rfl, hb⟩
    · have := pe_0 hpe; omega
    · unfold pe_ at hpe; omega
  exact rt_tx hx (fun a b h1 h3 => by rw [si_1, if_neg (by omega)]) rfl h4 (fun j hj => by omega)
theorem cs_cut {M' : mm_M} (hw : wf_ S) (h : cs_ S vs M) : wp_ (some ((f_X8_cutTo (0 : Int32) M).2)) (fun z => cs_ (tx_ S 0 (S 2)) vs z) := by
  have h40 := hw.tp
  unfold f_X8_cutTo
  rw [if_neg (by decide), h.2.1.tp, if_pos (show (0 : Int32) ≤ Int32.ofNat (S 0 4) from (n3_le (a := 0) (by omega) (by omega)).mpr (by omega)), sq_n]
  exact wp_some (cs_tx hw h (fun a b h1 h2 => by rw [si_1, if_neg h2]) rfl (by rw [si_1, if_pos ⟨rfl, rfl⟩]; rfl) (fun j hj => by omega))
theorem c_cut0 (hI : ic_ S M) (hw : wf_ S) : (f_X8_cutTo (0 : Int32) M).2 = mm_si M 1 1 0 := by
  have h40 := hw.tp
  unfold f_X8_cutTo
  rw [if_neg (by decide), hI.tp, if_pos (show (0 : Int32) ≤ Int32.ofNat (S 0 4) from (n3_le (a := 0) (by omega) (by omega)).mpr (by omega)), sq_n]
theorem cs_cut0 (hw : wf_ S) (h : cs_ S vs M) : cs_ (tx_ S 0 (S 2)) vs (mm_si M 1 1 0) :=
  cs_tx hw h (fun a b h1 h2 => by rw [si_1, if_neg h2]) rfl (by rw [si_1, if_pos ⟨rfl, rfl⟩]; rfl) (fun j hj => by omega)
theorem wf_cut (hw : wf_ S) : wf_ (tx_ S 0 (S 2)) := wf_tx hw (by omega) (fun j hj => by omega)
/-- the class: a word more -/
theorem cs_wm (hw : wf_ S) (h : cs_ S vs M) (h20 : S 0 8 < 20) (h8 : S 0 4 ≤ 8) (hs : ∀ i, i < S 0 4 → sn_ (S 2 i) = true) :
    wp_ (f_X9_addWord (Int64.ofNat (en_ (tw_ S (S 0 4)))) M) (fun z => z.1 = Int32.ofNat (S 0 8) ∧ z.2.1 1 1 = Int32.ofNat (S 0 4) ∧ cs_ (wm_ S) vs (mm_si z.2 1 1 0)) := by
  obtain ⟨⟨W, pt, htc⟩, hI, hh, hro⟩ := h
  have hcb := htc.capb
  have hcw := htc.cap
  have hc1 := htc.w1
  have h16 := hw.signs
  have h6 := hw.laws
  unfold f_X9_addWord
  refine wp_sr ?_
  have e0 : (0 : Int32) + Int32.ofNat (S 0 8) = Int32.ofNat (S 0 8) := by
    have := n3_add 0 (S 0 8)
    rw [Nat.zero_add] at this; exact this
  rw [hI.words, e0]
  refine wp_ck ((n3_ix (by omega)).mpr (by omega)) (wp_sr (wp_sr (wp_bd ?_)))
  rw [n3_tn (by omega)]
  have e1 : (mm_sl M 71 (S 0 8) (Int64.ofNat (en_ (tw_ S (S 0 4))))).1 5 2 + 1 = Int32.ofNat (S 0 8 + 1) := by
    show M.1 5 2 + 1 = _
    rw [hI.words]; exact n3_add _ 1
  rw [e1]
  refine wp_mo (c_forget (W := W) (by rw [si_1, if_neg (by omega)]; exact htc.wk) htc.cap hcb (fun i h1 h2 => by rw [si_1, if_neg (by omega)]; exact htc.zero i h1 h2)) (fun Y hY => wp_some ?_)
  obtain ⟨y1, y2, y3, y4⟩ := hY
  have yy : ∀ a b, a ≠ 70 → ¬ (a = 5 ∧ (b = 2 ∨ b = 4)) → Y.1 a b = M.1 a b := fun a b h1 h2 => by rw [y1 a b h1 (by omega), si_1, if_neg (by omega)]; rfl
  refine ⟨rfl, by rw [yy 1 1 (by omega) (by omega)]; exact hI.tp, ?_⟩
  have zz : ∀ a b, a ≠ 70 → ¬ (a = 5 ∧ (b = 2 ∨ b = 4)) → ¬ (a = 1 ∧ b = 1) → (mm_si Y 1 1 0).1 a b = M.1 a b := fun a b h1 h2 h3 => by rw [si_1, if_neg h3]; exact yy a b h1 h2
  have hl : ∀ a j, ¬ (a = 71 ∧ j = S 0 8) → Y.2.1 a j = M.2.1 a j := fun a j haj => by
    rw [y2]
    show (mm_sl M 71 (S 0 8) (Int64.ofNat (en_ (tw_ S (S 0 4))))).2.1 a j = _
    rw [sl_2, if_neg haj]
  have e : ∀ x y, ¬ (x = 0 ∧ (y = 8 ∨ y = 4)) ∧ ¬ (x = 5 ∧ y = S 0 8) ∧ ¬ (x = 4 ∧ y / 8 = S 0 8) → wm_ S x y = S x y := fun x y h => wm_o h
  have ef : ∀ a, a ≠ 0 ∧ a ≠ 5 ∧ a ≠ 4 → wm_ S a = S a := fun a h => wm_f h
  refine ⟨⟨1, fun _ => [], tc_new (by rw [si_1, if_neg (by omega)]; exact y3) (by
      obtain ⟨k, hk1, hk2⟩ := htc.pow
      exact ⟨k, hk1, by show Y.2.2 = _; rw [y2]; exact hk2⟩) (fun i hi => by rw [si_1, if_neg (by omega)]; exact y4 i (by
        have : (mm_si Y 1 1 0).2.2 = Y.2.2 := rfl
        rw [this, y2] at hi; exact hi)) (fun w hw2 => ?_)⟩, ?_, ?_, ?_⟩
  · rw [wm_8] at hw2
    show Y.2.1 71 w = _
    by_cases c : w = S 0 8
    · rw [c, wm_wn h8, y2]
      show (mm_sl M 71 (S 0 8) (Int64.ofNat (en_ (tw_ S (S 0 4))))).2.1 71 (S 0 8) = _
      rw [sl_2, if_pos ⟨rfl, rfl⟩]
    · have hfm := htc.frm 0 w (by omega) (by omega)
      rw [htc.root, show 0 * 20 + w = w by omega] at hfm
      rw [hl 71 w (by omega), wm_wd hw (by omega)]
      exact hfm
  · refine wm_yo.ic hI (fun a b hab => zz a b (by omega) (by omega) (by omega)) (by funext j; exact hl 17 j (by omega)) ?_ ?_ ?_ ?_ ?_ ?_ ?_ ?_ ?_ ?_ ?_
    · rw [wm_4, si_1, if_pos ⟨rfl, rfl⟩]; rfl
    · intro j hj; rw [wm_4] at hj; omega
    · rw [wm_8, si_1, if_neg (by omega), y1 5 2 (by omega) (by omega), si_1, if_pos ⟨rfl, rfl⟩]
    · intro c hc; rw [zz 7 c (by omega) (by omega) (by omega), ef 3 (by omega)]; exact hI.cl c hc
    · intro l hl2
      rw [e 0 11 (by omega)] at hl2
      have hh := hI.lo l hl2
      unfold lo_ st_ at hh ⊢
      rw [zz _ 0 (by omega) (by omega) (by omega), zz _ 1 (by omega) (by omega) (by omega), zz _ 2 (by omega) (by omega) (by omega), zz _ 3 (by omega) (by omega) (by omega), zz _ 4 (by omega) (by omega) (by omega), zz _ 5 (by omega) (by omega) (by omega), zz _ 6 (by omega) (by omega) (by omega), ef 3 (by omega), ef 6 (by omega), ef 7 (by omega), ef 8 (by omega), ef 9 (by omega)]
      exact hh
    · intro q hq; rw [zz 15 q (by omega) (by omega) (by omega), ef 13 (by omega)]; exact hI.lag q hq
    · rw [zz 19 3 (by omega) (by omega) (by omega), e 0 28 (by omega)]; exact hI.told
    · rw [zz 19 4 (by omega) (by omega) (by omega), e 0 28 (by omega), ef 26 (by omega)]; exact hI.on
    · intro q hq; rw [e 0 28 (by omega)] at hq
      exact sc_cg (hI.sg q hq) (fun b hb => zz (22 + q) b (by omega) (by omega) (by omega)) (fun a h1 h2 => e _ _ (by omega))
    · intro i hi; exact kp_cg (hI.kept i hi) (fun x y h1 h2 => zz x y (by omega) (by omega) (by omega)) hi (fun x h1 => ef x (by omega))
    · intro q h1 h3; rw [e 0 28 (by omega)] at h1; rw [zz (22 + q) 6 (by omega) (by omega) (by omega), zz (22 + q) 7 (by omega) (by omega) (by omega)]; exact hI.fresh q h1 h3
  · intro q hq hd hi2 hhi
    rw [e 0 28 (by omega)] at hq
    rw [wm_yo.hs] at hhi
    rw [zz 19 6 (by omega) (by omega) (by omega)] at hd
    rw [zz 21 hi2 (by omega) (by omega) (by omega), show ho_ (wm_ S) q hi2 = ho_ S q hi2 from wm_ho hw hq hi2]
    exact hh q hq hd hi2 hhi
  · exact ⟨by rw [zz 3 1 (by omega) (by omega) (by omega)]; exact hro.1, fun j w hj => by
      show Y.2.1 4 j = _
      rw [hl 4 j (by omega)]; exact hro.2 j w hj⟩
theorem m_word (h : rl_ Mc Mr) : bo_ (f_X11_word Mc) (f_X12_word Mr) := by
  obtain ⟨S, vs, hw, hv, hc, hr⟩ := h
  have hr1 := hr.th
  have h40 := hw.tp
  have h20 := hw.words
  obtain ⟨j, hj1, hj2, hj3⟩ := ex_stop (P := fun i => sn_ (S 2 i)) (if 8 < S 0 4 then 8 else S 0 4)
  have hmm : (if 8 < S 0 4 then 8 else S 0 4) ≤ 8 ∧ (if 8 < S 0 4 then 8 else S 0 4) ≤ S 0 4 := by split <;> omega
  have hmm2 : (if 8 < S 0 4 then 8 else S 0 4) = 8 ∨ (if 8 < S 0 4 then 8 else S 0 4) = S 0 4 := by split <;> omega
  unfold f_X11_word f_X12_word f_X11_word_21
  rw [sq_n (x := mm_si Mr 0 0 0), sq_n (x := (mm_si Mr 0 0 0).1 0 4), hr1.1.1.tp, sq_n (x := mm_si (mm_si Mr 0 0 0) 0 4 0), sq_n (x := mm_si (mm_si (mm_si Mr 0 0 0) 0 4 0) 0 5 0), hc.2.1.words]
  have ei : (if (8 : Int32) < Int32.ofNat (S 0 4) then (8 : Int32) else Int32.ofNat (S 0 4)) = Int32.ofNat (if 8 < S 0 4 then 8 else S 0 4) := by
    have := n3_lt (a := 8) (b := S 0 4) (by omega) (by omega)
    by_cases c : 8 < S 0 4
    · rw [if_pos (show (8 : Int32) < Int32.ofNat (S 0 4) from this.mpr c), if_pos c]; rfl
    · rw [if_neg (show ¬ ((8 : Int32) < Int32.ofNat (S 0 4)) from fun hh => c (this.mp hh)), if_neg c]
  rw [ei]
  generalize (if 8 < S 0 4 then 8 else S 0 4) = mm at hj1 hj3 hmm hmm2
  rw [sq_n (x := mm_si (mm_si (mm_si (mm_si Mr 0 0 0) 0 4 0) 0 5 0) 0 6 (Int32.ofNat mm))]
  have hf0 : ∀ a b, ¬ (a = 0 ∧ (b = 4 ∨ b = 5 ∨ b = 6)) → (mm_si (mm_si (mm_si (mm_si Mr 0 0 0) 0 4 0) 0 5 0) 0 6 (Int32.ofNat mm)).1 a b = (mm_si Mr 0 0 0).1 a b := fun a b h => by
    rw [si_1, if_neg (by omega), si_1, if_neg (by omega), si_1, if_neg (by omega)]
  have g4 : (mm_si (mm_si (mm_si (mm_si Mr 0 0 0) 0 4 0) 0 5 0) 0 6 (Int32.ofNat mm)).1 0 4 = Int32.ofNat 0 := by
    rw [si_1, if_neg (by omega), si_1, if_neg (by omega), si_1, if_pos ⟨rfl, rfl⟩]; rfl
  have g5 : (mm_si (mm_si (mm_si (mm_si Mr 0 0 0) 0 4 0) 0 5 0) 0 6 (Int32.ofNat mm)).1 0 5 = Int32.ofNat 0 := by
    rw [si_1, if_neg (by omega), si_1, if_pos ⟨rfl, rfl⟩]; rfl
  have g6 : (mm_si (mm_si (mm_si (mm_si Mr 0 0 0) 0 4 0) 0 5 0) 0 6 (Int32.ofNat mm)).1 0 6 = Int32.ofNat mm := by
    rw [si_1, if_pos ⟨rfl, rfl⟩]
  have g8 : (mm_si (mm_si (mm_si (mm_si Mr 0 0 0) 0 4 0) 0 5 0) 0 6 (Int32.ofNat mm)).1 0 8 = Int32.ofNat (S 0 8) := by
    rw [hf0 0 8 (by omega)]; exact hr1.1.1.words
  have gt : ∀ i, i < S 0 4 → (mm_si (mm_si (mm_si (mm_si Mr 0 0 0) 0 4 0) 0 5 0) 0 6 (Int32.ofNat mm)).1 2 i = Int32.ofNat (S 2 i) ∧ S 2 i < 256 := fun i hi => ⟨by rw [hf0 2 i (by omega)]; exact hr1.1.1.tape hi, hw.tape i hi⟩
  have gs : (mm_si (mm_si (mm_si (mm_si Mr 0 0 0) 0 4 0) 0 5 0) 0 6 (Int32.ofNat mm)).2 = (mm_si Mr 0 0 0).2 := rfl
  rw [g8]
  generalize mm_si (mm_si (mm_si (mm_si Mr 0 0 0) 0 4 0) 0 5 0) 0 6 (Int32.ofNat mm) = M5 at hf0 g4 g5 g6 g8 gt gs
  by_cases c20 : S 0 8 = 20
  · rw [if_neg (show ¬ (Int32.ofNat (S 0 8) < 20) from fun hh => by have := (n3_lt (b := 20) (by omega) (by omega)).mp hh; omega), if_pos (by rw [c20]; rfl)]
    refine bo_mk (A := -100) (wf_cut hw) hv ?_ ?_
    · refine wp_sr (wp_some ⟨rfl, ?_⟩)
      rw [c_cut0 hc.2.1 hw]; exact cs_cut0 hw hc
    · exact wp_some ⟨rfl, rt_cut hr1 (fun a b h1 _ => hf0 a b h1) gs g4⟩
  · rw [if_pos (show Int32.ofNat (S 0 8) < 20 from (n3_lt (b := 20) (by omega) (by omega)).mpr (by omega)), if_neg (show ¬ (Int32.ofNat (S 0 8) = 20) from fun hh => c20 ((n3_eq (b := 20) (by omega) (by omega)).mp hh))]
    have hfn := c_fnw hc.2.1 hw (j := j) (by omega) (by omega) hj2 (by
      rcases hj3 with h | h
      · rcases hmm2 with h2 | h2
        · exact Or.inr (Or.inl (by omega))
        · exact Or.inl (by omega)
      · exact Or.inr (Or.inr h.2))
    have start : wfc_ S M5 0 M5 := ⟨fun _ _ _ _ => rfl, rfl, g5, fun i hi => by omega⟩
    unfold f_X11_wordFromText
    by_cases cA : S 0 4 ≤ j ∧ S 0 4 ≠ 0
    · have hjn : j = S 0 4 := by omega
      have hs : ∀ i, i < S 0 4 → sn_ (S 2 i) = true := fun i hi => hj2 i (by omega)
      rw [if_pos cA] at hfn
      refine bo_mk (A := Int32.ofNat (S 0 8)) (wf_wm hw (by omega) (by omega) (by omega) hs) hv ?_ ?_
      · refine wp_bd (wp_be hfn ?_)
        rw [if_pos rfl]
        refine wp_be (c_asForm hc.2.1 hw (by omega) hs) (wp_bd (wp_mo (cs_wm hw hc (by omega) (by omega) hs) (fun z hz => wp_some (wp_sr (wp_some ⟨hz.1, ?_⟩)))))
        show cs_ (wm_ S) vs (f_X8_cutTo (0 : Int32) z.2).2
        have : (f_X8_cutTo (0 : Int32) z.2).2 = mm_si z.2 1 1 0 := by
          unfold f_X8_cutTo
          rw [if_neg (by decide), hz.2.1, if_pos (show (0 : Int32) ≤ Int32.ofNat (S 0 4) from (n3_le (a := 0) (by omega) (by omega)).mpr (by omega)), sq_n]
        rw [this]; exact hz.2.2
      · refine q_word_l (S := S) g6 (by omega) g8 (by omega) (fun i hi => gt i (by omega)) hj1 hj2 (fun m Z hz => ?_) j 0 fu_ M5 (by omega) (by unfold fu_; omega) start
        obtain ⟨z1, z2, z3, z4⟩ := hz
        have z6 : Z.1 0 6 = Int32.ofNat mm := by rw [z1 0 6 (by omega) (by omega)]; exact g6
        have z8 : Z.1 0 8 = Int32.ofNat (S 0 8) := by rw [z1 0 8 (by omega) (by omega)]; exact g8
        unfold f_X12_word_42l f_X12_word_42 f_X12_word_92
        rw [if_pos (by rw [z6, z3]; exact (n3_le (by omega) (by omega)).mpr (by omega)), if_neg (show ¬ (Int32.ofNat (S 0 4) = 0) from fun hh => cA.2 ((n3_eq (b := 0) (by omega) (by omega)).mp hh)), if_pos (show Int32.ofNat (S 0 4) ≤ 8 from (n3_le (b := 8) (by omega) (by omega)).mpr (by omega)), z8]
        refine wp_ck ((n3_ix (by omega)).mpr (by omega)) (wp_sr (wp_sr (wp_some ?_)))
        rw [n3_tn (by omega)]
        have ea : (mm_si Z 5 (S 0 8) (Int32.ofNat (S 0 4))).1 0 8 + 1 = Int32.ofNat (S 0 8 + 1) := by
          rw [si_1, if_neg (by omega), z8]; exact n3_add _ 1
        rw [ea]
        refine ⟨?_, rt_wm hr1 (by omega) (fun a b h1 h2 h3 => ?_) (by show Z.2 = _; rw [z2]; exact gs) (by rw [si_1, if_pos ⟨rfl, rfl⟩]) ?_ ?_ (fun i hi => ?_)⟩
        · show (mm_si (mm_si Z 5 (S 0 8) (Int32.ofNat (S 0 4))) 0 8 (Int32.ofNat (S 0 8 + 1))).1 0 8 - 1 = _
          rw [si_1, if_pos ⟨rfl, rfl⟩]; exact n3_sub (show 1 ≤ S 0 8 + 1 by omega)
        · rw [si_1, if_neg (by omega), si_1, if_neg h2, z1 a b (by omega) h3]; exact hf0 a b (by omega)
        · rw [si_1, if_neg (by omega), si_1, if_neg (by omega), z1 0 4 (by omega) (by omega)]; exact g4
        · rw [si_1, if_neg (by omega), si_1, if_pos ⟨rfl, rfl⟩]
        · rw [si_1, if_neg (by omega), si_1, if_neg (by omega)]; exact z4 i (by omega)
    · rw [if_neg cA] at hfn
      refine bo_mk (A := -1 - Int32.ofNat j) (wf_cut hw) hv ?_ ?_
      · refine wp_bd (wp_be hfn ?_)
        rw [if_neg (show ¬ (Int32.ofNat j = -1) from fun hh => (n3_nm (by omega)).mp hh)]
        refine wp_some (wp_sr (wp_some ⟨rfl, ?_⟩))
        show cs_ (tx_ S 0 (S 2)) vs (f_X8_cutTo (0 : Int32) Mc).2
        rw [c_cut0 hc.2.1 hw]; exact cs_cut0 hw hc
      · refine q_word_l (S := S) g6 (by omega) g8 (by omega) (fun i hi => gt i (by omega)) hj1 hj2 (fun m Z hz => ?_) j 0 fu_ M5 (by omega) (by unfold fu_; omega) start
        obtain ⟨z1, z2, z3, z4⟩ := hz
        have z6 : Z.1 0 6 = Int32.ofNat mm := by rw [z1 0 6 (by omega) (by omega)]; exact g6
        have hrt : rt_ (tx_ S 0 (S 2)) no_ vs Z := rt_cut hr1 (fun a b h1 h2 => by rw [z1 a b (by omega) h2]; exact hf0 a b h1) (by rw [z2]; exact gs) (by rw [z1 0 4 (by omega) (by omega)]; exact g4)
        unfold f_X12_word_42l f_X12_word_42 f_X12_word_92 f_X12_word_62 f_X12_word_102
        rcases hj3 with h3 | h3
        · rw [if_pos (by rw [z6, z3]; exact (n3_le (by omega) (by omega)).mpr (by omega))]
          have e : (-1 - Z.1 0 6) = -1 - Int32.ofNat j := by rw [z6, h3]
          by_cases c0 : S 0 4 = 0
          · rw [if_pos (by rw [c0]; rfl)]
            exact wp_some ⟨e, hrt⟩
          · rw [if_neg (show ¬ (Int32.ofNat (S 0 4) = 0) from fun hh => c0 ((n3_eq (b := 0) (by omega) (by omega)).mp hh)), if_neg (show ¬ (Int32.ofNat (S 0 4) ≤ 8) from fun hh => by have := (n3_le (b := 8) (by omega) (by omega)).mp hh; omega)]
            exact wp_some ⟨e, hrt⟩
        · rw [if_neg (by rw [z6, z3, n3_le (by omega) (by omega)]; omega)]
          have hq := q_sound (t := S 2) z3 z6 (by omega) (by omega) (fun i hi => by rw [z1 2 i (by omega) (by omega)]; exact gt i (by omega))
          rw [if_neg (fun hh => by rw [h3.2] at hh; exact Bool.noConfusion hh.2)] at hq
          refine wp_be hq ?_
          rw [if_neg (show ¬ ((0 : Int32) ≤ -1) by decide)]
          exact wp_some ⟨by show -1 - Z.1 0 5 = _; rw [z3], hrt⟩
end VI1
