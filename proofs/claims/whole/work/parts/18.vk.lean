/-! CALLS: again -/
section VK1
variable {S S' : sg_} {M M0 Mc Mr Z : mm_M} {vs : List Nat} {nv : Nat → Bool} {W : Nat} {pt : Nat → List Nat} {i : Nat}
/-- what was kept under i is back -/
def ag_ (S : sg_) (i : Nat) : sg_ := fun a b => if a = 26 ∧ b < S 37 i then S 38 (16 * i + b) else if a = 24 ∧ b < S 37 i then S 39 (16 * i + b) else if a = 25 ∧ b < S 37 i then S 40 (16 * i + b) else if a = 13 ∧ b < 6 then S 41 (6 * i + b) else if a = 3 ∧ b < 6 then S 42 (6 * i + b) else S a b
theorem ag_26 {s : Nat} (h : s < S 37 i) : ag_ S i 26 s = S 38 (16 * i + s) := by unfold ag_; rw [if_pos ⟨rfl, h⟩]
theorem ag_24 {s : Nat} (h : s < S 37 i) : ag_ S i 24 s = S 39 (16 * i + s) := by unfold ag_; rw [if_neg (by omega), if_pos ⟨rfl, h⟩]
theorem ag_25 {s : Nat} (h : s < S 37 i) : ag_ S i 25 s = S 40 (16 * i + s) := by unfold ag_; rw [if_neg (by omega), if_neg (by omega), if_pos ⟨rfl, h⟩]
theorem ag_13 {s : Nat} (h : s < 6) : ag_ S i 13 s = S 41 (6 * i + s) := by unfold ag_; rw [if_neg (by omega), if_neg (by omega), if_neg (by omega), if_pos ⟨rfl, h⟩]
theorem ag_3 {s : Nat} (h : s < 6) : ag_ S i 3 s = S 42 (6 * i + s) := by unfold ag_; rw [if_neg (by omega), if_neg (by omega), if_neg (by omega), if_neg (by omega), if_pos ⟨rfl, h⟩]
theorem ag_o {a b : Nat} (h : ¬ ((a = 26 ∨ a = 24 ∨ a = 25) ∧ b < S 37 i) ∧ ¬ ((a = 13 ∨ a = 3) ∧ b < 6)) : ag_ S i a b = S a b := by
  unfold ag_
  rw [if_neg (by omega), if_neg (by omega), if_neg (by omega), if_neg (by omega), if_neg (by omega)]
theorem ag_f {a : Nat} (h : ¬ (a = 26 ∨ a = 24 ∨ a = 25 ∨ a = 13 ∨ a = 3)) : ag_ S i a = S a := funext (fun b => ag_o (by omega))
theorem ag_yo : yo_ S (ag_ S i) := ⟨ag_f (by omega), ag_f (by omega), ag_f (by omega), ag_o (by omega)⟩
theorem wf_ag (hw : wf_ S) (hi : i < 3) (hk : S 36 i = 1) : wf_ (ag_ S i) := by
  have ef : ∀ a, ¬ (a = 26 ∨ a = 24 ∨ a = 25 ∨ a = 13 ∨ a = 3) → ag_ S i a = S a := fun a h => ag_f h
  refine ⟨?_, ?_, ?_, ?_, ?_, ?_, ?_, ?_, ?_, ?_, ?_, ?_, ?_, ?_, ?_, ?_, ?_, ?_, ?_, ?_, ?_, ?_, ?_, ?_, ?_, ?_, ?_, ?_, ?_⟩
  · rw [ef 0 (by omega)]; exact hw.tp
  · rw [ef 0 (by omega), ef 2 (by omega)]; exact hw.tape
  · intro c hc; rw [ag_3 hc]; exact (hw.klag i hi hk c hc).2
  · rw [ef 0 (by omega)]; exact hw.words
  · rw [ef 0 (by omega), ef 5 (by omega)]; exact hw.sl
  · rw [ef 0 (by omega), ef 5 (by omega), ef 4 (by omega)]; exact hw.sp
  · rw [ef 0 (by omega)]; exact hw.laws
  · rw [ef 0 (by omega), ef 6 (by omega)]; exact hw.goes
  · rw [ef 0 (by omega), ef 7 (by omega)]; exact hw.bec
  · rw [ef 0 (by omega), ef 8 (by omega)]; exact hw.lf
  · rw [ef 0 (by omega), ef 9 (by omega)]; exact hw.rt
  · rw [ef 0 (by omega), ef 10 (by omega), ef 11 (by omega), ef 12 (by omega)]; exact hw.yr
  · rw [ag_yo.hs]; exact hw.hist
  · intro p hp; rw [ag_13 hp]; exact (hw.klag i hi hk p hp).1
  · rw [ef 0 (by omega)]; exact hw.signs
  · rw [ef 0 (by omega), ef 18 (by omega)]; exact hw.kind
  · rw [ef 0 (by omega), ef 19 (by omega)]; exact hw.one
  · rw [ef 0 (by omega), ef 18 (by omega), ef 19 (by omega), ef 20 (by omega)]; exact hw.oth
  · rw [ef 0 (by omega), ef 21 (by omega)]; exact hw.year
  · rw [ef 0 (by omega), ef 22 (by omega)]; exact hw.pl
  · rw [ef 0 (by omega), ef 18 (by omega), ef 23 (by omega)]; exact hw.nm2
  · rw [ef 0 (by omega), ef 18 (by omega), ef 23 (by omega)]; exact hw.nm3
  · intro s hs; rw [ef 0 (by omega)] at hs
    by_cases c : s < S 37 i
    · rw [ag_24 c]; exact (hw.kon i hi s c).2.1
    · rw [ag_o (by omega)]; exact hw.poet s hs
  · intro s hs; rw [ef 0 (by omega)] at hs
    by_cases c : s < S 37 i
    · rw [ag_25 c]; exact (hw.kon i hi s c).2.2
    · rw [ag_o (by omega)]; exact hw.trust s hs
  · intro s hs; rw [ef 0 (by omega)] at hs
    by_cases c : s < S 37 i
    · rw [ag_26 c]; exact (hw.kon i hi s c).1
    · rw [ag_o (by omega)]; exact hw.on s hs
  · rw [ef 36 (by omega)]; exact hw.kept
  · rw [ef 0 (by omega), ef 37 (by omega)]; exact hw.ks
  · rw [ef 37 (by omega), ef 38 (by omega), ef 39 (by omega), ef 40 (by omega)]; exact hw.kon
  · rw [ef 36 (by omega), ef 41 (by omega), ef 42 (by omega)]; exact hw.klag
theorem pe_ag {a b : Nat} (h : pe_ (ag_ S i) a b) : pe_ S a b := by
  unfold pe_ at h ⊢
  rw [ag_f (a := 0) (by omega), ag_f (a := 5) (by omega), ag_f (a := 18) (by omega), ag_f (a := 36) (by omega), ag_f (a := 37) (by omega)] at h
  exact h
/-- what the reference has given back: k signs, j places -/
def af_ (S : sg_) (i : Nat) (M : mm_M) (k j : Nat) (Z : mm_M) : Prop := (∀ a b, ¬ ((a = 26 ∨ a = 24 ∨ a = 25) ∧ b < k) → ¬ ((a = 13 ∨ a = 3) ∧ b < j) → Z.1 a b = M.1 a b) ∧ Z.2 = M.2 ∧
  (∀ s, s < k → Z.1 26 s = Int32.ofNat (S 38 (16 * i + s)) ∧ Z.1 24 s = Int32.ofNat (S 39 (16 * i + s)) ∧ Z.1 25 s = Int32.ofNat (S 40 (16 * i + s))) ∧ (∀ q, q < j → Z.1 13 q = Int32.ofNat (S 41 (6 * i + q)) ∧ Z.1 3 q = Int32.ofNat (S 42 (6 * i + q)))
theorem rt_ag (h : rt_ S nv vs M) (hz : af_ S i M (S 37 i) 6 Z) : rt_ (ag_ S i) nv vs Z := by
  obtain ⟨z1, z2, z3, z4⟩ := hz
  refine ⟨⟨fun a b hp => ?_, fun l hl => by rw [z1 0 25 (by omega) (by omega)]; exact h.1.2.1 l hl, ?_⟩, ?_, fun j v hv => by rw [z2]; exact h.2.2 j v hv⟩
  · by_cases c1 : (a = 26 ∨ a = 24 ∨ a = 25) ∧ b < S 37 i
    · obtain ⟨k1, k2, k3⟩ := z3 b c1.2
      rcases c1.1 with rfl | rfl | rfl
      · rw [k1, ag_26 c1.2]
      · rw [k2, ag_24 c1.2]
      · rw [k3, ag_25 c1.2]
    · by_cases c2 : (a = 13 ∨ a = 3) ∧ b < 6
      · obtain ⟨k1, k2⟩ := z4 b c2.2
        rcases c2.1 with rfl | rfl
        · rw [k1, ag_13 c2.2]
        · rw [k2, ag_3 c2.2]
      · rw [z1 a b c1 c2, ag_o ⟨c1, c2⟩]; exact h.1.1 a b (pe_ag hp)
  · show Z.1 0 26 = -1
    rw [z1 0 26 (by omega) (by omega)]; exact h.1.2.2
  · rw [z1 0 1 (by omega) (by omega)]; exact h.2.1
theorem pe_38 {s : Nat} (hi : i < 3) (h16 : S 37 i ≤ 16) (hs : s < S 37 i) : pe_ S 38 (16 * i + s) ∧ pe_ S 39 (16 * i + s) ∧ pe_ S 40 (16 * i + s) := by
  have e1 : (16 * i + s) / 16 = i := by omega
  have e2 : (16 * i + s) % 16 = s := by omega
  unfold pe_
  refine ⟨?_, ?_, ?_⟩
  · refine Or.inr (Or.inr (Or.inr (Or.inr (Or.inr (Or.inr (Or.inr (Or.inr (Or.inr (Or.inr (Or.inr (Or.inl ⟨by omega, by omega, ?_⟩)))))))))))
    rw [e1, e2]; exact hs
  · refine Or.inr (Or.inr (Or.inr (Or.inr (Or.inr (Or.inr (Or.inr (Or.inr (Or.inr (Or.inr (Or.inr (Or.inl ⟨by omega, by omega, ?_⟩)))))))))))
    rw [e1, e2]; exact hs
  · refine Or.inr (Or.inr (Or.inr (Or.inr (Or.inr (Or.inr (Or.inr (Or.inr (Or.inr (Or.inr (Or.inr (Or.inl ⟨by omega, by omega, ?_⟩)))))))))))
    rw [e1, e2]; exact hs
theorem pe_41 {q : Nat} (hi : i < 3) (hk : S 36 i = 1) (hq : q < 6) : pe_ S 41 (6 * i + q) ∧ pe_ S 42 (6 * i + q) := by
  have e1 : (6 * i + q) / 6 = i := by omega
  unfold pe_
  refine ⟨?_, ?_⟩
  · refine Or.inr (Or.inr (Or.inr (Or.inr (Or.inr (Or.inr (Or.inr (Or.inr (Or.inr (Or.inr (Or.inr (Or.inr ⟨by omega, by omega, ?_⟩)))))))))))
    rw [e1]; exact hk
  · refine Or.inr (Or.inr (Or.inr (Or.inr (Or.inr (Or.inr (Or.inr (Or.inr (Or.inr (Or.inr (Or.inr (Or.inr ⟨by omega, by omega, ?_⟩)))))))))))
    rw [e1]; exact hk
theorem q_again2 (hi : i < 3) (hk1 : S 36 i = 1) (hr : rt_ S nv vs M) : ∀ (e k n : Nat) (Z : mm_M), k + e = 6 → e < n → af_ S i M (S 37 i) k Z → wp_ (f_X12_again_99l n (Int32.ofNat i) (Int32.ofNat k) Z) (fun z => z.1 = 1 ∧ rt_ (ag_ S i) nv vs z.2) := by
  intro e
  induction e with
  | zero =>
    intro k n Z hk hn hz
    obtain ⟨m, rfl⟩ : ∃ m, n = m + 1 := ⟨n - 1, by omega⟩
    unfold f_X12_again_99l f_X12_again_99
    rw [if_pos (show (6 : Int32) ≤ Int32.ofNat k from (n3_le (a := 6) (by omega) (by omega)).mpr (by omega))]
    exact wp_some ⟨rfl, rt_ag hr (by rw [show k = 6 by omega] at hz; exact hz)⟩
  | succ e ih =>
    intro k n Z hk hn hz
    obtain ⟨m, rfl⟩ : ∃ m, n = m + 1 := ⟨n - 1, by omega⟩
    obtain ⟨z1, z2, z5, z6⟩ := hz
    have e1 : Int32.ofNat k + 1 = Int32.ofNat (k + 1) := n3_add k 1
    have e2 : (6 : Int32) * Int32.ofNat i + Int32.ofNat k = Int32.ofNat (6 * i + k) := by rw [show (6 : Int32) = Int32.ofNat 6 from rfl, n3_mul, n3_add]
    have hix : ix_ok (Int32.ofNat k) 6 := (n3_ix (by omega)).mpr (by omega)
    have hix2 : ix_ok (Int32.ofNat (6 * i + k)) 18 := (n3_ix (by omega)).mpr (by omega)
    have et : (Int32.ofNat k).toNatClampNeg = k := n3_tn (by omega)
    have et2 : (Int32.ofNat (6 * i + k)).toNatClampNeg = 6 * i + k := n3_tn (by omega)
    obtain ⟨p1, p2⟩ := pe_41 (S := S) hi hk1 (show k < 6 by omega)
    unfold f_X12_again_99l f_X12_again_99
    rw [if_neg (show ¬ ((6 : Int32) ≤ Int32.ofNat k) from fun hh => by have := (n3_le (a := 6) (by omega) (by omega)).mp hh; omega)]
    simp only [e2, et, et2]
    refine wp_ck hix2 (wp_ck hix (wp_sr (wp_ck hix2 (wp_ck hix (wp_sr (wp_sr ?_))))))
    rw [e1]
    refine ih (k + 1) m _ (by omega) (by omega) ⟨fun a b h1 h2 => ?_, z2, fun s h1 => ?_, fun q h1 => ?_⟩
    · rw [si_1, if_neg (by omega), si_1, if_neg (by omega)]; exact z1 a b h1 (by omega)
    · rw [si_1, if_neg (by omega), si_1, if_neg (by omega), si_1, if_neg (by omega), si_1, if_neg (by omega), si_1, if_neg (by omega), si_1, if_neg (by omega)]; exact z5 s h1
    · by_cases c : q = k
      · subst c
        constructor
        · rw [si_1, if_neg (by omega), si_1, if_pos ⟨rfl, rfl⟩, z1 41 _ (by omega) (by omega)]; exact hr.1.1 _ _ p1
        · rw [si_1, if_pos ⟨rfl, rfl⟩, si_1, if_neg (by omega), z1 42 _ (by omega) (by omega)]; exact hr.1.1 _ _ p2
      · obtain ⟨a1, a2⟩ := z6 q (by omega)
        constructor
        · rw [si_1, if_neg (by omega), si_1, if_neg (by omega)]; exact a1
        · rw [si_1, if_neg (by omega), si_1, if_neg (by omega)]; exact a2
theorem q_again1 (hw : wf_ S) (hi : i < 3) (hk1 : S 36 i = 1) (hr : rt_ S nv vs M) : ∀ (e k n : Nat) (Z : mm_M), k + e = S 37 i → e < n → af_ S i M k 0 Z → wp_ (f_X12_again_30l n (Int32.ofNat i) (Int32.ofNat k) Z) (fun z => z.1 = 1 ∧ rt_ (ag_ S i) nv vs z.2) := by
  have h16 := hw.signs
  have hks := hw.ks i hi
  have h37 : M.1 37 i = Int32.ofNat (S 37 i) := hr.1.1 37 i (by simp [pe_, hi])
  intro e
  induction e with
  | zero =>
    intro k n Z hk hn hz
    obtain ⟨m, rfl⟩ : ∃ m, n = m + 1 := ⟨n - 1, by omega⟩
    unfold f_X12_again_30l f_X12_again_30 f_X12_again_97
    refine wp_ck ((n3_ix (by omega)).mpr hi) ?_
    rw [n3_tn (by omega), hz.1 37 i (by omega) (by omega), h37, if_pos ((n3_le (by omega) (by omega)).mpr (by omega))]
    exact q_again2 hi hk1 hr 6 0 fu_ Z (by omega) (by unfold fu_; omega) (by rw [← show k = S 37 i by omega]; exact hz)
  | succ e ih =>
    intro k n Z hk hn hz
    obtain ⟨m, rfl⟩ : ∃ m, n = m + 1 := ⟨n - 1, by omega⟩
    obtain ⟨z1, z2, z5, z6⟩ := hz
    have e1 : Int32.ofNat k + 1 = Int32.ofNat (k + 1) := n3_add k 1
    have e2 : (16 : Int32) * Int32.ofNat i + Int32.ofNat k = Int32.ofNat (16 * i + k) := by rw [show (16 : Int32) = Int32.ofNat 16 from rfl, n3_mul, n3_add]
    have hix : ix_ok (Int32.ofNat k) 17 := (n3_ix (by omega)).mpr (by omega)
    have hix2 : ix_ok (Int32.ofNat (16 * i + k)) 48 := (n3_ix (by omega)).mpr (by omega)
    have et : (Int32.ofNat k).toNatClampNeg = k := n3_tn (by omega)
    have et2 : (Int32.ofNat (16 * i + k)).toNatClampNeg = 16 * i + k := n3_tn (by omega)
    obtain ⟨p1, p2, p3⟩ := pe_38 (S := S) hi (by omega) (show k < S 37 i by omega)
    have hko := hw.kon i hi k (by omega)
    unfold f_X12_again_30l f_X12_again_30
    refine wp_ck ((n3_ix (by omega)).mpr hi) ?_
    rw [n3_tn (a := i) (by omega), z1 37 i (by omega) (by omega), h37, if_neg (by rw [n3_le (by omega) (by omega)]; omega)]
    simp only [e2, et, et2]
    refine wp_ck hix2 (wp_ck hix (wp_sr (wp_ck hix2 (wp_ck hix (wp_sr (wp_ck hix2 (wp_ck hix (wp_sr (wp_sr ?_)))))))))
    rw [e1]
    refine ih (k + 1) m _ (by omega) (by omega) ⟨fun a b h1 h2 => ?_, z2, fun s h1 => ?_, fun q h1 => by omega⟩
    · rw [si_1, if_neg (by omega), si_1, if_neg (by omega), si_1, if_neg (by omega)]; exact z1 a b (by omega) h2
    · by_cases c : s = k
      · subst c
        refine ⟨?_, ?_, ?_⟩
        · rw [si_1, if_neg (by omega), si_1, if_neg (by omega), si_1, if_pos ⟨rfl, rfl⟩, z1 38 _ (by omega) (by omega), hr.1.1 _ _ p1]; exact nar_b hko.1
        · rw [si_1, if_neg (by omega), si_1, if_pos ⟨rfl, rfl⟩, si_1, if_neg (by omega), z1 39 _ (by omega) (by omega)]; exact hr.1.1 _ _ p2
        · rw [si_1, if_pos ⟨rfl, rfl⟩, si_1, if_neg (by omega), si_1, if_neg (by omega), z1 40 _ (by omega) (by omega)]; exact hr.1.1 _ _ p3
      · obtain ⟨a1, a2, a3⟩ := z5 s (by omega)
        refine ⟨?_, ?_, ?_⟩
        · rw [si_1, if_neg (by omega), si_1, if_neg (by omega), si_1, if_neg (by omega)]; exact a1
        · rw [si_1, if_neg (by omega), si_1, if_neg (by omega), si_1, if_neg (by omega)]; exact a2
        · rw [si_1, if_neg (by omega), si_1, if_neg (by omega), si_1, if_neg (by omega)]; exact a3
/-! the class -/
/-- k classes given back -/
def cgb_ (S : sg_) (i k : Nat) : sg_ := fun a b => if a = 3 ∧ b < k then S 42 (6 * i + b) else S a b
theorem cgb_o {k a b : Nat} (h : ¬ (a = 3 ∧ b < k)) : cgb_ S i k a b = S a b := by unfold cgb_; rw [if_neg h]
theorem cgb_3 {k b : Nat} (h : b < k) : cgb_ S i k 3 b = S 42 (6 * i + b) := by unfold cgb_; rw [if_pos ⟨rfl, h⟩]
theorem cgb_f {k a : Nat} (h : a ≠ 3) : cgb_ S i k a = S a := funext (fun b => cgb_o (by omega))
theorem cgb_ag : cgb_ S i 6 3 = ag_ S i 3 := by
  funext b
  by_cases c : b < 6
  · rw [cgb_3 c, ag_3 c]
  · rw [cgb_o (by omega), ag_o (by omega)]
def acf_ (S : sg_) (i : Nat) (M0 : mm_M) (k : Nat) (Z : mm_M) : Prop := (∀ a b, ¬ (a = 7 ∧ b < 6) → ¬ (8 ≤ a ∧ a < 14 ∧ 4 ≤ b ∧ b ≤ 6) → a ≠ 70 → ¬ (a = 5 ∧ b = 4) → Z.1 a b = M0.1 a b) ∧ Z.2 = M0.2 ∧
  (∃ W, Z.1 5 4 = Int32.ofNat W ∧ W ≤ M0.2.2 ∧ ∀ j, W * 6 ≤ j → j < 6 * M0.2.2 → Z.1 70 j = 0) ∧ (∀ c, c < 6 → Z.1 7 c = Int32.ofNat (cgb_ S i k 3 c)) ∧ (1 ≤ k → Z.1 5 4 = Int32.ofNat 1 ∧ (∀ j, j < 6 * M0.2.2 → Z.1 70 j = 0) ∧ ∀ l, l < S 0 11 → lo_ (cgb_ S i k) Z l)
theorem k_again_l (hw : wf_ S) (hi : i < 3) {Q : Int32 × mm_M → Prop} (hb : M0.2.2 ≤ 131072) (hb1 : 1 ≤ M0.2.2) (h5 : M0.1 5 1 = Int32.ofNat (S 0 11)) (hl : ∀ l, l < S 0 11 → M0.1 (8 + l) 0 = tg_ (S 6 l) ∧ M0.1 (8 + l) 1 = tg_ (S 8 l) ∧ M0.1 (8 + l) 2 = tg_ (S 9 l) ∧ M0.1 (8 + l) 3 = bc_ (S 7 l)) (h55 : ∀ k, k < 6 → M0.1 (55 + 5 * i) k = Int32.ofNat (S 42 (6 * i + k))) (hQ : ∀ Z, acf_ S i M0 6 Z → wp_ (f_X11_again_75 Z) Q) :
    ∀ (e k n : Nat) (Z : mm_M), k + e = 6 → e < n → acf_ S i M0 k Z → wp_ (f_X11_again_44l n (Int32.ofNat i) (Int32.ofNat k) Z) Q := by
  have h6 := hw.laws
  intro e
  induction e with
  | zero =>
    intro k n Z hk hn hz
    obtain ⟨m, rfl⟩ : ∃ m, n = m + 1 := ⟨n - 1, by omega⟩
    unfold f_X11_again_44l f_X11_again_44
    rw [if_pos (show (6 : Int32) ≤ Int32.ofNat k from (n3_le (a := 6) (by omega) (by omega)).mpr (by omega))]
    exact hQ Z (by rw [show k = 6 by omega] at hz; exact hz)
  | succ e ih =>
    intro k n Z hk hn hz
    obtain ⟨m, rfl⟩ : ∃ m, n = m + 1 := ⟨n - 1, by omega⟩
    obtain ⟨z1, z2, ⟨W, w1, w2, w3⟩, z4, -⟩ := hz
    have e1 : Int32.ofNat k + 1 = Int32.ofNat (k + 1) := n3_add k 1
    have hix3 : ix_ok (Int32.ofNat i) 3 := (n3_ix (by omega)).mpr hi
    have hix : ix_ok (Int32.ofNat k) 6 := (n3_ix (by omega)).mpr (by omega)
    have et : (Int32.ofNat k).toNatClampNeg = k := n3_tn (by omega)
    have eti : (Int32.ofNat i).toNatClampNeg = i := n3_tn (by omega)
    have ek : Z.1 (51 + 5 * i + 4) k = Int32.ofNat (S 42 (6 * i + k)) := by
      rw [show 51 + 5 * i + 4 = 55 + 5 * i by omega, z1 _ _ (by omega) (by omega) (by omega) (by omega)]; exact h55 k (by omega)
    unfold f_X11_again_44l f_X11_again_44
    rw [if_neg (show ¬ ((6 : Int32) ≤ Int32.ofNat k) from fun hh => by have := (n3_le (a := 6) (by omega) (by omega)).mp hh; omega)]
    refine wp_ck hix3 (wp_ck hix (wp_bd ?_))
    unfold f_X9_setClass
    refine wp_ck hix (wp_sr ?_)
    simp only [et, eti, ek]
    refine c_tunes (S := cgb_ S i (k + 1)) (M := mm_si Z 7 k (Int32.ofNat (S 42 (6 * i + k)))) (by rw [cgb_f (by omega)]; exact h6) (by rw [cgb_f (by omega), cgb_f (by omega)]; exact hw.goes) (by rw [cgb_f (by omega), cgb_f (by omega)]; exact hw.lf) (by rw [cgb_f (by omega), cgb_f (by omega)]; exact hw.rt) (fun Y y1 y2 y3 => ?_) ?_ (fun c hc => ?_) (fun l hl2 => ?_) (S 0 11) 0 fu_ _ (by rw [cgb_f (by omega)]; omega) (by unfold fu_; omega) (fun _ _ _ => rfl) rfl (fun l hl => by omega)
    · unfold f_X9_setClass_36
      have yy : ∀ a b, ¬ (8 ≤ a ∧ a < 14 ∧ 4 ≤ b ∧ b ≤ 6) → ¬ (a = 7) → Y.1 a b = Z.1 a b := fun a b h1 h2 => by rw [y1 a b h1, si_1, if_neg (by omega)]
      have y22 : Y.2 = M0.2 := by rw [y2]; exact z2
      refine wp_bd (wp_mo (c_forget (M := Y) (W := W) (by rw [yy 5 4 (by omega) (by omega)]; exact w1) (by rw [y22]; exact w2) (by rw [y22]; exact hb) (fun j h1 h2 => by rw [y22] at h2; rw [yy 70 j (by omega) (by omega)]; exact w3 j h1 h2)) (fun X hX => wp_some (wp_sr ?_)))
      obtain ⟨x1, x2, x3, x4⟩ := hX
      rw [y22] at x4
      rw [e1]
      have hcl : ∀ c, c < 6 → X.1 7 c = Int32.ofNat (cgb_ S i (k + 1) 3 c) := fun c hc => by
        rw [x1 7 c (by omega) (by omega), y1 7 c (by omega), si_1]
        by_cases c3 : c = k
        · rw [if_pos ⟨rfl, c3⟩, c3, cgb_3 (by omega)]
        · rw [if_neg (by omega), z4 c hc]
          by_cases c4 : c < k
          · rw [cgb_3 c4, cgb_3 (by omega)]
          · rw [cgb_o (by omega), cgb_o (by omega)]
      refine ih (k + 1) m X (by omega) (by omega) ⟨fun a b h1 h2 h3 h4 => ?_, by rw [x2]; exact y22, ⟨1, x3, ?_, fun j _ hj => x4 j hj⟩, hcl, fun _ => ⟨x3, x4, fun l hl2 => ?_⟩⟩
      · rw [x1 a b h3 h4, y1 a b h2, si_1, if_neg (by omega)]; exact z1 a b h1 h2 h3 h4
      · exact hb1
      · have hh := y3 l (by rw [cgb_f (by omega)]; exact hl2)
        unfold lo_ at hh ⊢
        rw [x1 _ _ (by omega) (by omega), x1 _ _ (by omega) (by omega), x1 _ _ (by omega) (by omega), x1 _ _ (by omega) (by omega), x1 _ _ (by omega) (by omega), x1 _ _ (by omega) (by omega), x1 _ _ (by omega) (by omega)]
        exact hh
    · rw [si_1, if_neg (by omega), cgb_f (by omega), z1 5 1 (by omega) (by omega) (by omega) (by omega)]; exact h5
    · rw [si_1]
      by_cases c3 : c = k
      · rw [if_pos ⟨rfl, c3⟩, c3, cgb_3 (by omega)]
      · rw [if_neg (by omega), z4 c hc]
        by_cases c4 : c < k
        · rw [cgb_3 c4, cgb_3 (by omega)]
        · rw [cgb_o (by omega), cgb_o (by omega)]
    · rw [cgb_f (by omega)] at hl2
      have hh := hl l hl2
      rw [cgb_f (a := 6) (by omega), cgb_f (a := 7) (by omega), cgb_f (a := 8) (by omega), cgb_f (a := 9) (by omega), si_1, if_neg (by omega), si_1, if_neg (by omega), si_1, if_neg (by omega), si_1, if_neg (by omega), z1 _ _ (by omega) (by omega) (by omega) (by omega), z1 _ _ (by omega) (by omega) (by omega) (by omega), z1 _ _ (by omega) (by omega) (by omega) (by omega), z1 _ _ (by omega) (by omega) (by omega) (by omega)]
      exact hh
end VK1
