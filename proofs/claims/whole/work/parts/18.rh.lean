/-! THE REFERENCE, its inner methods (8): the ROW, fractions, fits, wrongs -/
def fq_ (P : Nat → Nat → Prop) (Q : Nat → Prop) (M M' : mm_M) : Prop := (∀ a b, ¬ P a b → M'.1 a b = M.1 a b) ∧ (∀ a, ¬ Q a → M'.2.1 a = M.2.1 a) ∧ M'.2.2 = M.2.2
theorem fq_.refl {P : Nat → Nat → Prop} {Q : Nat → Prop} {M : mm_M} : fq_ P Q M M := ⟨fun _ _ _ => rfl, fun _ _ => rfl, rfl⟩
theorem fq_.trans {P : Nat → Nat → Prop} {Q : Nat → Prop} {M M1 M2 : mm_M} (h1 : fq_ P Q M M1) (h2 : fq_ P Q M1 M2) : fq_ P Q M M2 :=
  ⟨fun a b h => (h2.1 a b h).trans (h1.1 a b h), fun a h => (h2.2.1 a h).trans (h1.2.1 a h), h2.2.2.trans h1.2.2⟩
theorem fq_.mono {P P' : Nat → Nat → Prop} {Q Q' : Nat → Prop} {M M1 : mm_M} (h1 : fq_ P Q M M1) (h : ∀ a b, P a b → P' a b) (h' : ∀ a, Q a → Q' a) : fq_ P' Q' M M1 :=
  ⟨fun a b hn => h1.1 a b (fun hp => hn (h a b hp)), fun a hn => h1.2.1 a (fun hp => hn (h' a hp)), h1.2.2⟩
theorem fr_.fq {P : Nat → Nat → Prop} {Q : Nat → Prop} {M M1 : mm_M} (h : fr_ P M M1) : fq_ P Q M M1 := ⟨h.1, fun a _ => by rw [h.2], by rw [h.2]⟩
theorem fq_si {P : Nat → Nat → Prop} {Q : Nat → Prop} {M : mm_M} {k j : Nat} {v : Int32} (h : P k j) : fq_ P Q M (mm_si M k j v) := (fr_si h).fq
theorem fq_sl {P : Nat → Nat → Prop} {Q : Nat → Prop} {M : mm_M} {k j : Nat} {v : Int64} (h : Q k) : fq_ P Q M (mm_sl M k j v) :=
  ⟨fun _ _ _ => rfl, fun a hn => by funext b; rw [sl_2, if_neg]; intro hh; rw [hh.1] at hn; exact hn h, rfl⟩
theorem rs_.fq {S : sg_} {nv : Nat → Bool} {P : Nat → Nat → Prop} {Q : Nat → Prop} {M M' : mm_M} (h : rs_ S nv M) (hf : fq_ P Q M M') (hp : ∀ a b, P a b → ¬ pe_ S a b) (h25 : ¬ P 0 25) (h26 : ¬ P 0 26) : rs_ S nv M' :=
  ⟨h.1.fr (fun a b hpe => hf.1 a b (fun hn => hp a b hn hpe)), fun l hl => by rw [hf.1 0 25 h25]; exact h.2.1 l hl, by show M'.1 0 26 = -1; rw [hf.1 0 26 h26]; exact h.2.2⟩
theorem rr_.fq {vs : List Nat} {P : Nat → Nat → Prop} {Q : Nat → Prop} {M M' : mm_M} (h : rr_ vs M) (hf : fq_ P Q M M') (h1 : ¬ P 0 1) (h2 : ¬ Q 1) : rr_ vs M' :=
  ⟨by rw [hf.1 0 1 h1]; exact h.1, fun j v hv => by rw [hf.2.1 1 h2]; exact h.2 j v hv⟩
theorem rr_.fr {vs : List Nat} {P : Nat → Nat → Prop} {M M' : mm_M} (h : rr_ vs M) (hf : fr_ P M M') (h1 : ¬ P 0 1) : rr_ vs M' :=
  h.fq (Q := fun _ => False) hf.fq h1 id
/-- the reference between calls -/
def rt_ (S : sg_) (nv : Nat → Bool) (vs : List Nat) (M : mm_M) : Prop := rs_ S nv M ∧ rr_ vs M
theorem rt_.fr2 {S : sg_} {nv : Nat → Bool} {vs : List Nat} {M M' : mm_M} (h : rt_ S nv vs M) (hf : fr_ pw_s2 M M') : rt_ S nv vs M' :=
  ⟨h.1.fr2 hf, h.2.fr hf (by simp [pw_s2])⟩
theorem pe_0 {S : sg_} {b : Nat} (h : pe_ S 0 b) : b = 4 ∨ b = 8 ∨ b = 11 ∨ b = 28 := by
  unfold pe_ at h
  omega
/-- a scratch field of the reference is written -/
theorem rt_.si0 {S : sg_} {nv : Nat → Bool} {vs : List Nat} {M : mm_M} (h : rt_ S nv vs M) {j : Nat} {v : Int32} (hj : j ≠ 1 ∧ j ≠ 4 ∧ j ≠ 8 ∧ j ≠ 11 ∧ j ≠ 25 ∧ j ≠ 26 ∧ j ≠ 28) : rt_ S nv vs (mm_si M 0 j v) := by
  have hf : fr_ (fun a b => a = 0 ∧ b = j) M (mm_si M 0 j v) := fr_si ⟨rfl, rfl⟩
  refine ⟨h.1.fr hf (fun a b hab hp => ?_) (by omega) (by omega), h.2.fr hf (by omega)⟩
  obtain ⟨rfl, rfl⟩ := hab
  have := pe_0 hp
  omega
theorem rr_nil {S : sg_} {nv : Nat → Bool} {vs : List Nat} {M : mm_M} (h : rt_ S nv vs M) : rt_ S nv [] (mm_si M 0 1 0) := by
  have hf : fr_ (fun a b => a = 0 ∧ b = 1) M (mm_si M 0 1 0) := fr_si ⟨rfl, rfl⟩
  refine ⟨h.1.fr hf (fun a b hab hp => ?_) (by omega) (by omega), by rw [si_1, if_pos ⟨rfl, rfl⟩]; rfl, fun j v hv => by simp at hv⟩
  obtain ⟨rfl, rfl⟩ := hab
  have := pe_0 hp
  omega
def pw_en (a b : Nat) : Prop := a = 0 ∧ b = 1
section RH1
variable {S : sg_} {M : mm_M} {nv : Nat → Bool} {vs : List Nat}
theorem r_ent (h : rt_ S nv vs M) (hl : vs.length < 64) (v : Nat) : wp_ (f_X12_enters (Int64.ofNat v) M) (fun M' => rt_ S nv (vs ++ [v]) M' ∧ fq_ pw_en (fun a => a = 1) M M') := by
  unfold f_X12_enters
  rw [h.2.1]
  refine wp_ck ((n3_ix (by omega)).mpr hl) (wp_sr (wp_sr (wp_some ?_)))
  rw [n3_tn (by omega)]
  have hf : fq_ pw_en (fun a => a = 1) M (mm_si (mm_sl M 1 vs.length (Int64.ofNat v)) 0 1 ((mm_sl M 1 vs.length (Int64.ofNat v)).1 0 1 + 1)) := fq_.trans (fq_sl rfl) (fq_si ⟨rfl, rfl⟩)
  refine ⟨⟨h.1.fq hf (fun a b hab hp => ?_) (by simp [pw_en]) (by simp [pw_en]), ?_, ?_⟩, hf⟩
  · obtain ⟨rfl, rfl⟩ := hab
    have := pe_0 hp
    omega
  · rw [si_1, if_pos ⟨rfl, rfl⟩, sl_1, h.2.1]
    show Int32.ofNat _ + Int32.ofNat 1 = _
    rw [n3_add]; simp
  · intro j w hj
    rw [si_2, sl_2]
    by_cases c : j = vs.length
    · rw [if_pos ⟨rfl, c⟩]
      rw [c] at hj; simp at hj; rw [hj]
    · rw [if_neg (by simp [c])]
      have := lt_of_some hj
      simp at this
      rw [List.getElem?_append_left (by omega)] at hj
      exact h.2.2 j w hj
end RH1
/-! fractions -/
theorem gcd_step {a b : Nat} (hb : 0 < b) : b % (a % b) ≤ (b - 1) / 2 ∨ a % b = 0 := by
  have h1 := Nat.mod_lt a hb
  by_cases h0 : a % b = 0
  · exact Or.inr h0
  · left
    by_cases h2 : a % b ≤ b / 2
    · have := Nat.mod_lt b (show 0 < a % b by omega)
      omega
    · have h3 : b % (a % b) = b - a % b := by
        rw [Nat.mod_eq_sub_mod (by omega), Nat.mod_eq_of_lt (by omega)]
      omega
theorem n6_mod {a b : Nat} (ha : a < 9223372036854775808) (hb : b < 9223372036854775808) : Int64.ofNat a - Int64.ofNat a / Int64.ofNat b * Int64.ofNat b = Int64.ofNat (a % b) := by
  rw [n6_div ha hb, n6_mul, n6_sub (Nat.div_mul_le_self a b)]
  congr 1
  have := Nat.div_add_mod a b
  rw [Nat.mul_comm] at this
  omega
theorem n6_nz {b : Nat} (hb : b < 9223372036854775808) : (Int64.ofNat b = 0) ↔ b = 0 := n6_eq (b := 0) hb (by omega)
theorem r_common_l : ∀ (k a b n : Nat), b < 2 ^ k → 2 * k + 1 ≤ n → a < 9223372036854775808 → b < 9223372036854775808 → f_X12_common_6l n (Int64.ofNat a) (Int64.ofNat b) = some (Int64.ofNat (Nat.gcd a b)) := by
  intro k
  have base : ∀ (a m : Nat), a < 9223372036854775808 → f_X12_common_6l (m + 1) (Int64.ofNat a) (Int64.ofNat 0) = some (Int64.ofNat a) := by
    intro a m _
    unfold f_X12_common_6l f_X12_common_6
    rw [if_pos (by rfl)]
  have step : ∀ (a b m : Nat), 0 < b → a < 9223372036854775808 → b < 9223372036854775808 → f_X12_common_6l (m + 1) (Int64.ofNat a) (Int64.ofNat b) = f_X12_common_6l m (Int64.ofNat b) (Int64.ofNat (a % b)) := by
    intro a b m hb h1 h2
    have hz : ¬ (Int64.ofNat b = 0) := by rw [n6_nz h2]; omega
    conv => lhs; unfold f_X12_common_6l f_X12_common_6
    rw [if_neg hz, if_pos hz, n6_mod h1 h2]; rfl
  induction k with
  | zero =>
    intro a b n hb hn ha hb2
    obtain ⟨m, rfl⟩ : ∃ m, n = m + 1 := ⟨n - 1, by omega⟩
    have : b = 0 := by simp at hb; exact hb
    subst this
    rw [base a m ha, Nat.gcd_zero_right]
  | succ k ih =>
    intro a b n hb hn ha hb2
    obtain ⟨m, rfl⟩ : ∃ m, n = m + 1 := ⟨n - 1, by omega⟩
    by_cases c : b = 0
    · subst c; rw [base a m ha, Nat.gcd_zero_right]
    · have hl := Nat.mod_lt a (show 0 < b by omega)
      rw [step a b m (by omega) ha hb2, Nat.gcd_comm a b, Nat.gcd_rec b a, Nat.gcd_comm (a % b) b]
      obtain ⟨m', rfl⟩ : ∃ m', m = m' + 1 := ⟨m - 1, by omega⟩
      rcases gcd_step (a := a) (show 0 < b by omega) with h | h
      · by_cases c2 : a % b = 0
        · rw [c2, base b m' hb2, Nat.gcd_zero_right]
        · have hl2 := Nat.mod_lt b (show 0 < a % b by omega)
          rw [step b (a % b) m' (by omega) hb2 (by omega), Nat.gcd_comm b (a % b), Nat.gcd_rec (a % b) b, Nat.gcd_comm (b % (a % b)) (a % b)]
          have hp : 2 ^ (k + 1) = 2 * 2 ^ k := by rw [Nat.pow_succ]; omega
          exact ih (a % b) (b % (a % b)) m' (by omega) (by omega) (by omega) (by omega)
      · rw [h, base b m' hb2, Nat.gcd_zero_right]
theorem r_common {a b : Nat} (ha : a < 9223372036854775808) (hb : b < 9223372036854775808) : f_X12_common (Int64.ofNat a) (Int64.ofNat b) = some (Int64.ofNat (Nat.gcd a b)) :=
  r_common_l 63 a b fu_ (by omega) (by unfold fu_; omega) ha hb
theorem r_frac {S : sg_} {M : mm_M} {nv : Nat → Bool} {vs : List Nat} (h : rt_ S nv vs M) (hl : vs.length < 60) {a b : Nat} (ha : a < 9223372036854775808) (hb : b < 9223372036854775808) (h0 : 0 < b) :
    wp_ (f_X12_entersFraction (Int64.ofNat a) (Int64.ofNat b) M) (fun M' => rt_ S nv (vs ++ [a / Nat.gcd a b, b / Nat.gcd a b]) M' ∧ fq_ pw_en (fun a => a = 1) M M') := by
  have hg : 0 < Nat.gcd a b := Nat.gcd_pos_of_pos_right a h0
  have hg2 : Nat.gcd a b ≤ b := Nat.gcd_le_right a h0
  have hz : ¬ (Int64.ofNat (Nat.gcd a b) = 0) := by rw [n6_nz (by omega)]; omega
  unfold f_X12_entersFraction
  refine wp_be (r_common ha hb) (wp_ck hz ?_)
  rw [n6_div ha (by omega)]
  refine wp_bd (wp_mo (r_ent h (by omega) _) (fun z hz1 => wp_ck hz ?_))
  rw [n6_div hb (by omega)]
  refine wp_bd (wp_mo (r_ent hz1.1 (by simp; omega) _) (fun z2 hz2 => wp_some ⟨?_, hz1.2.trans hz2.2⟩))
  have := hz2.1
  rw [List.append_assoc] at this
  exact this
/-! fits, wrongs -/
def mk_b (f : Nat → Bool) : Nat → Int32
  | 0 => 0
  | n + 1 => mk_b f n ||| (if f n = true then 1 <<< (Int32.ofNat n &&& 31) else 0)
theorem mk_ib {f : Nat → Bool} : ∀ n, n ≤ 32 → ∀ i, i < 32 → ib_ (mk_b f n) i = (decide (i < n) && f i) := by
  intro n
  induction n with
  | zero => intro _ i _; rw [show mk_b f 0 = 0 from rfl, ib_0]; simp
  | succ n ih =>
    intro hn i hi
    rw [show mk_b f (n + 1) = mk_b f n ||| (if f n = true then 1 <<< (Int32.ofNat n &&& 31) else 0) from rfl, ib_or, ih (by omega) i hi]
    by_cases c : i = n
    · subst c
      cases h : f i
      · rw [if_neg (by decide), ib_0]; simp
      · rw [if_pos rfl, ib_shl i hi i hi]; simp
    · have e : decide (i < n + 1) = decide (i < n) := by
        apply decide_eq_decide.mpr; omega
      rw [e]
      cases h : f n
      · rw [if_neg (by decide), ib_0]; simp
      · rw [if_pos rfl, ib_shl n (by omega) i hi]; simp [c]
theorem mk_cg {f g : Nat → Bool} : ∀ n, (∀ i, i < n → f i = g i) → mk_b f n = mk_b g n := by
  intro n
  induction n with
  | zero => intro _; rfl
  | succ n ih =>
    intro h
    show mk_b f n ||| _ = mk_b g n ||| _
    rw [ih (fun i hi => h i (by omega)), h n (by omega)]
def wr_ (S : sg_) (nv : Nat → Bool) (h : Nat) : Int32 := mk_b (fun s => decide (S 26 s = 1) && !ho_n S nv s h) (S 0 28)
section RH2
variable {S : sg_} {M : mm_M} {nv : Nat → Bool} {vs : List Nat}
theorem on_ne (hw : wf_ S) {s : Nat} (hs : s < S 0 28) : (Int32.ofNat (S 26 s) = 0) ↔ ¬ (S 26 s = 1) := by
  have := hw.on s hs
  show (_ = Int32.ofNat 0) ↔ _
  rw [n3_eq (by omega) (by omega)]
  omega
theorem r_fit_l (hw : wf_ S) {h : Nat} (hh : h < 2147483648) : ∀ (d k : Nat) (M : mm_M) (n : Nat), k + d = S 0 28 → d < n → rs_ S nv M →
    wp_ (f_X12_isFit_2l n (Int32.ofNat h) (Int32.ofNat k) M) (fun z => fr_ pw_s2 M z.2 ∧ ∃ b, z.1 = bi_ b ∧ (b = true ↔ ∀ s, k ≤ s → s < S 0 28 → S 26 s = 1 → ho_n S nv s h = true)) := by
  have h16 := hw.signs
  intro d
  induction d with
  | zero =>
    intro k M n hk hn hI
    obtain ⟨m, rfl⟩ : ∃ m, n = m + 1 := ⟨n - 1, by omega⟩
    unfold f_X12_isFit_2l f_X12_isFit_2
    rw [hI.1.signs, if_pos ((n3_le (by omega) (by omega)).mpr (by omega))]
    exact wp_some ⟨fr_.refl, true, rfl, fun _ s h1 h2 => by omega, fun _ => rfl⟩
  | succ d ih =>
    intro k M n hk hn hI
    obtain ⟨m, rfl⟩ : ∃ m, n = m + 1 := ⟨n - 1, by omega⟩
    have hks : k < S 0 28 := by omega
    have e1 : Int32.ofNat k + 1 = Int32.ofNat (k + 1) := n3_add k 1
    unfold f_X12_isFit_2l f_X12_isFit_2 f_X12_isFit_30
    rw [hI.1.signs, if_neg (by rw [n3_le (by omega) (by omega)]; omega)]
    refine wp_ck ((n3_ix (by omega)).mpr (by omega)) ?_
    rw [n3_tn (by omega), (hI.1.sg hks).2.2.2.2.2.2]
    by_cases c : S 26 k = 1
    · rw [if_neg (by rw [on_ne hw hks]; exact fun h => h c)]
      refine wp_bd (wp_mo (r_heldS hI hw hks hh) (fun z hz => ?_))
      rw [hz.2]
      cases hb : ho_n S nv k h with
      | false =>
        rw [if_pos (by decide)]
        refine wp_some ⟨hz.1, false, rfl, fun hf => (by cases hf), fun hall => ?_⟩
        have := hall k (Nat.le_refl _) hks c
        rw [hb] at this; exact this
      | true =>
        rw [if_neg (by decide)]
        refine wp_sr ?_
        rw [e1]
        refine wp_mo (ih (k + 1) z.2 m (by omega) (by omega) (hI.fr2 hz.1)) (fun r hr => ⟨hz.1.trans hr.1, ?_⟩)
        obtain ⟨b, hb1, hb2⟩ := hr.2
        refine ⟨b, hb1, hb2.trans ⟨fun hall s h1 h2 h3 => ?_, fun hall s h1 h2 h3 => hall s (by omega) h2 h3⟩⟩
        by_cases hsk : s = k
        · rw [hsk]; exact hb
        · exact hall s (by omega) h2 h3
    · rw [if_pos (by rw [on_ne hw hks]; exact c)]
      refine wp_sr ?_
      rw [e1]
      refine wp_mo (ih (k + 1) M m (by omega) (by omega) hI) (fun r hr => ⟨hr.1, ?_⟩)
      obtain ⟨b, hb1, hb2⟩ := hr.2
      refine ⟨b, hb1, hb2.trans ⟨fun hall s h1 h2 h3 => ?_, fun hall s h1 h2 h3 => hall s (by omega) h2 h3⟩⟩
      by_cases hsk : s = k
      · rw [hsk] at h3; exact absurd h3 c
      · exact hall s (by omega) h2 h3
theorem ft_iff {h : Nat} : ft_n S nv h = true ↔ ∀ s, s < S 0 28 → S 26 s = 1 → ho_n S nv s h = true := by
  unfold ft_n
  rw [List.all_eq_true]
  constructor
  · intro hall s hs h1
    have := hall s (List.mem_range.mpr hs)
    simpa [h1] using this
  · intro hall s hs
    by_cases c : S 26 s = 1
    · simp [c, hall s (List.mem_range.mp hs) c]
    · simp [c]
theorem r_fit (hI : rs_ S nv M) (hw : wf_ S) {h : Nat} (hh : h < 2147483648) : wp_ (f_X12_isFit (Int32.ofNat h) M) (fun z => fr_ pw_s2 M z.2 ∧ z.1 = bi_ (ft_n S nv h)) := by
  have h16 := hw.signs
  unfold f_X12_isFit
  refine wp_mo (r_fit_l hw hh (S 0 28) 0 M fu_ (by omega) (by unfold fu_; omega) hI) (fun z hz => ⟨hz.1, ?_⟩)
  obtain ⟨b, hb1, hb2⟩ := hz.2
  rw [hb1]
  congr 1
  rw [Bool.eq_iff_iff, hb2, ft_iff]
  exact ⟨fun hall s h1 h2 => hall s (by omega) h1 h2, fun hall s _ h1 h2 => hall s h1 h2⟩
theorem r_wr_l (hw : wf_ S) {h : Nat} (hh : h < 2147483648) : ∀ (d k : Nat) (M : mm_M) (n : Nat), k + d = S 0 28 → d < n → rs_ S nv M →
    wp_ (f_X12_wrongs_4l n (Int32.ofNat h) (mk_b (fun s => decide (S 26 s = 1) && !ho_n S nv s h) k) (Int32.ofNat k) M) (fun z => fr_ pw_s2 M z.2 ∧ z.1 = wr_ S nv h) := by
  have h16 := hw.signs
  intro d
  induction d with
  | zero =>
    intro k M n hk hn hI
    obtain ⟨m, rfl⟩ : ∃ m, n = m + 1 := ⟨n - 1, by omega⟩
    have hkk : k = S 0 28 := by omega
    unfold f_X12_wrongs_4l f_X12_wrongs_4
    rw [hI.1.signs, if_pos ((n3_le (by omega) (by omega)).mpr (by omega))]
    exact wp_some ⟨fr_.refl, by rw [hkk]; rfl⟩
  | succ d ih =>
    intro k M n hk hn hI
    obtain ⟨m, rfl⟩ : ∃ m, n = m + 1 := ⟨n - 1, by omega⟩
    have hks : k < S 0 28 := by omega
    have e1 : Int32.ofNat k + 1 = Int32.ofNat (k + 1) := n3_add k 1
    have go : ∀ M' v, fr_ pw_s2 M M' → v = (if (decide (S 26 k = 1) && !ho_n S nv k h) = true then 1 <<< (Int32.ofNat k &&& 31) else 0) → wp_ (f_X12_wrongs_38 (f_X12_wrongs_4l m) (Int32.ofNat h) (Int32.ofNat k) (mk_b (fun s => decide (S 26 s = 1) && !ho_n S nv s h) k) v M') (fun z => fr_ pw_s2 M z.2 ∧ z.1 = wr_ S nv h) := by
      intro M' v hf hv
      unfold f_X12_wrongs_38
      refine wp_sr (wp_sr ?_)
      rw [e1, hv]
      exact wp_mo (ih (k + 1) M' m (by omega) (by omega) (hI.fr2 hf)) (fun r hr => ⟨hf.trans hr.1, hr.2⟩)
    unfold f_X12_wrongs_4l f_X12_wrongs_4 f_X12_wrongs_37
    rw [hI.1.signs, if_neg (by rw [n3_le (by omega) (by omega)]; omega)]
    refine wp_ck ((n3_ix (by omega)).mpr (by omega)) ?_
    rw [n3_tn (by omega), (hI.1.sg hks).2.2.2.2.2.2]
    by_cases c : S 26 k = 1
    · rw [if_neg (by rw [on_ne hw hks]; exact fun h => h c)]
      refine wp_bd (wp_mo (r_heldS hI hw hks hh) (fun z hz => ?_))
      rw [hz.2]
      cases hb : ho_n S nv k h with
      | false => rw [if_pos (by decide)]; exact go z.2 _ hz.1 (by rw [decide_eq_true c, hb]; rfl)
      | true => rw [if_neg (by decide)]; exact go z.2 _ hz.1 (by rw [hb]; simp)
    · rw [if_pos (by rw [on_ne hw hks]; exact c)]
      exact go M _ fr_.refl (by rw [decide_eq_false c]; rfl)
theorem r_wr (hI : rs_ S nv M) (hw : wf_ S) {h : Nat} (hh : h < 2147483648) : wp_ (f_X12_wrongs (Int32.ofNat h) M) (fun z => fr_ pw_s2 M z.2 ∧ z.1 = wr_ S nv h) := by
  have h16 := hw.signs
  exact r_wr_l hw hh (S 0 28) 0 M fu_ (by omega) (by unfold fu_; omega) hI
end RH2
