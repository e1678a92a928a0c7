/-! CALLS: rhymes, chance, fell -/
theorem rh_cm {S : sg_} {xs ys : List Nat} : rh_ S xs ys = rh_ S ys xs := by
  unfold rh_
  apply decide_eq_decide.mpr
  constructor
  · intro h; exact ⟨by rw [← h.2]; exact h.1, h.2.symm⟩
  · intro h; exact ⟨by rw [← h.2]; exact h.1, h.2.symm⟩
section UB1
variable {S : sg_} {M Mc Mr : mm_M} {vs : List Nat} {nv : Nat → Bool}
/-- words below k that rhyme with w -/
def rw_ (S : sg_) (w hi y p k : Nat) : List Nat := (List.range k).filter (fun v => decide (v ≠ w) && rh_ S (sd_ S w hi y p) (sd_ S v hi y p))
theorem rw_s {w hi y p k : Nat} : rw_ S w hi y p (k + 1) = rw_ S w hi y p k ++ (if (decide (k ≠ w) && rh_ S (sd_ S w hi y p) (sd_ S k hi y p)) = true then [k] else []) := by
  unfold rw_
  rw [List.range_succ, List.filter_append, List.filter_cons, List.filter_nil]
theorem rw_len {w hi y p k : Nat} : (rw_ S w hi y p k).length ≤ k := by
  have := List.length_filter_le (fun v => decide (v ≠ w) && rh_ S (sd_ S w hi y p) (sd_ S v hi y p)) (List.range k)
  rw [List.length_range] at this
  exact this
theorem rw_rv (hw : wf_ S) {w hi y p : Nat} : rv_ (rw_ S w hi y p (S 0 8)) := by
  have h20 := hw.words
  have hl := rw_len (S := S) (w := w) (hi := hi) (y := y) (p := p) (k := S 0 8)
  refine ⟨by omega, fun v hv => ?_⟩
  have := List.mem_range.mp (List.mem_filter.mp hv).1
  omega
theorem k_rhymes_l (hw : wf_ S) {w hi y p d : Nat} (hwd : w < S 0 8) {W : Nat} {pt : Nat → List Nat} (hd : d < W) (hp : pt d = pa_ S no_ hi y p) :
    ∀ (e k : Nat) (M : mm_M) (n : Nat), k + e = S 0 8 → e < n → cs_ S (rw_ S w hi y p k) M → tc_ S M W pt →
    wp_ (f_X11_rhymes_44l n (Int32.ofNat w) (Int32.ofNat d) (Int32.ofNat k) M) (fun z => z.1 = Int32.ofNat (rw_ S w hi y p (S 0 8)).length ∧ cs_ S (rw_ S w hi y p (S 0 8)) z.2) := by
  have h20 := hw.words
  intro e
  induction e with
  | zero =>
    intro k M n hk hn h ht
    obtain ⟨m, rfl⟩ : ∃ m, n = m + 1 := ⟨n - 1, by omega⟩
    have hkk : k = S 0 8 := by omega
    unfold f_X11_rhymes_44l f_X11_rhymes_44 f_X11_rhymes_93
    rw [h.2.1.words, if_pos ((n3_le (by omega) (by omega)).mpr (by omega))]
    rw [hkk] at h
    exact wp_some ⟨h.2.2.2.1, h⟩
  | succ e ih =>
    intro k M n hk hn h ht
    obtain ⟨m, rfl⟩ : ∃ m, n = m + 1 := ⟨n - 1, by omega⟩
    have e1 : Int32.ofNat k + 1 = Int32.ofNat (k + 1) := n3_add k 1
    have hkw : k < S 0 8 := by omega
    have hl := rw_len (S := S) (w := w) (hi := hi) (y := y) (p := p) (k := k)
    unfold f_X11_rhymes_44l f_X11_rhymes_44 f_X11_rhymes_87
    rw [h.2.1.words, if_neg (by rw [n3_le (by omega) (by omega)]; omega)]
    by_cases c : k = w
    · rw [if_pos (by rw [c])]
      refine wp_sr ?_
      rw [e1]
      refine ih (k + 1) M m (by omega) (by omega) ?_ ht
      rw [rw_s, if_neg (by simp [c]), List.append_nil]; exact h
    · rw [if_neg (by rw [n3_eq (by omega) (by omega)]; exact c)]
      have hrh := c_rhyme ht h.2.1 hw hd hwd hkw
      rw [hp, sa_sd, sa_sd] at hrh
      refine wp_be hrh ?_
      cases hb : rh_ S (sd_ S w hi y p) (sd_ S k hi y p) with
      | false =>
        rw [if_pos (by decide)]
        refine wp_sr ?_
        rw [e1]
        refine ih (k + 1) M m (by omega) (by omega) ?_ ht
        rw [rw_s, if_neg (by simp [hb]), List.append_nil]; exact h
      | true =>
        rw [if_neg (by decide), n3_6 (by omega)]
        refine wp_bd (wp_mo (h.add hw (by omega) k) (fun z hz => wp_sr ?_))
        rw [e1]
        refine ih (k + 1) z m (by omega) (by omega) ?_ (hz.2.2 W pt ht)
        rw [rw_s, if_pos (by simp [c, hb])]; exact hz.1
theorem q_rhymes_l (hw : wf_ S) {w hi y p : Nat} (hwd : w < S 0 8) (hh : hi < 2147483648) (hy : y < 601) (hp : p < 6) :
    ∀ (e k : Nat) (M : mm_M) (n : Nat), k + e = S 0 8 → e < n → rt_ S no_ (rw_ S w hi y p k) M →
    wp_ (f_X12_rhymes_40l n (Int32.ofNat w) (Int32.ofNat hi) (Int32.ofNat y) (Int32.ofNat p) (Int32.ofNat k) M) (fun z => z.1 = Int32.ofNat (rw_ S w hi y p (S 0 8)).length ∧ rt_ S no_ (rw_ S w hi y p (S 0 8)) z.2) := by
  have h20 := hw.words
  intro e
  induction e with
  | zero =>
    intro k M n hk hn h
    obtain ⟨m, rfl⟩ : ∃ m, n = m + 1 := ⟨n - 1, by omega⟩
    have hkk : k = S 0 8 := by omega
    unfold f_X12_rhymes_40l f_X12_rhymes_40 f_X12_rhymes_86
    rw [h.1.1.words, if_pos ((n3_le (by omega) (by omega)).mpr (by omega))]
    rw [hkk] at h
    exact wp_some ⟨h.2.1, h⟩
  | succ e ih =>
    intro k M n hk hn h
    obtain ⟨m, rfl⟩ : ∃ m, n = m + 1 := ⟨n - 1, by omega⟩
    have e1 : Int32.ofNat k + 1 = Int32.ofNat (k + 1) := n3_add k 1
    have hkw : k < S 0 8 := by omega
    have hl := rw_len (S := S) (w := w) (hi := hi) (y := y) (p := p) (k := k)
    unfold f_X12_rhymes_40l f_X12_rhymes_40 f_X12_rhymes_80
    rw [h.1.1.words, if_neg (by rw [n3_le (by omega) (by omega)]; omega)]
    refine wp_bd (wp_mo (r_both h.1 hw hwd hkw hh (by omega) hp) (fun z hz => ?_))
    obtain ⟨f1, s1, d0, d1⟩ := hz
    have hr2 := h.fr2 f1
    by_cases c : k = w
    · rw [if_pos (by rw [c])]
      refine wp_sr ?_
      rw [e1]
      refine ih (k + 1) z m (by omega) (by omega) ?_
      rw [rw_s, if_neg (by simp [c]), List.append_nil]; exact hr2
    · rw [if_neg (by rw [n3_eq (by omega) (by omega)]; exact c)]
      refine wp_be (r_rh hr2.1.1 (sd_ok hw hwd) (sd_ok hw hkw) d0 d1) ?_
      rw [sd_sd, sd_sd]
      cases hb : rh_ S (sd_ S w hi y p) (sd_ S k hi y p) with
      | false =>
        rw [if_pos (by decide)]
        refine wp_sr ?_
        rw [e1]
        refine ih (k + 1) z m (by omega) (by omega) ?_
        rw [rw_s, if_neg (by simp [hb]), List.append_nil]; exact hr2
      | true =>
        rw [if_neg (by decide), n3_6 (by omega)]
        refine wp_bd (wp_mo (r_ent hr2 (by omega) k) (fun z2 hz2 => wp_sr ?_))
        rw [e1]
        refine ih (k + 1) z2 m (by omega) (by omega) ?_
        rw [rw_s, if_pos (by simp [c, hb])]; exact hz2.1
theorem m_rhymes (h : rl_ Mc Mr) (x1 x2 x3 x4 : Int32) : bo_ (f_X11_rhymes x1 x2 x3 x4 Mc) (f_X12_rhymes x1 x2 x3 x4 Mr) := by
  obtain ⟨S, vs, hw, hv, hc, hr⟩ := h
  have hr1 := hr.th
  have hrl : rl_ Mc (mm_si Mr 0 0 0) := ⟨S, vs, hw, hv, hc, hr1⟩
  have h600 := hw.hist
  have h20 := hw.words
  unfold f_X11_rhymes f_X12_rhymes
  rw [sq_n (x := mm_si Mr 0 0 0), c_isWord hc.2.1 hw, c_isThen hc.2.1 hw, r_isWord hr1.1.1 hw, r_isHist hr1.1.1 hw, r_isThen]
  refine bo_g hrl (fun b1 => bo_gt hrl (fun b2 b3 => ?_))
  obtain ⟨w, rfl, hwd⟩ := lt_nat b1 (by omega)
  obtain ⟨hi, rfl, hhi⟩ := lt_nat b2 (by omega)
  obtain ⟨y, rfl, hy⟩ := lt_nat (and_t b3).1 (by omega)
  obtain ⟨p, rfl, hp⟩ := lt_nat (and_t b3).2 (by omega)
  refine bo_mk hw (rw_rv hw (w := w) (hi := hi) (y := y) (p := p)) ?_ ?_ (A := Int32.ofNat (rw_ S w hi y p (S 0 8)).length)
  · refine wp_bd (wp_mo (hc.at hw hhi (by omega) hp) (fun z hz => ?_))
    obtain ⟨hc1, W, pt, d, z1, z2, z3, z4⟩ := hz
    unfold f_X11_rhymes_32
    rw [z1]
    refine wp_sr ?_
    exact k_rhymes_l hw hwd z2 z3 (S 0 8) 0 _ fu_ (by omega) (by unfold fu_; omega) (hc1.clear hw) (clr_tc z4)
  · refine wp_sr ?_
    exact q_rhymes_l hw hwd (by omega) hy hp (S 0 8) 0 _ fu_ (by omega) (by unfold fu_; omega) (rr_nil hr1)
/-! chance: pairs are counted row by row, or column by column -/
def nb_ (f : Nat → Bool) : Nat → Nat
  | 0 => 0
  | n + 1 => nb_ f n + (if f n = true then 1 else 0)
/-- pairs b < a with a < k, and of a = k those with b < j -/
def cp_ (f : Nat → Nat → Bool) : Nat → Nat
  | 0 => 0
  | k + 1 => cp_ f k + nb_ (f k) k
/-- the same pairs, by the lesser word: of w those above it -/
def ab_ (f : Nat → Bool) (w n : Nat) : Nat := nb_ (fun i => f (w + 1 + i)) (n - (w + 1))
def cq_ (f : Nat → Nat → Bool) (n : Nat) : Nat → Nat
  | 0 => 0
  | w + 1 => cq_ f n w + ab_ (f w) w n
theorem nb_le {f : Nat → Bool} : ∀ n, nb_ f n ≤ n := by
  intro n
  induction n with
  | zero => exact Nat.le_refl _
  | succ n ih => unfold nb_; split <;> omega
theorem nb_cg {f g : Nat → Bool} : ∀ n, (∀ i, i < n → f i = g i) → nb_ f n = nb_ g n := by
  intro n
  induction n with
  | zero => intro _; rfl
  | succ n ih => intro h; unfold nb_; rw [ih (fun i hi => h i (by omega)), h n (by omega)]
theorem cq_s {f : Nat → Nat → Bool} : ∀ (k n : Nat), k ≤ n → cq_ f (n + 1) k = cq_ f n k + nb_ (fun w => f w n) k := by
  intro k
  induction k with
  | zero => intro n _; rfl
  | succ k ih =>
    intro n hk
    show cq_ f (n + 1) k + ab_ (f k) k (n + 1) = cq_ f n k + ab_ (f k) k n + (nb_ (fun w => f w n) k + (if f k n = true then 1 else 0))
    rw [ih n (by omega)]
    have e : ab_ (f k) k (n + 1) = ab_ (f k) k n + (if f k n = true then 1 else 0) := by
      unfold ab_
      rw [show n + 1 - (k + 1) = (n - (k + 1)) + 1 from by omega]
      show nb_ _ (n - (k + 1)) + (if f k (k + 1 + (n - (k + 1))) = true then 1 else 0) = _
      rw [show k + 1 + (n - (k + 1)) = n from by omega]
    rw [e]; omega
theorem cp_cq {f g : Nat → Nat → Bool} (h : ∀ a b, f a b = g b a) : ∀ n, cp_ f n = cq_ g n n := by
  intro n
  induction n with
  | zero => rfl
  | succ n ih =>
    show cp_ f n + nb_ (f n) n = cq_ g (n + 1) n + ab_ (g n) n (n + 1)
    rw [cq_s n n (Nat.le_refl _), ih]
    have e : ab_ (g n) n (n + 1) = 0 := by
      unfold ab_
      rw [show n + 1 - (n + 1) = 0 from by omega]; rfl
    rw [e, nb_cg n (fun i _ => h n i)]; rfl
theorem cp_le {f : Nat → Nat → Bool} : ∀ n, cp_ f n ≤ n * n := by
  intro n
  induction n with
  | zero => exact Nat.le_refl _
  | succ n ih =>
    show cp_ f n + nb_ (f n) n ≤ _
    have := nb_le (f := f n) n
    rw [Nat.add_mul, Nat.mul_add]
    omega
end UB1
