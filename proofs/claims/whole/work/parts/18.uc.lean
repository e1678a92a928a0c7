/-! CALLS: chance, fell -/
section UC1
variable {S : sg_} {M Mc Mr : mm_M} {vs : List Nat} {nv : Nat → Bool}
def rb_ (S : sg_) (hi y p a b : Nat) : Bool := rh_ S (sd_ S a hi y p) (sd_ S b hi y p)
theorem k_ch_i (hw : wf_ S) {hi y p d : Nat} {W : Nat} {pt : Nat → List Nat} (hd : d < W) (hp : pt d = pa_ S no_ hi y p) (hI : ic_ S M) (ht : tc_ S M W pt) {w acc : Nat} (hwN : w < S 0 8) {q48 : Int32 → Int32 → Int32 → Int32 → mm_M → Option (Int32 × mm_M)} {Q : Int32 × mm_M → Prop}
    (hq : wp_ (q48 (Int32.ofNat (S 0 8)) (Int32.ofNat d) (Int32.ofNat (acc + ab_ (rb_ S hi y p w) w (S 0 8))) (Int32.ofNat (w + 1)) M) Q) :
    ∀ (e j n : Nat), w + 1 + j + e = S 0 8 → e < n → wp_ (f_X11_chance_61l q48 n (Int32.ofNat (S 0 8)) (Int32.ofNat d) (Int32.ofNat (acc + nb_ (fun i => rb_ S hi y p w (w + 1 + i)) j)) (Int32.ofNat w) (Int32.ofNat (w + 1 + j)) M) Q := by
  have h20 := hw.words
  intro e
  induction e with
  | zero =>
    intro j n hj hn
    obtain ⟨m, rfl⟩ : ∃ m, n = m + 1 := ⟨n - 1, by omega⟩
    unfold f_X11_chance_61l f_X11_chance_61 f_X11_chance_100
    rw [if_pos ((n3_le (by omega) (by omega)).mpr (by omega))]
    refine wp_sr ?_
    have e1 : Int32.ofNat w + 1 = Int32.ofNat (w + 1) := n3_add w 1
    rw [e1]
    unfold ab_ at hq
    rw [show S 0 8 - (w + 1) = j from by omega] at hq
    exact hq
  | succ e ih =>
    intro j n hj hn
    obtain ⟨m, rfl⟩ : ∃ m, n = m + 1 := ⟨n - 1, by omega⟩
    unfold f_X11_chance_61l f_X11_chance_61 f_X11_chance_91
    rw [if_neg (by rw [n3_le (by omega) (by omega)]; omega)]
    have hrh := c_rhyme ht hI hw hd hwN (show w + 1 + j < S 0 8 by omega)
    rw [hp, sa_sd, sa_sd] at hrh
    refine wp_be hrh ?_
    have e1 : Int32.ofNat (w + 1 + j) + 1 = Int32.ofNat (w + 1 + (j + 1)) := n3_add _ 1
    have go := ih (j + 1) m (by omega) (by omega)
    cases hb : rh_ S (sd_ S w hi y p) (sd_ S (w + 1 + j) hi y p) with
    | false =>
      rw [if_pos (by decide)]
      refine wp_sr (wp_sr ?_)
      rw [e1, show (0 : Int32) = Int32.ofNat 0 from rfl, n3_add]
      have e2 : nb_ (fun i => rb_ S hi y p w (w + 1 + i)) (j + 1) = nb_ (fun i => rb_ S hi y p w (w + 1 + i)) j := by
        show _ + (if rh_ S (sd_ S w hi y p) (sd_ S (w + 1 + j) hi y p) = true then 1 else 0) = _
        rw [hb, if_neg (by decide), Nat.add_zero]
      rw [e2] at go
      exact go
    | true =>
      rw [if_neg (by decide)]
      refine wp_sr (wp_sr ?_)
      rw [e1, show (1 : Int32) = Int32.ofNat 1 from rfl, n3_add]
      have e2 : nb_ (fun i => rb_ S hi y p w (w + 1 + i)) (j + 1) = nb_ (fun i => rb_ S hi y p w (w + 1 + i)) j + 1 := by
        show _ + (if rh_ S (sd_ S w hi y p) (sd_ S (w + 1 + j) hi y p) = true then 1 else 0) = _
        rw [hb, if_pos rfl]
      rw [e2, ← Nat.add_assoc] at go
      exact go
theorem k_ch_o (hw : wf_ S) (h2 : 2 ≤ S 0 8) {hi y p d : Nat} {W : Nat} {pt : Nat → List Nat} (hd : d < W) (hp : pt d = pa_ S no_ hi y p) (h : cs_ S vs M) (ht : tc_ S M W pt) :
    ∀ (e w n : Nat), w + e = S 0 8 → e < n → wp_ (f_X11_chance_48l n (Int32.ofNat (S 0 8)) (Int32.ofNat d) (Int32.ofNat (cq_ (rb_ S hi y p) (S 0 8) w)) (Int32.ofNat w) M)
      (fun z => z.1 = 0 ∧ cs_ S [cq_ (rb_ S hi y p) (S 0 8) (S 0 8) / Nat.gcd (cq_ (rb_ S hi y p) (S 0 8) (S 0 8)) (S 0 8 * (S 0 8 - 1) / 2), S 0 8 * (S 0 8 - 1) / 2 / Nat.gcd (cq_ (rb_ S hi y p) (S 0 8) (S 0 8)) (S 0 8 * (S 0 8 - 1) / 2)] z.2) := by
  have h20 := hw.words
  have hle : cq_ (rb_ S hi y p) (S 0 8) (S 0 8) ≤ S 0 8 * S 0 8 := by
    rw [← cp_cq (f := fun a b => rb_ S hi y p b a) (fun a b => rfl)]; exact cp_le _
  have h400 : S 0 8 * S 0 8 ≤ 20 * 20 := Nat.mul_le_mul h20 h20
  have hb : S 0 8 * (S 0 8 - 1) ≤ 20 * 20 := Nat.mul_le_mul h20 (by omega)
  have hb2 : 2 * 1 ≤ S 0 8 * (S 0 8 - 1) := Nat.mul_le_mul h2 (by omega)
  intro e
  induction e with
  | zero =>
    intro w n hk hn
    obtain ⟨m, rfl⟩ : ∃ m, n = m + 1 := ⟨n - 1, by omega⟩
    have hkk : w = S 0 8 := by omega
    unfold f_X11_chance_48l f_X11_chance_48 f_X11_chance_106
    rw [if_pos ((n3_le (by omega) (by omega)).mpr (by omega)), hkk]
    refine wp_sr ?_
    have e1 : Int32.ofNat (S 0 8) - 1 = Int32.ofNat (S 0 8 - 1) := n3_sub (b := 1) (by omega)
    have e2 : Int32.ofNat (S 0 8 * (S 0 8 - 1)) / 2 = Int32.ofNat (S 0 8 * (S 0 8 - 1) / 2) := n3_div (b := 2) (by omega) (by omega)
    rw [e1, n3_mul, e2, n3_6 (by omega), n3_6 (by omega)]
    refine wp_bd (wp_mo ((h.clear hw).frac hw (by simp) (by omega) (by omega) (by omega)) (fun z hz => wp_some ⟨rfl, hz.1⟩))
  | succ e ih =>
    intro w n hk hn
    obtain ⟨m, rfl⟩ : ∃ m, n = m + 1 := ⟨n - 1, by omega⟩
    unfold f_X11_chance_48l f_X11_chance_48
    rw [if_neg (by rw [n3_le (by omega) (by omega)]; omega)]
    refine wp_sr ?_
    have e1 : Int32.ofNat w + 1 = Int32.ofNat (w + 1 + 0) := n3_add w 1
    rw [e1]
    exact k_ch_i hw hd hp h.2.1 ht (by omega) (ih (w + 1) m (by omega) (by omega)) (S 0 8 - (w + 1)) 0 fu_ (by omega) (by unfold fu_; omega)
theorem q_ch_i (hw : wf_ S) {hi y p : Nat} (hh : hi < 2147483648) (hy : y < 601) (hp : p < 6) {a acc : Nat} (haN : a < S 0 8) {q40 : Int32 → Int32 → Int32 → Int32 → Int32 → mm_M → Option (Int32 × mm_M)} {Q : Int32 × mm_M → Prop}
    (hq : ∀ M', rt_ S no_ vs M' → wp_ (q40 (Int32.ofNat hi) (Int32.ofNat y) (Int32.ofNat p) (Int32.ofNat (acc + nb_ (rb_ S hi y p a) a)) (Int32.ofNat (a + 1)) M') Q) :
    ∀ (e j n : Nat) (M : mm_M), j + e = a → e < n → rt_ S no_ vs M → wp_ (f_X12_chance_52l q40 n (Int32.ofNat hi) (Int32.ofNat y) (Int32.ofNat p) (Int32.ofNat (acc + nb_ (rb_ S hi y p a) j)) (Int32.ofNat a) (Int32.ofNat j) M) Q := by
  have h20 := hw.words
  intro e
  induction e with
  | zero =>
    intro j n M hj hn h
    obtain ⟨m, rfl⟩ : ∃ m, n = m + 1 := ⟨n - 1, by omega⟩
    have hja : j = a := by omega
    subst hja
    unfold f_X12_chance_52l f_X12_chance_52 f_X12_chance_88
    rw [if_pos (Int32.le_refl _)]
    refine wp_sr ?_
    have e1 : Int32.ofNat j + 1 = Int32.ofNat (j + 1) := n3_add j 1
    rw [e1]
    exact hq M h
  | succ e ih =>
    intro j n M hj hn h
    obtain ⟨m, rfl⟩ : ∃ m, n = m + 1 := ⟨n - 1, by omega⟩
    unfold f_X12_chance_52l f_X12_chance_52
    rw [if_neg (by rw [n3_le (by omega) (by omega)]; omega)]
    refine wp_bd (wp_mo (r_both h.1 hw haN (show j < S 0 8 by omega) hh (by omega) hp) (fun z hz => ?_))
    obtain ⟨f1, s1, d0, d1⟩ := hz
    have hr2 := h.fr2 f1
    refine wp_be (r_rh hr2.1.1 (sd_ok hw haN) (sd_ok hw (by omega)) d0 d1) ?_
    refine wp_sr (wp_sr (wp_sr ?_))
    have e1 : Int32.ofNat j + 1 = Int32.ofNat (j + 1) := n3_add j 1
    have go := ih (j + 1) m z (by omega) (by omega) hr2
    have e2 : Int32.ofNat (acc + nb_ (rb_ S hi y p a) j) + f_X12_truth (bi_ (rh_ S (sd_n S no_ a hi y p) (sd_n S no_ j hi y p))) = Int32.ofNat (acc + nb_ (rb_ S hi y p a) (j + 1)) := by
      rw [tr_bi]
      show _ = Int32.ofNat (acc + (nb_ (rb_ S hi y p a) j + (if rh_ S (sd_n S no_ a hi y p) (sd_n S no_ j hi y p) = true then 1 else 0)))
      cases rh_ S (sd_n S no_ a hi y p) (sd_n S no_ j hi y p) with
      | false => rw [if_neg (by decide), show bi_ false = Int32.ofNat 0 from rfl, n3_add]; rfl
      | true => rw [if_pos rfl, show bi_ true = Int32.ofNat 1 from rfl, n3_add]; rfl
    rw [e1, e2]
    exact go
theorem q_ch_o (hw : wf_ S) (h2 : 2 ≤ S 0 8) {hi y p : Nat} (hh : hi < 2147483648) (hy : y < 601) (hp : p < 6) :
    ∀ (e a n : Nat) (M : mm_M), a + e = S 0 8 → e < n → rt_ S no_ vs M → wp_ (f_X12_chance_40l n (Int32.ofNat hi) (Int32.ofNat y) (Int32.ofNat p) (Int32.ofNat (cp_ (rb_ S hi y p) a)) (Int32.ofNat a) M)
      (fun z => z.1 = 0 ∧ rt_ S no_ [cp_ (rb_ S hi y p) (S 0 8) / Nat.gcd (cp_ (rb_ S hi y p) (S 0 8)) (S 0 8 * (S 0 8 - 1) / 2), S 0 8 * (S 0 8 - 1) / 2 / Nat.gcd (cp_ (rb_ S hi y p) (S 0 8)) (S 0 8 * (S 0 8 - 1) / 2)] z.2) := by
  have h20 := hw.words
  have hle : cp_ (rb_ S hi y p) (S 0 8) ≤ S 0 8 * S 0 8 := cp_le _
  have h400 : S 0 8 * S 0 8 ≤ 20 * 20 := Nat.mul_le_mul h20 h20
  have hb : S 0 8 * (S 0 8 - 1) ≤ 20 * 20 := Nat.mul_le_mul h20 (by omega)
  have hb2 : 2 * 1 ≤ S 0 8 * (S 0 8 - 1) := Nat.mul_le_mul h2 (by omega)
  intro e
  induction e with
  | zero =>
    intro a n M hk hn h
    obtain ⟨m, rfl⟩ : ∃ m, n = m + 1 := ⟨n - 1, by omega⟩
    have hkk : a = S 0 8 := by omega
    unfold f_X12_chance_40l f_X12_chance_40 f_X12_chance_94
    rw [h.1.1.words, if_pos ((n3_le (by omega) (by omega)).mpr (by omega)), hkk]
    refine wp_sr ?_
    have hr2 := rr_nil h
    have e1 : Int32.ofNat (S 0 8) - 1 = Int32.ofNat (S 0 8 - 1) := n3_sub (b := 1) (by omega)
    have e2 : Int32.ofNat (S 0 8 * (S 0 8 - 1)) / 2 = Int32.ofNat (S 0 8 * (S 0 8 - 1) / 2) := n3_div (b := 2) (by omega) (by omega)
    rw [hr2.1.1.words, e1, n3_mul, e2, n3_6 (by omega), n3_6 (by omega)]
    refine wp_bd (wp_mo (r_frac hr2 (by simp) (by omega) (by omega) (by omega)) (fun z hz => wp_some ⟨rfl, hz.1⟩))
  | succ e ih =>
    intro a n M hk hn h
    obtain ⟨m, rfl⟩ : ∃ m, n = m + 1 := ⟨n - 1, by omega⟩
    unfold f_X12_chance_40l f_X12_chance_40
    rw [h.1.1.words, if_neg (by rw [n3_le (by omega) (by omega)]; omega)]
    exact q_ch_i hw hh hy hp (a := a) (by omega) (fun M' h' => ih (a + 1) m M' (by omega) (by omega) h') a 0 fu_ M (by omega) (by unfold fu_; omega) h
theorem m_chance (h : rl_ Mc Mr) (x1 x2 x3 : Int32) : bo_ (f_X11_chance x1 x2 x3 Mc) (f_X12_chance x1 x2 x3 Mr) := by
  obtain ⟨S, vs, hw, hv, hc, hr⟩ := h
  have hr1 := hr.th
  have hrl : rl_ Mc (mm_si Mr 0 0 0) := ⟨S, vs, hw, hv, hc, hr1⟩
  have h600 := hw.hist
  have h20 := hw.words
  unfold f_X11_chance f_X12_chance
  rw [sq_n (x := mm_si Mr 0 0 0), c_isThen hc.2.1 hw, r_isHist hr1.1.1 hw, r_isThen]
  refine bo_gt hrl (fun b2 b3 => ?_)
  obtain ⟨hi, rfl, hhi⟩ := lt_nat b2 (by omega)
  obtain ⟨y, rfl, hy⟩ := lt_nat (and_t b3).1 (by omega)
  obtain ⟨p, rfl, hp⟩ := lt_nat (and_t b3).2 (by omega)
  rw [sq_n, hc.2.1.words, hr1.1.1.words]
  have e2 : ((2 : Int32) ≤ Int32.ofNat (S 0 8)) ↔ 2 ≤ S 0 8 := n3_le (a := 2) (by omega) (by omega)
  by_cases c : 2 ≤ S 0 8
  · rw [if_pos (e2.mpr c), if_pos (e2.mpr c)]
    have hle : cp_ (rb_ S hi y p) (S 0 8) ≤ S 0 8 * S 0 8 := cp_le _
    have h400 : S 0 8 * S 0 8 ≤ 20 * 20 := Nat.mul_le_mul h20 h20
    have hb : S 0 8 * (S 0 8 - 1) ≤ 20 * 20 := Nat.mul_le_mul h20 (by omega)
    have hg := gcd_lt (a := cp_ (rb_ S hi y p) (S 0 8)) (b := S 0 8 * (S 0 8 - 1) / 2) (by omega) (by omega)
    have heq : cq_ (rb_ S hi y p) (S 0 8) (S 0 8) = cp_ (rb_ S hi y p) (S 0 8) := (cp_cq (f := rb_ S hi y p) (g := rb_ S hi y p) (fun a b => rh_cm) (S 0 8)).symm
    refine bo_mk (A := 0) hw ?_ ?_ (q_ch_o hw c (by omega) hy hp (S 0 8) 0 fu_ _ (by omega) (by unfold fu_; omega) hr1)
    · refine ⟨by simp, fun v hv => ?_⟩
      simp at hv
      rcases hv with hv | hv <;> rw [hv]
      · exact hg.1
      · exact hg.2
    · refine wp_bd (wp_mo (hc.at hw hhi (by omega) hp) (fun z hz => ?_))
      obtain ⟨hc1, W, pt, d, z1, z2, z3, z4⟩ := hz
      unfold f_X11_chance_40
      rw [z1]
      have := k_ch_o hw c z2 z3 hc1 z4 (S 0 8) 0 fu_ (by omega) (by unfold fu_; omega)
      rw [heq] at this
      exact this
  · rw [if_neg (fun h => c (e2.mp h)), if_neg (fun h => c (e2.mp h))]
    exact bo_no hrl
/-! fell -/
def mn_ (f : Nat → Bool) : Nat → Nat
  | 0 => 0
  | n + 1 => mn_ f n + (if f n = true then 2 ^ n else 0)
theorem mn_lt {f : Nat → Bool} : ∀ n, mn_ f n < 2 ^ n := by
  intro n
  induction n with
  | zero => exact Nat.one_pos
  | succ n ih => unfold mn_; rw [Nat.pow_succ]; split <;> omega
theorem mk_mn {f : Nat → Bool} : ∀ n, n ≤ 32 → mk_b f n = Int32.ofNat (mn_ f n) := by
  intro n
  induction n with
  | zero => intro _; rfl
  | succ n ih =>
    intro hn
    show mk_b f n ||| _ = Int32.ofNat (mn_ f n + _)
    rw [ih (by omega)]
    by_cases c : f n = true
    · rw [if_pos c, if_pos c, show (1 : Int32) = Int32.ofNat 1 from rfl, n3_shl (by omega), n3_or, Nat.or_comm, nt_or (mn_lt n), Nat.one_mul, Nat.add_comm]
    · rw [if_neg c, if_neg c, show (0 : Int32) = Int32.ofNat 0 from rfl, n3_or, Nat.or_zero, Nat.add_zero]
/-- the words that are said like word w -/
def lk_ (S : sg_) (hi y p w : Nat) : Int32 := mk_b (fun o => decide (sd_ S w hi y p = sd_ S o hi y p)) (S 0 8)
def fe_ (S : sg_) (hi y p : Nat) : Nat → Int32
  | 0 => 0
  | k + 1 => if f_J6_bitCount_0f7a4 (lk_ S hi y p k) ≤ f_J6_bitCount_0f7a4 (fe_ S hi y p k) then fe_ S hi y p k else lk_ S hi y p k
theorem fe_s {hi y p k : Nat} : fe_ S hi y p (k + 1) = if f_J6_bitCount_0f7a4 (lk_ S hi y p k) ≤ f_J6_bitCount_0f7a4 (fe_ S hi y p k) then fe_ S hi y p k else lk_ S hi y p k := rfl
theorem fe_nat (hw : wf_ S) {hi y p : Nat} : ∀ k, ∃ m, fe_ S hi y p k = Int32.ofNat m ∧ m < 1048576 := by
  have h20 := hw.words
  intro k
  induction k with
  | zero => exact ⟨0, rfl, by omega⟩
  | succ k ih =>
    unfold fe_
    split
    · exact ih
    · refine ⟨_, mk_mn _ (by omega), ?_⟩
      have h1 := mn_lt (f := fun o => decide (sd_ S k hi y p = sd_ S o hi y p)) (S 0 8)
      have h2 : 2 ^ S 0 8 ≤ 2 ^ 20 := Nat.pow_le_pow_right (n := 2) (by omega) h20
      omega
theorem k_like (hw : wf_ S) {hi y p d w : Nat} {W : Nat} {pt : Nat → List Nat} (hd : d < W) (hp : pt d = pa_ S no_ hi y p) (hI : ic_ S M) (ht : tc_ S M W pt) (hwd : w < S 0 8) :
    ∀ (e k n : Nat), k + e = S 0 8 → e < n → f_X9_saidLike_5l M n (Int32.ofNat d) (Int32.ofNat w) (mk_b (fun o => decide (sd_ S w hi y p = sd_ S o hi y p)) k) (Int32.ofNat k) = some (lk_ S hi y p w) := by
  have h20 := hw.words
  intro e
  induction e with
  | zero =>
    intro k n hk hn
    obtain ⟨m, rfl⟩ : ∃ m, n = m + 1 := ⟨n - 1, by omega⟩
    have hkk : k = S 0 8 := by omega
    unfold f_X9_saidLike_5l f_X9_saidLike_5
    rw [hI.words, if_pos ((n3_le (by omega) (by omega)).mpr (by omega)), hkk]; rfl
  | succ e ih =>
    intro k n hk hn
    obtain ⟨m, rfl⟩ : ∃ m, n = m + 1 := ⟨n - 1, by omega⟩
    have hkw : k < S 0 8 := by omega
    have e1 : Int32.ofNat k + 1 = Int32.ofNat (k + 1) := n3_add k 1
    have go := ih (k + 1) m (by omega) (by omega)
    unfold f_X9_saidLike_5l f_X9_saidLike_5 f_X9_saidLike_40
    rw [hI.words, if_neg (by rw [n3_le (by omega) (by omega)]; omega), c_form ht hw hd hkw, Option.bind_some, c_form ht hw hd hwd, Option.bind_some, hp, sa_sd, sa_sd]
    have o1 : ok_ (sd_ S k hi y p) := sd_ok hw hkw
    have o2 : ok_ (sd_ S w hi y p) := sd_ok hw hwd
    by_cases c : sd_ S w hi y p = sd_ S k hi y p
    · rw [if_pos (by rw [c]), sq_n, sq_n, e1]
      have e2 : mk_b (fun o => decide (sd_ S w hi y p = sd_ S o hi y p)) (k + 1) = mk_b (fun o => decide (sd_ S w hi y p = sd_ S o hi y p)) k ||| 1 <<< (Int32.ofNat k &&& 31) := by
        show _ ||| (if decide (sd_ S w hi y p = sd_ S k hi y p) = true then _ else _) = _
        rw [if_pos (decide_eq_true c)]
      rw [e2] at go
      exact go
    · rw [if_neg (fun he => c ((en_eq o1 o2).mp he).symm), sq_n, sq_n, e1]
      have e2 : mk_b (fun o => decide (sd_ S w hi y p = sd_ S o hi y p)) (k + 1) = mk_b (fun o => decide (sd_ S w hi y p = sd_ S o hi y p)) k ||| 0 := by
        show _ ||| (if decide (sd_ S w hi y p = sd_ S k hi y p) = true then _ else _) = _
        rw [if_neg (by rw [decide_eq_false c]; decide)]
      rw [e2] at go
      exact go
theorem k_fell_l (hw : wf_ S) {hi y p d : Nat} {W : Nat} {pt : Nat → List Nat} (hd : d < W) (hp : pt d = pa_ S no_ hi y p) (h : cs_ S vs M) (ht : tc_ S M W pt) :
    ∀ (e k n : Nat), k + e = S 0 8 → e < n → wp_ (f_X11_fell_42l n (Int32.ofNat d) (fe_ S hi y p k) (Int32.ofNat k) M) (fun z => z.1 = f_J6_bitCount_0f7a4 (fe_ S hi y p (S 0 8)) ∧ cs_ S [(fe_ S hi y p (S 0 8)).toNatClampNeg] z.2) := by
  have h20 := hw.words
  intro e
  induction e with
  | zero =>
    intro k n hk hn
    obtain ⟨m, rfl⟩ : ∃ m, n = m + 1 := ⟨n - 1, by omega⟩
    have hkk : k = S 0 8 := by omega
    unfold f_X11_fell_42l f_X11_fell_42 f_X11_fell_95
    rw [h.2.1.words, if_pos ((n3_le (by omega) (by omega)).mpr (by omega)), hkk]
    obtain ⟨q, hq, hq2⟩ := fe_nat hw (hi := hi) (y := y) (p := p) (S 0 8)
    rw [hq, n3_6 (by omega), n3_tn (by omega)]
    refine wp_sr (wp_bd (wp_mo ((h.clear hw).add hw (by simp) q) (fun z hz => wp_sr (wp_some ⟨rfl, hz.1⟩))))
  | succ e ih =>
    intro k n hk hn
    obtain ⟨m, rfl⟩ : ∃ m, n = m + 1 := ⟨n - 1, by omega⟩
    have e1 : Int32.ofNat k + 1 = Int32.ofNat (k + 1) := n3_add k 1
    have go := ih (k + 1) m (by omega) (by omega)
    unfold f_X11_fell_42l f_X11_fell_42 f_X11_fell_87
    rw [h.2.1.words, if_neg (by rw [n3_le (by omega) (by omega)]; omega)]
    refine wp_be (k_like hw hd hp h.2.1 ht (show k < S 0 8 by omega) (S 0 8) 0 fu_ (by omega) (by unfold fu_; omega)) (wp_sr (wp_sr ?_))
    rw [e1]
    rw [fe_s] at go
    by_cases c : f_J6_bitCount_0f7a4 (lk_ S hi y p k) ≤ f_J6_bitCount_0f7a4 (fe_ S hi y p k)
    · rw [if_pos c] at go ⊢; exact wp_sr go
    · rw [if_neg c] at go ⊢; exact wp_sr go
theorem q_fell_i (hw : wf_ S) {hi y p : Nat} (hh : hi < 2147483648) (hy : y < 601) (hp : p < 6) {w : Nat} (hwN : w < S 0 8) {x4 : Int32} {q29 : Int32 → Int32 → Int32 → Int32 → Int32 → mm_M → Option (Int32 × mm_M)} {Q : Int32 × mm_M → Prop}
    (hq : ∀ M', rt_ S no_ vs M' → wp_ (q29 (Int32.ofNat hi) (Int32.ofNat y) (Int32.ofNat p) (if f_J6_bitCount_0f7a4 (lk_ S hi y p w) ≤ f_J6_bitCount_0f7a4 x4 then x4 else lk_ S hi y p w) (Int32.ofNat (w + 1)) M') Q) :
    ∀ (e j n : Nat) (M : mm_M), j + e = S 0 8 → e < n → rt_ S no_ vs M → wp_ (f_X12_fell_44l q29 n (Int32.ofNat hi) (Int32.ofNat y) (Int32.ofNat p) x4 (Int32.ofNat w) (mk_b (fun o => decide (sd_ S w hi y p = sd_ S o hi y p)) j) (Int32.ofNat j) M) Q := by
  have h20 := hw.words
  intro e
  induction e with
  | zero =>
    intro j n M hj hn h
    obtain ⟨m, rfl⟩ : ∃ m, n = m + 1 := ⟨n - 1, by omega⟩
    have hja : j = S 0 8 := by omega
    unfold f_X12_fell_44l f_X12_fell_44 f_X12_fell_90 f_X12_fell_110
    rw [h.1.1.words, if_pos ((n3_le (by omega) (by omega)).mpr (by omega)), hja]
    refine wp_sr (wp_sr ?_)
    have e1 : Int32.ofNat w + 1 = Int32.ofNat (w + 1) := n3_add w 1
    have go := hq M h
    show wp_ (if f_J6_bitCount_0f7a4 (lk_ S hi y p w) ≤ f_J6_bitCount_0f7a4 x4 then _ else _) Q
    by_cases c : f_J6_bitCount_0f7a4 (lk_ S hi y p w) ≤ f_J6_bitCount_0f7a4 x4
    · rw [if_pos c] at go ⊢; refine wp_sr ?_; rw [e1]; exact go
    · rw [if_neg c] at go ⊢; refine wp_sr ?_; rw [e1]; exact go
  | succ e ih =>
    intro j n M hj hn h
    obtain ⟨m, rfl⟩ : ∃ m, n = m + 1 := ⟨n - 1, by omega⟩
    have hjw : j < S 0 8 := by omega
    unfold f_X12_fell_44l f_X12_fell_44 f_X12_fell_81
    rw [h.1.1.words, if_neg (by rw [n3_le (by omega) (by omega)]; omega)]
    refine wp_bd (wp_mo (r_both h.1 hw hwN hjw hh (by omega) hp) (fun z hz => ?_))
    obtain ⟨f1, s1, d0, d1⟩ := hz
    have hr2 := h.fr2 f1
    refine wp_be (r_al (sd_ok hw hwN) (sd_ok hw hjw) d0 d1) ?_
    have e1 : Int32.ofNat j + 1 = Int32.ofNat (j + 1) := n3_add j 1
    have go := ih (j + 1) m z (by omega) (by omega) hr2
    rw [sd_sd, sd_sd]
    by_cases c : sd_ S w hi y p = sd_ S j hi y p
    · rw [decide_eq_true c, if_neg (by decide)]
      refine wp_sr (wp_sr ?_)
      rw [e1]
      have e2 : mk_b (fun o => decide (sd_ S w hi y p = sd_ S o hi y p)) (j + 1) = mk_b (fun o => decide (sd_ S w hi y p = sd_ S o hi y p)) j ||| 1 <<< (Int32.ofNat j &&& 31) := by
        show _ ||| (if decide (sd_ S w hi y p = sd_ S j hi y p) = true then _ else _) = _
        rw [if_pos (decide_eq_true c)]
      rw [e2] at go
      exact go
    · rw [decide_eq_false c, if_pos (by decide)]
      refine wp_sr (wp_sr ?_)
      rw [e1]
      have e2 : mk_b (fun o => decide (sd_ S w hi y p = sd_ S o hi y p)) (j + 1) = mk_b (fun o => decide (sd_ S w hi y p = sd_ S o hi y p)) j ||| 0 := by
        show _ ||| (if decide (sd_ S w hi y p = sd_ S j hi y p) = true then _ else _) = _
        rw [if_neg (by rw [decide_eq_false c]; decide)]
      rw [e2] at go
      exact go
theorem q_fell_l (hw : wf_ S) (h0 : 0 < S 0 8) {hi y p : Nat} (hh : hi < 2147483648) (hy : y < 601) (hp : p < 6) :
    ∀ (e k n : Nat) (M : mm_M), k + e = S 0 8 → e < n → rt_ S no_ vs M → wp_ (f_X12_fell_29l n (Int32.ofNat hi) (Int32.ofNat y) (Int32.ofNat p) (fe_ S hi y p k) (Int32.ofNat k) M) (fun z => z.1 = f_J6_bitCount_0f7a4 (fe_ S hi y p (S 0 8)) ∧ rt_ S no_ [(fe_ S hi y p (S 0 8)).toNatClampNeg] z.2) := by
  have h20 := hw.words
  intro e
  induction e with
  | zero =>
    intro k n M hk hn h
    obtain ⟨m, rfl⟩ : ∃ m, n = m + 1 := ⟨n - 1, by omega⟩
    have hkk : k = S 0 8 := by omega
    unfold f_X12_fell_29l f_X12_fell_29 f_X12_fell_118 f_X12_fell_137
    rw [h.1.1.words, if_pos ((n3_le (by omega) (by omega)).mpr (by omega)), hkk, if_neg (by show ¬ (_ ≤ Int32.ofNat 0); rw [n3_le (by omega) (by omega)]; omega)]
    obtain ⟨q, hq, hq2⟩ := fe_nat hw (hi := hi) (y := y) (p := p) (S 0 8)
    rw [hq, n3_6 (by omega), n3_tn (by omega)]
    refine wp_sr (wp_bd (wp_mo (r_ent (rr_nil h) (by simp) q) (fun z hz => wp_sr (wp_some ⟨rfl, hz.1⟩))))
  | succ e ih =>
    intro k n M hk hn h
    obtain ⟨m, rfl⟩ : ∃ m, n = m + 1 := ⟨n - 1, by omega⟩
    unfold f_X12_fell_29l f_X12_fell_29
    rw [h.1.1.words, if_neg (by rw [n3_le (by omega) (by omega)]; omega)]
    exact q_fell_i hw hh hy hp (w := k) (by omega) (fun M' h' => ih (k + 1) m M' (by omega) (by omega) h') (S 0 8) 0 fu_ M (by omega) (by unfold fu_; omega) h
theorem m_fell (h : rl_ Mc Mr) (x1 x2 x3 : Int32) : bo_ (f_X11_fell x1 x2 x3 Mc) (f_X12_fell x1 x2 x3 Mr) := by
  obtain ⟨S, vs, hw, hv, hc, hr⟩ := h
  have hr1 := hr.th
  have hrl : rl_ Mc (mm_si Mr 0 0 0) := ⟨S, vs, hw, hv, hc, hr1⟩
  have h600 := hw.hist
  have h20 := hw.words
  unfold f_X11_fell f_X12_fell
  rw [sq_n (x := mm_si Mr 0 0 0), c_isThen hc.2.1 hw, r_isHist hr1.1.1 hw, r_isThen]
  refine bo_gt hrl (fun b2 b3 => ?_)
  obtain ⟨hi, rfl, hhi⟩ := lt_nat b2 (by omega)
  obtain ⟨y, rfl, hy⟩ := lt_nat (and_t b3).1 (by omega)
  obtain ⟨p, rfl, hp⟩ := lt_nat (and_t b3).2 (by omega)
  rw [hc.2.1.words]
  have e2 : (Int32.ofNat (S 0 8) = 0) ↔ S 0 8 = 0 := n3_eq (b := 0) (by omega) (by omega)
  by_cases c : S 0 8 = 0
  · rw [if_pos (e2.mpr c)]
    refine bo_mk (A := 0) hw hv (wp_some ⟨rfl, hc⟩) ?_
    unfold fu_ f_X12_fell_29l f_X12_fell_29 f_X12_fell_118 f_X12_fell_137
    rw [hr1.1.1.words, c, if_pos (by decide), if_pos (by decide)]
    exact wp_sr (wp_some ⟨show f_J6_bitCount_0f7a4 0 = 0 by decide, hr1⟩)
  · rw [if_neg (fun h => c (e2.mp h))]
    refine bo_mk hw ?_ ?_ (q_fell_l hw (by omega) (by omega) hy hp (S 0 8) 0 fu_ _ (by omega) (by unfold fu_; omega) hr1)
    · refine ⟨by simp, fun v hv => ?_⟩
      simp at hv
      rw [hv]
      have := n3_tl (fe_ S hi y p (S 0 8))
      omega
    · refine wp_bd (wp_mo (hc.at hw hhi (by omega) hp) (fun z hz => ?_))
      obtain ⟨hc1, W, pt, d, z1, z2, z3, z4⟩ := hz
      unfold f_X11_fell_34
      rw [z1]
      exact k_fell_l hw z2 z3 hc1 z4 (S 0 8) 0 fu_ (by omega) (by unfold fu_; omega)
end UC1
