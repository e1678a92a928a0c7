/-! WAYS by weights: the likeliest way -/
section WC1
variable {S : sg_} {M Mc Mr : mm_M} {vs : List Nat} {B : Nat → Bool} {w y p : Nat}
def wsf_ (ws : List (List Nat × Nat)) (i : Nat) : Nat := (ws.getD i ([], 0)).2
def wln_ (S : sg_) (B : Nat → Bool) (w y p k : Nat) : List (List Nat × Nat) := wl_ S w y p (wtt_ S B) (List.range k)
theorem wln_s {k : Nat} : wln_ S B w y p (k + 1) = wa_ (wln_ S B w y p k) (sd_ S w k y p) (wtt_ S B k) := by
  unfold wln_; rw [List.range_succ, wl_s]
theorem wln_p (hw : wf_ S) (hwd : w < S 0 8) (k : Nat) : (wln_ S B w y p k).length ≤ k ∧ (∀ q, q ∈ wln_ S B w y p k → ok_ q.1) ∧ (1 ≤ k → 1 ≤ (wln_ S B w y p k).length) :=
  wl_p hw hwd k (List.range k) (by simp)
theorem wln_sum : ∀ k q, q ∈ wln_ S B w y p k → q.2 ≤ sml_ (wtt_ S B) k := by
  intro k
  induction k with
  | zero => intro q hq; exact absurd hq (by simp [wln_, wl_])
  | succ k ih =>
    intro q hq
    rw [wln_s] at hq
    show q.2 ≤ sml_ (wtt_ S B) k + wtt_ S B k
    rcases wa_sp (xs := sd_ S w k y p) (w := wtt_ S B k) (wln_ S B w y p k) with ⟨pre, r, suf, h1, _, _, h4⟩ | ⟨_, h4⟩
    · rw [h4, List.mem_append, List.mem_cons] at hq
      rcases hq with hq | hq | hq
      · have := ih q (by rw [h1]; simp [hq]); omega
      · have := ih r (by rw [h1]; simp)
        rw [hq]; show r.2 + _ ≤ _; omega
      · have := ih q (by rw [h1]; simp [hq]); omega
    · rw [h4, List.mem_append, List.mem_singleton] at hq
      rcases hq with hq | hq
      · have := ih q hq; omega
      · rw [hq]; show wtt_ S B k ≤ _; omega
/-- the number of the likeliest way, and the way -/
def bsn_ (S : sg_) (B : Nat → Bool) (w y p : Nat) : Nat := abx_ (wsf_ (wln_ S B w y p (hs_ S))) ((wln_ S B w y p (hs_ S)).length - 1)
def bsq_ (S : sg_) (B : Nat → Bool) (w y p : Nat) : List Nat × Nat := (wln_ S B w y p (hs_ S)).getD (bsn_ S B w y p) ([], 0)
theorem bsn_lt (hw : wf_ S) (hwd : w < S 0 8) : bsn_ S B w y p < (wln_ S B w y p (hs_ S)).length := by
  have h1 := (wln_p (B := B) (y := y) (p := p) hw hwd (hs_ S)).2.2 (hs_pos hw)
  have h2 := abx_le (f := wsf_ (wln_ S B w y p (hs_ S))) ((wln_ S B w y p (hs_ S)).length - 1)
  unfold bsn_
  omega
theorem bsn_600 (hw : wf_ S) (hwd : w < S 0 8) : bsn_ S B w y p < 600 := by
  have h1 := bsn_lt (B := B) (y := y) (p := p) hw hwd
  have h2 := (wln_p (B := B) (y := y) (p := p) hw hwd (hs_ S)).1
  have := hw.hist
  omega
theorem bsq_at (hw : wf_ S) (hwd : w < S 0 8) : (wln_ S B w y p (hs_ S))[bsn_ S B w y p]? = some (bsq_ S B w y p) := by
  have h1 := bsn_lt (B := B) (y := y) (p := p) hw hwd
  unfold bsq_
  rw [List.getD_eq_getElem?_getD, List.getElem?_eq_getElem h1]; rfl
theorem bsq_ok (hw : wf_ S) (hwd : w < S 0 8) : ok_ (bsq_ S B w y p).1 :=
  (wln_p hw hwd (hs_ S)).2.1 _ (List.mem_of_getElem? (bsq_at hw hwd))
theorem bsq_lt (hw : wf_ S) (hwd : w < S 0 8) (hn : nb_ B (S 0 28) ≤ 12) : (bsq_ S B w y p).2 < 9223372036854775808 := by
  have h1 := wln_sum (hs_ S) _ (List.mem_of_getElem? (bsq_at (B := B) (y := y) (p := p) hw hwd))
  have h2 := (wts_b hw hn).2
  omega
/-- courses of all histories below k are known -/
def wkc_ (S : sg_) (y p k : Nat) (M : mm_M) : Prop := ∃ W pt, tc_ S M W pt ∧ ∀ h, h < k → ∃ d, M.1 66 h = Int32.ofNat d ∧ d < W ∧ pt d = pa_ S no_ h y p
theorem wkc_.fr {M' : mm_M} {k : Nat} (h : wkc_ S y p k M) (ht : ∀ W pt, tc_ S M W pt → tc_ S M' W pt) (h1 : M'.1 66 = M.1 66) : wkc_ S y p k M' := by
  obtain ⟨W, pt, h2, h3⟩ := h
  exact ⟨W, pt, ht W pt h2, fun q hq => by rw [h1]; exact h3 q hq⟩
theorem c_walk (hw : wf_ S) (hy : y < 601) (hp : p < 6) (hc : cs_ S vs M) : wp_ (f_X11_walkAll (Int32.ofNat y) (Int32.ofNat p) M) (fun z => cs_ S vs z ∧ wkc_ S y p (hs_ S) z ∧ z.2.1 67 = M.2.1 67) := by
  have h600 := hw.hist
  have h6 := hw.laws
  have key : ∀ (e k n : Nat) (M : mm_M), k + e = hs_ S → e < n → cs_ S vs M → wkc_ S y p k M → wp_ (f_X11_walkAll_2l n (Int32.ofNat y) (Int32.ofNat p) (Int32.ofNat k) M) (fun z => cs_ S vs z ∧ wkc_ S y p (hs_ S) z ∧ z.2.1 67 = M.2.1 67) := by
    intro e
    induction e with
    | zero =>
      intro k n M hk hn hc hg
      obtain ⟨m, rfl⟩ : ∃ m, n = m + 1 := ⟨n - 1, by omega⟩
      have hkk : k = hs_ S := by omega
      unfold f_X11_walkAll_2l f_X11_walkAll_2
      rw [hc.2.1.hs, if_pos ((n3_le (by omega) (by omega)).mpr (by omega))]
      rw [hkk] at hg
      exact wp_some ⟨hc, hg, rfl⟩
    | succ e ih =>
      intro k n M hk hn hc hg
      obtain ⟨m, rfl⟩ : ∃ m, n = m + 1 := ⟨n - 1, by omega⟩
      have e1 : Int32.ofNat k + 1 = Int32.ofNat (k + 1) := n3_add k 1
      obtain ⟨W, pt, ht, hcs⟩ := hg
      unfold f_X11_walkAll_2l f_X11_walkAll_2
      rw [hc.2.1.hs, if_neg (by rw [n3_le (by omega) (by omega)]; omega)]
      refine wp_bd (wp_mo (c_at ht hc.2.1 hw (show k < hs_ S by omega) (show y < 1073741824 by omega) hp) (fun z hz => ?_))
      obtain ⟨W1, pt1, d1, z1, z2, z3, z4, z5, z6⟩ := hz
      have hc1 := hc.fc hw z5 z6
      unfold f_X11_walkAll_28
      refine wp_ck ((n3_ix (by omega)).mpr (by omega)) (wp_sr (wp_sr ?_))
      rw [n3_tn (by omega), z1, e1]
      have ht2 : tc_ S (mm_si z.2 66 k (Int32.ofNat d1)) W1 pt1 := z6.si (k := 66) (by omega) (by omega)
      refine wp_mo (ih (k + 1) m _ (by omega) (by omega) (hc1.fk hw (P := fun a _ => a = 66) (Q := fun _ => False) (fk_si rfl) ht2 (fun a b hab => ⟨by unfold pc_; omega, by omega⟩) (fun a ha => ha.elim)) ⟨W1, pt1, ht2, ?_⟩) (fun r hr => ⟨hr.1, hr.2.1, ?_⟩)
      · intro h hh
        rw [si_1]
        by_cases c : h = k
        · rw [if_pos ⟨rfl, c⟩, c]; exact ⟨d1, rfl, z2, z3⟩
        · rw [if_neg (by simp [c]), z5.1 66 h (by omega) (by omega)]
          obtain ⟨d, q1, q2, q3⟩ := hcs h (by omega)
          exact ⟨d, q1, Nat.lt_of_lt_of_le q2 z4.1, by rw [z4.2 d q2]; exact q3⟩
      · rw [hr.2.2, si_2, z5.2 67 (by omega)]
  obtain ⟨⟨W, pt, ht⟩, -⟩ := id hc
  exact key (hs_ S) 0 fu_ M (by omega) (by unfold fu_; omega) hc ⟨W, pt, ht, fun h hh => by omega⟩
theorem k_heavy {ws : List (List Nat × Nat)} (hwc : wc_ M ws) (hl : ws.length ≤ 600) (h1 : 1 ≤ ws.length) (hb : ∀ q, q ∈ ws → q.2 < 9223372036854775808) : f_X10_heaviest M = some (Int32.ofNat (abx_ (wsf_ ws) (ws.length - 1))) := by
  have hat : ∀ i, i < ws.length → M.2.1 41 i = Int64.ofNat (wsf_ ws i) ∧ wsf_ ws i < 9223372036854775808 := by
    intro i hi
    have e : ws[i]? = some ws[i] := List.getElem?_eq_getElem hi
    have e2 : wsf_ ws i = ws[i].2 := by unfold wsf_; rw [List.getD_eq_getElem?_getD, e]; rfl
    rw [e2]
    exact ⟨(hwc.2 i _ e).2, hb _ (List.getElem_mem hi)⟩
  have key : ∀ (e k n : Nat), k + 1 + e = ws.length → e < n → f_X10_heaviest_4l M n (Int32.ofNat (abx_ (wsf_ ws) k)) (Int32.ofNat (k + 1)) = some (Int32.ofNat (abx_ (wsf_ ws) (ws.length - 1))) := by
    intro e
    induction e with
    | zero =>
      intro k n hk hn
      obtain ⟨m, rfl⟩ : ∃ m, n = m + 1 := ⟨n - 1, by omega⟩
      unfold f_X10_heaviest_4l f_X10_heaviest_4
      rw [hwc.1, if_pos ((n3_le (by omega) (by omega)).mpr (by omega)), show k = ws.length - 1 by omega]
    | succ e ih =>
      intro k n hk hn
      obtain ⟨m, rfl⟩ : ∃ m, n = m + 1 := ⟨n - 1, by omega⟩
      have e1 : Int32.ofNat (k + 1) + 1 = Int32.ofNat (k + 1 + 1) := n3_add (k + 1) 1
      have hle := abx_le (f := wsf_ ws) k
      have go := ih (k + 1) m (by omega) (by omega)
      have hs2 : abx_ (wsf_ ws) (k + 1) = if wsf_ ws (k + 1) ≤ wsf_ ws (abx_ (wsf_ ws) k) then abx_ (wsf_ ws) k else k + 1 := rfl
      have b1 := hat (k + 1) (by omega)
      have b2 := hat (abx_ (wsf_ ws) k) (by omega)
      unfold f_X10_heaviest_4l f_X10_heaviest_4 f_X10_heaviest_30
      rw [hwc.1, if_neg (by rw [n3_le (by omega) (by omega)]; omega), if_pos ((n3_ix (by omega)).mpr (by omega)), if_pos ((n3_ix (by omega)).mpr (by omega)), n3_tn (by omega), n3_tn (by omega), b1.1, b2.1]
      by_cases c : wsf_ ws (k + 1) ≤ wsf_ ws (abx_ (wsf_ ws) k)
      · rw [if_pos ((n6_le b1.2 b2.2).mpr c), sq_n, e1]
        rw [if_pos c] at hs2
        rw [hs2] at go
        exact go
      · rw [if_neg (fun hh => c ((n6_le b1.2 b2.2).mp hh)), sq_n, e1]
        rw [if_neg c] at hs2
        rw [hs2] at go
        exact go
  exact key (ws.length - 1) 0 fu_ (by omega) (by unfold fu_; omega)
theorem c10_clr : f_X10_clear M = mm_si M 39 2 0 := sq_n
theorem k_lway (hw : wf_ S) (hwd : w < S 0 8) (hn12 : nb_ B (S 0 28) ≤ 12) (hc : cs_ S vs M) (hk0 : wkc_ S y p (hs_ S) M) (hg0 : wgc_ S B (hs_ S) M) :
    wp_ (f_X11_likeliestWay (Int32.ofNat w) M) (fun z => z.1 = Int32.ofNat (bsn_ S B w y p) ∧ cs_ S vs z.2 ∧ wkc_ S y p (hs_ S) z.2 ∧ wgc_ S B (hs_ S) z.2 ∧ wc_ z.2 (wln_ S B w y p (hs_ S))) := by
  have h600 := hw.hist
  have key : ∀ (e k n : Nat) (M : mm_M), k + e = hs_ S → e < n → cs_ S vs M → wkc_ S y p (hs_ S) M → wgc_ S B (hs_ S) M → wc_ M (wln_ S B w y p k) →
      wp_ (f_X11_likeliestWay_9l n (Int32.ofNat w) (Int32.ofNat k) M) (fun z => z.1 = Int32.ofNat (bsn_ S B w y p) ∧ cs_ S vs z.2 ∧ wkc_ S y p (hs_ S) z.2 ∧ wgc_ S B (hs_ S) z.2 ∧ wc_ z.2 (wln_ S B w y p (hs_ S))) := by
    intro e
    induction e with
    | zero =>
      intro k n M hk hn hc hkc hg hwc
      obtain ⟨m, rfl⟩ : ∃ m, n = m + 1 := ⟨n - 1, by omega⟩
      have hkk : k = hs_ S := by omega
      rw [hkk] at hwc
      have hwp := wln_p (B := B) (y := y) (p := p) hw hwd (hs_ S)
      have hsm := wts_b (B := B) hw hn12
      unfold f_X11_likeliestWay_9l f_X11_likeliestWay_9 f_X11_likeliestWay_53
      rw [hc.2.1.hs, if_pos ((n3_le (by omega) (by omega)).mpr (by omega))]
      refine wp_be (k_heavy hwc (by omega) (hwp.2.2 (hs_pos hw)) (fun q hq => by have := wln_sum (hs_ S) q hq; omega)) ?_
      exact wp_some ⟨rfl, hc, hkc, hg, hwc⟩
    | succ e ih =>
      intro k n M hk hn hc hkc hg hwc
      obtain ⟨m, rfl⟩ : ∃ m, n = m + 1 := ⟨n - 1, by omega⟩
      have e1 : Int32.ofNat k + 1 = Int32.ofNat (k + 1) := n3_add k 1
      have hix : ix_ok (Int32.ofNat k) 600 := (n3_ix (by omega)).mpr (by omega)
      have hwp := wln_p (B := B) (y := y) (p := p) hw hwd k
      obtain ⟨W, pt, ht, hcs⟩ := id hkc
      obtain ⟨d, q1, q2, q3⟩ := hcs k (by omega)
      unfold f_X11_likeliestWay_9l f_X11_likeliestWay_9
      rw [hc.2.1.hs, if_neg (by rw [n3_le (by omega) (by omega)]; omega)]
      refine wp_ck hix ?_
      simp only [n3_tn (show k < 2147483648 by omega)]
      rw [q1]
      refine wp_be (c_form ht hw q2 hwd) (wp_ck hix ?_)
      rw [hg k (by omega), q3, sa_sd]
      refine wp_bd (wp_mo (k_wadd hw hc hwc hwp.2.1 (by omega) (sd_ok hw hwd) (wtt_ S B k)) (fun q hq => wp_sr ?_))
      rw [e1]
      refine ih (k + 1) m q (by omega) (by omega) hq.1 (hkc.fr hq.2.2.2 ?_) ?_ ?_
      · funext b; exact hq.2.2.1.1 66 b (by omega) (by omega) (by simp [pk_w])
      · intro h hh; rw [hq.2.2.1.2 67 (by omega) (by omega)]; exact hg h hh
      · rw [wln_s]; exact hq.2.1
  unfold f_X11_likeliestWay
  rw [c10_clr]
  refine wp_sr ?_
  have hf : fk_ pk_w (fun a => a = 40 ∨ a = 41) M (mm_si M 39 2 0) := fk_si (k := 39) rfl
  have ht : ∀ W pt, tc_ S M W pt → tc_ S (mm_si M 39 2 0) W pt := fun W pt h => h.si (k := 39) (by omega) (by omega)
  refine key (hs_ S) 0 fu_ _ (by omega) (by unfold fu_; omega) (hc.ways hw hf ht) (hk0.fr ht ?_) hg0 ⟨?_, fun i q hq => by simp [wln_, wl_] at hq⟩
  · funext b; rw [si_1, if_neg (by omega)]
  · rw [si_1, if_pos ⟨rfl, rfl⟩]; rfl
theorem wgq_.fr {M' : mm_M} {k : Nat} (h : wgq_ S k M) (h1 : M'.2.1 30 = M.2.1 30) : wgq_ S k M' := fun q hq => by rw [h1]; exact h q hq
theorem q_lway (hw : wf_ S) (hwd : w < S 0 8) (hy : y < 601) (hp : p < 6) (hn12 : nb_ (onb_ S) (S 0 28) ≤ 12) (hr : rt_ S no_ vs M) (hg : wgq_ S (hs_ S) M) :
    wp_ (f_X12_likeliest (Int32.ofNat w) (Int32.ofNat y) (Int32.ofNat p) M) (fun z => z.1 = Int32.ofNat (bsn_ S (onb_ S) w y p) ∧ rt_ S no_ vs z.2 ∧ wgq_ S (hs_ S) z.2 ∧ wq_ z.2 (wln_ S (onb_ S) w y p (hs_ S))) := by
  have h600 := hw.hist
  have hwp0 := wln_p (B := onb_ S) (y := y) (p := p) hw hwd (hs_ S)
  have hsm := wts_b (B := onb_ S) hw hn12
  have fin : ∀ M, rt_ S no_ vs M → wgq_ S (hs_ S) M → wq_ M (wln_ S (onb_ S) w y p (hs_ S)) → ∀ (e k n : Nat), k + 1 + e = (wln_ S (onb_ S) w y p (hs_ S)).length → e < n →
      wp_ (f_X12_likeliest_59l n (Int32.ofNat (abx_ (wsf_ (wln_ S (onb_ S) w y p (hs_ S))) k)) (Int32.ofNat (k + 1)) M) (fun z => z.1 = Int32.ofNat (bsn_ S (onb_ S) w y p) ∧ rt_ S no_ vs z.2 ∧ wgq_ S (hs_ S) z.2 ∧ wq_ z.2 (wln_ S (onb_ S) w y p (hs_ S))) := by
    intro M hr hg hwq
    have hat : ∀ i, i < (wln_ S (onb_ S) w y p (hs_ S)).length → M.2.1 29 i = Int64.ofNat (wsf_ (wln_ S (onb_ S) w y p (hs_ S)) i) ∧ wsf_ (wln_ S (onb_ S) w y p (hs_ S)) i < 9223372036854775808 := by
      intro i hi
      have e : (wln_ S (onb_ S) w y p (hs_ S))[i]? = some (wln_ S (onb_ S) w y p (hs_ S))[i] := List.getElem?_eq_getElem hi
      have e2 : wsf_ (wln_ S (onb_ S) w y p (hs_ S)) i = (wln_ S (onb_ S) w y p (hs_ S))[i].2 := by unfold wsf_; rw [List.getD_eq_getElem?_getD, e]; rfl
      rw [e2]
      have := wln_sum (hs_ S) _ (List.getElem_mem hi)
      exact ⟨(hwq.2 i _ e).2, by omega⟩
    intro e
    induction e with
    | zero =>
      intro k n hk hn
      obtain ⟨m, rfl⟩ : ∃ m, n = m + 1 := ⟨n - 1, by omega⟩
      unfold f_X12_likeliest_59l f_X12_likeliest_59
      rw [hwq.1, if_pos ((n3_le (by omega) (by omega)).mpr (by omega)), show k = (wln_ S (onb_ S) w y p (hs_ S)).length - 1 by omega]
      exact wp_some ⟨rfl, hr, hg, hwq⟩
    | succ e ih =>
      intro k n hk hn
      obtain ⟨m, rfl⟩ : ∃ m, n = m + 1 := ⟨n - 1, by omega⟩
      have e1 : Int32.ofNat (k + 1) + 1 = Int32.ofNat (k + 1 + 1) := n3_add (k + 1) 1
      have hle := abx_le (f := wsf_ (wln_ S (onb_ S) w y p (hs_ S))) k
      have go := ih (k + 1) m (by omega) (by omega)
      have hs2 : abx_ (wsf_ (wln_ S (onb_ S) w y p (hs_ S))) (k + 1) = if wsf_ (wln_ S (onb_ S) w y p (hs_ S)) (k + 1) ≤ wsf_ (wln_ S (onb_ S) w y p (hs_ S)) (abx_ (wsf_ (wln_ S (onb_ S) w y p (hs_ S))) k) then abx_ (wsf_ (wln_ S (onb_ S) w y p (hs_ S))) k else k + 1 := rfl
      have b1 := hat (k + 1) (by omega)
      have b2 := hat (abx_ (wsf_ (wln_ S (onb_ S) w y p (hs_ S))) k) (by omega)
      unfold f_X12_likeliest_59l f_X12_likeliest_59 f_X12_likeliest_93
      rw [hwq.1, if_neg (by rw [n3_le (by omega) (by omega)]; omega)]
      refine wp_ck ((n3_ix (by omega)).mpr (by omega)) (wp_ck ((n3_ix (by omega)).mpr (by omega)) ?_)
      rw [n3_tn (by omega), n3_tn (by omega), b1.1, b2.1]
      by_cases c : wsf_ (wln_ S (onb_ S) w y p (hs_ S)) (k + 1) ≤ wsf_ (wln_ S (onb_ S) w y p (hs_ S)) (abx_ (wsf_ (wln_ S (onb_ S) w y p (hs_ S))) k)
      · rw [if_pos ((n6_le b1.2 b2.2).mpr c)]
        rw [if_pos c] at hs2
        rw [hs2] at go
        refine wp_sr ?_
        rw [e1]; exact go
      · rw [if_neg (fun hh => c ((n6_le b1.2 b2.2).mp hh))]
        rw [if_neg c] at hs2
        rw [hs2] at go
        refine wp_sr ?_
        rw [e1]; exact go
  have key : ∀ (e k n : Nat) (M : mm_M), k + e = hs_ S → e < n → rt_ S no_ vs M → wgq_ S (hs_ S) M → wq_ M (wln_ S (onb_ S) w y p k) →
      wp_ (f_X12_likeliest_14l n (Int32.ofNat w) (Int32.ofNat y) (Int32.ofNat p) (Int32.ofNat (hs_ S)) (Int32.ofNat k) M) (fun z => z.1 = Int32.ofNat (bsn_ S (onb_ S) w y p) ∧ rt_ S no_ vs z.2 ∧ wgq_ S (hs_ S) z.2 ∧ wq_ z.2 (wln_ S (onb_ S) w y p (hs_ S))) := by
    intro e
    induction e with
    | zero =>
      intro k n M hk hn hr hg hwq
      obtain ⟨m, rfl⟩ : ∃ m, n = m + 1 := ⟨n - 1, by omega⟩
      have hkk : k = hs_ S := by omega
      rw [hkk] at hwq
      have h1 := hwp0.2.2 (hs_pos hw)
      unfold f_X12_likeliest_14l f_X12_likeliest_14 f_X12_likeliest_53
      rw [if_pos ((n3_le (by omega) (by omega)).mpr (by omega))]
      exact fin M hr hg hwq ((wln_ S (onb_ S) w y p (hs_ S)).length - 1) 0 fu_ (by omega) (by unfold fu_; omega)
    | succ e ih =>
      intro k n M hk hn hr hg hwq
      obtain ⟨m, rfl⟩ : ∃ m, n = m + 1 := ⟨n - 1, by omega⟩
      have e1 : Int32.ofNat k + 1 = Int32.ofNat (k + 1) := n3_add k 1
      have hwp := wln_p (B := onb_ S) (y := y) (p := p) hw hwd k
      unfold f_X12_likeliest_14l f_X12_likeliest_14
      rw [if_neg (by rw [n3_le (by omega) (by omega)]; omega)]
      refine wp_bd (wp_mo (r_sd (hand := 0) hr.1 hw hwd (by omega) (show k < 2147483648 by omega) (show y < 2147483648 by omega) hp) (fun z hz => ?_))
      have f1 : fr_ pw_s2 M z := hz.1.mono (fun a b hab => pw_sa2 hab)
      have ok1 : ok_ (sd_n S no_ w k y p) := sd_ok hw hwd
      refine wp_be (r_pk (hand := 0) (by omega) ok1 hz.2) (wp_ck ((n3_ix (by omega)).mpr (by omega)) ?_)
      have hg1 := hg.fr (M' := z) (by rw [f1.2])
      have hwq1 := hwq.fr (M' := z) (f1.1 0 42 (by simp [pw_s2])) (by rw [f1.2]) (by rw [f1.2])
      rw [n3_tn (by omega), hg1 k (by omega)]
      refine wp_bd (wp_mo (q_note hwq1 hwp.2.1 (by omega) ok1 (wtt_ S (onb_ S) k)) (fun u hu => wp_sr ?_))
      rw [e1]
      refine ih (k + 1) m u (by omega) (by omega) ((hr.fr2 f1).no hu.2) (hg1.fr (hu.2.2.1 30 (by omega))) ?_
      rw [wln_s]; exact hu.1
  unfold f_X12_likeliest
  refine wp_sr ?_
  have hr0 : rt_ S no_ vs (mm_si M 0 42 0) := hr.si0 (by omega)
  refine wp_be (r_hist hr0.1.1 hw) ?_
  refine key (hs_ S) 0 fu_ _ (by omega) (by unfold fu_; omega) hr0 hg ⟨?_, fun i q hq => by simp [wln_, wl_] at hq⟩
  rw [si_1, if_pos ⟨rfl, rfl⟩]; rfl
end WC1
