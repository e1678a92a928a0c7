/-! CALLS: word -/
section VH1
variable {S S' : sg_} {M Mc Mr : mm_M} {vs : List Nat} {nv : Nat → Bool} {W : Nat} {pt : Nat → List Nat}
/-- a small letter a .. p -/
def sn_ (t : Nat) : Bool := decide (97 ≤ t ∧ t ≤ 112)
theorem sn_1 {t : Nat} (h : sn_ t = true) : 97 ≤ t ∧ t ≤ 112 := of_decide_eq_true h
theorem c_sn {t : Nat} (ht : t < 256) : f_X8_isSound (Int32.ofNat t) = bi_ (sn_ t) := by
  unfold f_X8_isSound sn_
  have a1 : (Int32.ofNat t < 97) ↔ t < 97 := n3_lt (b := 97) (by omega) (by omega)
  have a2 : ((112 : Int32) < Int32.ofNat t) ↔ 112 < t := n3_lt (a := 112) (by omega) (by omega)
  by_cases c1 : t < 97
  · rw [if_pos (a1.mpr c1), decide_eq_false (by omega)]; rfl
  · rw [if_neg (fun h => c1 (a1.mp h))]
    by_cases c2 : 112 < t
    · rw [if_pos (a2.mpr c2), decide_eq_false (by omega)]; rfl
    · rw [if_neg (fun h => c2 (a2.mp h)), decide_eq_true (by omega)]; rfl
theorem r_int {t a b : Nat} (ht : t < 256) (ha : a < 2147483648) (hb : b < 2147483648) : f_X12_in (Int32.ofNat t).toInt64 (Int64.ofNat a) (Int64.ofNat b) = bi_ (decide (a ≤ t ∧ t ≤ b)) := by
  rw [in_b ha hb, n3_ti (by omega)]
  congr 1
  by_cases c : a ≤ t ∧ t ≤ b
  · rw [decide_eq_true c, decide_eq_true (by omega)]
  · rw [decide_eq_false c, decide_eq_false (by omega)]
theorem ex_stop {P : Nat → Bool} : ∀ m, ∃ j, j ≤ m ∧ (∀ i, i < j → P i = true) ∧ (j = m ∨ (j < m ∧ P j = false)) := by
  intro m
  induction m with
  | zero => exact ⟨0, by omega, fun i hi => by omega, Or.inl rfl⟩
  | succ m ih =>
    obtain ⟨j, h1, h2, h3⟩ := ih
    rcases h3 with h3 | h3
    · cases hb : P j with
      | false => exact ⟨j, by omega, h2, Or.inr ⟨by omega, hb⟩⟩
      | true => exact ⟨j + 1, by omega, fun i hi => by
          by_cases c : i = j
          · rw [c]; exact hb
          · exact h2 i (by omega), Or.inl (by omega)⟩
    · exact ⟨j, by omega, h2, Or.inr ⟨by omega, h3.2⟩⟩
/-- reading one sound -/
theorem q_sound {Z : mm_M} {k m : Nat} {t : Nat → Nat} (h5 : Z.1 0 5 = Int32.ofNat k) (h6 : Z.1 0 6 = Int32.ofNat m) (hm : m ≤ 40) (hk : k ≤ m) (ht : ∀ j, j < m → Z.1 2 j = Int32.ofNat (t j) ∧ t j < 256) :
    f_X12_sound Z = some (if k < m ∧ sn_ (t k) = true then (Int32.ofNat (t k - 97), mm_si Z 0 5 (Int32.ofNat (k + 1))) else (-1, Z)) := by
  unfold f_X12_sound
  rw [h5, h6]
  by_cases c : k < m
  · obtain ⟨t1, t2⟩ := ht k c
    rw [if_neg (by rw [n3_le (by omega) (by omega)]; omega), if_pos ((n3_ix (by omega)).mpr (by omega)), n3_tn (by omega), t1, show (97 : Int64) = Int64.ofNat 97 from rfl, show (112 : Int64) = Int64.ofNat 112 from rfl, r_int t2 (by omega) (by omega)]
    cases hb : sn_ (t k) with
    | false =>
      rw [if_neg (by simp), show decide (97 ≤ t k ∧ t k ≤ 112) = false from hb, sq_n, if_pos (by decide)]
    | true =>
      have hb2 := sn_1 hb
      have e1 : Int32.ofNat k + 1 = Int32.ofNat (k + 1) := n3_add k 1
      have e2 : Int32.ofNat (k + 1) - 1 = Int32.ofNat k := n3_sub (a := k + 1) (b := 1) (by omega)
      have e3 : Int32.ofNat (t k) - 97 = Int32.ofNat (t k - 97) := n3_sub (a := t k) (b := 97) (by omega)
      rw [if_pos ⟨c, rfl⟩, show decide (97 ≤ t k ∧ t k ≤ 112) = true from hb, sq_n, if_neg (by decide), sq_n, e1]
      have e5 : (mm_si Z 0 5 (Int32.ofNat (k + 1))).1 0 5 = Int32.ofNat (k + 1) := by rw [si_1, if_pos ⟨rfl, rfl⟩]
      have e6 : (mm_si Z 0 5 (Int32.ofNat (k + 1))).1 2 k = Int32.ofNat (t k) := by rw [si_1, if_neg (by omega)]; exact t1
      rw [e5, e2, if_pos ((n3_ix (by omega)).mpr (by omega)), n3_tn (by omega), e6, e3]
  · rw [if_pos ((n3_le (by omega) (by omega)).mpr (by omega)), if_neg (fun h => c h.1)]
theorem c_fnw (hI : ic_ S M) (hw : wf_ S) {j : Nat} (hj8 : j ≤ 8) (hjn : j ≤ S 0 4) (hs : ∀ i, i < j → sn_ (S 2 i) = true) (hst : S 0 4 ≤ j ∨ j = 8 ∨ sn_ (S 2 j) = false) :
    f_X8_firstNoWord M = some (if S 0 4 ≤ j ∧ S 0 4 ≠ 0 then -1 else Int32.ofNat j) := by
  have h40 := hw.tp
  have key : ∀ (e k n : Nat), k + e = j → e < n → f_X8_firstNoWord_2l M n (Int32.ofNat k) = some (if S 0 4 ≤ j ∧ S 0 4 ≠ 0 then -1 else Int32.ofNat j) := by
    intro e
    induction e with
    | zero =>
      intro k n hk hn
      obtain ⟨m, rfl⟩ : ∃ m, n = m + 1 := ⟨n - 1, by omega⟩
      have hkj : k = j := by omega
      subst hkj
      unfold f_X8_firstNoWord_2l f_X8_firstNoWord_2 f_X8_firstNoWord_36
      rw [hI.tp]
      by_cases c : S 0 4 ≤ k
      · rw [if_pos ((n3_le (by omega) (by omega)).mpr c)]
        by_cases c0 : S 0 4 = 0
        · rw [if_pos (by rw [c0]; rfl), if_neg (fun h => h.2 c0), show k = 0 by omega]; rfl
        · rw [if_neg (show ¬ (Int32.ofNat (S 0 4) = 0) from fun h => c0 ((n3_eq (b := 0) (by omega) (by omega)).mp h)), if_pos ⟨c, c0⟩]
      · rw [if_neg (by rw [n3_le (by omega) (by omega)]; exact c), if_neg (show ¬ (S 0 4 ≤ k ∧ S 0 4 ≠ 0) from fun h => c h.1)]
        by_cases c8 : k = 8
        · rw [if_pos (by rw [c8]; rfl)]
        · rw [if_neg (show ¬ (Int32.ofNat k = 8) from fun h => c8 ((n3_eq (b := 8) (by omega) (by omega)).mp h)), if_pos ((n3_ix (by omega)).mpr (by omega)), n3_tn (by omega), hI.tape k (by omega), c_sn (hw.tape k (by omega))]
          have hf : sn_ (S 2 k) = false := by
            rcases hst with h | h | h
            · omega
            · omega
            · exact h
          rw [hf, sq_n, if_pos (by decide)]
    | succ e ih =>
      intro k n hk hn
      obtain ⟨m, rfl⟩ : ∃ m, n = m + 1 := ⟨n - 1, by omega⟩
      have e1 : Int32.ofNat k + 1 = Int32.ofNat (k + 1) := n3_add k 1
      unfold f_X8_firstNoWord_2l f_X8_firstNoWord_2
      rw [hI.tp, if_neg (by rw [n3_le (by omega) (by omega)]; omega), if_neg (show ¬ (Int32.ofNat k = 8) from fun h => by have := (n3_eq (b := 8) (by omega) (by omega)).mp h; omega), if_pos ((n3_ix (by omega)).mpr (by omega)), n3_tn (by omega), hI.tape k (by omega), c_sn (hw.tape k (by omega)), hs k (by omega), sq_n, if_neg (by decide), sq_n, e1]
      exact ih (k + 1) m (by omega) (by omega)
  exact key j 0 fu_ (by omega) (by unfold fu_; omega)
/-- the text as sounds -/
def tw_ (S : sg_) (k : Nat) : List Nat := (List.range k).map (fun i => S 2 i - 97)
theorem tw_s (k : Nat) : tw_ S (k + 1) = tw_ S k ++ [S 2 k - 97] := by unfold tw_; rw [List.range_succ, List.map_append]; rfl
theorem tw_len (k : Nat) : (tw_ S k).length = k := by unfold tw_; simp
theorem tw_ok {k : Nat} (hs : ∀ i, i < k → sn_ (S 2 i) = true) : ∀ x, x ∈ tw_ S k → x < 16 := by
  intro x hx
  unfold tw_ at hx
  obtain ⟨i, hi, rfl⟩ := List.mem_map.mp hx
  have := sn_1 (hs i (List.mem_range.mp hi))
  omega
theorem c_asForm (hI : ic_ S M) (hw : wf_ S) (h8 : S 0 4 ≤ 8) (hs : ∀ i, i < S 0 4 → sn_ (S 2 i) = true) : f_X8_asForm M = some (Int64.ofNat (en_ (tw_ S (S 0 4)))) := by
  have key : ∀ (e k n : Nat), k + e = S 0 4 → e < n → f_X8_asForm_15l M n (Int32.ofNat (S 0 4)) (Int64.ofNat (ev_ (tw_ S k))) (Int32.ofNat k) = some (Int64.ofNat (en_ (tw_ S (S 0 4)))) := by
    intro e
    induction e with
    | zero =>
      intro k n hk hn
      obtain ⟨m, rfl⟩ : ∃ m, n = m + 1 := ⟨n - 1, by omega⟩
      have hkj : k = S 0 4 := by omega
      unfold f_X8_asForm_15l f_X8_asForm_15 f_X8_asForm_46
      rw [if_pos ((n3_le (by omega) (by omega)).mpr (by omega)), hkj, sq_n]
      have := c_ofl (xs := tw_ S (S 0 4)) ⟨by rw [tw_len]; exact h8, tw_ok hs⟩
      rw [tw_len] at this
      rw [this]
    | succ e ih =>
      intro k n hk hn
      obtain ⟨m, rfl⟩ : ∃ m, n = m + 1 := ⟨n - 1, by omega⟩
      have e1 : Int32.ofNat k + 1 = Int32.ofNat (k + 1) := n3_add k 1
      have hsn := sn_1 (hs k (by omega))
      have e3 : Int32.ofNat (S 2 k) - 97 = Int32.ofNat (S 2 k - 97) := n3_sub (a := S 2 k) (b := 97) (by omega)
      have ea : ((4 : Int32) * Int32.ofNat k).toInt64 = Int64.ofNat (4 * k) := by
        show (Int32.ofNat 4 * _).toInt64 = _
        rw [n3_mul, n3_6 (by omega)]
      have go := ih (k + 1) m (by omega) (by omega)
      have ev : ev_ (tw_ S (k + 1)) = ev_ (tw_ S k) + 16 ^ k * (S 2 k - 97) := by rw [tw_s, ev_app, tw_len, Nat.mul_comm]; omega
      have hlt := ev_lt (tw_ S k) (tw_ok (fun i hi => hs i (by omega)))
      rw [tw_len] at hlt
      unfold f_X8_asForm_15l f_X8_asForm_15
      rw [if_neg (by rw [n3_le (by omega) (by omega)]; omega), if_pos ((n3_ix (by omega)).mpr (by omega)), n3_tn (by omega), hI.tape k (by omega), e3, ea, n3_6 (by omega), n6_shl (by omega), n6_or, Nat.or_comm, nt_or (by rw [p16]; exact hlt), sq_n, sq_n, e1, p16, show (S 2 k - 97) * 16 ^ k + ev_ (tw_ S k) = ev_ (tw_ S (k + 1)) by rw [ev, Nat.mul_comm]; omega]
      exact go
  unfold f_X8_asForm
  rw [hI.tp, if_neg (show ¬ ((8 : Int32) < Int32.ofNat (S 0 4)) from fun h => by have := (n3_lt (a := 8) (by omega) (by omega)).mp h; omega), sq_n]
  exact key (S 0 4) 0 fu_ (by omega) (by unfold fu_; omega)
/-! a word more -/
def wm_ (S : sg_) : sg_ := fun a b => if a = 0 ∧ b = 8 then S 0 8 + 1 else if a = 0 ∧ b = 4 then 0 else if a = 5 ∧ b = S 0 8 then S 0 4 else if a = 4 ∧ b / 8 = S 0 8 then S 2 (b % 8) - 97 else S a b
theorem wm_8 : wm_ S 0 8 = S 0 8 + 1 := by unfold wm_; rw [if_pos ⟨rfl, rfl⟩]
theorem wm_4 : wm_ S 0 4 = 0 := by unfold wm_; rw [if_neg (by omega), if_pos ⟨rfl, rfl⟩]
theorem wm_5 : wm_ S 5 (S 0 8) = S 0 4 := by unfold wm_; rw [if_neg (by omega), if_neg (by omega), if_pos ⟨rfl, rfl⟩]
theorem wm_s {i : Nat} (hi : i < 8) : wm_ S 4 (8 * S 0 8 + i) = S 2 i - 97 := by
  unfold wm_
  rw [if_neg (by omega), if_neg (by omega), if_neg (by omega), if_pos ⟨rfl, by omega⟩, show (8 * S 0 8 + i) % 8 = i by omega]
theorem wm_o {a b : Nat} (h : ¬ (a = 0 ∧ (b = 8 ∨ b = 4)) ∧ ¬ (a = 5 ∧ b = S 0 8) ∧ ¬ (a = 4 ∧ b / 8 = S 0 8)) : wm_ S a b = S a b := by
  unfold wm_
  rw [if_neg (by omega), if_neg (by omega), if_neg h.2.1, if_neg h.2.2]
theorem wm_f {a : Nat} (h : a ≠ 0 ∧ a ≠ 5 ∧ a ≠ 4) : wm_ S a = S a := funext (fun b => wm_o (by omega))
theorem wm_wd {w : Nat} (hw : wf_ S) (h : w < S 0 8) : wd_w (wm_ S) w = wd_w S w := by
  have h1 := hw.sl w h
  unfold wd_w
  rw [wm_o (a := 5) (by omega)]
  apply List.map_congr_left
  intro i hi
  have := List.mem_range.mp hi
  exact wm_o (by omega)
theorem wm_wn (h8 : S 0 4 ≤ 8) : wd_w (wm_ S) (S 0 8) = tw_ S (S 0 4) := by
  unfold wd_w tw_
  rw [wm_5]
  apply List.map_congr_left
  intro i hi
  have := List.mem_range.mp hi
  exact wm_s (by omega)
theorem wm_yo : yo_ S (wm_ S) := ⟨wm_f (by omega), wm_f (by omega), wm_f (by omega), wm_o (by omega)⟩
theorem wm_sd {w : Nat} (hw : wf_ S) (h : w < S 0 8) (hh y p : Nat) : sd_n (wm_ S) nv w hh y p = sd_n S nv w hh y p := by
  unfold sd_n
  rw [wm_wd hw h]
  have e1 : pa_ (wm_ S) nv hh y p = pa_ S nv hh y p := by
    rw [pa_filter, pa_filter, wm_yo.or]
    congr 1
    funext l
    rw [wm_yo.yr, wm_f (a := 13) (by omega)]
  rw [e1]
  exact sa_cg _ _ (fun l _ ys => lw_go_cg (wm_f (by omega)) (by rw [wm_f (a := 6) (by omega)]) (by rw [wm_f (a := 7) (by omega)]) (by rw [wm_f (a := 8) (by omega)]) (by rw [wm_f (a := 9) (by omega)]) ys none)
theorem ho_k_y {kd nm : Nat} {xs ys zs : List Nat} (h : kd = 2 ∨ kd = 3) : ho_k S kd nm xs ys = ho_k S kd nm xs zs := by
  unfold ho_k
  rcases h with rfl | rfl
  · rw [if_neg (by omega), if_pos rfl, if_neg (by omega), if_pos rfl]
  · rw [if_neg (by omega), if_neg (by omega), if_pos rfl, if_neg (by omega), if_neg (by omega), if_pos rfl]
theorem wm_ho {s : Nat} (hw : wf_ S) (hs : s < S 0 28) (hh : Nat) : ho_n (wm_ S) nv s hh = ho_n S nv s hh := by
  unfold ho_n
  rw [wm_f (a := 18) (by omega), wm_f (a := 19) (by omega), wm_f (a := 20) (by omega), wm_f (a := 21) (by omega), wm_f (a := 22) (by omega), wm_f (a := 23) (by omega), wm_sd hw (hw.one s hs), ho_k_cg (wm_f (a := 3) (by omega))]
  by_cases c : S 18 s = 2 ∨ S 18 s = 3
  · exact ho_k_y c
  · rw [wm_sd hw (hw.oth s hs (by omega) (by omega)).1]
theorem wf_wm (hw : wf_ S) (h20 : S 0 8 < 20) (h1 : 1 ≤ S 0 4) (h8 : S 0 4 ≤ 8) (hs : ∀ i, i < S 0 4 → sn_ (S 2 i) = true) : wf_ (wm_ S) := by
  have e : ∀ x y, ¬ (x = 0 ∧ (y = 8 ∨ y = 4)) ∧ ¬ (x = 5 ∧ y = S 0 8) ∧ ¬ (x = 4 ∧ y / 8 = S 0 8) → wm_ S x y = S x y := fun x y h => wm_o h
  have ef : ∀ a, a ≠ 0 ∧ a ≠ 5 ∧ a ≠ 4 → wm_ S a = S a := fun a h => wm_f h
  refine ⟨?_, ?_, ?_, ?_, ?_, ?_, ?_, ?_, ?_, ?_, ?_, ?_, ?_, ?_, ?_, ?_, ?_, ?_, ?_, ?_, ?_, ?_, ?_, ?_, ?_, ?_, ?_, ?_, ?_⟩
  · rw [wm_4]; omega
  · intro j hj; rw [wm_4] at hj; omega
  · rw [ef 3 (by omega)]; exact hw.cl
  · rw [wm_8]; omega
  · intro w hw2; rw [wm_8] at hw2
    by_cases c : w = S 0 8
    · rw [c, wm_5]; omega
    · rw [e 5 w (by omega)]; exact hw.sl w (by omega)
  · intro w hw2 i hi; rw [wm_8] at hw2
    by_cases c : w = S 0 8
    · rw [c, wm_5] at hi
      have := sn_1 (hs i hi)
      rw [c, wm_s (by omega)]; omega
    · rw [e 5 w (by omega)] at hi
      have := hw.sl w (by omega)
      rw [e 4 _ (by omega)]; exact hw.sp w (by omega) i hi
  · rw [e 0 11 (by omega)]; exact hw.laws
  · rw [e 0 11 (by omega), ef 6 (by omega)]; exact hw.goes
  · rw [e 0 11 (by omega), ef 7 (by omega)]; exact hw.bec
  · rw [e 0 11 (by omega), ef 8 (by omega)]; exact hw.lf
  · rw [e 0 11 (by omega), ef 9 (by omega)]; exact hw.rt
  · rw [e 0 11 (by omega), ef 10 (by omega), ef 11 (by omega), ef 12 (by omega)]; exact hw.yr
  · rw [wm_yo.hs]; exact hw.hist
  · rw [ef 13 (by omega)]; exact hw.lag
  · rw [e 0 28 (by omega)]; exact hw.signs
  · rw [e 0 28 (by omega), ef 18 (by omega)]; exact hw.kind
  · intro s hs2; rw [e 0 28 (by omega)] at hs2; rw [ef 19 (by omega), wm_8]; have := hw.one s hs2; omega
  · intro s hs2 h2 h3; rw [e 0 28 (by omega)] at hs2; rw [ef 18 (by omega)] at h2 h3; rw [ef 20 (by omega), ef 19 (by omega), wm_8]; have := hw.oth s hs2 h2 h3; omega
  · rw [e 0 28 (by omega), ef 21 (by omega)]; exact hw.year
  · rw [e 0 28 (by omega), ef 22 (by omega)]; exact hw.pl
  · rw [e 0 28 (by omega), ef 18 (by omega), ef 23 (by omega)]; exact hw.nm2
  · rw [e 0 28 (by omega), ef 18 (by omega), ef 23 (by omega)]; exact hw.nm3
  · rw [e 0 28 (by omega), ef 24 (by omega)]; exact hw.poet
  · rw [e 0 28 (by omega), ef 25 (by omega)]; exact hw.trust
  · rw [e 0 28 (by omega), ef 26 (by omega)]; exact hw.on
  · rw [ef 36 (by omega)]; exact hw.kept
  · rw [e 0 28 (by omega), ef 37 (by omega)]; exact hw.ks
  · rw [ef 37 (by omega), ef 38 (by omega), ef 39 (by omega), ef 40 (by omega)]; exact hw.kon
  · rw [ef 36 (by omega), ef 41 (by omega), ef 42 (by omega)]; exact hw.klag
theorem rt_wm (h : rt_ S nv vs M) {M' : mm_M} (h8 : S 0 4 ≤ 8) (hm : ∀ a b, ¬ (a = 0 ∧ (b = 0 ∨ b = 4 ∨ b = 5 ∨ b = 6 ∨ b = 8)) → ¬ (a = 5 ∧ b = S 0 8) → ¬ (a = 4 ∧ b / 8 = S 0 8) → M'.1 a b = M.1 a b) (h2 : M'.2 = M.2) (hn : M'.1 0 8 = Int32.ofNat (S 0 8 + 1)) (h4 : M'.1 0 4 = Int32.ofNat 0) (h5 : M'.1 5 (S 0 8) = Int32.ofNat (S 0 4)) (hs : ∀ i, i < S 0 4 → M'.1 4 (8 * S 0 8 + i) = Int32.ofNat (S 2 i - 97)) : rt_ (wm_ S) nv vs M' := by
  refine ⟨⟨fun a b hp => ?_, fun l hl => by rw [hm 0 25 (by omega) (by omega) (by omega)]; exact h.1.2.1 l hl, ?_⟩, ?_, fun j v hv => by rw [h2]; exact h.2.2 j v hv⟩
  · by_cases c0 : a = 0 ∧ b = 8
    · rw [c0.1, c0.2, hn, wm_8]
    · by_cases c1 : a = 0 ∧ b = 4
      · rw [c1.1, c1.2, h4, wm_4]
      · by_cases c2 : a = 5 ∧ b = S 0 8
        · rw [c2.1, c2.2, h5, wm_5]
        · have e : ∀ x y, ¬ (x = 0 ∧ (y = 8 ∨ y = 4)) ∧ ¬ (x = 5 ∧ y = S 0 8) ∧ ¬ (x = 4 ∧ y / 8 = S 0 8) → wm_ S x y = S x y := fun x y h => wm_o h
          unfold pe_ at hp
          rw [wm_8, wm_4, e 0 11 (by omega), e 0 28 (by omega), e 18 _ (by omega), e 36 _ (by omega), e 37 _ (by omega)] at hp
          by_cases c3 : a = 4 ∧ b / 8 = S 0 8
          · obtain ⟨rfl, c3⟩ := c3
            have hb : b % 8 < S 0 4 := by
              rcases hp with h | h | h | h | h | h | h | h | h | h | h | h | h
              case inr.inr.inr.inl => rw [c3, wm_5] at h; exact h.2.2
              all_goals omega
            have eb : b = 8 * S 0 8 + b % 8 := by omega
            rw [eb, hs _ hb, wm_s (by omega)]
          · have hpe : pe_ S a b := by
              unfold pe_
              rcases hp with h | h | h | h | h | h | h | h | h | h | h | h | h
              · exact Or.inl h
              · omega
              · exact Or.inr (Or.inr (Or.inl h))
              · rw [e 5 _ (by omega)] at h
                exact Or.inr (Or.inr (Or.inr (Or.inl ⟨h.1, by omega, h.2.2⟩)))
              · exact Or.inr (Or.inr (Or.inr (Or.inr (Or.inl ⟨h.1, by omega⟩))))
              · exact Or.inr (Or.inr (Or.inr (Or.inr (Or.inr (Or.inl h)))))
              · exact Or.inr (Or.inr (Or.inr (Or.inr (Or.inr (Or.inr (Or.inl h))))))
              · exact Or.inr (Or.inr (Or.inr (Or.inr (Or.inr (Or.inr (Or.inr (Or.inl h)))))))
              · exact Or.inr (Or.inr (Or.inr (Or.inr (Or.inr (Or.inr (Or.inr (Or.inr (Or.inl h))))))))
              · exact Or.inr (Or.inr (Or.inr (Or.inr (Or.inr (Or.inr (Or.inr (Or.inr (Or.inr (Or.inl h)))))))))
              · exact Or.inr (Or.inr (Or.inr (Or.inr (Or.inr (Or.inr (Or.inr (Or.inr (Or.inr (Or.inr (Or.inl h))))))))))
              · exact Or.inr (Or.inr (Or.inr (Or.inr (Or.inr (Or.inr (Or.inr (Or.inr (Or.inr (Or.inr (Or.inr (Or.inl h)))))))))))
              · exact Or.inr (Or.inr (Or.inr (Or.inr (Or.inr (Or.inr (Or.inr (Or.inr (Or.inr (Or.inr (Or.inr (Or.inr h)))))))))))
            have h0 : a = 0 → b = 11 ∨ b = 28 := fun ha => by
              subst ha
              have := pe_0 hpe
              omega
            rw [e a b ⟨by omega, c2, c3⟩, hm a b (by omega) c2 c3]
            exact h.1.1 a b hpe
  · show M'.1 0 26 = -1
    rw [hm 0 26 (by omega) (by omega) (by omega)]; exact h.1.2.2
  · rw [hm 0 1 (by omega) (by omega) (by omega)]; exact h.2.1
end VH1
