/-! CALLS: town -/
section VX1
variable {S : sg_} {M Mc Mr : mm_M} {vs xs : List Nat} {h w : Nat}
/-- what is found when the places from k on are gone through -/
def tog_ (F : Nat → Option Nat) : Nat → Nat → Option Nat → Nat → Option (Option Nat × Nat)
  | 0, _, l, q => some (l, q)
  | e + 1, k, l, q => match F k with
    | none => none
    | some y => if (match l with
      | none => true
      | some z => decide (z < y)) = true then tog_ F e (k + 1) (some y) k else tog_ F e (k + 1) l q
def toa_ (o : Option (Option Nat × Nat)) : Int32 := match o with
  | none => -2
  | some lq => sto_ lq.1
def tor_ (vs : List Nat) (o : Option (Option Nat × Nat)) : List Nat := match o with
  | none => vs
  | some lq => [lq.2]
theorem tog_n {F : Nat → Option Nat} {e k q : Nat} {l : Option Nat} (hF : F k = none) : tog_ F (e + 1) k l q = none := by
  unfold tog_; rw [hF]
theorem tog_lt {F : Nat → Option Nat} {e k q y : Nat} {l : Option Nat} (hF : F k = some y) (hl : ∀ z, l = some z → z < y) : tog_ F (e + 1) k l q = tog_ F e (k + 1) (some y) k := by
  conv => lhs; unfold tog_
  rw [hF]
  cases l with
  | none => rfl
  | some z =>
    show (if decide (z < y) = true then _ else _) = _
    rw [if_pos (decide_eq_true (hl z rfl))]
theorem tog_ge {F : Nat → Option Nat} {e k q y z : Nat} {l : Option Nat} (hF : F k = some y) (hl : l = some z) (hz : y ≤ z) : tog_ F (e + 1) k l q = tog_ F e (k + 1) l q := by
  conv => lhs; unfold tog_
  rw [hF, hl]
  show (if decide (z < y) = true then _ else _) = _
  rw [if_neg (by rw [decide_eq_false (by omega)]; decide)]
theorem tog_m {F : Nat → Option Nat} : ∀ (e k : Nat) (l : Option Nat) (q : Nat), k + e = 6 → q < 6 → ∀ lq, tog_ F e k l q = some lq → lq.2 < 6 := by
  intro e
  induction e with
  | zero => intro k l q _ hq lq h0; cases h0; exact hq
  | succ e ih =>
    intro k l q hk hq lq h0
    unfold tog_ at h0
    cases hF : F k with
    | none => rw [hF] at h0; cases h0
    | some y =>
      rw [hF] at h0
      revert h0
      show (if (match l with
        | none => true
        | some z => decide (z < y)) = true then tog_ F e (k + 1) (some y) k else tog_ F e (k + 1) l q) = some lq → _
      generalize (match l with
        | none => true
        | some z => decide (z < y)) = b
      intro h0
      cases b with
      | true => rw [if_pos rfl] at h0; exact ih (k + 1) (some y) k (by omega) (by omega) lq h0
      | false => rw [if_neg (by decide)] at h0; exact ih (k + 1) l q (by omega) hq lq h0
def tof_ (S : sg_) (w h : Nat) (xs : List Nat) (p : Nat) : Option Nat := fso_ (fun Y => sd_ S w h Y p) xs 601
theorem fso_le {F : Nat → List Nat} {k Y : Nat} (h0 : fso_ F xs k = some Y) : Y < k := by
  unfold fso_ at h0
  exact List.mem_range.mp (List.mem_of_find?_eq_some h0)
theorem sto_le {y : Nat} {l : Option Nat} (hy : y ≤ 601) (hl : ∀ z, l = some z → z ≤ 600) : (Int32.ofNat y ≤ sto_ l) ↔ ∃ z, l = some z ∧ y ≤ z := by
  cases l with
  | none =>
    constructor
    · intro h0
      exfalso
      have h1 : Int32.ofNat y ≤ (-1 : Int32) := h0
      rw [Int32.le_iff_toInt_le, n3_ti (by omega)] at h1
      have : Int32.toInt (-1) = -1 := by decide
      omega
    · intro ⟨z, hz, _⟩; cases hz
  | some z =>
    have := hl z rfl
    show Int32.ofNat y ≤ Int32.ofNat z ↔ _
    rw [n3_le (by omega) (by omega)]
    constructor
    · intro h0; exact ⟨z, rfl, h0⟩
    · intro ⟨z', hz, h0⟩; cases hz; exact h0
theorem k_town_l (hw : wf_ S) (hwd : w < S 0 8) (hh : h < hs_ S) (hx : ok_ xs) : ∀ (e k q n : Nat) (l : Option Nat) (M : mm_M), k + e = 6 → e < n → q < 6 → (∀ z, l = some z → z ≤ 600) → cs_ S vs M →
    wp_ (f_X11_town_51l n (Int32.ofNat w) (Int32.ofNat h) (Int64.ofNat (en_ xs)) (sto_ l) (Int32.ofNat q) (Int32.ofNat k) M) (fun z => z.1 = toa_ (tog_ (tof_ S w h xs) e k l q) ∧ cs_ S (tor_ vs (tog_ (tof_ S w h xs) e k l q)) z.2) := by
  have h6 := hw.laws
  intro e
  induction e with
  | zero =>
    intro k q n l M hk hn hq hl hc
    obtain ⟨m, rfl⟩ : ∃ m, n = m + 1 := ⟨n - 1, by omega⟩
    unfold f_X11_town_51l f_X11_town_51 f_X11_town_100
    rw [if_pos (show (6 : Int32) ≤ Int32.ofNat k from (n3_le (a := 6) (by omega) (by omega)).mpr (by omega)), n3_6 (by omega)]
    exact wp_sr (wp_bd (wp_mo ((hc.clear hw).add hw (by simp) q) (fun u hu => wp_some ⟨rfl, hu.1⟩)))
  | succ e ih =>
    intro k q n l M hk hn hq hl hc
    obtain ⟨m, rfl⟩ : ∃ m, n = m + 1 := ⟨n - 1, by omega⟩
    have e1 : Int32.ofNat k + 1 = Int32.ofNat (k + 1) := n3_add k 1
    unfold f_X11_town_51l f_X11_town_51
    rw [if_neg (show ¬ ((6 : Int32) ≤ Int32.ofNat k) from fun h0 => by have := (n3_le (a := 6) (by omega) (by omega)).mp h0; omega)]
    unfold f_X11_firstSaidSo
    refine wp_bd (wp_mo (k_fso_l (p := k) hw hwd hh (by omega) hx (S 0 11 + 1) 0 fu_ M (by omega) (by unfold fu_; omega) hc (fun i hi => by omega)) (fun u hu => ?_))
    unfold f_X11_town_68 f_X11_town_94
    rw [hu.1]
    have hF : fso_ (fun Y => sd_ S w h Y k) xs 601 = tof_ S w h xs k := rfl
    rw [hF]
    cases hc2 : tof_ S w h xs k with
    | none =>
      rw [if_pos (show sto_ none = (-1 : Int32) from rfl), tog_n hc2]
      exact wp_some ⟨rfl, hu.2⟩
    | some y =>
      have hy : y < 601 := fso_le hc2
      show wp_ (if Int32.ofNat y = -1 then _ else if Int32.ofNat y ≤ sto_ l then _ else _) _
      rw [if_neg (fun h0 => (n3_nm (by omega)).mp h0)]
      by_cases c : Int32.ofNat y ≤ sto_ l
      · obtain ⟨z, hz, hyz⟩ := (sto_le (by omega) hl).mp c
        rw [if_pos c, tog_ge hc2 hz hyz]
        refine wp_sr ?_
        rw [e1]
        exact ih (k + 1) q m l u.2 (by omega) (by omega) hq hl hu.2
      · have hlt : ∀ z, l = some z → z < y := fun z hz => by
          by_cases c2 : y ≤ z
          · exact absurd ((sto_le (by omega) hl).mpr ⟨z, hz, c2⟩) c
          · omega
        rw [if_neg c, tog_lt hc2 hlt]
        refine wp_sr ?_
        rw [e1]
        exact ih (k + 1) k m (some y) u.2 (by omega) (by omega) (by omega) (fun z hz => by cases hz; omega) hu.2
theorem q_town_i (hw : wf_ S) (hwd : w < S 0 8) (hh : h < hs_ S) (hx : ok_ xs) {p : Nat} (hp : p < 6) {x7 x8 : Int32} {q58 : Int32 → Int32 → Int64 → Int32 → Int32 → Int32 → mm_M → Option (Int32 × mm_M)} {Q : Int32 × mm_M → Prop}
    (hQ0 : ∀ M', rt_ S no_ vs M' → tof_ S w h xs p = none → wp_ (f_X12_town_134 q58 (Int32.ofNat w) (Int32.ofNat h) (Int64.ofNat (pk_ xs)) x7 x8 (Int32.ofNat p) (Int32.ofNat 601) 0 M') Q)
    (hQ1 : ∀ M' Y, rt_ S no_ vs M' → tof_ S w h xs p = some Y → wp_ (f_X12_town_134 q58 (Int32.ofNat w) (Int32.ofNat h) (Int64.ofNat (pk_ xs)) x7 x8 (Int32.ofNat p) (Int32.ofNat Y) 1 M') Q) :
    ∀ (e Y n : Nat) (M : mm_M), Y + e = 601 → e + 1 < n → rt_ S no_ vs M → (∀ y, y < Y → sd_ S w h y p ≠ xs) →
    wp_ (f_X12_town_71l q58 n (Int32.ofNat w) (Int32.ofNat h) (Int64.ofNat (pk_ xs)) x7 x8 (Int32.ofNat p) (Int32.ofNat Y) 0 M) Q := by
  have h600 := hw.hist
  intro e
  induction e with
  | zero =>
    intro Y n M hY hn hr hi
    obtain ⟨m, rfl⟩ : ∃ m, n = m + 1 := ⟨n - 1, by omega⟩
    have hYY : Y = 601 := by omega
    unfold f_X12_town_71l f_X12_town_71
    rw [if_pos (show (600 : Int32) < Int32.ofNat Y from (n3_lt (a := 600) (by omega) (by omega)).mpr (by omega))]
    rw [hYY] at hi ⊢
    exact hQ0 M hr (fso_n hi)
  | succ e ih =>
    intro Y n M hY hn hr hi
    obtain ⟨m, rfl⟩ : ∃ m, n = m + 1 := ⟨n - 1, by omega⟩
    have hYn : ¬ ((600 : Int32) < Int32.ofNat Y) := fun hh => by have := (n3_lt (a := 600) (by omega) (by omega)).mp hh; omega
    unfold f_X12_town_71l f_X12_town_71
    rw [if_neg hYn, if_pos rfl]
    refine wp_bd (wp_mo (r_sd (hand := 0) hr.1 hw hwd (by omega) (show h < 2147483648 by omega) (show Y < 2147483648 by omega) hp) (fun z hz => ?_))
    have f1 : fr_ pw_s2 M z := hz.1.mono (fun a b hab => pw_sa2 hab)
    have hr1 := hr.fr2 f1
    have ok1 : ok_ (sd_n S no_ w h Y p) := sd_ok hw hwd
    refine wp_be (r_pk (hand := 0) (by omega) ok1 hz.2) ?_
    unfold f_X12_town_111 f_X12_town_125
    by_cases c : sd_ S w h Y p = xs
    · rw [if_pos (show Int64.ofNat (pk_ (sd_n S no_ w h Y p)) = Int64.ofNat (pk_ xs) by rw [sd_sd, c]), if_neg (by decide)]
      refine wp_sr (wp_sr ?_)
      rw [show f_X12_truth 0 = 0 from rfl, Int32.add_zero]
      obtain ⟨m', rfl⟩ : ∃ m', m = m' + 1 := ⟨m - 1, by omega⟩
      unfold f_X12_town_71l f_X12_town_71
      rw [if_neg hYn, if_neg (by decide)]
      refine hQ1 z Y hr1 ?_
      have := fso_s (F := fun Y => sd_ S w h Y p) hi c (600 - Y)
      rw [show Y + 1 + (600 - Y) = 601 by omega] at this
      exact this
    · rw [if_neg (fun he => c ((pkk_eq ok1 hx).mp he)), if_pos rfl]
      refine wp_sr (wp_sr ?_)
      rw [show f_X12_truth 1 = 1 from rfl, show Int32.ofNat Y + 1 = Int32.ofNat (Y + 1) from n3_add Y 1]
      refine ih (Y + 1) m z (by omega) (by omega) hr1 (fun y hy => ?_)
      by_cases c2 : y = Y
      · rw [c2]; exact c
      · exact hi y (by omega)
theorem q_town_l (hw : wf_ S) (hwd : w < S 0 8) (hh : h < hs_ S) (hx : ok_ xs) : ∀ (e k q n : Nat) (l : Option Nat) (M : mm_M), k + e = 6 → e < n → q < 6 → (∀ z, l = some z → z ≤ 600) → rt_ S no_ vs M →
    wp_ (f_X12_town_58l n (Int32.ofNat w) (Int32.ofNat h) (Int64.ofNat (pk_ xs)) (sto_ l) (Int32.ofNat q) (Int32.ofNat k) M) (fun z => z.1 = toa_ (tog_ (tof_ S w h xs) e k l q) ∧ rt_ S no_ (tor_ vs (tog_ (tof_ S w h xs) e k l q)) z.2) := by
  intro e
  induction e with
  | zero =>
    intro k q n l M hk hn hq hl hr
    obtain ⟨m, rfl⟩ : ∃ m, n = m + 1 := ⟨n - 1, by omega⟩
    unfold f_X12_town_58l f_X12_town_58 f_X12_town_163
    rw [if_pos (show (6 : Int32) ≤ Int32.ofNat k from (n3_le (a := 6) (by omega) (by omega)).mpr (by omega)), n3_6 (by omega)]
    exact wp_sr (wp_bd (wp_mo (r_ent (rr_nil hr) (by simp) q) (fun u hu => wp_some ⟨rfl, hu.1⟩)))
  | succ e ih =>
    intro k q n l M hk hn hq hl hr
    obtain ⟨m, rfl⟩ : ∃ m, n = m + 1 := ⟨n - 1, by omega⟩
    have e1 : Int32.ofNat k + 1 = Int32.ofNat (k + 1) := n3_add k 1
    unfold f_X12_town_58l f_X12_town_58
    rw [if_neg (show ¬ ((6 : Int32) ≤ Int32.ofNat k) from fun h0 => by have := (n3_le (a := 6) (by omega) (by omega)).mp h0; omega)]
    refine q_town_i hw hwd hh hx (p := k) (by omega) ?_ ?_ 601 0 fu_ M (by omega) (by unfold fu_; omega) hr (fun y hy => by omega)
    · intro M' hr' hc2
      unfold f_X12_town_134
      rw [if_pos rfl, tog_n hc2]
      exact wp_some ⟨rfl, hr'⟩
    · intro M' y hr' hc2
      have hy : y < 601 := fso_le hc2
      unfold f_X12_town_134 f_X12_town_157
      rw [if_neg (by decide)]
      by_cases c : Int32.ofNat y ≤ sto_ l
      · obtain ⟨z, hz, hyz⟩ := (sto_le (by omega) hl).mp c
        rw [if_pos c, tog_ge hc2 hz hyz]
        refine wp_sr ?_
        rw [e1]
        exact ih (k + 1) q m l M' (by omega) (by omega) hq hl hr'
      · have hlt : ∀ z, l = some z → z < y := fun z hz => by
          by_cases c2 : y ≤ z
          · exact absurd ((sto_le (by omega) hl).mpr ⟨z, hz, c2⟩) c
          · omega
        rw [if_neg c, tog_lt hc2 hlt]
        refine wp_sr ?_
        rw [e1]
        exact ih (k + 1) k m (some y) M' (by omega) (by omega) (by omega) (fun z hz => by cases hz; omega) hr'
theorem m_town (hrl0 : rl_ Mc Mr) (x1 x2 x3 x4 : Int32) : bo_ (f_X11_town x1 x2 x3 x4 Mc) (f_X12_town x1 x2 x3 x4 Mr) := by
  obtain ⟨S, vs, hw, hv, hc, hr⟩ := hrl0
  have hr1 := hr.th
  have hrl : rl_ Mc (mm_si Mr 0 0 0) := ⟨S, vs, hw, hv, hc, hr1⟩
  have h600 := hw.hist
  have h20 := hw.words
  unfold f_X11_town f_X12_town
  rw [sq_n (x := mm_si Mr 0 0 0), c_isWord hc.2.1 hw, c_isThen hc.2.1 hw, r_isWord hr1.1.1 hw, r_isHist hr1.1.1 hw, r_isThen]
  refine bo_g hrl (fun b1 => bo_gt hrl (fun b2 b3 => ?_))
  obtain ⟨b3, b4⟩ := and_t b3
  obtain ⟨w, rfl, hwd⟩ := lt_nat b1 (by omega)
  obtain ⟨h, rfl, hh⟩ := lt_nat b2 (by omega)
  obtain ⟨y, rfl, hy⟩ := lt_nat b3 (by omega)
  obtain ⟨p, rfl, hp⟩ := lt_nat b4 (by omega)
  have ok1 : ok_ (sd_ S w h y p) := sd_ok (nv := no_) hw hwd
  have hm := tog_m (F := tof_ S w h (sd_ S w h y p)) 6 0 none 0 (by omega) (by omega)
  refine bo_mk (S := S) (vs := tor_ vs (tog_ (tof_ S w h (sd_ S w h y p)) 6 0 none 0)) (A := toa_ (tog_ (tof_ S w h (sd_ S w h y p)) 6 0 none 0)) hw ?_ ?_ ?_
  · cases ho : tog_ (tof_ S w h (sd_ S w h y p)) 6 0 none 0 with
    | none => exact hv
    | some lq =>
      have := hm lq ho
      exact ⟨by simp [tor_], fun v hv2 => by
        have h0 : v ∈ [lq.2] := hv2
        rw [List.mem_singleton] at h0; omega⟩
  · refine wp_bd (wp_mo (hc.at hw hh (show y < 1073741824 by omega) hp) (fun z hz => ?_))
    obtain ⟨hc1, W1, pt1, d1, z1, z2, z3, z4⟩ := hz
    unfold f_X11_town_36
    rw [z1]
    refine wp_be (c_form z4 hw z2 hwd) ?_
    rw [z3, sa_sd]
    exact k_town_l hw hwd hh ok1 6 0 0 fu_ none z.2 (by omega) (by unfold fu_; omega) (by omega) (fun z hz => by cases hz) hc1
  · refine wp_bd (wp_mo (r_sd (hand := 0) hr1.1 hw hwd (by omega) (show h < 2147483648 by omega) (show y < 2147483648 by omega) hp) (fun z hz => ?_))
    have f1 : fr_ pw_s2 (mm_si Mr 0 0 0) z := hz.1.mono (fun a b hab => pw_sa2 hab)
    refine wp_be (r_pk (hand := 0) (by omega) ok1 hz.2) ?_
    exact q_town_l hw hwd hh ok1 6 0 0 fu_ none z (by omega) (by unfold fu_; omega) (by omega) (fun z hz => by cases hz) (hr1.fr2 f1)
end VX1
