/-! TOWN: the first year in which a word is said so -/
section VW1
variable {S : sg_} {M : mm_M} {vs : List Nat} {p h w : Nat}
/-- every year lies behind a turn and before the next -/
theorem ny_in (Y : Nat) : ∀ n, n ≤ S 0 11 → ∃ i, i ≤ n ∧ ny_ S h p i ≤ Y ∧ (i < n → Y < ny_ S h p (i + 1)) := by
  intro n
  induction n with
  | zero => intro _; exact ⟨0, Nat.le_refl _, by unfold ny_; rw [if_pos rfl]; omega, fun h0 => absurd h0 (Nat.lt_irrefl _)⟩
  | succ n ih =>
    intro hn
    obtain ⟨i, h1, h2, h3⟩ := ih (by omega)
    by_cases c : i = n
    · by_cases c2 : ny_ S h p (n + 1) ≤ Y
      · exact ⟨n + 1, Nat.le_refl _, c2, fun h0 => absurd h0 (Nat.lt_irrefl _)⟩
      · exact ⟨i, by omega, h2, fun _ => by rw [c]; omega⟩
    · exact ⟨i, by omega, h2, fun _ => h3 (by omega)⟩
/-- none is -1 -/
def fso_ (F : Nat → List Nat) (xs : List Nat) (k : Nat) : Option Nat := (List.range k).find? (fun Y => decide (F Y = xs))
theorem fso_n {F : Nat → List Nat} {xs : List Nat} {k : Nat} (hk : ∀ Y, Y < k → F Y ≠ xs) : fso_ F xs k = none := by
  unfold fso_
  rw [List.find?_eq_none]
  intro Y hY
  rw [decide_eq_false (hk Y (List.mem_range.mp hY))]; decide
theorem fso_s {F : Nat → List Nat} {xs : List Nat} {Y : Nat} (h1 : ∀ y, y < Y → F y ≠ xs) (h2 : F Y = xs) : ∀ d, fso_ F xs (Y + 1 + d) = some Y := by
  intro d
  induction d with
  | zero =>
    have := fso_n h1
    unfold fso_ at this ⊢
    rw [Nat.add_zero, List.range_succ, List.find?_append, this, Option.none_or, List.find?_cons, decide_eq_true h2]
  | succ d ih =>
    unfold fso_ at ih ⊢
    rw [show Y + 1 + (d + 1) = (Y + 1 + d) + 1 by omega, List.range_succ, List.find?_append, ih]; rfl
theorem k_fso_l (hw : wf_ S) (hwd : w < S 0 8) (hh : h < hs_ S) (hp : p < 6) {xs : List Nat} (hx : ok_ xs) : ∀ (e t n : Nat) (M : mm_M), t + e = S 0 11 + 1 → e < n → cs_ S vs M → (∀ i, i < t → sd_ S w h (ny_ S h p i) p ≠ xs) →
    wp_ (f_X11_firstSaidSo_3l n (Int32.ofNat w) (Int64.ofNat (en_ xs)) (Int32.ofNat h) (Int32.ofNat p) (Int32.ofNat t) M) (fun z => z.1 = sto_ (fso_ (fun Y => sd_ S w h Y p) xs 601) ∧ cs_ S vs z.2) := by
  have h6 := hw.laws
  have all : ∀ t, t ≤ S 0 11 + 1 → (∀ i, i < t → sd_ S w h (ny_ S h p i) p ≠ xs) → ∀ Y, (t ≤ S 0 11 → Y < ny_ S h p t) → sd_ S w h Y p ≠ xs := by
    intro t ht hi Y hY
    obtain ⟨i, h1, h2, h3⟩ := ny_in (S := S) (h := h) (p := p) Y (S 0 11) (Nat.le_refl _)
    rw [sd_turn h1 h2 h3]
    refine hi i ?_
    by_cases c : i < t
    · exact c
    · exfalso
      have := hY (by omega)
      have := ny_mono (S := S) (h := h) (p := p) (show t ≤ i by omega) h1
      omega
  intro e
  induction e with
  | zero =>
    intro t n M ht hn hc hi
    obtain ⟨m, rfl⟩ : ∃ m, n = m + 1 := ⟨n - 1, by omega⟩
    unfold f_X11_firstSaidSo_3l f_X11_firstSaidSo_3
    rw [hc.2.1.laws, if_pos ((n3_lt (by omega) (by omega)).mpr (by omega))]
    refine wp_some ⟨?_, hc⟩
    rw [fso_n (fun Y _ => all t (by omega) hi Y (fun h0 => by omega))]; rfl
  | succ e ih =>
    intro t n M ht hn hc hi
    obtain ⟨m, rfl⟩ : ∃ m, n = m + 1 := ⟨n - 1, by omega⟩
    have e1 : Int32.ofNat t + 1 = Int32.ofNat (t + 1) := n3_add t 1
    have hny := ny_le (h := h) hw hp (show t ≤ S 0 11 by omega)
    unfold f_X11_firstSaidSo_3l f_X11_firstSaidSo_3
    rw [hc.2.1.laws, if_neg (by rw [n3_lt (by omega) (by omega)]; omega)]
    refine wp_be (c_newsYear hc.2.1 hw hh (by omega) hp) ?_
    refine wp_bd (wp_mo (hc.at hw hh (show ny_ S h p t < 1073741824 by omega) hp) (fun z hz => ?_))
    obtain ⟨hc1, W1, pt1, d1, z1, z2, z3, z4⟩ := hz
    unfold f_X11_firstSaidSo_47
    rw [z1]
    refine wp_be (c_form z4 hw z2 hwd) ?_
    rw [z3, sa_sd]
    have ok1 : ok_ (sd_ S w h (ny_ S h p t) p) := sd_ok (nv := no_) hw hwd
    by_cases c : sd_ S w h (ny_ S h p t) p = xs
    · rw [if_pos (by rw [c])]
      refine wp_some ⟨?_, hc1⟩
      have := fso_s (F := fun Y => sd_ S w h Y p) (xs := xs) (Y := ny_ S h p t) (fun y hy => all t (by omega) hi y (fun _ => hy)) c (600 - ny_ S h p t)
      rw [show ny_ S h p t + 1 + (600 - ny_ S h p t) = 601 by omega] at this
      rw [this]; rfl
    · rw [if_neg (fun he => c ((en_eq ok1 hx).mp he))]
      refine wp_sr ?_
      rw [e1]
      refine ih (t + 1) m z.2 (by omega) (by omega) hc1 (fun i hi2 => ?_)
      by_cases c2 : i = t
      · rw [c2]; exact c
      · exact hi i (by omega)
end VW1
