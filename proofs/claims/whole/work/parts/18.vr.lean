/-! TURNS of a history: years in which a law comes at a place -/
section VR1
variable {S S' : sg_} {M M0 Mc Mr Z : mm_M} {vs : List Nat} {nv : Nat → Bool} {W : Nat} {pt : Nat → List Nat} {p h : Nat}
/-- turn t: 0, then the years of the laws in order, with the lag of the place -/
def ny_ (S : sg_) (h p t : Nat) : Nat := if t = 0 then 0 else yr_ S ((or_ S h).getD (t - 1) 0) h + S 13 p
theorem ny_at {i l : Nat} (hi : (or_ S h)[i]? = some l) : ny_ S h p (i + 1) = yr_ S l h + S 13 p := by
  unfold ny_
  rw [if_neg (by omega), Nat.add_sub_cancel, List.getD_eq_getElem?_getD, hi]; rfl
theorem ny_get {i : Nat} (hi : i < S 0 11) : ∃ l, (or_ S h)[i]? = some l ∧ l < S 0 11 := by
  have hl : i < (or_ S h).length := by rw [or_len]; exact hi
  exact ⟨(or_ S h)[i], List.getElem?_eq_getElem hl, or_mem.mp (List.getElem_mem hl)⟩
theorem ny_mono {a b : Nat} (hab : a ≤ b) (hb : b ≤ S 0 11) : ny_ S h p a ≤ ny_ S h p b := by
  by_cases c0 : a = 0
  · rw [c0]; unfold ny_; rw [if_pos rfl]; omega
  · by_cases c1 : a = b
    · rw [c1]; exact Nat.le_refl _
    · obtain ⟨i, rfl⟩ : ∃ i, a = i + 1 := ⟨a - 1, by omega⟩
      obtain ⟨j, rfl⟩ : ∃ j, b = j + 1 := ⟨b - 1, by omega⟩
      obtain ⟨li, hi, -⟩ := ny_get (S := S) (h := h) (i := i) (by omega)
      obtain ⟨lj, hj, -⟩ := ny_get (S := S) (h := h) (i := j) (by omega)
      rw [ny_at hi, ny_at hj]
      have hsr := or_sr (S := S) h
      unfold sr_ at hsr
      rw [List.pairwise_iff_getElem] at hsr
      have hil : i < (or_ S h).length := by rw [or_len]; omega
      have hjl : j < (or_ S h).length := by rw [or_len]; omega
      have := hsr i j hil hjl (by omega)
      rw [List.getElem?_eq_getElem hil] at hi
      rw [List.getElem?_eq_getElem hjl] at hj
      rw [Option.some.inj hi, Option.some.inj hj] at this
      have this2 : yr_ S li h ≤ yr_ S lj h := this
      omega
theorem ny_le (hw : wf_ S) (hp : p < 6) {t : Nat} (ht : t ≤ S 0 11) : ny_ S h p t ≤ 600 := by
  by_cases c0 : t = 0
  · rw [c0]; unfold ny_; rw [if_pos rfl]; omega
  · obtain ⟨i, rfl⟩ : ∃ i, t = i + 1 := ⟨t - 1, by omega⟩
    obtain ⟨l, hi, hl⟩ := ny_get (S := S) (h := h) (i := i) (by omega)
    rw [ny_at hi]
    have := yr_le hw (h := h) hl
    have := hw.lag p hp
    omega
/-- between two turns no law comes -/
theorem ny_const {t Y : Nat} (ht : t ≤ S 0 11) (h1 : ny_ S h p t ≤ Y) (h2 : t < S 0 11 → Y < ny_ S h p (t + 1)) : pa_ S nv h Y p = pa_ S nv h (ny_ S h p t) p := by
  rw [pa_filter, pa_filter]
  apply List.filter_congr
  intro l hl
  obtain ⟨i, hil, hi⟩ := List.getElem_of_mem hl
  have hin : i < S 0 11 := by rw [or_len] at hil; exact hil
  have hi2 : (or_ S h)[i]? = some l := by rw [List.getElem?_eq_getElem hil, hi]
  have e := ny_at (p := p) hi2
  congr 1
  apply decide_eq_decide.mpr
  rw [← e]
  by_cases c : i + 1 ≤ t
  · have := ny_mono (S := S) (h := h) (p := p) c ht
    omega
  · have := ny_mono (S := S) (h := h) (p := p) (show t + 1 ≤ i + 1 by omega) (by omega)
    have := h2 (by omega)
    omega
theorem c_newsYear (hI : ic_ S M) (hw : wf_ S) {t : Nat} (hh : h < hs_ S) (ht : t ≤ S 0 11) (hp : p < 6) : f_X3_newsYear (Int32.ofNat h) (Int32.ofNat t) (Int32.ofNat p) M = some (Int32.ofNat (ny_ S h p t)) := by
  have h600 := hw.hist
  have h6 := hw.laws
  unfold f_X3_newsYear
  by_cases c0 : t = 0
  · rw [if_pos (by rw [c0]; rfl), c0]; unfold ny_; rw [if_pos rfl]; rfl
  · obtain ⟨i, rfl⟩ : ∃ i, t = i + 1 := ⟨t - 1, by omega⟩
    obtain ⟨l, hi, hl⟩ := ny_get (S := S) (h := h) (i := i) (by omega)
    have e1 : Int32.ofNat (i + 1) - 1 = Int32.ofNat i := n3_sub (a := i + 1) (b := 1) (by omega)
    rw [if_neg (show ¬ (Int32.ofNat (i + 1) = 0) from fun hh => c0 ((n3_eq (b := 0) (by omega) (by omega)).mp hh)), if_pos ((n3_ix (by omega)).mpr (by omega)), n3_tn (by omega), hI.yrs h hh, e1, c_yearIn hw hi, sq_n, if_pos ((n3_ix (by omega)).mpr hp), n3_tn (by omega), hI.lag p hp, n3_add, ny_at hi]
/-! years in which something changes -/
/-- F of the year before; at year 0 it is a -/
def pv_ {α : Type} (a : α) (F : Nat → α) (Y : Nat) : α := if Y = 0 then a else F (Y - 1)
def cy_ (a : List Nat) (F : Nat → List Nat) (k : Nat) : List Nat := (List.range k).filter (fun Y => !decide (F Y = pv_ a F Y))
theorem cy_s {a : List Nat} {F : Nat → List Nat} {k : Nat} : cy_ a F (k + 1) = cy_ a F k ++ (if F k = pv_ a F k then [] else [k]) := by
  unfold cy_
  rw [List.range_succ, List.filter_append, List.filter_cons, List.filter_nil]
  by_cases c : F k = pv_ a F k
  · rw [if_pos c, decide_eq_true c]; rfl
  · rw [if_neg c, decide_eq_false c]; rfl
/-- nothing changes from y to y + d -/
theorem cy_const {a : List Nat} {F : Nat → List Nat} {y : Nat} : ∀ d, (∀ Y, y ≤ Y → Y ≤ y + d → F Y = F y) → cy_ a F (y + d + 1) = cy_ a F (y + 1) := by
  intro d
  induction d with
  | zero => intro _; rfl
  | succ d ih =>
    intro hc
    rw [show y + (d + 1) + 1 = (y + d + 1) + 1 by omega, cy_s, ih (fun Y h1 h2 => hc Y h1 (by omega)), if_pos, List.append_nil]
    unfold pv_
    rw [if_neg (by omega), hc (y + d + 1) (by omega) (by omega), show y + d + 1 - 1 = y + d by omega, hc (y + d) (by omega) (by omega)]
/-- from turn to turn -/
theorem cy_turn {a : List Nat} {F : Nat → List Nat} {y y' : Nat} (hy : y ≤ y') (hc : ∀ Y, y ≤ Y → Y < y' → F Y = F y) : cy_ a F (y' + 1) = cy_ a F (y + 1) ++ (if F y' = F y then [] else [y']) := by
  by_cases c : y' = y
  · rw [c, if_pos rfl, List.append_nil]
  · obtain ⟨d, hd⟩ : ∃ d, y' = y + d + 1 := ⟨y' - y - 1, by omega⟩
    rw [cy_s]
    have e1 : pv_ a F y' = F y := by
      unfold pv_
      rw [if_neg (by omega)]; exact hc (y' - 1) (by omega) (by omega)
    rw [e1]
    congr 1
    rw [hd]
    exact cy_const d (fun Y h1 h2 => hc Y h1 (by omega))
/-- as said by history h at place p -/
theorem sd_turn {w t Y : Nat} (ht : t ≤ S 0 11) (h1 : ny_ S h p t ≤ Y) (h2 : t < S 0 11 → Y < ny_ S h p (t + 1)) : sd_ S w h Y p = sd_ S w h (ny_ S h p t) p := by
  unfold sd_ sd_n
  rw [ny_const ht h1 h2]
theorem cy_len {w : Nat} {a : List Nat} : ∀ t, t ≤ S 0 11 → (cy_ a (fun Y => sd_ S w h Y p) (ny_ S h p t + 1)).length ≤ t + 1 := by
  intro t
  induction t with
  | zero =>
    intro _
    have : ny_ S h p 0 = 0 := by unfold ny_; rw [if_pos rfl]
    rw [this, cy_s]
    unfold cy_
    simp only [List.range_zero, List.filter_nil, List.nil_append]
    split <;> simp
  | succ t ih =>
    intro ht
    have := ih (by omega)
    rw [cy_turn (F := fun Y => sd_ S w h Y p) (ny_mono (show t ≤ t + 1 by omega) ht) (fun Y h1 h2 => sd_turn (by omega) h1 (fun _ => h2)), List.length_append]
    split <;> simp <;> omega
theorem cy_end {w : Nat} {a : List Nat} (hw : wf_ S) (hp : p < 6) : cy_ a (fun Y => sd_ S w h Y p) 601 = cy_ a (fun Y => sd_ S w h Y p) (ny_ S h p (S 0 11) + 1) := by
  have hl := ny_le (h := h) hw hp (Nat.le_refl (S 0 11))
  have := cy_const (a := a) (F := fun Y => sd_ S w h Y p) (y := ny_ S h p (S 0 11)) (600 - ny_ S h p (S 0 11)) (fun Y h1 h2 => sd_turn (Nat.le_refl _) h1 (fun hh => absurd hh (Nat.lt_irrefl _)))
  rw [show ny_ S h p (S 0 11) + (600 - ny_ S h p (S 0 11)) + 1 = 601 by omega] at this
  exact this
theorem cy_mono {a : List Nat} {F : Nat → List Nat} {k n : Nat} (hkn : k ≤ n) : (cy_ a F k).length ≤ (cy_ a F n).length := by
  obtain ⟨d, rfl⟩ : ∃ d, n = k + d := ⟨n - k, by omega⟩
  clear hkn
  induction d with
  | zero => exact Nat.le_refl _
  | succ d ih =>
    rw [show k + (d + 1) = (k + d) + 1 by omega, cy_s, List.length_append]; omega
end VR1
