/-! CALLS: one -/
section VT1
variable {S S' : sg_} {M M0 Mc Mr Z : mm_M} {vs : List Nat} {nv : Nat → Bool} {W : Nat} {pt : Nat → List Nat} {p h v w : Nat}
def pbo_ (F : Nat → Bool) (k : Nat) : Bool := if k = 0 then false else F (k - 1)
/-- the ends of spans, as years go by; how many spans have begun -/
def beo_ (F : Nat → Bool) : Nat → List Nat
  | 0 => []
  | k + 1 => beo_ F k ++ (if F k = pbo_ F k then [] else [if F k = true then k else k - 1])
def bno_ (F : Nat → Bool) : Nat → Nat
  | 0 => 0
  | k + 1 => bno_ F k + (if (F k && !pbo_ F k) = true then 1 else 0)
theorem bno_le {F : Nat → Bool} : ∀ k, bno_ F k ≤ (beo_ F k).length := by
  intro k
  induction k with
  | zero => exact Nat.le_refl _
  | succ k ih =>
    unfold bno_ beo_
    rw [List.length_append]
    cases F k <;> cases pbo_ F k <;> simp <;> omega
theorem beo_mono {F : Nat → Bool} {k : Nat} : ∀ d, (beo_ F k).length ≤ (beo_ F (k + d)).length := by
  intro d
  induction d with
  | zero => exact Nat.le_refl _
  | succ d ih =>
    show _ ≤ (beo_ F (k + d + 1)).length
    rw [beo_, List.length_append]; omega
theorem beo_const {F : Nat → Bool} {y : Nat} : ∀ d, (∀ Y, y ≤ Y → Y ≤ y + d → F Y = F y) → beo_ F (y + d + 1) = beo_ F (y + 1) ∧ bno_ F (y + d + 1) = bno_ F (y + 1) := by
  intro d
  induction d with
  | zero => intro _; exact ⟨rfl, rfl⟩
  | succ d ih =>
    intro hc
    obtain ⟨i1, i2⟩ := ih (fun Y h1 h2 => hc Y h1 (by omega))
    have e1 : F (y + d + 1) = pbo_ F (y + d + 1) := by
      unfold pbo_
      rw [if_neg (by omega), hc (y + d + 1) (by omega) (by omega), show y + d + 1 - 1 = y + d by omega, hc (y + d) (by omega) (by omega)]
    constructor
    · show beo_ F (y + d + 1 + 1) = _
      rw [beo_, if_pos e1, List.append_nil, i1]
    · show bno_ F (y + d + 1 + 1) = _
      rw [bno_, e1, i2]
      cases pbo_ F (y + d + 1) <;> rfl
theorem beo_turn {F : Nat → Bool} {y y' : Nat} (hy : y ≤ y') (hc : ∀ Y, y ≤ Y → Y < y' → F Y = F y) : beo_ F (y' + 1) = beo_ F (y + 1) ++ (if F y' = F y then [] else [if F y' = true then y' else y' - 1]) ∧ bno_ F (y' + 1) = bno_ F (y + 1) + (if (F y' && !F y) = true then 1 else 0) := by
  by_cases c : y' = y
  · rw [c, if_pos rfl, List.append_nil]
    refine ⟨rfl, ?_⟩
    cases F y <;> rfl
  · obtain ⟨d, hd⟩ : ∃ d, y' = y + d + 1 := ⟨y' - y - 1, by omega⟩
    have e1 : pbo_ F y' = F y := by
      unfold pbo_
      rw [if_neg (by omega)]; exact hc (y' - 1) (by omega) (by omega)
    obtain ⟨i1, i2⟩ := beo_const (F := F) (y := y) d (fun Y h1 h2 => hc Y h1 (by omega))
    rw [← hd] at i1 i2
    constructor
    · rw [beo_, e1, i1]
    · rw [bno_, e1, i2]
def alo_ (S : sg_) (v w h p Y : Nat) : Bool := decide (sd_ S v h Y p = sd_ S w h Y p)
theorem alo_turn {t Y : Nat} (ht : t ≤ S 0 11) (h1 : ny_ S h p t ≤ Y) (h2 : t < S 0 11 → Y < ny_ S h p (t + 1)) : alo_ S v w h p Y = alo_ S v w h p (ny_ S h p t) := by
  unfold alo_
  rw [sd_turn (w := v) ht h1 h2, sd_turn (w := w) ht h1 h2]
/-- what turns see before turn t -/
def beb_ (S : sg_) (v w h p t : Nat) : List Nat := if t = 0 then [] else beo_ (alo_ S v w h p) (ny_ S h p (t - 1) + 1)
def bnb_ (S : sg_) (v w h p t : Nat) : Nat := if t = 0 then 0 else bno_ (alo_ S v w h p) (ny_ S h p (t - 1) + 1)
def opb_ (S : sg_) (v w h p t : Nat) : Bool := if t = 0 then false else alo_ S v w h p (ny_ S h p (t - 1))
theorem beb_s {t : Nat} (ht : t ≤ S 0 11) : beb_ S v w h p (t + 1) = beb_ S v w h p t ++ (if alo_ S v w h p (ny_ S h p t) = opb_ S v w h p t then [] else [if alo_ S v w h p (ny_ S h p t) = true then ny_ S h p t else ny_ S h p t - 1]) ∧ bnb_ S v w h p (t + 1) = bnb_ S v w h p t + (if (alo_ S v w h p (ny_ S h p t) && !opb_ S v w h p t) = true then 1 else 0) := by
  have a1 : beb_ S v w h p (t + 1) = beo_ (alo_ S v w h p) (ny_ S h p t + 1) := by unfold beb_; rw [if_neg (by omega), Nat.add_sub_cancel]
  have a2 : bnb_ S v w h p (t + 1) = bno_ (alo_ S v w h p) (ny_ S h p t + 1) := by unfold bnb_; rw [if_neg (by omega), Nat.add_sub_cancel]
  rw [a1, a2]
  by_cases c : t = 0
  · have b1 : beb_ S v w h p t = [] := by unfold beb_; rw [if_pos c]
    have b2 : bnb_ S v w h p t = 0 := by unfold bnb_; rw [if_pos c]
    have b3 : opb_ S v w h p t = false := by unfold opb_; rw [if_pos c]
    have h0 : ny_ S h p t = 0 := by rw [c]; unfold ny_; rw [if_pos rfl]
    rw [h0, b1, b2, b3]
    exact ⟨rfl, rfl⟩
  · obtain ⟨i, rfl⟩ : ∃ i, t = i + 1 := ⟨t - 1, by omega⟩
    have b1 : beb_ S v w h p (i + 1) = beo_ (alo_ S v w h p) (ny_ S h p i + 1) := by unfold beb_; rw [if_neg c, Nat.add_sub_cancel]
    have b2 : bnb_ S v w h p (i + 1) = bno_ (alo_ S v w h p) (ny_ S h p i + 1) := by unfold bnb_; rw [if_neg c, Nat.add_sub_cancel]
    have b3 : opb_ S v w h p (i + 1) = alo_ S v w h p (ny_ S h p i) := by unfold opb_; rw [if_neg c, Nat.add_sub_cancel]
    rw [b1, b2, b3]
    exact beo_turn (ny_mono (show i ≤ i + 1 by omega) ht) (fun Y h1 h2 => alo_turn (by omega) h1 (fun _ => h2))
theorem beb_l : ∀ t, t ≤ S 0 11 + 1 → (beb_ S v w h p t).length ≤ t := by
  intro t
  induction t with
  | zero => intro _; exact Nat.le_refl _
  | succ t ih =>
    intro ht
    have := ih (by omega)
    rw [(beb_s (by omega)).1, List.length_append]
    split <;> simp <;> omega
theorem beb_end (hw : wf_ S) (hp : p < 6) : beo_ (alo_ S v w h p) 601 = beb_ S v w h p (S 0 11 + 1) ∧ bno_ (alo_ S v w h p) 601 = bnb_ S v w h p (S 0 11 + 1) ∧ alo_ S v w h p 600 = opb_ S v w h p (S 0 11 + 1) := by
  have hl := ny_le (h := h) hw hp (Nat.le_refl (S 0 11))
  have hc : ∀ Y, ny_ S h p (S 0 11) ≤ Y → alo_ S v w h p Y = alo_ S v w h p (ny_ S h p (S 0 11)) := fun Y h1 => alo_turn (Nat.le_refl _) h1 (fun hh => absurd hh (Nat.lt_irrefl _))
  obtain ⟨i1, i2⟩ := beo_const (F := alo_ S v w h p) (y := ny_ S h p (S 0 11)) (600 - ny_ S h p (S 0 11)) (fun Y h1 _ => hc Y h1)
  rw [show ny_ S h p (S 0 11) + (600 - ny_ S h p (S 0 11)) + 1 = 601 by omega] at i1 i2
  refine ⟨?_, ?_, ?_⟩
  · rw [i1]; unfold beb_; rw [if_neg (by omega), Nat.add_sub_cancel]
  · rw [i2]; unfold bnb_; rw [if_neg (by omega), Nat.add_sub_cancel]
  · rw [hc 600 hl]; unfold opb_; rw [if_neg (by omega), Nat.add_sub_cancel]
/-- the class's row and open span -/
def sto_ (o : Option Nat) : Int32 := match o with
  | none => -1
  | some x => Int32.ofNat x
theorem k_one_l (hw : wf_ S) (hv : v < S 0 8) (hwd : w < S 0 8) (hh : h < hs_ S) (hp : p < 6) : ∀ (e t n : Nat) (M : mm_M) (us : List Nat) (o : Option Nat), t + e = S 0 11 + 1 → e < n → cs_ S us M → o.isSome = opb_ S v w h p t → (∀ x, o = some x → x ≤ 600) → beb_ S v w h p t = us ++ o.toList →
    wp_ (f_X11_one_50l n (Int32.ofNat v) (Int32.ofNat w) (Int32.ofNat h) (Int32.ofNat p) (Int32.ofNat (bnb_ S v w h p t)) (sto_ o) (Int32.ofNat t) M) (fun z => z.1 = Int32.ofNat (bnb_ S v w h p (S 0 11 + 1)) ∧ cs_ S (beb_ S v w h p (S 0 11 + 1) ++ (if opb_ S v w h p (S 0 11 + 1) = true then [600] else [])) z.2) := by
  have h6 := hw.laws
  intro e
  induction e with
  | zero =>
    intro t n M us o ht hn hc ho hob hrow
    obtain ⟨m, rfl⟩ : ∃ m, n = m + 1 := ⟨n - 1, by omega⟩
    have htt : t = S 0 11 + 1 := by omega
    have hlen := beb_l (S := S) (v := v) (w := w) (h := h) (p := p) t (by omega)
    rw [hrow, List.length_append] at hlen
    unfold f_X11_one_50l f_X11_one_50 f_X11_one_172 f_X11_tellSpan
    rw [hc.2.1.laws, if_pos ((n3_lt (by omega) (by omega)).mpr (by omega))]
    rw [htt] at ho hrow ⊢
    cases o with
    | none =>
      rw [if_pos (show sto_ none = -1 from rfl), ← ho, hrow]
      refine wp_some ⟨rfl, ?_⟩
      simpa using hc
    | some x =>
      have hx := hob x rfl
      rw [if_neg (show ¬ (sto_ (some x) = -1) from fun hh => (n3_nm (by omega)).mp hh), ← ho, hrow]
      show wp_ (((f_X4_add (Int32.ofNat x).toInt64 M).bind fun z1 => (f_X4_add (600 : Int32).toInt64 z1).bind fun z2 => some z2).bind fun z14 => some (_, z14)) _
      rw [n3_6 (by omega), show (600 : Int32).toInt64 = Int64.ofNat 600 from rfl]
      refine wp_bd (wp_bd (wp_mo (hc.add hw (by omega) _) (fun u hu => wp_bd (wp_mo (hu.1.add hw (by simp; omega) _) (fun u2 hu2 => wp_some (wp_some ⟨rfl, ?_⟩))))))
      simpa using hu2.1
  | succ e ih =>
    intro t n M us o ht hn hc ho hob hrow
    obtain ⟨m, rfl⟩ : ∃ m, n = m + 1 := ⟨n - 1, by omega⟩
    have e1 : Int32.ofNat t + 1 = Int32.ofNat (t + 1) := n3_add t 1
    have hny := ny_le (h := h) hw hp (show t ≤ S 0 11 by omega)
    have hlen := beb_l (S := S) (v := v) (w := w) (h := h) (p := p) t (by omega)
    rw [hrow, List.length_append] at hlen
    obtain ⟨bs1, bs2⟩ := beb_s (S := S) (v := v) (w := w) (h := h) (p := p) (show t ≤ S 0 11 by omega)
    have hop : opb_ S v w h p (t + 1) = alo_ S v w h p (ny_ S h p t) := by
      unfold opb_; rw [if_neg (by omega), Nat.add_sub_cancel]
    unfold f_X11_one_50l f_X11_one_50
    rw [hc.2.1.laws, if_neg (by rw [n3_lt (by omega) (by omega)]; omega)]
    refine wp_be (c_newsYear hc.2.1 hw hh (by omega) hp) ?_
    refine wp_bd (wp_mo (hc.at hw hh (show ny_ S h p t < 1073741824 by omega) hp) (fun z hz => ?_))
    obtain ⟨hc1, W1, pt1, d1, z1, z2, z3, z4⟩ := hz
    unfold f_X11_one_88
    rw [z1]
    refine wp_be (c_form z4 hw z2 hv) (wp_be (c_form z4 hw z2 hwd) ?_)
    rw [z3, sa_sd, sa_sd]
    have ok1 : ok_ (sd_ S v h (ny_ S h p t) p) := sd_ok (nv := no_) hw hv
    have ok2 : ok_ (sd_ S w h (ny_ S h p t) p) := sd_ok (nv := no_) hw hwd
    rw [← ho] at bs1 bs2
    have hn1 : sto_ none = -1 := rfl
    have hs1 : ∀ x, x ≤ 600 → ¬ (sto_ (some x) = -1) := fun x hx hh => (n3_nm (by omega)).mp hh
    by_cases c : sd_ S v h (ny_ S h p t) p = sd_ S w h (ny_ S h p t) p
    · have hal : alo_ S v w h p (ny_ S h p t) = true := decide_eq_true c
      rw [hal] at bs1 bs2 hop
      rw [if_pos (by rw [c])]
      unfold f_X11_one_119
      rw [if_neg (by decide)]
      cases o with
      | none =>
        rw [if_pos hn1]
        unfold f_X11_one_166
        refine wp_sr (wp_sr ?_)
        have go := ih (t + 1) m z.2 us (some (ny_ S h p t)) (by omega) (by omega) hc1 (by rw [hop]; rfl) (fun x hx => by cases hx; exact hny) (by rw [bs1, hrow]; simp)
        rw [bs2] at go
        rw [e1, show Int32.ofNat (bnb_ S v w h p t) + 1 = Int32.ofNat (bnb_ S v w h p t + 1) from n3_add _ 1]
        exact go
      | some x =>
        rw [if_neg (hs1 x (hob x rfl))]
        unfold f_X11_one_142 f_X11_one_166
        rw [if_neg (by decide)]
        refine wp_sr ?_
        have go := ih (t + 1) m z.2 us (some x) (by omega) (by omega) hc1 (by rw [hop]; rfl) hob (by rw [bs1, hrow]; simp)
        rw [bs2] at go
        rw [e1]
        exact go
    · have hal : alo_ S v w h p (ny_ S h p t) = false := decide_eq_false c
      rw [hal] at bs1 bs2 hop
      rw [if_neg (fun he => c ((en_eq ok1 ok2).mp he))]
      unfold f_X11_one_119
      rw [if_pos rfl]
      unfold f_X11_one_142 f_X11_one_166
      rw [if_pos rfl]
      cases o with
      | none =>
        rw [if_pos hn1]
        refine wp_sr ?_
        have go := ih (t + 1) m z.2 us none (by omega) (by omega) hc1 (by rw [hop]; rfl) hob (by rw [bs1, hrow]; simp)
        rw [bs2] at go
        rw [e1]
        exact go
      | some x =>
        have hx := hob x rfl
        rw [if_neg (hs1 x hx)]
        have hpos : 1 ≤ ny_ S h p t := by
          by_cases c0 : ny_ S h p t = 0
          · exfalso
            have ht0 : t ≠ 0 := fun h0 => by
              have : (some x).isSome = opb_ S v w h p t := ho
              rw [h0] at this
              cases this
            obtain ⟨i, rfl⟩ : ∃ i, t = i + 1 := ⟨t - 1, by omega⟩
            have hm := ny_mono (S := S) (h := h) (p := p) (show i ≤ i + 1 by omega) (show i + 1 ≤ S 0 11 by omega)
            have : (some x).isSome = alo_ S v w h p (ny_ S h p i) := by
              have h3 := ho
              unfold opb_ at h3
              rw [if_neg (by omega), Nat.add_sub_cancel] at h3
              exact h3
            rw [show ny_ S h p i = ny_ S h p (i + 1) by omega, hal] at this
            cases this
          · omega
        unfold f_X11_tellSpan
        show wp_ (((f_X4_add (Int32.ofNat x).toInt64 z.2).bind fun z1 => (f_X4_add (Int32.ofNat (ny_ S h p t) - 1).toInt64 z1).bind fun z2 => some z2).bind _) _
        rw [n3_6 (by omega), show Int32.ofNat (ny_ S h p t) - 1 = Int32.ofNat (ny_ S h p t - 1) from n3_sub (a := ny_ S h p t) (b := 1) hpos, n3_6 (by omega)]
        refine wp_bd (wp_bd (wp_mo (hc1.add hw (by omega) _) (fun u hu => wp_bd (wp_mo (hu.1.add hw (by simp; omega) _) (fun u2 hu2 => wp_some (wp_sr ?_))))))
        have go := ih (t + 1) m u2 (us ++ [x] ++ [ny_ S h p t - 1]) none (by omega) (by omega) hu2.1 (by rw [hop]; rfl) (fun x hx => by cases hx) (by rw [bs1, hrow]; simp)
        rw [bs2] at go
        rw [e1]
        exact go
end VT1
