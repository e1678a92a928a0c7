/-! CALLS: eye -/
section VM1
variable {S S' : sg_} {M M0 Mc Mr Z : mm_M} {vs : List Nat} {nv : Nat → Bool} {W : Nat} {pt : Nat → List Nat} {p hi : Nat}
/-- a poet's rhyme -/
def er_ (S : sg_) (p s : Nat) : Bool := decide (S 18 s = 0 ∧ S 24 s = p)
/-- a rhyme as it is spelt -/
def es_ (S : sg_) (s : Nat) : Bool := rh_ S (wd_w S (S 19 s)) (wd_w S (S 20 s))
def ek_ (S : sg_) (p h t s : Nat) : Bool := er_ S p s && decide ((if ho_ S s h = true then (if es_ S s = true then 0 else 1) else (if es_ S s = true then 2 else 3)) = t)
def ez_ (S : sg_) (p h t k : Nat) : Nat := nl_ (ek_ S p h t) (List.range k)
def ea_ (S : sg_) (p k : Nat) : Nat := nl_ (er_ S p) (List.range k)
theorem ez_s {t k : Nat} : ez_ S p hi t (k + 1) = ez_ S p hi t k + (if ek_ S p hi t k = true then 1 else 0) := by
  unfold ez_; rw [List.range_succ, nl_s]
theorem ea_s {k : Nat} : ea_ S p (k + 1) = ea_ S p k + (if er_ S p k = true then 1 else 0) := by
  unfold ea_; rw [List.range_succ, nl_s]
theorem ea_le {k : Nat} : ea_ S p k ≤ k := by
  have := nl_le (f := er_ S p) (hs := List.range k)
  rw [List.length_range] at this; exact this
theorem ek_n {t s : Nat} (h : er_ S p s = false) : ek_ S p hi t s = false := by unfold ek_; rw [h]; rfl
theorem ek_y {t s : Nat} (h : er_ S p s = true) : ek_ S p hi t s = decide ((if ho_ S s hi = true then (if es_ S s = true then 0 else 1) else (if es_ S s = true then 2 else 3)) = t) := by unfold ek_; rw [h]; rfl
theorem ez_sum : ∀ k, ea_ S p k = ez_ S p hi 0 k + ez_ S p hi 1 k + ez_ S p hi 2 k + ez_ S p hi 3 k := by
  intro k
  induction k with
  | zero => rfl
  | succ k ih =>
    rw [ea_s, ez_s, ez_s, ez_s, ez_s]
    cases h : er_ S p k with
    | false => rw [ek_n h, ek_n h, ek_n h, ek_n h]; simp; exact ih
    | true =>
      rw [ek_y h, ek_y h, ek_y h, ek_y h]
      cases ho_ S k hi <;> cases es_ S k <;> simp <;> omega
theorem c_rhymesOf (hI : ic_ S M) (hw : wf_ S) (hp : p < 6) : f_X6_rhymesOf (Int32.ofNat p) M = some (mk_b (er_ S p) (S 0 28)) := by
  have h16 := hw.signs
  have key : ∀ (e k n : Nat), k + e = S 0 28 → e < n → f_X6_rhymesOf_4l M n (Int32.ofNat p) (mk_b (er_ S p) k) (Int32.ofNat k) = some (mk_b (er_ S p) (S 0 28)) := by
    intro e
    induction e with
    | zero =>
      intro k n hk hn
      obtain ⟨m, rfl⟩ : ∃ m, n = m + 1 := ⟨n - 1, by omega⟩
      have hkk : k = S 0 28 := by omega
      unfold f_X6_rhymesOf_4l f_X6_rhymesOf_4
      rw [hI.told, if_pos ((n3_le (by omega) (by omega)).mpr (by omega)), hkk]
    | succ e ih =>
      intro k n hk hn
      obtain ⟨m, rfl⟩ : ∃ m, n = m + 1 := ⟨n - 1, by omega⟩
      have hks : k < S 0 28 := by omega
      have e1 : Int32.ofNat k + 1 = Int32.ofNat (k + 1) := n3_add k 1
      have go := ih (k + 1) m (by omega) (by omega)
      rw [show mk_b (er_ S p) (k + 1) = mk_b (er_ S p) k ||| (if er_ S p k = true then 1 <<< (Int32.ofNat k &&& 31) else 0) from rfl] at go
      obtain ⟨a1, -, -, -, -, -, -, a8, -⟩ := hI.sg k hks
      have hpo := hw.poet k hks
      have hki := hw.kind k hks
      have hix : ix_ok (Int32.ofNat k) 16 := (n3_ix (by omega)).mpr (by omega)
      unfold f_X6_rhymesOf_4l f_X6_rhymesOf_4 f_X6_rhymesOf_44 f_X6_rhymesOf_45
      rw [hI.told, if_neg (by rw [n3_le (by omega) (by omega)]; omega), if_pos hix, if_pos hix, n3_tn (by omega), a1, a8]
      by_cases c : S 18 k = 0
      · rw [if_pos (by rw [c]; rfl)]
        by_cases c2 : S 24 k = p
        · rw [if_pos (by rw [c2]), sq_n, sq_n, e1]
          rw [if_pos (show er_ S p k = true from decide_eq_true ⟨c, c2⟩)] at go
          exact go
        · rw [if_neg (by rw [n3_eq (by omega) (by omega)]; exact c2), sq_n, sq_n, e1]
          rw [if_neg (by rw [show er_ S p k = false from decide_eq_false (fun h => c2 h.2)]; decide)] at go
          exact go
      · rw [if_neg (show ¬ (Int32.ofNat (S 18 k) = 0) from fun h => c ((n3_eq (b := 0) (by omega) (by omega)).mp h)), sq_n, sq_n, e1]
        rw [if_neg (by rw [show er_ S p k = false from decide_eq_false (fun h => c h.1)]; decide)] at go
        exact go
  exact key (S 0 28) 0 fu_ (by omega) (by unfold fu_; omega)
theorem c_eye_s {q : Int32 → Int32 → Int32 → Int32 → Int32 → Int32 → Int32 → mm_M → Option (Int32 × mm_M)} {x2 x3 x4 x5 x6 x7 : Int32} {k : Nat} {now spell : Bool} (hk : k < 16) (hr : f_X9_rhymeOn (0 : Int32) (M.1 (22 + k) 1) (M.1 (22 + k) 2) M = some (bi_ spell)) :
    f_X11_eye_93 q x2 x3 x4 x5 x6 x7 (Int32.ofNat k) (bi_ now) M = q x2 (x3 + bi_ (now && spell)) (x4 + bi_ (now && !spell)) (x5 + bi_ (!now && spell)) (x6 + 1) x7 (Int32.ofNat k + 1) M := by
  have hix : ix_ok (Int32.ofNat k) 16 := (n3_ix (by omega)).mpr hk
  unfold f_X11_eye_93
  rw [if_pos hix, if_pos hix, n3_tn (by omega), hr, Option.bind_some]
  cases now <;> cases spell <;> rfl
theorem k_eye_l (hw : wf_ S) (hp : p < 6) (hhi : hi < hs_ S) (hc : cs_ S vs M) (hl : hl_ S M) : ∀ (e k n : Nat), k + e = S 0 28 → e < n →
    wp_ (f_X11_eye_50l n (Int32.ofNat hi) (Int32.ofNat (ez_ S p hi 0 k)) (Int32.ofNat (ez_ S p hi 1 k)) (Int32.ofNat (ez_ S p hi 2 k)) (Int32.ofNat (ea_ S p k)) (mk_b (er_ S p) (S 0 28)) (Int32.ofNat k) M) (fun z => z.1 = Int32.ofNat (ea_ S p (S 0 28)) ∧ cs_ S [ez_ S p hi 0 (S 0 28), ez_ S p hi 1 (S 0 28), ez_ S p hi 2 (S 0 28), ez_ S p hi 3 (S 0 28)] z.2) := by
  have h16 := hw.signs
  intro e
  induction e with
  | zero =>
    intro k n hk hn
    obtain ⟨m, rfl⟩ : ∃ m, n = m + 1 := ⟨n - 1, by omega⟩
    have hkk : k = S 0 28 := by omega
    have hle := ea_le (S := S) (p := p) (k := S 0 28)
    have hsu := ez_sum (S := S) (p := p) (hi := hi) (S 0 28)
    unfold f_X11_eye_50l f_X11_eye_50 f_X11_eye_198
    rw [hc.2.1.told, if_pos ((n3_le (by omega) (by omega)).mpr (by omega)), hkk, n3_sub (by omega), n3_sub (by omega), n3_sub (by omega), n3_6 (by omega), n3_6 (by omega), n3_6 (by omega), n3_6 (by omega), show ea_ S p (S 0 28) - ez_ S p hi 0 (S 0 28) - ez_ S p hi 1 (S 0 28) - ez_ S p hi 2 (S 0 28) = ez_ S p hi 3 (S 0 28) by omega]
    refine wp_sr (wp_bd (wp_mo ((hc.clear hw).add hw (by simp) _) (fun z hz => ?_)))
    refine wp_bd (wp_mo (hz.1.add hw (by simp) _) (fun z2 hz2 => ?_))
    refine wp_bd (wp_mo (hz2.1.add hw (by simp) _) (fun z3 hz3 => ?_))
    exact wp_bd (wp_mo (hz3.1.add hw (by simp) _) (fun z4 hz4 => wp_some ⟨rfl, hz4.1⟩))
  | succ e ih =>
    intro k n hk hn
    obtain ⟨m, rfl⟩ : ∃ m, n = m + 1 := ⟨n - 1, by omega⟩
    have hks : k < S 0 28 := by omega
    have e1 : Int32.ofNat k + 1 = Int32.ofNat (k + 1) := n3_add k 1
    have go := ih (k + 1) m (by omega) (by omega)
    rw [ez_s, ez_s, ez_s, ea_s] at go
    unfold f_X11_eye_50l f_X11_eye_50
    rw [hc.2.1.told, if_neg (by rw [n3_le (by omega) (by omega)]; omega), ib_bit (by omega), mk_bit (by omega) hks]
    cases her : er_ S p k with
    | false =>
      rw [if_pos (by decide)]
      unfold f_X11_eye_192
      refine wp_sr ?_
      rw [ek_n her, ek_n her, ek_n her, her] at go
      rw [e1]
      exact go
    | true =>
      rw [if_neg (by decide)]
      have her2 := of_decide_eq_true her
      obtain ⟨⟨W, pt, ht⟩, hI, -⟩ := id hc
      obtain ⟨-, s1, s2, -⟩ := hI.sg k hks
      have hrh : f_X9_rhymeOn (0 : Int32) (M.1 (22 + k) 1) (M.1 (22 + k) 2) M = some (bi_ (es_ S k)) := by
        rw [s1, s2 (by omega) (by omega)]
        have := c_rhyme (c := 0) ht hI hw (by have := ht.w1; omega) (hw.one k hks) (hw.oth k hks (by omega) (by omega)).1
        rw [ht.root] at this
        exact this
      refine wp_be (c_held hw hhi) ?_
      rw [ib_bit (by omega), hl k hi hks hhi]
      have st := fun now => c_eye_s (q := f_X11_eye_50l m) (x2 := Int32.ofNat hi) (x3 := Int32.ofNat (ez_ S p hi 0 k)) (x4 := Int32.ofNat (ez_ S p hi 1 k)) (x5 := Int32.ofNat (ez_ S p hi 2 k)) (x6 := Int32.ofNat (ea_ S p k)) (x7 := mk_b (er_ S p) (S 0 28)) (now := now) (show k < 16 by omega) hrh
      rw [ek_y her, ek_y her, ek_y her, her, if_pos rfl] at go
      have ea : Int32.ofNat (ea_ S p k) + 1 = Int32.ofNat (ea_ S p k + 1) := n3_add _ 1
      have z0 : ∀ x, Int32.ofNat x + bi_ false = Int32.ofNat (x + 0) := fun x => n3_add x 0
      have z1 : ∀ x, Int32.ofNat x + bi_ true = Int32.ofNat (x + 1) := fun x => n3_add x 1
      cases hho : ho_ S k hi with
      | false =>
        rw [if_pos (by decide), show f_X11_eye_93 (f_X11_eye_50l m) (Int32.ofNat hi) (Int32.ofNat (ez_ S p hi 0 k)) (Int32.ofNat (ez_ S p hi 1 k)) (Int32.ofNat (ez_ S p hi 2 k)) (Int32.ofNat (ea_ S p k)) (mk_b (er_ S p) (S 0 28)) (Int32.ofNat k) 0 M = _ from st false, e1, ea]
        cases hes : es_ S k with
        | false =>
          rw [hho, hes] at go
          rw [show (false && false) = false from rfl, show (false && !false) = false from rfl, show (!false && false) = false from rfl, z0, z0, z0]
          exact go
        | true =>
          rw [hho, hes] at go
          rw [show (false && true) = false from rfl, show (false && !true) = false from rfl, show (!false && true) = true from rfl, z0, z0, z1]
          exact go
      | true =>
        rw [if_neg (by decide), show f_X11_eye_93 (f_X11_eye_50l m) (Int32.ofNat hi) (Int32.ofNat (ez_ S p hi 0 k)) (Int32.ofNat (ez_ S p hi 1 k)) (Int32.ofNat (ez_ S p hi 2 k)) (Int32.ofNat (ea_ S p k)) (mk_b (er_ S p) (S 0 28)) (Int32.ofNat k) 1 M = _ from st true, e1, ea]
        cases hes : es_ S k with
        | false =>
          rw [hho, hes] at go
          rw [show (true && false) = false from rfl, show (true && !false) = true from rfl, show (!true && false) = false from rfl, z0, z1, z0]
          exact go
        | true =>
          rw [hho, hes] at go
          rw [show (true && true) = true from rfl, show (true && !true) = false from rfl, show (!true && true) = false from rfl, z1, z0, z0]
          exact go
end VM1
