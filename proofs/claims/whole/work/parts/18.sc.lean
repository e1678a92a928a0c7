/-! THE CLASS: what its memory holds; courses -/
theorem sq_n {α β : Type} {x : α} {f : α → β} : sq_ x f = f x := Eq.trans (Eq.refl (f x)) (Eq.refl (f x))
def bv_ (B : Nat) : List Nat → Nat
  | [] => 0
  | x :: xs => x + B * bv_ B xs
def or_ (S : sg_) (h : Nat) : List Nat := od_ (fun l => yr_ S l h) (fun _ => true) (S 0 11)
def sc_ (S : sg_) (M : mm_M) (s : Nat) : Prop := M.1 (22 + s) 0 = Int32.ofNat (S 18 s) ∧ M.1 (22 + s) 1 = Int32.ofNat (S 19 s) ∧ (S 18 s ≠ 2 → S 18 s ≠ 3 → M.1 (22 + s) 2 = Int32.ofNat (S 20 s)) ∧ (S 18 s = 2 ∨ S 18 s = 3 → M.1 (22 + s) 2 = Int32.ofNat (S 19 s)) ∧ (S 18 s = 2 ∨ S 18 s = 3 → M.1 (22 + s) 3 = Int32.ofNat (S 23 s)) ∧ M.1 (22 + s) 4 = Int32.ofNat (S 21 s) ∧ M.1 (22 + s) 5 = Int32.ofNat (S 22 s) ∧ M.1 (22 + s) 6 = Int32.ofNat (S 24 s) ∧ M.1 (22 + s) 7 = Int32.ofNat (S 25 s)
def kp_ (S : sg_) (M : mm_M) (i : Nat) : Prop := M.1 (51 + 5 * i) 0 = Int32.ofNat (S 36 i) ∧ (S 36 i = 1 → M.1 (51 + 5 * i) 1 = Int32.ofNat (S 37 i) ∧ M.1 (51 + 5 * i) 2 = mk_b (fun s => decide (S 38 (16 * i + s) = 1)) (S 37 i) ∧ (∀ s, s < S 37 i → M.1 (52 + 5 * i) s = Int32.ofNat (S 39 (16 * i + s)) ∧ M.1 (53 + 5 * i) s = Int32.ofNat (S 40 (16 * i + s))) ∧ (∀ k, k < 6 → M.1 (54 + 5 * i) k = Int32.ofNat (S 41 (6 * i + k)) ∧ M.1 (55 + 5 * i) k = Int32.ofNat (S 42 (6 * i + k))))
def ic_ (S : sg_) (M : mm_M) : Prop :=
  (M.1 1 1 = Int32.ofNat (S 0 4)) ∧
  (∀ j, j < S 0 4 → M.1 2 j = Int32.ofNat (S 2 j)) ∧
  (M.1 5 1 = Int32.ofNat (S 0 11)) ∧
  (M.1 5 2 = Int32.ofNat (S 0 8)) ∧
  (∀ c, c < 6 → M.1 7 c = Int32.ofNat (S 3 c)) ∧
  (∀ l, l < S 0 11 → lo_ S M l) ∧
  (M.1 14 2 = Int32.ofNat (hs_ S)) ∧
  (M.1 14 3 = Int32.ofNat (S 0 11)) ∧
  (∀ p, p < 6 → M.1 15 p = Int32.ofNat (S 13 p)) ∧
  (∀ h, h < hs_ S → M.1 16 h = Int32.ofNat (bv_ 8 (or_ S h))) ∧
  (∀ h, h < hs_ S → M.2.1 17 h = Int64.ofNat (bv_ 512 ((or_ S h).map (fun l => yr_ S l h)))) ∧
  (∀ l, l < S 0 11 → M.1 18 l = Int32.ofNat (S 10 l)) ∧
  (M.1 19 3 = Int32.ofNat (S 0 28)) ∧
  (M.1 19 4 = mk_b (fun s => decide (S 26 s = 1)) (S 0 28)) ∧
  (∀ s, s < S 0 28 → sc_ S M s) ∧
  (∀ i, i < 3 → kp_ S M i) ∧
  (∀ s, S 0 28 ≤ s → s < 16 → M.1 (22 + s) 6 = Int32.ofNat 0 ∧ M.1 (22 + s) 7 = Int32.ofNat 5)
theorem ic_.tp {S : sg_} {M : mm_M} (h : ic_ S M) : M.1 1 1 = Int32.ofNat (S 0 4) := h.1
theorem ic_.tape {S : sg_} {M : mm_M} (h : ic_ S M) : ∀ j, j < S 0 4 → M.1 2 j = Int32.ofNat (S 2 j) := h.2.1
theorem ic_.laws {S : sg_} {M : mm_M} (h : ic_ S M) : M.1 5 1 = Int32.ofNat (S 0 11) := h.2.2.1
theorem ic_.words {S : sg_} {M : mm_M} (h : ic_ S M) : M.1 5 2 = Int32.ofNat (S 0 8) := h.2.2.2.1
theorem ic_.cl {S : sg_} {M : mm_M} (h : ic_ S M) : ∀ c, c < 6 → M.1 7 c = Int32.ofNat (S 3 c) := h.2.2.2.2.1
theorem ic_.lo {S : sg_} {M : mm_M} (h : ic_ S M) : ∀ l, l < S 0 11 → lo_ S M l := h.2.2.2.2.2.1
theorem ic_.hs {S : sg_} {M : mm_M} (h : ic_ S M) : M.1 14 2 = Int32.ofNat (hs_ S) := h.2.2.2.2.2.2.1
theorem ic_.laws2 {S : sg_} {M : mm_M} (h : ic_ S M) : M.1 14 3 = Int32.ofNat (S 0 11) := h.2.2.2.2.2.2.2.1
theorem ic_.lag {S : sg_} {M : mm_M} (h : ic_ S M) : ∀ p, p < 6 → M.1 15 p = Int32.ofNat (S 13 p) := h.2.2.2.2.2.2.2.2.1
theorem ic_.ord {S : sg_} {M : mm_M} (h : ic_ S M) : ∀ h, h < hs_ S → M.1 16 h = Int32.ofNat (bv_ 8 (or_ S h)) := h.2.2.2.2.2.2.2.2.2.1
theorem ic_.yrs {S : sg_} {M : mm_M} (h : ic_ S M) : ∀ h, h < hs_ S → M.2.1 17 h = Int64.ofNat (bv_ 512 ((or_ S h).map (fun l => yr_ S l h))) := h.2.2.2.2.2.2.2.2.2.2.1
theorem ic_.fy {S : sg_} {M : mm_M} (h : ic_ S M) : ∀ l, l < S 0 11 → M.1 18 l = Int32.ofNat (S 10 l) := h.2.2.2.2.2.2.2.2.2.2.2.1
theorem ic_.told {S : sg_} {M : mm_M} (h : ic_ S M) : M.1 19 3 = Int32.ofNat (S 0 28) := h.2.2.2.2.2.2.2.2.2.2.2.2.1
theorem ic_.on {S : sg_} {M : mm_M} (h : ic_ S M) : M.1 19 4 = mk_b (fun s => decide (S 26 s = 1)) (S 0 28) := h.2.2.2.2.2.2.2.2.2.2.2.2.2.1
theorem ic_.sg {S : sg_} {M : mm_M} (h : ic_ S M) : ∀ s, s < S 0 28 → sc_ S M s := h.2.2.2.2.2.2.2.2.2.2.2.2.2.2.1
theorem ic_.kept {S : sg_} {M : mm_M} (h : ic_ S M) : ∀ i, i < 3 → kp_ S M i := h.2.2.2.2.2.2.2.2.2.2.2.2.2.2.2.1
theorem ic_.fresh {S : sg_} {M : mm_M} (h : ic_ S M) : ∀ s, S 0 28 ≤ s → s < 16 → M.1 (22 + s) 6 = Int32.ofNat 0 ∧ M.1 (22 + s) 7 = Int32.ofNat 5 := h.2.2.2.2.2.2.2.2.2.2.2.2.2.2.2.2
/-- what of the class's memory lasts -/
def pc_ (S : sg_) (a b : Nat) : Prop :=
  (a = 1 ∧ b = 1) ∨ (a = 2 ∧ b < S 0 4) ∨ (a = 5 ∧ (b = 1 ∨ b = 2)) ∨ (a = 7 ∧ b < 6) ∨ (8 ≤ a ∧ a < 8 + S 0 11 ∧ b < 7) ∨ (a = 14 ∧ (b = 2 ∨ b = 3)) ∨ (a = 15 ∧ b < 6) ∨ (a = 16 ∧ b < hs_ S) ∨ (a = 18 ∧ b < S 0 11) ∨
  (a = 19 ∧ (b = 3 ∨ b = 4)) ∨ (22 ≤ a ∧ a < 38 ∧ b < 8) ∨ (51 ≤ a ∧ a < 66)
theorem ic_.fr {S : sg_} {M M' : mm_M} (hsg : S 0 28 ≤ 16) (h : ic_ S M) (h1 : ∀ a b, pc_ S a b → M'.1 a b = M.1 a b) (h2 : ∀ j, j < hs_ S → M'.2.1 17 j = M.2.1 17 j) : ic_ S M' := by
  refine ⟨?_, ?_, ?_, ?_, ?_, ?_, ?_, ?_, ?_, ?_, ?_, ?_, ?_, ?_, ?_, ?_, ?_⟩
  · rw [h1 1 1 (by simp [pc_])]; exact h.tp
  · intro j hj; rw [h1 2 j (by simp [pc_, hj])]; exact h.tape j hj
  · rw [h1 5 1 (by simp [pc_])]; exact h.laws
  · rw [h1 5 2 (by simp [pc_])]; exact h.words
  · intro j hj; rw [h1 7 j (by simp [pc_, hj])]; exact h.cl j hj
  · intro l hl
    have q : ∀ b, b < 7 → M'.1 (8 + l) b = M.1 (8 + l) b := fun b hb => h1 (8 + l) b (by unfold pc_; omega)
    have hh := h.lo l hl
    unfold lo_ at hh ⊢
    rw [q 0 (by omega), q 1 (by omega), q 2 (by omega), q 3 (by omega), q 4 (by omega), q 5 (by omega), q 6 (by omega)]
    exact hh
  · rw [h1 14 2 (by simp [pc_])]; exact h.hs
  · rw [h1 14 3 (by simp [pc_])]; exact h.laws2
  · intro j hj; rw [h1 15 j (by simp [pc_, hj])]; exact h.lag j hj
  · intro j hj; rw [h1 16 j (by simp [pc_, hj])]; exact h.ord j hj
  · intro j hj; rw [h2 j hj]; exact h.yrs j hj
  · intro j hj; rw [h1 18 j (by simp [pc_, hj])]; exact h.fy j hj
  · rw [h1 19 3 (by simp [pc_])]; exact h.told
  · rw [h1 19 4 (by simp [pc_])]; exact h.on
  · intro s hs
    have q : ∀ b, b < 8 → M'.1 (22 + s) b = M.1 (22 + s) b := fun b hb => h1 (22 + s) b (by unfold pc_; omega)
    have hh := h.sg s hs
    unfold sc_ at hh ⊢
    rw [q 0 (by omega), q 1 (by omega), q 2 (by omega), q 3 (by omega), q 4 (by omega), q 5 (by omega), q 6 (by omega), q 7 (by omega)]
    exact hh
  · intro i hi
    have q : ∀ a b, 51 ≤ a → a < 66 → M'.1 a b = M.1 a b := fun a b h5 h6 => h1 a b (by unfold pc_; omega)
    have hh := h.kept i hi
    unfold kp_ at hh ⊢
    rw [q _ 0 (by omega) (by omega), q _ 1 (by omega) (by omega), q _ 2 (by omega) (by omega)]
    refine ⟨hh.1, fun hk => ?_⟩
    obtain ⟨a1, a2, a3, a4⟩ := hh.2 hk
    refine ⟨a1, a2, fun s hs => ?_, fun k hk2 => ?_⟩
    · rw [q _ s (by omega) (by omega), q _ s (by omega) (by omega)]; exact a3 s hs
    · rw [q _ k (by omega) (by omega), q _ k (by omega) (by omega)]; exact a4 k hk2
  · intro s h3 h4
    rw [h1 (22 + s) 6 (by unfold pc_; omega), h1 (22 + s) 7 (by unfold pc_; omega)]; exact h.fresh s h3 h4
def tc_ (S : sg_) (M : mm_M) (W : Nat) (pt : Nat → List Nat) : Prop :=
  (M.1 5 4 = Int32.ofNat W) ∧
  (1 ≤ W) ∧
  (W ≤ M.2.2) ∧
  (∃ k, k ≤ 12 ∧ M.2.2 = 32 * 2 ^ k) ∧
  (pt 0 = []) ∧
  (∀ c, c < W → ∀ l, l ∈ pt c → l < S 0 11) ∧
  (∀ c, c < W → (pt c).Nodup) ∧
  (∀ c d, c < W → d < W → pt c = pt d → c = d) ∧
  (∀ f, f < W → ∀ p j, pt f = p ++ [j] → ∃ g, g < W ∧ pt g = p) ∧
  (∀ c l, c < W → l < 6 → ∃ d, M.1 70 (c * 6 + l) = Int32.ofNat d ∧ d < W ∧ (d ≠ 0 → pt d = pt c ++ [l]) ∧ (d = 0 → ∀ e, e < W → pt e ≠ pt c ++ [l])) ∧
  (∀ i, W * 6 ≤ i → i < 6 * M.2.2 → M.1 70 i = 0) ∧
  (∀ c w, c < W → w < S 0 8 → M.2.1 71 (c * 20 + w) = Int64.ofNat (en_ (sa_l S (pt c) (wd_w S w))))
theorem tc_.wk {S : sg_} {M : mm_M} {W : Nat} {pt : Nat → List Nat} (h : tc_ S M W pt) : M.1 5 4 = Int32.ofNat W := h.1
theorem tc_.w1 {S : sg_} {M : mm_M} {W : Nat} {pt : Nat → List Nat} (h : tc_ S M W pt) : 1 ≤ W := h.2.1
theorem tc_.cap {S : sg_} {M : mm_M} {W : Nat} {pt : Nat → List Nat} (h : tc_ S M W pt) : W ≤ M.2.2 := h.2.2.1
theorem tc_.pow {S : sg_} {M : mm_M} {W : Nat} {pt : Nat → List Nat} (h : tc_ S M W pt) : ∃ k, k ≤ 12 ∧ M.2.2 = 32 * 2 ^ k := h.2.2.2.1
theorem tc_.root {S : sg_} {M : mm_M} {W : Nat} {pt : Nat → List Nat} (h : tc_ S M W pt) : pt 0 = [] := h.2.2.2.2.1
theorem tc_.lt {S : sg_} {M : mm_M} {W : Nat} {pt : Nat → List Nat} (h : tc_ S M W pt) : ∀ c, c < W → ∀ l, l ∈ pt c → l < S 0 11 := h.2.2.2.2.2.1
theorem tc_.nd {S : sg_} {M : mm_M} {W : Nat} {pt : Nat → List Nat} (h : tc_ S M W pt) : ∀ c, c < W → (pt c).Nodup := h.2.2.2.2.2.2.1
theorem tc_.inj {S : sg_} {M : mm_M} {W : Nat} {pt : Nat → List Nat} (h : tc_ S M W pt) : ∀ c d, c < W → d < W → pt c = pt d → c = d := h.2.2.2.2.2.2.2.1
theorem tc_.pre {S : sg_} {M : mm_M} {W : Nat} {pt : Nat → List Nat} (h : tc_ S M W pt) : ∀ f, f < W → ∀ p j, pt f = p ++ [j] → ∃ g, g < W ∧ pt g = p := h.2.2.2.2.2.2.2.2.1
theorem tc_.fol {S : sg_} {M : mm_M} {W : Nat} {pt : Nat → List Nat} (h : tc_ S M W pt) : ∀ c l, c < W → l < 6 → ∃ d, M.1 70 (c * 6 + l) = Int32.ofNat d ∧ d < W ∧ (d ≠ 0 → pt d = pt c ++ [l]) ∧ (d = 0 → ∀ e, e < W → pt e ≠ pt c ++ [l]) := h.2.2.2.2.2.2.2.2.2.1
theorem tc_.zero {S : sg_} {M : mm_M} {W : Nat} {pt : Nat → List Nat} (h : tc_ S M W pt) : ∀ i, W * 6 ≤ i → i < 6 * M.2.2 → M.1 70 i = 0 := h.2.2.2.2.2.2.2.2.2.2.1
theorem tc_.frm {S : sg_} {M : mm_M} {W : Nat} {pt : Nat → List Nat} (h : tc_ S M W pt) : ∀ c w, c < W → w < S 0 8 → M.2.1 71 (c * 20 + w) = Int64.ofNat (en_ (sa_l S (pt c) (wd_w S w))) := h.2.2.2.2.2.2.2.2.2.2.2
/-- courses stay what they are -/
def px_ (W : Nat) (p : Nat → List Nat) (W' : Nat) (p' : Nat → List Nat) : Prop := W ≤ W' ∧ ∀ c, c < W → p' c = p c
theorem px_.refl {W : Nat} {p : Nat → List Nat} : px_ W p W p := ⟨Nat.le_refl _, fun _ _ => rfl⟩
theorem px_.trans {W W1 W2 : Nat} {p p1 p2 : Nat → List Nat} (h1 : px_ W p W1 p1) (h2 : px_ W1 p1 W2 p2) : px_ W p W2 p2 :=
  ⟨Nat.le_trans h1.1 h2.1, fun c hc => (h2.2 c (Nat.lt_of_lt_of_le hc h1.1)).trans (h1.2 c hc)⟩
/-- only courses have changed -/
def fc_ (M M' : mm_M) : Prop := (∀ a b, a ≠ 70 → ¬ (a = 5 ∧ b = 4) → M'.1 a b = M.1 a b) ∧ (∀ a, a ≠ 71 → M'.2.1 a = M.2.1 a)
theorem fc_.refl {M : mm_M} : fc_ M M := ⟨fun _ _ _ _ => rfl, fun _ _ => rfl⟩
theorem fc_.trans {M M1 M2 : mm_M} (h1 : fc_ M M1) (h2 : fc_ M1 M2) : fc_ M M2 :=
  ⟨fun a b h h' => (h2.1 a b h h').trans (h1.1 a b h h'), fun a h => (h2.2 a h).trans (h1.2 a h)⟩
theorem fc_.ic {S : sg_} {M M' : mm_M} (hw : wf_ S) (hf : fc_ M M') (h : ic_ S M) : ic_ S M' := by
  have h6 := hw.laws
  have h16 := hw.signs
  exact h.fr h16 (fun a b hp => hf.1 a b (by unfold pc_ at hp; omega) (by unfold pc_ at hp; omega)) (fun j _ => by rw [hf.2 17 (by omega)])
/-! how many courses there can be -/
theorem ph_ : ∀ (n : Nat) (xs : List Nat), xs.Nodup → (∀ x, x ∈ xs → x < n) → xs.length ≤ n := by
  intro n
  induction n with
  | zero =>
    intro xs _ h
    cases xs with
    | nil => exact Nat.le_refl _
    | cons x xs => have := h x (by simp); omega
  | succ n ih =>
    intro xs hn h
    by_cases hm : n ∈ xs
    · have h1 := ih (xs.erase n) (hn.erase n) (fun x hx => by
        have h2 := hn.mem_erase_iff.mp hx
        have := h x h2.2
        have := h2.1
        omega)
      rw [List.length_erase_of_mem hm] at h1
      omega
    · have := ih xs hn (fun x hx => by
        have := h x hx
        have : x ≠ n := fun he => hm (by rw [← he]; exact hx)
        omega)
      omega
def c7_ : List Nat → Nat
  | [] => 0
  | x :: xs => (x + 1) + 7 * c7_ xs
theorem c7_lt : ∀ xs : List Nat, (∀ x, x ∈ xs → x < 6) → c7_ xs < 7 ^ xs.length := by
  intro xs
  induction xs with
  | nil => intro _; exact Nat.one_pos
  | cons x xs ih =>
    intro h
    have h1 := h x (by simp)
    have h2 := ih (fun z hz => h z (by simp [hz]))
    rw [List.length_cons, Nat.pow_succ]
    show (x + 1) + 7 * c7_ xs < _
    omega
theorem c7_inj : ∀ (xs ys : List Nat), (∀ x, x ∈ xs → x < 6) → (∀ x, x ∈ ys → x < 6) → c7_ xs = c7_ ys → xs = ys := by
  intro xs
  induction xs with
  | nil =>
    intro ys _ _ h
    cases ys with
    | nil => rfl
    | cons y ys => have : 0 = (y + 1) + 7 * c7_ ys := h; omega
  | cons x xs ih =>
    intro ys h1 h2 h
    cases ys with
    | nil => have : (x + 1) + 7 * c7_ xs = 0 := h; omega
    | cons y ys =>
      have h' : (x + 1) + 7 * c7_ xs = (y + 1) + 7 * c7_ ys := h
      have a := h1 x (by simp)
      have b := h2 y (by simp)
      rw [show x = y from by omega, ih ys (fun z hz => h1 z (by simp [hz])) (fun z hz => h2 z (by simp [hz])) (by omega)]
theorem tc_.bound {S : sg_} {M : mm_M} {W : Nat} {pt : Nat → List Nat} (h : tc_ S M W pt) (hw : wf_ S) : W ≤ 117649 := by
  have h6 := hw.laws
  have key := ph_ 117649 ((List.range W).map (fun c => c7_ (pt c))) ?_ ?_
  · simpa using key
  · unfold List.Nodup
    rw [List.pairwise_map]
    refine List.Pairwise.imp_of_mem ?_ List.nodup_range
    intro a b ha hb hne heq
    have ha' := List.mem_range.mp ha
    have hb' := List.mem_range.mp hb
    apply hne
    exact h.inj a b ha' hb' (c7_inj _ _ (fun x hx => by have := h.lt a ha' x hx; omega) (fun x hx => by have := h.lt b hb' x hx; omega) heq)
  · intro x hx
    rw [List.mem_map] at hx
    obtain ⟨c, hc, rfl⟩ := hx
    have hc' := List.mem_range.mp hc
    have hlt : ∀ x, x ∈ pt c → x < 6 := fun x hx => by have := h.lt c hc' x hx; omega
    have h1 := c7_lt (pt c) hlt
    have h2 := ph_ 6 (pt c) (h.nd c hc') hlt
    have h3 : 7 ^ (pt c).length ≤ 7 ^ 6 := Nat.pow_le_pow_right (n := 7) (by omega) h2
    have h4 : 7 ^ 6 = 117649 := by decide
    omega
theorem pow_le {k : Nat} (h : k ≤ 12) : 32 * 2 ^ k ≤ 131072 := by
  have : 2 ^ k ≤ 2 ^ 12 := Nat.pow_le_pow_right (n := 2) (by omega) h
  omega
section SC1
variable {S : sg_} {M : mm_M} {W : Nat} {pt : Nat → List Nat}
theorem tc_.capb (h : tc_ S M W pt) : M.2.2 ≤ 131072 := by
  obtain ⟨k, hk, he⟩ := h.pow
  rw [he]; exact pow_le hk
/-- room for one course more -/
theorem c_room (h : tc_ S M W pt) (hw : wf_ S) : wp_ (f_X9_makeRoom M) (fun M' => tc_ S M' W pt ∧ fc_ M M' ∧ W + 1 ≤ M'.2.2) := by
  have hb := h.bound hw
  have hc := h.capb
  have h20 := hw.words
  have hcap := h.cap
  unfold f_X9_makeRoom
  have e : ((M.1 5 4) + 1) * 6 = Int32.ofNat ((W + 1) * 6) := by
    rw [h.wk]
    show (_ + Int32.ofNat 1) * Int32.ofNat 6 = _
    rw [n3_add, n3_mul]
  rw [e]
  by_cases c : (W + 1) * 6 ≤ 6 * M.2.2
  · rw [if_pos ((n3_le (by omega) (by omega)).mpr c)]
    exact wp_some ⟨h, fc_.refl, by omega⟩
  · rw [if_neg (by rw [n3_le (by omega) (by omega)]; exact c)]
    obtain ⟨k, hk, he⟩ := h.pow
    have hk2 : k ≤ 11 := by
      rcases Nat.lt_or_ge k 12 with h1 | h1
      · omega
      · have : k = 12 := by omega
        rw [this] at he
        omega
    have hp : 32 * 2 ^ k ≤ 65536 := by
      have : 2 ^ k ≤ 2 ^ 11 := Nat.pow_le_pow_right (n := 2) (by omega) hk2
      omega
    have h1 : 1 ≤ 2 ^ k := Nat.one_le_two_pow
    rw [if_pos ⟨by omega, by omega⟩]
    refine wp_some ⟨⟨?_, h.w1, ?_, ⟨k + 1, by omega, ?_⟩, h.root, h.lt, h.nd, h.inj, h.pre, ?_, ?_, ?_⟩, ⟨?_, ?_⟩, ?_⟩
    · rw [show (mk_gr M).1 5 4 = M.1 5 4 from rfl]; exact h.wk
    · show W ≤ 2 * M.2.2
      omega
    · show 2 * M.2.2 = _
      rw [he, Nat.pow_succ]; omega
    · intro c l hc hl
      show ∃ d, (if (70 : Nat) = 70 then (if c * 6 + l < 6 * M.2.2 then M.1 70 (c * 6 + l) else 0) else M.1 70 (c * 6 + l)) = _ ∧ _
      rw [if_pos rfl, if_pos (by omega)]
      exact h.fol c l hc hl
    · intro i h1 h2
      show (if (70 : Nat) = 70 then (if i < 6 * M.2.2 then M.1 70 i else 0) else M.1 70 i) = 0
      rw [if_pos rfl]
      by_cases hi : i < 6 * M.2.2
      · rw [if_pos hi]; exact h.zero i h1 hi
      · rw [if_neg hi]
    · intro c w hc hwd
      show (if (71 : Nat) = 71 then (if c * 20 + w < 20 * M.2.2 then M.2.1 71 (c * 20 + w) else 0) else M.2.1 71 (c * 20 + w)) = _
      rw [if_pos rfl, if_pos (by omega)]
      exact h.frm c w hc hwd
    · intro a b ha _
      show (if a = 70 then _ else M.1 a b) = _
      rw [if_neg ha]
    · intro a ha
      funext b
      show (if a = 71 then _ else M.2.1 a b) = _
      rw [if_neg ha]
    · show W + 1 ≤ 2 * M.2.2
      have := h.w1
      omega
theorem sa_app {ls : List Nat} {l : Nat} {xs : List Nat} : sa_l S (ls ++ [l]) xs = lw_on S l (sa_l S ls xs) := by
  unfold sa_l
  rw [List.foldl_append]; rfl
/-- a new course's forms are made -/
theorem c_af_l (hw : wf_ S) (hI : ∀ l, l < S 0 11 → lo_ S M l) {c l : Nat} (hc : c < W) (hl : l < S 0 11) (h2w : M.1 5 2 = Int32.ofNat (S 0 8)) (hnew : ∀ e, e < W → pt e ≠ pt c ++ [l]) (hnm : l ∉ pt c) :
    ∀ (d k : Nat) (M' : mm_M) (n : Nat), k + d = S 0 8 → d < n → tc_ S M' W pt → (∀ a b, M'.1 a b = M.1 a b) → (∀ a, a ≠ 71 → M'.2.1 a = M.2.1 a) → W + 1 ≤ M'.2.2 →
    (∀ w, w < k → M'.2.1 71 (W * 20 + w) = Int64.ofNat (en_ (sa_l S (pt c ++ [l]) (wd_w S w)))) →
    wp_ (f_X9_courseAfter_23l n (Int32.ofNat c) (Int32.ofNat l) (Int32.ofNat (c * 6 + l)) (Int32.ofNat k) M') (fun z => z.1 = Int32.ofNat W ∧ fc_ M z.2 ∧ tc_ S z.2 (W + 1) (fun e => if e = W then pt c ++ [l] else pt e)) := by
  have h20 := hw.words
  have h6 := hw.laws
  intro d
  induction d with
  | zero =>
    intro k M' n hk hn h h1 hlg hcp hf
    obtain ⟨m, rfl⟩ : ∃ m, n = m + 1 := ⟨n - 1, by omega⟩
    have hb := h.bound hw
    have hcb := h.capb
    unfold f_X9_courseAfter_23l f_X9_courseAfter_23
    rw [h1 5 2, h2w, if_pos ((n3_le (by omega) (by omega)).mpr (by omega))]
    unfold f_X9_courseAfter_74
    refine wp_ck ((n3_ix (by omega)).mpr (by omega)) (wp_sr (wp_sr ?_))
    unfold f_X9_courseAfter_94
    refine wp_ck ((n3_ix (by omega)).mpr (by show _ < 6 * M'.2.2; omega)) ?_
    simp only [n3_tn (show c * 6 + l < 2147483648 by omega), h.wk]
    have e1 : (mm_si M' 70 (c * 6 + l) (Int32.ofNat W)).1 5 4 + 1 = Int32.ofNat (W + 1) := by
      rw [si_1, if_neg (by omega), h.wk]; exact n3_add W 1
    rw [e1]
    refine wp_some ⟨?_, ⟨?_, ?_⟩, ⟨?_, by omega, hcp, h.pow, ?_, ?_, ?_, ?_, ?_, ?_, ?_, ?_⟩⟩
    · show (mm_si (mm_si M' 70 (c * 6 + l) (Int32.ofNat W)) 5 4 (Int32.ofNat (W + 1))).1 70 (c * 6 + l) = _
      rw [si_1, if_neg (by omega), si_1, if_pos ⟨rfl, rfl⟩]
    · intro a b ha hab
      show (mm_si _ 5 4 _).1 a b = _
      rw [si_1, if_neg hab, si_1, if_neg (by omega), h1]
    · intro a ha; exact hlg a ha
    · show (mm_si _ 5 4 _).1 5 4 = _
      rw [si_1, if_pos ⟨rfl, rfl⟩]
    · show (if (0 : Nat) = W then _ else pt 0) = []
      have := h.w1
      rw [if_neg (by omega)]; exact h.root
    · intro e he x hx
      by_cases hew : e = W
      · have hx2 : x ∈ pt c ++ [l] := by simpa [hew] using hx
        rw [List.mem_append] at hx2
        rcases hx2 with h3 | h3
        · exact h.lt c hc x h3
        · rw [List.mem_singleton] at h3; rw [h3]; exact hl
      · have hx2 : x ∈ pt e := by simpa [hew] using hx
        exact h.lt e (by omega) x hx2
    · intro e he
      by_cases hew : e = W
      · show (if e = W then pt c ++ [l] else pt e).Nodup
        rw [if_pos hew, List.nodup_append]
        refine ⟨h.nd c hc, by simp, ?_⟩
        intro a ha b hb2 hab
        rw [List.mem_singleton] at hb2
        rw [hab, hb2] at ha
        exact hnm ha
      · show (if e = W then pt c ++ [l] else pt e).Nodup
        rw [if_neg hew]; exact h.nd e (by omega)
    · intro a b ha hb2 hab
      have hab' : (if a = W then pt c ++ [l] else pt a) = (if b = W then pt c ++ [l] else pt b) := hab
      by_cases haw : a = W
      · by_cases hbw : b = W
        · omega
        · rw [if_pos haw, if_neg hbw] at hab'
          exact absurd hab'.symm (hnew b (by omega))
      · by_cases hbw : b = W
        · rw [if_neg haw, if_pos hbw] at hab'
          exact absurd hab' (hnew a (by omega))
        · rw [if_neg haw, if_neg hbw] at hab'
          exact h.inj a b (by omega) (by omega) hab'
    · intro f hf2 p j hp
      have hp' : (if f = W then pt c ++ [l] else pt f) = p ++ [j] := hp
      by_cases hfw : f = W
      · rw [if_pos hfw] at hp'
        have h7 := List.append_inj' hp' rfl
        refine ⟨c, by omega, ?_⟩
        show (if c = W then _ else pt c) = p
        rw [if_neg (by omega)]; exact h7.1
      · rw [if_neg hfw] at hp'
        obtain ⟨g, hg, hgp⟩ := h.pre f (by omega) p j hp'
        refine ⟨g, by omega, ?_⟩
        show (if g = W then _ else pt g) = p
        rw [if_neg (by omega)]; exact hgp
    · intro e j he hj
      show ∃ dd, (mm_si _ 5 4 _).1 70 _ = _ ∧ _
      rw [si_1, if_neg (by omega), si_1]
      by_cases hel : e * 6 + j = c * 6 + l
      · have hec : e = c := by omega
        have hjl : j = l := by omega
        subst hec
        subst hjl
        rw [if_pos ⟨rfl, rfl⟩]
        refine ⟨W, rfl, by omega, fun _ => ?_, fun hw0 => ?_⟩
        · show (if W = W then pt e ++ [j] else pt W) = (if e = W then pt e ++ [j] else pt e) ++ [j]
          rw [if_pos rfl, if_neg (by omega)]
        · have := h.w1; omega
      · rw [if_neg (by omega)]
        by_cases hew : e = W
        · have hz := h.zero (e * 6 + j) (by omega) (by omega)
          refine ⟨0, hz, by omega, fun h0 => absurd rfl h0, fun _ f hf2 hff => ?_⟩
          have hff' : (if f = W then pt c ++ [l] else pt f) = (if e = W then pt c ++ [l] else pt e) ++ [j] := hff
          rw [if_pos hew] at hff'
          by_cases hfw : f = W
          · rw [if_pos hfw] at hff'
            have := congrArg List.length hff'
            simp at this
          · rw [if_neg hfw] at hff'
            -- a course of two laws more would have its own course between
            obtain ⟨g, hg, hgp⟩ := h.pre f (by omega) _ _ hff'
            exact hnew g hg hgp
        · obtain ⟨dd, d1, d2, d3, d4⟩ := h.fol e j (by omega) hj
          refine ⟨dd, d1, by omega, fun h0 => ?_, fun h0 f hf2 hff => ?_⟩
          · show (if dd = W then _ else pt dd) = (if e = W then _ else pt e) ++ [j]
            rw [if_neg (by omega), if_neg hew]; exact d3 h0
          · have hff' : (if f = W then pt c ++ [l] else pt f) = (if e = W then pt c ++ [l] else pt e) ++ [j] := hff
            rw [if_neg hew] at hff'
            by_cases hfw : f = W
            · rw [if_pos hfw] at hff'
              have h7 := List.append_inj' hff' rfl
              have hce := h.inj c e hc (by omega) h7.1
              have hlj : l = j := by simpa using h7.2
              omega
            · rw [if_neg hfw] at hff'
              exact d4 h0 f (by omega) hff'
    · intro i h3 h4
      show (mm_si _ 5 4 _).1 70 i = 0
      rw [si_1, if_neg (by omega), si_1, if_neg (by omega)]
      exact h.zero i (by omega) h4
    · intro e w he hwd
      show M'.2.1 71 (e * 20 + w) = Int64.ofNat (en_ (sa_l S (if e = W then pt c ++ [l] else pt e) (wd_w S w)))
      by_cases hew : e = W
      · rw [if_pos hew, hew]; exact hf w (by omega)
      · rw [if_neg hew]; exact h.frm e w (by omega) hwd
  | succ d ih =>
    intro k M' n hk hn h h1 hlg hcp hf
    obtain ⟨m, rfl⟩ : ∃ m, n = m + 1 := ⟨n - 1, by omega⟩
    have hb := h.bound hw
    have hcb := h.capb
    have hok : ok_ (sa_l S (pt c) (wd_w S k)) := sa_ok hw _ _ (fun x hx => h.lt c hc x hx) (wd_ok hw (by omega))
    have hlo : lo_ S M' l := by
      have := hI l hl
      unfold lo_ at this ⊢
      rw [h1, h1, h1, h1, h1, h1, h1]; exact this
    unfold f_X9_courseAfter_23l f_X9_courseAfter_23
    have e1 : Int32.ofNat c * 20 + Int32.ofNat k = Int32.ofNat (c * 20 + k) := by
      show _ * Int32.ofNat 20 + _ = _
      rw [n3_mul, n3_add]
    have e2 : Int32.ofNat W * 20 + Int32.ofNat k = Int32.ofNat (W * 20 + k) := by
      show _ * Int32.ofNat 20 + _ = _
      rw [n3_mul, n3_add]
    rw [h1 5 2, h2w, if_neg (by rw [n3_le (by omega) (by omega)]; omega), e1]
    refine wp_ck ((n3_ix (by omega)).mpr (by omega)) (wp_ck ((n3_ix (by omega)).mpr (by omega)) ?_)
    simp only [n3_tn (show l < 2147483648 by omega), n3_tn (show c * 20 + k < 2147483648 by omega), h.frm c k hc (by omega), h.wk, e2]
    refine wp_be (c_wk hw hl hlo hok) (wp_ck ((n3_ix (by omega)).mpr (by omega)) (wp_sr (wp_sr ?_)))
    rw [n3_tn (by omega)]
    show wp_ (f_X9_courseAfter_23l m _ _ _ (Int32.ofNat k + Int32.ofNat 1) _) _
    rw [n3_add]
    refine ih (k + 1) _ m (by omega) (by omega) ?_ (fun a b => by rw [sl_1]; exact h1 a b) ?_ hcp ?_
    · refine ⟨h.wk, h.w1, h.cap, h.pow, h.root, h.lt, h.nd, h.inj, h.pre, h.fol, h.zero, ?_⟩
      intro e w he hwd
      rw [sl_2, if_neg (by omega)]
      exact h.frm e w he hwd
    · intro a ha
      funext b
      rw [sl_2, if_neg (by omega), hlg a ha]
    · intro w hwk
      rw [sl_2]
      by_cases hwe : w = k
      · rw [if_pos (by omega), hwe, sa_app]
      · rw [if_neg (by omega)]; exact hf w (by omega)
theorem c_after (h : tc_ S M W pt) (hw : wf_ S) (hI : ic_ S M) {c l : Nat} (hc : c < W) (hl : l < S 0 11) (hnm : l ∉ pt c) :
    wp_ (f_X9_courseAfter (Int32.ofNat c) (Int32.ofNat l) M) (fun z => ∃ W' pt' d, z.1 = Int32.ofNat d ∧ d < W' ∧ pt' d = pt c ++ [l] ∧ px_ W pt W' pt' ∧ fc_ M z.2 ∧ tc_ S z.2 W' pt') := by
  have h6 := hw.laws
  have hb := h.bound hw
  have hcb := h.capb
  have hcap := h.cap
  unfold f_X9_courseAfter
  have e1 : Int32.ofNat c * 6 + Int32.ofNat l = Int32.ofNat (c * 6 + l) := by
    show _ * Int32.ofNat 6 + _ = _
    rw [n3_mul, n3_add]
  rw [e1]
  refine wp_sr (wp_ck ((n3_ix (by omega)).mpr (by omega)) ?_)
  obtain ⟨d, d1, d2, d3, d4⟩ := h.fol c l hc (by omega)
  rw [n3_tn (by omega), d1]
  by_cases c0 : d = 0
  · rw [if_pos (by rw [c0]; rfl)]
    refine wp_bd (wp_mo (c_room h hw) (fun M' hM' => ?_))
    unfold f_X9_courseAfter_20
    have hic := hM'.2.1.ic hw hI
    refine wp_mo (c_af_l hw hic.lo (c := c) hc hl hic.words (d4 c0) hnm (S 0 8) 0 M' fu_ (by omega) (by have := hw.words; unfold fu_; omega) hM'.1 (fun _ _ => rfl) (fun _ _ => rfl) hM'.2.2 (fun w hw0 => by omega)) (fun z hz => ?_)
    refine ⟨W + 1, _, W, hz.1, by omega, ?_, ⟨by omega, fun e he => ?_⟩, hM'.2.1.trans hz.2.1, hz.2.2⟩
    · show (if W = W then _ else _) = _
      rw [if_pos rfl]
    · show (if e = W then _ else _) = _
      rw [if_neg (by omega)]
  · rw [if_neg (by show ¬ (_ = Int32.ofNat 0); rw [n3_eq (by omega) (by omega)]; exact c0)]
    unfold f_X9_courseAfter_94
    refine wp_ck ((n3_ix (by omega)).mpr (by omega)) (wp_some ?_)
    rw [n3_tn (by omega)]
    exact ⟨W, pt, d, d1, d2, d3 c0, px_.refl, fc_.refl, h⟩
theorem c_form (h : tc_ S M W pt) (hw : wf_ S) {c w : Nat} (hc : c < W) (hwd : w < S 0 8) : f_X9_formOn (Int32.ofNat c) (Int32.ofNat w) M = some (Int64.ofNat (en_ (sa_l S (pt c) (wd_w S w)))) := by
  have h20 := hw.words
  have hb := h.bound hw
  have hcb := h.capb
  have hcap := h.cap
  unfold f_X9_formOn
  have e1 : Int32.ofNat c * 20 + Int32.ofNat w = Int32.ofNat (c * 20 + w) := by
    show _ * Int32.ofNat 20 + _ = _
    rw [n3_mul, n3_add]
  rw [e1, if_pos ((n3_ix (by omega)).mpr (by omega)), n3_tn (by omega), h.frm c w hc hwd]
theorem c_fok (h : tc_ S M W pt) (hw : wf_ S) {c w : Nat} (hc : c < W) (hwd : w < S 0 8) : ok_ (sa_l S (pt c) (wd_w S w)) := sa_ok hw _ _ (fun x hx => h.lt c hc x hx) (wd_ok hw hwd)
theorem c_vow (hI : ic_ S M) : f_X9_vowels M = Int32.ofNat (S 3 0) := hI.cl 0 (by omega)
theorem c_tailOn (h : tc_ S M W pt) (hI : ic_ S M) (hw : wf_ S) {c w : Nat} (hc : c < W) (hwd : w < S 0 8) : f_X9_tailOn (Int32.ofNat c) (Int32.ofNat w) M = some (Int64.ofNat (te_ S (sa_l S (pt c) (wd_w S w)))) := by
  unfold f_X9_tailOn
  rw [c_form h hw hc hwd, Option.bind_some, sq_n, c_vow hI, c_tl (c_fok h hw hc hwd), Option.bind_some]
theorem c_rhyme (h : tc_ S M W pt) (hI : ic_ S M) (hw : wf_ S) {c v w : Nat} (hc : c < W) (hv : v < S 0 8) (hwd : w < S 0 8) : f_X9_rhymeOn (Int32.ofNat c) (Int32.ofNat v) (Int32.ofNat w) M = some (bi_ (rh_ S (sa_l S (pt c) (wd_w S v)) (sa_l S (pt c) (wd_w S w)))) := by
  have o1 := c_fok h hw hc hv
  have o2 := c_fok h hw hc hwd
  have l1 := te_lt (S := S) o1
  have l2 := te_lt (S := S) o2
  unfold f_X9_rhymeOn rh_
  rw [c_tailOn h hI hw hc hv, c_tailOn h hI hw hc hwd, Option.bind_some, Option.bind_some]
  by_cases c1 : tl_ S (sa_l S (pt c) (wd_w S v)) = []
  · rw [if_pos (by rw [te_0.mpr c1]; rfl)]; simp [c1, bi_]
  · rw [if_neg (by rw [n6_nz (by omega), te_0]; exact c1)]
    by_cases c2 : tl_ S (sa_l S (pt c) (wd_w S v)) = tl_ S (sa_l S (pt c) (wd_w S w))
    · rw [if_pos (by rw [(te_inj o1 o2).mpr c2])]
      rw [decide_eq_true ⟨c1, c2⟩]; rfl
    · rw [if_neg (by rw [n6_eq (by omega) (by omega), te_inj o1 o2]; exact c2)]
      rw [decide_eq_false (fun hh => c2 hh.2)]; rfl
end SC1
