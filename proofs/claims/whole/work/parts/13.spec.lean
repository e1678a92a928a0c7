/-! THE MEANING: an abstract state of naturals (places as in the reference), and what calls answer over it -/
abbrev sg_ : Type := Nat → Nat → Nat
def up_ (S : sg_) (k j v : Nat) : sg_ := fun a b => if a = k ∧ b = j then v else S a b
def fo_ {α : Type} (f : Nat → α → α) : Nat → α → α
  | 0, a => a
  | n + 1, a => f n (fo_ f n a)
/-- how many histories n laws make -/
def hn_ (S : sg_) : Nat → Nat
  | 0 => 1
  | n + 1 => hn_ S n * S 12 n
def hs_ (S : sg_) : Nat := hn_ S (S 0 11)
def wf_ (S : sg_) : Prop :=
  (S 0 4 ≤ 40) ∧
  (∀ j, j < S 0 4 → S 2 j < 256) ∧
  (∀ c, c < 6 → S 3 c < 65536) ∧
  (S 0 8 ≤ 20) ∧
  (∀ w, w < S 0 8 → 1 ≤ S 5 w ∧ S 5 w ≤ 8) ∧
  (∀ w, w < S 0 8 → ∀ i, i < S 5 w → S 4 (8 * w + i) < 16) ∧
  (S 0 11 ≤ 6) ∧
  (∀ l, l < S 0 11 → S 6 l < 22) ∧
  (∀ l, l < S 0 11 → S 7 l < 16 ∨ S 7 l = 24) ∧
  (∀ l, l < S 0 11 → S 8 l ≤ 23) ∧
  (∀ l, l < S 0 11 → S 9 l ≤ 23) ∧
  (∀ l, l < S 0 11 → 1 ≤ S 12 l ∧ S 12 l ≤ 8 ∧ 1 ≤ S 11 l ∧ S 11 l < 2147483648 ∧ S 10 l + S 11 l * (S 12 l - 1) ≤ 400) ∧
  (hs_ S ≤ 600) ∧
  (∀ p, p < 6 → S 13 p ≤ 200) ∧
  (S 0 28 ≤ 16) ∧
  (∀ s, s < S 0 28 → S 18 s ≤ 4) ∧
  (∀ s, s < S 0 28 → S 19 s < S 0 8) ∧
  (∀ s, s < S 0 28 → S 18 s ≠ 2 → S 18 s ≠ 3 → S 20 s < S 0 8 ∧ S 20 s ≠ S 19 s) ∧
  (∀ s, s < S 0 28 → S 21 s ≤ 600) ∧
  (∀ s, s < S 0 28 → S 22 s < 6) ∧
  (∀ s, s < S 0 28 → S 18 s = 2 → S 23 s ≤ 8) ∧
  (∀ s, s < S 0 28 → S 18 s = 3 → S 23 s ≤ 127) ∧
  (∀ s, s < S 0 28 → S 24 s < 6) ∧
  (∀ s, s < S 0 28 → 1 ≤ S 25 s ∧ S 25 s ≤ 9) ∧
  (∀ s, s < S 0 28 → S 26 s ≤ 1) ∧
  (∀ i, i < 3 → S 36 i ≤ 1) ∧
  (∀ i, i < 3 → S 37 i ≤ S 0 28) ∧
  (∀ i, i < 3 → ∀ s, s < S 37 i → S 38 (16 * i + s) ≤ 1 ∧ S 39 (16 * i + s) < 6 ∧ 1 ≤ S 40 (16 * i + s) ∧ S 40 (16 * i + s) ≤ 9) ∧
  (∀ i, i < 3 → S 36 i = 1 → ∀ k, k < 6 → S 41 (6 * i + k) ≤ 200 ∧ S 42 (6 * i + k) < 65536)
theorem wf_.tp {S : sg_} (h : wf_ S) : S 0 4 ≤ 40 := h.1
theorem wf_.tape {S : sg_} (h : wf_ S) : ∀ j, j < S 0 4 → S 2 j < 256 := h.2.1
theorem wf_.cl {S : sg_} (h : wf_ S) : ∀ c, c < 6 → S 3 c < 65536 := h.2.2.1
theorem wf_.words {S : sg_} (h : wf_ S) : S 0 8 ≤ 20 := h.2.2.2.1
theorem wf_.sl {S : sg_} (h : wf_ S) : ∀ w, w < S 0 8 → 1 ≤ S 5 w ∧ S 5 w ≤ 8 := h.2.2.2.2.1
theorem wf_.sp {S : sg_} (h : wf_ S) : ∀ w, w < S 0 8 → ∀ i, i < S 5 w → S 4 (8 * w + i) < 16 := h.2.2.2.2.2.1
theorem wf_.laws {S : sg_} (h : wf_ S) : S 0 11 ≤ 6 := h.2.2.2.2.2.2.1
theorem wf_.goes {S : sg_} (h : wf_ S) : ∀ l, l < S 0 11 → S 6 l < 22 := h.2.2.2.2.2.2.2.1
theorem wf_.bec {S : sg_} (h : wf_ S) : ∀ l, l < S 0 11 → S 7 l < 16 ∨ S 7 l = 24 := h.2.2.2.2.2.2.2.2.1
theorem wf_.lf {S : sg_} (h : wf_ S) : ∀ l, l < S 0 11 → S 8 l ≤ 23 := h.2.2.2.2.2.2.2.2.2.1
theorem wf_.rt {S : sg_} (h : wf_ S) : ∀ l, l < S 0 11 → S 9 l ≤ 23 := h.2.2.2.2.2.2.2.2.2.2.1
theorem wf_.yr {S : sg_} (h : wf_ S) : ∀ l, l < S 0 11 → 1 ≤ S 12 l ∧ S 12 l ≤ 8 ∧ 1 ≤ S 11 l ∧ S 11 l < 2147483648 ∧ S 10 l + S 11 l * (S 12 l - 1) ≤ 400 := h.2.2.2.2.2.2.2.2.2.2.2.1
theorem wf_.hist {S : sg_} (h : wf_ S) : hs_ S ≤ 600 := h.2.2.2.2.2.2.2.2.2.2.2.2.1
theorem wf_.lag {S : sg_} (h : wf_ S) : ∀ p, p < 6 → S 13 p ≤ 200 := h.2.2.2.2.2.2.2.2.2.2.2.2.2.1
theorem wf_.signs {S : sg_} (h : wf_ S) : S 0 28 ≤ 16 := h.2.2.2.2.2.2.2.2.2.2.2.2.2.2.1
theorem wf_.kind {S : sg_} (h : wf_ S) : ∀ s, s < S 0 28 → S 18 s ≤ 4 := h.2.2.2.2.2.2.2.2.2.2.2.2.2.2.2.1
theorem wf_.one {S : sg_} (h : wf_ S) : ∀ s, s < S 0 28 → S 19 s < S 0 8 := h.2.2.2.2.2.2.2.2.2.2.2.2.2.2.2.2.1
theorem wf_.oth {S : sg_} (h : wf_ S) : ∀ s, s < S 0 28 → S 18 s ≠ 2 → S 18 s ≠ 3 → S 20 s < S 0 8 ∧ S 20 s ≠ S 19 s := h.2.2.2.2.2.2.2.2.2.2.2.2.2.2.2.2.2.1
theorem wf_.year {S : sg_} (h : wf_ S) : ∀ s, s < S 0 28 → S 21 s ≤ 600 := h.2.2.2.2.2.2.2.2.2.2.2.2.2.2.2.2.2.2.1
theorem wf_.pl {S : sg_} (h : wf_ S) : ∀ s, s < S 0 28 → S 22 s < 6 := h.2.2.2.2.2.2.2.2.2.2.2.2.2.2.2.2.2.2.2.1
theorem wf_.nm2 {S : sg_} (h : wf_ S) : ∀ s, s < S 0 28 → S 18 s = 2 → S 23 s ≤ 8 := h.2.2.2.2.2.2.2.2.2.2.2.2.2.2.2.2.2.2.2.2.1
theorem wf_.nm3 {S : sg_} (h : wf_ S) : ∀ s, s < S 0 28 → S 18 s = 3 → S 23 s ≤ 127 := h.2.2.2.2.2.2.2.2.2.2.2.2.2.2.2.2.2.2.2.2.2.1
theorem wf_.poet {S : sg_} (h : wf_ S) : ∀ s, s < S 0 28 → S 24 s < 6 := h.2.2.2.2.2.2.2.2.2.2.2.2.2.2.2.2.2.2.2.2.2.2.1
theorem wf_.trust {S : sg_} (h : wf_ S) : ∀ s, s < S 0 28 → 1 ≤ S 25 s ∧ S 25 s ≤ 9 := h.2.2.2.2.2.2.2.2.2.2.2.2.2.2.2.2.2.2.2.2.2.2.2.1
theorem wf_.on {S : sg_} (h : wf_ S) : ∀ s, s < S 0 28 → S 26 s ≤ 1 := h.2.2.2.2.2.2.2.2.2.2.2.2.2.2.2.2.2.2.2.2.2.2.2.2.1
theorem wf_.kept {S : sg_} (h : wf_ S) : ∀ i, i < 3 → S 36 i ≤ 1 := h.2.2.2.2.2.2.2.2.2.2.2.2.2.2.2.2.2.2.2.2.2.2.2.2.2.1
theorem wf_.ks {S : sg_} (h : wf_ S) : ∀ i, i < 3 → S 37 i ≤ S 0 28 := h.2.2.2.2.2.2.2.2.2.2.2.2.2.2.2.2.2.2.2.2.2.2.2.2.2.2.1
theorem wf_.kon {S : sg_} (h : wf_ S) : ∀ i, i < 3 → ∀ s, s < S 37 i → S 38 (16 * i + s) ≤ 1 ∧ S 39 (16 * i + s) < 6 ∧ 1 ≤ S 40 (16 * i + s) ∧ S 40 (16 * i + s) ≤ 9 := h.2.2.2.2.2.2.2.2.2.2.2.2.2.2.2.2.2.2.2.2.2.2.2.2.2.2.2.1
theorem wf_.klag {S : sg_} (h : wf_ S) : ∀ i, i < 3 → S 36 i = 1 → ∀ k, k < 6 → S 41 (6 * i + k) ≤ 200 ∧ S 42 (6 * i + k) < 65536 := h.2.2.2.2.2.2.2.2.2.2.2.2.2.2.2.2.2.2.2.2.2.2.2.2.2.2.2.2
/-- what of the reference's memory lasts from call to call -/
def pe_ (S : sg_) (a b : Nat) : Prop :=
  (a = 0 ∧ (b = 4 ∨ b = 8 ∨ b = 11 ∨ b = 28)) ∨ (a = 2 ∧ b < S 0 4) ∨ (a = 3 ∧ b < 6) ∨
  (a = 4 ∧ b / 8 < S 0 8 ∧ b % 8 < S 5 (b / 8)) ∨ (a = 5 ∧ b < S 0 8) ∨ ((a = 6 ∨ a = 7 ∨ a = 8 ∨ a = 9 ∨ a = 10 ∨ a = 11 ∨ a = 12) ∧ b < S 0 11) ∨
  (a = 13 ∧ b < 6) ∨ ((a = 18 ∨ a = 19 ∨ a = 21 ∨ a = 22 ∨ a = 24 ∨ a = 25 ∨ a = 26) ∧ b < S 0 28) ∨
  (a = 20 ∧ b < S 0 28 ∧ S 18 b ≠ 2 ∧ S 18 b ≠ 3) ∨ (a = 23 ∧ b < S 0 28 ∧ (S 18 b = 2 ∨ S 18 b = 3)) ∨
  ((a = 36 ∨ a = 37) ∧ b < 3) ∨ ((a = 38 ∨ a = 39 ∨ a = 40) ∧ b / 16 < 3 ∧ b % 16 < S 37 (b / 16)) ∨
  ((a = 41 ∨ a = 42) ∧ b / 6 < 3 ∧ S 36 (b / 6) = 1)
/-- the reference's memory holds S -/
def ir_ (S : sg_) (M : mm_M) : Prop := ∀ a b, pe_ S a b → M.1 a b = Int32.ofNat (S a b)
/-- the ROW, of the reference and of the class -/
def rr_ (vs : List Nat) (M : mm_M) : Prop := M.1 0 1 = Int32.ofNat vs.length ∧ ∀ j v, vs[j]? = some v → M.2.1 1 j = Int64.ofNat v
def rc_ (vs : List Nat) (M : mm_M) : Prop := M.1 3 1 = Int32.ofNat vs.length ∧ ∀ j v, vs[j]? = some v → M.2.1 4 j = Int64.ofNat v
def rv_ (vs : List Nat) : Prop := vs.length ≤ 24 ∧ ∀ v, v ∈ vs → v < 9223372036854775808
/-! words, laws -/
def wd_w (S : sg_) (w : Nat) : List Nat := (List.range (S 5 w)).map fun i => S 4 (8 * w + i)
def is_of (S : sg_) (part s : Nat) : Bool := if part < 16 then decide (s = part) else (S 3 (part - 16)).testBit s
def is_by (S : sg_) (part : Nat) (o : Option Nat) : Bool := if part = 23 then true else if part = 22 then o.isNone else match o with
  | none => false
  | some s => is_of S part s
/-- whether a law works on a sound, by what stands left and right of it -/
def lw_d (S : sg_) (l : Nat) (p : Option Nat) (x : Nat) (q : Option Nat) : Bool := is_of S (S 6 l) x && (is_by S (S 8 l) p && is_by S (S 9 l) q)
def lw_go (S : sg_) (l : Nat) : Option Nat → List Nat → List Nat
  | _, [] => []
  | p, x :: xs => if lw_d S l p x xs.head? = true then (if S 7 l = 24 then lw_go S l (some x) xs else S 7 l :: lw_go S l (some x) xs) else x :: lw_go S l (some x) xs
def lw_on (S : sg_) (l : Nat) (xs : List Nat) : List Nat := lw_go S l none xs
/-! histories: of law l the year, the laws in order -/
def hq_ (S : sg_) (l : Nat) : Nat → Nat → Nat
  | 0, h => h
  | d + 1, h => hq_ S l d (h / S 12 (l + d + 1))
def yr_n (S : sg_) (n l h : Nat) : Nat := S 10 l + S 11 l * (hq_ S l (n - 1 - l) h % S 12 l)
def yr_ (S : sg_) (l h : Nat) : Nat := yr_n S (S 0 11) l h
/-- a law goes behind all whose years are not greater -/
def in_s (y : Nat → Nat) (l : Nat) : List Nat → List Nat
  | [] => [l]
  | x :: xs => if y x ≤ y l then x :: in_s y l xs else l :: x :: xs
def od_ (y : Nat → Nat) (P : Nat → Bool) : Nat → List Nat
  | 0 => []
  | n + 1 => if P n = true then in_s y n (od_ y P n) else od_ y P n
/-- the laws that have come, in order; nv: laws that never come -/
def pa_ (S : sg_) (nv : Nat → Bool) (h y p : Nat) : List Nat := od_ (fun l => yr_ S l h) (fun l => !nv l && decide (yr_ S l h + S 13 p ≤ y)) (S 0 11)
def sa_l (S : sg_) (ls : List Nat) (xs : List Nat) : List Nat := ls.foldl (fun xs l => lw_on S l xs) xs
def no_ : Nat → Bool := fun _ => false
/-- how a word is said -/
def sd_n (S : sg_) (nv : Nat → Bool) (w h y p : Nat) : List Nat := sa_l S (pa_ S nv h y p) (wd_w S w)
def sd_ (S : sg_) (w h y p : Nat) : List Nat := sd_n S no_ w h y p
/-- the tail; none is [] -/
def tl_ (S : sg_) : List Nat → List Nat
  | [] => []
  | x :: xs => if (xs.any fun s => (S 3 0).testBit s) = true then tl_ S xs else if (S 3 0).testBit x = true then x :: xs else []
def rh_ (S : sg_) (xs ys : List Nat) : Bool := decide (tl_ S xs ≠ [] ∧ tl_ S xs = tl_ S ys)
/-- whether a sign (of the abstract state, or a sought one) holds -/
def ho_k (S : sg_) (kd nm : Nat) (xs ys : List Nat) : Bool :=
  if kd = 1 then decide (xs = ys) else if kd = 2 then decide ((xs.filter fun s => (S 3 0).testBit s).length = nm) else if kd = 3 then decide (xs[nm / 16]? = some (nm % 16))
  else decide (tl_ S xs ≠ [] ∧ tl_ S ys ≠ [] ∧ (tl_ S xs = tl_ S ys ↔ kd = 0))
def ho_n (S : sg_) (nv : Nat → Bool) (s h : Nat) : Bool := ho_k S (S 18 s) (S 23 s) (sd_n S nv (S 19 s) h (S 21 s) (S 22 s)) (sd_n S nv (S 20 s) h (S 21 s) (S 22 s))
def ho_ (S : sg_) (s h : Nat) : Bool := ho_n S no_ s h
def ft_n (S : sg_) (nv : Nat → Bool) (h : Nat) : Bool := (List.range (S 0 28)).all fun s => !decide (S 26 s = 1) || ho_n S nv s h
def ft_ (S : sg_) (h : Nat) : Bool := ft_n S no_ h
section IRA
variable {S : sg_} {M M' : mm_M}
theorem ir_.fr (h : ir_ S M) (h1 : ∀ a b, pe_ S a b → M'.1 a b = M.1 a b) : ir_ S M' :=
  fun a b hp => by rw [h1 a b hp]; exact h a b hp
theorem ir_.tp (h : ir_ S M) : M.1 0 4 = Int32.ofNat (S 0 4) := h 0 4 (by simp [pe_])
theorem ir_.words (h : ir_ S M) : M.1 0 8 = Int32.ofNat (S 0 8) := h 0 8 (by simp [pe_])
theorem ir_.laws (h : ir_ S M) : M.1 0 11 = Int32.ofNat (S 0 11) := h 0 11 (by simp [pe_])
theorem ir_.signs (h : ir_ S M) : M.1 0 28 = Int32.ofNat (S 0 28) := h 0 28 (by simp [pe_])
theorem ir_.tape (h : ir_ S M) {j : Nat} (hj : j < S 0 4) : M.1 2 j = Int32.ofNat (S 2 j) := h 2 j (by simp [pe_, hj])
theorem ir_.cl (h : ir_ S M) {j : Nat} (hj : j < 6) : M.1 3 j = Int32.ofNat (S 3 j) := h 3 j (by simp [pe_, hj])
theorem ir_.sp (h : ir_ S M) {w i : Nat} (hw : w < S 0 8) (h8 : S 5 w ≤ 8) (hi : i < S 5 w) : M.1 4 (8 * w + i) = Int32.ofNat (S 4 (8 * w + i)) := by
  have e1 : (8 * w + i) / 8 = w := by omega
  have e2 : (8 * w + i) % 8 = i := by omega
  exact h 4 _ (by simp [pe_, e1, e2, hw, hi])
theorem ir_.sl (h : ir_ S M) {j : Nat} (hj : j < S 0 8) : M.1 5 j = Int32.ofNat (S 5 j) := h 5 j (by simp [pe_, hj])
theorem ir_.lw (h : ir_ S M) {j : Nat} (hj : j < S 0 11) : M.1 6 j = Int32.ofNat (S 6 j) ∧ M.1 7 j = Int32.ofNat (S 7 j) ∧ M.1 8 j = Int32.ofNat (S 8 j) ∧ M.1 9 j = Int32.ofNat (S 9 j) ∧ M.1 10 j = Int32.ofNat (S 10 j) ∧ M.1 11 j = Int32.ofNat (S 11 j) ∧ M.1 12 j = Int32.ofNat (S 12 j) :=
  ⟨h 6 j (by simp [pe_, hj]), h 7 j (by simp [pe_, hj]), h 8 j (by simp [pe_, hj]), h 9 j (by simp [pe_, hj]), h 10 j (by simp [pe_, hj]), h 11 j (by simp [pe_, hj]), h 12 j (by simp [pe_, hj])⟩
theorem ir_.lag (h : ir_ S M) {j : Nat} (hj : j < 6) : M.1 13 j = Int32.ofNat (S 13 j) := h 13 j (by simp [pe_, hj])
theorem ir_.sg (h : ir_ S M) {j : Nat} (hj : j < S 0 28) : M.1 18 j = Int32.ofNat (S 18 j) ∧ M.1 19 j = Int32.ofNat (S 19 j) ∧ M.1 21 j = Int32.ofNat (S 21 j) ∧ M.1 22 j = Int32.ofNat (S 22 j) ∧ M.1 24 j = Int32.ofNat (S 24 j) ∧ M.1 25 j = Int32.ofNat (S 25 j) ∧ M.1 26 j = Int32.ofNat (S 26 j) :=
  ⟨h 18 j (by simp [pe_, hj]), h 19 j (by simp [pe_, hj]), h 21 j (by simp [pe_, hj]), h 22 j (by simp [pe_, hj]), h 24 j (by simp [pe_, hj]), h 25 j (by simp [pe_, hj]), h 26 j (by simp [pe_, hj])⟩
theorem ir_.oth (h : ir_ S M) {j : Nat} (hj : j < S 0 28) (h2 : S 18 j ≠ 2) (h3 : S 18 j ≠ 3) : M.1 20 j = Int32.ofNat (S 20 j) := h 20 j (by simp [pe_, hj, h2, h3])
theorem ir_.num (h : ir_ S M) {j : Nat} (hj : j < S 0 28) (h2 : S 18 j = 2 ∨ S 18 j = 3) : M.1 23 j = Int32.ofNat (S 23 j) := h 23 j (by simp [pe_, hj, h2])
end IRA
