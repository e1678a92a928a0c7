/-! STAGE: who is on it, which signs count; the class up to its pairs -/
section WI1
variable {S : sg_} {M Mc Mr : mm_M} {vs : List Nat} {L : List Nat} {P : Nat → Bool}
def stg_ (S : sg_) (s : Nat) : Bool := decide (S 26 s = 1) && decide (S 18 s < 2)
def ivb_ (S : sg_) (k w : Nat) : Bool := (List.range k).any (fun s => stg_ S s && (decide (S 19 s = w) || decide (S 20 s = w)))
theorem ivb_s {k w : Nat} : ivb_ S (k + 1) w = (ivb_ S k w || (stg_ S k && (decide (S 19 k = w) || decide (S 20 k = w)))) := by
  unfold ivb_
  rw [List.range_succ, List.any_append, List.any_cons, List.any_nil, Bool.or_false]
theorem stg_k {s : Nat} (h : stg_ S s = true) : S 26 s = 1 ∧ S 18 s < 2 := by
  unfold stg_ at h
  obtain ⟨a, b⟩ := and_t h
  exact ⟨of_decide_eq_true a, of_decide_eq_true b⟩
theorem ivb_lt (hw : wf_ S) {w : Nat} (hw2 : S 0 8 ≤ w) : ∀ k, k ≤ S 0 28 → ivb_ S k w = false := by
  intro k
  induction k with
  | zero => intro _; rfl
  | succ k ih =>
    intro hk
    rw [ivb_s, ih (by omega), Bool.false_or]
    cases hs : stg_ S k with
    | false => rfl
    | true =>
      have h1 := stg_k hs
      have h2 := hw.one k (by omega)
      have h3 := hw.oth k (by omega) (by omega) (by omega)
      rw [decide_eq_false (by omega), decide_eq_false (by omega)]; rfl
def cst_ (P : Nat → Bool) : Nat → List Nat
  | 0 => []
  | k + 1 => if P k = true ∧ (cst_ P k).length < 7 then cst_ P k ++ [k] else cst_ P k
theorem cst_y {k : Nat} (h1 : P k = true) (h2 : (cst_ P k).length < 7) : cst_ P (k + 1) = cst_ P k ++ [k] := by
  show (if _ then _ else _) = _
  rw [if_pos ⟨h1, h2⟩]
theorem cst_n {k : Nat} (h : ¬ (P k = true ∧ (cst_ P k).length < 7)) : cst_ P (k + 1) = cst_ P k := by
  show (if _ then _ else _) = _
  rw [if_neg h]
theorem cst_len : ∀ k, (cst_ P k).length ≤ 7 ∧ (cst_ P k).length ≤ k := by
  intro k
  induction k with
  | zero => exact ⟨Nat.zero_le _, Nat.le_refl _⟩
  | succ k ih =>
    by_cases c : P k = true ∧ (cst_ P k).length < 7
    · rw [cst_y c.1 c.2, List.length_append]
      have := c.2
      simp; omega
    · rw [cst_n c]; omega
theorem cst_mem : ∀ k x, x ∈ cst_ P k → x < k := by
  intro k
  induction k with
  | zero => intro x hx; cases hx
  | succ k ih =>
    intro x hx
    by_cases c : P k = true ∧ (cst_ P k).length < 7
    · rw [cst_y c.1 c.2, List.mem_append, List.mem_singleton] at hx
      rcases hx with hx | hx
      · have := ih x hx; omega
      · omega
    · rw [cst_n c] at hx
      have := ih x hx; omega
theorem cst_nd : ∀ k, (cst_ P k).Nodup := by
  intro k
  induction k with
  | zero => exact List.nodup_nil
  | succ k ih =>
    by_cases c : P k = true ∧ (cst_ P k).length < 7
    · rw [cst_y c.1 c.2, List.nodup_append]
      refine ⟨ih, by simp, fun a ha b hb => ?_⟩
      rw [List.mem_singleton] at hb
      have := cst_mem k a ha
      omega
    · rw [cst_n c]; exact ih
theorem cst_end {k : Nat} : ∀ d, (∀ i, k ≤ i → i < k + d → ¬ (P i = true ∧ (cst_ P k).length < 7)) → cst_ P (k + d) = cst_ P k := by
  intro d
  induction d with
  | zero => intro _; rfl
  | succ d ih =>
    intro h
    have h1 := ih (fun i h1 h2 => h i h1 (by omega))
    rw [show k + (d + 1) = (k + d) + 1 by omega, cst_n (by rw [h1]; exact h (k + d) (by omega) (by omega)), h1]
def stL_ (S : sg_) : List Nat := cst_ (ivb_ S (S 0 28)) 20
theorem stL_lt (hw : wf_ S) : ∀ x, x ∈ stL_ S → x < 20 := fun x hx => cst_mem 20 x hx
theorem stL_len : (stL_ S).length ≤ 7 := (cst_len 20).1
/-- the seat of a word -/
def sei_ (L : List Nat) (w : Nat) : Option Nat := fnd_ (fun i => decide (L[i]? = some w)) L.length
theorem fnd_1 {k : Nat} (h : P k = false) : fnd_ P (k + 1) = fnd_ P k := by
  unfold fnd_
  rw [List.range_succ, List.find?_append, List.find?_cons, h, List.find?_nil, Option.or_none]
theorem fnd_t {n k : Nat} (h : fnd_ P n = some k) : P k = true := by
  unfold fnd_ at h
  exact List.find?_some h
theorem sei_at {w i : Nat} (h : sei_ L w = some i) : i < L.length ∧ L[i]? = some w :=
  ⟨fnd_lt h, of_decide_eq_true (fnd_t (P := fun i => decide (L[i]? = some w)) h)⟩
def stc_ (L : List Nat) (M : mm_M) : Prop := M.1 42 1 = Int32.ofNat L.length ∧ ∀ i v, L[i]? = some v → M.1 43 i = Int32.ofNat v
def o42_ (M M' : mm_M) : Prop := (∀ a b, ¬ (42 ≤ a ∧ a ≤ 49) → M'.1 a b = M.1 a b) ∧ M'.2 = M.2
theorem o42_.refl : o42_ M M := ⟨fun _ _ _ => rfl, rfl⟩
theorem o42_.trans {M1 M2 : mm_M} (h1 : o42_ M M1) (h2 : o42_ M1 M2) : o42_ M M2 := ⟨fun a b h => (h2.1 a b h).trans (h1.1 a b h), h2.2.trans h1.2⟩
theorem o42_si {k j : Nat} {v : Int32} (h : 42 ≤ k ∧ k ≤ 49) : o42_ M (mm_si M k j v) := ⟨fun a b hab => by rw [si_1, if_neg (by omega)], rfl⟩
theorem o42_.tc {W : Nat} {pt : Nat → List Nat} {M' : mm_M} (h : o42_ M M') (ht : tc_ S M W pt) : tc_ S M' W pt :=
  ht.fr (h.1 5 4 (by omega)) (by funext b; exact h.1 70 b (by omega)) (by rw [h.2]) (by rw [h.2])
theorem cs_.st {M' : mm_M} (hw : wf_ S) (hc : cs_ S vs M) (h : o42_ M M') : cs_ S vs M' := by
  obtain ⟨⟨W, pt, ht⟩, -⟩ := id hc
  have h6 := hw.laws
  exact hc.fk hw (P := fun a _ => 42 ≤ a ∧ a ≤ 49) (Q := fun _ => False) ⟨fun a b _ _ hp => h.1 a b hp, fun a _ _ => by rw [h.2]⟩ (h.tc ht) (fun a b hab => ⟨by unfold pc_; omega, by omega⟩) (fun a ha => ha.elim)
theorem c_staged (hI : ic_ S M) (hw : wf_ S) {s : Nat} (hs : s < S 0 28) : f_X6_isStaged (Int32.ofNat s) M = some (bi_ (stg_ S s)) := by
  have h16 := hw.signs
  have hk := hw.kind s hs
  obtain ⟨h0, -⟩ := hI.sg s hs
  unfold f_X6_isStaged f_X6_isStaged_36 stg_
  simp only [n3_tn (show s < 2147483648 by omega)]
  rw [ib_bit (by omega), hI.on, mk_bit (by omega) hs, h0]
  by_cases c : S 26 s = 1
  · rw [if_pos (decide_eq_true c), if_neg (by decide), if_pos ((n3_ix (by omega)).mpr (by omega)), decide_eq_true c, Bool.true_and]
    by_cases c0 : S 18 s = 0
    · rw [if_pos (by rw [c0]; rfl), decide_eq_true (show S 18 s < 2 by omega)]; rfl
    · rw [if_neg (show ¬ (Int32.ofNat (S 18 s) = 0) from fun hh => c0 ((n3_eq (b := 0) (by omega) (by omega)).mp hh)), if_pos ((n3_ix (by omega)).mpr (by omega))]
      by_cases c1 : S 18 s = 1
      · rw [if_pos (by rw [c1]; rfl), decide_eq_true (show S 18 s < 2 by omega)]; rfl
      · rw [if_neg (show ¬ (Int32.ofNat (S 18 s) = 1) from fun hh => c1 ((n3_eq (b := 1) (by omega) (by omega)).mp hh)), decide_eq_false (show ¬ (S 18 s < 2) by omega)]; rfl
  · rw [if_neg (fun hh => c (of_decide_eq_true hh)), if_pos (by decide), decide_eq_false c]; rfl
theorem c_inv {x : Nat} {M : mm_M} : f_X7_invite (Int32.ofNat x) M = mm_si M 42 0 ((M.1 42 0) ||| ((1 : Int32) <<< (Int32.ofNat x &&& 31))) := sq_n
/-- invited -/
theorem k_inv_l (hw : wf_ S) {x1 x2 x3 x4 x5 : Int32} {M0 : mm_M} {Q : Int32 × mm_M → Prop} (hI0 : ic_ S M0)
    (hQ : ∀ M', o42_ M0 M' → M'.1 42 1 = 0 → M'.1 42 6 = 0 → (∀ w, w < 20 → ib_ (M'.1 42 0) w = ivb_ S (S 0 28) w) → wp_ (f_X11_stage_108 x1 x2 x3 x4 x5 M') Q) :
    ∀ (e k n : Nat) (M : mm_M), k + e = S 0 28 → e < n → o42_ M0 M → M.1 42 1 = 0 → M.1 42 6 = 0 → (∀ w, w < 20 → ib_ (M.1 42 0) w = ivb_ S k w) →
    wp_ (f_X11_stage_38l n x1 x2 x3 x4 x5 (Int32.ofNat k) M) Q := by
  have h16 := hw.signs
  have h20 := hw.words
  intro e
  induction e with
  | zero =>
    intro k n M hk hn ho h1 h6 hb
    obtain ⟨m, rfl⟩ : ∃ m, n = m + 1 := ⟨n - 1, by omega⟩
    have hkk : k = S 0 28 := by omega
    unfold f_X11_stage_38l f_X11_stage_38
    rw [ho.1 19 3 (by omega), hI0.told, if_pos ((n3_le (by omega) (by omega)).mpr (by omega))]
    rw [hkk] at hb
    exact hQ M ho h1 h6 hb
  | succ e ih =>
    intro k n M hk hn ho h1 h6 hb
    obtain ⟨m, rfl⟩ : ∃ m, n = m + 1 := ⟨n - 1, by omega⟩
    have e1 : Int32.ofNat k + 1 = Int32.ofNat (k + 1) := n3_add k 1
    have hks : k < S 0 28 := by omega
    have hix : ix_ok (Int32.ofNat k) 16 := (n3_ix (by omega)).mpr (by omega)
    have hst : f_X6_isStaged (Int32.ofNat k) M = some (bi_ (stg_ S k)) := by
      have hI : ic_ S M := hI0.fr h16 (fun a b hab => ho.1 a b (fun hh => by
        have h6 := hw.laws
        unfold pc_ at hab
        omega)) (fun j _ => by rw [ho.2])
      exact c_staged hI hw hks
    unfold f_X11_stage_38l f_X11_stage_38 f_X11_stage_102
    rw [ho.1 19 3 (by omega), hI0.told, if_neg (by rw [n3_le (by omega) (by omega)]; omega)]
    refine wp_be hst ?_
    cases hs : stg_ S k with
    | false =>
      rw [if_pos (by decide)]
      refine wp_sr ?_
      rw [e1]
      exact ih (k + 1) m M (by omega) (by omega) ho h1 h6 (fun w hw2 => by rw [ivb_s, hs, Bool.false_and, Bool.or_false]; exact hb w hw2)
    | true =>
      obtain ⟨s1, s2⟩ := stg_k hs
      have hone := hw.one k hks
      have hoth := (hw.oth k hks (by omega) (by omega)).1
      obtain ⟨-, g1, g2, -⟩ := hI0.sg k hks
      rw [if_neg (by decide)]
      simp only [n3_tn (show k < 2147483648 by omega)]
      refine wp_ck hix (wp_sr (wp_ck hix (wp_sr (wp_sr ?_))))
      rw [ho.1 (22 + k) 1 (by omega), g1, c_inv, si_1, if_neg (by omega), ho.1 (22 + k) 2 (by omega), g2 (by omega) (by omega), c_inv, e1]
      refine ih (k + 1) m _ (by omega) (by omega) (ho.trans ((o42_si (by omega)).trans (o42_si (by omega)))) ?_ ?_ (fun w hw2 => ?_)
      · rw [si_1, if_neg (by omega), si_1, if_neg (by omega)]; exact h1
      · rw [si_1, if_neg (by omega), si_1, if_neg (by omega)]; exact h6
      · rw [si_1, if_pos ⟨rfl, rfl⟩, si_1, if_pos ⟨rfl, rfl⟩, ib_or, ib_or, ib_shl (S 19 k) (by omega) w (by omega), ib_shl (S 20 k) (by omega) w (by omega), hb w hw2, ivb_s, hs, Bool.true_and, Bool.or_assoc]
        congr 2
        · exact decide_eq_decide.mpr eq_comm
        · exact decide_eq_decide.mpr eq_comm
theorem k_seat (hb : ∀ w, w < 20 → ib_ (M.1 42 0) w = P w) (h1 : M.1 42 1 = 0) : wp_ (f_X7_seat M) (fun z => (∀ a b, ¬ (a = 43 ∨ (a = 42 ∧ b = 1)) → z.1 a b = M.1 a b) ∧ z.2 = M.2 ∧ stc_ (cst_ P 20) z) := by
  have key : ∀ (e k n : Nat) (Z : mm_M), k + e = 20 → e < n → (∀ a b, ¬ (a = 43 ∨ (a = 42 ∧ b = 1)) → Z.1 a b = M.1 a b) → Z.2 = M.2 → stc_ (cst_ P k) Z →
      wp_ (f_X7_seat_2l n (Int32.ofNat k) Z) (fun z => (∀ a b, ¬ (a = 43 ∨ (a = 42 ∧ b = 1)) → z.1 a b = M.1 a b) ∧ z.2 = M.2 ∧ stc_ (cst_ P 20) z) := by
    intro e
    induction e with
    | zero =>
      intro k n Z hk hn hm h2 hs
      obtain ⟨m, rfl⟩ : ∃ m, n = m + 1 := ⟨n - 1, by omega⟩
      have hkk : k = 20 := by omega
      unfold f_X7_seat_2l f_X7_seat_2
      rw [if_pos (show (20 : Int32) ≤ Int32.ofNat k from (n3_le (a := 20) (by omega) (by omega)).mpr (by omega))]
      rw [hkk] at hs
      exact wp_some ⟨hm, h2, hs⟩
    | succ e ih =>
      intro k n Z hk hn hm h2 hs
      obtain ⟨m, rfl⟩ : ∃ m, n = m + 1 := ⟨n - 1, by omega⟩
      have e1 : Int32.ofNat k + 1 = Int32.ofNat (k + 1) := n3_add k 1
      have hl := cst_len (P := P) k
      unfold f_X7_seat_2l f_X7_seat_2 f_X7_seat_48
      rw [if_neg (show ¬ ((20 : Int32) ≤ Int32.ofNat k) from fun hh => by have := (n3_le (a := 20) (by omega) (by omega)).mp hh; omega), hm 42 0 (by omega), ib_bit (by omega), hb k (by omega), hs.1]
      cases hp : P k with
      | false =>
        rw [if_pos (by decide)]
        refine wp_sr ?_
        rw [e1]
        exact ih (k + 1) m Z (by omega) (by omega) hm h2 (by rw [cst_n (by rw [hp]; exact fun hh => by cases hh.1)]; exact hs)
      | true =>
        rw [if_pos rfl, if_neg (by decide)]
        by_cases c : (cst_ P k).length < 7
        · rw [if_neg (show ¬ ((7 : Int32) ≤ Int32.ofNat (cst_ P k).length) from fun hh => by have := (n3_le (a := 7) (by omega) (by omega)).mp hh; omega)]
          refine wp_ck ((n3_ix (by omega)).mpr c) (wp_sr (wp_sr (wp_sr ?_)))
          rw [n3_tn (by omega), si_1, if_neg (by omega), hs.1, e1]
          refine ih (k + 1) m _ (by omega) (by omega) (fun a b hab => ?_) h2 ?_
          · rw [si_1, if_neg (by omega), si_1, if_neg (by omega)]; exact hm a b hab
          · rw [cst_y hp c]
            refine ⟨?_, fun i v hv => ?_⟩
            · rw [si_1, if_pos ⟨rfl, rfl⟩, List.length_append]; exact n3_add _ 1
            · rw [si_1, if_neg (by omega), si_1]
              by_cases c2 : i = (cst_ P k).length
              · rw [if_pos ⟨rfl, c2⟩]
                rw [c2] at hv; simp at hv; rw [hv]
              · rw [if_neg (by simp [c2])]
                have := lt_of_some hv
                simp at this
                rw [List.getElem?_append_left (by omega)] at hv
                exact hs.2 i v hv
        · rw [if_pos (show (7 : Int32) ≤ Int32.ofNat (cst_ P k).length from (n3_le (a := 7) (by omega) (by omega)).mpr (by omega))]
          refine wp_sr ?_
          rw [e1]
          exact ih (k + 1) m Z (by omega) (by omega) hm h2 (by rw [cst_n (fun hh => c hh.2)]; exact hs)
  exact key 20 0 fu_ M (by omega) (by unfold fu_; omega) (fun _ _ _ => rfl) rfl ⟨by rw [h1]; rfl, fun i v hv => by cases hv⟩
theorem c_seatOf (hs : stc_ L M) (hl : L.length ≤ 7) (hL : ∀ x, x ∈ L → x < 20) {w : Nat} (hw : w < 20) : f_X7_seatOf (Int32.ofNat w) M = some (sto_ (sei_ L w)) := by
  have key : ∀ (e k n : Nat), k + e = L.length → e < n → (∀ i, i < k → L[i]? ≠ some w) → f_X7_seatOf_2l M n (Int32.ofNat w) (Int32.ofNat k) = some (sto_ (sei_ L w)) := by
    intro e
    induction e with
    | zero =>
      intro k n hk hn hi
      obtain ⟨m, rfl⟩ : ∃ m, n = m + 1 := ⟨n - 1, by omega⟩
      unfold f_X7_seatOf_2l f_X7_seatOf_2 sei_
      rw [hs.1, if_pos ((n3_le (by omega) (by omega)).mpr (by omega)), fnd_n (fun i hi2 => decide_eq_false (hi i (by omega)))]; rfl
    | succ e ih =>
      intro k n hk hn hi
      obtain ⟨m, rfl⟩ : ∃ m, n = m + 1 := ⟨n - 1, by omega⟩
      have hkl : k < L.length := by omega
      have hat : L[k]? = some L[k] := List.getElem?_eq_getElem hkl
      have h20 := hL L[k] (List.getElem_mem hkl)
      unfold f_X7_seatOf_2l f_X7_seatOf_2
      rw [hs.1, if_neg (by rw [n3_le (by omega) (by omega)]; omega), if_pos ((n3_ix (by omega)).mpr (by omega)), n3_tn (by omega), hs.2 k _ hat]
      by_cases c : L[k] = w
      · rw [if_pos (by rw [c])]
        have := fnd_s (P := fun i => decide (L[i]? = some w)) (k := k) (fun i hi2 => decide_eq_false (hi i hi2)) (decide_eq_true (by rw [hat, c])) (L.length - (k + 1))
        rw [show k + 1 + (L.length - (k + 1)) = L.length by omega] at this
        unfold sei_
        rw [this]; rfl
      · rw [if_neg (by rw [n3_eq (by omega) (by omega)]; exact c), sq_n, show Int32.ofNat k + 1 = Int32.ofNat (k + 1) from n3_add k 1]
        refine ih (k + 1) m (by omega) (by omega) (fun i hi2 => ?_)
        by_cases c2 : i = k
        · rw [c2, hat]; exact fun hh => c (Option.some.inj hh)
        · exact hi i (by omega)
  exact key L.length 0 fu_ (by omega) (by unfold fu_; omega) (fun i hi => by omega)
/-- the signs that count -/
def prb_ (S : sg_) (L : List Nat) (s : Nat) : Bool := stg_ S s && ((sei_ L (S 19 s)).isSome && (sei_ L (S 20 s)).isSome)
def prs_ (S : sg_) (L : List Nat) : Nat → List Nat
  | 0 => []
  | k + 1 => if prb_ S L k = true then prs_ S L k ++ [k] else prs_ S L k
theorem prs_len : ∀ k, (prs_ S L k).length ≤ k := by
  intro k
  induction k with
  | zero => exact Nat.le_refl _
  | succ k ih =>
    show (if prb_ S L k = true then prs_ S L k ++ [k] else prs_ S L k).length ≤ _
    split
    · rw [List.length_append]; simp; omega
    · omega
theorem prs_mem : ∀ k s, s ∈ prs_ S L k → s < k ∧ prb_ S L s = true := by
  intro k
  induction k with
  | zero => intro s hs; cases hs
  | succ k ih =>
    intro s hs
    have hs2 : s ∈ (if prb_ S L k = true then prs_ S L k ++ [k] else prs_ S L k) := hs
    by_cases c : prb_ S L k = true
    · rw [if_pos c, List.mem_append, List.mem_singleton] at hs2
      rcases hs2 with hs2 | hs2
      · have := ih s hs2; exact ⟨by omega, this.2⟩
      · rw [hs2]; exact ⟨by omega, c⟩
    · rw [if_neg c] at hs2
      have := ih s hs2; exact ⟨by omega, this.2⟩
def sea_ (L : List Nat) (w : Nat) : Nat := (sei_ L w).getD 0
theorem sei_some {w : Nat} (h : (sei_ L w).isSome = true) : sei_ L w = some (sea_ L w) := by
  unfold sea_
  cases hq : sei_ L w with
  | none => rw [hq] at h; cases h
  | some x => rfl
/-- a sign by two choices of years -/
def sgF_ (S : sg_) (h p : Nat) (t : Nat → Nat) (s i j : Nat) : Bool := ho_k S (S 18 s) (S 23 s) (sd_ S (S 19 s) h (t i) p) (sd_ S (S 20 s) h (t j) p)
def prc_ (S : sg_) (L : List Nat) (F : Nat → Nat → Nat → Bool) (k : Nat) (M : mm_M) : Prop := M.1 42 6 = Int32.ofNat (prs_ S L k).length ∧ ∀ j s, (prs_ S L k)[j]? = some s → M.1 47 j = Int32.ofNat (sea_ L (S 19 s)) ∧ M.1 48 j = Int32.ofNat (sea_ L (S 20 s)) ∧ M.1 49 j = mk_b (fun q => F s (q / 3) (q % 3)) 9
/-- the courses of the three years -/
def crs_ (S : sg_) (h p : Nat) (t : Nat → Nat) (M : mm_M) : Prop := ∃ W pt, tc_ S M W pt ∧ ∀ i, i < 3 → ∃ d, M.1 45 i = Int32.ofNat d ∧ d < W ∧ pt d = pa_ S no_ h (t i) p
theorem k_apr_i (hw : wf_ S) {h p s j0 i : Nat} {t : Nat → Nat} (hs : s < S 0 28) (hj : j0 < 16) (hi : i < 3) {q74 : Nat → Int32 → mm_M → Option mm_M} {Q : mm_M → Prop} {M0 : mm_M} (hI0 : ic_ S M0) (hc0 : crs_ S h p t M0) (h42 : M0.1 42 6 = Int32.ofNat j0) (hst : stg_ S s = true)
    (hQ : ∀ M', (∀ a b, ¬ (a = 49 ∧ b = j0) → M'.1 a b = M0.1 a b) → M'.2 = M0.2 → M'.1 49 j0 = mk_b (fun q => sgF_ S h p t s (q / 3) (q % 3)) (3 * i + 3) → wp_ (q74 (22 + s) (Int32.ofNat (i + 1)) M') Q) :
    ∀ (e j n : Nat) (M : mm_M), j + e = 3 → e < n → (∀ a b, ¬ (a = 49 ∧ b = j0) → M.1 a b = M0.1 a b) → M.2 = M0.2 → M.1 49 j0 = mk_b (fun q => sgF_ S h p t s (q / 3) (q % 3)) (3 * i + j) →
    wp_ (f_X7_addPair_83l q74 n (22 + s) (Int32.ofNat i) (Int32.ofNat j) M) Q := by
  have h16 := hw.signs
  have h6 := hw.laws
  obtain ⟨s1, s2⟩ := stg_k hst
  have hone := hw.one s hs
  have hoth := (hw.oth s hs (by omega) (by omega)).1
  obtain ⟨g0, g1, g2, -⟩ := hI0.sg s hs
  obtain ⟨W, pt, ht0, hcr⟩ := hc0
  intro e
  induction e with
  | zero =>
    intro j n M hk hn hm h2 h49
    obtain ⟨m, rfl⟩ : ∃ m, n = m + 1 := ⟨n - 1, by omega⟩
    have hjj : j = 3 := by omega
    unfold f_X7_addPair_83l f_X7_addPair_83 f_X7_addPair_169
    rw [if_pos (show (3 : Int32) ≤ Int32.ofNat j from (n3_le (a := 3) (by omega) (by omega)).mpr (by omega))]
    refine wp_sr ?_
    rw [show Int32.ofNat i + 1 = Int32.ofNat (i + 1) from n3_add i 1]
    rw [hjj] at h49
    exact hQ M hm h2 h49
  | succ e ih =>
    intro j n M hk hn hm h2 h49
    obtain ⟨m, rfl⟩ : ∃ m, n = m + 1 := ⟨n - 1, by omega⟩
    have hI : ic_ S M := hI0.fr h16 (fun a b hab => hm a b (fun hh => by
      unfold pc_ at hab
      omega)) (fun q _ => by rw [h2])
    have ht : tc_ S M W pt := ht0.fr (hm 5 4 (by omega)) (by funext b; exact hm 70 b (by omega)) (by rw [h2]) (by rw [h2])
    obtain ⟨d1, p1, p2, p3⟩ := hcr i hi
    obtain ⟨d2, r1, r2, r3⟩ := hcr j (by omega)
    have hx : ok_ (sd_ S (S 19 s) h (t i) p) := sd_ok (nv := no_) hw hone
    have hy : ok_ (sd_ S (S 20 s) h (t j) p) := sd_ok (nv := no_) hw hoth
    have hix : ix_ok (Int32.ofNat j0) 16 := (n3_ix (by omega)).mpr hj
    unfold f_X7_addPair_83l f_X7_addPair_83 f_X7_addPair_161
    simp only [n3_tn (show i < 2147483648 by omega), n3_tn (show j < 2147483648 by omega)]
    rw [if_neg (show ¬ ((3 : Int32) ≤ Int32.ofNat j) from fun hh => by have := (n3_le (a := 3) (by omega) (by omega)).mp hh; omega), hm 45 i (by omega), hm 45 j (by omega), hm (22 + s) 1 (by omega), hm (22 + s) 2 (by omega), hm 42 6 (by omega), p1, r1, g1, g2 (by omega) (by omega), h42]
    refine wp_ck ((n3_ix (by omega)).mpr (by omega)) (wp_be (c_form ht hw p2 hone) (wp_ck ((n3_ix (by omega)).mpr (by omega)) (wp_be (c_form ht hw r2 hoth) (wp_ck hix (wp_sr ?_)))))
    rw [c_vow hI, p3, r3, sa_sd, sa_sd]
    refine wp_be (c_soOf (sc_sco hI hs) (hw.kind s hs) (nm_le hw hs) hx hy) ?_
    have eq : Int32.ofNat i * 3 + Int32.ofNat j = Int32.ofNat (3 * i + j) := by
      show Int32.ofNat i * Int32.ofNat 3 + _ = _
      rw [n3_mul, n3_add, Nat.mul_comm]
    have hG : sgF_ S h p t s ((3 * i + j) / 3) ((3 * i + j) % 3) = ho_k S (S 18 s) (S 23 s) (sd_ S (S 19 s) h (t i) p) (sd_ S (S 20 s) h (t j) p) := by
      rw [show (3 * i + j) / 3 = i by omega, show (3 * i + j) % 3 = j by omega]; rfl
    have hmk : mk_b (fun q => sgF_ S h p t s (q / 3) (q % 3)) (3 * i + (j + 1)) = mk_b (fun q => sgF_ S h p t s (q / 3) (q % 3)) (3 * i + j) ||| (if sgF_ S h p t s ((3 * i + j) / 3) ((3 * i + j) % 3) = true then (1 : Int32) <<< (Int32.ofNat (3 * i + j) &&& 31) else 0) := rfl
    rw [hG] at hmk
    have nxt : ∀ v, v = mk_b (fun q => sgF_ S h p t s (q / 3) (q % 3)) (3 * i + (j + 1)) → wp_ (f_X7_addPair_83l q74 m (22 + s) (Int32.ofNat i) (Int32.ofNat (j + 1)) (mm_si M 49 j0 v)) Q := by
      intro v hv
      refine ih (j + 1) m _ (by omega) (by omega) (fun a b hab => ?_) h2 ?_
      · rw [si_1, if_neg hab]; exact hm a b hab
      · rw [si_1, if_pos ⟨rfl, rfl⟩]; exact hv
    cases hho : ho_k S (S 18 s) (S 23 s) (sd_ S (S 19 s) h (t i) p) (sd_ S (S 20 s) h (t j) p) with
    | false =>
      rw [hho, if_neg (by decide)] at hmk
      rw [if_pos (by decide)]
      refine wp_ck hix (wp_sr (wp_sr ?_))
      rw [n3_tn (by omega), h49, show Int32.ofNat j + 1 = Int32.ofNat (j + 1) from n3_add j 1]
      exact nxt _ hmk.symm
    | true =>
      rw [hho, if_pos rfl] at hmk
      rw [if_neg (by decide)]
      refine wp_ck hix (wp_sr (wp_sr ?_))
      rw [n3_tn (by omega), h49, eq, show Int32.ofNat j + 1 = Int32.ofNat (j + 1) from n3_add j 1]
      exact nxt _ hmk.symm
theorem k_apr_o (hw : wf_ S) {h p s j0 : Nat} {t : Nat → Nat} (hs : s < S 0 28) (hj : j0 < 16) {M0 : mm_M} (hI0 : ic_ S M0) (hc0 : crs_ S h p t M0) (h42 : M0.1 42 6 = Int32.ofNat j0) (hst : stg_ S s = true) :
    ∀ (e i n : Nat) (M : mm_M), i + e = 3 → e < n → (∀ a b, ¬ (a = 49 ∧ b = j0) → M.1 a b = M0.1 a b) → M.2 = M0.2 → M.1 49 j0 = mk_b (fun q => sgF_ S h p t s (q / 3) (q % 3)) (3 * i) →
    wp_ (f_X7_addPair_74l n (22 + s) (Int32.ofNat i) M) (fun z => (∀ a b, ¬ (a = 49 ∧ b = j0) → ¬ (a = 42 ∧ b = 6) → z.1 a b = M0.1 a b) ∧ z.2 = M0.2 ∧ z.1 42 6 = Int32.ofNat (j0 + 1) ∧ z.1 49 j0 = mk_b (fun q => sgF_ S h p t s (q / 3) (q % 3)) 9) := by
  have h16 := hw.signs
  have h6 := hw.laws
  intro e
  induction e with
  | zero =>
    intro i n M hk hn hm h2 h49
    obtain ⟨m, rfl⟩ : ∃ m, n = m + 1 := ⟨n - 1, by omega⟩
    have hii : i = 3 := by omega
    unfold f_X7_addPair_74l f_X7_addPair_74 f_X7_addPair_175
    rw [if_pos (show (3 : Int32) ≤ Int32.ofNat i from (n3_le (a := 3) (by omega) (by omega)).mpr (by omega)), hm 42 6 (by omega), h42]
    rw [hii] at h49
    refine wp_sr (wp_some ⟨fun a b h1 h3 => ?_, h2, ?_, ?_⟩)
    · rw [si_1, if_neg h3]; exact hm a b h1
    · rw [si_1, if_pos ⟨rfl, rfl⟩]; exact n3_add _ 1
    · rw [si_1, if_neg (by omega)]; exact h49
  | succ e ih =>
    intro i n M hk hn hm h2 h49
    obtain ⟨m, rfl⟩ : ∃ m, n = m + 1 := ⟨n - 1, by omega⟩
    have hI : ic_ S M := hI0.fr h16 (fun a b hab => hm a b (fun hh => by
      unfold pc_ at hab
      omega)) (fun q _ => by rw [h2])
    have hc : crs_ S h p t M := by
      obtain ⟨W, pt, ht0, hcr⟩ := hc0
      exact ⟨W, pt, ht0.fr (hm 5 4 (by omega)) (by funext b; exact hm 70 b (by omega)) (by rw [h2]) (by rw [h2]), fun q hq => by rw [hm 45 q (by omega)]; exact hcr q hq⟩
    unfold f_X7_addPair_74l f_X7_addPair_74
    rw [if_neg (show ¬ ((3 : Int32) ≤ Int32.ofNat i) from fun hh => by have := (n3_le (a := 3) (by omega) (by omega)).mp hh; omega)]
    refine k_apr_i hw hs hj (by omega) hI hc (by rw [hm 42 6 (by omega)]; exact h42) hst (fun M' hm' h2' h49' => ?_) 3 0 fu_ M (by omega) (by unfold fu_; omega) (fun _ _ _ => rfl) rfl h49
    refine ih (i + 1) m M' (by omega) (by omega) (fun a b hab => by rw [hm' a b hab]; exact hm a b hab) (h2'.trans h2) ?_
    rw [h49', show 3 * i + 3 = 3 * (i + 1) by omega]
end WI1
