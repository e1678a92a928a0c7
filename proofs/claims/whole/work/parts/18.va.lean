/-! CALLS that change the state: sign, end, by, turn, lag -/
section VA1
variable {S S' : sg_} {M Mc Mr : mm_M} {vs : List Nat} {nv : Nat → Bool} {W : Nat} {pt : Nat → List Nat}
theorem up_same {k j v : Nat} : up_ S k j v k j = v := by unfold up_; rw [if_pos ⟨rfl, rfl⟩]
theorem up_oth {k j v a b : Nat} (h : ¬ (a = k ∧ b = j)) : up_ S k j v a b = S a b := by unfold up_; rw [if_neg h]
theorem co_up {k j v : Nat} (h : (13 ≤ k) ∨ (k = 2) ∨ (k = 0 ∧ j ≠ 8 ∧ j ≠ 11)) : co_ S (up_ S k j v) := by
  refine ⟨fun a h1 h2 => ?_, up_oth (by omega), up_oth (by omega)⟩
  funext b
  exact up_oth (by omega)
theorem co_.trans {S1 S2 S3 : sg_} (h1 : co_ S1 S2) (h2 : co_ S2 S3) : co_ S1 S3 :=
  ⟨fun a ha hb => (h2.1 a ha hb).trans (h1.1 a ha hb), h2.2.1.trans h1.2.1, h2.2.2.trans h1.2.2⟩
/-- wf_ over a state with the same words, laws and classes -/
theorem co_.wf (h : co_ S S') (hw : wf_ S) (tp : S' 0 4 ≤ 40) (tape : ∀ j, j < S' 0 4 → S' 2 j < 256) (lag : ∀ p, p < 6 → S' 13 p ≤ 200) (signs : S' 0 28 ≤ 16)
    (kind : ∀ s, s < S' 0 28 → S' 18 s ≤ 4) (one : ∀ s, s < S' 0 28 → S' 19 s < S' 0 8) (oth : ∀ s, s < S' 0 28 → S' 18 s ≠ 2 → S' 18 s ≠ 3 → S' 20 s < S' 0 8 ∧ S' 20 s ≠ S' 19 s)
    (year : ∀ s, s < S' 0 28 → S' 21 s ≤ 600) (pl : ∀ s, s < S' 0 28 → S' 22 s < 6) (nm2 : ∀ s, s < S' 0 28 → S' 18 s = 2 → S' 23 s ≤ 8) (nm3 : ∀ s, s < S' 0 28 → S' 18 s = 3 → S' 23 s ≤ 127)
    (poet : ∀ s, s < S' 0 28 → S' 24 s < 6) (trust : ∀ s, s < S' 0 28 → 1 ≤ S' 25 s ∧ S' 25 s ≤ 9) (on : ∀ s, s < S' 0 28 → S' 26 s ≤ 1)
    (kept : ∀ i, i < 3 → S' 36 i ≤ 1) (ks : ∀ i, i < 3 → S' 37 i ≤ S' 0 28) (kon : ∀ i, i < 3 → ∀ s, s < S' 37 i → S' 38 (16 * i + s) ≤ 1 ∧ S' 39 (16 * i + s) < 6 ∧ 1 ≤ S' 40 (16 * i + s) ∧ S' 40 (16 * i + s) ≤ 9)
    (klag : ∀ i, i < 3 → S' 36 i = 1 → ∀ k, k < 6 → S' 41 (6 * i + k) ≤ 200 ∧ S' 42 (6 * i + k) < 65536) : wf_ S' := by
  have q := fun a h1 h2 => h.a a h1 h2
  refine ⟨tp, tape, ?_, ?_, ?_, ?_, ?_, ?_, ?_, ?_, ?_, ?_, ?_, lag, signs, kind, one, oth, year, pl, nm2, nm3, poet, trust, on, kept, ks, kon, klag⟩
  · rw [q 3 (by omega) (by omega)]; exact hw.cl
  · rw [h.2.1]; exact hw.words
  · rw [h.2.1, q 5 (by omega) (by omega)]; exact hw.sl
  · rw [h.2.1, q 5 (by omega) (by omega), q 4 (by omega) (by omega)]; exact hw.sp
  · rw [h.2.2]; exact hw.laws
  · rw [h.2.2, q 6 (by omega) (by omega)]; exact hw.goes
  · rw [h.2.2, q 7 (by omega) (by omega)]; exact hw.bec
  · rw [h.2.2, q 8 (by omega) (by omega)]; exact hw.lf
  · rw [h.2.2, q 9 (by omega) (by omega)]; exact hw.rt
  · rw [h.2.2, q 10 (by omega) (by omega), q 11 (by omega) (by omega), q 12 (by omega) (by omega)]; exact hw.yr
  · rw [h.hs]; exact hw.hist
/-- a lasting field of the reference is written -/
theorem ir_up {k j v : Nat} (h : ir_ S M) (hpe : ∀ a b, pe_ (up_ S k j v) a b → (a = k ∧ b = j) ∨ pe_ S a b) : ir_ (up_ S k j v) (mm_si M k j (Int32.ofNat v)) := by
  intro a b hp
  rw [si_1]
  by_cases c : a = k ∧ b = j
  · rw [if_pos c, c.1, c.2, up_same]
  · rw [if_neg c, up_oth c]
    rcases hpe a b hp with h1 | h1
    · exact absurd h1 c
    · exact h a b h1
/-- the state: a lasting field of the reference, the rest stays -/
theorem rt_up {k j v : Nat} (h : rt_ S nv vs M) (hpe : ∀ a b, pe_ (up_ S k j v) a b → (a = k ∧ b = j) ∨ pe_ S a b) (h0 : ¬ (k = 0 ∧ (j = 1 ∨ j = 25 ∨ j = 26))) : rt_ (up_ S k j v) nv vs (mm_si M k j (Int32.ofNat v)) := by
  refine ⟨⟨ir_up h.1.1 hpe, fun l hl => ?_, ?_⟩, ?_, fun i w hw => h.2.2 i w hw⟩
  · rw [si_1, if_neg (by omega)]; exact h.1.2.1 l hl
  · show (mm_si M k j (Int32.ofNat v)).1 0 26 = -1
    rw [si_1, if_neg (by omega)]; exact h.1.2.2
  · rw [si_1, if_neg (by omega)]; exact h.2.1
theorem kp_cg {i : Nat} {M' : mm_M} (h : kp_ S M i) (hm : ∀ a b, 51 ≤ a → a < 66 → M'.1 a b = M.1 a b) (hi : i < 3) (hs : ∀ a, 36 ≤ a → S' a = S a) : kp_ S' M' i := by
  unfold kp_ at h ⊢
  rw [hs 36 (by omega), hs 37 (by omega), hs 38 (by omega), hs 39 (by omega), hs 40 (by omega), hs 41 (by omega), hs 42 (by omega), hm _ 0 (by omega) (by omega), hm _ 1 (by omega) (by omega), hm _ 2 (by omega) (by omega)]
  refine ⟨h.1, fun hk => ?_⟩
  obtain ⟨a1, a2, a3, a4⟩ := h.2 hk
  refine ⟨a1, a2, fun s hs => ?_, fun k hk2 => ?_⟩
  · rw [hm _ s (by omega) (by omega), hm _ s (by omega) (by omega)]; exact a3 s hs
  · rw [hm _ k (by omega) (by omega), hm _ k (by omega) (by omega)]; exact a4 k hk2
theorem sc_cg {s : Nat} {M' : mm_M} (h : sc_ S M s) (hm : ∀ b, b < 8 → M'.1 (22 + s) b = M.1 (22 + s) b) (hs : ∀ a, 18 ≤ a → a ≤ 25 → S' a s = S a s) : sc_ S' M' s := by
  unfold sc_ at h ⊢
  rw [hs 18 (by omega) (by omega), hs 19 (by omega) (by omega), hs 20 (by omega) (by omega), hs 21 (by omega) (by omega), hs 22 (by omega) (by omega), hs 23 (by omega) (by omega), hs 24 (by omega) (by omega), hs 25 (by omega) (by omega), hm 0 (by omega), hm 1 (by omega), hm 2 (by omega), hm 3 (by omega), hm 4 (by omega), hm 5 (by omega), hm 6 (by omega), hm 7 (by omega)]
  exact h
theorem pe_up {k j v a b : Nat} (hk : ¬ (k = 0) ∧ k ≠ 5 ∧ k ≠ 18 ∧ k ≠ 36 ∧ k ≠ 37) (h : pe_ (up_ S k j v) a b) : pe_ S a b := by
  have e : ∀ x y, ¬ (x = k) → up_ S k j v x y = S x y := fun x y h => up_oth (fun hh => h hh.1)
  unfold pe_ at h ⊢
  rw [e 0 4 (by omega), e 0 8 (by omega), e 0 11 (by omega), e 0 28 (by omega), e 5 _ (by omega), e 18 _ (by omega), e 36 _ (by omega), e 37 _ (by omega)] at h
  exact h
/-! turn -/
theorem m_turn (h : rl_ Mc Mr) (x1 : Int32) (b : Bool) : ∃ Mr', f_X12_turn x1 (bi_ b) Mr = some ((f_X11_turn x1 (bi_ b) Mc).1, Mr') ∧ rl_ (f_X11_turn x1 (bi_ b) Mc).2 Mr' := by
  obtain ⟨S, vs, hw, hv, hc, hr⟩ := h
  have hr1 := hr.th
  have hrl : rl_ Mc (mm_si Mr 0 0 0) := ⟨S, vs, hw, hv, hc, hr1⟩
  have h16 := hw.signs
  unfold f_X11_turn f_X12_turn
  rw [sq_n (x := mm_si Mr 0 0 0), c_isSign hc.2.1 hw, r_isSign hr1.1.1 hw]
  cases b1 : lt_ x1 (S 0 28) with
  | false => rw [gt_f, gt_f]; exact ⟨_, rfl, hrl⟩
  | true =>
    obtain ⟨s, rfl, hs⟩ := lt_nat b1 (by omega)
    rw [gt_t, gt_t, if_pos ((n3_ix (by omega)).mpr (by omega)), n3_tn (by omega), sq_n]
    have hnar : vp_nar .boolean (bi_ b) = Int32.ofNat (if b = true then 1 else 0) := by cases b <;> rfl
    have hco : co_ S (up_ S 26 s (if b = true then 1 else 0)) := co_up (by omega)
    have e : ∀ x y, ¬ (x = 26) → up_ S 26 s (if b = true then 1 else 0) x y = S x y := fun x y h => up_oth (fun hh => h hh.1)
    have hon : (if b = true then (mm_si Mr 0 0 0, Mc) else (mm_si Mr 0 0 0, Mc)).1 = mm_si Mr 0 0 0 := by cases b <;> rfl
    have hw' : wf_ (up_ S 26 s (if b = true then 1 else 0)) := by
      refine hco.wf hw ?_ ?_ ?_ ?_ ?_ ?_ ?_ ?_ ?_ ?_ ?_ ?_ ?_ ?_ ?_ ?_ ?_ ?_
      · rw [e 0 4 (by omega)]; exact hw.tp
      · intro j hj; rw [e 0 4 (by omega)] at hj; rw [e 2 j (by omega)]; exact hw.tape j hj
      · intro p hp; rw [e 13 p (by omega)]; exact hw.lag p hp
      · rw [e 0 28 (by omega)]; exact hw.signs
      · intro q hq; rw [e 0 28 (by omega)] at hq; rw [e 18 q (by omega)]; exact hw.kind q hq
      · intro q hq; rw [e 0 28 (by omega)] at hq; rw [e 19 q (by omega), e 0 8 (by omega)]; exact hw.one q hq
      · intro q hq; rw [e 0 28 (by omega)] at hq; rw [e 18 q (by omega), e 19 q (by omega), e 20 q (by omega), e 0 8 (by omega)]; exact hw.oth q hq
      · intro q hq; rw [e 0 28 (by omega)] at hq; rw [e 21 q (by omega)]; exact hw.year q hq
      · intro q hq; rw [e 0 28 (by omega)] at hq; rw [e 22 q (by omega)]; exact hw.pl q hq
      · intro q hq; rw [e 0 28 (by omega)] at hq; rw [e 18 q (by omega), e 23 q (by omega)]; exact hw.nm2 q hq
      · intro q hq; rw [e 0 28 (by omega)] at hq; rw [e 18 q (by omega), e 23 q (by omega)]; exact hw.nm3 q hq
      · intro q hq; rw [e 0 28 (by omega)] at hq; rw [e 24 q (by omega)]; exact hw.poet q hq
      · intro q hq; rw [e 0 28 (by omega)] at hq; rw [e 25 q (by omega)]; exact hw.trust q hq
      · intro q hq; rw [e 0 28 (by omega)] at hq
        by_cases c : q = s
        · rw [c, up_same]; split <;> omega
        · rw [up_oth (by omega)]; exact hw.on q hq
      · intro i hi; rw [e 36 i (by omega)]; exact hw.kept i hi
      · intro i hi; rw [e 37 i (by omega), e 0 28 (by omega)]; exact hw.ks i hi
      · intro i hi q hq; rw [e 37 i (by omega)] at hq; rw [e 38 _ (by omega), e 39 _ (by omega), e 40 _ (by omega)]; exact hw.kon i hi q hq
      · intro i hi hk k hk2; rw [e 36 i (by omega)] at hk; rw [e 41 _ (by omega), e 42 _ (by omega)]; exact hw.klag i hi hk k hk2
    have hrt : rt_ (up_ S 26 s (if b = true then 1 else 0)) no_ vs (mm_si (mm_si Mr 0 0 0) 26 s (Int32.ofNat (if b = true then 1 else 0))) := rt_up hr1 (fun a b h => Or.inr (pe_up (by omega) h)) (by omega)
    have hcs : ∀ t, (∀ q, q < 32 → ib_ t q = (decide (q < S 0 28) && decide (up_ S 26 s (if b = true then 1 else 0) 26 q = 1))) → cs_ (up_ S 26 s (if b = true then 1 else 0)) vs (mm_si Mc 19 4 t) := by
      intro t ht
      obtain ⟨⟨W, pt, htc⟩, hI, hh, hro⟩ := hc
      refine ⟨⟨W, pt, hco.tc (htc.si (by omega) (by omega))⟩, ?_, ?_, ?_⟩
      · refine hco.ic hw hI (fun a b hab => by rw [si_1, if_neg (by omega)]) rfl ?_ ?_ ?_ ?_ ?_ ?_ ?_ ?_
        · rw [si_1, if_neg (by omega), e 0 4 (by omega)]; exact hI.tp
        · intro j hj; rw [e 0 4 (by omega)] at hj; rw [si_1, if_neg (by omega), e 2 j (by omega)]; exact hI.tape j hj
        · intro p hp; rw [si_1, if_neg (by omega), e 13 p (by omega)]; exact hI.lag p hp
        · rw [si_1, if_neg (by omega), e 0 28 (by omega)]; exact hI.told
        · rw [si_1, if_pos ⟨rfl, rfl⟩, e 0 28 (by omega)]
          apply ib_ext
          intro q hq
          rw [ht q hq, mk_ib _ (by omega) q hq]
        · intro q hq; rw [e 0 28 (by omega)] at hq
          exact sc_cg (hI.sg q hq) (fun b hb => by rw [si_1, if_neg (by omega)]) (fun a h1 h2 => e a q (by omega))
        · intro i hi; exact kp_cg (hI.kept i hi) (fun a b h1 h2 => by rw [si_1, if_neg (by omega)]) hi (fun a h1 => by funext y; exact e a y (by omega))
        · intro q h1 h2; rw [e 0 28 (by omega)] at h1; rw [si_1, if_neg (by omega), si_1, if_neg (by omega)]; exact hI.fresh q h1 h2
      · intro q hq hd hi2 hhi
        rw [e 0 28 (by omega)] at hq
        rw [hco.hs] at hhi
        rw [si_1, if_neg (by omega)] at hd ⊢
        rw [show ho_ (up_ S 26 s (if b = true then 1 else 0)) q hi2 = ho_ S q hi2 from hco.ho (fun a h1 h2 => e a q (by omega)) (e 13 _ (by omega)) no_ hi2]
        exact hh q hq hd hi2 hhi
      · exact ⟨by rw [si_1, if_neg (by omega)]; exact hro.1, hro.2⟩
    rw [hnar]
    cases b with
    | false =>
      rw [if_pos (show bi_ false = 0 from rfl)]
      refine ⟨_, rfl, _, vs, hw', hv, hcs _ (fun q hq => ?_), hrt⟩
      rw [ib_and, ib_not hq, ib_shl s (by omega) q hq, hc.2.1.on, mk_ib _ (by omega) q hq]
      by_cases c : q = s
      · rw [c, up_same]; simp
      · rw [up_oth (by omega), decide_eq_false c]; simp
    | true =>
      rw [if_neg (show ¬ (bi_ true = 0) by decide)]
      refine ⟨_, rfl, _, vs, hw', hv, hcs _ (fun q hq => ?_), hrt⟩
      rw [ib_or, ib_shl s (by omega) q hq, hc.2.1.on, mk_ib _ (by omega) q hq]
      by_cases c : q = s
      · rw [c, up_same, decide_eq_true hs]; simp
      · rw [up_oth (by omega), decide_eq_false c]; simp
end VA1
