/-! CALLS: next, might -/
section UJ1
variable {S : sg_} {M Mc Mr : mm_M} {vs : List Nat} {nv : Nat → Bool} {W : Nat} {pt : Nat → List Nat}
/-- not more even -/
def me_ (part than whole : Int32) : Prop := (if 0 ≤ ((2 * than) - whole) then ((2 * than) - whole) else 0 - ((2 * than) - whole)) ≤ (if 0 ≤ ((2 * part) - whole) then ((2 * part) - whole) else 0 - ((2 * part) - whole))
def meb_ (part than whole : Int32) : Bool := decide ((if 0 ≤ ((2 * than) - whole) then ((2 * than) - whole) else 0 - ((2 * than) - whole)) ≤ (if 0 ≤ ((2 * part) - whole) then ((2 * part) - whole) else 0 - ((2 * part) - whole)))
theorem nb_if {p : Prop} {hd : Decidable p} : (if p then (0 : Int32) else 1) = bi_ (!decide p) := by
  by_cases c : p
  · rw [if_pos c, decide_eq_true c]; rfl
  · rw [if_neg c, decide_eq_false c]; rfl
theorem me_bi {a b c : Int32} : f_X11_isMoreEven a b c = bi_ (!meb_ a b c) := nb_if
/-- the sign that parts best, and by how many it holds -/
def nx_ (S : sg_) (fl : List Nat) : Nat → Option (Nat × Nat)
  | 0 => none
  | k + 1 => if S 26 k = 1 then nx_ S fl k else match nx_ S fl k with
    | none => some (k, nl_ (ho_ S k) fl)
    | some (s, n) => if meb_ (Int32.ofNat (nl_ (ho_ S k) fl)) (Int32.ofNat n) (Int32.ofNat fl.length) = true then some (s, n) else some (k, nl_ (ho_ S k) fl)
theorem nx_lt {fl : List Nat} (hfl : fl.length ≤ 600) : ∀ k s n, nx_ S fl k = some (s, n) → s < k ∧ n ≤ 600 := by
  intro k
  induction k with
  | zero => intro s n h; cases h
  | succ k ih =>
    intro s n h
    have hnl := nl_le (f := ho_ S k) (hs := fl)
    unfold nx_ at h
    split at h
    · have := ih s n h; omega
    · split at h
      · cases h; omega
      · rename_i q r hq
        split at h
        · cases h; have := ih _ _ hq; omega
        · cases h; omega
def nxa_ (o : Option (Nat × Nat)) : Int32 := match o with
  | none => -1
  | some (s, _) => Int32.ofNat s
def nxh_ (o : Option (Nat × Nat)) : Nat := match o with
  | none => 0
  | some (_, n) => n
theorem mk_bit {f : Nat → Bool} {n s : Nat} (hn : n ≤ 32) (hs : s < n) : ib_ (mk_b f n) s = f s := by
  rw [mk_ib n hn s (by omega), decide_eq_true hs]; rfl
theorem nxh_lt {fl : List Nat} (hfl : fl.length ≤ 600) (k : Nat) : nxh_ (nx_ S fl k) ≤ 600 := by
  cases h : nx_ S fl k with
  | none => show 0 ≤ 600; omega
  | some q => exact (nx_lt hfl k q.1 q.2 h).2
theorem k_next_l (hw : wf_ S) (hc : cs_ S vs M) (hk : hl_ S M) : ∀ (e k n : Nat), k + e = S 0 28 → e < n →
    wp_ (f_X11_next_52l n (Int32.ofNat (fl_ S no_ (hs_ S)).length) (nxa_ (nx_ S (fl_ S no_ (hs_ S)) k)) (Int32.ofNat (nxh_ (nx_ S (fl_ S no_ (hs_ S)) k))) (Int32.ofNat k) M) (fun z => z.1 = nxa_ (nx_ S (fl_ S no_ (hs_ S)) (S 0 28)) ∧ cs_ S [nxh_ (nx_ S (fl_ S no_ (hs_ S)) (S 0 28))] z.2) := by
  have h600 := hw.hist
  have h16 := hw.signs
  have hll := fl_len (S := S) (nv := no_) (k := hs_ S)
  intro e
  induction e with
  | zero =>
    intro k n hk2 hn
    obtain ⟨m, rfl⟩ : ∃ m, n = m + 1 := ⟨n - 1, by omega⟩
    have hkk : k = S 0 28 := by omega
    have := nxh_lt (S := S) (fl := fl_ S no_ (hs_ S)) (by omega) (S 0 28)
    unfold f_X11_next_52l f_X11_next_52 f_X11_next_117
    rw [hc.2.1.told, if_pos ((n3_le (by omega) (by omega)).mpr (by omega)), hkk, n3_6 (by omega)]
    exact wp_sr (wp_bd (wp_mo ((hc.clear hw).add hw (by simp) _) (fun z hz => wp_some ⟨rfl, hz.1⟩)))
  | succ e ih =>
    intro k n hk2 hn
    obtain ⟨m, rfl⟩ : ∃ m, n = m + 1 := ⟨n - 1, by omega⟩
    have hks : k < S 0 28 := by omega
    have e1 : Int32.ofNat k + 1 = Int32.ofNat (k + 1) := n3_add k 1
    have go := ih (k + 1) m (by omega) (by omega)
    have hnx : nx_ S (fl_ S no_ (hs_ S)) (k + 1) = if S 26 k = 1 then nx_ S (fl_ S no_ (hs_ S)) k else match nx_ S (fl_ S no_ (hs_ S)) k with
      | none => some (k, nl_ (ho_ S k) (fl_ S no_ (hs_ S)))
      | some (s, n) => if meb_ (Int32.ofNat (nl_ (ho_ S k) (fl_ S no_ (hs_ S)))) (Int32.ofNat n) (Int32.ofNat (fl_ S no_ (hs_ S)).length) = true then some (s, n) else some (k, nl_ (ho_ S k) (fl_ S no_ (hs_ S))) := rfl
    unfold f_X11_next_52l f_X11_next_52 f_X11_next_105 f_X11_next_111
    rw [hc.2.1.told, if_neg (by rw [n3_le (by omega) (by omega)]; omega), ib_bit (by omega), hc.2.1.on, mk_bit (by omega) hks]
    by_cases c : S 26 k = 1
    · rw [decide_eq_true c, if_neg (by decide)]
      rw [if_pos c] at hnx
      rw [hnx] at go
      refine wp_sr ?_
      rw [e1]
      exact go
    · rw [decide_eq_false c, if_pos (by decide)]
      rw [if_neg c] at hnx
      refine wp_be (c_fitHold hc.2.1 hw hk hks) ?_
      cases ho : nx_ S (fl_ S no_ (hs_ S)) k with
      | none =>
        rw [ho] at hnx
        rw [hnx] at go
        rw [if_pos (show nxa_ none = -1 from rfl)]
        refine wp_sr ?_
        rw [e1]
        exact go
      | some q =>
        obtain ⟨s, nn⟩ := q
        have hlt := nx_lt (S := S) (fl := fl_ S no_ (hs_ S)) (by omega) k s nn ho
        rw [ho] at hnx
        rw [if_neg (show ¬ (nxa_ (some (s, nn)) = -1) from fun hh => (n3_nm (show s < 2147483648 by omega)).mp hh)]
        refine wp_sr ?_
        have hme := me_bi (a := Int32.ofNat (nl_ (ho_ S k) (fl_ S no_ (hs_ S)))) (b := Int32.ofNat nn) (c := Int32.ofNat (fl_ S no_ (hs_ S)).length)
        have hh2 : nxh_ (some (s, nn)) = nn := rfl
        rw [hh2, hme]
        have hnx2 : nx_ S (fl_ S no_ (hs_ S)) (k + 1) = if meb_ (Int32.ofNat (nl_ (ho_ S k) (fl_ S no_ (hs_ S)))) (Int32.ofNat nn) (Int32.ofNat (fl_ S no_ (hs_ S)).length) = true then some (s, nn) else some (k, nl_ (ho_ S k) (fl_ S no_ (hs_ S))) := hnx
        cases hm : meb_ (Int32.ofNat (nl_ (ho_ S k) (fl_ S no_ (hs_ S)))) (Int32.ofNat nn) (Int32.ofNat (fl_ S no_ (hs_ S)).length) with
        | true =>
          rw [hm, if_pos rfl] at hnx2
          rw [hnx2] at go
          rw [if_pos (by decide)]
          refine wp_sr ?_
          rw [e1]
          exact go
        | false =>
          rw [hm, if_neg (by decide)] at hnx2
          rw [hnx2] at go
          rw [if_neg (by decide)]
          refine wp_sr ?_
          rw [e1]
          exact go
theorem q_next_l (hw : wf_ S) : ∀ (e k n : Nat) (M : mm_M), k + e = S 0 28 → e < n → rt_ S no_ vs M → ga_ M (fl_ S no_ (hs_ S)) →
    wp_ (f_X12_next_39l n (nxa_ (nx_ S (fl_ S no_ (hs_ S)) k)) (Int32.ofNat (nxh_ (nx_ S (fl_ S no_ (hs_ S)) k))) (Int32.ofNat k) M) (fun z => z.1 = nxa_ (nx_ S (fl_ S no_ (hs_ S)) (S 0 28)) ∧ rt_ S no_ [nxh_ (nx_ S (fl_ S no_ (hs_ S)) (S 0 28))] z.2) := by
  have h600 := hw.hist
  have h16 := hw.signs
  have hll := fl_len (S := S) (nv := no_) (k := hs_ S)
  intro e
  induction e with
  | zero =>
    intro k n M hk2 hn h hg
    obtain ⟨m, rfl⟩ : ∃ m, n = m + 1 := ⟨n - 1, by omega⟩
    have hkk : k = S 0 28 := by omega
    have := nxh_lt (S := S) (fl := fl_ S no_ (hs_ S)) (by omega) (S 0 28)
    unfold f_X12_next_39l f_X12_next_39 f_X12_next_107
    rw [h.1.1.signs, if_pos ((n3_le (by omega) (by omega)).mpr (by omega)), hkk, n3_6 (by omega)]
    exact wp_sr (wp_bd (wp_mo (r_ent (rr_nil h) (by simp) _) (fun z hz => wp_some ⟨rfl, hz.1⟩)))
  | succ e ih =>
    intro k n M hk2 hn h hg
    obtain ⟨m, rfl⟩ : ∃ m, n = m + 1 := ⟨n - 1, by omega⟩
    have hks : k < S 0 28 := by omega
    have e1 : Int32.ofNat k + 1 = Int32.ofNat (k + 1) := n3_add k 1
    have hnx : nx_ S (fl_ S no_ (hs_ S)) (k + 1) = if S 26 k = 1 then nx_ S (fl_ S no_ (hs_ S)) k else match nx_ S (fl_ S no_ (hs_ S)) k with
      | none => some (k, nl_ (ho_ S k) (fl_ S no_ (hs_ S)))
      | some (s, n) => if meb_ (Int32.ofNat (nl_ (ho_ S k) (fl_ S no_ (hs_ S)))) (Int32.ofNat n) (Int32.ofNat (fl_ S no_ (hs_ S)).length) = true then some (s, n) else some (k, nl_ (ho_ S k) (fl_ S no_ (hs_ S))) := rfl
    unfold f_X12_next_39l f_X12_next_39 f_X12_next_96 f_X12_next_101
    rw [h.1.1.signs, if_neg (by rw [n3_le (by omega) (by omega)]; omega)]
    refine wp_ck ((n3_ix (by omega)).mpr (by omega)) ?_
    rw [n3_tn (by omega), (h.1.1.sg hks).2.2.2.2.2.2]
    by_cases c : S 26 k = 1
    · rw [if_neg (by rw [on_ne hw hks]; exact fun h => h c)]
      rw [if_pos c] at hnx
      have go := ih (k + 1) m M (by omega) (by omega) h hg
      rw [hnx] at go
      refine wp_sr ?_
      rw [e1]
      exact go
    · rw [if_pos (by rw [on_ne hw hks]; exact c)]
      rw [if_neg c] at hnx
      refine wp_bd (wp_mo (q_heldS hw h hks (fun x hx => by have := (fl_mem hx).1; omega) (by omega) hg) (fun z hz => ?_))
      obtain ⟨z1, z2, z3, -⟩ := hz
      have go := ih (k + 1) m z.2 (by omega) (by omega) z2 z3
      have hz1 : z.1 = Int32.ofNat (nl_ (ho_ S k) (fl_ S no_ (hs_ S))) := z1
      rw [hz1]
      cases ho : nx_ S (fl_ S no_ (hs_ S)) k with
      | none =>
        rw [ho] at hnx
        rw [hnx] at go
        rw [if_pos (show nxa_ none < 0 by decide)]
        refine wp_sr ?_
        rw [e1]
        exact go
      | some q =>
        obtain ⟨s, nn⟩ := q
        have hlt := nx_lt (S := S) (fl := fl_ S no_ (hs_ S)) (by omega) k s nn ho
        rw [ho] at hnx
        rw [if_neg (show ¬ (nxa_ (some (s, nn)) < 0) from fun hh => (n3_neg (show s < 2147483648 by omega)).mp hh)]
        have hh2 : nxh_ (some (s, nn)) = nn := rfl
        rw [hh2, z3.1]
        have hnx2 : nx_ S (fl_ S no_ (hs_ S)) (k + 1) = if meb_ (Int32.ofNat (nl_ (ho_ S k) (fl_ S no_ (hs_ S)))) (Int32.ofNat nn) (Int32.ofNat (fl_ S no_ (hs_ S)).length) = true then some (s, nn) else some (k, nl_ (ho_ S k) (fl_ S no_ (hs_ S))) := hnx
        cases hm : meb_ (Int32.ofNat (nl_ (ho_ S k) (fl_ S no_ (hs_ S)))) (Int32.ofNat nn) (Int32.ofNat (fl_ S no_ (hs_ S)).length) with
        | true =>
          rw [hm, if_pos rfl] at hnx2
          rw [hnx2] at go
          rw [if_pos (of_decide_eq_true hm)]
          refine wp_sr ?_
          rw [e1]
          exact go
        | false =>
          rw [hm, if_neg (by decide)] at hnx2
          rw [hnx2] at go
          rw [if_neg (of_decide_eq_false hm)]
          refine wp_sr ?_
          rw [e1]
          exact go
theorem m_next (h : rl_ Mc Mr) : bo_ (f_X11_next Mc) (f_X12_next Mr) := by
  obtain ⟨S, vs, hw, hv, hc, hr⟩ := h
  have hr1 := hr.th
  have hrl : rl_ Mc (mm_si Mr 0 0 0) := ⟨S, vs, hw, hv, hc, hr1⟩
  have h600 := hw.hist
  have h16 := hw.signs
  have hll := fl_len (S := S) (nv := no_) (k := hs_ S)
  unfold f_X11_next f_X12_next
  rw [sq_n, q_onMany hr1.1.1 hw, Option.bind_some, hc.2.1.on, hc.2.1.told, hr1.1.1.signs]
  have hnb : nb_ (fun s => decide (S 26 s = 1) && decide (Int32.ofNat s ≠ -1)) (S 0 28) = nb_ (fun s => decide (S 26 s = 1)) (S 0 28) := nb_cg _ (fun i hi => by rw [on_1 i (by omega), Bool.and_true])
  rw [hnb]
  have hle := nb_le (f := fun s => decide (S 26 s = 1)) (S 0 28)
  by_cases c : ∀ s, s < S 0 28 → decide (S 26 s = 1) = true
  · rw [if_pos ((mk_full h16).mpr c), if_pos (by rw [(nb_all _).mpr c])]
    exact bo_no hrl
  · rw [if_neg (fun hh => c ((mk_full h16).mp hh)), if_neg (by rw [n3_eq (by omega) (by omega)]; exact fun hh => c ((nb_all _).mp hh))]
    by_cases c0 : (fl_ S no_ (hs_ S)).length = 0
    · refine bo_mk (A := -2) hw hv ?_ ?_
      · refine wp_bd (wp_mo (hc.look hw) (fun z hz => ?_))
        unfold f_X11_next_30
        refine wp_be (c_fitCount hz.1.2.1 hw hz.2.1) ?_
        rw [c0, if_pos (by rfl)]
        exact wp_some ⟨rfl, hz.1⟩
      · refine wp_bd (wp_mo (q_gath hr1.1 hw) (fun z hz => ?_))
        rw [hz.2.1, c0, if_pos (by rfl)]
        exact wp_some ⟨rfl, hr1.ga hz.1⟩
    · have := nxh_lt (S := S) (fl := fl_ S no_ (hs_ S)) (by omega) (S 0 28)
      refine bo_mk (S := S) (vs := [nxh_ (nx_ S (fl_ S no_ (hs_ S)) (S 0 28))]) (A := nxa_ (nx_ S (fl_ S no_ (hs_ S)) (S 0 28))) hw ⟨by simp, fun v hv2 => by simp at hv2; omega⟩ ?_ ?_
      · refine wp_bd (wp_mo (hc.look hw) (fun z hz => ?_))
        unfold f_X11_next_30
        refine wp_be (c_fitCount hz.1.2.1 hw hz.2.1) ?_
        rw [if_neg (by show ¬ (_ = Int32.ofNat 0); rw [n3_eq (by omega) (by omega)]; exact c0)]
        exact k_next_l hw hz.1 hz.2.1 (S 0 28) 0 fu_ (by omega) (by unfold fu_; omega)
      · refine wp_bd (wp_mo (q_gath hr1.1 hw) (fun z hz => ?_))
        rw [hz.2.1, if_neg (by show ¬ (_ = Int32.ofNat 0); rw [n3_eq (by omega) (by omega)]; exact c0)]
        exact q_next_l hw (S 0 28) 0 fu_ z (by omega) (by unfold fu_; omega) (hr1.ga hz.1) hz.2
/-! a sign, as told -/
def mb_ (S : sg_) (x1 x2 x3 x6 : Int32) : Bool := lt_ x2 (S 0 8) && (if x1 = 0 ∨ x1 = 1 ∨ x1 = 4 then (lt_ x3 (S 0 8) && decide (x2 ≠ x3)) else if x1 = 2 then lt_ x6 9 else if x1 = 3 then lt_ x6 128 else false)
theorem c_may (hI : ic_ S M) (hw : wf_ S) (x1 x2 x3 x6 : Int32) : f_X11_mayBeSign x1 x2 x3 x6 M = bi_ (mb_ S x1 x2 x3 x6) := by
  have two : ∀ {X : Int32}, X = sq_ (bi_ (lt_ x3 (S 0 8))) (fun z => if z = 0 then (0 : Int32) else if x2 = x3 then 0 else 1) → X = bi_ (lt_ x3 (S 0 8) && decide (x2 ≠ x3)) := by
    intro X hX
    rw [hX]
    cases lt_ x3 (S 0 8) with
    | false => rw [gt_f]; rfl
    | true =>
      rw [gt_t]
      by_cases c : x2 = x3
      · rw [if_pos c, decide_eq_false (fun h => h c)]; rfl
      · rw [if_neg c, decide_eq_true c]; rfl
  unfold f_X11_mayBeSign mb_
  rw [c_isWord (x := x2) hI hw, c_isWord (x := x3) hI hw]
  cases lt_ x2 (S 0 8) with
  | false => rw [gt_f]; rfl
  | true =>
    rw [gt_t, Bool.true_and]
    by_cases c0 : x1 = 0
    · rw [if_pos c0, if_pos (Or.inl c0)]; exact two rfl
    · rw [if_neg c0]
      by_cases c1 : x1 = 1
      · rw [if_pos c1, if_pos (Or.inr (Or.inl c1))]; exact two rfl
      · rw [if_neg c1]
        by_cases c2 : x1 = 2
        · rw [if_pos c2, if_neg (show ¬ (x1 = 0 ∨ x1 = 1 ∨ x1 = 4) by rw [c2]; decide), if_pos c2]
          have h0 : Int32.toInt 0 = 0 := by decide
          have h8 : Int32.toInt 8 = 8 := by decide
          unfold lt_ bi_
          simp only [Int32.lt_iff_toInt_lt, h0, h8]
          by_cases d1 : x6.toInt < 0
          · rw [if_pos d1, if_neg (by simp; omega)]
          · rw [if_neg d1]
            by_cases d2 : 8 < x6.toInt
            · rw [if_pos d2, if_neg (by simp; omega)]
            · rw [if_neg d2, if_pos (by simp; omega)]
        · rw [if_neg c2]
          by_cases c3 : x1 = 3
          · rw [if_pos c3, if_neg (show ¬ (x1 = 0 ∨ x1 = 1 ∨ x1 = 4) by rw [c3]; decide), if_neg c2, if_pos c3, sq_n, show (128 : Int32) = Int32.ofNat 128 from rfl, c_bl (by omega)]
          · rw [if_neg c3]
            by_cases c4 : x1 = 4
            · rw [if_pos c4, if_pos (Or.inr (Or.inr c4))]; exact two rfl
            · rw [if_neg c4, if_neg (fun h => by rcases h with h | h | h; exact c0 h; exact c1 h; exact c4 h), if_neg c2, if_neg c3]; rfl
theorem r_may (hI : ir_ S M) (hw : wf_ S) (x1 x2 x3 x4 x5 x6 : Int32) : f_X12_isMark x1 x2 x3 x4 x5 x6 M = bi_ (mb_ S x1 x2 x3 x6 && (lt_ x4 601 && lt_ x5 6)) := by
  have k0 : f_X12_in x1.toInt64 (0 : Int64) (4 : Int64) = bi_ (lt_ x1 5) := r_in0 (b := 4) (by omega)
  have k8 : f_X12_in x6.toInt64 (0 : Int64) (8 : Int64) = bi_ (lt_ x6 9) := r_in0 (b := 8) (by omega)
  have k7 : f_X12_in x6.toInt64 (0 : Int64) (127 : Int64) = bi_ (lt_ x6 128) := r_in0 (b := 127) (by omega)
  have kind : lt_ x1 5 = true → x1 = 0 ∨ x1 = 1 ∨ x1 = 2 ∨ x1 = 3 ∨ x1 = 4 := by
    intro h
    obtain ⟨k, rfl, hk⟩ := lt_nat h (by omega)
    have : k = 0 ∨ k = 1 ∨ k = 2 ∨ k = 3 ∨ k = 4 := by omega
    rcases this with h | h | h | h | h
    · rw [h]; exact Or.inl rfl
    · rw [h]; exact Or.inr (Or.inl rfl)
    · rw [h]; exact Or.inr (Or.inr (Or.inl rfl))
    · rw [h]; exact Or.inr (Or.inr (Or.inr (Or.inl rfl)))
    · rw [h]; exact Or.inr (Or.inr (Or.inr (Or.inr rfl)))
  have kn : ∀ n, n < 5 → lt_ (Int32.ofNat n) 5 = true := fun n hn => by rw [lt_of_nat (by omega)]; exact decide_eq_true hn
  unfold f_X12_isMark f_X12_isMark_14 f_X12_isMark_19 f_X12_isMark_73 f_X12_isMark_69 f_X12_isMark_74 f_X12_isMark_99 f_X12_isMark_117 mb_
  rw [k0, k8, k7, r_isWord (x := x2) hI hw, r_isWord (x := x3) hI hw, r_isThen]
  simp only [sq_n]
  cases hw2 : lt_ x2 (S 0 8) <;> cases ht : (lt_ x4 601 && lt_ x5 6) <;> cases hw3 : lt_ x3 (S 0 8) <;> cases h9 : lt_ x6 9 <;> cases h128 : lt_ x6 128 <;> (
    by_cases c : lt_ x1 5 = true
    · rcases kind c with h | h | h | h | h
      all_goals (
        subst h
        by_cases cc : x2 = x3
        · subst cc
          simp [bi_, kn 0, kn 1, kn 2, kn 3, kn 4, c]
        · have cc2 : ¬ (x3 = x2) := fun h => cc h.symm
          simp [bi_, cc, cc2, c])
    · have cf : lt_ x1 5 = false := by cases h : lt_ x1 5; rfl; exact absurd h c
      have n0 : ¬ (x1 = 0) := fun h => by rw [h] at cf; exact absurd (kn 0 (by omega)) (by rw [show Int32.ofNat 0 = (0 : Int32) from rfl, cf]; decide)
      have n1 : ¬ (x1 = 1) := fun h => by rw [h] at cf; exact absurd (kn 1 (by omega)) (by rw [show Int32.ofNat 1 = (1 : Int32) from rfl, cf]; decide)
      have n2 : ¬ (x1 = 2) := fun h => by rw [h] at cf; exact absurd (kn 2 (by omega)) (by rw [show Int32.ofNat 2 = (2 : Int32) from rfl, cf]; decide)
      have n3 : ¬ (x1 = 3) := fun h => by rw [h] at cf; exact absurd (kn 3 (by omega)) (by rw [show Int32.ofNat 3 = (3 : Int32) from rfl, cf]; decide)
      have n4 : ¬ (x1 = 4) := fun h => by rw [h] at cf; exact absurd (kn 4 (by omega)) (by rw [show Int32.ofNat 4 = (4 : Int32) from rfl, cf]; decide)
      simp [bi_, cf, n0, n1, n2, n3, n4])
end UJ1
