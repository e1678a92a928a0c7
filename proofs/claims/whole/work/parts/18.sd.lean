/-! THE CLASS: histories: laws in order, their years; the course of a history -/
theorem bv_lt {B : Nat} (hB : 0 < B) : ∀ xs : List Nat, (∀ x, x ∈ xs → x < B) → bv_ B xs < B ^ xs.length := by
  intro xs
  induction xs with
  | nil => intro _; exact Nat.one_pos
  | cons x xs ih =>
    intro h
    have h1 := h x (by simp)
    have h2 := ih (fun z hz => h z (by simp [hz]))
    rw [List.length_cons, Nat.pow_succ']
    show x + B * bv_ B xs < _
    have h3 : B * (bv_ B xs + 1) ≤ B * B ^ xs.length := Nat.mul_le_mul_left B (by omega)
    rw [Nat.mul_add, Nat.mul_one] at h3
    omega
theorem bv_div {B : Nat} (hB : 0 < B) : ∀ (i : Nat) (xs : List Nat), (∀ x, x ∈ xs → x < B) → bv_ B xs / B ^ i = bv_ B (xs.drop i) := by
  intro i
  induction i with
  | zero => intro xs _; simp
  | succ i ih =>
    intro xs h
    cases xs with
    | nil => simp [bv_]
    | cons x xs =>
      have h1 := h x (by simp)
      rw [Nat.pow_succ', ← Nat.div_div_eq_div_mul]
      have : bv_ B (x :: xs) / B = bv_ B xs := by
        show (x + B * bv_ B xs) / B = _
        rw [Nat.add_mul_div_left _ _ hB, Nat.div_eq_of_lt h1, Nat.zero_add]
      rw [this, ih xs (fun z hz => h z (by simp [hz]))]; rfl
theorem bv_at {B : Nat} (hB : 0 < B) {xs : List Nat} (h : ∀ x, x ∈ xs → x < B) {i v : Nat} (hv : xs[i]? = some v) : bv_ B xs / B ^ i % B = v := by
  rw [bv_div hB i xs h]
  have hi := lt_of_some hv
  rw [List.drop_eq_getElem_cons hi]
  have e : xs[i] = v := by
    rw [List.getElem?_eq_getElem hi] at hv; exact Option.some.inj hv
  have := h v (by rw [← e]; exact List.getElem_mem hi)
  show (xs[i] + B * bv_ B _) % B = v
  rw [e, Nat.add_mul_mod_self_left, Nat.mod_eq_of_lt this]
section SD1
variable {S : sg_} {M : mm_M} {W : Nat} {pt : Nat → List Nat}
theorem or_len (h : Nat) : (or_ S h).length = S 0 11 := by
  unfold or_
  generalize S 0 11 = n
  induction n with
  | zero => rfl
  | succ n ih =>
    unfold od_
    rw [if_pos rfl, in_s_len, ih]
theorem or_mem {h l : Nat} : l ∈ or_ S h ↔ l < S 0 11 := by
  unfold or_
  rw [od_mem]; simp
theorem or_sr (h : Nat) : sr_ (fun l => yr_ S l h) (or_ S h) := od_sr _
theorem or_nd (h : Nat) : (or_ S h).Nodup := by
  unfold or_
  generalize S 0 11 = n
  induction n with
  | zero => exact List.nodup_nil
  | succ n ih =>
    unfold od_
    rw [if_pos rfl]
    have hn : n ∉ od_ (fun l => yr_ S l h) (fun _ => true) n := fun hh => by
      have := (od_mem n).mp hh; omega
    have key : ∀ xs : List Nat, xs.Nodup → n ∉ xs → (in_s (fun l => yr_ S l h) n xs).Nodup := by
      intro xs
      induction xs with
      | nil => intro _ _; simp [in_s]
      | cons a as ih2 =>
        intro h1 h2
        rw [List.nodup_cons] at h1
        unfold in_s
        split
        · rw [List.nodup_cons, in_s_mem]
          refine ⟨?_, ih2 h1.2 (fun hh => h2 (by simp [hh]))⟩
          intro hh
          rcases hh with hh | hh
          · exact h2 (by simp [hh])
          · exact h1.1 hh
        · rw [List.nodup_cons]
          exact ⟨h2, List.nodup_cons.mpr h1⟩
    exact key _ ih hn
/-- insertion and filters -/
theorem in_s_split {y : Nat → Nat} {l : Nat} : ∀ xs : List Nat, sr_ y xs → ∃ pre suf, xs = pre ++ suf ∧ (∀ x, x ∈ pre → y x ≤ y l) ∧ ∀ x, x ∈ suf → y l < y x := by
  intro xs
  induction xs with
  | nil => intro _; exact ⟨[], [], rfl, fun x h => (by cases h), fun x h => by cases h⟩
  | cons a as ih =>
    intro h
    have h' := List.pairwise_cons.mp h
    by_cases c : y a ≤ y l
    · obtain ⟨pre, suf, h1, h2, h3⟩ := ih h'.2
      refine ⟨a :: pre, suf, by rw [h1]; rfl, fun x hx => ?_, h3⟩
      rw [List.mem_cons] at hx
      rcases hx with hx | hx
      · rw [hx]; exact c
      · exact h2 x hx
    · refine ⟨[], a :: as, rfl, fun x h => (by cases h), fun x hx => ?_⟩
      rw [List.mem_cons] at hx
      rcases hx with hx | hx
      · rw [hx]; omega
      · have := h'.1 x hx; omega
theorem in_s_filter {y : Nat → Nat} {l : Nat} {P : Nat → Bool} {xs : List Nat} (h : sr_ y xs) : (in_s y l xs).filter P = if P l = true then in_s y l (xs.filter P) else xs.filter P := by
  obtain ⟨pre, suf, h1, h2, h3⟩ := in_s_split (l := l) xs h
  rw [h1, in_s_app h3 pre h2, List.filter_append, List.filter_append]
  by_cases c : P l = true
  · rw [if_pos c, List.filter_cons, if_pos c]
    rw [in_s_app (suf := suf.filter P) (fun x hx => h3 x (List.mem_filter.mp hx).1) (pre.filter P) (fun x hx => h2 x (List.mem_filter.mp hx).1)]
  · rw [if_neg c, List.filter_cons, if_neg c]
theorem od_filter {y : Nat → Nat} {P : Nat → Bool} : ∀ n, od_ y P n = (od_ y (fun _ => true) n).filter P := by
  intro n
  induction n with
  | zero => rfl
  | succ n ih =>
    show (if P n = true then in_s y n (od_ y P n) else od_ y P n) = (in_s y n (od_ y (fun _ => true) n)).filter P
    rw [in_s_filter (od_sr n), ih]
theorem pa_filter {nv : Nat → Bool} {h y p : Nat} : pa_ S nv h y p = (or_ S h).filter (fun l => !nv l && decide (yr_ S l h + S 13 p ≤ y)) := od_filter _
theorem sr_take {y : Nat → Nat} {T : Nat} : ∀ xs : List Nat, sr_ y xs → xs.filter (fun l => decide (y l ≤ T)) = xs.takeWhile (fun l => decide (y l ≤ T)) := by
  intro xs
  induction xs with
  | nil => intro _; rfl
  | cons a as ih =>
    intro h
    have h' := List.pairwise_cons.mp h
    rw [List.filter_cons, List.takeWhile_cons]
    by_cases c : y a ≤ T
    · rw [if_pos (by simp [c]), if_pos (by simp [c]), ih h'.2]
    · rw [if_neg (by simp [c]), if_neg (by simp [c])]
      apply List.filter_eq_nil_iff.mpr
      intro x hx
      have := h'.1 x hx
      simp; omega
/-! laws and years of a history -/
theorem c_lawAt (hI : ic_ S M) (hw : wf_ S) {h t l : Nat} (hh : h < hs_ S) (ht : (or_ S h)[t]? = some l) : f_X3_lawAt (Int32.ofNat h) (Int32.ofNat t) M = some (Int32.ofNat l) := by
  have h600 := hw.hist
  have h6 := hw.laws
  have hlen := or_len (S := S) h
  have ht6 := lt_of_some ht
  have hlt : ∀ x, x ∈ or_ S h → x < 8 := fun x hx => by have := or_mem.mp hx; omega
  have hb := bv_lt (B := 8) (by omega) (or_ S h) hlt
  have hp : 8 ^ (or_ S h).length ≤ 8 ^ 6 := Nat.pow_le_pow_right (n := 8) (by omega) (by omega)
  have hp2 : 8 ^ 6 = 262144 := by decide
  unfold f_X3_lawAt
  have e1 : (3 : Int32) * Int32.ofNat t = Int32.ofNat (3 * t) := n3_mul 3 t
  rw [if_pos ((n3_ix (by omega)).mpr (by omega)), n3_tn (by omega), hI.ord h hh, e1, n3_shr (by omega) (by omega)]
  show some (_ &&& Int32.ofNat (2 ^ 3 - 1)) = _
  rw [n3_md _ _ (by omega), Nat.pow_mul]
  show some (Int32.ofNat (bv_ 8 (or_ S h) / 8 ^ t % 8)) = _
  rw [bv_at (by omega) hlt ht]
theorem c_yearIn (hw : wf_ S) {h t l : Nat} (ht : (or_ S h)[t]? = some l) : f_X3_yearIn (Int64.ofNat (bv_ 512 ((or_ S h).map (fun l => yr_ S l h)))) (Int32.ofNat t) = Int32.ofNat (yr_ S l h) := by
  have h6 := hw.laws
  have hlen := or_len (S := S) h
  have ht6 := lt_of_some ht
  have hlt : ∀ x, x ∈ (or_ S h).map (fun l => yr_ S l h) → x < 512 := fun x hx => by
    rw [List.mem_map] at hx
    obtain ⟨a, ha, rfl⟩ := hx
    have := yr_le (h := h) hw (or_mem.mp ha)
    omega
  have hb := bv_lt (B := 512) (by omega) _ hlt
  have hp : 512 ^ ((or_ S h).map (fun l => yr_ S l h)).length ≤ 512 ^ 6 := Nat.pow_le_pow_right (n := 512) (by omega) (by rw [List.length_map]; omega)
  have hp2 : 512 ^ 6 = 18014398509481984 := by decide
  unfold f_X3_yearIn
  have e1 : ((9 : Int32) * Int32.ofNat t).toInt64 = Int64.ofNat (9 * t) := by
    show (Int32.ofNat 9 * _).toInt64 = _
    rw [n3_mul, n3_6 (by omega)]
  rw [e1, n6_shr (by omega) (by omega), n6_3]
  show (_ &&& Int32.ofNat (2 ^ 9 - 1)) = _
  rw [n3_md _ _ (by omega), Nat.pow_mul]
  show Int32.ofNat (bv_ 512 ((or_ S h).map (fun l => yr_ S l h)) / 512 ^ t % 512) = _
  rw [bv_at (v := yr_ S l h) (by omega) hlt (by rw [List.getElem?_map, ht]; rfl)]
/-- laws (bits) among which a course goes -/
def am_ (x : Int32) (nv : Nat → Bool) : Prop := ∀ l, l < 6 → ib_ x l = !nv l
theorem am_63 : am_ 63 no_ := by
  intro l hl
  have : ∀ l, l < 6 → ib_ 63 l = true := by decide
  rw [this l hl]; rfl
/-- a bound on years, as the class has it: a year less a lag -/
def yb_ (x : Int32) (T : Int) : Prop := ∀ v, v ≤ 400 → ((x < Int32.ofNat v) ↔ T < (v : Int))
theorem yb_sub {y g : Nat} (hy : y < 1073741824) (hg : g ≤ 200) : yb_ (Int32.ofNat y - Int32.ofNat g) ((y : Int) - (g : Int)) := by
  intro v hv
  rw [Int32.lt_iff_toInt_lt, n3_ti (by omega)]
  have e : (Int32.ofNat y - Int32.ofNat g).toInt = (y : Int) - (g : Int) := by
    rw [Int32.toInt_sub, n3_ti (by omega), n3_ti (by omega)]
    apply Int.bmod_eq_of_le <;> omega
  rw [e]
theorem c_among_l (hw : wf_ S) {h : Nat} (hh : h < hs_ S) {x2 x3 : Int32} {nv : Nat → Bool} {T : Int} (hup : yb_ x2 T) (ham : am_ x3 nv) :
    ∀ (rest pre : List Nat) (c : Nat) (M : mm_M) (W : Nat) (pt : Nat → List Nat) (n : Nat), or_ S h = pre ++ rest → rest.length < n → tc_ S M W pt → ic_ S M → c < W → (∀ x, x ∈ pt c → x ∈ pre) →
    wp_ (f_X3_courseAmong_14l n (Int32.ofNat h) x2 x3 (Int32.ofNat c) (Int64.ofNat (bv_ 512 ((or_ S h).map (fun l => yr_ S l h)))) (Int32.ofNat pre.length) M)
      (fun z => ∃ W' pt' d, z.1 = Int32.ofNat d ∧ d < W' ∧ pt' d = pt c ++ (rest.takeWhile (fun l => decide ((yr_ S l h : Int) ≤ T))).filter (fun l => !nv l) ∧ px_ W pt W' pt' ∧ fc_ M z.2 ∧ tc_ S z.2 W' pt') := by
  have h600 := hw.hist
  have h6 := hw.laws
  have hlen := or_len (S := S) h
  have hnd := or_nd (S := S) h
  intro rest
  induction rest with
  | nil =>
    intro pre c M W pt n e1 hn ht hI hc hsub
    obtain ⟨m, rfl⟩ : ∃ m, n = m + 1 := ⟨n - 1, by omega⟩
    have hl : pre.length = S 0 11 := by rw [← hlen, e1]; simp
    unfold f_X3_courseAmong_14l f_X3_courseAmong_14
    rw [hI.laws2, if_pos ((n3_le (by omega) (by omega)).mpr (by omega))]
    exact wp_some ⟨W, pt, c, rfl, hc, by simp, px_.refl, fc_.refl, ht⟩
  | cons l rest ih =>
    intro pre c M W pt n e1 hn ht hI hc hsub
    obtain ⟨m, rfl⟩ : ∃ m, n = m + 1 := ⟨n - 1, by omega⟩
    have hl : pre.length + (rest.length + 1) = S 0 11 := by rw [← hlen, e1]; simp
    have hat : (or_ S h)[pre.length]? = some l := by rw [e1]; simp
    have hlL : l < S 0 11 := or_mem.mp (List.mem_of_getElem? hat)
    have hy := yr_le (h := h) hw hlL
    have e2 : Int32.ofNat pre.length + 1 = Int32.ofNat (pre ++ [l]).length := by
      rw [show (pre ++ [l]).length = pre.length + 1 from by simp]; exact n3_add _ 1
    unfold f_X3_courseAmong_14l f_X3_courseAmong_14
    rw [hI.laws2, if_neg (by rw [n3_le (by omega) (by omega)]; omega), c_yearIn hw hat]
    refine wp_sr ?_
    by_cases c1 : T < (yr_ S l h : Int)
    · rw [if_pos ((hup _ hy).mpr c1)]
      refine wp_some ⟨W, pt, c, rfl, hc, ?_, px_.refl, fc_.refl, ht⟩
      rw [List.takeWhile_cons, if_neg (by simp; omega)]; simp
    · rw [if_neg (by rw [hup _ hy]; exact c1)]
      refine wp_be (c_lawAt hI hw hh hat) ?_
      rw [ib_bit (by omega), ham l (by omega)]
      have tw : (l :: rest).takeWhile (fun l => decide ((yr_ S l h : Int) ≤ T)) = l :: rest.takeWhile (fun l => decide ((yr_ S l h : Int) ≤ T)) := by
        rw [List.takeWhile_cons, if_pos (by simp; omega)]
      rw [tw]
      cases hnv : nv l with
      | true =>
        rw [if_pos (by decide)]
        unfold f_X3_courseAmong_65
        refine wp_sr ?_
        rw [e2, List.filter_cons, if_neg (by simp [hnv])]
        exact ih (pre ++ [l]) c M W pt m (by rw [e1]; simp) (by simp at hn; omega) ht hI hc (fun x hx => by simp [hsub x hx])
      | false =>
        rw [if_neg (by decide)]
        have hnm : l ∉ pt c := fun hm => by
          have h1 := hsub l hm
          rw [e1, List.nodup_append] at hnd
          exact hnd.2.2 l h1 l (by simp) rfl
        refine wp_bd (wp_mo (c_after ht hw hI hc hlL hnm) (fun z hz => ?_))
        obtain ⟨W1, pt1, d1, z1, z2, z3, z4, z5, z6⟩ := hz
        unfold f_X3_courseAmong_63 f_X3_courseAmong_65
        refine wp_sr ?_
        rw [e2, z1, List.filter_cons, if_pos (by simp [hnv])]
        refine wp_mo (ih (pre ++ [l]) d1 z.2 W1 pt1 m (by rw [e1]; simp) (by simp at hn; omega) z6 (z5.ic hw hI) z2 (fun x hx => ?_)) (fun r hr => ?_)
        · rw [z3, List.mem_append] at hx
          rcases hx with hx | hx
          · simp [hsub x hx]
          · simp at hx; simp [hx]
        · obtain ⟨W2, pt2, d2, r1, r2, r3, r4, r5, r6⟩ := hr
          refine ⟨W2, pt2, d2, r1, r2, ?_, z4.trans r4, z5.trans r5, r6⟩
          rw [r3, z3, List.append_assoc]; rfl
theorem c_among (ht : tc_ S M W pt) (hI : ic_ S M) (hw : wf_ S) {h : Nat} (hh : h < hs_ S) {x2 x3 : Int32} {nv : Nat → Bool} {y p : Nat} (hup : yb_ x2 ((y : Int) - (S 13 p : Int))) (ham : am_ x3 nv) :
    wp_ (f_X3_courseAmong (Int32.ofNat h) x2 x3 M) (fun z => ∃ W' pt' d, z.1 = Int32.ofNat d ∧ d < W' ∧ pt' d = pa_ S nv h y p ∧ px_ W pt W' pt' ∧ fc_ M z.2 ∧ tc_ S z.2 W' pt') := by
  have h600 := hw.hist
  have h6 := hw.laws
  unfold f_X3_courseAmong
  refine wp_ck ((n3_ix (by omega)).mpr (by omega)) (wp_sr ?_)
  rw [n3_tn (by omega), hI.yrs h hh]
  have hl := or_len (S := S) h
  refine wp_mo (c_among_l hw hh hup ham (or_ S h) [] 0 M W pt fu_ rfl (by unfold fu_; omega) ht hI (by have := ht.w1; omega) (fun x hx => by rw [ht.root] at hx; exact hx)) (fun z hz => ?_)
  obtain ⟨W', pt', d, z1, z2, z3, z4⟩ := hz
  refine ⟨W', pt', d, z1, z2, ?_, z4⟩
  rw [z3, ht.root, List.nil_append, pa_filter]
  have e1 : ∀ l, decide ((yr_ S l h : Int) ≤ (y : Int) - (S 13 p : Int)) = decide (yr_ S l h + S 13 p ≤ y) := fun l => by
    apply decide_eq_decide.mpr; omega
  by_cases hc : S 13 p ≤ y
  · have e2 : (fun l => decide ((yr_ S l h : Int) ≤ (y : Int) - (S 13 p : Int))) = fun l => decide (yr_ S l h ≤ y - S 13 p) := by
      funext l; apply decide_eq_decide.mpr; omega
    rw [e2, ← sr_take _ (or_sr h), List.filter_filter]
    congr 1
    funext l
    congr 1
    apply decide_eq_decide.mpr; omega
  · have e2 : (or_ S h).takeWhile (fun l => decide ((yr_ S l h : Int) ≤ (y : Int) - (S 13 p : Int))) = [] := by
      cases or_ S h with
      | nil => rfl
      | cons a as => rw [List.takeWhile_cons, if_neg (by simp; omega)]
    rw [e2]
    symm
    apply List.filter_eq_nil_iff.mpr
    intro x _
    simp; intro _; omega
theorem c_at (ht : tc_ S M W pt) (hI : ic_ S M) (hw : wf_ S) {h y p : Nat} (hh : h < hs_ S) (hy : y < 1073741824) (hp : p < 6) :
    wp_ (f_X3_courseAt (Int32.ofNat h) (Int32.ofNat y) (Int32.ofNat p) M) (fun z => ∃ W' pt' d, z.1 = Int32.ofNat d ∧ d < W' ∧ pt' d = pa_ S no_ h y p ∧ px_ W pt W' pt' ∧ fc_ M z.2 ∧ tc_ S z.2 W' pt') := by
  unfold f_X3_courseAt
  refine wp_ck ((n3_ix (by omega)).mpr hp) ?_
  rw [n3_tn (by omega), hI.lag p hp]
  refine wp_bd (wp_mo (c_among ht hI hw hh (yb_sub hy (hw.lag p hp)) am_63) (fun z hz => ?_))
  unfold f_X3_courseAt_15
  exact wp_some hz
end SD1
