/-! CALLS: ways in which a word is said; sure -/
def pk_ (xs : List Nat) : Nat := xs.foldl (fun v x => 16 * v + x) 1
theorem pk_s {xs : List Nat} {x : Nat} : pk_ (xs ++ [x]) = 16 * pk_ xs + x := by
  unfold pk_; rw [List.foldl_append]; rfl
theorem pk_bd : ∀ (n : Nat) (xs : List Nat), xs.length = n → (∀ x, x ∈ xs → x < 16) → 16 ^ n ≤ pk_ xs ∧ pk_ xs < 2 * 16 ^ n := by
  intro n
  induction n with
  | zero =>
    intro xs h _
    rw [List.length_eq_zero_iff.mp h]
    show 16 ^ 0 ≤ 1 ∧ 1 < 2 * 16 ^ 0
    omega
  | succ n ih =>
    intro xs h hx
    rcases List.eq_nil_or_concat xs with hh | ⟨pr, a, hh⟩
    · rw [hh] at h; simp at h
    · rw [List.concat_eq_append] at hh
      subst hh
      have := ih pr (by simpa using h) (fun x hx2 => hx x (by simp [hx2]))
      have ha := hx a (by simp)
      rw [pk_s, Nat.pow_succ]
      omega
theorem pkk_lt {xs : List Nat} (h : ok_ xs) : pk_ xs < 8589934592 := by
  have h1 := pk_bd xs.length xs rfl h.2
  have h2 := p16_8 h.1
  omega
theorem pk_inj2 : ∀ (n : Nat) (xs ys : List Nat), xs.length = n → ys.length = n → (∀ x, x ∈ xs → x < 16) → (∀ x, x ∈ ys → x < 16) → pk_ xs = pk_ ys → xs = ys := by
  intro n
  induction n with
  | zero => intro xs ys h1 h2 _ _ _; rw [List.length_eq_zero_iff.mp h1, List.length_eq_zero_iff.mp h2]
  | succ n ih =>
    intro xs ys h1 h2 hx hy he
    rcases List.eq_nil_or_concat xs with hh | ⟨p, a, hh⟩
    · rw [hh] at h1; simp at h1
    · rcases List.eq_nil_or_concat ys with hh2 | ⟨q, b, hh2⟩
      · rw [hh2] at h2; simp at h2
      · rw [List.concat_eq_append] at hh hh2
        subst hh
        subst hh2
        rw [pk_s, pk_s] at he
        have ha := hx a (by simp)
        have hb := hy b (by simp)
        rw [show a = b from by omega, ih p q (by simpa using h1) (by simpa using h2) (fun x h => hx x (by simp [h])) (fun x h => hy x (by simp [h])) (by omega)]
theorem pw16 {a b : Nat} (h : a < b) : 16 * 16 ^ a ≤ 16 ^ b := by
  have : 16 ^ (a + 1) ≤ 16 ^ b := Nat.pow_le_pow_right (n := 16) (by omega) h
  rw [Nat.pow_succ] at this
  omega
theorem pk_inj {xs ys : List Nat} (hx : ok_ xs) (hy : ok_ ys) : pk_ xs = pk_ ys ↔ xs = ys := by
  constructor
  · intro h
    have h1 := pk_bd xs.length xs rfl hx.2
    have h2 := pk_bd ys.length ys rfl hy.2
    rcases Nat.lt_trichotomy xs.length ys.length with hl | hl | hl
    · have := pw16 hl; omega
    · exact pk_inj2 _ xs ys hl rfl hx.2 hy.2 h
    · have := pw16 hl; omega
  · intro h; rw [h]
theorem pkk_eq {xs ys : List Nat} (hx : ok_ xs) (hy : ok_ ys) : (Int64.ofNat (pk_ xs) = Int64.ofNat (pk_ ys)) ↔ xs = ys := by
  have h1 := pkk_lt hx
  have h2 := pkk_lt hy
  rw [n6_eq (by omega) (by omega), pk_inj hx hy]
theorem r_pk {M : mm_M} {hand : Nat} (hh : hand < 2) {xs : List Nat} (hx : ok_ xs) (hd : hd_ M hand xs) : f_X12_packs (Int32.ofNat hand) M = some (Int64.ofNat (pk_ xs)) := by
  have hx8 := hx.1
  have key : ∀ (us pre : List Nat) (n : Nat), xs = pre ++ us → us.length < n → f_X12_packs_5l M n (Int32.ofNat hand) (Int64.ofNat (pk_ pre)) (Int32.ofNat pre.length) = some (Int64.ofNat (pk_ xs)) := by
    intro us
    induction us with
    | nil =>
      intro pre n e1 hn
      obtain ⟨m, rfl⟩ : ∃ m, n = m + 1 := ⟨n - 1, by omega⟩
      rw [List.append_nil] at e1
      subst e1
      unfold f_X12_packs_5l f_X12_packs_5
      rw [if_pos ((n3_ix (by omega)).mpr hh), n3_tn (by omega), hd.1, if_pos (Int32.le_refl _)]
    | cons u us ih =>
      intro pre n e1 hn
      obtain ⟨m, rfl⟩ : ∃ m, n = m + 1 := ⟨n - 1, by omega⟩
      have hlx : xs.length = pre.length + (us.length + 1) := by rw [e1]; simp
      have hu := hx.2 u (by rw [e1]; simp)
      have a0 := hd.2 pre.length u (by rw [e1]; simp)
      have hpb := pk_bd pre.length pre rfl (fun x hx2 => hx.2 x (by rw [e1]; simp [hx2]))
      have hp2 := p16_8 (n := pre.length) (by omega)
      have e : (8 : Int32) * Int32.ofNat hand + Int32.ofNat pre.length = Int32.ofNat (8 * hand + pre.length) := by
        show Int32.ofNat 8 * _ + _ = _
        rw [n3_mul, n3_add]
      unfold f_X12_packs_5l f_X12_packs_5
      rw [if_pos ((n3_ix (by omega)).mpr hh), n3_tn (by omega), hd.1, if_neg (by rw [n3_le (by omega) (by omega)]; omega), e, if_pos ((n3_ix (by omega)).mpr (by omega)), n3_tn (by omega), a0, sq_n, sq_n]
      have e2 : Int32.ofNat pre.length + 1 = Int32.ofNat (pre ++ [u]).length := by
        rw [show (pre ++ [u]).length = pre.length + 1 from by simp]; exact n3_add _ 1
      have e4 : (4 : Int32).toInt64 = Int64.ofNat 4 := by decide
      have e3 : (Int64.ofNat (pk_ pre) <<< ((4 : Int32).toInt64 &&& 63)) ||| (Int32.ofNat u).toInt64 = Int64.ofNat (pk_ (pre ++ [u])) := by
        rw [e4, n6_shl (by omega), n3_6 (by omega), n6_or, nt_or (i := 4) (by omega), pk_s]
        congr 1; omega
      rw [e2, e3]
      exact ih (pre ++ [u]) m (by rw [e1]; simp) (by simp at hn; omega)
  exact key xs [] fu_ rfl (by unfold fu_; omega)
/-! ways with sums -/
def wa_ : List (List Nat × Nat) → List Nat → Nat → List (List Nat × Nat)
  | [], xs, w => [(xs, w)]
  | q :: r, xs, w => if q.1 = xs then (q.1, q.2 + w) :: r else q :: wa_ r xs w
theorem wa_len {xs : List Nat} {w : Nat} : ∀ ws, (wa_ ws xs w).length ≤ ws.length + 1 := by
  intro ws
  induction ws with
  | nil => exact Nat.le_refl _
  | cons q r ih =>
    unfold wa_
    split
    · simp
    · simp; exact ih
theorem wa_ok {xs : List Nat} {w : Nat} (hx : ok_ xs) : ∀ ws, (∀ q, q ∈ ws → ok_ q.1) → ∀ q, q ∈ wa_ ws xs w → ok_ q.1 := by
  intro ws
  induction ws with
  | nil => intro _ q hq; rw [show wa_ [] xs w = [(xs, w)] from rfl, List.mem_singleton] at hq; rw [hq]; exact hx
  | cons p r ih =>
    intro h q hq
    unfold wa_ at hq
    split at hq
    · rw [List.mem_cons] at hq
      rcases hq with hq | hq
      · rw [hq]; exact h p (by simp)
      · exact h q (by simp [hq])
    · rw [List.mem_cons] at hq
      rcases hq with hq | hq
      · rw [hq]; exact h p (by simp)
      · exact ih (fun q hq => h q (by simp [hq])) q hq
/-- split at the place where the way stands, or at the end -/
theorem wa_sp {xs : List Nat} {w : Nat} : ∀ ws, (∃ pre q suf, ws = pre ++ q :: suf ∧ q.1 = xs ∧ (∀ p, p ∈ pre → p.1 ≠ xs) ∧ wa_ ws xs w = pre ++ (q.1, q.2 + w) :: suf) ∨ ((∀ p, p ∈ ws → p.1 ≠ xs) ∧ wa_ ws xs w = ws ++ [(xs, w)]) := by
  intro ws
  induction ws with
  | nil => right; exact ⟨fun p hp => (by cases hp), rfl⟩
  | cons a r ih =>
    by_cases c : a.1 = xs
    · left
      refine ⟨[], a, r, rfl, c, fun p hp => (by cases hp), ?_⟩
      unfold wa_; rw [if_pos c]; rfl
    · rcases ih with ⟨pre, q, suf, h1, h2, h3, h4⟩ | ⟨h1, h2⟩
      · left
        refine ⟨a :: pre, q, suf, by rw [h1]; rfl, h2, fun p hp => ?_, ?_⟩
        · rw [List.mem_cons] at hp
          rcases hp with hp | hp
          · rw [hp]; exact c
          · exact h3 p hp
        · unfold wa_; rw [if_neg c, h4]; rfl
      · right
        refine ⟨fun p hp => ?_, ?_⟩
        · rw [List.mem_cons] at hp
          rcases hp with hp | hp
          · rw [hp]; exact c
          · exact h1 p hp
        · unfold wa_; rw [if_neg c, h2]; rfl
def wc_ (M : mm_M) (ws : List (List Nat × Nat)) : Prop := M.1 39 2 = Int32.ofNat ws.length ∧ ∀ i q, ws[i]? = some q → M.2.1 40 i = Int64.ofNat (en_ q.1) ∧ M.2.1 41 i = Int64.ofNat q.2
def wq_ (M : mm_M) (ws : List (List Nat × Nat)) : Prop := M.1 0 42 = Int32.ofNat ws.length ∧ ∀ i q, ws[i]? = some q → M.2.1 28 i = Int64.ofNat (pk_ q.1) ∧ M.2.1 29 i = Int64.ofNat q.2
def pk_w (a _b : Nat) : Prop := a = 39
theorem pk_w_pc {S : sg_} (hw : wf_ S) {a b : Nat} (h : pk_w a b) : ¬ pc_ S a b := by
  have h6 := hw.laws
  have h16 := hw.signs
  unfold pk_w at h
  unfold pc_
  omega
section UK1
variable {S : sg_} {M Mc Mr : mm_M} {vs : List Nat} {nv : Nat → Bool} {W : Nat} {pt : Nat → List Nat}
theorem cs_.ways (h : cs_ S vs M) (hw : wf_ S) {M' : mm_M} (hf : fk_ pk_w (fun a => a = 40 ∨ a = 41) M M') (ht : ∀ W pt, tc_ S M W pt → tc_ S M' W pt) : cs_ S vs M' := by
  obtain ⟨⟨W, pt, ht0⟩, -⟩ := id h
  exact h.fk hw hf (ht W pt ht0) (fun a b hab => ⟨pk_w_pc hw hab, by unfold pk_w at hab; omega, by unfold pk_w at hab; omega, by unfold pk_w at hab; omega⟩) (fun a ha => by omega)
theorem getElem?_mid {α : Type} {pre suf : List α} {q q' : α} {i : Nat} : (pre ++ q' :: suf)[i]? = if i = pre.length then some q' else (pre ++ q :: suf)[i]? := by
  by_cases c : i = pre.length
  · rw [if_pos c, c]; simp
  · rw [if_neg c]
    by_cases c2 : i < pre.length
    · rw [List.getElem?_append_left c2, List.getElem?_append_left c2]
    · rw [List.getElem?_append_right (by omega), List.getElem?_append_right (by omega)]
      obtain ⟨j, hj⟩ : ∃ j, i - pre.length = j + 1 := ⟨i - pre.length - 1, by omega⟩
      rw [hj]; rfl
theorem k_wadd (hw : wf_ S) (h : cs_ S vs M) {ws : List (List Nat × Nat)} (hwc : wc_ M ws) (hok : ∀ q, q ∈ ws → ok_ q.1) (hl : ws.length < 600) {xs : List Nat} (hx : ok_ xs) (w : Nat) :
    wp_ (f_X10_add (Int64.ofNat (en_ xs)) (Int64.ofNat w) M) (fun M' => cs_ S vs M' ∧ wc_ M' (wa_ ws xs w) ∧ fk_ pk_w (fun a => a = 40 ∨ a = 41) M M' ∧ ∀ W pt, tc_ S M W pt → tc_ S M' W pt) := by
  have key : ∀ (e k n : Nat), k + e = ws.length → e < n → (∀ i q, i < k → ws[i]? = some q → q.1 ≠ xs) → wp_ (f_X10_add_3l n (Int64.ofNat (en_ xs)) (Int64.ofNat w) (Int32.ofNat k) M) (fun M' => cs_ S vs M' ∧ wc_ M' (wa_ ws xs w) ∧ fk_ pk_w (fun a => a = 40 ∨ a = 41) M M' ∧ ∀ W pt, tc_ S M W pt → tc_ S M' W pt) := by
    intro e
    induction e with
    | zero =>
      intro k n hk hn hne
      obtain ⟨m, rfl⟩ : ∃ m, n = m + 1 := ⟨n - 1, by omega⟩
      have hkk : k = ws.length := by omega
      unfold f_X10_add_3l f_X10_add_3 f_X10_add_30
      rw [hwc.1, if_pos ((n3_le (by omega) (by omega)).mpr (by omega)), if_pos ((n3_le (by omega) (by omega)).mpr (by omega)), if_neg (by show ¬ (Int32.ofNat 600 ≤ _); rw [n3_le (by omega) (by omega)]; omega)]
      refine wp_ck ((n3_ix (by omega)).mpr hl) (wp_sr ?_)
      simp only [sl_1, hwc.1]
      refine wp_ck ((n3_ix (by omega)).mpr hl) (wp_sr (wp_sr (wp_some ?_)))
      rw [n3_tn (by omega), sl_1, sl_1, hwc.1]
      have hf : fk_ pk_w (fun a => a = 40 ∨ a = 41) M (mm_si (mm_sl (mm_sl M 40 ws.length (Int64.ofNat (en_ xs))) 41 ws.length (Int64.ofNat w)) 39 2 (Int32.ofNat ws.length + 1)) := fk_.trans (fk_.trans (fk_sl (Or.inl rfl)) (fk_sl (Or.inr rfl))) (fk_si rfl)
      have ht : ∀ W pt, tc_ S M W pt → tc_ S (mm_si (mm_sl (mm_sl M 40 ws.length (Int64.ofNat (en_ xs))) 41 ws.length (Int64.ofNat w)) 39 2 (Int32.ofNat ws.length + 1)) W pt := fun W pt ht => ((ht.sl (by omega)).sl (by omega)).si (by omega) (by omega)
      have hwa : wa_ ws xs w = ws ++ [(xs, w)] := by
        rcases wa_sp (xs := xs) (w := w) ws with ⟨pre, q, suf, h1, h2, h3, h4⟩ | ⟨h1, h2⟩
        · exact absurd h2 (hne pre.length q (by rw [hkk, h1]; simp) (by rw [h1]; simp))
        · exact h2
      refine ⟨h.ways hw hf ht, ?_, hf, ht⟩
      rw [hwa]
      refine ⟨?_, ?_⟩
      · rw [si_1, if_pos ⟨rfl, rfl⟩]
        show Int32.ofNat _ + Int32.ofNat 1 = _
        rw [n3_add]; simp
      · intro i q hq
        rw [si_2, sl_2, sl_2, sl_2]
        by_cases c : i = ws.length
        · rw [c] at hq ⊢
          simp at hq
          rw [if_neg (by omega), if_pos ⟨rfl, rfl⟩, if_pos ⟨rfl, rfl⟩, ← hq]; exact ⟨rfl, rfl⟩
        · have := lt_of_some hq
          simp at this
          rw [List.getElem?_append_left (by omega)] at hq
          rw [if_neg (by omega), if_neg (by omega), if_neg (by omega), sl_2, if_neg (by omega)]
          exact hwc.2 i q hq
    | succ e ih =>
      intro k n hk hn hne
      obtain ⟨m, rfl⟩ : ∃ m, n = m + 1 := ⟨n - 1, by omega⟩
      have e1 : Int32.ofNat k + 1 = Int32.ofNat (k + 1) := n3_add k 1
      obtain ⟨q, hq⟩ : ∃ q, ws[k]? = some q := ⟨ws[k]'(by omega), List.getElem?_eq_getElem (by omega)⟩
      have hqo := hok q (List.mem_of_getElem? hq)
      have hix : ix_ok (Int32.ofNat k) 600 := (n3_ix (by omega)).mpr (by omega)
      have et : (Int32.ofNat k).toNatClampNeg = k := n3_tn (by omega)
      unfold f_X10_add_3l f_X10_add_3 f_X10_add_30
      rw [hwc.1, if_neg (by rw [n3_le (by omega) (by omega)]; omega)]
      refine wp_ck hix ?_
      simp only [et, (hwc.2 k q hq).1]
      by_cases c : q.1 = xs
      · rw [if_pos (by rw [c]), if_neg (by rw [n3_le (by omega) (by omega)]; omega)]
        refine wp_ck hix (wp_ck hix (wp_sr (wp_some ?_)))
        have hf : fk_ pk_w (fun a => a = 40 ∨ a = 41) M (mm_sl M 41 k (M.2.1 41 k + Int64.ofNat w)) := fk_sl (Or.inr rfl)
        have ht : ∀ W pt, tc_ S M W pt → tc_ S (mm_sl M 41 k (M.2.1 41 k + Int64.ofNat w)) W pt := fun W pt ht => ht.sl (by omega)
        refine ⟨h.ways hw hf ht, ?_, hf, ht⟩
        rcases wa_sp (xs := xs) (w := w) ws with ⟨pre, p, suf, h1, h2, h3, h4⟩ | ⟨h1, h2⟩
        · have hpk : pre.length = k := by
            rcases Nat.lt_trichotomy pre.length k with hl2 | hl2 | hl2
            · exact absurd h2 (hne pre.length p hl2 (by rw [h1]; simp))
            · exact hl2
            · rw [h1, List.getElem?_append_left hl2] at hq
              exact absurd c (h3 q (List.mem_of_getElem? hq))
          have hpq : p = q := by
            rw [h1, ← hpk] at hq; simpa using hq
          rw [h4]
          refine ⟨?_, ?_⟩
          · rw [sl_1, hwc.1, h1]; simp
          · intro i r hr
            rw [getElem?_mid (q := p)] at hr
            rw [sl_2, sl_2, if_neg (by omega)]
            by_cases ci : i = pre.length
            · rw [if_pos ci] at hr
              cases hr
              rw [if_pos ⟨rfl, by omega⟩, (hwc.2 k q hq).2, n6_add, ci, hpk, hpq]
              exact ⟨(hwc.2 k q hq).1, rfl⟩
            · rw [if_neg ci, ← h1] at hr
              rw [if_neg (by omega)]
              exact hwc.2 i r hr
        · exact absurd c (h1 q (List.mem_of_getElem? hq))
      · rw [if_neg (fun he => c ((en_eq hqo hx).mp he))]
        refine wp_sr ?_
        rw [e1]
        refine ih (k + 1) m (by omega) (by omega) (fun i r hi hr => ?_)
        by_cases ci : i = k
        · rw [ci, hq] at hr; cases hr; exact c
        · exact hne i r (by omega) hr
  exact key ws.length 0 fu_ (by omega) (by unfold fu_; omega) (fun i q hi => by omega)
def pw_no (a b : Nat) : Prop := a = 0 ∧ b = 42
theorem pw_no_pe {a b : Nat} (h : pw_no a b) : ¬ pe_ S a b := by
  obtain ⟨rfl, rfl⟩ := h
  intro hp
  have := pe_0 hp
  omega
theorem rt_.no (h : rt_ S nv vs M) {M' : mm_M} (hf : fq_ pw_no (fun a => a = 28 ∨ a = 29) M M') : rt_ S nv vs M' :=
  ⟨h.1.fq hf (fun a b h => pw_no_pe h) (by simp [pw_no]) (by simp [pw_no]), h.2.fq hf (by simp [pw_no]) (by omega)⟩
theorem q_note {ws : List (List Nat × Nat)} (hwc : wq_ M ws) (hok : ∀ q, q ∈ ws → ok_ q.1) (hl : ws.length < 600) {xs : List Nat} (hx : ok_ xs) (w : Nat) :
    wp_ (f_X12_notes (Int64.ofNat (pk_ xs)) (Int64.ofNat w) M) (fun M' => wq_ M' (wa_ ws xs w) ∧ fq_ pw_no (fun a => a = 28 ∨ a = 29) M M') := by
  have key : ∀ (e k n : Nat), k + e = ws.length → e < n → (∀ i q, i < k → ws[i]? = some q → q.1 ≠ xs) → wp_ (f_X12_notes_3l n (Int64.ofNat (pk_ xs)) (Int64.ofNat w) (Int32.ofNat k) M) (fun M' => wq_ M' (wa_ ws xs w) ∧ fq_ pw_no (fun a => a = 28 ∨ a = 29) M M') := by
    intro e
    induction e with
    | zero =>
      intro k n hk hn hne
      obtain ⟨m, rfl⟩ : ∃ m, n = m + 1 := ⟨n - 1, by omega⟩
      have hkk : k = ws.length := by omega
      have hix : ix_ok (Int32.ofNat ws.length) 600 := (n3_ix (by omega)).mpr hl
      have et : (Int32.ofNat ws.length).toNatClampNeg = ws.length := n3_tn (by omega)
      unfold f_X12_notes_3l f_X12_notes_3 f_X12_notes_30 f_X12_notes_65
      rw [hkk, hwc.1, if_pos (Int32.le_refl _), if_pos rfl]
      refine wp_ck hix (wp_sr (wp_ck hix (wp_sr (wp_sr (wp_ck hix (wp_ck hix (wp_sr (wp_some ?_))))))))
      simp only [et]
      rw [sl_1, sl_1, hwc.1]
      have hwa : wa_ ws xs w = ws ++ [(xs, w)] := by
        rcases wa_sp (xs := xs) (w := w) ws with ⟨pre, q, suf, h1, h2, h3, h4⟩ | ⟨h1, h2⟩
        · exact absurd h2 (hne pre.length q (by rw [hkk, h1]; simp) (by rw [h1]; simp))
        · exact h2
      refine ⟨?_, ?_⟩
      · rw [hwa]
        refine ⟨?_, ?_⟩
        · rw [sl_1, si_1, if_pos ⟨rfl, rfl⟩]
          show Int32.ofNat _ + Int32.ofNat 1 = _
          rw [n3_add]; simp
        · intro i q hq
          by_cases c : i = ws.length
          · rw [c] at hq ⊢
            simp at hq
            refine ⟨?_, ?_⟩
            · rw [sl_2, if_neg (by omega), si_2, sl_2, if_neg (by omega), sl_2, if_pos ⟨rfl, rfl⟩, ← hq]
            · rw [sl_2, if_pos ⟨rfl, rfl⟩, si_2, sl_2, if_pos ⟨rfl, rfl⟩, ← hq]
              show Int64.ofNat 0 + Int64.ofNat w = _
              rw [n6_add, Nat.zero_add]
          · have := lt_of_some hq
            simp at this
            rw [List.getElem?_append_left (by omega)] at hq
            refine ⟨?_, ?_⟩
            · rw [sl_2, if_neg (by omega), si_2, sl_2, if_neg (by omega), sl_2, if_neg (by omega)]; exact (hwc.2 i q hq).1
            · rw [sl_2, if_neg (by omega), si_2, sl_2, if_neg (by omega), sl_2, if_neg (by omega)]; exact (hwc.2 i q hq).2
      · exact fq_.trans (fq_.trans (fq_.trans (fq_sl (Or.inl rfl)) (fq_sl (Or.inr rfl))) (fq_si ⟨rfl, rfl⟩)) (fq_sl (Or.inr rfl))
    | succ e ih =>
      intro k n hk hn hne
      obtain ⟨m, rfl⟩ : ∃ m, n = m + 1 := ⟨n - 1, by omega⟩
      have e1 : Int32.ofNat k + 1 = Int32.ofNat (k + 1) := n3_add k 1
      obtain ⟨q, hq⟩ : ∃ q, ws[k]? = some q := ⟨ws[k]'(by omega), List.getElem?_eq_getElem (by omega)⟩
      have hqo := hok q (List.mem_of_getElem? hq)
      have hix : ix_ok (Int32.ofNat k) 600 := (n3_ix (by omega)).mpr (by omega)
      have et : (Int32.ofNat k).toNatClampNeg = k := n3_tn (by omega)
      unfold f_X12_notes_3l f_X12_notes_3 f_X12_notes_30 f_X12_notes_65
      rw [hwc.1, if_neg (by rw [n3_le (by omega) (by omega)]; omega)]
      refine wp_ck hix ?_
      simp only [et, (hwc.2 k q hq).1]
      by_cases c : q.1 = xs
      · rw [if_pos (by rw [c]), if_neg (by rw [n3_eq (by omega) (by omega)]; omega)]
        refine wp_ck hix (wp_ck hix (wp_sr (wp_some ⟨?_, fq_sl (Or.inr rfl)⟩)))
        rcases wa_sp (xs := xs) (w := w) ws with ⟨pre, p, suf, h1, h2, h3, h4⟩ | ⟨h1, h2⟩
        · have hpk : pre.length = k := by
            rcases Nat.lt_trichotomy pre.length k with hl2 | hl2 | hl2
            · exact absurd h2 (hne pre.length p hl2 (by rw [h1]; simp))
            · exact hl2
            · rw [h1, List.getElem?_append_left hl2] at hq
              exact absurd c (h3 q (List.mem_of_getElem? hq))
          have hpq : p = q := by
            rw [h1, ← hpk] at hq; simpa using hq
          rw [h4]
          refine ⟨?_, ?_⟩
          · rw [sl_1, hwc.1, h1]; simp
          · intro i r hr
            rw [getElem?_mid (q := p)] at hr
            rw [sl_2, sl_2, if_neg (by omega)]
            by_cases ci : i = pre.length
            · rw [if_pos ci] at hr
              cases hr
              rw [if_pos ⟨rfl, by omega⟩, (hwc.2 k q hq).2, n6_add, ci, hpk, hpq]
              exact ⟨(hwc.2 k q hq).1, rfl⟩
            · rw [if_neg ci, ← h1] at hr
              rw [if_neg (by omega)]
              exact hwc.2 i r hr
        · exact absurd c (h1 q (List.mem_of_getElem? hq))
      · rw [if_neg (fun he => c ((pkk_eq hqo hx).mp he))]
        refine wp_sr ?_
        rw [e1]
        refine ih (k + 1) m (by omega) (by omega) (fun i r hi hr => ?_)
        by_cases ci : i = k
        · rw [ci, hq] at hr; cases hr; exact c
        · exact hne i r (by omega) hr
  exact key ws.length 0 fu_ (by omega) (by unfold fu_; omega) (fun i q hi => by omega)
end UK1
