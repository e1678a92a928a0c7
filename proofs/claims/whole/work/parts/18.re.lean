/-! THE REFERENCE, its inner methods (5): worksOn, spells, says -/
section RE1
variable {S : sg_} {M : mm_M}
theorem lw_len {l : Nat} : ∀ (xs : List Nat) (p : Option Nat), (lw_go S l p xs).length ≤ xs.length := by
  intro xs
  induction xs with
  | nil => intro p; exact Nat.le_refl _
  | cons x xs ih =>
    intro p
    have := ih (some x)
    unfold lw_go
    split
    · split
      · rw [List.length_cons]; omega
      · rw [List.length_cons, List.length_cons]; omega
    · rw [List.length_cons, List.length_cons]; omega
theorem lg_16 (hw : wf_ S) {l : Nat} (hl : l < S 0 11) : ∀ (xs : List Nat) (p : Option Nat), (∀ x, x ∈ xs → x < 16) → ∀ x, x ∈ lw_go S l p xs → x < 16 := by
  intro xs
  have hb := hw.bec l hl
  induction xs with
  | nil => intro p _ x hx; cases hx
  | cons a xs ih =>
    intro p hxs x hx
    have ih2 := ih (some a) (fun z hz => hxs z (by simp [hz])) x
    unfold lw_go at hx
    split at hx
    · split at hx
      · exact ih2 hx
      · rw [List.mem_cons] at hx
        rcases hx with hx | hx
        · omega
        · exact ih2 hx
    · rw [List.mem_cons] at hx
      rcases hx with hx | hx
      · rw [hx]; exact hxs a (by simp)
      · exact ih2 hx
theorem lw_on_ok (hw : wf_ S) {l : Nat} (hl : l < S 0 11) {xs : List Nat} (h : ok_ xs) : ok_ (lw_on S l xs) :=
  ⟨Nat.le_trans (lw_len xs none) h.1, lg_16 hw hl xs none h.2⟩
theorem r_wk_l (hw : wf_ S) {l hand : Nat} (hl : l < S 0 11) (hh : hand < 2) {xs : List Nat} (hx : ok_ xs) :
    ∀ (rest pre out : List Nat) (M : mm_M) (n : Nat) (flag : Bool), xs = pre ++ rest → rest.length < n → ir_ S M → out.length ≤ pre.length → (∀ i v, xs[i]? = some v → M.1 14 (8 * hand + i) = Int32.ofNat v) → (∀ i v, out[i]? = some v → M.1 16 i = Int32.ofNat v) →
    wp_ (f_X12_worksOn_16l n (Int32.ofNat hand) (Int32.ofNat l) (Int32.ofNat xs.length) (Int32.ofNat out.length) (bi_ flag) (Int32.ofNat pre.length) M)
      (fun z => fr_ (pw_wk hand) M z.2 ∧ hd_ z.2 hand (out ++ lw_go S l pre.getLast? rest) ∧ z.1 = bi_ (flag || lw_ch S l pre.getLast? rest)) := by
  have h6 := hw.laws
  intro rest
  induction rest with
  | nil =>
    intro pre out M n flag hxs hn hI hout h14 h16
    obtain ⟨m, rfl⟩ : ∃ m, n = m + 1 := ⟨n - 1, by simp at hn; omega⟩
    have hlen : xs.length = pre.length := by rw [hxs]; simp
    have h8 := hx.1
    unfold f_X12_worksOn_16l f_X12_worksOn_16
    rw [if_pos ((n3_le (by omega) (by omega)).mpr (by omega))]
    unfold f_X12_worksOn_217
    refine wp_mo (r_cp hh (out := out) (by omega) out.length 0 M fu_ (by omega) (by unfold fu_; omega) h16 (fun i v hi => by omega)) (fun z hz => ⟨hz.1, ?_, ?_⟩)
    · show hd_ z.2 hand (out ++ [])
      rw [List.append_nil]; exact hz.2.1
    · rw [hz.2.2]; simp [lw_ch]
  | cons x rest ih =>
    intro pre out M n flag hxs hn hI hout h14 h16
    obtain ⟨m, rfl⟩ : ∃ m, n = m + 1 := ⟨n - 1, by omega⟩
    have hlen : xs.length = pre.length + (rest.length + 1) := by rw [hxs]; simp
    have h8 := hx.1
    have hx16 : x < 16 := hx.2 x (by rw [hxs]; simp)
    have hxat : xs[pre.length]? = some x := by rw [hxs]; simp
    have hp16 : ∀ s, pre.getLast? = some s → s < 16 := fun s hs => hx.2 s (by rw [hxs]; simp [List.mem_of_getLast? hs])
    have hr16 : ∀ s, rest.head? = some s → s < 16 := fun s hs => hx.2 s (by rw [hxs]; simp [List.mem_of_head? hs])
    have e : (8 : Int32) * Int32.ofNat hand + Int32.ofNat pre.length = Int32.ofNat (8 * hand + pre.length) := by
      show Int32.ofNat 8 * _ + _ = _
      rw [n3_mul, n3_add]
    have hix : ix_ok (Int32.ofNat l) 6 := (n3_ix (by omega)).mpr (by omega)
    have et : (Int32.ofNat l).toNatClampNeg = l := n3_tn (by omega)
    have hgo := hw.goes l hl
    have hlf := hw.lf l hl
    have hrt := hw.rt l hl
    obtain ⟨m6, m7, m8, m9, -⟩ := hI.lw hl
    -- the step itself
    have step : ∀ does, does = lw_d S l pre.getLast? x rest.head? → wp_ (f_X12_worksOn_139 (f_X12_worksOn_16l m) (Int32.ofNat hand) (Int32.ofNat l) (Int32.ofNat xs.length) (Int32.ofNat out.length) (bi_ flag) (Int32.ofNat pre.length) (Int32.ofNat x) (bi_ does) M)
        (fun z => fr_ (pw_wk hand) M z.2 ∧ hd_ z.2 hand (out ++ lw_go S l pre.getLast? (x :: rest)) ∧ z.1 = bi_ (flag || lw_ch S l pre.getLast? (x :: rest))) := by
      intro does hdoes
      refine r_wk1 hI hw hl hx16 hout (by omega) h16 ?_
      intro M' out' ho' hf h14' h16'
      have hol : out'.length ≤ (pre ++ [x]).length := by
        rw [ho']; split
        · split
          · simp; omega
          · simp; omega
        · simp; omega
      have := ih (pre ++ [x]) out' M' m (flag || (does && decide (S 7 l ≠ x))) (by rw [hxs]; simp) (by simp at hn; omega) (hf.ir hI (fun a b h => pw_wk_pe h)) hol (fun i v hv => by rw [h14']; exact h14 i v hv) h16'
      rw [show (pre ++ [x]).length = pre.length + 1 from by simp] at this
      refine wp_mo this (fun z hz => ⟨hf.trans hz.1, ?_, ?_⟩)
      · have hz2 := hz.2.1
        rw [show (pre ++ [x]).getLast? = some x from by simp] at hz2
        have heq : out' ++ lw_go S l (some x) rest = out ++ lw_go S l pre.getLast? (x :: rest) := by
          rw [ho']
          conv => rhs; unfold lw_go
          rw [← hdoes]
          cases does
          · simp
          · simp only [if_true]
            split <;> simp
        rw [← heq]; exact hz2
      · rw [hz.2.2]
        rw [show (pre ++ [x]).getLast? = some x from by simp]
        conv => rhs; unfold lw_ch
        rw [← hdoes, Bool.or_assoc]
    have s3 : wp_ (f_X12_worksOn_87 (f_X12_worksOn_16l m) (Int32.ofNat hand) (Int32.ofNat l) (Int32.ofNat xs.length) (Int32.ofNat out.length) (bi_ flag) (Int32.ofNat pre.length) (Int32.ofNat x) (so_ pre.getLast?) (so_ rest.head?) M)
        (fun z => fr_ (pw_wk hand) M z.2 ∧ hd_ z.2 hand (out ++ lw_go S l pre.getLast? (x :: rest)) ∧ z.1 = bi_ (flag || lw_ch S l pre.getLast? (x :: rest))) := by
      unfold f_X12_worksOn_87 f_X12_worksOn_138
      refine wp_ck hix ?_
      simp only [et, m6]
      refine wp_be (r_isOf hI hgo hx16) ?_
      cases c1 : is_of S (S 6 l) x with
      | false => rw [if_pos (by decide)]; exact step false (by simp [lw_d, c1])
      | true =>
        rw [if_neg (by decide)]
        refine wp_ck hix ?_
        simp only [m8]
        refine wp_be (r_isBy hI hlf hp16) ?_
        cases c2 : is_by S (S 8 l) pre.getLast? with
        | false => rw [if_pos (by decide)]; exact step false (by simp [lw_d, c2])
        | true =>
          rw [if_neg (by decide)]
          refine wp_ck hix ?_
          rw [m9]
          refine wp_be (r_isBy hI hrt hr16) ?_
          cases c3 : is_by S (S 9 l) rest.head? with
          | false => rw [if_pos (by decide)]; exact step false (by simp [lw_d, c3])
          | true => rw [if_neg (by decide)]; exact step true (by simp [lw_d, c1, c2, c3])
    have s2 : wp_ (f_X12_worksOn_59 (f_X12_worksOn_16l m) (Int32.ofNat hand) (Int32.ofNat l) (Int32.ofNat xs.length) (Int32.ofNat out.length) (bi_ flag) (Int32.ofNat pre.length) (Int32.ofNat x) (so_ pre.getLast?) M)
        (fun z => fr_ (pw_wk hand) M z.2 ∧ hd_ z.2 hand (out ++ lw_go S l pre.getLast? (x :: rest)) ∧ z.1 = bi_ (flag || lw_ch S l pre.getLast? (x :: rest))) := by
      unfold f_X12_worksOn_59
      have e2 : Int32.ofNat xs.length - 1 = Int32.ofNat (xs.length - 1) := n3_sub (a := xs.length) (b := 1) (by omega)
      have e3 : (8 : Int32) * Int32.ofNat hand + Int32.ofNat pre.length + 1 = Int32.ofNat (8 * hand + pre.length + 1) := by rw [e]; exact n3_add _ 1
      rw [e2, e3]
      cases hr : rest with
      | nil =>
        rw [hr] at hlen s3
        rw [if_pos (by rw [hlen]; rfl)]
        exact s3
      | cons r rs =>
        rw [hr] at hlen s3 hxs
        rw [if_neg (by rw [n3_eq (by omega) (by omega)]; simp at hlen; omega)]
        refine wp_ck ((n3_ix (by omega)).mpr (by simp at hlen; omega)) ?_
        rw [n3_tn (by omega), show 8 * hand + pre.length + 1 = 8 * hand + (pre.length + 1) from by omega, h14 (pre.length + 1) r (by rw [hxs]; simp)]
        exact s3
    unfold f_X12_worksOn_16l f_X12_worksOn_16
    rw [if_neg (by rw [n3_le (by omega) (by omega)]; omega), e]
    refine wp_ck ((n3_ix (by omega)).mpr (by omega)) (wp_sr ?_)
    simp only [n3_tn (show 8 * hand + pre.length < 2147483648 by omega), h14 _ _ hxat]
    rcases List.eq_nil_or_concat pre with hp | ⟨pr, a, hp⟩
    · subst hp
      rw [if_pos (by rfl)]
      exact s2
    · rw [List.concat_eq_append] at hp
      subst hp
      have hl1 : (pr ++ [a]).length = pr.length + 1 := by simp
      have e4 : Int32.ofNat (8 * hand + (pr ++ [a]).length) - 1 = Int32.ofNat (8 * hand + pr.length) := by
        rw [hl1]; exact n3_sub (a := 8 * hand + (pr.length + 1)) (b := 1) (by omega)
      rw [if_neg (by show ¬ (_ = Int32.ofNat 0); rw [n3_eq (by omega) (by omega)]; omega), e4]
      refine wp_ck ((n3_ix (by omega)).mpr (by omega)) ?_
      rw [n3_tn (by omega), h14 pr.length a (by rw [hxs]; simp)]
      rw [show so_ (pr ++ [a]).getLast? = Int32.ofNat a from by simp [so_]] at s2
      exact s2
theorem r_wk (hI : ir_ S M) (hw : wf_ S) {l hand : Nat} (hl : l < S 0 11) (hh : hand < 2) {xs : List Nat} (hx : ok_ xs) (hd : hd_ M hand xs) :
    wp_ (f_X12_worksOn (Int32.ofNat hand) (Int32.ofNat l) M) (fun z => fr_ (pw_wk hand) M z.2 ∧ hd_ z.2 hand (lw_on S l xs) ∧ z.1 = bi_ (lw_ch S l none xs)) := by
  unfold f_X12_worksOn
  refine wp_ck ((n3_ix (by omega)).mpr hh) (wp_sr ?_)
  rw [n3_tn (by omega), hd.1]
  have h8 := hx.1
  exact r_wk_l hw hl hh hx xs [] [] M fu_ false rfl (by unfold fu_; omega) hI (Nat.le_refl _) hd.2 (fun i v hv => by simp at hv)
theorem wd_ok (hw : wf_ S) {w : Nat} (h : w < S 0 8) : ok_ (wd_w S w) := by
  have h1 := hw.sl w h
  refine ⟨by simp [wd_w]; omega, ?_⟩
  intro x hx
  simp only [wd_w, List.mem_map, List.mem_range] at hx
  obtain ⟨i, hi, rfl⟩ := hx
  exact hw.sp w h i hi
theorem r_sp_l (hw : wf_ S) {w hand : Nat} (hwd : w < S 0 8) (hh : hand < 2) :
    ∀ (d k : Nat) (M : mm_M) (n : Nat), k + d = S 5 w → d < n → ir_ S M → M.1 15 hand = Int32.ofNat (S 5 w) → (∀ i, i < k → M.1 14 (8 * hand + i) = Int32.ofNat (S 4 (8 * w + i))) →
    wp_ (f_X12_spells_14l n (Int32.ofNat hand) (Int32.ofNat w) (Int32.ofNat k) M) (fun z => fr_ (pw_wk hand) M z ∧ hd_ z hand (wd_w S w)) := by
  have h20 := hw.words
  have h8 := hw.sl w hwd
  intro d
  induction d with
  | zero =>
    intro k M n hk hn hI h15 h14
    obtain ⟨m, rfl⟩ : ∃ m, n = m + 1 := ⟨n - 1, by omega⟩
    unfold f_X12_spells_14l f_X12_spells_14
    refine wp_ck ((n3_ix (by omega)).mpr (by omega)) ?_
    rw [n3_tn (by omega), hI.sl hwd, if_pos ((n3_le (by omega) (by omega)).mpr (by omega))]
    refine wp_some ⟨fr_.refl, ?_, ?_⟩
    · rw [h15]; simp [wd_w]
    · intro i v hv
      have hi := lt_of_some hv
      simp [wd_w] at hi
      simp [wd_w, hi] at hv
      rw [h14 i (by omega), hv]
  | succ d ih =>
    intro k M n hk hn hI h15 h14
    obtain ⟨m, rfl⟩ : ∃ m, n = m + 1 := ⟨n - 1, by omega⟩
    have e1 : (8 : Int32) * Int32.ofNat w + Int32.ofNat k = Int32.ofNat (8 * w + k) := by
      show Int32.ofNat 8 * _ + _ = _
      rw [n3_mul, n3_add]
    have e2 : (8 : Int32) * Int32.ofNat hand + Int32.ofNat k = Int32.ofNat (8 * hand + k) := by
      show Int32.ofNat 8 * _ + _ = _
      rw [n3_mul, n3_add]
    unfold f_X12_spells_14l f_X12_spells_14
    refine wp_ck ((n3_ix (by omega)).mpr (by omega)) ?_
    rw [n3_tn (by omega), hI.sl hwd, if_neg (by rw [n3_le (by omega) (by omega)]; omega), e1, e2]
    refine wp_ck ((n3_ix (by omega)).mpr (by omega)) (wp_ck ((n3_ix (by omega)).mpr (by omega)) (wp_sr (wp_sr ?_)))
    rw [n3_tn (by omega), n3_tn (by omega), hI.sp hwd (by omega) (by omega)]
    show wp_ (f_X12_spells_14l m _ _ (Int32.ofNat k + Int32.ofNat 1) _) _
    rw [n3_add]
    have hfr : fr_ (pw_wk hand) M (mm_si M 14 (8 * hand + k) (Int32.ofNat (S 4 (8 * w + k)))) := fr_si (Or.inl ⟨rfl, by omega⟩)
    refine wp_mo (ih (k + 1) _ m (by omega) (by omega) (hfr.ir hI (fun a b h => pw_wk_pe h)) ?_ ?_) (fun r hr => ⟨hfr.trans hr.1, hr.2⟩)
    · rw [si_1, if_neg (by simp)]; exact h15
    · intro i hi
      rw [si_1]
      by_cases hik : i = k
      · subst hik; rw [if_pos ⟨rfl, rfl⟩]
      · rw [if_neg (by omega)]; exact h14 i (by omega)
theorem r_sp (hI : ir_ S M) (hw : wf_ S) {w hand : Nat} (hwd : w < S 0 8) (hh : hand < 2) :
    wp_ (f_X12_spells (Int32.ofNat hand) (Int32.ofNat w) M) (fun z => fr_ (pw_wk hand) M z ∧ hd_ z hand (wd_w S w)) := by
  have h20 := hw.words
  have h8 := hw.sl w hwd
  unfold f_X12_spells
  refine wp_ck ((n3_ix (by omega)).mpr (by omega)) (wp_ck ((n3_ix (by omega)).mpr hh) (wp_sr ?_))
  rw [n3_tn (by omega), n3_tn (by omega), hI.sl hwd]
  have hfr : fr_ (pw_wk hand) M (mm_si M 15 hand (Int32.ofNat (S 5 w))) := fr_si (Or.inr (Or.inl ⟨rfl, rfl⟩))
  refine wp_mo (r_sp_l hw hwd hh (S 5 w) 0 _ fu_ (by omega) (by unfold fu_; omega) (hfr.ir hI (fun a b h => pw_wk_pe h)) (by rw [si_1, if_pos ⟨rfl, rfl⟩]) (fun i hi => by omega)) (fun r hr => ⟨hfr.trans hr.1, hr.2⟩)
theorem r_says_l (hw : wf_ S) {hand : Nat} (hh : hand < 2) {os : List Nat} (h6 : os.length ≤ 6) (hos : ∀ x, x ∈ os → x < S 0 11) :
    ∀ (rest pre xs : List Nat) (M : mm_M) (n : Nat), os = pre ++ rest → rest.length < n → ir_ S M → ok_ xs → hd_ M hand xs → ol_ M os →
    wp_ (f_X12_says_18l n (Int32.ofNat hand) (Int32.ofNat pre.length) M) (fun z => fr_ (pw_wk hand) M z ∧ hd_ z hand (sa_l S rest xs)) := by
  intro rest
  induction rest with
  | nil =>
    intro pre xs M n hos2 hn hI hx hd ho
    obtain ⟨m, rfl⟩ : ∃ m, n = m + 1 := ⟨n - 1, by omega⟩
    have hlen : os.length = pre.length := by rw [hos2]; simp
    unfold f_X12_says_18l f_X12_says_18
    rw [ho.1, if_pos ((n3_le (by omega) (by omega)).mpr (by omega))]
    exact wp_some ⟨fr_.refl, hd⟩
  | cons l rest ih =>
    intro pre xs M n hos2 hn hI hx hd ho
    obtain ⟨m, rfl⟩ : ∃ m, n = m + 1 := ⟨n - 1, by omega⟩
    have hlen : os.length = pre.length + (rest.length + 1) := by rw [hos2]; simp
    have hl := hos l (by rw [hos2]; simp)
    unfold f_X12_says_18l f_X12_says_18
    rw [ho.1, if_neg (by rw [n3_le (by omega) (by omega)]; omega)]
    refine wp_ck ((n3_ix (by omega)).mpr (by omega)) ?_
    rw [n3_tn (by omega), ho.2 pre.length l (by rw [hos2]; simp)]
    refine wp_bd (wp_mo (r_wk hI hw hl hh hx hd) (fun z hz => ?_))
    refine wp_sr ?_
    show wp_ (f_X12_says_18l m _ (Int32.ofNat pre.length + Int32.ofNat 1) _) _
    rw [n3_add, show pre.length + 1 = (pre ++ [l]).length from by simp]
    refine wp_mo (ih (pre ++ [l]) (lw_on S l xs) z.2 m (by rw [hos2]; simp) (by simp at hn; omega) (hz.1.ir hI (fun a b h => pw_wk_pe h)) (lw_on_ok hw hl hx) hz.2.1 (ho.fr hz.1 (by simp [pw_wk]) (fun b => by simp [pw_wk]))) (fun r hr => ⟨hz.1.trans hr.1, hr.2⟩)
theorem pa_len {nv : Nat → Bool} {h y p : Nat} : (pa_ S nv h y p).length ≤ S 0 11 := od_len _
theorem pa_mem {nv : Nat → Bool} {h y p l : Nat} (hx : l ∈ pa_ S nv h y p) : l < S 0 11 := ((od_mem _).mp hx).1
def sw_ok (S : sg_) (sw : Option (Nat × Nat)) : Prop := ∀ a b, sw = some (a, b) → a < S 0 11 ∧ b < S 0 11
theorem sw_lt {sw : Option (Nat × Nat)} (h : sw_ok S sw) {l : Nat} (hl : l < S 0 11) : sw_f sw l < S 0 11 := by
  unfold sw_f
  cases sw with
  | none => exact hl
  | some ab =>
    obtain ⟨a, b⟩ := ab
    have := h a b rfl
    show (if l = a then b else if l = b then a else l) < _
    split
    · exact this.2
    · split
      · exact this.1
      · exact hl
theorem r_says (hI : ir_ S M) (hw : wf_ S) {nv : Nat → Bool} {sw : Option (Nat × Nat)} {hand w h y p : Nat} (hwd : w < S 0 8) (hh : hand < 2) (hnv : nv_ M nv) (hs : sw_ M sw) (hso : sw_ok S sw) (hhi : h < 2147483648) (hy : y < 2147483648) (hp : p < 6) :
    wp_ (f_X12_says (Int32.ofNat hand) (Int32.ofNat w) (Int32.ofNat h) (Int32.ofNat y) (Int32.ofNat p) M) (fun z => fr_ (pw_sa hand) M z ∧ hd_ z hand (sa_l S ((pa_ S nv h y p).map (sw_f sw)) (wd_w S w))) := by
  have h6 := hw.laws
  unfold f_X12_says
  refine wp_bd (wp_mo (r_sp hI hw hwd hh) (fun z1 hz1 => ?_))
  have hI1 := hz1.1.ir hI (fun a b h => pw_wk_pe h)
  have hnv1 : nv_ z1 nv := fun l hl => by rw [hz1.1.1 0 25 (by simp [pw_wk])]; exact hnv l hl
  have hs1 : sw_ z1 sw := by
    cases sw with
    | none => show z1.1 0 26 = -1; rw [hz1.1.1 0 26 (by simp [pw_wk])]; exact hs
    | some ab =>
      obtain ⟨a, b⟩ := ab
      obtain ⟨h26, h27, ha, hb⟩ : M.1 0 26 = Int32.ofNat a ∧ M.1 0 27 = Int32.ofNat b ∧ a < 6 ∧ b < 6 := hs
      exact ⟨by rw [hz1.1.1 0 26 (by simp [pw_wk])]; exact h26, by rw [hz1.1.1 0 27 (by simp [pw_wk])]; exact h27, ha, hb⟩
  refine wp_bd (wp_mo (r_lines hI1 hw hnv1 hs1 hhi hy hp) (fun z2 hz2 => ?_))
  have hpl := pa_len (S := S) (nv := nv) (h := h) (y := y) (p := p)
  refine wp_mo (r_says_l hw hh (os := (pa_ S nv h y p).map (sw_f sw)) (by simp; omega) ?_ _ [] (wd_w S w) z2 fu_ rfl (by simp; unfold fu_; omega) (hz2.1.ir hI1 (fun a b h => pw_ln_pe h)) (wd_ok hw hwd) (hz1.2.fr hz2.1 (by simp [pw_ln]) (fun i _ => by simp [pw_ln])) hz2.2) (fun r hr => ⟨?_, hr.2⟩)
  · intro x hx
    rw [List.mem_map] at hx
    obtain ⟨a, ha, rfl⟩ := hx
    exact sw_lt hso (pa_mem ha)
  · exact ((hz1.1.mono (fun a b h => Or.inl h)).trans (hz2.1.mono (fun a b h => Or.inr h))).trans (hr.1.mono (fun a b h => Or.inl h))
end RE1
