/-! CALLS: look, the end -/
section WF1
variable {S : sg_} {M Mc Mr : mm_M} {vs : List Nat} {y p : Nat}
theorem k_cpairs (hw : wf_ S) (hy : y < 601) (hp : p < 6) : ∀ (e k n : Nat) (M : mm_M), k + e = hs_ S → e < n → cs_ S vs M → hl_ S M → lkg_ S (lkn_ S y p k) (fun _ _ => false) M →
    wp_ (f_X11_countPairs_13l n (Int32.ofNat y) (Int32.ofNat p) (Int32.ofNat (fl_ S no_ k).length) (Int32.ofNat k) M) (fun z => z.1 = Int32.ofNat (fl_ S no_ (hs_ S)).length ∧ cs_ S vs z.2 ∧ lkg_ S (lkn_ S y p (hs_ S)) (fun _ _ => false) z.2) := by
  have h600 := hw.hist
  have h6 := hw.laws
  intro e
  induction e with
  | zero =>
    intro k n M hk hn hc hl hg
    obtain ⟨m, rfl⟩ : ∃ m, n = m + 1 := ⟨n - 1, by omega⟩
    have hkk : k = hs_ S := by omega
    unfold f_X11_countPairs_13l f_X11_countPairs_13
    rw [hc.2.1.hs, if_pos ((n3_le (by omega) (by omega)).mpr (by omega))]
    rw [hkk] at hg ⊢
    exact wp_some ⟨rfl, hc, hg⟩
  | succ e ih =>
    intro k n M hk hn hc hl hg
    obtain ⟨m, rfl⟩ : ∃ m, n = m + 1 := ⟨n - 1, by omega⟩
    have e1 : Int32.ofNat k + 1 = Int32.ofNat (k + 1) := n3_add k 1
    have hkh : k < hs_ S := by omega
    unfold f_X11_countPairs_13l f_X11_countPairs_13 f_X11_countPairs_55
    rw [hc.2.1.hs, if_neg (by rw [n3_le (by omega) (by omega)]; omega)]
    refine wp_be (c_fits hc.2.1 hw hl hkh) ?_
    cases hb : ft_ S k with
    | false =>
      have hfl : fl_ S no_ (k + 1) = fl_ S no_ k := by rw [fl_s, if_neg (by rw [show ft_n S no_ k = ft_ S k from rfl, hb]; decide), List.append_nil]
      rw [if_pos (by decide)]
      refine wp_sr ?_
      rw [e1]
      have go := ih (k + 1) m M (by omega) (by omega) hc hl (fun a b h1 h2 => by
        have := hg a b h1 h2
        unfold lkn_ at this ⊢
        rw [hfl]; exact this)
      rw [hfl] at go
      exact go
    | true =>
      have hfl : fl_ S no_ (k + 1) = fl_ S no_ k ++ [k] := by rw [fl_s, if_pos (show ft_n S no_ k = true from hb)]
      rw [if_neg (by decide)]
      refine wp_sr ?_
      obtain ⟨⟨W, pt, ht⟩, hI, -⟩ := id hc
      refine wp_bd (wp_mo (c_at ht hI hw hkh (show y < 1073741824 by omega) hp) (fun z hz => ?_))
      obtain ⟨W1, pt1, d1, z1, z2, z3, z4, z5, z6⟩ := hz
      have hc1 := hc.fc hw z5 z6
      unfold f_X11_countPairs_52 f_X11_countPairs_55
      rw [z1]
      refine wp_bd (wp_mo (k_lk_on (G := lkn_ S y p k) hw hc1.2.1 z6 z2 (fun a b h1 h2 => by rw [z5.1 69 _ (by omega) (by omega)]; exact hg a b h1 h2)) (fun u hu => wp_sr ?_))
      rw [e1, show Int32.ofNat (fl_ S no_ k).length + 1 = Int32.ofNat ((fl_ S no_ k).length + 1) from n3_add _ 1]
      have go := ih (k + 1) m u (by omega) (by omega) (hc1.fk hw hu.1 hu.2.1 (fun a b hab => ⟨by unfold pc_; omega, by omega⟩) (fun a ha => by omega)) (hl.fr (fun b => by rw [hu.1.1 21 b (by omega) (by omega) (by omega), z5.1 21 b (by omega) (by omega)])) (fun a b h1 h2 => by
        have := hu.2.2 a b h1 h2
        unfold lkn_ at this ⊢
        rw [this, hfl, nl_s, z3]
        congr 1)
      rw [hfl, List.length_append] at go
      exact go
/-- the pair that parts best -/
def lks_ (c : Nat → Nat → Nat) (F : Nat) (st : Nat × Nat) (a b : Nat) : Nat × Nat := if meb_ (Int32.ofNat (c a b)) (Int32.ofNat (c st.1 st.2)) (Int32.ofNat F) = true then st else (a, b)
def lkr_ (c : Nat → Nat → Nat) (F a : Nat) : Nat → Nat → Nat × Nat → Nat × Nat
  | 0, _, st => st
  | e + 1, b, st => lkr_ c F a e (b + 1) (lks_ c F st a b)
def lko_ (c : Nat → Nat → Nat) (F N : Nat) : Nat → Nat → Nat × Nat → Nat × Nat
  | 0, _, st => st
  | e + 1, a, st => lko_ c F N e (a + 1) (lkr_ c F a (N - (a + 1)) (a + 1) st)
/-- a pair of unlike words -/
def lkp_ (N : Nat) (st : Nat × Nat) : Prop := st.1 < st.2 ∧ st.2 < N
theorem lks_p {c : Nat → Nat → Nat} {F N a b : Nat} {st : Nat × Nat} (h : lkp_ N st) (hab : a < b) (hb : b < N) : lkp_ N (lks_ c F st a b) := by
  unfold lks_
  split
  · exact h
  · exact ⟨hab, hb⟩
theorem lkr_p {c : Nat → Nat → Nat} {F N a : Nat} : ∀ (e b : Nat) (st : Nat × Nat), lkp_ N st → a < b → b + e = N → lkp_ N (lkr_ c F a e b st) := by
  intro e
  induction e with
  | zero => intro b st h _ _; exact h
  | succ e ih => intro b st h hab hb; exact ih (b + 1) _ (lks_p h hab (by omega)) (by omega) (by omega)
theorem lko_p {c : Nat → Nat → Nat} {F N : Nat} : ∀ (e a : Nat) (st : Nat × Nat), lkp_ N st → a + e = N → lkp_ N (lko_ c F N e a st) := by
  intro e
  induction e with
  | zero => intro a st h _; exact h
  | succ e ih => intro a st h ha; exact ih (a + 1) _ (lkr_p _ _ _ h (by omega) (by omega)) (by omega)
theorem meb_self {x F : Int32} : meb_ x x F = true := decide_eq_true (Int32.le_refl _)
theorem lks_self {c : Nat → Nat → Nat} {F : Nat} {st : Nat × Nat} : lks_ c F st st.1 st.2 = st := by
  unfold lks_; rw [if_pos meb_self]
theorem k_look_i (hw : wf_ S) (hc : cs_ S vs M) {c : Nat → Nat → Nat} {F a : Nat} (hg : ∀ a b, a < b → b < S 0 8 → M.1 69 (a * 20 + b) = Int32.ofNat (c a b)) {q54 : Int32 → Int32 → Int32 → mm_M → Option (Int32 × mm_M)} {Q : Int32 × mm_M → Prop} :
    ∀ (e b n : Nat) (st : Nat × Nat), b + e = S 0 8 → e < n → a < b → lkp_ (S 0 8) st →
    wp_ (f_X11_look_130 q54 (Int32.ofNat F) (Int32.ofNat ((lkr_ c F a e b st).1 * 20 + (lkr_ c F a e b st).2)) (Int32.ofNat a) M) Q →
    wp_ (f_X11_look_72l q54 n (Int32.ofNat F) (Int32.ofNat (st.1 * 20 + st.2)) (Int32.ofNat a) (Int32.ofNat b) M) Q := by
  have h20 := hw.words
  intro e
  induction e with
  | zero =>
    intro b n st hb hn hab hst hQ
    obtain ⟨m, rfl⟩ : ∃ m, n = m + 1 := ⟨n - 1, by omega⟩
    unfold f_X11_look_72l f_X11_look_72
    rw [hc.2.1.words, if_pos ((n3_le (by omega) (by omega)).mpr (by omega))]
    exact hQ
  | succ e ih =>
    intro b n st hb hn hab hst hQ
    obtain ⟨m, rfl⟩ : ∃ m, n = m + 1 := ⟨n - 1, by omega⟩
    have e1 : Int32.ofNat b + 1 = Int32.ofNat (b + 1) := n3_add b 1
    have epr : Int32.ofNat a * 20 + Int32.ofNat b = Int32.ofNat (a * 20 + b) := by
      show Int32.ofNat a * Int32.ofNat 20 + _ = _
      rw [n3_mul, n3_add]
    have h1 := hst.1
    have h2 := hst.2
    unfold f_X11_look_72l f_X11_look_72 f_X11_look_122
    rw [hc.2.1.words, if_neg (by rw [n3_le (by omega) (by omega)]; omega), epr]
    refine wp_sr (wp_ck ((n3_ix (by omega)).mpr (by omega)) (wp_ck ((n3_ix (by omega)).mpr (by omega)) (wp_sr ?_)))
    rw [n3_tn (by omega), n3_tn (by omega), hg a b hab (by omega), hg st.1 st.2 h1 h2, me_bi]
    have go := ih (b + 1) m (lks_ c F st a b) (by omega) (by omega) (by omega) (lks_p hst hab (by omega)) hQ
    by_cases cc : meb_ (Int32.ofNat (c a b)) (Int32.ofNat (c st.1 st.2)) (Int32.ofNat F) = true
    · rw [cc, if_pos (by decide)]
      rw [show lks_ c F st a b = st by unfold lks_; rw [if_pos cc]] at go
      refine wp_sr ?_
      rw [e1]; exact go
    · rw [show meb_ (Int32.ofNat (c a b)) (Int32.ofNat (c st.1 st.2)) (Int32.ofNat F) = false by
        cases hq : meb_ (Int32.ofNat (c a b)) (Int32.ofNat (c st.1 st.2)) (Int32.ofNat F) with
        | false => rfl
        | true => exact absurd hq cc, if_neg (by decide)]
      rw [show lks_ c F st a b = (a, b) by unfold lks_; rw [if_neg cc]] at go
      refine wp_sr ?_
      rw [e1]; exact go
theorem k_look_l (hw : wf_ S) (hc : cs_ S vs M) {c : Nat → Nat → Nat} {F : Nat} (hg : ∀ a b, a < b → b < S 0 8 → M.1 69 (a * 20 + b) = Int32.ofNat (c a b)) :
    ∀ (e a n : Nat) (st : Nat × Nat), a + e = S 0 8 → e < n → lkp_ (S 0 8) st →
    wp_ (f_X11_look_54l n (Int32.ofNat F) (Int32.ofNat (st.1 * 20 + st.2)) (Int32.ofNat a) M) (fun z => z.1 = Int32.ofNat (c (lko_ c F (S 0 8) e a st).1 (lko_ c F (S 0 8) e a st).2) ∧ cs_ S [(lko_ c F (S 0 8) e a st).1, (lko_ c F (S 0 8) e a st).2] z.2) := by
  have h20 := hw.words
  intro e
  induction e with
  | zero =>
    intro a n st ha hn hst
    obtain ⟨m, rfl⟩ : ∃ m, n = m + 1 := ⟨n - 1, by omega⟩
    have h1 := hst.1
    have h2 := hst.2
    have d1 : Int32.ofNat (st.1 * 20 + st.2) / 20 = Int32.ofNat st.1 := by
      rw [show (20 : Int32) = Int32.ofNat 20 from rfl, n3_div (by omega) (by omega)]; congr 1; omega
    have d2 : Int32.ofNat (st.1 * 20 + st.2) - Int32.ofNat st.1 * 20 = Int32.ofNat st.2 := by
      rw [show (20 : Int32) = Int32.ofNat 20 from rfl, n3_mul, n3_sub (by omega)]; congr 1; omega
    unfold f_X11_look_54l f_X11_look_54 f_X11_look_136
    rw [hc.2.1.words, if_pos ((n3_le (by omega) (by omega)).mpr (by omega)), d1, d2, n3_6 (by omega), n3_6 (by omega)]
    refine wp_sr (wp_bd (wp_mo ((hc.clear hw).add hw (by simp) _) (fun u hu => wp_bd (wp_mo (hu.1.add hw (by simp) _) (fun v hv => wp_ck ((n3_ix (by omega)).mpr (by omega)) (wp_some ⟨?_, hv.1⟩))))))
    rw [n3_tn (by omega)]
    show v.1 69 (st.1 * 20 + st.2) = _
    rw [hv.2.1.1 69 _ (by omega) (by omega) (by simp [pk_r]), hu.2.1.1 69 _ (by omega) (by omega) (by simp [pk_r]), clr_fk.1 69 _ (by omega) (by omega) (by simp [pk_r]), hg st.1 st.2 h1 h2]; rfl
  | succ e ih =>
    intro a n st ha hn hst
    obtain ⟨m, rfl⟩ : ∃ m, n = m + 1 := ⟨n - 1, by omega⟩
    have e1 : Int32.ofNat a + 1 = Int32.ofNat (a + 1) := n3_add a 1
    unfold f_X11_look_54l f_X11_look_54
    rw [hc.2.1.words, if_neg (by rw [n3_le (by omega) (by omega)]; omega)]
    refine wp_sr ?_
    rw [e1]
    refine k_look_i hw hc hg (S 0 8 - (a + 1)) (a + 1) fu_ st (by omega) (by unfold fu_; omega) (by omega) hst ?_
    unfold f_X11_look_130
    refine wp_sr ?_
    rw [e1]
    exact ih (a + 1) m _ (by omega) (by omega) (lkr_p _ _ _ hst (by omega) (by omega))
/-- one pair of the reference -/
theorem q_look_s (hw : wf_ S) (hy : y < 601) (hp : p < 6) {a b : Nat} (ha : a < S 0 8) (hb : b < S 0 8) (hr : rt_ S no_ vs M) (hga : ga_ M (fl_ S no_ (hs_ S))) :
    wp_ (f_X12_lays (16 : Int32) (0 : Int32) (Int32.ofNat a) (Int32.ofNat b) (Int32.ofNat y) (Int32.ofNat p) (0 : Int32) M) (fun z => wp_ (f_X12_heldBy (16 : Int32) z) (fun u => u.1 = Int32.ofNat (lkn_ S y p (hs_ S) a b) ∧ rt_ S no_ vs u.2 ∧ ga_ u.2 (fl_ S no_ (hs_ S)))) := by
  have h600 := hw.hist
  have h16 := hw.signs
  have hll := fl_len (S := S) (nv := no_) (k := hs_ S)
  refine wp_mo (q_lays (s := 16) (kd := 0) (one := a) (oth := b) (yr := y) (pl := p) (nm := 0) (by omega) (fun _ _ => rfl) (fun hk => by omega)) (fun q hq => ?_)
  obtain ⟨q1, -, -, -, q5⟩ := hq
  have hrq : rt_ S no_ vs q := by
    refine ⟨hr.1.fr q5 (fun a b hab hpe => ?_) (by omega) (by omega), hr.2.fr q5 (by omega)⟩
    obtain ⟨h18, h26, rfl⟩ := hab
    have h16b := hw.signs
    unfold pe_ at hpe
    rcases hpe with h | h | h | h | h | h | h | h | h | h | h | h | h <;> omega
  have hgq := hga.fr q5 (by omega) (fun b => by omega)
  refine wp_mo (q_heldBy hw (s := 16) (kd := 0) (nm := 0) (by omega) (by omega) ha (fun _ _ => hb) (show y < 2147483648 by omega) hp (fun hk => by omega) (fun x hx => by have := (fl_mem hx).1; omega) (show (fl_ S no_ (hs_ S)).length ≤ 600 by omega) (fl_ S no_ (hs_ S)) [] fu_ q rfl (by unfold fu_; omega) hrq hgq q1) (fun r hr2 => ⟨?_, hr2.2.1, hr2.2.2.1⟩)
  rw [hr2.1]
  simp only [ho_k0]
  rfl
theorem q_look_i (hw : wf_ S) (hy : y < 601) (hp : p < 6) {a : Nat} {q48 : Int32 → Int32 → Int32 → Int32 → Int32 → Int32 → mm_M → Option (Int32 × mm_M)} {Q : Int32 × mm_M → Prop} :
    ∀ (e b n : Nat) (st : Nat × Nat) (M : mm_M), b + e = S 0 8 → e < n → a < b → lkp_ (S 0 8) st → rt_ S no_ vs M → ga_ M (fl_ S no_ (hs_ S)) →
    (∀ M', rt_ S no_ vs M' → ga_ M' (fl_ S no_ (hs_ S)) → wp_ (f_X12_look_141 q48 (Int32.ofNat y) (Int32.ofNat p) (Int32.ofNat (lkn_ S y p (hs_ S) (lkr_ (lkn_ S y p (hs_ S)) (fl_ S no_ (hs_ S)).length a e b st).1 (lkr_ (lkn_ S y p (hs_ S)) (fl_ S no_ (hs_ S)).length a e b st).2)) (Int32.ofNat (lkr_ (lkn_ S y p (hs_ S)) (fl_ S no_ (hs_ S)).length a e b st).1) (Int32.ofNat (lkr_ (lkn_ S y p (hs_ S)) (fl_ S no_ (hs_ S)).length a e b st).2) (Int32.ofNat a) M') Q) →
    wp_ (f_X12_look_63l q48 n (Int32.ofNat y) (Int32.ofNat p) (Int32.ofNat (lkn_ S y p (hs_ S) st.1 st.2)) (Int32.ofNat st.1) (Int32.ofNat st.2) (Int32.ofNat a) (Int32.ofNat b) M) Q := by
  have h20 := hw.words
  have h600 := hw.hist
  have hll := fl_len (S := S) (nv := no_) (k := hs_ S)
  have hcl : ∀ a b, lkn_ S y p (hs_ S) a b ≤ 600 := fun a b => by
    have := nl_le (f := fun h => rh_ S (sd_ S a h y p) (sd_ S b h y p)) (hs := fl_ S no_ (hs_ S))
    unfold lkn_; omega
  intro e
  induction e with
  | zero =>
    intro b n st M hb hn hab hst hr hga hQ
    obtain ⟨m, rfl⟩ : ∃ m, n = m + 1 := ⟨n - 1, by omega⟩
    unfold f_X12_look_63l f_X12_look_63
    rw [hr.1.1.words, if_pos ((n3_le (by omega) (by omega)).mpr (by omega))]
    exact hQ M hr hga
  | succ e ih =>
    intro b n st M hb hn hab hst hr hga hQ
    obtain ⟨m, rfl⟩ : ∃ m, n = m + 1 := ⟨n - 1, by omega⟩
    have e1 : Int32.ofNat b + 1 = Int32.ofNat (b + 1) := n3_add b 1
    have hcs := hcl st.1 st.2
    unfold f_X12_look_63l f_X12_look_63
    rw [hr.1.1.words, if_neg (by rw [n3_le (by omega) (by omega)]; omega)]
    refine wp_bd (wp_mo (q_look_s hw hy hp (show a < S 0 8 by omega) (show b < S 0 8 by omega) hr hga) (fun z hz => wp_bd (wp_mo hz (fun u hu => ?_))))
    obtain ⟨u1, u2, u3⟩ := hu
    have go := ih (b + 1) m (lks_ (lkn_ S y p (hs_ S)) (fl_ S no_ (hs_ S)).length st a b) u.2 (by omega) (by omega) (by omega) (lks_p hst hab (by omega)) u2 u3 hQ
    rw [if_neg (show ¬ (Int32.ofNat (lkn_ S y p (hs_ S) st.1 st.2) < 0) from fun hh => (n3_neg (by omega)).mp hh), u1, u3.1]
    by_cases cc : meb_ (Int32.ofNat (lkn_ S y p (hs_ S) a b)) (Int32.ofNat (lkn_ S y p (hs_ S) st.1 st.2)) (Int32.ofNat (fl_ S no_ (hs_ S)).length) = true
    · rw [if_pos (of_decide_eq_true cc)]
      rw [show lks_ (lkn_ S y p (hs_ S)) (fl_ S no_ (hs_ S)).length st a b = st by unfold lks_; rw [if_pos cc]] at go
      unfold f_X12_look_135
      refine wp_sr ?_
      rw [e1]; exact go
    · rw [if_neg (fun hh => cc (decide_eq_true hh))]
      rw [show lks_ (lkn_ S y p (hs_ S)) (fl_ S no_ (hs_ S)).length st a b = (a, b) by unfold lks_; rw [if_neg cc]] at go
      unfold f_X12_look_124 f_X12_look_135
      refine wp_sr ?_
      rw [e1]; exact go
theorem q_look_l (hw : wf_ S) (hy : y < 601) (hp : p < 6) : ∀ (e a n : Nat) (st : Nat × Nat) (M : mm_M), a + e = S 0 8 → e < n → lkp_ (S 0 8) st → rt_ S no_ vs M → ga_ M (fl_ S no_ (hs_ S)) →
    wp_ (f_X12_look_48l n (Int32.ofNat y) (Int32.ofNat p) (Int32.ofNat (lkn_ S y p (hs_ S) st.1 st.2)) (Int32.ofNat st.1) (Int32.ofNat st.2) (Int32.ofNat a) M) (fun z => z.1 = Int32.ofNat (lkn_ S y p (hs_ S) (lko_ (lkn_ S y p (hs_ S)) (fl_ S no_ (hs_ S)).length (S 0 8) e a st).1 (lko_ (lkn_ S y p (hs_ S)) (fl_ S no_ (hs_ S)).length (S 0 8) e a st).2) ∧ rt_ S no_ [(lko_ (lkn_ S y p (hs_ S)) (fl_ S no_ (hs_ S)).length (S 0 8) e a st).1, (lko_ (lkn_ S y p (hs_ S)) (fl_ S no_ (hs_ S)).length (S 0 8) e a st).2] z.2) := by
  have h20 := hw.words
  intro e
  induction e with
  | zero =>
    intro a n st M ha hn hst hr hga
    obtain ⟨m, rfl⟩ : ∃ m, n = m + 1 := ⟨n - 1, by omega⟩
    have h1 := hst.1
    have h2 := hst.2
    unfold f_X12_look_48l f_X12_look_48 f_X12_look_147
    rw [hr.1.1.words, if_pos ((n3_le (by omega) (by omega)).mpr (by omega)), n3_6 (by omega), n3_6 (by omega)]
    exact wp_sr (wp_bd (wp_mo (r_ent (rr_nil hr) (by simp) _) (fun u hu => wp_bd (wp_mo (r_ent hu.1 (by simp) _) (fun v hv => wp_some ⟨rfl, hv.1⟩)))))
  | succ e ih =>
    intro a n st M ha hn hst hr hga
    obtain ⟨m, rfl⟩ : ∃ m, n = m + 1 := ⟨n - 1, by omega⟩
    have e1 : Int32.ofNat a + 1 = Int32.ofNat (a + 1) := n3_add a 1
    unfold f_X12_look_48l f_X12_look_48
    rw [hr.1.1.words, if_neg (by rw [n3_le (by omega) (by omega)]; omega)]
    refine wp_sr ?_
    rw [e1]
    refine q_look_i hw hy hp (S 0 8 - (a + 1)) (a + 1) fu_ st M (by omega) (by unfold fu_; omega) (by omega) hst hr hga ?_
    intro M' hr' hga'
    unfold f_X12_look_141
    refine wp_sr ?_
    rw [e1]
    exact ih (a + 1) m _ M' (by omega) (by omega) (lkr_p _ _ _ hst (by omega) (by omega)) hr' hga'
/-- the first pair: nothing is found yet -/
theorem q_look_0 (hw : wf_ S) (hy : y < 601) (hp : p < 6) (h2 : 2 ≤ S 0 8) (hr : rt_ S no_ vs M) (hga : ga_ M (fl_ S no_ (hs_ S))) :
    wp_ (f_X12_look_48l fu_ (Int32.ofNat y) (Int32.ofNat p) (-1 : Int32) (0 : Int32) (0 : Int32) (0 : Int32) M) (fun z => z.1 = Int32.ofNat (lkn_ S y p (hs_ S) (lko_ (lkn_ S y p (hs_ S)) (fl_ S no_ (hs_ S)).length (S 0 8) (S 0 8) 0 (0, 1)).1 (lko_ (lkn_ S y p (hs_ S)) (fl_ S no_ (hs_ S)).length (S 0 8) (S 0 8) 0 (0, 1)).2) ∧ rt_ S no_ [(lko_ (lkn_ S y p (hs_ S)) (fl_ S no_ (hs_ S)).length (S 0 8) (S 0 8) 0 (0, 1)).1, (lko_ (lkn_ S y p (hs_ S)) (fl_ S no_ (hs_ S)).length (S 0 8) (S 0 8) 0 (0, 1)).2] z.2) := by
  have h20 := hw.words
  have hfu : fu_ = 1048575 + 1 := rfl
  have hst : lkp_ (S 0 8) (0, 1) := ⟨by show 0 < 1; omega, by show 1 < S 0 8; omega⟩
  obtain ⟨e, he⟩ : ∃ e, S 0 8 = e + 2 := ⟨S 0 8 - 2, by omega⟩
  rw [hfu]
  unfold f_X12_look_48l f_X12_look_48
  rw [hr.1.1.words, if_neg (show ¬ (Int32.ofNat (S 0 8) ≤ 0) from fun hh => by have := (n3_le (b := 0) (by omega) (by omega)).mp hh; omega)]
  refine wp_sr ?_
  rw [hfu]
  unfold f_X12_look_63l f_X12_look_63
  rw [hr.1.1.words, if_neg (show ¬ (Int32.ofNat (S 0 8) ≤ 0 + 1) from fun hh => by have := (n3_le (b := 1) (by omega) (by omega)).mp hh; omega)]
  refine wp_bd (wp_mo (q_look_s (a := 0) (b := 1) hw hy hp (by omega) (by omega) hr hga) (fun z hz => wp_bd (wp_mo hz (fun u hu => ?_))))
  obtain ⟨u1, u2, u3⟩ := hu
  rw [if_pos (by decide)]
  unfold f_X12_look_124 f_X12_look_135
  refine wp_sr ?_
  rw [u1]
  have hl1 : ∀ c F, lko_ c F (S 0 8) (S 0 8) 0 (0, 1) = lko_ c F (S 0 8) (e + 1) 1 (lkr_ c F 0 e 2 (0, 1)) := by
    intro c F
    rw [he]
    show lko_ c F (e + 2) (e + 1) 1 (lkr_ c F 0 (e + 2 - 1) 1 (0, 1)) = _
    rw [show e + 2 - 1 = e + 1 by omega]
    show lko_ c F (e + 2) (e + 1) 1 (lkr_ c F 0 e 2 (lks_ c F (0, 1) 0 1)) = _
    have h3 : lks_ c F (0, 1) 0 1 = (0, 1) := lks_self (st := (0, 1))
    rw [h3]
  rw [hl1]
  refine q_look_i (a := 0) hw hy hp e 2 1048575 (0, 1) u.2 (by omega) (by omega) (by omega) hst u2 u3 ?_
  intro M' hr' hga'
  unfold f_X12_look_141
  refine wp_sr ?_
  exact q_look_l hw hy hp (e + 1) 1 1048575 _ M' (by omega) (by omega) (lkr_p _ _ _ hst (by omega) (by omega)) hr' hga'
theorem m_look (hrl0 : rl_ Mc Mr) (x1 x2 : Int32) : bo_ (f_X11_look x1 x2 Mc) (f_X12_look x1 x2 Mr) := by
  obtain ⟨S, vs, hw, hv, hc, hr⟩ := hrl0
  have hr1 := hr.th
  have hrl : rl_ Mc (mm_si Mr 0 0 0) := ⟨S, vs, hw, hv, hc, hr1⟩
  have h600 := hw.hist
  have h20 := hw.words
  have h6 := hw.laws
  have hll := fl_len (S := S) (nv := no_) (k := hs_ S)
  unfold f_X11_look f_X12_look
  rw [sq_n (x := mm_si Mr 0 0 0), c_isYear, c_isPlace, r_isThen]
  refine bo_g2 hrl (fun b1 b2 => ?_)
  obtain ⟨y, rfl, hy⟩ := lt_nat b1 (by omega)
  obtain ⟨p, rfl, hp⟩ := lt_nat b2 (by omega)
  rw [hc.2.1.words, hr1.1.1.words]
  by_cases c2 : 2 ≤ S 0 8
  · have c3 : (2 : Int32) ≤ Int32.ofNat (S 0 8) := (n3_le (a := 2) (by omega) (by omega)).mpr c2
    rw [if_pos c3, if_pos c3]
    have hst : lkp_ (S 0 8) (0, 1) := ⟨by show 0 < 1; omega, by show 1 < S 0 8; omega⟩
    have hcp : ∀ z, cs_ S vs z → hl_ S z → wp_ (f_X11_countPairs (Int32.ofNat y) (Int32.ofNat p) z) (fun u => u.1 = Int32.ofNat (fl_ S no_ (hs_ S)).length ∧ cs_ S vs u.2 ∧ lkg_ S (lkn_ S y p (hs_ S)) (fun _ _ => false) u.2) := by
      intro z hz hlz
      unfold f_X11_countPairs
      refine wp_bd (wp_mo k_fill (fun u hu => ?_))
      obtain ⟨⟨W, pt, ht⟩, -⟩ := id hz
      have hfk : fk_ (fun a _ => a = 69) (fun _ => False) z u := ⟨fun a b _ _ h => hu.1.1 a b h, fun a _ _ => by rw [hu.1.2]⟩
      exact k_cpairs hw hy hp (hs_ S) 0 fu_ u (by omega) (by unfold fu_; omega) (hz.fk hw hfk (ht.fr (hu.1.1 5 4 (by omega)) (by funext b; exact hu.1.1 70 b (by omega)) (by rw [hu.1.2]) (by rw [hu.1.2])) (fun a b hab => ⟨by unfold pc_; omega, by omega⟩) (fun a ha => ha.elim)) (hlz.fr (fun b => hu.1.1 21 b (by omega))) (fun a b h1 h2 => by rw [hu.2 _ (by omega)]; rfl)
    by_cases cf : fl_ S no_ (hs_ S) = []
    · refine bo_mk (S := S) (vs := vs) (A := -2) hw hv ?_ ?_
      · refine wp_bd (wp_mo (hc.look hw) (fun z hz => ?_))
        unfold f_X11_look_34
        refine wp_bd (wp_mo (hcp z hz.1 hz.2.1) (fun u hu => ?_))
        unfold f_X11_look_40
        rw [hu.1, cf, if_pos (by rfl)]
        exact wp_some ⟨rfl, hu.2.1⟩
      · refine wp_bd (wp_mo (q_gath hr1.1 hw) (fun z hz => ?_))
        rw [hz.2.1, cf, if_pos (by rfl)]
        exact wp_some ⟨rfl, hr1.ga hz.1⟩
    · have hne : 1 ≤ (fl_ S no_ (hs_ S)).length := by
        cases hf : fl_ S no_ (hs_ S) with
        | nil => exact absurd hf cf
        | cons a b => simp
      have hpp := lko_p (c := lkn_ S y p (hs_ S)) (F := (fl_ S no_ (hs_ S)).length) (S 0 8) 0 (0, 1) hst (by omega)
      have hp1 := hpp.1
      have hp2 := hpp.2
      refine bo_mk (S := S) (vs := [(lko_ (lkn_ S y p (hs_ S)) (fl_ S no_ (hs_ S)).length (S 0 8) (S 0 8) 0 (0, 1)).1, (lko_ (lkn_ S y p (hs_ S)) (fl_ S no_ (hs_ S)).length (S 0 8) (S 0 8) 0 (0, 1)).2]) (A := Int32.ofNat (lkn_ S y p (hs_ S) (lko_ (lkn_ S y p (hs_ S)) (fl_ S no_ (hs_ S)).length (S 0 8) (S 0 8) 0 (0, 1)).1 (lko_ (lkn_ S y p (hs_ S)) (fl_ S no_ (hs_ S)).length (S 0 8) (S 0 8) 0 (0, 1)).2)) hw ⟨by simp, fun v hv2 => by
        simp only [List.mem_cons, List.not_mem_nil, or_false] at hv2
        rcases hv2 with hv2 | hv2 <;> omega⟩ ?_ ?_
      · refine wp_bd (wp_mo (hc.look hw) (fun z hz => ?_))
        unfold f_X11_look_34
        refine wp_bd (wp_mo (hcp z hz.1 hz.2.1) (fun u hu => ?_))
        unfold f_X11_look_40
        rw [hu.1, if_neg (show ¬ (Int32.ofNat (fl_ S no_ (hs_ S)).length = 0) from fun hh => by have := (n3_eq (b := 0) (by omega) (by omega)).mp hh; omega)]
        exact k_look_l hw hu.2.1 (c := lkn_ S y p (hs_ S)) (fun a b h1 h2 => by rw [hu.2.2 a b h1 h2]; rfl) (S 0 8) 0 fu_ (0, 1) (by omega) (by unfold fu_; omega) hst
      · refine wp_bd (wp_mo (q_gath hr1.1 hw) (fun z hz => ?_))
        rw [hz.2.1, if_neg (show ¬ (Int32.ofNat (fl_ S no_ (hs_ S)).length = 0) from fun hh => by have := (n3_eq (b := 0) (by omega) (by omega)).mp hh; omega)]
        exact q_look_0 hw hy hp c2 (hr1.ga hz.1) hz.2
  · have c3 : ¬ ((2 : Int32) ≤ Int32.ofNat (S 0 8)) := fun hh => c2 ((n3_le (a := 2) (by omega) (by omega)).mp hh)
    rw [if_neg c3, if_neg c3]
    exact bo_no hrl
end WF1
