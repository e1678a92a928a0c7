/-! THE CLASS: signs hold; what is known of them -/
def fk_ (P : Nat → Nat → Prop) (Q : Nat → Prop) (M M' : mm_M) : Prop := (∀ a b, a ≠ 70 → ¬ (a = 5 ∧ b = 4) → ¬ P a b → M'.1 a b = M.1 a b) ∧ (∀ a, a ≠ 71 → ¬ Q a → M'.2.1 a = M.2.1 a)
theorem fk_.refl {P : Nat → Nat → Prop} {Q : Nat → Prop} {M : mm_M} : fk_ P Q M M := ⟨fun _ _ _ _ _ => rfl, fun _ _ _ => rfl⟩
theorem fk_.trans {P : Nat → Nat → Prop} {Q : Nat → Prop} {M M1 M2 : mm_M} (h1 : fk_ P Q M M1) (h2 : fk_ P Q M1 M2) : fk_ P Q M M2 :=
  ⟨fun a b h h' hp => (h2.1 a b h h' hp).trans (h1.1 a b h h' hp), fun a h hq => (h2.2 a h hq).trans (h1.2 a h hq)⟩
theorem fk_.mono {P P' : Nat → Nat → Prop} {Q Q' : Nat → Prop} {M M1 : mm_M} (h1 : fk_ P Q M M1) (h : ∀ a b, P a b → P' a b) (h' : ∀ a, Q a → Q' a) : fk_ P' Q' M M1 :=
  ⟨fun a b ha hb hn => h1.1 a b ha hb (fun hp => hn (h a b hp)), fun a ha hn => h1.2 a ha (fun hp => hn (h' a hp))⟩
theorem fc_.fk {P : Nat → Nat → Prop} {Q : Nat → Prop} {M M' : mm_M} (h : fc_ M M') : fk_ P Q M M' := ⟨fun a b ha hb _ => h.1 a b ha hb, fun a ha _ => h.2 a ha⟩
theorem fk_si {P : Nat → Nat → Prop} {Q : Nat → Prop} {M : mm_M} {k j : Nat} {v : Int32} (h : P k j) : fk_ P Q M (mm_si M k j v) :=
  ⟨fun a b _ _ hn => by
    rw [si_1, if_neg]
    intro hh; rw [hh.1, hh.2] at hn; exact hn h, fun _ _ _ => rfl⟩
theorem fk_sl {P : Nat → Nat → Prop} {Q : Nat → Prop} {M : mm_M} {k j : Nat} {v : Int64} (h : Q k) : fk_ P Q M (mm_sl M k j v) :=
  ⟨fun _ _ _ _ _ => rfl, fun a _ hn => by funext b; rw [sl_2, if_neg]; intro hh; rw [hh.1] at hn; exact hn h⟩
theorem fk_.ic {S : sg_} {P : Nat → Nat → Prop} {Q : Nat → Prop} {M M' : mm_M} (hw : wf_ S) (hf : fk_ P Q M M') (h : ic_ S M) (hp : ∀ a b, P a b → ¬ pc_ S a b) (hq : ¬ Q 17) : ic_ S M' := by
  have h6 := hw.laws
  have h16 := hw.signs
  exact h.fr h16 (fun a b hpc => hf.1 a b (by unfold pc_ at hpc; omega) (by unfold pc_ at hpc; omega) (fun h => hp a b h hpc)) (fun j _ => by rw [hf.2 17 (by omega) hq])
theorem tc_.fr {S : sg_} {M M' : mm_M} {W : Nat} {pt : Nat → List Nat} (h : tc_ S M W pt) (h1 : M'.1 5 4 = M.1 5 4) (h2 : M'.1 70 = M.1 70) (h3 : M'.2.1 71 = M.2.1 71) (h4 : M'.2.2 = M.2.2) : tc_ S M' W pt :=
  ⟨by rw [h1]; exact h.wk, h.w1, by rw [h4]; exact h.cap, by rw [h4]; exact h.pow, h.root, h.lt, h.nd, h.inj, h.pre, by rw [h2]; exact h.fol, by rw [h2, h4]; exact h.zero, by rw [h3]; exact h.frm⟩
theorem tc_.si {S : sg_} {M : mm_M} {W : Nat} {pt : Nat → List Nat} (h : tc_ S M W pt) {k j : Nat} {v : Int32} (hk : k ≠ 70) (hj : ¬ (k = 5 ∧ j = 4)) : tc_ S (mm_si M k j v) W pt :=
  h.fr (by rw [si_1, if_neg (by omega)]) (by funext b; rw [si_1, if_neg (by omega)]) rfl rfl
theorem tc_.sl {S : sg_} {M : mm_M} {W : Nat} {pt : Nat → List Nat} (h : tc_ S M W pt) {k j : Nat} {v : Int64} (hk : k ≠ 71) : tc_ S (mm_sl M k j v) W pt :=
  h.fr rfl rfl (by funext b; rw [sl_2, if_neg (by omega)]) rfl
/-- a sign, as the class holds it -/
def sco_ (M : mm_M) (k kd one oth nm : Nat) : Prop := M.1 k 0 = Int32.ofNat kd ∧ M.1 k 1 = Int32.ofNat one ∧ (kd ≠ 2 → kd ≠ 3 → M.1 k 2 = Int32.ofNat oth) ∧ (kd = 2 ∨ kd = 3 → M.1 k 2 = Int32.ofNat one) ∧ (kd = 2 ∨ kd = 3 → M.1 k 3 = Int32.ofNat nm)
theorem ho_k23 {S : sg_} {kd nm : Nat} {xs ys ys' : List Nat} (h : kd = 2 ∨ kd = 3) : ho_k S kd nm xs ys = ho_k S kd nm xs ys' := by
  rcases h with h | h
  · subst h; rfl
  · subst h; rfl
section SE1
variable {S : sg_} {M : mm_M} {W : Nat} {pt : Nat → List Nat}
theorem c_soOf {k kd one oth nm : Nat} (hg : sco_ M k kd one oth nm) (hk : kd ≤ 4) (hn : kd = 2 ∨ kd = 3 → nm ≤ 127) {xs ys : List Nat} (hx : ok_ xs) (hy : ok_ ys) :
    f_X5_isSoOf k (Int64.ofNat (en_ xs)) (Int64.ofNat (en_ ys)) (Int32.ofNat (S 3 0)) M = some (bi_ (ho_k S kd nm xs ys)) := by
  have hx8 := hx.1
  unfold f_X5_isSoOf ho_k
  rw [hg.1]
  by_cases c1 : kd = 1
  · rw [if_pos (by rw [c1]; rfl), if_pos c1]
    by_cases c : xs = ys
    · rw [if_pos (by rw [c]), decide_eq_true c]; rfl
    · rw [if_neg (by rw [en_eq hx hy]; exact c), decide_eq_false c]; rfl
  · rw [if_neg (by show ¬ (_ = Int32.ofNat 1); rw [n3_eq (by omega) (by omega)]; exact c1), if_neg c1]
    by_cases c2 : kd = 2
    · have hn2 := hn (Or.inl c2)
      rw [if_pos (by rw [c2]; rfl), if_pos c2, c_bt hx, Option.bind_some, hg.2.2.2.2 (Or.inl c2)]
      have hfl : (xs.filter fun s => (S 3 0).testBit s).length ≤ xs.length := List.length_filter_le _ _
      by_cases c : (xs.filter fun s => (S 3 0).testBit s).length = nm
      · rw [if_pos (by rw [c]), decide_eq_true c]; rfl
      · rw [if_neg (by rw [n3_eq (by omega) (by omega)]; exact c), decide_eq_false c]; rfl
    · rw [if_neg (by show ¬ (_ = Int32.ofNat 2); rw [n3_eq (by omega) (by omega)]; exact c2), if_neg c2]
      by_cases c3 : kd = 3
      · have hn3 := hn (Or.inr c3)
        rw [if_pos (by rw [c3]; rfl), if_pos c3, sq_n]
        unfold f_X5_isBooked
        rw [hg.2.2.2.2 (Or.inr c3)]
        have e1 : Int32.ofNat nm >>> ((4 : Int32) &&& 31) = Int32.ofNat (nm / 16) := n3_shr (s := 4) (by omega) (by omega)
        have e2 : Int32.ofNat nm &&& 15 = Int32.ofNat (nm % 16) := n3_md nm 4 (by omega)
        rw [e1, e2, sq_n, c_len hx, sq_n]
        by_cases c4 : xs.length ≤ nm / 16
        · rw [if_pos ((n3_le (by omega) (by omega)).mpr c4), List.getElem?_eq_none c4]; rfl
        · rw [if_neg (by rw [n3_le (by omega) (by omega)]; exact c4)]
          have hat : xs[nm / 16]? = some (xs[nm / 16]'(by omega)) := List.getElem?_eq_getElem (by omega)
          have h16 := hx.2 _ (List.mem_of_getElem? hat)
          rw [c_snd hx hat, sq_n, hat]
          by_cases c5 : xs[nm / 16]'(by omega) = nm % 16
          · rw [if_pos (by rw [c5]), c5]; simp [bi_]
          · rw [if_neg (by rw [n3_eq (by omega) (by omega)]; exact c5)]; simp [c5, bi_]
      · rw [if_neg (by show ¬ (_ = Int32.ofNat 3); rw [n3_eq (by omega) (by omega)]; exact c3), if_neg c3, c_tl hx, Option.bind_some, c_tl hy, Option.bind_some, sq_n]
        have l1 := te_lt (S := S) hx
        have l2 := te_lt (S := S) hy
        congr 1
        unfold f_X5_areTailsSo f_X5_areTailsSo_16 f_X5_areTailsSo_17 f_X5_areTailsSo_35 f_X5_areTailsSo_47
        rw [hg.1]
        have k0 : (Int32.ofNat kd = 0) ↔ kd = 0 := n3_eq (b := 0) (by omega) (by omega)
        by_cases t1 : tl_ S xs = []
        · rw [if_pos (by rw [te_0.mpr t1]; rfl), if_pos rfl]; simp [t1, bi_]
        · rw [if_neg (by rw [n6_nz (by omega), te_0]; exact t1)]
          by_cases t2 : tl_ S ys = []
          · rw [if_pos (by rw [te_0.mpr t2]; rfl), if_pos rfl]; simp [t2, bi_]
          · rw [if_neg (by rw [n6_nz (by omega), te_0]; exact t2), if_neg (by decide)]
            by_cases t3 : tl_ S xs = tl_ S ys
            · rw [if_pos (by rw [(te_inj hx hy).mpr t3])]
              by_cases c0 : kd = 0
              · rw [if_pos (k0.mpr c0), if_pos rfl]; simp [t3, t2, c0, bi_]
              · rw [if_neg (fun h => c0 (k0.mp h)), if_neg (by decide)]; simp [t3, c0, bi_]
            · rw [if_neg (by rw [n6_eq (by omega) (by omega), te_inj hx hy]; exact t3)]
              by_cases c0 : kd = 0
              · rw [if_pos (k0.mpr c0), if_neg (by decide)]; simp [t3, c0, bi_]
              · rw [if_neg (fun h => c0 (k0.mp h)), if_pos rfl]; simp [t1, t2, t3, c0, bi_]
theorem c_soOn (ht : tc_ S M W pt) (hI : ic_ S M) (hw : wf_ S) {k kd one oth nm c : Nat} (hg : sco_ M k kd one oth nm) (hk : kd ≤ 4) (hn : kd = 2 ∨ kd = 3 → nm ≤ 127) (h1 : one < S 0 8) (h2 : kd ≠ 2 → kd ≠ 3 → oth < S 0 8) (hc : c < W) :
    f_X5_isSoOn k (Int32.ofNat c) M = some (bi_ (ho_k S kd nm (sa_l S (pt c) (wd_w S one)) (sa_l S (pt c) (wd_w S oth)))) := by
  unfold f_X5_isSoOn
  rw [hg.2.1, c_form ht hw hc h1, Option.bind_some]
  by_cases c23 : kd = 2 ∨ kd = 3
  · rw [hg.2.2.2.1 c23, c_form ht hw hc h1, Option.bind_some, sq_n, c_vow hI, c_soOf hg hk hn (c_fok ht hw hc h1) (c_fok ht hw hc h1), Option.bind_some, ho_k23 c23]
  · have h2' := h2 (fun h => c23 (Or.inl h)) (fun h => c23 (Or.inr h))
    rw [hg.2.2.1 (fun h => c23 (Or.inl h)) (fun h => c23 (Or.inr h)), c_form ht hw hc h2', Option.bind_some, sq_n, c_vow hI, c_soOf hg hk hn (c_fok ht hw hc h1) (c_fok ht hw hc h2'), Option.bind_some]
theorem sc_sco (hI : ic_ S M) {s : Nat} (hs : s < S 0 28) : sco_ M (22 + s) (S 18 s) (S 19 s) (S 20 s) (S 23 s) := by
  obtain ⟨a1, a2, a3, a4, a5, -⟩ := hI.sg s hs
  exact ⟨a1, a2, a3, a4, a5⟩
theorem nm_le (hw : wf_ S) {s : Nat} (hs : s < S 0 28) : S 18 s = 2 ∨ S 18 s = 3 → S 23 s ≤ 127 := by
  intro h
  rcases h with h | h
  · have := hw.nm2 s hs h; omega
  · exact hw.nm3 s hs h
/-- by course d, walked for history h, year and place of sign s -/
theorem c_soS (ht : tc_ S M W pt) (hI : ic_ S M) (hw : wf_ S) {nv : Nat → Bool} {s h d : Nat} (hs : s < S 0 28) (hd : d < W) (hp : pt d = pa_ S nv h (S 21 s) (S 22 s)) : f_X5_isSoOn (22 + s) (Int32.ofNat d) M = some (bi_ (ho_n S nv s h)) := by
  rw [c_soOn ht hI hw (sc_sco hI hs) (hw.kind s hs) (nm_le hw hs) (hw.one s hs) (fun h2 h3 => (hw.oth s hs h2 h3).1) hd, hp]
  rfl
def pk_h (a b : Nat) : Prop := a = 21 ∨ (a = 19 ∧ b = 6)
theorem pk_h_pc (hw : wf_ S) {a b : Nat} (h : pk_h a b) : ¬ pc_ S a b := by
  have h6 := hw.laws
  have h16 := hw.signs
  unfold pk_h at h
  unfold pc_
  omega
theorem c_lookAt_l (hw : wf_ S) {s : Nat} (hs : s < S 0 28) {x3 : Int32} (hup : yb_ x3 ((S 21 s : Int) - (S 13 (S 22 s) : Int))) {M0 : mm_M} :
    ∀ (d k : Nat) (M : mm_M) (W : Nat) (pt : Nat → List Nat) (n : Nat), k + d = hs_ S → d < n → tc_ S M W pt → ic_ S M → fk_ (fun a b => a = 21) (fun _ => False) M0 M → (∀ h i, i < 32 → i ≠ s → ib_ (M.1 21 h) i = ib_ (M0.1 21 h) i) → (∀ h, h < k → ib_ (M.1 21 h) s = ho_ S s h) →
    wp_ (f_X6_lookAt_35l n (Int32.ofNat s) (1 <<< (Int32.ofNat s &&& 31)) x3 (Int32.ofNat k) M) (fun M' => ∃ W' pt', tc_ S M' W' pt' ∧ ic_ S M' ∧ fk_ (fun a b => a = 21) (fun _ => False) M0 M' ∧ (∀ h i, i < 32 → i ≠ s → ib_ (M'.1 21 h) i = ib_ (M0.1 21 h) i) ∧ (∀ h, h < hs_ S → ib_ (M'.1 21 h) s = ho_ S s h)) := by
  have h600 := hw.hist
  have h16 := hw.signs
  intro d
  induction d with
  | zero =>
    intro k M W pt n hk hn ht hI hf ho hh
    obtain ⟨m, rfl⟩ : ∃ m, n = m + 1 := ⟨n - 1, by omega⟩
    unfold f_X6_lookAt_35l f_X6_lookAt_35
    rw [hI.hs, if_pos ((n3_le (by omega) (by omega)).mpr (by omega))]
    exact wp_some ⟨W, pt, ht, hI, hf, ho, fun h hh2 => hh h (by omega)⟩
  | succ d ih =>
    intro k M W pt n hk hn ht hI hf ho hh
    obtain ⟨m, rfl⟩ : ∃ m, n = m + 1 := ⟨n - 1, by omega⟩
    unfold f_X6_lookAt_35l f_X6_lookAt_35
    rw [hI.hs, if_neg (by rw [n3_le (by omega) (by omega)]; omega)]
    refine wp_ck ((n3_ix (by omega)).mpr (by omega)) (wp_bd (wp_mo (c_among ht hI hw (show k < hs_ S by omega) hup am_63) (fun z hz => ?_)))
    obtain ⟨W1, pt1, dd, z1, z2, z3, z4, z5, z6⟩ := hz
    have hI1 := z5.ic hw hI
    unfold f_X6_lookAt_65
    rw [n3_tn (by omega), z1]
    refine wp_be (c_soS z6 hI1 hw hs z2 z3) ?_
    have e21 : ∀ b, z.2.1 21 b = M.1 21 b := fun b => z5.1 21 b (by omega) (by omega)
    have go : ∀ v, (∀ i, i < 32 → i ≠ s → ib_ v i = ib_ (M.1 21 k) i) → ib_ v s = ho_n S no_ s k → wp_ (f_X6_lookAt_108 (f_X6_lookAt_35l m) (Int32.ofNat s) (1 <<< (Int32.ofNat s &&& 31)) x3 (Int32.ofNat k) (Int32.ofNat k) v z.2) (fun M' => ∃ W' pt', tc_ S M' W' pt' ∧ ic_ S M' ∧ fk_ (fun a b => a = 21) (fun _ => False) M0 M' ∧ (∀ h i, i < 32 → i ≠ s → ib_ (M'.1 21 h) i = ib_ (M0.1 21 h) i) ∧ (∀ h, h < hs_ S → ib_ (M'.1 21 h) s = ho_ S s h)) := by
      intro v hv1 hv2
      unfold f_X6_lookAt_108
      refine wp_ck ((n3_ix (by omega)).mpr (by omega)) (wp_sr (wp_sr ?_))
      rw [n3_tn (by omega)]
      show wp_ (f_X6_lookAt_35l m _ _ _ (Int32.ofNat k + Int32.ofNat 1) _) _
      rw [n3_add]
      have hfs : fk_ (fun a b => a = 21) (fun _ => False) z.2 (mm_si z.2 21 k v) := fk_si rfl
      refine ih (k + 1) _ W1 pt1 m (by omega) (by omega) (z6.si (by omega) (by omega)) (hfs.ic hw hI1 (fun a b h => pk_h_pc hw (Or.inl h)) id) ((hf.trans z5.fk).trans hfs) ?_ ?_
      · intro h i hi his
        rw [si_1]
        by_cases hk2 : h = k
        · rw [if_pos ⟨rfl, hk2⟩, hv1 i hi his, hk2]; exact ho k i hi his
        · rw [if_neg (by omega), e21]; exact ho h i hi his
      · intro h hh2
        rw [si_1]
        by_cases hk2 : h = k
        · rw [if_pos ⟨rfl, hk2⟩, hv2, hk2]; rfl
        · rw [if_neg (by omega), e21]; exact hh h (by omega)
    have hbs : ∀ i, i < 32 → ib_ (1 <<< (Int32.ofNat s &&& 31)) i = decide (i = s) := fun i hi => ib_shl s (by omega) i hi
    cases hb : ho_n S no_ s k with
    | false =>
      rw [if_pos (by decide)]
      refine wp_ck ((n3_ix (by omega)).mpr (by omega)) ?_
      rw [n3_tn (by omega), e21]
      refine go _ (fun i hi his => ?_) ?_
      · rw [ib_and, ib_not hi, hbs i hi, decide_eq_false his]; simp
      · rw [ib_and, ib_not (by omega), hbs s (by omega), hb]; simp
    | true =>
      rw [if_neg (by decide)]
      refine wp_ck ((n3_ix (by omega)).mpr (by omega)) ?_
      rw [n3_tn (by omega), e21]
      refine go _ (fun i hi his => ?_) ?_
      · rw [ib_or, hbs i hi, decide_eq_false his]; simp
      · rw [ib_or, hbs s (by omega), hb]; simp
theorem c_lookAt (ht : tc_ S M W pt) (hI : ic_ S M) (hw : wf_ S) {s : Nat} (hs : s < S 0 28) :
    wp_ (f_X6_lookAt (Int32.ofNat s) M) (fun M' => ∃ W' pt', tc_ S M' W' pt' ∧ ic_ S M' ∧ fk_ (fun a b => a = 21) (fun _ => False) M M' ∧ (∀ h i, i < 32 → i ≠ s → ib_ (M'.1 21 h) i = ib_ (M.1 21 h) i) ∧ (∀ h, h < hs_ S → ib_ (M'.1 21 h) s = ho_ S s h)) := by
  have h600 := hw.hist
  have h16 := hw.signs
  have hpl := hw.pl s hs
  have hyr := hw.year s hs
  obtain ⟨-, -, -, -, -, a6, a7, -⟩ := hI.sg s hs
  have hix : ix_ok (Int32.ofNat s) 16 := (n3_ix (by omega)).mpr (by omega)
  have et : (Int32.ofNat s).toNatClampNeg = s := n3_tn (by omega)
  unfold f_X6_lookAt
  refine wp_sr (wp_ck hix (wp_ck hix ?_))
  simp only [et, a6, a7]
  refine wp_ck ((n3_ix (by omega)).mpr (by omega)) (wp_sr ?_)
  rw [n3_tn (by omega), hI.lag _ hpl]
  exact c_lookAt_l hw hs (yb_sub (by omega) (hw.lag _ hpl)) (hs_ S) 0 M W pt fu_ (by omega) (by unfold fu_; omega) ht hI fk_.refl (fun _ _ _ _ => rfl) (fun h hh => by omega)
/-- what is known of signs that are not in doubt -/
def hc_ (S : sg_) (M : mm_M) : Prop := ∀ s, s < S 0 28 → ib_ (M.1 19 6) s = false → ∀ h, h < hs_ S → ib_ (M.1 21 h) s = ho_ S s h
/-- all is known -/
def hl_ (S : sg_) (M : mm_M) : Prop := ∀ s h, s < S 0 28 → h < hs_ S → ib_ (M.1 21 h) s = ho_ S s h
theorem hl_.hc (h : hl_ S M) : hc_ S M := fun s hs _ q hq => h s q hs hq
theorem c_look_l (hw : wf_ S) {M0 : mm_M} : ∀ (d k : Nat) (M : mm_M) (W : Nat) (pt : Nat → List Nat) (n : Nat), k + d = S 0 28 → d < n → tc_ S M W pt → ic_ S M → fk_ pk_h (fun _ => False) M0 M → hc_ S M → (∀ s h, s < k → h < hs_ S → ib_ (M.1 21 h) s = ho_ S s h) →
    wp_ (f_X6_lookAnew_2l n (Int32.ofNat k) M) (fun M' => ∃ W' pt', tc_ S M' W' pt' ∧ ic_ S M' ∧ fk_ pk_h (fun _ => False) M0 M' ∧ hl_ S M') := by
  have h16 := hw.signs
  intro d
  induction d with
  | zero =>
    intro k M W pt n hk hn ht hI hf hc hh
    obtain ⟨m, rfl⟩ : ∃ m, n = m + 1 := ⟨n - 1, by omega⟩
    unfold f_X6_lookAnew_2l f_X6_lookAnew_2
    rw [hI.told, if_pos ((n3_le (by omega) (by omega)).mpr (by omega))]
    unfold f_X6_lookAnew_32
    refine wp_sr (wp_some ⟨W, pt, ht.si (by omega) (by omega), ?_, hf.trans (fk_si (Or.inr ⟨rfl, rfl⟩)), ?_⟩)
    · exact (fk_si (P := pk_h) (Q := fun _ => False) (Or.inr ⟨rfl, rfl⟩)).ic hw hI (fun a b h => pk_h_pc hw h) id
    · intro s h hs hh2
      rw [si_1, if_neg (by omega)]
      exact hh s h (by omega) hh2
  | succ d ih =>
    intro k M W pt n hk hn ht hI hf hc hh
    obtain ⟨m, rfl⟩ : ∃ m, n = m + 1 := ⟨n - 1, by omega⟩
    have hks : k < S 0 28 := by omega
    have e1 : Int32.ofNat k + 1 = Int32.ofNat (k + 1) := n3_add k 1
    unfold f_X6_lookAnew_2l f_X6_lookAnew_2 f_X6_lookAnew_26
    rw [hI.told, if_neg (by rw [n3_le (by omega) (by omega)]; omega), ib_bit (by omega)]
    cases hb : ib_ (M.1 19 6) k with
    | false =>
      rw [if_pos (by decide)]
      refine wp_sr ?_
      rw [e1]
      refine ih (k + 1) M W pt m (by omega) (by omega) ht hI hf hc (fun s h hs hh2 => ?_)
      by_cases hsk : s = k
      · rw [hsk]; exact hc k hks hb h hh2
      · exact hh s h (by omega) hh2
    | true =>
      rw [if_neg (by decide)]
      refine wp_bd (wp_mo (c_lookAt ht hI hw hks) (fun z hz => ?_))
      obtain ⟨W1, pt1, z1, z2, z3, z4, z5⟩ := hz
      refine wp_sr ?_
      rw [e1]
      refine ih (k + 1) z W1 pt1 m (by omega) (by omega) z1 z2 (hf.trans (z3.mono (fun a b h => Or.inl h) (fun _ h => h))) ?_ (fun s h hs hh2 => ?_)
      · intro s hs hds h hh2
        rw [z3.1 19 6 (by omega) (by omega) (by omega)] at hds
        by_cases hsk : s = k
        · rw [hsk, hb] at hds; cases hds
        · rw [z4 h s (by omega) hsk]; exact hc s hs hds h hh2
      · by_cases hsk : s = k
        · rw [hsk]; exact z5 h hh2
        · rw [z4 h s (by omega) hsk]; exact hh s h (by omega) hh2
theorem c_look (ht : tc_ S M W pt) (hI : ic_ S M) (hw : wf_ S) (hc : hc_ S M) :
    wp_ (f_X6_lookAnew M) (fun M' => ∃ W' pt', tc_ S M' W' pt' ∧ ic_ S M' ∧ fk_ pk_h (fun _ => False) M M' ∧ hl_ S M') := by
  have h16 := hw.signs
  exact c_look_l hw (S 0 28) 0 M W pt fu_ (by omega) (by unfold fu_; omega) ht hI fk_.refl hc (fun s h hs => by omega)
theorem wr_ib (hw : wf_ S) {nv : Nat → Bool} {h i : Nat} (hi : i < 32) : ib_ (wr_ S nv h) i = (decide (i < S 0 28) && (decide (S 26 i = 1) && !ho_n S nv i h)) := by
  have h16 := hw.signs
  unfold wr_
  rw [mk_ib _ (by omega) i hi]
theorem c_fail (hI : ic_ S M) (hw : wf_ S) (hl : hl_ S M) {h : Nat} (hh : h < hs_ S) : (M.1 19 4) &&& ((M.1 21 h) ^^^ (-1)) = wr_ S no_ h := by
  have h16 := hw.signs
  apply ib_ext
  intro i hi
  rw [ib_and, ib_not hi, hI.on, mk_ib _ (by omega) i hi, wr_ib hw hi]
  by_cases c : i < S 0 28
  · rw [hl i h c hh]
    rw [decide_eq_true c, Bool.true_and, Bool.true_and]; rfl
  · rw [decide_eq_false c]; rfl
theorem wr_0 (hw : wf_ S) {nv : Nat → Bool} {h : Nat} : wr_ S nv h = 0 ↔ ft_n S nv h = true := by
  have h16 := hw.signs
  rw [ft_iff]
  constructor
  · intro h0 s hs hon
    have := wr_ib hw (nv := nv) (h := h) (i := s) (by omega)
    rw [h0, ib_0, decide_eq_true hs, decide_eq_true hon] at this
    cases hb : ho_n S nv s h
    · rw [hb] at this; cases this
    · rfl
  · intro hall
    apply ib_ext
    intro i hi
    rw [wr_ib hw hi, ib_0]
    by_cases c : i < S 0 28
    · by_cases c2 : S 26 i = 1
      · rw [hall i c c2]; simp
      · rw [decide_eq_false c2]; simp
    · rw [decide_eq_false c]; rfl
theorem c_failBy (hI : ic_ S M) (hw : wf_ S) (hl : hl_ S M) {h : Nat} (hh : h < hs_ S) : f_X6_failingBy (Int32.ofNat h) M = some (wr_ S no_ h) := by
  have h600 := hw.hist
  unfold f_X6_failingBy
  rw [if_pos ((n3_ix (by omega)).mpr (by omega)), n3_tn (by omega), c_fail hI hw hl hh]
theorem c_fits (hI : ic_ S M) (hw : wf_ S) (hl : hl_ S M) {h : Nat} (hh : h < hs_ S) : f_X6_fitsTo (Int32.ofNat h) M = some (bi_ (ft_ S h)) := by
  have h600 := hw.hist
  unfold f_X6_fitsTo
  rw [if_pos ((n3_ix (by omega)).mpr (by omega)), n3_tn (by omega), c_fail hI hw hl hh]
  cases hb : ft_ S h with
  | true => rw [if_pos ((wr_0 hw).mpr hb)]; rfl
  | false => rw [if_neg (fun h0 => by have := (wr_0 hw).mp h0; rw [show ft_n S no_ h = ft_ S h from rfl, hb] at this; cases this)]; rfl
theorem c_held (hw : wf_ S) {h : Nat} (hh : h < hs_ S) : f_X6_heldBy (Int32.ofNat h) M = some (M.1 21 h) := by
  have h600 := hw.hist
  unfold f_X6_heldBy
  rw [if_pos ((n3_ix (by omega)).mpr (by omega)), n3_tn (by omega)]
end SE1
