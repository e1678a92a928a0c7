/-! CALLS: look -/
section WE1
variable {S : sg_} {M Mc Mr : mm_M} {vs : List Nat} {y p : Nat}
theorem ho_k0 {nm : Nat} {xs ys : List Nat} : ho_k S 0 nm xs ys = rh_ S xs ys := by
  unfold ho_k rh_
  rw [if_neg (by omega), if_neg (by omega), if_neg (by omega)]
  apply decide_eq_decide.mpr
  constructor
  · intro ⟨h1, _, h3⟩; exact ⟨h1, h3.mpr rfl⟩
  · intro ⟨h1, h2⟩; exact ⟨h1, by rw [← h2]; exact h1, ⟨fun _ => rfl, fun _ => h2⟩⟩
/-- by how many of the first k histories that fit two words rhyme -/
def lkn_ (S : sg_) (y p k a b : Nat) : Nat := nl_ (fun h => rh_ S (sd_ S a h y p) (sd_ S b h y p)) (fl_ S no_ k)
def lkg_ (S : sg_) (G : Nat → Nat → Nat) (C : Nat → Nat → Bool) (M : mm_M) : Prop := ∀ a b, a < b → b < S 0 8 → M.1 69 (a * 20 + b) = Int32.ofNat (G a b + (if C a b = true then 1 else 0))
theorem lkg_.cg {G : Nat → Nat → Nat} {C C' : Nat → Nat → Bool} (h : lkg_ S G C M) (hc : ∀ a b, a < b → b < S 0 8 → C' a b = C a b) : lkg_ S G C' M := fun a b h1 h2 => by rw [hc a b h1 h2]; exact h a b h1 h2
def lkc_ (R : Nat → Nat → Bool) (w v a b : Nat) : Bool := (decide (a < w) || (decide (a = w) && decide (b < v))) && R a b
def o69_ (M M' : mm_M) : Prop := (∀ a b, a ≠ 69 → M'.1 a b = M.1 a b) ∧ M'.2 = M.2
theorem o69_.refl : o69_ M M := ⟨fun _ _ _ => rfl, rfl⟩
theorem o69_.trans {M1 M2 : mm_M} (h1 : o69_ M M1) (h2 : o69_ M1 M2) : o69_ M M2 := ⟨fun a b h => (h2.1 a b h).trans (h1.1 a b h), h2.2.trans h1.2⟩
/-- tails that class and words have -/
def lkt_ (S : sg_) (ls : List Nat) (M : mm_M) : Prop := ∀ w, w < S 0 8 → M.2.1 68 w = Int64.ofNat (te_ S (sa_l S ls (wd_w S w)))
def lkR_ (S : sg_) (ls : List Nat) (a b : Nat) : Bool := rh_ S (sa_l S ls (wd_w S a)) (sa_l S ls (wd_w S b))
theorem k_lk_i (hw : wf_ S) {ls : List Nat} (hls : ∀ l, l ∈ ls → l < S 0 11) {G : Nat → Nat → Nat} {w : Nat} {q36 : Int32 → mm_M → Option mm_M} {Q : mm_M → Prop} {M0 : mm_M}
    (hQ : ∀ M', o69_ M0 M' → lkg_ S G (lkc_ (lkR_ S ls) (w + 1) 0) M' → wp_ (q36 (Int32.ofNat (w + 1)) M') Q) (hwN : w < S 0 8) (h52 : M0.1 5 2 = Int32.ofNat (S 0 8)) (ht : lkt_ S ls M0) :
    ∀ (e v n : Nat) (M : mm_M), v + e = S 0 8 → e < n → w < v → o69_ M0 M → lkg_ S G (lkc_ (lkR_ S ls) w v) M →
    wp_ (f_X11_countPairsOn_51l q36 n (Int32.ofNat w) (Int32.ofNat v) M) Q := by
  have h20 := hw.words
  have e1w : Int32.ofNat w + 1 = Int32.ofNat (w + 1) := n3_add w 1
  have oks : ∀ u, u < S 0 8 → ok_ (sa_l S ls (wd_w S u)) := fun u hu => sa_ok hw _ _ hls (wd_ok hw hu)
  intro e
  induction e with
  | zero =>
    intro v n M hv hn hwv ho hg
    obtain ⟨m, rfl⟩ : ∃ m, n = m + 1 := ⟨n - 1, by omega⟩
    unfold f_X11_countPairsOn_51l f_X11_countPairsOn_51 f_X11_countPairsOn_110
    rw [ho.1 5 2 (by omega), h52, if_pos ((n3_le (by omega) (by omega)).mpr (by omega))]
    refine wp_sr ?_
    rw [e1w]
    refine hQ M ho (hg.cg (fun a b h1 h2 => ?_))
    unfold lkc_
    congr 1
    by_cases c1 : a < w
    · rw [decide_eq_true c1, decide_eq_true (show a < w + 1 by omega)]; rfl
    · by_cases c2 : a = w
      · rw [decide_eq_true c2, decide_eq_true (show a < w + 1 by omega), decide_eq_true (show b < v by omega)]; simp
      · rw [decide_eq_false c1, decide_eq_false c2, decide_eq_false (show ¬ (a < w + 1) by omega), decide_eq_false (show ¬ (b < 0) by omega)]; simp
  | succ e ih =>
    intro v n M hv hn hwv ho hg
    obtain ⟨m, rfl⟩ : ∃ m, n = m + 1 := ⟨n - 1, by omega⟩
    have e1 : Int32.ofNat v + 1 = Int32.ofNat (v + 1) := n3_add v 1
    have hvN : v < S 0 8 := by omega
    have hixw : ix_ok (Int32.ofNat w) 20 := (n3_ix (by omega)).mpr (by omega)
    have hixv : ix_ok (Int32.ofNat v) 20 := (n3_ix (by omega)).mpr (by omega)
    have l1 := te_lt (S := S) (oks w hwN)
    have l2 := te_lt (S := S) (oks v hvN)
    have epr : Int32.ofNat w * 20 + Int32.ofNat v = Int32.ofNat (w * 20 + v) := by
      show Int32.ofNat w * Int32.ofNat 20 + _ = _
      rw [n3_mul, n3_add]
    have hixp : ix_ok (Int32.ofNat (w * 20 + v)) 400 := (n3_ix (by omega)).mpr (by omega)
    unfold f_X11_countPairsOn_51l f_X11_countPairsOn_51 f_X11_countPairsOn_110 f_X11_countPairsOn_104
    rw [ho.1 5 2 (by omega), h52, if_neg (by rw [n3_le (by omega) (by omega)]; omega)]
    refine wp_ck hixw ?_
    simp only [n3_tn (show w < 2147483648 by omega), n3_tn (show v < 2147483648 by omega), epr, n3_tn (show w * 20 + v < 2147483648 by omega)]
    rw [ho.2, ht w hwN, ht v hvN]
    by_cases c0 : tl_ S (sa_l S ls (wd_w S w)) = []
    · rw [if_pos (by rw [te_0.mpr c0]; rfl)]
      refine wp_sr ?_
      rw [e1w]
      refine hQ M ho (hg.cg (fun a b h1 h2 => ?_))
      unfold lkc_
      by_cases c2 : a = w
      · have hR : lkR_ S ls a b = false := by
          unfold lkR_ rh_
          rw [c2]
          exact decide_eq_false (fun hh => hh.1 c0)
        rw [hR, Bool.and_false, Bool.and_false]
      · congr 1
        rw [decide_eq_false c2, decide_eq_false (show ¬ (b < 0) by omega), Bool.and_false, Bool.false_and, Bool.or_false, Bool.or_false]
        apply decide_eq_decide.mpr
        omega
    · rw [if_neg (by rw [n6_nz (by omega), te_0]; exact c0)]
      refine wp_ck hixw (wp_ck hixv ?_)
      have hRe : lkR_ S ls w v = decide (tl_ S (sa_l S ls (wd_w S w)) = tl_ S (sa_l S ls (wd_w S v))) := by
        unfold lkR_ rh_
        apply decide_eq_decide.mpr
        exact ⟨fun hh => hh.2, fun hh => ⟨c0, hh⟩⟩
      by_cases c1 : tl_ S (sa_l S ls (wd_w S w)) = tl_ S (sa_l S ls (wd_w S v))
      · rw [decide_eq_true c1] at hRe
        rw [if_pos (by rw [(te_inj (oks w hwN) (oks v hvN)).mpr c1])]
        refine wp_ck hixp (wp_ck hixp (wp_sr (wp_sr ?_)))
        rw [e1]
        refine ih (v + 1) m _ (by omega) (by omega) (by omega) (ho.trans ⟨fun a b hab => by rw [si_1, if_neg (by omega)], rfl⟩) ?_
        intro a b h1 h2
        rw [si_1]
        by_cases c2 : a = w ∧ b = v
        · obtain ⟨rfl, rfl⟩ := c2
          rw [if_pos ⟨rfl, rfl⟩, hg a b h1 h2]
          have z1 : lkc_ (lkR_ S ls) a b a b = false := by
            unfold lkc_
            rw [decide_eq_false (show ¬ (a < a) by omega), decide_eq_false (show ¬ (b < b) by omega)]; simp
          have z2 : lkc_ (lkR_ S ls) a (b + 1) a b = true := by
            unfold lkc_
            rw [hRe, decide_eq_true (show a = a from rfl), decide_eq_true (show b < b + 1 by omega)]; simp
          rw [z1, z2, if_neg (by decide), if_pos rfl]
          exact n3_add _ 1
        · rw [if_neg (by omega), hg a b h1 h2]
          have : lkc_ (lkR_ S ls) w (v + 1) a b = lkc_ (lkR_ S ls) w v a b := by
            unfold lkc_
            congr 2
            by_cases c3 : a = w
            · congr 1
              apply decide_eq_decide.mpr
              omega
            · rw [decide_eq_false c3]; rfl
          rw [this]
      · rw [decide_eq_false c1] at hRe
        rw [if_neg (fun hh => c1 ((te_inj (oks w hwN) (oks v hvN)).mp ((n6_eq (by omega) (by omega)).mp hh)))]
        refine wp_sr ?_
        rw [e1]
        refine ih (v + 1) m M (by omega) (by omega) (by omega) ho (hg.cg (fun a b h1 h2 => ?_))
        by_cases c2 : a = w ∧ b = v
        · obtain ⟨rfl, rfl⟩ := c2
          unfold lkc_
          rw [hRe, Bool.and_false, Bool.and_false]
        · unfold lkc_
          congr 2
          by_cases c3 : a = w
          · congr 1
            apply decide_eq_decide.mpr
            omega
          · rw [decide_eq_false c3]; rfl
theorem k_lk_o (hw : wf_ S) {ls : List Nat} (hls : ∀ l, l ∈ ls → l < S 0 11) {G : Nat → Nat → Nat} {M0 : mm_M} (h52 : M0.1 5 2 = Int32.ofNat (S 0 8)) (ht : lkt_ S ls M0) :
    ∀ (e w n : Nat) (M : mm_M), w + e = S 0 8 → e < n → o69_ M0 M → lkg_ S G (lkc_ (lkR_ S ls) w 0) M →
    wp_ (f_X11_countPairsOn_36l n (Int32.ofNat w) M) (fun z => o69_ M0 z ∧ lkg_ S G (lkR_ S ls) z) := by
  have h20 := hw.words
  intro e
  induction e with
  | zero =>
    intro w n M hk hn ho hg
    obtain ⟨m, rfl⟩ : ∃ m, n = m + 1 := ⟨n - 1, by omega⟩
    unfold f_X11_countPairsOn_36l f_X11_countPairsOn_36
    rw [ho.1 5 2 (by omega), h52, if_pos ((n3_le (by omega) (by omega)).mpr (by omega))]
    refine wp_some ⟨ho, hg.cg (fun a b h1 h2 => ?_)⟩
    unfold lkc_
    rw [decide_eq_true (show a < w by omega)]; simp
  | succ e ih =>
    intro w n M hk hn ho hg
    obtain ⟨m, rfl⟩ : ∃ m, n = m + 1 := ⟨n - 1, by omega⟩
    unfold f_X11_countPairsOn_36l f_X11_countPairsOn_36
    rw [ho.1 5 2 (by omega), h52, if_neg (by rw [n3_le (by omega) (by omega)]; omega)]
    refine wp_sr ?_
    rw [show Int32.ofNat w + 1 = Int32.ofNat (w + 1) from n3_add w 1]
    refine k_lk_i hw hls (fun M' ho' hg' => ih (w + 1) m M' (by omega) (by omega) ho' hg') (by omega) h52 ht (S 0 8 - (w + 1)) (w + 1) fu_ M (by omega) (by unfold fu_; omega) (by omega) ho (hg.cg (fun a b h1 h2 => ?_))
    unfold lkc_
    congr 2
    by_cases c : a = w
    · rw [decide_eq_false (show ¬ (b < w + 1) by omega), decide_eq_false (show ¬ (b < 0) by omega)]
    · rw [decide_eq_false c, Bool.false_and, Bool.false_and]
theorem k_lk_on (hw : wf_ S) {W d : Nat} {pt : Nat → List Nat} {G : Nat → Nat → Nat} (hI : ic_ S M) (htc : tc_ S M W pt) (hd : d < W) (hg : lkg_ S G (fun _ _ => false) M) :
    wp_ (f_X11_countPairsOn (Int32.ofNat d) M) (fun z => fk_ (fun a _ => a = 69) (fun a => a = 68) M z ∧ tc_ S z W pt ∧ lkg_ S G (lkR_ S (pt d)) z) := by
  have h20 := hw.words
  have h6 := hw.laws
  have key : ∀ (e k n : Nat) (M' : mm_M), k + e = S 0 8 → e < n → ic_ S M' → tc_ S M' W pt → M'.1 = M.1 → fk_ (fun a _ => a = 69) (fun a => a = 68) M M' → (∀ w, w < k → M'.2.1 68 w = Int64.ofNat (te_ S (sa_l S (pt d) (wd_w S w)))) →
      wp_ (f_X11_countPairsOn_2l n (Int32.ofNat d) (Int32.ofNat k) M') (fun z => fk_ (fun a _ => a = 69) (fun a => a = 68) M z ∧ tc_ S z W pt ∧ lkg_ S G (lkR_ S (pt d)) z) := by
    intro e
    induction e with
    | zero =>
      intro k n M' hk hn hI' ht' hm1 hfk htl
      obtain ⟨m, rfl⟩ : ∃ m, n = m + 1 := ⟨n - 1, by omega⟩
      have hkk : k = S 0 8 := by omega
      unfold f_X11_countPairsOn_2l f_X11_countPairsOn_2 f_X11_countPairsOn_34
      rw [hI'.words, if_pos ((n3_le (by omega) (by omega)).mpr (by omega))]
      rw [hkk] at htl
      refine wp_mo (k_lk_o (ls := pt d) (G := G) hw (fun l hl => htc.lt d hd l hl) hI'.words htl (S 0 8) 0 fu_ M' (by omega) (by unfold fu_; omega) o69_.refl ?_) (fun z hz => ⟨?_, ?_, hz.2⟩)
      · intro a b h1 h2
        rw [hm1, hg a b h1 h2]
        congr 2
        unfold lkc_
        rw [decide_eq_false (show ¬ (a < 0) by omega), decide_eq_false (show ¬ (b < 0) by omega)]; simp
      · exact hfk.trans ⟨fun a b _ _ h => hz.1.1 a b h, fun a _ _ => by rw [hz.1.2]⟩
      · exact ht'.fr (hz.1.1 5 4 (by omega)) (by funext b; exact hz.1.1 70 b (by omega)) (by rw [hz.1.2]) (by rw [hz.1.2])
    | succ e ih =>
      intro k n M' hk hn hI' ht' hm1 hfk htl
      obtain ⟨m, rfl⟩ : ∃ m, n = m + 1 := ⟨n - 1, by omega⟩
      have e1 : Int32.ofNat k + 1 = Int32.ofNat (k + 1) := n3_add k 1
      unfold f_X11_countPairsOn_2l f_X11_countPairsOn_2
      rw [hI'.words, if_neg (by rw [n3_le (by omega) (by omega)]; omega)]
      refine wp_be (c_tailOn ht' hI' hw hd (show k < S 0 8 by omega)) (wp_ck ((n3_ix (by omega)).mpr (by omega)) (wp_sr (wp_sr ?_)))
      rw [n3_tn (by omega), e1]
      have hf2 : fk_ (fun a _ => a = 69) (fun a => a = 68) M' (mm_sl M' 68 k (Int64.ofNat (te_ S (sa_l S (pt d) (wd_w S k))))) := fk_sl rfl
      refine ih (k + 1) m _ (by omega) (by omega) (hf2.ic hw hI' (fun a b hab => by unfold pc_; omega) (by omega)) (ht'.sl (by omega)) hm1 (hfk.trans hf2) ?_
      intro w hw2
      rw [sl_2]
      by_cases c : w = k
      · rw [if_pos ⟨rfl, c⟩, c]
      · rw [if_neg (by simp [c])]; exact htl w (by omega)
  exact key (S 0 8) 0 fu_ M (by omega) (by unfold fu_; omega) hI htc rfl fk_.refl (fun w hw2 => by omega)
theorem k_fill : wp_ (f_J7_fill_53178 (0 : Int32) M) (fun z => o69_ M z ∧ ∀ i, i < 400 → z.1 69 i = 0) := by
  have key : ∀ (e k n : Nat) (M' : mm_M), k + e = 400 → e < n → o69_ M M' → (∀ i, i < k → M'.1 69 i = 0) → wp_ (f_J7_fill_53178_5l n 0 (Int32.ofNat k) (400 : Int32) M') (fun z => o69_ M z ∧ ∀ i, i < 400 → z.1 69 i = 0) := by
    intro e
    induction e with
    | zero =>
      intro k n M' hk hn ho hz
      obtain ⟨m, rfl⟩ : ∃ m, n = m + 1 := ⟨n - 1, by omega⟩
      have hkk : k = 400 := by omega
      unfold f_J7_fill_53178_5l f_J7_fill_53178_5
      rw [if_pos (show (400 : Int32) ≤ Int32.ofNat k from (n3_le (a := 400) (by omega) (by omega)).mpr (by omega))]
      rw [hkk] at hz
      exact wp_some ⟨ho, hz⟩
    | succ e ih =>
      intro k n M' hk hn ho hz
      obtain ⟨m, rfl⟩ : ∃ m, n = m + 1 := ⟨n - 1, by omega⟩
      have e1 : Int32.ofNat k + 1 = Int32.ofNat (k + 1) := n3_add k 1
      unfold f_J7_fill_53178_5l f_J7_fill_53178_5
      rw [if_neg (show ¬ ((400 : Int32) ≤ Int32.ofNat k) from fun hh => by have := (n3_le (a := 400) (by omega) (by omega)).mp hh; omega)]
      refine wp_ck ((n3_ix (by omega)).mpr (by omega)) (wp_sr (wp_sr ?_))
      rw [n3_tn (by omega), e1]
      refine ih (k + 1) m _ (by omega) (by omega) (ho.trans ⟨fun a b hab => by rw [si_1, if_neg (by omega)], rfl⟩) ?_
      intro i hi
      rw [si_1]
      by_cases c : i = k
      · rw [if_pos ⟨rfl, c⟩]
      · rw [if_neg (by simp [c])]; exact hz i (by omega)
  exact key 400 0 fu_ M (by omega) (by unfold fu_; omega) o69_.refl (fun i hi => by omega)
end WE1
