/-! CALLS: span, order, wrong, blunder -/
section UG1
variable {S : sg_} {M Mc Mr : mm_M} {vs : List Nat} {nv : Nat → Bool} {W : Nat} {pt : Nat → List Nat}
/-- the lesser (0), or the greater: none is -2 -/
def fu2_ (what : Nat) (b : Option Nat) (y : Nat) : Option Nat := match b with
  | none => some y
  | some x => some (if what = 0 then (if y < x then y else x) else (if x < y then y else x))
def o2_ (b : Option Nat) : Int32 := match b with
  | none => -2
  | some x => Int32.ofNat x
theorem o2_further {what y : Nat} (hwh : what < 2) {b : Option Nat} (hb : ∀ x, b = some x → x < 1000) (hy : y < 1000) : f_X11_further (o2_ b) (Int32.ofNat y) (Int32.ofNat what) = o2_ (fu2_ what b y) := by
  unfold f_X11_further
  have hw0 : (Int32.ofNat what = 0) ↔ what = 0 := n3_eq (b := 0) (by omega) (by omega)
  cases b with
  | none => rw [if_pos (show o2_ none = -2 from rfl)]; rfl
  | some x =>
    have hx := hb x rfl
    have h2 : ¬ (Int32.ofNat x = -2) := by
      intro h
      have h1 := congrArg Int32.toInt h
      rw [n3_ti (by omega)] at h1
      have h3 : Int32.toInt (-2) = -2 := by decide
      omega
    show (if Int32.ofNat x = -2 then _ else _) = Int32.ofNat (if what = 0 then (if y < x then y else x) else (if x < y then y else x))
    rw [if_neg h2]
    by_cases c : what = 0
    · rw [if_pos (hw0.mpr c), if_pos c]
      by_cases c2 : y < x
      · rw [if_pos c2, if_pos (show Int32.ofNat y < o2_ (some x) from (n3_lt (by omega) (by omega)).mpr c2)]
      · rw [if_neg c2, if_neg (by show ¬ (_ < Int32.ofNat x); rw [n3_lt (by omega) (by omega)]; exact c2)]; rfl
    · rw [if_neg (fun h => c (hw0.mp h)), if_neg c]
      by_cases c2 : x < y
      · rw [if_pos c2, if_pos (by show Int32.ofNat x < _; exact (n3_lt (by omega) (by omega)).mpr c2)]
      · rw [if_neg c2, if_neg (by show ¬ (Int32.ofNat x < _); rw [n3_lt (by omega) (by omega)]; exact c2)]; rfl
theorem o2_nn {b : Option Nat} (hb : ∀ x, b = some x → x < 1000) : (0 ≤ o2_ b) ↔ ∃ x, b = some x := by
  cases b with
  | none => constructor <;> intro h
            · exact absurd h (by decide)
            · obtain ⟨x, hx⟩ := h; cases hx
  | some x =>
    have hx := hb x rfl
    constructor
    · intro _; exact ⟨x, rfl⟩
    · intro _; show Int32.ofNat 0 ≤ Int32.ofNat x; rw [n3_le (by omega) (by omega)]; omega
theorem fu2_lt {what y : Nat} {b : Option Nat} (hb : ∀ x, b = some x → x < 1000) (hy : y < 1000) : ∀ x, fu2_ what b y = some x → x < 1000 := by
  intro x hx
  cases b with
  | none => cases hx; exact hy
  | some z =>
    have hz := hb z rfl
    have hx2 : (if what = 0 then (if y < z then y else z) else (if z < y then y else z)) = x := Option.some.inj hx
    rw [← hx2]
    split <;> split <;> assumption
def sp_ (S : sg_) (what l : Nat) (hs : List Nat) : Option Nat := hs.foldl (fun b h => fu2_ what b (yr_ S l h)) none
theorem sp_s {what l h : Nat} {hs : List Nat} : sp_ S what l (hs ++ [h]) = fu2_ what (sp_ S what l hs) (yr_ S l h) := by
  unfold sp_
  rw [List.foldl_append]; rfl
theorem sp_lt (hw : wf_ S) {what l : Nat} (hl : l < S 0 11) (hs : List Nat) : ∀ x, sp_ S what l hs = some x → x < 1000 := by
  have : ∀ n (hs : List Nat), hs.length = n → ∀ x, sp_ S what l hs = some x → x < 1000 := by
    intro n
    induction n with
    | zero =>
      intro hs h0 x hx
      rw [List.length_eq_zero_iff.mp h0] at hx; cases hx
    | succ n ih =>
      intro hs h1
      rcases List.eq_nil_or_concat hs with hh | ⟨pr, a, hh⟩
      · rw [hh] at h1; simp at h1
      · rw [List.concat_eq_append] at hh
        subst hh
        rw [sp_s]
        have := yr_le (h := a) hw hl
        exact fu2_lt (ih pr (by simpa using h1)) (by omega)
  exact this hs.length hs rfl
theorem k_span_l (hw : wf_ S) {l what : Nat} (hl : l < S 0 11) (hwh : what < 2) (h : cs_ S vs M) (hk : hl_ S M) : ∀ (e k n : Nat), k + e = hs_ S → e < n →
    wp_ (f_X11_span_31l n (Int32.ofNat l) (Int32.ofNat what) (o2_ (sp_ S what l (fl_ S no_ k))) (Int32.ofNat k) M) (fun z => z.1 = o2_ (sp_ S what l (fl_ S no_ (hs_ S))) ∧ cs_ S vs z.2) := by
  have h600 := hw.hist
  intro e
  induction e with
  | zero =>
    intro k n hk2 hn
    obtain ⟨m, rfl⟩ : ∃ m, n = m + 1 := ⟨n - 1, by omega⟩
    have hkk : k = hs_ S := by omega
    unfold f_X11_span_31l f_X11_span_31
    rw [h.2.1.hs, if_pos ((n3_le (by omega) (by omega)).mpr (by omega)), hkk]
    exact wp_some ⟨rfl, h⟩
  | succ e ih =>
    intro k n hk2 hn
    obtain ⟨m, rfl⟩ : ∃ m, n = m + 1 := ⟨n - 1, by omega⟩
    have e1 : Int32.ofNat k + 1 = Int32.ofNat (k + 1) := n3_add k 1
    have go := ih (k + 1) m (by omega) (by omega)
    rw [fl_s] at go
    unfold f_X11_span_31l f_X11_span_31 f_X11_span_71
    rw [h.2.1.hs, if_neg (by rw [n3_le (by omega) (by omega)]; omega)]
    refine wp_be (c_fits h.2.1 hw hk (show k < hs_ S by omega)) ?_
    cases hb : ft_ S k with
    | false =>
      rw [if_pos (by decide)]
      refine wp_sr ?_
      rw [e1]
      rw [if_neg (by rw [show ft_n S no_ k = ft_ S k from rfl, hb]; decide), List.append_nil] at go
      exact go
    | true =>
      rw [if_neg (by decide)]
      rw [if_pos (show ft_n S no_ k = true from hb), sp_s] at go
      refine wp_be (c_yearOf h.2.1 hw (show k < hs_ S by omega) hl) (wp_sr (wp_sr ?_))
      have hy := yr_le (h := k) hw hl
      rw [e1, o2_further hwh (sp_lt hw hl _) (by omega)]
      exact go
theorem q_span_l (hw : wf_ S) {l what : Nat} (hl : l < S 0 11) (hwh : what < 2) (h : rt_ S no_ vs M) {fl : List Nat} (hf : ∀ x, x ∈ fl → x < 600) (hfl : fl.length ≤ 600) (hg : ga_ M fl) : ∀ (rest pre : List Nat) (n : Nat), fl = pre ++ rest → rest.length < n →
    wp_ (f_X12_span_35l n (Int32.ofNat l) (Int32.ofNat what) (o2_ (sp_ S what l pre)) (Int32.ofNat pre.length) M) (fun z => z.1 = o2_ (sp_ S what l fl) ∧ rt_ S no_ vs z.2) := by
  intro rest
  induction rest with
  | nil =>
    intro pre n e1 hn
    obtain ⟨m, rfl⟩ : ∃ m, n = m + 1 := ⟨n - 1, by omega⟩
    rw [List.append_nil] at e1
    subst e1
    unfold f_X12_span_35l f_X12_span_35
    rw [hg.1, if_pos (Int32.le_refl _)]
    exact wp_some ⟨rfl, h⟩
  | cons a rest ih =>
    intro pre n e1 hn
    obtain ⟨m, rfl⟩ : ∃ m, n = m + 1 := ⟨n - 1, by omega⟩
    have hlen : fl.length = pre.length + (rest.length + 1) := by rw [e1]; simp
    have ha := hf a (by rw [e1]; simp)
    have hy := yr_le (h := a) hw hl
    have hsp := sp_lt (what := what) hw hl pre
    have e3 : Int32.ofNat pre.length + 1 = Int32.ofNat (pre ++ [a]).length := by
      rw [show (pre ++ [a]).length = pre.length + 1 from by simp]; exact n3_add _ 1
    have hw0 : (Int32.ofNat what = 0) ↔ what = 0 := n3_eq (b := 0) (by omega) (by omega)
    unfold f_X12_span_35l f_X12_span_35 f_X12_span_86
    rw [hg.1, if_neg (by rw [n3_le (by omega) (by omega)]; omega)]
    refine wp_ck ((n3_ix (by omega)).mpr (by omega)) ?_
    rw [n3_tn (by omega), hg.2 pre.length a (by rw [e1]; simp)]
    refine wp_be (r_yr h.1.1 hw hl (by omega)) ?_
    have go : ∀ t, t = o2_ (sp_ S what l (pre ++ [a])) → wp_ (sq_ (Int32.ofNat pre.length + 1) fun y12 => f_X12_span_35l m (Int32.ofNat l) (Int32.ofNat what) t y12 M) (fun z => z.1 = o2_ (sp_ S what l fl) ∧ rt_ S no_ vs z.2) := by
      intro t ht
      refine wp_sr ?_
      rw [e3, ht]
      exact ih (pre ++ [a]) m (by rw [e1]; simp) (by simp at hn; omega)
    have hfu := o2_further hwh hsp (show yr_ S l a < 1000 by omega)
    rw [← sp_s] at hfu
    unfold f_X11_further at hfu
    by_cases c : 0 ≤ o2_ (sp_ S what l pre)
    · rw [if_pos c]
      have hn2 : ¬ (o2_ (sp_ S what l pre) = -2) := fun h => by rw [h] at c; exact absurd c (by decide)
      rw [if_neg hn2] at hfu
      by_cases c2 : what = 0
      · rw [if_pos (hw0.mpr c2)] at hfu ⊢
        exact go _ hfu
      · rw [if_neg (fun h => c2 (hw0.mp h))] at hfu ⊢
        exact go _ hfu
    · rw [if_neg c]
      have hn2 : o2_ (sp_ S what l pre) = -2 := by
        cases hs2 : sp_ S what l pre with
        | none => rfl
        | some x => exact absurd ((o2_nn hsp).mpr ⟨x, hs2⟩) c
      rw [if_pos hn2] at hfu
      exact go _ hfu
theorem m_span (h : rl_ Mc Mr) (x1 x2 : Int32) : bo_ (f_X11_span x1 x2 Mc) (f_X12_span x1 x2 Mr) := by
  obtain ⟨S, vs, hw, hv, hc, hr⟩ := h
  have hr1 := hr.th
  have hrl : rl_ Mc (mm_si Mr 0 0 0) := ⟨S, vs, hw, hv, hc, hr1⟩
  have h600 := hw.hist
  have hL := hw.laws
  unfold f_X11_span f_X12_span
  rw [sq_n (x := mm_si Mr 0 0 0), c_isLaw hc.2.1 hw, r_isLaw hr1.1.1 hw, show (2 : Int32) = Int32.ofNat 2 from rfl, c_bl (by omega), show (1 : Int64) = Int64.ofNat 1 from rfl, r_in0 (by omega)]
  refine bo_g hrl (fun b1 => bo_g hrl (fun b2 => ?_))
  obtain ⟨l, rfl, hl⟩ := lt_nat b1 (by omega)
  obtain ⟨what, rfl, hwh⟩ := lt_nat b2 (by omega)
  have hll := fl_len (S := S) (nv := no_) (k := hs_ S)
  refine bo_mk (A := o2_ (sp_ S what l (fl_ S no_ (hs_ S)))) hw hv ?_ ?_
  · refine wp_bd (wp_mo (hc.look hw) (fun z hz => ?_))
    exact k_span_l hw hl hwh hz.1 hz.2.1 (hs_ S) 0 fu_ (by omega) (by unfold fu_; omega)
  · refine wp_bd (wp_mo (q_gath hr1.1 hw) (fun z hz => ?_))
    exact q_span_l hw hl hwh (hr1.ga hz.1) (fun x hx => by have := (fl_mem hx).1; omega) (by omega) hz.2 (fl_ S no_ (hs_ S)) [] fu_ rfl (by unfold fu_; omega)
/-! order -/
def lx_ (S : sg_) (h a b : Nat) : Prop := yr_ S a h < yr_ S b h ∨ (yr_ S a h = yr_ S b h ∧ a < b)
theorem or_lx (h : Nat) : (or_ S h).Pairwise (lx_ S h) := by
  unfold or_
  generalize S 0 11 = n
  induction n with
  | zero => exact List.Pairwise.nil
  | succ n ih =>
    unfold od_
    rw [if_pos rfl]
    have hlt : ∀ x, x ∈ od_ (fun l => yr_ S l h) (fun _ => true) n → x < n := fun x hx => ((od_mem n).mp hx).1
    have hsr : sr_ (fun l => yr_ S l h) (od_ (fun l => yr_ S l h) (fun _ => true) n) := od_sr n
    obtain ⟨pre, suf, h1, h2, h3⟩ := in_s_split (l := n) _ hsr
    rw [h1] at ih hlt ⊢
    rw [in_s_app h3 pre h2]
    rw [List.pairwise_append] at ih ⊢
    refine ⟨ih.1, List.pairwise_cons.mpr ⟨fun x hx => Or.inl (h3 x hx), ih.2.1⟩, ?_⟩
    intro x hx y hy
    rw [List.mem_cons] at hy
    rcases hy with hy | hy
    · rw [hy]
      have a1 : yr_ S x h ≤ yr_ S n h := h2 x hx
      have a2 := hlt x (by simp [hx])
      unfold lx_; omega
    · exact ih.2.2 x hx y hy
theorem or_pos {h a b t u : Nat} (ha : (or_ S h)[t]? = some a) (hb : (or_ S h)[u]? = some b) (hne : a ≠ b) : t < u ↔ lx_ S h a b := by
  have hp := or_lx (S := S) h
  rw [List.pairwise_iff_getElem] at hp
  have ht := lt_of_some ha
  have hu := lt_of_some hb
  rw [List.getElem?_eq_getElem ht] at ha
  rw [List.getElem?_eq_getElem hu] at hb
  have ea := Option.some.inj ha
  have eb := Option.some.inj hb
  constructor
  · intro htu
    have := hp t u ht hu htu
    rw [ea, eb] at this
    exact this
  · intro hlx
    rcases Nat.lt_trichotomy t u with h1 | h1 | h1
    · exact h1
    · subst h1
      exact absurd (ea.symm.trans eb) hne
    · have := hp u t hu ht h1
      rw [ea, eb] at this
      unfold lx_ at this hlx
      omega
def nl_ (f : Nat → Bool) (hs : List Nat) : Nat := (hs.filter f).length
theorem nl_s {f : Nat → Bool} {hs : List Nat} {h : Nat} : nl_ f (hs ++ [h]) = nl_ f hs + (if f h = true then 1 else 0) := by
  unfold nl_
  rw [List.filter_append, List.length_append, List.filter_cons, List.filter_nil]
  split <;> rfl
theorem nl_le {f : Nat → Bool} {hs : List Nat} : nl_ f hs ≤ hs.length := List.length_filter_le _ _
def lxb_ (S : sg_) (a b h : Nat) : Bool := decide (yr_ S a h < yr_ S b h) || (decide (yr_ S a h = yr_ S b h) && decide (a < b))
theorem lxb_iff {a b h : Nat} : lxb_ S a b h = true ↔ lx_ S h a b := by
  unfold lxb_ lx_
  simp
def od2_ (n k : Nat) : Int32 := if n = 0 then -2 else if k = n then 1 else if k = 0 then 2 else 0
theorem k_order_l (hw : wf_ S) {a b : Nat} (ha : a < S 0 11) (hb : b < S 0 11) (hne : a ≠ b) (h : cs_ S vs M) (hk : hl_ S M) : ∀ (e k n : Nat), k + e = hs_ S → e < n →
    wp_ (f_X11_order_38l n (Int32.ofNat a) (Int32.ofNat b) (Int32.ofNat (fl_ S no_ k).length) (Int32.ofNat (nl_ (lxb_ S a b) (fl_ S no_ k))) (Int32.ofNat k) M) (fun z => z.1 = od2_ (fl_ S no_ (hs_ S)).length (nl_ (lxb_ S a b) (fl_ S no_ (hs_ S))) ∧ cs_ S vs z.2) := by
  have h600 := hw.hist
  have hL := hw.laws
  intro e
  induction e with
  | zero =>
    intro k n hk2 hn
    obtain ⟨m, rfl⟩ : ∃ m, n = m + 1 := ⟨n - 1, by omega⟩
    have hkk : k = hs_ S := by omega
    have l1 := fl_len (S := S) (nv := no_) (k := hs_ S)
    have l2 := nl_le (f := lxb_ S a b) (hs := fl_ S no_ (hs_ S))
    unfold f_X11_order_38l f_X11_order_38 f_X11_order_104 od2_
    rw [h.2.1.hs, if_pos ((n3_le (by omega) (by omega)).mpr (by omega)), hkk]
    have z0 : ∀ x, x < 1000 → ((Int32.ofNat x = 0) ↔ x = 0) := fun x hx => n3_eq (b := 0) (by omega) (by omega)
    by_cases c1 : (fl_ S no_ (hs_ S)).length = 0
    · rw [if_pos ((z0 _ (by omega)).mpr c1), if_pos c1]; exact wp_some ⟨rfl, h⟩
    · rw [if_neg (fun hh => c1 ((z0 _ (by omega)).mp hh)), if_neg c1]
      by_cases c2 : nl_ (lxb_ S a b) (fl_ S no_ (hs_ S)) = (fl_ S no_ (hs_ S)).length
      · rw [if_pos (by rw [c2]), if_pos c2]; exact wp_some ⟨rfl, h⟩
      · rw [if_neg (by rw [n3_eq (by omega) (by omega)]; exact c2), if_neg c2]
        by_cases c3 : nl_ (lxb_ S a b) (fl_ S no_ (hs_ S)) = 0
        · rw [if_pos ((z0 _ (by omega)).mpr c3), if_pos c3]; exact wp_some ⟨rfl, h⟩
        · rw [if_neg (fun hh => c3 ((z0 _ (by omega)).mp hh)), if_neg c3]; exact wp_some ⟨rfl, h⟩
  | succ e ih =>
    intro k n hk2 hn
    obtain ⟨m, rfl⟩ : ∃ m, n = m + 1 := ⟨n - 1, by omega⟩
    have e1 : Int32.ofNat k + 1 = Int32.ofNat (k + 1) := n3_add k 1
    have go := ih (k + 1) m (by omega) (by omega)
    rw [fl_s] at go
    unfold f_X11_order_38l f_X11_order_38 f_X11_order_98
    rw [h.2.1.hs, if_neg (by rw [n3_le (by omega) (by omega)]; omega)]
    refine wp_be (c_fits h.2.1 hw hk (show k < hs_ S by omega)) ?_
    cases hb2 : ft_ S k with
    | false =>
      rw [if_pos (by decide)]
      refine wp_sr ?_
      rw [e1]
      rw [if_neg (by rw [show ft_n S no_ k = ft_ S k from rfl, hb2]; decide), List.append_nil] at go
      exact go
    | true =>
      rw [if_neg (by decide)]
      rw [if_pos (show ft_n S no_ k = true from hb2), nl_s, List.length_append] at go
      obtain ⟨t, t1, t2, t3⟩ := c_turn h.2.1 hw (show k < hs_ S by omega) ha
      obtain ⟨u, u1, u2, u3⟩ := c_turn h.2.1 hw (show k < hs_ S by omega) hb
      refine wp_sr (wp_be t1 (wp_be u1 ?_))
      have e2 : Int32.ofNat (fl_ S no_ k).length + 1 = Int32.ofNat ((fl_ S no_ k).length + 1) := n3_add _ 1
      have hpos := or_pos t2 u2 hne
      rw [← lxb_iff] at hpos
      unfold f_X11_order_95 f_X11_order_98
      by_cases c : t < u
      · rw [if_neg (by rw [n3_le (by omega) (by omega)]; omega)]
        refine wp_sr (wp_sr ?_)
        rw [e1, e2, show (1 : Int32) = Int32.ofNat 1 from rfl, n3_add]
        rw [if_pos (hpos.mp c)] at go
        exact go
      · rw [if_pos ((n3_le (by omega) (by omega)).mpr (by omega))]
        refine wp_sr (wp_sr ?_)
        rw [e1, e2, show (0 : Int32) = Int32.ofNat 0 from rfl, n3_add]
        rw [if_neg (fun hh => c (hpos.mpr hh))] at go
        exact go
theorem q_order_l (hw : wf_ S) {a b : Nat} (ha : a < S 0 11) (hb : b < S 0 11) (h : rt_ S no_ vs M) {fl : List Nat} (hf : ∀ x, x ∈ fl → x < 600) (hfl : fl.length ≤ 600) (hg : ga_ M fl) : ∀ (rest pre : List Nat) (n : Nat), fl = pre ++ rest → rest.length < n →
    wp_ (f_X12_order_37l n (Int32.ofNat a) (Int32.ofNat b) (Int32.ofNat (nl_ (lxb_ S a b) pre)) (Int32.ofNat pre.length) M) (fun z => z.1 = od2_ fl.length (nl_ (lxb_ S a b) fl) ∧ rt_ S no_ vs z.2) := by
  have hL := hw.laws
  intro rest
  induction rest with
  | nil =>
    intro pre n e1 hn
    obtain ⟨m, rfl⟩ : ∃ m, n = m + 1 := ⟨n - 1, by omega⟩
    rw [List.append_nil] at e1
    subst e1
    have l2 := nl_le (f := lxb_ S a b) (hs := fl)
    unfold f_X12_order_37l f_X12_order_37 f_X12_order_110 od2_
    rw [hg.1, if_pos (Int32.le_refl _)]
    have z0 : ∀ x, x < 1000 → ((Int32.ofNat x = 0) ↔ x = 0) := fun x hx => n3_eq (b := 0) (by omega) (by omega)
    by_cases c1 : fl.length = 0
    · rw [if_pos ((z0 _ (by omega)).mpr c1), if_pos c1]; exact wp_some ⟨rfl, h⟩
    · rw [if_neg (fun hh => c1 ((z0 _ (by omega)).mp hh)), if_neg c1]
      by_cases c2 : nl_ (lxb_ S a b) fl = fl.length
      · rw [if_pos (by rw [c2]), if_pos c2]; exact wp_some ⟨rfl, h⟩
      · rw [if_neg (by rw [n3_eq (by omega) (by omega)]; exact c2), if_neg c2]
        by_cases c3 : nl_ (lxb_ S a b) fl = 0
        · rw [if_pos ((z0 _ (by omega)).mpr c3), if_pos c3]; exact wp_some ⟨rfl, h⟩
        · rw [if_neg (fun hh => c3 ((z0 _ (by omega)).mp hh)), if_neg c3]; exact wp_some ⟨rfl, h⟩
  | cons q rest ih =>
    intro pre n e1 hn
    obtain ⟨m, rfl⟩ : ∃ m, n = m + 1 := ⟨n - 1, by omega⟩
    have hlen : fl.length = pre.length + (rest.length + 1) := by rw [e1]; simp
    have hq := hf q (by rw [e1]; simp)
    have hya := yr_le (h := q) hw ha
    have hyb := yr_le (h := q) hw hb
    have e3 : Int32.ofNat pre.length + 1 = Int32.ofNat (pre ++ [q]).length := by
      rw [show (pre ++ [q]).length = pre.length + 1 from by simp]; exact n3_add _ 1
    have hix : ix_ok (Int32.ofNat pre.length) 600 := (n3_ix (by omega)).mpr (by omega)
    have et : (Int32.ofNat pre.length).toNatClampNeg = pre.length := n3_tn (by omega)
    have go := ih (pre ++ [q]) m (by rw [e1]; simp) (by simp at hn; omega)
    rw [nl_s] at go
    unfold f_X12_order_37l f_X12_order_37 f_X12_order_94 f_X12_order_98
    rw [hg.1, if_neg (by rw [n3_le (by omega) (by omega)]; omega)]
    refine wp_ck hix ?_
    simp only [et, hg.2 pre.length q (by rw [e1]; simp)]
    refine wp_be (r_yr h.1.1 hw ha (by omega)) (wp_ck hix (wp_be (r_yr h.1.1 hw hb (by omega)) ?_))
    have fin : ∀ g, g = lxb_ S a b q → wp_ (f_X12_order_99 (f_X12_order_37l m) (Int32.ofNat a) (Int32.ofNat b) (Int32.ofNat pre.length) (Int32.ofNat (nl_ (lxb_ S a b) pre)) (bi_ g) M) (fun z => z.1 = od2_ fl.length (nl_ (lxb_ S a b) fl) ∧ rt_ S no_ vs z.2) := by
      intro g hgg
      unfold f_X12_order_99
      refine wp_sr (wp_sr (wp_sr ?_))
      rw [e3, tr_bi]
      rw [← hgg] at go
      cases g with
      | false =>
        rw [show bi_ false = Int32.ofNat 0 from rfl, n3_add]
        rw [if_neg (by decide)] at go
        exact go
      | true =>
        rw [show bi_ true = Int32.ofNat 1 from rfl, n3_add]
        rw [if_pos rfl] at go
        exact go
    by_cases c1 : yr_ S a q < yr_ S b q
    · rw [if_pos ((n3_lt (by omega) (by omega)).mpr c1)]
      exact fin true (by unfold lxb_; rw [decide_eq_true c1]; rfl)
    · rw [if_neg (by rw [n3_lt (by omega) (by omega)]; exact c1)]
      by_cases c2 : yr_ S a q = yr_ S b q
      · rw [if_pos (by rw [c2])]
        by_cases c3 : b ≤ a
        · rw [if_pos ((n3_le (by omega) (by omega)).mpr c3)]
          exact fin false (by unfold lxb_; rw [decide_eq_false c1, decide_eq_false (show ¬ a < b by omega)]; simp)
        · rw [if_neg (by rw [n3_le (by omega) (by omega)]; exact c3)]
          exact fin true (by unfold lxb_; rw [decide_eq_true c2, decide_eq_true (show a < b by omega)]; simp)
      · rw [if_neg (by rw [n3_eq (by omega) (by omega)]; exact c2)]
        exact fin false (by unfold lxb_; rw [decide_eq_false c1, decide_eq_false c2]; rfl)
theorem m_order (h : rl_ Mc Mr) (x1 x2 : Int32) : bo_ (f_X11_order x1 x2 Mc) (f_X12_order x1 x2 Mr) := by
  obtain ⟨S, vs, hw, hv, hc, hr⟩ := h
  have hr1 := hr.th
  have hrl : rl_ Mc (mm_si Mr 0 0 0) := ⟨S, vs, hw, hv, hc, hr1⟩
  have h600 := hw.hist
  have hL := hw.laws
  unfold f_X11_order f_X12_order
  rw [sq_n (x := mm_si Mr 0 0 0), c_isLaw (x := x1) hc.2.1 hw, c_isLaw (x := x2) hc.2.1 hw, r_isLaw (x := x1) hr1.1.1 hw, r_isLaw (x := x2) hr1.1.1 hw]
  refine bo_g hrl (fun b1 => bo_g hrl (fun b2 => ?_))
  by_cases hne : x1 = x2
  · rw [if_pos hne, if_pos hne]; exact bo_no hrl
  · rw [if_neg hne, if_neg hne]
    obtain ⟨a, rfl, ha⟩ := lt_nat b1 (by omega)
    obtain ⟨b, rfl, hb⟩ := lt_nat b2 (by omega)
    have hll := fl_len (S := S) (nv := no_) (k := hs_ S)
    refine bo_mk (A := od2_ (fl_ S no_ (hs_ S)).length (nl_ (lxb_ S a b) (fl_ S no_ (hs_ S)))) hw hv ?_ ?_
    · refine wp_bd (wp_mo (hc.look hw) (fun z hz => ?_))
      exact k_order_l hw ha hb (fun he => hne (by rw [he])) hz.1 hz.2.1 (hs_ S) 0 fu_ (by omega) (by unfold fu_; omega)
    · refine wp_bd (wp_mo (q_gath hr1.1 hw) (fun z hz => ?_))
      exact q_order_l hw ha hb (hr1.ga hz.1) (fun x hx => by have := (fl_mem hx).1; omega) (by omega) hz.2 (fl_ S no_ (hs_ S)) [] fu_ rfl (by unfold fu_; omega)
end UG1
