/-! LAW: the class reads; the reference reads -/
section WO1
variable {S : sg_} {M M0 Mc Mr Z : mm_M} {vs : List Nat}
def txc_ (S : sg_) (M : mm_M) : Prop := M.1 1 1 = Int32.ofNat (S 0 4) ∧ ∀ j, j < S 0 4 → M.1 2 j = Int32.ofNat (S 2 j)
theorem txc_.si {k0 j : Nat} {v : Int32} (h : txc_ S M) (hk : 8 ≤ k0) : txc_ S (mm_si M k0 j v) := ⟨by rw [si_1, if_neg (by omega)]; exact h.1, fun i hi => by rw [si_1, if_neg (by omega)]; exact h.2 i hi⟩
theorem nx1_at {f : Nat → Option Nat} {a : Nat} (h : a ≤ S 0 4) : nx1_ (at_ S f a) a ≤ S 0 4 := by
  cases ho : at_ S f a with
  | none => exact h
  | some g =>
    have := (at_lt ho).1
    show a + 1 ≤ _
    omega
theorem atc_lt {c a : Nat} (h : atc_ S c a = true) : a < S 0 4 := (of_decide_eq_true h).1
theorem isome_n {o : Option Nat} (h : o = none) : (if o.isSome = true then (1 : Int32) else 0) = 0 := by rw [h]; rfl
theorem isome_s {o : Option Nat} {g : Nat} (h : o = some g) : (if o.isSome = true then (1 : Int32) else 0) = 1 := by rw [h]; rfl
theorem tg_sdc : ∀ t g, sdc_ t = some g → tg_ g = Int32.ofNat t := fun t g h => (sdc_lt h).2
theorem tg_lcc : ∀ t g, lcc_ t = some g → tg_ g = Int32.ofNat t := fun t g h => (lcc_lt h).2
theorem c_s25 (hw : wf_ S) {k0 a g b l : Nat} (hk : 8 ≤ k0) (ht : txc_ S M) (ha : a ≤ S 0 4) (ha2 : a < 30) (r0 : M.1 k0 0 = tg_ g) (r3 : M.1 k0 3 = bc_ b) (r1 : M.1 k0 1 = tg_ l) (r2 : M.1 k0 2 = -1) :
    wp_ (f_X2_readSides_25 k0 (Int32.ofNat a) M) (lrc_ S k0 M (if atc_ S 95 a = true then lpE_ S g b l (a + 1) else (false, a, g, b, 23, 23))) := by
  have h40 := hw.tp
  have e1 : Int32.ofNat a + 1 = Int32.ofNat (a + 1) := n3_add a 1
  have e2 : Int32.ofNat (a + 1) + 1 = Int32.ofNat (a + 1 + 1) := n3_add (a + 1) 1
  unfold f_X2_readSides_25 f_X2_readSides_63
  refine wp_be (c_signAt ht.1 ht.2 h40 (by omega)) ?_
  have hc := c_atc hw (a := a) (c := 95) (by omega)
  by_cases c : atc_ S 95 a = true
  · have hal := atc_lt c
    rw [if_pos (show (if a < S 0 4 then Int32.ofNat (S 2 a) else -1) = (95 : Int32) from hc.mpr c), if_pos c]
    refine wp_sr ?_
    rw [e1]
    refine wp_be (c_signAt ht.1 ht.2 h40 (by omega)) (wp_sr ?_)
    rw [c_sidA hw]
    unfold lpE_
    cases ho : at_ S sdc_ (a + 1) with
    | none =>
      rw [isome_n (o := none) rfl, if_pos rfl]
      refine wp_be (c_over ht.1 ht.2 hw (by omega) (by omega)) (wp_some ⟨fun _ _ _ => rfl, rfl, ?_, fun _ => ⟨r0, r3, r1, r2⟩⟩)
      show (if a + 1 = S 0 4 then (-1 : Int32) else Int32.ofNat (a + 1)) = if true = true ∧ a + 1 = S 0 4 then -1 else Int32.ofNat (a + 1)
      by_cases c2 : a + 1 = S 0 4
      · rw [if_pos c2, if_pos ⟨rfl, c2⟩]
      · rw [if_neg c2, if_neg (fun hh => c2 hh.2)]
    | some q =>
      have hq := (at_lt ho).1
      rw [isome_s (o := some q) rfl, if_neg (by decide)]
      refine wp_be (c_signAt ht.1 ht.2 h40 (by omega)) (wp_sr (wp_sr ?_))
      rw [c_tgA tg_sdc ho, e2]
      have ht2 := ht.si (j := 2) (v := tg_ q) hk
      refine wp_be (c_over ht2.1 ht2.2 hw (by omega) (by omega)) (wp_some ⟨fun x y hxy => by rw [si_1, if_neg (by omega)], rfl, ?_, fun _ => ⟨?_, ?_, ?_, ?_⟩⟩)
      · show (if a + 1 + 1 = S 0 4 then (-1 : Int32) else Int32.ofNat (a + 1 + 1)) = if true = true ∧ a + 1 + 1 = S 0 4 then -1 else Int32.ofNat (a + 1 + 1)
        by_cases c2 : a + 1 + 1 = S 0 4
        · rw [if_pos c2, if_pos ⟨rfl, c2⟩]
        · rw [if_neg c2, if_neg (fun hh => c2 hh.2)]
      · rw [si_1, if_neg (by omega)]; exact r0
      · rw [si_1, if_neg (by omega)]; exact r3
      · rw [si_1, if_neg (by omega)]; exact r1
      · rw [si_1, if_pos ⟨rfl, rfl⟩]; rfl
  · rw [if_neg (show ¬ ((if a < S 0 4 then Int32.ofNat (S 2 a) else -1) = (95 : Int32)) from fun hh => c (hc.mp hh)), if_neg c]
    exact wp_some ⟨fun _ _ _ => rfl, rfl, by rw [if_neg (fun hh => by cases hh.1)], fun hh => by cases hh⟩
theorem lrc_.tr {k0 : Nat} {r : Bool × Nat × Nat × Nat × Nat × Nat} {z : Int32 × mm_M} (h : lrc_ S k0 M r z) (hm : ∀ a b, ¬ (a = k0 ∧ b < 4) → M.1 a b = M0.1 a b) (h2 : M.2 = M0.2) : lrc_ S k0 M0 r z :=
  ⟨fun a b hab => by rw [h.1 a b hab]; exact hm a b hab, h.2.1.trans h2, h.2.2⟩
theorem c_sides (hw : wf_ S) {k0 a g b : Nat} (hk : 8 ≤ k0) (ht : txc_ S M) (ha : a ≤ S 0 4) (ha2 : a < 20) (r0 : M.1 k0 0 = tg_ g) (r3 : M.1 k0 3 = bc_ b) (r1 : M.1 k0 1 = -1) (r2 : M.1 k0 2 = -1) :
    wp_ (f_X2_readSides k0 (Int32.ofNat a) M) (lrc_ S k0 M (lpS_ S g b a)) := by
  have h40 := hw.tp
  have e1 : Int32.ofNat a + 1 = Int32.ofNat (a + 1) := n3_add a 1
  unfold f_X2_readSides lpS_
  refine wp_be (c_signAt ht.1 ht.2 h40 (by omega)) (wp_sr ?_)
  rw [c_sidA hw]
  cases ho : at_ S sdc_ a with
  | none =>
    rw [isome_n (o := none) rfl, if_pos rfl]
    exact c_s25 (l := 23) hw hk ht ha (by omega) r0 r3 r1 r2
  | some q =>
    have hq := (at_lt ho).1
    rw [isome_s (o := some q) rfl, if_neg (by decide)]
    refine wp_be (c_signAt ht.1 ht.2 h40 (by omega)) (wp_sr (wp_sr ?_))
    rw [c_tgA tg_sdc ho, e1]
    refine wp_mo (c_s25 (l := q) (g := g) (b := b) hw hk (ht.si hk) (show a + 1 ≤ S 0 4 by omega) (by omega) ?_ ?_ ?_ ?_) (fun z hz => lrc_.tr hz (fun x y hxy => by rw [si_1, if_neg (by omega)]) rfl)
    · rw [si_1, if_neg (by omega)]; exact r0
    · rw [si_1, if_neg (by omega)]; exact r3
    · rw [si_1, if_pos ⟨rfl, rfl⟩]
    · rw [si_1, if_neg (by omega)]; exact r2
theorem c_r66 (hw : wf_ S) {k0 a g b : Nat} (hk : 8 ≤ k0) (ht : txc_ S M) (ha : a ≤ S 0 4) (ha2 : a < 10) (r0 : M.1 k0 0 = tg_ g) (r3 : M.1 k0 3 = bc_ b) :
    wp_ (f_X2_read_66 k0 (Int32.ofNat a) M) (lrc_ S k0 M (lpB_ S g b a)) := by
  have h40 := hw.tp
  have e1 : Int32.ofNat a + 1 = Int32.ofNat (a + 1) := n3_add a 1
  have ht2 : txc_ S (mm_si (mm_si M k0 1 (-1)) k0 2 (-1)) := (ht.si hk).si hk
  have q0 : (mm_si (mm_si M k0 1 (-1)) k0 2 (-1)).1 k0 0 = tg_ g := by rw [si_1, if_neg (by omega), si_1, if_neg (by omega)]; exact r0
  have q3 : (mm_si (mm_si M k0 1 (-1)) k0 2 (-1)).1 k0 3 = bc_ b := by rw [si_1, if_neg (by omega), si_1, if_neg (by omega)]; exact r3
  have q1 : (mm_si (mm_si M k0 1 (-1)) k0 2 (-1)).1 k0 1 = -1 := by rw [si_1, if_neg (by omega), si_1, if_pos ⟨rfl, rfl⟩]
  have q2 : (mm_si (mm_si M k0 1 (-1)) k0 2 (-1)).1 k0 2 = -1 := by rw [si_1, if_pos ⟨rfl, rfl⟩]
  have hm : ∀ x y, ¬ (x = k0 ∧ y < 4) → (mm_si (mm_si M k0 1 (-1)) k0 2 (-1)).1 x y = M.1 x y := fun x y hxy => by rw [si_1, if_neg (by omega), si_1, if_neg (by omega)]
  unfold f_X2_read_66 lpB_
  refine wp_sr (wp_sr ?_)
  refine wp_be (c_signAt ht2.1 ht2.2 h40 (by omega)) ?_
  have hc := c_atc hw (a := a) (c := 47) (by omega)
  by_cases c : atc_ S 47 a = true
  · have hal := atc_lt c
    rw [if_pos (show (if a < S 0 4 then Int32.ofNat (S 2 a) else -1) = (47 : Int32) from hc.mpr c), if_pos c, e1]
    exact wp_bd (wp_mo (c_sides hw hk ht2 (show a + 1 ≤ S 0 4 by omega) (by omega) q0 q3 q1 q2) (fun z hz => wp_some (hz.tr hm rfl)))
  · rw [if_neg (show ¬ ((if a < S 0 4 then Int32.ofNat (S 2 a) else -1) = (47 : Int32)) from fun hh => c (hc.mp hh)), if_neg c]
    refine wp_be (c_over ht2.1 ht2.2 hw (by omega) ha) (wp_some ⟨hm, rfl, ?_, fun _ => ⟨q0, q3, q1, q2⟩⟩)
    show (if a = S 0 4 then (-1 : Int32) else Int32.ofNat a) = if true = true ∧ a = S 0 4 then -1 else Int32.ofNat a
    by_cases c2 : a = S 0 4
    · rw [if_pos c2, if_pos ⟨rfl, c2⟩]
    · rw [if_neg c2, if_neg (fun hh => c2 hh.2)]
theorem c_read (hw : wf_ S) {k0 : Nat} (hk : 8 ≤ k0) (ht : txc_ S M) : wp_ (f_X2_read k0 M) (lrc_ S k0 M (lpr_ S)) := by
  have h40 := hw.tp
  unfold f_X2_read lpr_
  refine wp_be (c_signAt (a := 0) ht.1 ht.2 h40 (by omega)) (wp_sr (wp_sr ?_))
  have ht1 := ht.si (j := 0) (v := if 0 < S 0 4 then Int32.ofNat (S 2 0) else -1) hk
  rw [show (mm_si M k0 0 (if 0 < S 0 4 then Int32.ofNat (S 2 0) else -1)).1 k0 0 = (if 0 < S 0 4 then Int32.ofNat (S 2 0) else -1) by rw [si_1, if_pos ⟨rfl, rfl⟩], c_socA hw]
  cases ho : at_ S lcc_ 0 with
  | none =>
    rw [isome_n (o := none) rfl, if_pos rfl]
    refine wp_some ⟨fun x y hxy => by rw [si_1, if_neg (by omega)], rfl, ?_, fun hh => by cases hh⟩
    show (0 : Int32) = if false = true ∧ 0 = S 0 4 then -1 else Int32.ofNat 0
    rw [if_neg (fun hh => by cases hh.1)]; rfl
  | some g =>
    have hg := (at_lt ho).1
    rw [isome_s (o := some g) rfl, if_neg (by decide)]
    have htg := c_tgA tg_lcc ho
    rw [htg] at ht1 ⊢
    refine wp_be (c_signAt (a := 1) ht1.1 ht1.2 h40 (by omega)) ?_
    show wp_ _ (lrc_ S k0 M (if atc_ S 62 1 = true then lpB_ S g ((at_ S sno_ 2).getD 24) (nx1_ (at_ S sno_ 2) 2) else (false, 1, g, 0, 0, 0)))
    have hc := c_atc hw (a := 1) (c := 62) (by omega)
    by_cases c : atc_ S 62 1 = true
    · have hal := atc_lt c
      rw [if_pos (show (if 1 < S 0 4 then Int32.ofNat (S 2 1) else -1) = (62 : Int32) from hc.mpr c), if_pos c]
      refine wp_sr ?_
      have ht2 := ht1.si (j := 3) (v := -1) hk
      refine wp_be (c_signAt (a := 2) ht2.1 ht2.2 h40 (by omega)) (wp_sr ?_)
      rw [c_snoA hw]
      cases ho2 : at_ S sno_ 2 with
      | none =>
        rw [isome_n (o := none) rfl, if_pos rfl]
        refine wp_mo (c_r66 (a := 2) (g := g) (b := 24) hw hk ht2 (by omega) (by omega) ?_ ?_) (fun z hz => lrc_.tr hz (fun x y hxy => by rw [si_1, if_neg (by omega), si_1, if_neg (by omega)]) rfl)
        · rw [si_1, if_neg (by omega), si_1, if_pos ⟨rfl, rfl⟩]
        · rw [si_1, if_pos ⟨rfl, rfl⟩]; rfl
      | some b =>
        obtain ⟨hb1, hb2⟩ := at_lt ho2
        have hb3 := hw.tape 2 hb1
        unfold sno_ at hb2
        by_cases cs : sn_ (S 2 2) = true
        · rw [if_pos cs] at hb2
          have hb4 : S 2 2 - 97 = b := Option.some.inj hb2
          have hb5 := sn_1 cs
          rw [isome_s (o := some b) rfl, if_neg (by decide)]
          refine wp_be (c_signAt (a := 2) ht2.1 ht2.2 h40 (by omega)) (wp_sr (wp_sr ?_))
          rw [if_pos hb1, show Int32.ofNat (S 2 2) - 97 = Int32.ofNat (S 2 2 - 97) from n3_sub (a := S 2 2) (b := 97) (by omega), hb4]
          refine wp_mo (c_r66 (a := 3) (g := g) (b := b) hw hk (ht2.si hk) (by omega) (by omega) ?_ ?_) (fun z hz => lrc_.tr hz (fun x y hxy => by rw [si_1, if_neg (by omega), si_1, if_neg (by omega), si_1, if_neg (by omega)]) rfl)
          · rw [si_1, if_neg (by omega), si_1, if_neg (by omega), si_1, if_pos ⟨rfl, rfl⟩]
          · rw [si_1, if_pos ⟨rfl, rfl⟩]
            unfold bc_
            rw [if_neg (by omega)]
        · rw [if_neg cs] at hb2; cases hb2
    · rw [if_neg (show ¬ ((if 1 < S 0 4 then Int32.ofNat (S 2 1) else -1) = (62 : Int32)) from fun hh => c (hc.mp hh)), if_neg c]
      exact wp_some ⟨fun x y hxy => by rw [si_1, if_neg (by omega)], rfl, by rw [if_neg (fun hh => by cases hh.1)]; rfl, fun hh => by cases hh⟩
/-! the reference reads -/
/-- the reference's text, up to mm signs, and where it is -/
def txq_ (S : sg_) (mm : Nat) (Z : mm_M) : Prop := Z.1 0 6 = Int32.ofNat mm ∧ (mm ≤ S 0 4 ∧ (mm = S 0 4 ∨ mm = 20)) ∧ ∀ j, j < S 0 4 → Z.1 2 j = Int32.ofNat (S 2 j)
def lrf_ (k : Nat) (Z Z' : mm_M) : Prop := (∀ a b, ¬ (a = 0 ∧ b = 5) → Z'.1 a b = Z.1 a b) ∧ Z'.2 = Z.2 ∧ Z'.1 0 5 = Int32.ofNat k
theorem lrf_.tx {k mm : Nat} {Z' : mm_M} (h : lrf_ k Z Z') (ht : txq_ S mm Z) : txq_ S mm Z' := ⟨by rw [h.1 0 6 (by omega)]; exact ht.1, ht.2.1, fun j hj => by rw [h.1 2 j (by omega)]; exact ht.2.2 j hj⟩
theorem q_sno (hw : wf_ S) {k mm : Nat} (ht : txq_ S mm Z) (h5 : Z.1 0 5 = Int32.ofNat k) (hk : k < 20) (hkm : k ≤ mm) : wp_ (f_X12_sound Z) (fun z => z.1 = so_ (at_ S sno_ k) ∧ lrf_ (nx1_ (at_ S sno_ k) k) Z z.2) := by
  have h40 := hw.tp
  obtain ⟨h6, ⟨hm1, hm2⟩, htt⟩ := ht
  have hq := q_sound (t := S 2) h5 h6 (by omega) hkm (fun j hj => ⟨htt j (by omega), hw.tape j (by omega)⟩)
  refine wp_eq hq ?_
  unfold at_ sno_
  by_cases c : k < S 0 4
  · rw [if_pos c]
    by_cases cs : sn_ (S 2 k) = true
    · rw [if_pos cs, if_pos ⟨by omega, cs⟩]
      exact ⟨rfl, fun a b hab => by rw [si_1, if_neg hab], rfl, by rw [si_1, if_pos ⟨rfl, rfl⟩]; rfl⟩
    · rw [if_neg cs, if_neg (fun hh => cs hh.2)]
      exact ⟨rfl, fun _ _ _ => rfl, rfl, h5⟩
  · rw [if_neg c, if_neg (fun hh => by omega)]
    exact ⟨rfl, fun _ _ _ => rfl, rfl, h5⟩
theorem q_lcc (hw : wf_ S) {k mm : Nat} (ht : txq_ S mm Z) (h5 : Z.1 0 5 = Int32.ofNat k) (hk : k < 20) (hkm : k ≤ mm) : wp_ (f_X12_soundOrClass Z) (fun z => z.1 = so_ (at_ S lcc_ k) ∧ lrf_ (nx1_ (at_ S lcc_ k) k) Z z.2) := by
  have h40 := hw.tp
  unfold f_X12_soundOrClass
  refine wp_bd (wp_mo (q_sno hw ht h5 hk hkm) (fun z hz => ?_))
  obtain ⟨z1, z2⟩ := hz
  have htz := z2.tx ht
  obtain ⟨h6, ⟨hm1, hm2⟩, htt⟩ := htz
  rw [z1]
  by_cases c : k < S 0 4
  · have htk := hw.tape k c
    by_cases cs : sn_ (S 2 k) = true
    · have e1 : at_ S sno_ k = some (S 2 k - 97) := by unfold at_ sno_; rw [if_pos c, if_pos cs]
      have e2 : at_ S lcc_ k = some (S 2 k - 97) := by unfold at_ lcc_; rw [if_pos c, if_pos cs]
      rw [e1] at z2 ⊢
      rw [e2, if_neg (show ¬ (so_ (some (S 2 k - 97)) < 0) from fun hh => (n3_neg (a := S 2 k - 97) (by omega)).mp hh)]
      exact wp_some ⟨rfl, z2⟩
    · have e1 : at_ S sno_ k = none := by unfold at_ sno_; rw [if_pos c, if_neg cs]
      rw [e1] at z2 ⊢
      have z5 : z.2.1 0 5 = Int32.ofNat k := z2.2.2
      rw [if_pos (show so_ none < 0 by decide), h6, z5, if_neg (by rw [n3_le (by omega) (by omega)]; omega)]
      refine wp_ck ((n3_ix (by omega)).mpr (by omega)) (wp_sr ?_)
      rw [n3_tn (by omega), htt k c, show (65 : Int64) = Int64.ofNat 65 from rfl, show (70 : Int64) = Int64.ofNat 70 from rfl, r_int htk (by omega) (by omega)]
      by_cases cc : 65 ≤ S 2 k ∧ S 2 k ≤ 70
      · have e2 : at_ S lcc_ k = some (S 2 k - 49) := by unfold at_ lcc_; rw [if_pos c, if_neg cs, if_pos cc]
        rw [decide_eq_true cc, if_neg (by decide)]
        refine wp_sr ?_
        have f5 : (mm_si z.2 0 5 (Int32.ofNat k + 1)).1 0 5 = Int32.ofNat (k + 1) := by rw [si_1, if_pos ⟨rfl, rfl⟩]; exact n3_add k 1
        have f2 : (mm_si z.2 0 5 (Int32.ofNat k + 1)).1 2 k = Int32.ofNat (S 2 k) := by rw [si_1, if_neg (by omega)]; exact htt k c
        rw [f5, show Int32.ofNat (k + 1) - 1 = Int32.ofNat k from n3_sub (a := k + 1) (b := 1) (by omega)]
        refine wp_ck ((n3_ix (by omega)).mpr (by omega)) ?_
        rw [n3_tn (by omega), f2]
        refine wp_some ⟨?_, fun a b hab => ?_, ?_, ?_⟩
        · rw [e2]
          show (16 : Int32) + Int32.ofNat (S 2 k) - 65 = Int32.ofNat (S 2 k - 49)
          rw [show (16 : Int32) = Int32.ofNat 16 from rfl, n3_add, show (65 : Int32) = Int32.ofNat 65 from rfl, n3_sub (by omega)]
          congr 1; omega
        · rw [si_1, if_neg hab]; exact z2.1 a b hab
        · exact z2.2.1
        · rw [e2, f5]; rfl
      · have e2 : at_ S lcc_ k = none := by unfold at_ lcc_; rw [if_pos c, if_neg cs, if_neg cc]
        rw [decide_eq_false cc, if_pos (by decide), e2]
        exact wp_some ⟨rfl, z2⟩
  · have e1 : at_ S sno_ k = none := by unfold at_; rw [if_neg c]
    have e2 : at_ S lcc_ k = none := by unfold at_; rw [if_neg c]
    rw [e1] at z2 ⊢
    have z5 : z.2.1 0 5 = Int32.ofNat k := z2.2.2
    rw [if_pos (show so_ none < 0 by decide), h6, z5, if_pos ((n3_le (by omega) (by omega)).mpr (by omega)), e2]
    exact wp_some ⟨rfl, z2⟩
theorem q_comes (hw : wf_ S) {k mm c : Nat} (hc : c < 256) (ht : txq_ S mm Z) (h5 : Z.1 0 5 = Int32.ofNat k) (hk : k < 20) (hkm : k ≤ mm) : wp_ (f_X12_comes (Int32.ofNat c) Z) (fun z => z.1 = bi_ (atc_ S c k) ∧ lrf_ (if atc_ S c k = true then k + 1 else k) Z z.2) := by
  have h40 := hw.tp
  obtain ⟨h6, ⟨hm1, hm2⟩, htt⟩ := ht
  have no : atc_ S c k = false → wp_ (f_X12_comes_29 0 Z) (fun z => z.1 = bi_ (atc_ S c k) ∧ lrf_ (if atc_ S c k = true then k + 1 else k) Z z.2) := by
    intro hb
    unfold f_X12_comes_29
    refine wp_sr (wp_sr (wp_ck (Or.inl rfl) (wp_some ⟨by rw [hb]; rfl, fun a b hab => by rw [si_1, if_neg hab], rfl, ?_⟩)))
    rw [si_1, if_pos ⟨rfl, rfl⟩, hb, if_neg (by decide), h5, show f_X12_truth 0 = 0 from rfl, Int32.add_zero]
  unfold f_X12_comes f_X12_comes_28
  rw [h5, h6]
  by_cases c1 : k < S 0 4
  · have htk := hw.tape k c1
    rw [if_neg (by rw [n3_le (by omega) (by omega)]; omega)]
    refine wp_ck ((n3_ix (by omega)).mpr (by omega)) ?_
    rw [n3_tn (by omega), htt k c1]
    by_cases c2 : S 2 k = c
    · have hb : atc_ S c k = true := decide_eq_true ⟨c1, c2⟩
      rw [if_pos (by rw [c2])]
      unfold f_X12_comes_29
      refine wp_sr (wp_sr (wp_ck (Or.inr rfl) (wp_some ⟨by rw [hb]; rfl, fun a b hab => by rw [si_1, if_neg hab], rfl, ?_⟩)))
      rw [si_1, if_pos ⟨rfl, rfl⟩, hb, if_pos rfl, h5, show f_X12_truth 1 = 1 from rfl]
      exact n3_add k 1
    · rw [if_neg (by rw [n3_eq (by omega) (by omega)]; exact c2)]
      exact no (decide_eq_false (fun hh => c2 hh.2))
  · rw [if_pos ((n3_le (by omega) (by omega)).mpr (by omega))]
    exact no (decide_eq_false (fun hh => c1 hh.1))
theorem lrf_.trans {k k' : Nat} {Z1 Z2 : mm_M} (h1 : lrf_ k Z Z1) (h2 : lrf_ k' Z1 Z2) : lrf_ k' Z Z2 := ⟨fun a b hab => by rw [h2.1 a b hab]; exact h1.1 a b hab, h2.2.1.trans h1.2.1, h2.2.2⟩
theorem q_beside (hw : wf_ S) {k mm : Nat} (ht : txq_ S mm Z) (h5 : Z.1 0 5 = Int32.ofNat k) (hk : k < 19) (hkm : k ≤ mm) : wp_ (f_X12_beside Z) (fun z => z.1 = Int32.ofNat ((at_ S sdc_ k).getD 23) ∧ lrf_ (nx1_ (at_ S sdc_ k) k) Z z.2) := by
  unfold f_X12_beside
  refine wp_bd (wp_mo (q_lcc hw ht h5 (by omega) hkm) (fun z hz => ?_))
  obtain ⟨z1, z2⟩ := hz
  rw [z1]
  cases ho : at_ S lcc_ k with
  | some g =>
    obtain ⟨g1, g2⟩ := at_lt ho
    have hg := (lcc_lt g2).1
    have e : at_ S sdc_ k = some g := by unfold at_ sdc_; rw [if_pos g1, g2]
    rw [ho] at z2
    rw [if_neg (show ¬ (so_ (some g) < 0) from fun hh => (n3_neg (a := g) (by omega)).mp hh), e]
    exact wp_some ⟨rfl, z2⟩
  | none =>
    rw [ho] at z2
    have z5 : z.2.1 0 5 = Int32.ofNat k := z2.2.2
    rw [if_pos (show so_ none < 0 by decide)]
    refine wp_bd (wp_mo (q_comes (c := 35) hw (by omega) (z2.tx ht) z5 (by omega) hkm) (fun u hu => ?_))
    rw [hu.1]
    have hu2 := z2.trans hu.2
    cases hb : atc_ S 35 k with
    | false =>
      have e : at_ S sdc_ k = none := by
        unfold at_ at ho ⊢
        by_cases c1 : k < S 0 4
        · rw [if_pos c1] at ho ⊢
          unfold sdc_
          rw [ho]
          show (if S 2 k = 35 then some 22 else none) = none
          rw [if_neg (fun hh => by rw [show atc_ S 35 k = true from decide_eq_true ⟨c1, hh⟩] at hb; cases hb)]
        · rw [if_neg c1]
      rw [hb, if_neg (by decide)] at hu2
      rw [if_pos (by decide), e]
      exact wp_some ⟨rfl, hu2⟩
    | true =>
      have hb2 := of_decide_eq_true (show decide (k < S 0 4 ∧ S 2 k = 35) = true from hb)
      have e : at_ S sdc_ k = some 22 := by
        unfold at_ sdc_
        rw [if_pos hb2.1, hb2.2, lcc_35]; rfl
      rw [hb, if_pos rfl] at hu2
      rw [if_neg (by decide), e]
      exact wp_some ⟨rfl, hu2⟩
end WO1
