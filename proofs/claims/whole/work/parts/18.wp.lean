/-! LAW: the reference's law; the class inserts it into histories -/
section WP1
variable {S : sg_} {M M0 Mc Mr Z : mm_M} {vs : List Nat}
def lrq_ (l : Nat) (Z : mm_M) (r : Bool × Nat × Nat × Nat × Nat × Nat) (z : Int32 × mm_M) : Prop :=
  (∀ a b, ¬ (a = 0 ∧ b = 5) → ¬ (6 ≤ a ∧ a ≤ 9 ∧ b = l) → z.2.1 a b = Z.1 a b) ∧ z.2.2 = Z.2 ∧ z.1 = bi_ r.1 ∧ z.2.1 0 5 = Int32.ofNat r.2.1 ∧ (r.1 = true → z.2.1 6 l = Int32.ofNat r.2.2.1 ∧ z.2.1 7 l = Int32.ofNat r.2.2.2.1 ∧ z.2.1 8 l = Int32.ofNat r.2.2.2.2.1 ∧ z.2.1 9 l = Int32.ofNat r.2.2.2.2.2)
theorem nx1_mm {f : Nat → Option Nat} {a mm : Nat} (hm : mm ≤ S 0 4 ∧ (mm = S 0 4 ∨ mm = 20)) (ha : a < 20) (h : a ≤ mm) : nx1_ (at_ S f a) a ≤ mm := by
  have h1 := nx1_at (S := S) (f := f) (a := a) (by omega)
  have h2 := nx1_le (o := at_ S f a) (a := a)
  omega
theorem atc_mm {c a mm : Nat} (hm : mm ≤ S 0 4 ∧ (mm = S 0 4 ∨ mm = 20)) (ha : a < 20) (h : atc_ S c a = true) : a + 1 ≤ mm := by
  have := atc_lt h
  omega
theorem txq_.si {mm k j : Nat} {v : Int32} (h : txq_ S mm Z) (hk : 3 ≤ k) : txq_ S mm (mm_si Z k j v) := ⟨by rw [si_1, if_neg (by omega)]; exact h.1, h.2.1, fun i hi => by rw [si_1, if_neg (by omega)]; exact h.2.2 i hi⟩
theorem q_r50 (hw : wf_ S) {l k mm g b : Nat} (hl : l < 6) (ht : txq_ S mm Z) (h5 : Z.1 0 5 = Int32.ofNat k) (hk : k < 10) (hkm : k ≤ mm) (hg : Z.1 6 l = Int32.ofNat g) :
    wp_ (f_X12_readsLaw_50 (Int32.ofNat l) (Int32.ofNat l) (Int32.ofNat b) Z) (lrq_ l Z (lpB_ S g b k)) := by
  have hix : ix_ok (Int32.ofNat l) 6 := (n3_ix (by omega)).mpr hl
  have et : (Int32.ofNat l).toNatClampNeg = l := n3_tn (by omega)
  have hmm := ht.2.1
  unfold f_X12_readsLaw_50
  simp only [et]
  refine wp_ck hix (wp_sr (wp_ck hix (wp_sr (wp_ck hix (wp_sr ?_)))))
  have h1 : txq_ S mm (mm_si (mm_si (mm_si Z 7 l (Int32.ofNat b)) 8 l 23) 9 l 23) := ((ht.si (by omega)).si (by omega)).si (by omega)
  have f0 : ∀ x y, ¬ (6 ≤ x ∧ x ≤ 9 ∧ y = l) → (mm_si (mm_si (mm_si Z 7 l (Int32.ofNat b)) 8 l 23) 9 l 23).1 x y = Z.1 x y := fun x y hxy => by rw [si_1, if_neg (by omega), si_1, if_neg (by omega), si_1, if_neg (by omega)]
  have p6 : (mm_si (mm_si (mm_si Z 7 l (Int32.ofNat b)) 8 l 23) 9 l 23).1 6 l = Int32.ofNat g := by rw [si_1, if_neg (by omega), si_1, if_neg (by omega), si_1, if_neg (by omega)]; exact hg
  have p7 : (mm_si (mm_si (mm_si Z 7 l (Int32.ofNat b)) 8 l 23) 9 l 23).1 7 l = Int32.ofNat b := by rw [si_1, if_neg (by omega), si_1, if_neg (by omega), si_1, if_pos ⟨rfl, rfl⟩]
  have p8 : (mm_si (mm_si (mm_si Z 7 l (Int32.ofNat b)) 8 l 23) 9 l 23).1 8 l = Int32.ofNat 23 := by rw [si_1, if_neg (by omega), si_1, if_pos ⟨rfl, rfl⟩]; rfl
  have p9 : (mm_si (mm_si (mm_si Z 7 l (Int32.ofNat b)) 8 l 23) 9 l 23).1 9 l = Int32.ofNat 23 := by rw [si_1, if_pos ⟨rfl, rfl⟩]; rfl
  have p2 : (mm_si (mm_si (mm_si Z 7 l (Int32.ofNat b)) 8 l 23) 9 l 23).2 = Z.2 := rfl
  generalize mm_si (mm_si (mm_si Z 7 l (Int32.ofNat b)) 8 l 23) 9 l 23 = Y at h1 f0 p6 p7 p8 p9 p2
  refine wp_bd (wp_mo (q_comes (c := 47) hw (by omega) h1 (by rw [f0 0 5 (by omega)]; exact h5) (by omega) hkm) (fun z hz => ?_))
  obtain ⟨z1, z2⟩ := hz
  rw [z1]
  unfold lpB_
  cases c1 : atc_ S 47 k with
  | false =>
    rw [c1, if_neg (by decide)] at z2
    rw [if_pos (by decide), if_neg (by decide)]
    refine wp_some ⟨fun x y e1 e2 => by rw [z2.1 x y e1]; exact f0 x y e2, z2.2.1.trans p2, rfl, z2.2.2, fun _ => ⟨?_, ?_, ?_, ?_⟩⟩
    · rw [z2.1 6 l (by omega)]; exact p6
    · rw [z2.1 7 l (by omega)]; exact p7
    · rw [z2.1 8 l (by omega)]; exact p8
    · rw [z2.1 9 l (by omega)]; exact p9
  | true =>
    rw [c1, if_pos rfl] at z2
    rw [if_neg (by decide), if_pos rfl]
    have hk1 := atc_mm hmm (by omega) c1
    refine wp_bd (wp_mo (q_beside hw (z2.tx h1) z2.2.2 (by omega) hk1) (fun u hu => ?_))
    obtain ⟨u1, u2⟩ := hu
    have hk2 := nx1_mm (S := S) (f := sdc_) hmm (show k + 1 < 20 by omega) hk1
    have hn1 := nx1_le (o := at_ S sdc_ (k + 1)) (a := k + 1)
    refine wp_ck hix (wp_sr ?_)
    rw [u1]
    have h2 : txq_ S mm (mm_si u.2 8 l (Int32.ofNat ((at_ S sdc_ (k + 1)).getD 23))) := (u2.tx (z2.tx h1)).si (by omega)
    refine wp_bd (wp_mo (q_comes (c := 95) hw (by omega) h2 (by rw [si_1, if_neg (by omega)]; exact u2.2.2) (by omega) hk2) (fun v hv => ?_))
    obtain ⟨v1, v2⟩ := hv
    rw [v1]
    unfold lpS_
    cases c2 : atc_ S 95 (nx1_ (at_ S sdc_ (k + 1)) (k + 1)) with
    | false =>
      rw [c2, if_neg (by decide)] at v2
      rw [if_pos (by decide), if_neg (by decide)]
      refine wp_some ⟨fun x y e1 e2 => ?_, ?_, rfl, v2.2.2, fun hh => by cases hh⟩
      · rw [v2.1 x y e1, si_1, if_neg (by omega), u2.1 x y e1, z2.1 x y e1]; exact f0 x y e2
      · exact v2.2.1.trans (u2.2.1.trans (z2.2.1.trans p2))
    | true =>
      rw [c2, if_pos rfl] at v2
      rw [if_neg (by decide), if_pos rfl]
      have hk3 := atc_mm hmm (by omega) c2
      refine wp_bd (wp_mo (q_beside hw (v2.tx h2) v2.2.2 (by omega) hk3) (fun t ht2 => wp_ck hix (wp_sr ?_)))
      obtain ⟨t1, t2⟩ := ht2
      rw [t1]
      unfold lpE_
      have fr : ∀ x y, ¬ (x = 0 ∧ y = 5) → ¬ (x = 8 ∧ y = l) → t.2.1 x y = Y.1 x y := fun x y e1 e2 => by
        rw [t2.1 x y e1, v2.1 x y e1, si_1, if_neg e2, u2.1 x y e1, z2.1 x y e1]
      refine wp_some ⟨fun x y e1 e2 => ?_, ?_, rfl, ?_, fun _ => ⟨?_, ?_, ?_, ?_⟩⟩
      · rw [si_1, if_neg (by omega), fr x y e1 (by omega)]; exact f0 x y e2
      · exact t2.2.1.trans (v2.2.1.trans (u2.2.1.trans (z2.2.1.trans p2)))
      · rw [si_1, if_neg (by omega)]; exact t2.2.2
      · rw [si_1, if_neg (by omega), fr 6 l (by omega) (by omega)]; exact p6
      · rw [si_1, if_neg (by omega), fr 7 l (by omega) (by omega)]; exact p7
      · rw [si_1, if_neg (by omega), t2.1 8 l (by omega), v2.1 8 l (by omega), si_1, if_pos ⟨rfl, rfl⟩]
      · rw [si_1, if_pos ⟨rfl, rfl⟩]
theorem lrq_.tr {l : Nat} {r : Bool × Nat × Nat × Nat × Nat × Nat} {z : Int32 × mm_M} (h : lrq_ l Z r z) (hm : ∀ a b, ¬ (a = 0 ∧ b = 5) → ¬ (6 ≤ a ∧ a ≤ 9 ∧ b = l) → Z.1 a b = M0.1 a b) (h2 : Z.2 = M0.2) : lrq_ l M0 r z :=
  ⟨fun a b e1 e2 => by rw [h.1 a b e1 e2]; exact hm a b e1 e2, h.2.1.trans h2, h.2.2⟩
theorem q_reads (hw : wf_ S) {l mm : Nat} (hl : l < 6) (ht : txq_ S mm Z) (h5 : Z.1 0 5 = Int32.ofNat 0) : wp_ (f_X12_readsLaw (Int32.ofNat l) Z) (lrq_ l Z (lpr_ S)) := by
  have hix : ix_ok (Int32.ofNat l) 6 := (n3_ix (by omega)).mpr hl
  have et : (Int32.ofNat l).toNatClampNeg = l := n3_tn (by omega)
  have hmm := ht.2.1
  unfold f_X12_readsLaw lpr_
  refine wp_bd (wp_mo (q_lcc hw ht h5 (by omega) (by omega)) (fun z hz => ?_))
  obtain ⟨z1, z2⟩ := hz
  simp only [et]
  refine wp_ck hix (wp_sr (wp_ck hix ?_))
  rw [show (mm_si z.2 6 l z.1).1 6 l = z.1 by rw [si_1, if_pos ⟨rfl, rfl⟩], z1]
  cases ho : at_ S lcc_ 0 with
  | none =>
    rw [ho] at z2
    rw [if_pos (show so_ none < 0 by decide)]
    exact wp_some ⟨fun x y e1 e2 => by rw [si_1, if_neg (by omega)]; exact z2.1 x y e1, z2.2.1, rfl, by rw [si_1, if_neg (by omega)]; exact z2.2.2, fun hh => by cases hh⟩
  | some g =>
    obtain ⟨g1, g2⟩ := at_lt ho
    have hg := (lcc_lt g2).1
    rw [ho] at z2
    rw [if_neg (show ¬ (so_ (some g) < 0) from fun hh => (n3_neg (a := g) (by omega)).mp hh), show so_ (some g) = Int32.ofNat g from rfl]
    show wp_ _ (lrq_ l Z (if atc_ S 62 1 = true then lpB_ S g ((at_ S sno_ 2).getD 24) (nx1_ (at_ S sno_ 2) 2) else (false, 1, g, 0, 0, 0)))
    have h1 : txq_ S mm (mm_si z.2 6 l (Int32.ofNat g)) := (z2.tx ht).si (by omega)
    have z5 : (mm_si z.2 6 l (Int32.ofNat g)).1 0 5 = Int32.ofNat 1 := by rw [si_1, if_neg (by omega)]; exact z2.2.2
    refine wp_bd (wp_mo (q_comes (c := 62) hw (by omega) h1 z5 (by omega) (by omega)) (fun u hu => ?_))
    obtain ⟨u1, u2⟩ := hu
    rw [u1]
    cases c1 : atc_ S 62 1 with
    | false =>
      rw [c1, if_neg (by decide)] at u2
      rw [if_pos (by decide), if_neg (by decide)]
      exact wp_some ⟨fun x y e1 e2 => by rw [u2.1 x y e1, si_1, if_neg (by omega)]; exact z2.1 x y e1, u2.2.1.trans z2.2.1, rfl, u2.2.2, fun hh => by cases hh⟩
    | true =>
      rw [c1, if_pos rfl] at u2
      rw [if_neg (by decide), if_pos rfl]
      have hk1 := atc_mm hmm (by omega) c1
      refine wp_bd (wp_mo (q_sno hw (u2.tx h1) u2.2.2 (by omega) hk1) (fun v hv => ?_))
      obtain ⟨v1, v2⟩ := hv
      have hk2 := nx1_mm (S := S) (f := sno_) hmm (show 2 < 20 by omega) hk1
      have hn1 := nx1_le (o := at_ S sno_ 2) (a := 2)
      have hv6 : v.2.1 6 l = Int32.ofNat g := by rw [v2.1 6 l (by omega), u2.1 6 l (by omega), si_1, if_pos ⟨rfl, rfl⟩]
      have hm : ∀ a b, ¬ (a = 0 ∧ b = 5) → ¬ (6 ≤ a ∧ a ≤ 9 ∧ b = l) → v.2.1 a b = Z.1 a b := fun a b e1 e2 => by
        rw [v2.1 a b e1, u2.1 a b e1, si_1, if_neg (by omega)]; exact z2.1 a b e1
      have hm2 : v.2.2 = Z.2 := v2.2.1.trans (u2.2.1.trans z2.2.1)
      have go := fun b => q_r50 (Z := v.2) (b := b) (k := nx1_ (at_ S sno_ 2) 2) hw hl (v2.tx (u2.tx h1)) v2.2.2 (by omega) hk2 hv6
      rw [v1]
      cases ho2 : at_ S sno_ 2 with
      | none =>
        rw [ho2] at go
        rw [if_neg (show ¬ ((0 : Int32) ≤ so_ none) by decide)]
        exact wp_mo (go 24) (fun r hr => hr.tr hm hm2)
      | some b =>
        have hb : b < 16 := by
          have := snd_ok (S := S) (a := 2)
          rw [ho2] at this
          have h3 : b < 16 ∨ b = 24 := this
          obtain ⟨q1, q2⟩ := at_lt ho2
          unfold sno_ at q2
          by_cases cs : sn_ (S 2 2) = true
          · rw [if_pos cs] at q2
            have q3 : S 2 2 - 97 = b := Option.some.inj q2
            have := sn_1 cs
            omega
          · rw [if_neg cs] at q2; cases q2
        rw [ho2] at go
        rw [if_pos (show (0 : Int32) ≤ so_ (some b) from (n3_le (a := 0) (by omega) (by omega)).mpr (by omega))]
        exact wp_mo (go b) (fun r hr => hr.tr hm hm2)
/-! numbers in rows of bits -/
theorem bv_app {B : Nat} : ∀ (pre suf : List Nat), bv_ B (pre ++ suf) = bv_ B pre + B ^ pre.length * bv_ B suf := by
  intro pre
  induction pre with
  | nil => intro suf; show bv_ B suf = 0 + 1 * _; omega
  | cons x xs ih =>
    intro suf
    show x + B * bv_ B (xs ++ suf) = x + B * bv_ B xs + B ^ (xs.length + 1) * bv_ B suf
    rw [ih, Nat.mul_add, Nat.pow_succ', Nat.mul_assoc, Nat.add_assoc]
/-- a row with one more number at turn t, in bits of e each -/
theorem bv_ins {e : Nat} {pre suf : List Nat} {v : Nat} (hpre : ∀ x, x ∈ pre → x < 2 ^ e) (hv : v < 2 ^ e) :
    ((bv_ (2 ^ e) (pre ++ suf) &&& (2 ^ (e * pre.length) - 1)) ||| (v * 2 ^ (e * pre.length))) ||| (bv_ (2 ^ e) (pre ++ suf) / 2 ^ (e * pre.length) * 2 ^ (e * pre.length + e)) = bv_ (2 ^ e) (pre ++ v :: suf) := by
  have hp : 0 < 2 ^ (e * pre.length) := Nat.pow_pos (by omega)
  have hpw : (2 ^ e) ^ pre.length = 2 ^ (e * pre.length) := (Nat.pow_mul 2 e pre.length).symm
  have h1 : bv_ (2 ^ e) pre < 2 ^ (e * pre.length) := by
    rw [← hpw]; exact bv_lt (Nat.pow_pos (by omega)) pre hpre
  have hd : bv_ (2 ^ e) (pre ++ suf) / 2 ^ (e * pre.length) = bv_ (2 ^ e) suf := by
    rw [bv_app, hpw, Nat.add_mul_div_left _ _ hp, Nat.div_eq_of_lt h1, Nat.zero_add]
  have hm : bv_ (2 ^ e) (pre ++ suf) % 2 ^ (e * pre.length) = bv_ (2 ^ e) pre := by
    rw [bv_app, hpw, Nat.add_mul_mod_self_left, Nat.mod_eq_of_lt h1]
  rw [nt_and, hm, hd]
  have h2 : bv_ (2 ^ e) pre ||| v * 2 ^ (e * pre.length) = v * 2 ^ (e * pre.length) + bv_ (2 ^ e) pre := by
    rw [Nat.or_comm]; exact nt_or h1
  have h3 : v * 2 ^ (e * pre.length) + bv_ (2 ^ e) pre < 2 ^ (e * pre.length + e) := by
    rw [Nat.pow_add, Nat.mul_comm (2 ^ (e * pre.length)) (2 ^ e)]
    have := Nat.mul_le_mul_right (2 ^ (e * pre.length)) (show v + 1 ≤ 2 ^ e by omega)
    rw [Nat.succ_mul] at this
    omega
  rw [h2, Nat.or_comm, nt_or h3, bv_app, hpw]
  show bv_ (2 ^ e) suf * 2 ^ (e * pre.length + e) + _ = bv_ (2 ^ e) pre + 2 ^ (e * pre.length) * (v + 2 ^ e * bv_ (2 ^ e) suf)
  rw [Nat.pow_add, Nat.mul_add, Nat.mul_comm (2 ^ (e * pre.length)) v, Nat.mul_comm (bv_ (2 ^ e) suf), Nat.mul_assoc]
  omega
end WP1
