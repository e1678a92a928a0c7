/-! STAGE: the reference -/
section WL1
variable {S : sg_} {M Mc Mr : mm_M} {vs : List Nat} {L : List Nat} {h p : Nat} {t : Nat → Nat}
def stq_ (L : List Nat) (M : mm_M) : Prop := M.1 0 49 = Int32.ofNat L.length ∧ ∀ i v, L[i]? = some v → M.1 32 i = Int32.ofNat v
def sqs_ (S : sg_) (vs L : List Nat) (t : Nat → Nat) (M : mm_M) : Prop := rt_ S no_ vs M ∧ stq_ L M ∧ ∀ i, i < 3 → M.1 35 i = Int32.ofNat (t i)
def pw_st (a b : Nat) : Prop := pw_s2 a b ∨ a = 33 ∨ a = 34 ∨ (a = 0 ∧ b = 50)
theorem pw_st_pe {a b : Nat} (hp : pw_st a b) : ¬ pe_ S a b := by
  unfold pw_st at hp
  rcases hp with hp | hp
  · exact pw_s2_pe hp
  · unfold pe_; omega
theorem sqs_.fr {M' : mm_M} (hq : sqs_ S vs L t M) (hf : fr_ pw_st M M') : sqs_ S vs L t M' :=
  ⟨⟨hq.1.1.fr hf (fun a b hab => pw_st_pe hab) (by unfold pw_st pw_s2; omega) (by unfold pw_st pw_s2; omega), hq.1.2.fr hf (by unfold pw_st pw_s2; omega)⟩,
   ⟨by rw [hf.1 0 49 (by unfold pw_st pw_s2; omega)]; exact hq.2.1.1, fun i v hv => by rw [hf.1 32 i (by unfold pw_st pw_s2; omega)]; exact hq.2.1.2 i v hv⟩,
   fun i hi => by rw [hf.1 35 i (by unfold pw_st pw_s2; omega)]; exact hq.2.2 i hi⟩
theorem r_stagedAt (hs : stq_ L M) (hl : L.length ≤ 7) (hL : ∀ x, x ∈ L → x < 20) (hnd : L.Nodup) {w : Nat} (hw : w < 20) : f_X12_stagedAt (Int32.ofNat w) M = some (sto_ (sei_ L w)) := by
  have key : ∀ (e k n : Nat), k + e = L.length → e < n → f_X12_stagedAt_4l M n (Int32.ofNat w) (sto_ (fnd_ (fun i => decide (L[i]? = some w)) k)) (Int32.ofNat k) = some (sto_ (sei_ L w)) := by
    intro e
    induction e with
    | zero =>
      intro k n hk hn
      obtain ⟨m, rfl⟩ : ∃ m, n = m + 1 := ⟨n - 1, by omega⟩
      have hkk : k = L.length := by omega
      unfold f_X12_stagedAt_4l f_X12_stagedAt_4 sei_
      rw [hs.1, if_pos ((n3_le (by omega) (by omega)).mpr (by omega)), hkk]
    | succ e ih =>
      intro k n hk hn
      obtain ⟨m, rfl⟩ : ∃ m, n = m + 1 := ⟨n - 1, by omega⟩
      have hkl : k < L.length := by omega
      have hat : L[k]? = some L[k] := List.getElem?_eq_getElem hkl
      have h20 := hL L[k] (List.getElem_mem hkl)
      have go := ih (k + 1) m (by omega) (by omega)
      unfold f_X12_stagedAt_4l f_X12_stagedAt_4 f_X12_stagedAt_27
      rw [hs.1, if_neg (by rw [n3_le (by omega) (by omega)]; omega), if_pos ((n3_ix (by omega)).mpr (by omega)), n3_tn (by omega), hs.2 k _ hat]
      by_cases c : L[k] = w
      · have hf := fnd_s (P := fun i => decide (L[i]? = some w)) (k := k) (fun i hi2 => decide_eq_false (fun hh => by
          have hil : i < L.length := by omega
          rw [List.getElem?_eq_getElem hil] at hh
          have h1 : L[i] = L[k] := by rw [Option.some.inj hh, c]
          exact (List.pairwise_iff_getElem.mp hnd) i k hil hkl hi2 h1)) (decide_eq_true (by rw [hat, c])) 0
        rw [Nat.add_zero] at hf
        rw [hf] at go
        rw [if_pos (by rw [c]), sq_n, show Int32.ofNat k + 1 = Int32.ofNat (k + 1) from n3_add k 1]
        exact go
      · rw [fnd_1 (P := fun i => decide (L[i]? = some w)) (decide_eq_false (fun hh => c (by rw [hat] at hh; exact Option.some.inj hh)))] at go
        rw [if_neg (by rw [n3_eq (by omega) (by omega)]; exact c), sq_n, show Int32.ofNat k + 1 = Int32.ofNat (k + 1) from n3_add k 1]
        exact go
  exact key L.length 0 fu_ (by omega) (by unfold fu_; omega)
theorem r_onStage (hI : ir_ S M) (hw : wf_ S) {s : Nat} (hs : s < S 0 28) : f_X12_isOnStage (Int32.ofNat s) M = some (bi_ (stg_ S s)) := by
  have h16 := hw.signs
  have hk := hw.kind s hs
  have hix : ix_ok (Int32.ofNat s) 17 := (n3_ix (by omega)).mpr (by omega)
  unfold f_X12_isOnStage stg_
  simp only [n3_tn (show s < 2147483648 by omega)]
  rw [if_pos hix, if_pos hix, (hI.sg hs).2.2.2.2.2.2, (hI.sg hs).1]
  by_cases c : S 26 s = 1
  · rw [if_neg (by rw [on_ne hw hs]; exact fun hh => hh c), decide_eq_true c, Bool.true_and]
    by_cases c2 : S 18 s < 2
    · rw [if_neg (show ¬ ((2 : Int32) ≤ Int32.ofNat (S 18 s)) from fun hh => by have := (n3_le (a := 2) (by omega) (by omega)).mp hh; omega), decide_eq_true c2]; rfl
    · rw [if_pos (show (2 : Int32) ≤ Int32.ofNat (S 18 s) from (n3_le (a := 2) (by omega) (by omega)).mpr (by omega)), decide_eq_false c2]; rfl
  · rw [if_pos (by rw [on_ne hw hs]; exact c), decide_eq_false c]; rfl
/-- choices below R are tried -/
def psq_ (m : Nat) (f : Nat → Nat) (R : Nat) (M : mm_M) : Prop := (R = 0 → M.1 0 50 = -1) ∧ (1 ≤ R → M.1 0 50 = Int32.ofNat (f (abx_ f (R - 1))) ∧ ∀ k, k < m → M.1 34 k = Int32.ofNat (dg_ (m - 1 - k) (abx_ f (R - 1))))
theorem psq_.fr {m R : Nat} {f : Nat → Nat} {M' : mm_M} (hq : psq_ m f R M) (h1 : M'.1 0 50 = M.1 0 50) (h2 : ∀ k, M'.1 34 k = M.1 34 k) : psq_ m f R M' :=
  ⟨fun h0 => by rw [h1]; exact hq.1 h0, fun h0 => ⟨by rw [h1]; exact (hq.2 h0).1, fun k hk => by rw [h2]; exact (hq.2 h0).2 k hk⟩⟩
/-- one choice is counted -/
theorem q_leaf_l (hw : wf_ S) (hl7 : L.length ≤ 7) (hL : ∀ x, x ∈ L → x < 20) (hnd : L.Nodup) (hh : h < 600) (ht : ∀ i, i < 3 → t i < 601) (hp : p < 6) {r : Nat} {rc : Int32 → Int32 → Int32 → mm_M → Option mm_M} {Q : mm_M → Prop} {M0 : mm_M} (hq0 : sqs_ S vs L t M0) (hd0 : ∀ k, k < L.length → M0.1 33 k = Int32.ofNat (dg_ (L.length - 1 - k) r))
    (hQ : ∀ M', fr_ pw_s2 M0 M' → wp_ (f_X12_stages_192 rc (Int32.ofNat (sct_ S L (sgF_ S h p t) r)) M') Q) :
    ∀ (e k n : Nat) (M : mm_M), k + e = S 0 28 → e < n → fr_ pw_s2 M0 M →
    wp_ (f_X12_stages_47l rc n (Int32.ofNat h) (Int32.ofNat p) (Int32.ofNat (nb_ (fun s => prb_ S L s && sch_ S L (sgF_ S h p t) r s) k)) (Int32.ofNat k) M) Q := by
  have h16 := hw.signs
  have h20w := hw.words
  intro e
  induction e with
  | zero =>
    intro k n M hk hn hf
    obtain ⟨m, rfl⟩ : ∃ m, n = m + 1 := ⟨n - 1, by omega⟩
    have hkk : k = S 0 28 := by omega
    have hq := hq0.fr (hf.mono (fun a b hab => Or.inl hab))
    unfold f_X12_stages_47l f_X12_stages_47
    rw [hq.1.1.1.signs, if_pos ((n3_le (by omega) (by omega)).mpr (by omega)), hkk]
    exact hQ M hf
  | succ e ih =>
    intro k n M hk hn hf
    obtain ⟨m, rfl⟩ : ∃ m, n = m + 1 := ⟨n - 1, by omega⟩
    have hks : k < S 0 28 := by omega
    have e1 : Int32.ofNat k + 1 = Int32.ofNat (k + 1) := n3_add k 1
    have hq := hq0.fr (hf.mono (fun a b hab => Or.inl hab))
    have hone := hw.one k hks
    have hix : ix_ok (Int32.ofNat k) 17 := (n3_ix (by omega)).mpr (by omega)
    have hnb : nb_ (fun s => prb_ S L s && sch_ S L (sgF_ S h p t) r s) (k + 1) = nb_ (fun s => prb_ S L s && sch_ S L (sgF_ S h p t) r s) k + (if (prb_ S L k && sch_ S L (sgF_ S h p t) r k) = true then 1 else 0) := rfl
    have hnl := nb_le (f := fun s => prb_ S L s && sch_ S L (sgF_ S h p t) r s) k
    have skip : ∀ M', fr_ pw_s2 M0 M' → prb_ S L k = false → wp_ (f_X12_stages_186 rc (f_X12_stages_47l rc m) (Int32.ofNat h) (Int32.ofNat p) (Int32.ofNat (nb_ (fun s => prb_ S L s && sch_ S L (sgF_ S h p t) r s) k)) (Int32.ofNat k) M') Q := by
      intro M' hf' hb
      unfold f_X12_stages_186
      refine wp_sr ?_
      have go := ih (k + 1) m M' (by omega) (by omega) hf'
      rw [hnb, hb, Bool.false_and, if_neg (by decide), Nat.add_zero] at go
      rw [e1]; exact go
    unfold f_X12_stages_47l f_X12_stages_47
    rw [hq.1.1.1.signs, if_neg (by rw [n3_le (by omega) (by omega)]; omega)]
    refine wp_ck hix ?_
    simp only [n3_tn (show k < 2147483648 by omega)]
    rw [(hq.1.1.1.sg hks).2.1]
    refine wp_be (r_stagedAt hq.2.1 hl7 hL hnd (by omega)) (wp_be (r_onStage hq.1.1.1 hw hks) ?_)
    cases hst : stg_ S k with
    | false =>
      rw [if_pos (by decide)]
      unfold f_X12_stages_93
      have sk := skip M hf (by unfold prb_; rw [hst]; rfl)
      refine wp_if (fun _ => sk) (fun _ => ?_)
      rw [if_pos (show (-1 : Int32) < 0 by decide)]
      exact sk
    | true =>
      obtain ⟨s1, s2⟩ := stg_k hst
      have hoth := (hw.oth k hks (by omega) (by omega)).1
      rw [if_neg (by decide)]
      refine wp_ck hix ?_
      rw [hq.1.1.1.oth hks (by omega) (by omega)]
      refine wp_be (r_stagedAt hq.2.1 hl7 hL hnd (by omega)) ?_
      unfold f_X12_stages_93
      cases q1 : sei_ L (S 19 k) with
      | none =>
        rw [if_pos (show sto_ none < 0 by decide)]
        exact skip M hf (by unfold prb_; rw [hst, q1]; rfl)
      | some a =>
        obtain ⟨a1, -⟩ := sei_at q1
        rw [if_neg (show ¬ (sto_ (some a) < 0) from fun hh => (n3_neg (a := a) (by omega)).mp hh)]
        cases q2 : sei_ L (S 20 k) with
        | none =>
          rw [if_pos (show sto_ none < 0 by decide)]
          exact skip M hf (by unfold prb_; rw [hst, q1, q2]; rfl)
        | some b =>
          obtain ⟨b1, -⟩ := sei_at q2
          have hb : prb_ S L k = true := by unfold prb_; rw [hst, q1, q2]; rfl
          rw [if_neg (show ¬ (sto_ (some b) < 0) from fun hh => (n3_neg (a := b) (by omega)).mp hh), show sto_ (some a) = Int32.ofNat a from rfl, show sto_ (some b) = Int32.ofNat b from rfl]
          simp only [n3_tn (show k < 2147483648 by omega), n3_tn (show a < 2147483648 by omega), n3_tn (show b < 2147483648 by omega)]
          have d1 := dg_lt (j := L.length - 1 - a) (r := r)
          have d2 := dg_lt (j := L.length - 1 - b) (r := r)
          have t1 := ht _ d1
          have t2 := ht _ d2
          have m33 : ∀ i, i < L.length → M.1 33 i = Int32.ofNat (dg_ (L.length - 1 - i) r) := fun i hi => by rw [hf.1 33 i (by unfold pw_s2; omega)]; exact hd0 i hi
          have hixa : ix_ok (Int32.ofNat a) 7 := (n3_ix (by omega)).mpr (by omega)
          have hixb : ix_ok (Int32.ofNat b) 7 := (n3_ix (by omega)).mpr (by omega)
          refine wp_ck hix (wp_ck hixa ?_)
          rw [m33 a a1]
          refine wp_ck ((n3_ix (by omega)).mpr d1) ?_
          simp only [n3_tn (show dg_ (L.length - 1 - a) r < 2147483648 by omega)]
          rw [(hq.1.1.1.sg hks).2.1, hq.2.2 _ d1]
          refine wp_bd (wp_mo (r_sd (hand := 0) hq.1.1 hw hone (by omega) (show h < 2147483648 by omega) (show t (dg_ (L.length - 1 - a) r) < 2147483648 by omega) hp) (fun z hz => ?_))
          have f1 : fr_ pw_s2 M z := hz.1.mono (fun a b hab => pw_sa2 hab)
          have hqz := hq.fr (f1.mono (fun a b hab => Or.inl hab))
          refine wp_ck hix (wp_ck hixb ?_)
          rw [f1.1 33 b (by unfold pw_s2; omega), m33 b b1]
          refine wp_ck ((n3_ix (by omega)).mpr d2) ?_
          simp only [n3_tn (show dg_ (L.length - 1 - b) r < 2147483648 by omega)]
          rw [hqz.1.1.1.oth hks (by omega) (by omega), hqz.2.2 _ d2]
          refine wp_bd (wp_mo (r_sd (hand := 1) hqz.1.1 hw hoth (by omega) (show h < 2147483648 by omega) (show t (dg_ (L.length - 1 - b) r) < 2147483648 by omega) hp) (fun u hu => ?_))
          have f2 : fr_ pw_s2 z u := hu.1.mono (fun a b hab => pw_sa2 hab)
          have hqu := hqz.fr (f2.mono (fun a b hab => Or.inl hab))
          have ok1 : ok_ (sd_n S no_ (S 19 k) h (t (dg_ (L.length - 1 - a) r)) p) := sd_ok hw hone
          have ok2 : ok_ (sd_n S no_ (S 20 k) h (t (dg_ (L.length - 1 - b) r)) p) := sd_ok hw hoth
          have hd0' : hd_ u 0 (sd_n S no_ (S 19 k) h (t (dg_ (L.length - 1 - a) r)) p) := hz.2.fr hu.1 (by simp [pw_sa, pw_wk, pw_ln]) (fun i hi2 => by
            have := ok1.1
            unfold pw_sa pw_wk pw_ln
            omega)
          refine wp_ck hix ?_
          rw [(hqu.1.1.1.sg hks).1]
          have sea1 : sea_ L (S 19 k) = a := by unfold sea_; rw [q1]; rfl
          have sea2 : sea_ L (S 20 k) = b := by unfold sea_; rw [q2]; rfl
          have hsch : sch_ S L (sgF_ S h p t) r k = ho_k S (S 18 k) (S 23 k) (sd_n S no_ (S 19 k) h (t (dg_ (L.length - 1 - a) r)) p) (sd_n S no_ (S 20 k) h (t (dg_ (L.length - 1 - b) r)) p) := by
            unfold sch_
            rw [sea1, sea2]; rfl
          have fin : ∀ bb, bb = sch_ S L (sgF_ S h p t) r k → wp_ (f_X12_stages_180 rc (f_X12_stages_47l rc m) (Int32.ofNat h) (Int32.ofNat p) (Int32.ofNat k) (Int32.ofNat (nb_ (fun s => prb_ S L s && sch_ S L (sgF_ S h p t) r s) k)) (bi_ bb) u) Q := by
            intro bb hbb
            unfold f_X12_stages_180 f_X12_stages_186
            refine wp_sr (wp_sr (wp_sr ?_))
            have go := ih (k + 1) m u (by omega) (by omega) ((hf.trans f1).trans f2)
            rw [hnb, hb, Bool.true_and, ← hbb] at go
            rw [tr_bi, e1]
            cases bb with
            | false =>
              rw [if_neg (by decide), Nat.add_zero] at go
              rw [show bi_ false = Int32.ofNat 0 from rfl, n3_add, Nat.add_zero]; exact go
            | true =>
              rw [if_pos rfl] at go
              rw [show bi_ true = Int32.ofNat 1 from rfl, n3_add]; exact go
          by_cases c0 : S 18 k = 0
          · rw [if_pos (by rw [c0]; rfl)]
            refine wp_be (r_rh hqu.1.1.1 ok1 ok2 hd0' hu.2) (fin _ ?_)
            rw [hsch, c0, ho_k0]
          · rw [if_neg (show ¬ (Int32.ofNat (S 18 k) = 0) from fun hh => c0 ((n3_eq (b := 0) (by omega) (by omega)).mp hh))]
            refine wp_be (r_al ok1 ok2 hd0' hu.2) (fin _ ?_)
            rw [hsch, show S 18 k = 1 by omega]
            unfold ho_k
            rw [if_pos rfl]
end WL1
