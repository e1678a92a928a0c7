/-! STAGE: the class plays, and tells -/
section WK1
variable {S : sg_} {M Mc Mr : mm_M} {vs : List Nat} {L : List Nat} {F : Nat → Nat → Nat → Bool}
def sch_ (S : sg_) (L : List Nat) (F : Nat → Nat → Nat → Bool) (r s : Nat) : Bool := F s (dg_ (L.length - 1 - sea_ L (S 19 s)) r) (dg_ (L.length - 1 - sea_ L (S 20 s)) r)
def sct_ (S : sg_) (L : List Nat) (F : Nat → Nat → Nat → Bool) (r : Nat) : Nat := nb_ (fun s => prb_ S L s && sch_ S L F r s) (S 0 28)
theorem prs_nl {g : Nat → Bool} : ∀ k, nl_ g (prs_ S L k) = nb_ (fun s => prb_ S L s && g s) k := by
  intro k
  induction k with
  | zero => rfl
  | succ k ih =>
    show nl_ g (if prb_ S L k = true then prs_ S L k ++ [k] else prs_ S L k) = nb_ (fun s => prb_ S L s && g s) k + (if (prb_ S L k && g k) = true then 1 else 0)
    cases hp : prb_ S L k with
    | false => rw [if_neg (by decide), Bool.false_and, if_neg (by decide), Nat.add_zero, ih]
    | true => rw [if_pos rfl, Bool.true_and, nl_s, ih]
theorem sct_le (hw : wf_ S) {r : Nat} : sct_ S L F r ≤ 16 := by
  have := nb_le (f := fun s => prb_ S L s && sch_ S L F r s) (S 0 28)
  have := hw.signs
  unfold sct_
  omega
theorem sea_lt {s : Nat} (h : prb_ S L s = true) : sea_ L (S 19 s) < L.length ∧ sea_ L (S 20 s) < L.length := by
  unfold prb_ at h
  obtain ⟨-, h2⟩ := and_t h
  obtain ⟨h3, h4⟩ := and_t h2
  exact ⟨(sei_at (sei_some h3)).1, (sei_at (sei_some h4)).1⟩
theorem c_countSo (hw : wf_ S) (hp : prc_ S L F (S 0 28) M) (hl7 : L.length ≤ 7) {r : Nat} (hc : chn_ L.length r M) : f_X7_countSo M = some (Int32.ofNat (sct_ S L F r)) := by
  have h16 := hw.signs
  have hpl := prs_len (S := S) (L := L) (S 0 28)
  have key : ∀ (rest pre : List Nat) (n : Nat), prs_ S L (S 0 28) = pre ++ rest → rest.length < n → f_X7_countSo_4l M n (Int32.ofNat (nl_ (sch_ S L F r) pre)) (Int32.ofNat pre.length) = some (Int32.ofNat (sct_ S L F r)) := by
    intro rest
    induction rest with
    | nil =>
      intro pre n e1 hn
      obtain ⟨m, rfl⟩ : ∃ m, n = m + 1 := ⟨n - 1, by omega⟩
      rw [List.append_nil] at e1
      unfold f_X7_countSo_4l f_X7_countSo_4
      rw [hp.1, e1, if_pos (Int32.le_refl _), ← e1, prs_nl]; rfl
    | cons s rest ih =>
      intro pre n e1 hn
      obtain ⟨m, rfl⟩ : ∃ m, n = m + 1 := ⟨n - 1, by omega⟩
      have hlen : (prs_ S L (S 0 28)).length = pre.length + (rest.length + 1) := by rw [e1]; simp
      have hat : (prs_ S L (S 0 28))[pre.length]? = some s := by rw [e1]; simp
      obtain ⟨u1, u2, u3⟩ := hp.2 _ _ hat
      obtain ⟨-, hb⟩ := prs_mem (S 0 28) s (by rw [e1]; simp)
      obtain ⟨a1, a2⟩ := sea_lt hb
      have hix : ix_ok (Int32.ofNat pre.length) 16 := (n3_ix (by omega)).mpr (by omega)
      have d1 := dg_lt (j := L.length - 1 - sea_ L (S 19 s)) (r := r)
      have d2 := dg_lt (j := L.length - 1 - sea_ L (S 20 s)) (r := r)
      have hq : Int32.ofNat (dg_ (L.length - 1 - sea_ L (S 19 s)) r) * 3 + Int32.ofNat (dg_ (L.length - 1 - sea_ L (S 20 s)) r) = Int32.ofNat (dg_ (L.length - 1 - sea_ L (S 19 s)) r * 3 + dg_ (L.length - 1 - sea_ L (S 20 s)) r) := by
        show Int32.ofNat _ * Int32.ofNat 3 + _ = _
        rw [n3_mul, n3_add]
      unfold f_X7_countSo_4l f_X7_countSo_4
      simp only [n3_tn (show pre.length < 2147483648 by omega)]
      rw [hp.1, if_neg (by rw [n3_le (by omega) (by omega)]; omega), u1, u2, u3]
      simp only [n3_tn (show sea_ L (S 19 s) < 2147483648 by omega), n3_tn (show sea_ L (S 20 s) < 2147483648 by omega)]
      rw [if_pos hix, if_pos hix, if_pos ((n3_ix (by omega)).mpr (by omega)), if_pos hix, if_pos ((n3_ix (by omega)).mpr (by omega)), hc _ a1, hc _ a2, hq, ib_bit (by omega), mk_bit (by omega) (by omega), sq_n, sq_n,
        show (dg_ (L.length - 1 - sea_ L (S 19 s)) r * 3 + dg_ (L.length - 1 - sea_ L (S 20 s)) r) / 3 = dg_ (L.length - 1 - sea_ L (S 19 s)) r by omega, show (dg_ (L.length - 1 - sea_ L (S 19 s)) r * 3 + dg_ (L.length - 1 - sea_ L (S 20 s)) r) % 3 = dg_ (L.length - 1 - sea_ L (S 20 s)) r by omega]
      have go := ih (pre ++ [s]) m (by rw [e1]; simp) (by simp at hn; omega)
      rw [nl_s, List.length_append] at go
      rw [show Int32.ofNat pre.length + 1 = Int32.ofNat (pre.length + 1) from n3_add _ 1]
      have hsc : sch_ S L F r s = F s (dg_ (L.length - 1 - sea_ L (S 19 s)) r) (dg_ (L.length - 1 - sea_ L (S 20 s)) r) := rfl
      rw [← hsc]
      cases hb2 : sch_ S L F r s with
      | false =>
        rw [hb2, if_neg (by decide)] at go
        rw [if_neg (by decide), show (0 : Int32) = Int32.ofNat 0 from rfl, n3_add]
        exact go
      | true =>
        rw [hb2, if_pos rfl] at go
        rw [if_pos rfl, show (1 : Int32) = Int32.ofNat 1 from rfl, n3_add]
        exact go
  exact key (prs_ S L (S 0 28)) [] fu_ rfl (by unfold fu_; omega)
/-- choices below R are tried -/
def psc_ (m : Nat) (f : Nat → Nat) (R : Nat) (x : Int32) (M : mm_M) : Prop := (R = 0 → x = -1) ∧ (1 ≤ R → x = Int32.ofNat (f (abx_ f (R - 1))) ∧ ∀ k, k < m → M.1 44 k = Int32.ofNat (dg_ (m - 1 - k) (abx_ f (R - 1))))
theorem p3_7 {m : Nat} (h : m ≤ 7) : 3 ^ m ≤ 2187 := Nat.pow_le_pow_right (n := 3) (by omega) h
theorem k_play_l (hw : wf_ S) (hl7 : L.length ≤ 7) {M0 : mm_M} (hL : M0.1 42 1 = Int32.ofNat L.length) (hp : prc_ S L F (S 0 28) M0) :
    ∀ (e R n : Nat) (x : Int32) (M : mm_M), R + e = 3 ^ L.length → e < n → (∀ a b, a ≠ 46 → a ≠ 44 → M.1 a b = M0.1 a b) → M.2 = M0.2 → psc_ L.length (sct_ S L F) R x M → (R < 3 ^ L.length → chn_ L.length R M) →
    wp_ (f_X7_play_33l n x (Int32.ofNat (3 ^ L.length)) (Int32.ofNat R) M) (fun z => z.1 = Int32.ofNat (sct_ S L F (abx_ (sct_ S L F) (3 ^ L.length - 1))) ∧ (∀ a b, a ≠ 46 → a ≠ 44 → z.2.1 a b = M0.1 a b) ∧ z.2.2 = M0.2 ∧ ∀ k, k < L.length → z.2.1 44 k = Int32.ofNat (dg_ (L.length - 1 - k) (abx_ (sct_ S L F) (3 ^ L.length - 1)))) := by
  have h3 := p3_7 hl7
  have h1 := p3_pos L.length
  intro e
  induction e with
  | zero =>
    intro R n x M hR hn hm h2 hs hch
    obtain ⟨m, rfl⟩ : ∃ m, n = m + 1 := ⟨n - 1, by omega⟩
    have hRR : R = 3 ^ L.length := by omega
    unfold f_X7_play_33l f_X7_play_33
    rw [if_pos ((n3_le (by omega) (by omega)).mpr (by omega))]
    obtain ⟨s1, s2⟩ := hs.2 (by omega)
    rw [hRR] at s1 s2
    exact wp_some ⟨s1, hm, h2, s2⟩
  | succ e ih =>
    intro R n x M hR hn hm h2 hs hch
    obtain ⟨m, rfl⟩ : ∃ m, n = m + 1 := ⟨n - 1, by omega⟩
    have hc := hch (by omega)
    have hpM : prc_ S L F (S 0 28) M := ⟨by rw [hm 42 6 (by omega) (by omega)]; exact hp.1, fun j s hj => by
      rw [hm 47 j (by omega) (by omega), hm 48 j (by omega) (by omega), hm 49 j (by omega) (by omega)]; exact hp.2 j s hj⟩
    have hf := sct_le (L := L) (F := F) (r := R) hw
    have hLM : M.1 42 1 = Int32.ofNat L.length := by rw [hm 42 1 (by omega) (by omega)]; exact hL
    have nxt : ∀ (x' : Int32) (M' : mm_M), (∀ a b, a ≠ 44 → M'.1 a b = M.1 a b) → M'.2 = M.2 → psc_ L.length (sct_ S L F) (R + 1) x' M' → wp_ (f_X7_play_70 (f_X7_play_33l m) x' (Int32.ofNat (3 ^ L.length)) (Int32.ofNat R) M') (fun z => z.1 = Int32.ofNat (sct_ S L F (abx_ (sct_ S L F) (3 ^ L.length - 1))) ∧ (∀ a b, a ≠ 46 → a ≠ 44 → z.2.1 a b = M0.1 a b) ∧ z.2.2 = M0.2 ∧ ∀ k, k < L.length → z.2.1 44 k = Int32.ofNat (dg_ (L.length - 1 - k) (abx_ (sct_ S L F) (3 ^ L.length - 1)))) := by
      intro x' M' hm' h2' hs'
      have hc' : chn_ L.length R M' := fun k hk => by rw [hm' 46 k (by omega)]; exact hc k hk
      unfold f_X7_play_70
      by_cases c : R + 1 < 3 ^ L.length
      · refine wp_bd (wp_mo (k_next (M := M') (L := L) (by rw [hm' 42 1 (by omega)]; exact hLM) hl7 hc' c) (fun z hz => wp_sr ?_))
        rw [show Int32.ofNat R + 1 = Int32.ofNat (R + 1) from n3_add R 1]
        refine ih (R + 1) m x' z (by omega) (by omega) (fun a b h5 h6 => by rw [hz.1 a b h5, hm' a b h6]; exact hm a b h5 h6) (by rw [hz.2.1, h2', h2]) ⟨hs'.1, fun h7 => ⟨(hs'.2 h7).1, fun k hk => by rw [hz.1 44 k (by omega)]; exact (hs'.2 h7).2 k hk⟩⟩ (fun _ => hz.2.2)
      · refine wp_bd (wp_mo (k_nextE (M := M') (L := L) (by rw [hm' 42 1 (by omega)]; exact hLM) hl7 hc') (fun z hz => wp_sr ?_))
        rw [show Int32.ofNat R + 1 = Int32.ofNat (R + 1) from n3_add R 1]
        refine ih (R + 1) m x' z (by omega) (by omega) (fun a b h5 h6 => by rw [hz.1 a b h5, hm' a b h6]; exact hm a b h5 h6) (by rw [hz.2, h2', h2]) ⟨hs'.1, fun h7 => ⟨(hs'.2 h7).1, fun k hk => by rw [hz.1 44 k (by omega)]; exact (hs'.2 h7).2 k hk⟩⟩ (fun h7 => absurd h7 c)
    have take : (R = 0 ∨ (1 ≤ R ∧ ¬ (sct_ S L F R ≤ sct_ S L F (abx_ (sct_ S L F) (R - 1))))) → abx_ (sct_ S L F) (R + 1 - 1) = R := by
      intro h0
      rw [Nat.add_sub_cancel]
      rcases h0 with h0 | ⟨h0, h4⟩
      · rw [h0]; rfl
      · obtain ⟨R', rfl⟩ : ∃ R', R = R' + 1 := ⟨R - 1, by omega⟩
        rw [Nat.add_sub_cancel] at h4
        show (if _ then _ else _) = _
        rw [if_neg h4]
    have doit : ¬ (Int32.ofNat (sct_ S L F R) ≤ x) → abx_ (sct_ S L F) (R + 1 - 1) = R → wp_ (if Int32.ofNat (sct_ S L F R) ≤ x then f_X7_play_70 (f_X7_play_33l m) x (Int32.ofNat (3 ^ L.length)) (Int32.ofNat R) M else (if ¬ (M.1 42 1) < 0 ∧ (M.1 42 1).toNatClampNeg ≤ 7 then sq_ (mm_ai M 44 (va_cpy (M.1 46) (M.1 44) 0 0 (M.1 42 1).toNatClampNeg)) fun M10 => f_X7_play_70 (f_X7_play_33l m) (Int32.ofNat (sct_ S L F R)) (Int32.ofNat (3 ^ L.length)) (Int32.ofNat R) M10 else none)) (fun z => z.1 = Int32.ofNat (sct_ S L F (abx_ (sct_ S L F) (3 ^ L.length - 1))) ∧ (∀ a b, a ≠ 46 → a ≠ 44 → z.2.1 a b = M0.1 a b) ∧ z.2.2 = M0.2 ∧ ∀ k, k < L.length → z.2.1 44 k = Int32.ofNat (dg_ (L.length - 1 - k) (abx_ (sct_ S L F) (3 ^ L.length - 1)))) := by
      intro hx ha
      rw [if_neg hx]
      refine wp_ck ⟨by rw [hLM]; exact fun hh => (n3_neg (by omega)).mp hh, by rw [hLM, n3_tn (by omega)]; exact hl7⟩ (wp_sr ?_)
      refine nxt _ _ (fun a b hab => by rw [ai_1, if_neg hab]) rfl ⟨fun h0 => by omega, fun _ => ⟨by rw [ha], fun k hk => ?_⟩⟩
      rw [ai_1, if_pos rfl, hLM, n3_tn (by omega), ha]
      unfold va_cpy
      rw [if_pos (by omega), show 0 + (k - 0) = k by omega]
      exact hc k hk
    unfold f_X7_play_33l f_X7_play_33
    rw [if_neg (by rw [n3_le (by omega) (by omega)]; omega)]
    refine wp_be (c_countSo hw hpM hl7 hc) ?_
    by_cases c0 : R = 0
    · refine doit ?_ (take (Or.inl c0))
      rw [hs.1 c0]
      intro hh
      rw [Int32.le_iff_toInt_le, n3_ti (by omega)] at hh
      have : Int32.toInt (-1) = -1 := by decide
      omega
    · obtain ⟨s1, s2⟩ := hs.2 (by omega)
      have hf2 := sct_le (L := L) (F := F) (r := abx_ (sct_ S L F) (R - 1)) hw
      by_cases c : sct_ S L F R ≤ sct_ S L F (abx_ (sct_ S L F) (R - 1))
      · rw [s1, if_pos ((n3_le (by omega) (by omega)).mpr c)]
        have ha : abx_ (sct_ S L F) (R + 1 - 1) = abx_ (sct_ S L F) (R - 1) := by
          rw [Nat.add_sub_cancel]
          obtain ⟨R', rfl⟩ : ∃ R', R = R' + 1 := ⟨R - 1, by omega⟩
          rw [Nat.add_sub_cancel] at c ⊢
          show (if _ then _ else _) = _
          rw [if_pos c]
        exact nxt _ M (fun _ _ _ => rfl) rfl ⟨fun h0 => by omega, fun _ => ⟨by rw [ha], fun k hk => by rw [ha]; exact s2 k hk⟩⟩
      · refine doit ?_ (take (Or.inr ⟨by omega, c⟩))
        rw [s1, n3_le (by omega) (by omega)]; exact c
theorem k_play (hw : wf_ S) (hl7 : L.length ≤ 7) {M0 : mm_M} (hL : M0.1 42 1 = Int32.ofNat L.length) (hp : prc_ S L F (S 0 28) M0) :
    wp_ (f_X7_play M0) (fun z => z.1 = Int32.ofNat (sct_ S L F (abx_ (sct_ S L F) (3 ^ L.length - 1))) ∧ (∀ a b, a ≠ 46 → a ≠ 44 → z.2.1 a b = M0.1 a b) ∧ z.2.2 = M0.2 ∧ ∀ k, k < L.length → z.2.1 44 k = Int32.ofNat (dg_ (L.length - 1 - k) (abx_ (sct_ S L F) (3 ^ L.length - 1)))) := by
  have key : ∀ (e k n : Nat) (M : mm_M), k + e = L.length → e < n → (∀ a b, a ≠ 46 → M.1 a b = M0.1 a b) → M.2 = M0.2 → (∀ i, i < k → M.1 46 i = Int32.ofNat 0) →
      wp_ (f_X7_play_6l n (-1) (Int32.ofNat (3 ^ k)) (Int32.ofNat k) M) (fun z => z.1 = Int32.ofNat (sct_ S L F (abx_ (sct_ S L F) (3 ^ L.length - 1))) ∧ (∀ a b, a ≠ 46 → a ≠ 44 → z.2.1 a b = M0.1 a b) ∧ z.2.2 = M0.2 ∧ ∀ k, k < L.length → z.2.1 44 k = Int32.ofNat (dg_ (L.length - 1 - k) (abx_ (sct_ S L F) (3 ^ L.length - 1)))) := by
    intro e
    induction e with
    | zero =>
      intro k n M hk hn hm h2 hz
      obtain ⟨m, rfl⟩ : ∃ m, n = m + 1 := ⟨n - 1, by omega⟩
      have hkk : k = L.length := by omega
      have h3 := p3_7 hl7
      unfold f_X7_play_6l f_X7_play_6 f_X7_play_31
      rw [hm 42 1 (by omega), hL, if_pos ((n3_le (by omega) (by omega)).mpr (by omega)), hkk]
      refine k_play_l hw hl7 hL hp (3 ^ L.length) 0 fu_ (-1) M (by omega) (by unfold fu_; omega) (fun a b h5 _ => hm a b h5) h2 ⟨fun _ => rfl, fun h0 => by omega⟩ (fun _ k hk => ?_)
      rw [hz k (by omega)]
      unfold dg_
      rw [Nat.zero_div]
    | succ e ih =>
      intro k n M hk hn hm h2 hz
      obtain ⟨m, rfl⟩ : ∃ m, n = m + 1 := ⟨n - 1, by omega⟩
      unfold f_X7_play_6l f_X7_play_6
      rw [hm 42 1 (by omega), hL, if_neg (by rw [n3_le (by omega) (by omega)]; omega)]
      refine wp_ck ((n3_ix (by omega)).mpr (by omega)) (wp_sr (wp_sr (wp_sr ?_)))
      rw [n3_tn (by omega), show (3 : Int32) = Int32.ofNat 3 from rfl, n3_mul, ← Nat.pow_succ, show Int32.ofNat k + 1 = Int32.ofNat (k + 1) from n3_add k 1]
      refine ih (k + 1) m _ (by omega) (by omega) (fun a b hab => by rw [si_1, if_neg (by omega)]; exact hm a b hab) h2 (fun i hi => ?_)
      rw [si_1]
      by_cases c : i = k
      · rw [if_pos ⟨rfl, c⟩]; rfl
      · rw [if_neg (by simp [c])]; exact hz i (by omega)
  exact key L.length 0 fu_ M0 (by omega) (by unfold fu_; omega) (fun _ _ _ => rfl) rfl (fun i hi => by omega)
/-- the row -/
def stV_ (L : List Nat) (r : Nat) : Nat → List Nat
  | 0 => []
  | k + 1 => stV_ L r k ++ [L.getD k 0, dg_ (L.length - 1 - k) r]
theorem stV_len {r : Nat} : ∀ k, (stV_ L r k).length = 2 * k := by
  intro k
  induction k with
  | zero => rfl
  | succ k ih =>
    show (stV_ L r k ++ _).length = _
    rw [List.length_append, ih]; simp; omega
theorem stV_lt {r : Nat} (h20 : ∀ x, x ∈ L → x < 20) : ∀ k v, v ∈ stV_ L r k → v < 20 := by
  intro k
  induction k with
  | zero => intro v hv; cases hv
  | succ k ih =>
    intro v hv
    have hv2 : v ∈ stV_ L r k ++ [L.getD k 0, dg_ (L.length - 1 - k) r] := hv
    simp only [List.mem_append, List.mem_cons, List.not_mem_nil, or_false] at hv2
    rcases hv2 with hv2 | hv2 | hv2
    · exact ih v hv2
    · rw [hv2, List.getD_eq_getElem?_getD]
      cases hq : L[k]? with
      | none => show 0 < 20; omega
      | some x => exact h20 x (List.mem_of_getElem? hq)
    · have := dg_lt (j := L.length - 1 - k) (r := r); omega
theorem k_strow (hw : wf_ S) (hl7 : L.length ≤ 7) (h20 : ∀ x, x ∈ L → x < 20) {r : Nat} {x : Int32} : ∀ (e k n : Nat) (M : mm_M), k + e = L.length → e < n → cs_ S (stV_ L r k) M → stc_ L M → (∀ i, i < L.length → M.1 44 i = Int32.ofNat (dg_ (L.length - 1 - i) r)) →
    wp_ (f_X11_stage_247l n x (Int32.ofNat k) M) (fun z => z.1 = x ∧ cs_ S (stV_ L r L.length) z.2) := by
  intro e
  induction e with
  | zero =>
    intro k n M hk hn hc hs hb
    obtain ⟨m, rfl⟩ : ∃ m, n = m + 1 := ⟨n - 1, by omega⟩
    have hkk : k = L.length := by omega
    unfold f_X11_stage_247l f_X11_stage_247
    rw [hs.1, if_pos ((n3_le (by omega) (by omega)).mpr (by omega))]
    rw [hkk] at hc
    exact wp_some ⟨rfl, hc⟩
  | succ e ih =>
    intro k n M hk hn hc hs hb
    obtain ⟨m, rfl⟩ : ∃ m, n = m + 1 := ⟨n - 1, by omega⟩
    have hkl : k < L.length := by omega
    have hat : L[k]? = some (L.getD k 0) := by rw [List.getD_eq_getElem?_getD, List.getElem?_eq_getElem hkl]; rfl
    have hx := h20 _ (List.mem_of_getElem? hat)
    have hd := dg_lt (j := L.length - 1 - k) (r := r)
    have hix : ix_ok (Int32.ofNat k) 7 := (n3_ix (by omega)).mpr (by omega)
    have hvl := stV_len (L := L) (r := r) k
    unfold f_X11_stage_247l f_X11_stage_247
    simp only [n3_tn (show k < 2147483648 by omega)]
    rw [hs.1, if_neg (by rw [n3_le (by omega) (by omega)]; omega), hs.2 k _ hat, n3_6 (by omega)]
    refine wp_ck hix (wp_bd (wp_mo (hc.add hw (by omega) _) (fun u hu => wp_ck hix ?_)))
    rw [hu.2.1.1 44 k (by omega) (by omega) (by simp [pk_r]), hb k hkl, n3_6 (by omega)]
    refine wp_bd (wp_mo (hu.1.add hw (by rw [List.length_append]; simp; omega) _) (fun v hv => wp_sr ?_))
    rw [show Int32.ofNat k + 1 = Int32.ofNat (k + 1) from n3_add k 1]
    have hfr : ∀ a b, 42 ≤ a → a ≤ 49 → v.1 a b = M.1 a b := fun a b h1 h2 => by
      rw [hv.2.1.1 a b (by omega) (by omega) (by unfold pk_r; omega), hu.2.1.1 a b (by omega) (by omega) (by unfold pk_r; omega)]
    refine ih (k + 1) m v (by omega) (by omega) ?_ ⟨by rw [hfr 42 1 (by omega) (by omega)]; exact hs.1, fun i q hq => by rw [hfr 43 i (by omega) (by omega)]; exact hs.2 i q hq⟩ (fun i hi => by rw [hfr 44 i (by omega) (by omega)]; exact hb i hi)
    have := hv.1
    rw [List.append_assoc] at this
    exact this
theorem k_stage (hw : wf_ S) {h p : Nat} {t : Nat → Nat} (hh : h < hs_ S) (ht : ∀ i, i < 3 → t i < 601) (hp : p < 6) (hc : cs_ S vs M) :
    wp_ (sq_ (f_X7_clear M) fun z7 => f_X11_stage_38l fu_ (Int32.ofNat h) (Int32.ofNat p) (Int32.ofNat (t 0)) (Int32.ofNat (t 1)) (Int32.ofNat (t 2)) (0 : Int32) z7) (fun z => z.1 = Int32.ofNat (sct_ S (stL_ S) (sgF_ S h p t) (abx_ (sct_ S (stL_ S) (sgF_ S h p t)) (3 ^ (stL_ S).length - 1))) ∧ cs_ S (stV_ (stL_ S) (abx_ (sct_ S (stL_ S) (sgF_ S h p t)) (3 ^ (stL_ S).length - 1)) (stL_ S).length) z.2) := by
  have h16 := hw.signs
  have h6 := hw.laws
  have hl7 := stL_len (S := S)
  have h20 := stL_lt hw
  have t0 := ht 0 (by omega)
  have t1 := ht 1 (by omega)
  have t2 := ht 2 (by omega)
  have hclr : f_X7_clear M = mm_si (mm_si (mm_si M 42 0 0) 42 1 0) 42 6 0 := sq_n.trans (sq_n.trans sq_n)
  rw [hclr]
  refine wp_sr ?_
  have hc0 : cs_ S vs (mm_si (mm_si (mm_si M 42 0 0) 42 1 0) 42 6 0) := hc.st hw (((o42_si (by omega)).trans (o42_si (by omega))).trans (o42_si (by omega)))
  refine k_inv_l hw hc0.2.1 (fun M1 ho h1 h6b hb => ?_) (S 0 28) 0 fu_ _ (by omega) (by unfold fu_; omega) o42_.refl ?_ ?_ (fun w hw2 => ?_)
  · have hc1 := hc0.st hw ho
    unfold f_X11_stage_108
    refine wp_bd (wp_mo (k_seat hb h1) (fun M2 hM2 => ?_))
    have ho2 : o42_ M1 M2 := ⟨fun a b hab => hM2.1 a b (by omega), hM2.2.1⟩
    have hc2 := hc1.st hw ho2
    have hs2 : stc_ (stL_ S) M2 := hM2.2.2
    have h62 : M2.1 42 6 = 0 := by rw [hM2.1 42 6 (by omega)]; exact h6b
    obtain ⟨⟨W, pt, htc⟩, hI2, -⟩ := id hc2
    refine wp_bd (wp_mo (c_at htc hI2 hw hh (show t 0 < 1073741824 by omega) hp) (fun z hz => ?_))
    obtain ⟨W1, pt1, d1, y1, y2, y3, y4, y5, y6⟩ := hz
    have hc3 := hc2.fc hw y5 y6
    unfold f_X11_stage_133
    refine wp_ck (by decide) (wp_sr ?_)
    have oa : o42_ z.2 (mm_si z.2 45 (0 : Int32).toNatClampNeg z.1) := o42_si (by omega)
    have hc4 := hc3.st hw oa
    refine wp_bd (wp_mo (c_at (oa.tc y6) hc4.2.1 hw hh (show t 1 < 1073741824 by omega) hp) (fun z' hz' => ?_))
    obtain ⟨W2, pt2, d2, v1, v2, v3, v4, v5, v6⟩ := hz'
    have hc5 := hc4.fc hw v5 v6
    unfold f_X11_stage_153
    refine wp_ck (by decide) (wp_sr ?_)
    have ob : o42_ z'.2 (mm_si z'.2 45 (1 : Int32).toNatClampNeg z'.1) := o42_si (by omega)
    have hc6 := hc5.st hw ob
    refine wp_bd (wp_mo (c_at (ob.tc v6) hc6.2.1 hw hh (show t 2 < 1073741824 by omega) hp) (fun z2 hz2 => ?_))
    obtain ⟨W3, pt3, d3, w1, w2, w3, w4, w5, w6⟩ := hz2
    have hc7 := hc6.fc hw w5 w6
    unfold f_X11_stage_173
    refine wp_ck (by decide) (wp_sr ?_)
    have oc : o42_ z2.2 (mm_si z2.2 45 (2 : Int32).toNatClampNeg z2.1) := o42_si (by omega)
    have hc8 := hc7.st hw oc
    have i0 : (0 : Int32).toNatClampNeg = 0 := rfl
    have i1 : (1 : Int32).toNatClampNeg = 1 := rfl
    have i2 : (2 : Int32).toNatClampNeg = 2 := rfl
    have hcr : crs_ S h p t (mm_si z2.2 45 (2 : Int32).toNatClampNeg z2.1) := by
      refine ⟨W3, pt3, oc.tc w6, fun i hi => ?_⟩
      rw [i2, si_1]
      by_cases c2 : i = 2
      · rw [if_pos ⟨rfl, c2⟩, c2]; exact ⟨d3, w1, w2, w3⟩
      · rw [if_neg (by simp [c2]), w5.1 45 i (by omega) (by omega), i1, si_1]
        by_cases c1 : i = 1
        · rw [if_pos ⟨rfl, c1⟩, c1]
          exact ⟨d2, v1, Nat.lt_of_lt_of_le v2 w4.1, by rw [w4.2 d2 v2]; exact v3⟩
        · have c0 : i = 0 := by omega
          rw [if_neg (by simp [c1]), v5.1 45 i (by omega) (by omega), i0, si_1, if_pos ⟨rfl, c0⟩, c0]
          have y2' := Nat.lt_of_lt_of_le y2 v4.1
          exact ⟨d1, y1, Nat.lt_of_lt_of_le y2' w4.1, by rw [w4.2 d1 y2', v4.2 d1 y2]; exact y3⟩
    have keep : ∀ a b, 42 ≤ a → a ≤ 49 → a ≠ 45 → (mm_si z2.2 45 (2 : Int32).toNatClampNeg z2.1).1 a b = M2.1 a b := by
      intro a b h5 h7 h8
      rw [si_1, if_neg (by omega), w5.1 a b (by omega) (by omega), si_1, if_neg (by omega), v5.1 a b (by omega) (by omega), si_1, if_neg (by omega), y5.1 a b (by omega) (by omega)]
    have hs8 : stc_ (stL_ S) (mm_si z2.2 45 (2 : Int32).toNatClampNeg z2.1) := ⟨by rw [keep 42 1 (by omega) (by omega) (by omega)]; exact hs2.1, fun i v hv => by rw [keep 43 i (by omega) (by omega) (by omega)]; exact hs2.2 i v hv⟩
    refine k_prs_l hw hc8.2.1 hcr hs8 hl7 h20 (fun M9 ho9 hs9 hp9 => ?_) (S 0 28) 0 fu_ _ (by omega) (by unfold fu_; omega) (fun _ _ _ _ => rfl) rfl ⟨by rw [keep 42 6 (by omega) (by omega) (by omega), h62]; rfl, fun j s hj => by cases hj⟩
    have hc9 := hc8.st hw ho9
    unfold f_X11_stage_228
    refine wp_bd (wp_mo (k_play hw hl7 hs9.1 hp9) (fun q hq => wp_sr ?_))
    have hoq : o42_ M9 q.2 := ⟨fun a b hab => hq.2.1 a b (by omega) (by omega), hq.2.2.1⟩
    have hcq := (hc9.st hw hoq).clear hw
    have hfr : ∀ a b, 42 ≤ a → a ≤ 49 → (f_X4_clear q.2).1 a b = q.2.1 a b := fun a b h5 h7 => clr_fk.1 a b (by omega) (by omega) (by unfold pk_r; omega)
    rw [hq.1]
    exact k_strow hw hl7 h20 (stL_ S).length 0 fu_ _ (by omega) (by unfold fu_; omega) hcq ⟨by rw [hfr 42 1 (by omega) (by omega), hq.2.1 42 1 (by omega) (by omega)]; exact hs9.1, fun i v hv => by rw [hfr 43 i (by omega) (by omega), hq.2.1 43 i (by omega) (by omega)]; exact hs9.2 i v hv⟩ (fun i hi => by rw [hfr 44 i (by omega) (by omega)]; exact hq.2.2.2 i hi)
  · rw [si_1, if_neg (by omega), si_1, if_pos ⟨rfl, rfl⟩]
  · rw [si_1, if_pos ⟨rfl, rfl⟩]
  · rw [si_1, if_neg (by omega), si_1, if_neg (by omega), si_1, if_pos ⟨rfl, rfl⟩, ib_0]; rfl
end WK1
