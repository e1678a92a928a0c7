/-! CALLS: keep -/
section VJ1
variable {S S' : sg_} {M M0 Mc Mr Z : mm_M} {vs : List Nat} {nv : Nat → Bool} {W : Nat} {pt : Nat → List Nat} {i : Nat}
/-- all is kept under i -/
def ke_ (S : sg_) (i : Nat) : sg_ := fun a b => if a = 36 ∧ b = i then 1 else if a = 37 ∧ b = i then S 0 28 else if a = 38 ∧ b / 16 = i then S 26 (b % 16) else if a = 39 ∧ b / 16 = i then S 24 (b % 16) else if a = 40 ∧ b / 16 = i then S 25 (b % 16) else if a = 41 ∧ b / 6 = i then S 13 (b % 6) else if a = 42 ∧ b / 6 = i then S 3 (b % 6) else S a b
theorem ke_36 : ke_ S i 36 i = 1 := by unfold ke_; rw [if_pos ⟨rfl, rfl⟩]
theorem ke_37 : ke_ S i 37 i = S 0 28 := by unfold ke_; rw [if_neg (by omega), if_pos ⟨rfl, rfl⟩]
theorem ke_38 {s : Nat} (h : s < 16) : ke_ S i 38 (16 * i + s) = S 26 s := by
  unfold ke_; rw [if_neg (by omega), if_neg (by omega), if_pos ⟨rfl, by omega⟩, show (16 * i + s) % 16 = s by omega]
theorem ke_39 {s : Nat} (h : s < 16) : ke_ S i 39 (16 * i + s) = S 24 s := by
  unfold ke_; rw [if_neg (by omega), if_neg (by omega), if_neg (by omega), if_pos ⟨rfl, by omega⟩, show (16 * i + s) % 16 = s by omega]
theorem ke_40 {s : Nat} (h : s < 16) : ke_ S i 40 (16 * i + s) = S 25 s := by
  unfold ke_; rw [if_neg (by omega), if_neg (by omega), if_neg (by omega), if_neg (by omega), if_pos ⟨rfl, by omega⟩, show (16 * i + s) % 16 = s by omega]
theorem ke_41 {s : Nat} (h : s < 6) : ke_ S i 41 (6 * i + s) = S 13 s := by
  unfold ke_; rw [if_neg (by omega), if_neg (by omega), if_neg (by omega), if_neg (by omega), if_neg (by omega), if_pos ⟨rfl, by omega⟩, show (6 * i + s) % 6 = s by omega]
theorem ke_42 {s : Nat} (h : s < 6) : ke_ S i 42 (6 * i + s) = S 3 s := by
  unfold ke_; rw [if_neg (by omega), if_neg (by omega), if_neg (by omega), if_neg (by omega), if_neg (by omega), if_neg (by omega), if_pos ⟨rfl, by omega⟩, show (6 * i + s) % 6 = s by omega]
theorem ke_o {a b : Nat} (h : ¬ ((a = 36 ∨ a = 37) ∧ b = i) ∧ ¬ (38 ≤ a ∧ a ≤ 40 ∧ b / 16 = i) ∧ ¬ ((a = 41 ∨ a = 42) ∧ b / 6 = i)) : ke_ S i a b = S a b := by
  unfold ke_
  rw [if_neg (by omega), if_neg (by omega), if_neg (by omega), if_neg (by omega), if_neg (by omega), if_neg (by omega), if_neg (by omega)]
theorem ke_f {a : Nat} (h : a < 36) : ke_ S i a = S a := funext (fun b => ke_o (by omega))
theorem ke_co : co_ S (ke_ S i) := ⟨fun a h1 h2 => ke_f (by omega), ke_o (by omega), ke_o (by omega)⟩
theorem wf_ke (hw : wf_ S) (hi : i < 3) : wf_ (ke_ S i) := by
  have ef : ∀ a, a < 36 → ke_ S i a = S a := fun a h => ke_f h
  have h16 := hw.signs
  refine ke_co.wf hw ?_ ?_ ?_ ?_ ?_ ?_ ?_ ?_ ?_ ?_ ?_ ?_ ?_ ?_ ?_ ?_ ?_ ?_
  · rw [ef 0 (by omega)]; exact hw.tp
  · rw [ef 0 (by omega), ef 2 (by omega)]; exact hw.tape
  · rw [ef 13 (by omega)]; exact hw.lag
  · rw [ef 0 (by omega)]; exact hw.signs
  · rw [ef 0 (by omega), ef 18 (by omega)]; exact hw.kind
  · rw [ef 0 (by omega), ef 19 (by omega)]; exact hw.one
  · rw [ef 0 (by omega), ef 18 (by omega), ef 19 (by omega), ef 20 (by omega)]; exact hw.oth
  · rw [ef 0 (by omega), ef 21 (by omega)]; exact hw.year
  · rw [ef 0 (by omega), ef 22 (by omega)]; exact hw.pl
  · rw [ef 0 (by omega), ef 18 (by omega), ef 23 (by omega)]; exact hw.nm2
  · rw [ef 0 (by omega), ef 18 (by omega), ef 23 (by omega)]; exact hw.nm3
  · rw [ef 0 (by omega), ef 24 (by omega)]; exact hw.poet
  · rw [ef 0 (by omega), ef 25 (by omega)]; exact hw.trust
  · rw [ef 0 (by omega), ef 26 (by omega)]; exact hw.on
  · intro j hj
    by_cases c : j = i
    · rw [c, ke_36]; omega
    · rw [ke_o (by omega)]; exact hw.kept j hj
  · intro j hj
    rw [ef 0 (by omega)]
    by_cases c : j = i
    · rw [c, ke_37]; omega
    · rw [ke_o (by omega)]; exact hw.ks j hj
  · intro j hj q hq
    by_cases c : j = i
    · rw [c, ke_37] at hq
      rw [c, ke_38 (by omega), ke_39 (by omega), ke_40 (by omega)]
      exact ⟨hw.on q hq, hw.poet q hq, hw.trust q hq⟩
    · rw [ke_o (by omega)] at hq
      have := hw.ks j hj
      rw [ke_o (by omega), ke_o (by omega), ke_o (by omega)]; exact hw.kon j hj q hq
  · intro j hj hk k hk2
    by_cases c : j = i
    · rw [c, ke_41 hk2, ke_42 hk2]; exact ⟨hw.lag k hk2, hw.cl k hk2⟩
    · rw [ke_o (by omega)] at hk
      rw [ke_o (by omega), ke_o (by omega)]; exact hw.klag j hj hk k hk2
theorem rt_ke (hw : wf_ S) (h : rt_ S nv vs M) {M' : mm_M} (hm : ∀ a b, ¬ ((a = 36 ∨ a = 37) ∧ b = i) → ¬ (38 ≤ a ∧ a ≤ 40 ∧ b / 16 = i) → ¬ ((a = 41 ∨ a = 42) ∧ b / 6 = i) → M'.1 a b = M.1 a b) (h2 : M'.2 = M.2) (h36 : M'.1 36 i = Int32.ofNat 1) (h37 : M'.1 37 i = Int32.ofNat (S 0 28))
    (h38 : ∀ s, s < S 0 28 → M'.1 38 (16 * i + s) = Int32.ofNat (S 26 s) ∧ M'.1 39 (16 * i + s) = Int32.ofNat (S 24 s) ∧ M'.1 40 (16 * i + s) = Int32.ofNat (S 25 s)) (h41 : ∀ k, k < 6 → M'.1 41 (6 * i + k) = Int32.ofNat (S 13 k) ∧ M'.1 42 (6 * i + k) = Int32.ofNat (S 3 k)) : rt_ (ke_ S i) nv vs M' := by
  have h16 := hw.signs
  refine ⟨⟨fun a b hp => ?_, fun l hl => by rw [hm 0 25 (by omega) (by omega) (by omega)]; exact h.1.2.1 l hl, ?_⟩, ?_, fun j v hv => by rw [h2]; exact h.2.2 j v hv⟩
  · by_cases c36 : a = 36 ∧ b = i
    · rw [c36.1, c36.2, h36, ke_36]
    · by_cases c37 : a = 37 ∧ b = i
      · rw [c37.1, c37.2, h37, ke_37]
      · unfold pe_ at hp
        rw [ke_f (a := 0) (by omega), ke_f (a := 5) (by omega), ke_f (a := 18) (by omega)] at hp
        by_cases c38 : 38 ≤ a ∧ a ≤ 40 ∧ b / 16 = i
        · have hb : b % 16 < S 0 28 := by
            rcases hp with h | h | h | h | h | h | h | h | h | h | h | h | h
            case inr.inr.inr.inr.inr.inr.inr.inr.inr.inr.inr.inl => rw [c38.2.2, ke_37] at h; exact h.2.2
            all_goals omega
          have eb : b = 16 * i + b % 16 := by omega
          obtain ⟨k1, k2, k3⟩ := h38 (b % 16) hb
          rcases (show a = 38 ∨ a = 39 ∨ a = 40 by omega) with rfl | rfl | rfl
          · rw [eb, k1, ke_38 (by omega)]
          · rw [eb, k2, ke_39 (by omega)]
          · rw [eb, k3, ke_40 (by omega)]
        · by_cases c41 : (a = 41 ∨ a = 42) ∧ b / 6 = i
          · have eb : b = 6 * i + b % 6 := by omega
            obtain ⟨k1, k2⟩ := h41 (b % 6) (by omega)
            rcases c41.1 with rfl | rfl
            · rw [eb, k1, ke_41 (by omega)]
            · rw [eb, k2, ke_42 (by omega)]
          · rw [ke_o ⟨by omega, c38, c41⟩, hm a b (by omega) c38 c41]
            refine h.1.1 a b ?_
            unfold pe_
            rcases hp with h | h | h | h | h | h | h | h | h | h | h | h | h
            · exact Or.inl h
            · exact Or.inr (Or.inl h)
            · exact Or.inr (Or.inr (Or.inl h))
            · exact Or.inr (Or.inr (Or.inr (Or.inl h)))
            · exact Or.inr (Or.inr (Or.inr (Or.inr (Or.inl h))))
            · exact Or.inr (Or.inr (Or.inr (Or.inr (Or.inr (Or.inl h)))))
            · exact Or.inr (Or.inr (Or.inr (Or.inr (Or.inr (Or.inr (Or.inl h))))))
            · exact Or.inr (Or.inr (Or.inr (Or.inr (Or.inr (Or.inr (Or.inr (Or.inl h)))))))
            · exact Or.inr (Or.inr (Or.inr (Or.inr (Or.inr (Or.inr (Or.inr (Or.inr (Or.inl h))))))))
            · exact Or.inr (Or.inr (Or.inr (Or.inr (Or.inr (Or.inr (Or.inr (Or.inr (Or.inr (Or.inl h)))))))))
            · exact Or.inr (Or.inr (Or.inr (Or.inr (Or.inr (Or.inr (Or.inr (Or.inr (Or.inr (Or.inr (Or.inl h))))))))))
            · rw [ke_o (a := 37) (by omega)] at h
              exact Or.inr (Or.inr (Or.inr (Or.inr (Or.inr (Or.inr (Or.inr (Or.inr (Or.inr (Or.inr (Or.inr (Or.inl h)))))))))))
            · rw [ke_o (a := 36) (by omega)] at h
              exact Or.inr (Or.inr (Or.inr (Or.inr (Or.inr (Or.inr (Or.inr (Or.inr (Or.inr (Or.inr (Or.inr (Or.inr h)))))))))))
  · show M'.1 0 26 = -1
    rw [hm 0 26 (by omega) (by omega) (by omega)]; exact h.1.2.2
  · rw [hm 0 1 (by omega) (by omega) (by omega)]; exact h.2.1
theorem cs_ke {M' : mm_M} (hw : wf_ S) (hi : i < 3) (h : cs_ S vs M) (hm : ∀ a b, ¬ (51 + 5 * i ≤ a ∧ a < 51 + 5 * i + 5) → M'.1 a b = M.1 a b) (h2 : M'.2 = M.2) (h0 : M'.1 (51 + 5 * i) 0 = Int32.ofNat 1) (h1 : M'.1 (51 + 5 * i) 1 = Int32.ofNat (S 0 28)) (h3 : M'.1 (51 + 5 * i) 2 = M.1 19 4)
    (h4 : ∀ s, s < S 0 28 → M'.1 (52 + 5 * i) s = M.1 (22 + s) 6 ∧ M'.1 (53 + 5 * i) s = M.1 (22 + s) 7) (h5 : ∀ k, k < 6 → M'.1 (54 + 5 * i) k = M.1 15 k ∧ M'.1 (55 + 5 * i) k = M.1 7 k) : cs_ (ke_ S i) vs M' := by
  obtain ⟨⟨W, pt, htc⟩, hI, hh, hro⟩ := h
  have hco : co_ S (ke_ S i) := ke_co
  have h16 := hw.signs
  have ef : ∀ a, a < 36 → ke_ S i a = S a := fun a h => ke_f h
  refine ⟨⟨W, pt, hco.tc (htc.fr (hm 5 4 (by omega)) (by funext b; exact hm 70 b (by omega)) (by rw [h2]) (by rw [h2]))⟩, ?_, ?_, ?_⟩
  · refine hco.ic hw hI (fun x y hab => hm x y (by omega)) (by rw [h2]) ?_ ?_ ?_ ?_ ?_ ?_ ?_ ?_
    · rw [hm 1 1 (by omega), ef 0 (by omega)]; exact hI.tp
    · intro j hj; rw [ef 0 (by omega)] at hj; rw [hm 2 j (by omega), ef 2 (by omega)]; exact hI.tape j hj
    · intro p hp; rw [hm 15 p (by omega), ef 13 (by omega)]; exact hI.lag p hp
    · rw [hm 19 3 (by omega), ef 0 (by omega)]; exact hI.told
    · rw [hm 19 4 (by omega), ef 0 (by omega), ef 26 (by omega)]; exact hI.on
    · intro q hq; rw [ef 0 (by omega)] at hq
      exact sc_cg (hI.sg q hq) (fun b hb => hm (22 + q) b (by omega)) (fun a h1 h2 => by rw [ef a (by omega)])
    · intro j hj
      by_cases c : j = i
      · subst c
        unfold kp_
        rw [ke_36, ke_37]
        refine ⟨h0, fun _ => ⟨h1, ?_, fun s hs => ?_, fun k hk => ?_⟩⟩
        · rw [h3, hI.on]
          exact mk_cg _ (fun s hs => by rw [ke_38 (by omega)])
        · obtain ⟨a1, a2⟩ := h4 s hs
          obtain ⟨-, -, -, -, -, -, -, b8, b9⟩ := hI.sg s hs
          rw [a1, a2, b8, b9, ke_39 (by omega), ke_40 (by omega)]; exact ⟨rfl, rfl⟩
        · obtain ⟨a1, a2⟩ := h5 k hk
          rw [a1, a2, ke_41 hk, ke_42 hk]; exact ⟨hI.lag k hk, hI.cl k hk⟩
      · have hk := hI.kept j hj
        have hks := hw.ks j hj
        unfold kp_ at hk ⊢
        rw [ke_o (a := 36) (by omega), ke_o (a := 37) (by omega), hm _ 0 (by omega), hm _ 1 (by omega), hm _ 2 (by omega)]
        refine ⟨hk.1, fun hk1 => ?_⟩
        obtain ⟨a1, a2, a3, a4⟩ := hk.2 hk1
        refine ⟨a1, ?_, fun s hs => ?_, fun k hk2 => ?_⟩
        · rw [a2]; exact mk_cg _ (fun s hs => by rw [ke_o (by omega)])
        · rw [hm _ s (by omega), hm _ s (by omega), ke_o (by omega), ke_o (by omega)]; exact a3 s hs
        · rw [hm _ k (by omega), hm _ k (by omega), ke_o (by omega), ke_o (by omega)]; exact a4 k hk2
    · intro q h1 h3; rw [ef 0 (by omega)] at h1; rw [hm (22 + q) 6 (by omega), hm (22 + q) 7 (by omega)]; exact hI.fresh q h1 h3
  · intro q hq hd2 hi2 hhi
    rw [ef 0 (by omega)] at hq
    rw [hco.hs] at hhi
    rw [hm 19 6 (by omega)] at hd2
    rw [hm 21 hi2 (by omega), show ho_ (ke_ S i) q hi2 = ho_ S q hi2 from hco.ho (fun x h1 h2 => by rw [ef x (by omega)]) (by rw [ef 13 (by omega)]) no_ hi2]
    exact hh q hq hd2 hi2 hhi
  · exact ⟨by rw [hm 3 1 (by omega)]; exact hro.1, fun j v hv => by rw [h2]; exact hro.2 j v hv⟩
theorem k_take (hw : wf_ S) (hi : i < 3) (hc : cs_ S vs M) : wp_ (f_X1_take (51 + 5 * i) M) (fun z => cs_ (ke_ S i) vs z) := by
  have h16 := hw.signs
  have key : ∀ (e k n : Nat) (Z : mm_M), k + e = S 0 28 → e < n → (∀ a b, ¬ (51 + 5 * i ≤ a ∧ a < 51 + 5 * i + 5) → Z.1 a b = M.1 a b) → Z.2 = M.2 → Z.1 (51 + 5 * i) 0 = Int32.ofNat 1 → Z.1 (51 + 5 * i) 1 = Int32.ofNat (S 0 28) → Z.1 (51 + 5 * i) 2 = M.1 19 4 → (∀ s, s < k → Z.1 (52 + 5 * i) s = M.1 (22 + s) 6 ∧ Z.1 (53 + 5 * i) s = M.1 (22 + s) 7) →
      wp_ (f_X1_take_24l n (51 + 5 * i) (Int32.ofNat k) Z) (fun z => cs_ (ke_ S i) vs z) := by
    intro e
    induction e with
    | zero =>
      intro k n Z hk hn hm h2 z0 z1 z2 z3
      obtain ⟨m, rfl⟩ : ∃ m, n = m + 1 := ⟨n - 1, by omega⟩
      unfold f_X1_take_24l f_X1_take_24 f_X1_take_73
      rw [z1, if_pos ((n3_le (by omega) (by omega)).mpr (by omega))]
      refine wp_sr (wp_sr (wp_some ?_))
      refine cs_ke hw hi hc (fun a b hab => ?_) h2 ?_ ?_ ?_ (fun s hs => ?_) (fun q hq => ?_)
      · rw [ai_1, if_neg (by omega), ai_1, if_neg (by omega)]; exact hm a b hab
      · rw [ai_1, if_neg (by omega), ai_1, if_neg (by omega)]; exact z0
      · rw [ai_1, if_neg (by omega), ai_1, if_neg (by omega)]; exact z1
      · rw [ai_1, if_neg (by omega), ai_1, if_neg (by omega)]; exact z2
      · rw [ai_1, if_neg (by omega), ai_1, if_neg (by omega), ai_1, if_neg (by omega), ai_1, if_neg (by omega)]; exact z3 s (by omega)
      · have e6 : (6 : Int32).toNatClampNeg = 6 := rfl
        constructor
        · rw [ai_1, if_neg (by omega), ai_1, if_pos (by omega), e6]
          unfold va_cpy
          rw [if_pos (by omega), show 0 + (q - 0) = q by omega]; exact hm 15 q (by omega)
        · rw [ai_1, if_pos (by omega), e6]
          unfold va_cpy
          rw [if_pos (by omega), show 0 + (q - 0) = q by omega, ai_1, if_neg (by omega)]; exact hm 7 q (by omega)
    | succ e ih =>
      intro k n Z hk hn hm h2 z0 z1 z2 z3
      obtain ⟨m, rfl⟩ : ∃ m, n = m + 1 := ⟨n - 1, by omega⟩
      have e1 : Int32.ofNat k + 1 = Int32.ofNat (k + 1) := n3_add k 1
      have hix : ix_ok (Int32.ofNat k) 16 := (n3_ix (by omega)).mpr (by omega)
      have et : (Int32.ofNat k).toNatClampNeg = k := n3_tn (by omega)
      unfold f_X1_take_24l f_X1_take_24
      rw [z1, if_neg (by rw [n3_le (by omega) (by omega)]; omega)]
      refine wp_ck hix (wp_ck hix (wp_sr (wp_ck hix (wp_ck hix (wp_sr (wp_sr ?_))))))
      simp only [et]
      rw [e1]
      refine ih (k + 1) m _ (by omega) (by omega) (fun a b hab => ?_) h2 ?_ ?_ ?_ (fun s hs => ?_)
      · rw [si_1, if_neg (by omega), si_1, if_neg (by omega)]; exact hm a b hab
      · rw [si_1, if_neg (by omega), si_1, if_neg (by omega)]; exact z0
      · rw [si_1, if_neg (by omega), si_1, if_neg (by omega)]; exact z1
      · rw [si_1, if_neg (by omega), si_1, if_neg (by omega)]; exact z2
      · by_cases c : s = k
        · subst c
          constructor
          · rw [si_1, if_neg (by omega), si_1, if_pos ⟨by omega, rfl⟩]; exact hm _ _ (by omega)
          · rw [si_1, if_pos ⟨by omega, rfl⟩, si_1, if_neg (by omega)]; exact hm _ _ (by omega)
        · obtain ⟨a1, a2⟩ := z3 s (by omega)
          constructor
          · rw [si_1, if_neg (by omega), si_1, if_neg (by omega)]; exact a1
          · rw [si_1, if_neg (by omega), si_1, if_neg (by omega)]; exact a2
  unfold f_X1_take
  refine wp_sr (wp_sr (wp_sr ?_))
  refine key (S 0 28) 0 fu_ _ (by omega) (by unfold fu_; omega) (fun a b hab => ?_) rfl ?_ ?_ ?_ (fun s hs => by omega)
  · rw [si_1, if_neg (by omega), si_1, if_neg (by omega), si_1, if_neg (by omega)]
  · rw [si_1, if_neg (by omega), si_1, if_neg (by omega), si_1, if_pos ⟨rfl, rfl⟩]; rfl
  · rw [si_1, if_neg (by omega), si_1, if_pos ⟨rfl, rfl⟩, si_1, if_neg (by omega)]; exact hc.2.1.told
  · rw [si_1, if_pos ⟨rfl, rfl⟩, si_1, if_neg (by omega), si_1, if_neg (by omega)]
theorem nar_b {v : Nat} (h : v ≤ 1) : vp_nar .boolean (Int32.ofNat v) = Int32.ofNat v := by
  rcases (show v = 0 ∨ v = 1 by omega) with rfl | rfl <;> rfl
/-- what the reference has kept: k signs, j places -/
def kf_ (S : sg_) (i : Nat) (M : mm_M) (k j : Nat) (Z : mm_M) : Prop := (∀ a b, ¬ ((a = 36 ∨ a = 37) ∧ b = i) → ¬ (38 ≤ a ∧ a ≤ 40 ∧ b / 16 = i) → ¬ ((a = 41 ∨ a = 42) ∧ b / 6 = i) → Z.1 a b = M.1 a b) ∧ Z.2 = M.2 ∧ Z.1 36 i = Int32.ofNat 1 ∧ Z.1 37 i = Int32.ofNat (S 0 28) ∧
  (∀ s, s < S 0 28 → s < k → Z.1 38 (16 * i + s) = Int32.ofNat (S 26 s) ∧ Z.1 39 (16 * i + s) = Int32.ofNat (S 24 s) ∧ Z.1 40 (16 * i + s) = Int32.ofNat (S 25 s)) ∧ (∀ q, q < 6 → q < j → Z.1 41 (6 * i + q) = Int32.ofNat (S 13 q) ∧ Z.1 42 (6 * i + q) = Int32.ofNat (S 3 q))
theorem q_keep2 (hw : wf_ S) (hi : i < 3) (hr : rt_ S nv vs M) : ∀ (e k n : Nat) (Z : mm_M), k + e = 6 → e < n → kf_ S i M 16 k Z → wp_ (f_X12_keep_103l n (Int32.ofNat i) (Int32.ofNat k) Z) (fun z => z.1 = 1 ∧ rt_ (ke_ S i) nv vs z.2) := by
  have h16 := hw.signs
  intro e
  induction e with
  | zero =>
    intro k n Z hk hn hz
    obtain ⟨m, rfl⟩ : ∃ m, n = m + 1 := ⟨n - 1, by omega⟩
    obtain ⟨z1, z2, z3, z4, z5, z6⟩ := hz
    unfold f_X12_keep_103l f_X12_keep_103
    rw [if_pos (show (6 : Int32) ≤ Int32.ofNat k from (n3_le (a := 6) (by omega) (by omega)).mpr (by omega))]
    exact wp_some ⟨rfl, rt_ke hw hr z1 z2 z3 z4 (fun s hs => z5 s hs (by omega)) (fun q hq => z6 q hq (by omega))⟩
  | succ e ih =>
    intro k n Z hk hn hz
    obtain ⟨m, rfl⟩ : ∃ m, n = m + 1 := ⟨n - 1, by omega⟩
    obtain ⟨z1, z2, z3, z4, z5, z6⟩ := hz
    have e1 : Int32.ofNat k + 1 = Int32.ofNat (k + 1) := n3_add k 1
    have e2 : (6 : Int32) * Int32.ofNat i + Int32.ofNat k = Int32.ofNat (6 * i + k) := by rw [show (6 : Int32) = Int32.ofNat 6 from rfl, n3_mul, n3_add]
    have hix : ix_ok (Int32.ofNat k) 6 := (n3_ix (by omega)).mpr (by omega)
    have hix2 : ix_ok (Int32.ofNat (6 * i + k)) 18 := (n3_ix (by omega)).mpr (by omega)
    have et : (Int32.ofNat k).toNatClampNeg = k := n3_tn (by omega)
    have et2 : (Int32.ofNat (6 * i + k)).toNatClampNeg = 6 * i + k := n3_tn (by omega)
    unfold f_X12_keep_103l f_X12_keep_103
    rw [if_neg (show ¬ ((6 : Int32) ≤ Int32.ofNat k) from fun hh => by have := (n3_le (a := 6) (by omega) (by omega)).mp hh; omega)]
    simp only [e2, et, et2]
    refine wp_ck hix (wp_ck hix2 (wp_sr (wp_ck hix (wp_ck hix2 (wp_sr (wp_sr ?_))))))
    rw [e1]
    refine ih (k + 1) m _ (by omega) (by omega) ⟨fun a b h1 h2 h3 => ?_, z2, ?_, ?_, fun s h1 h2 => ?_, fun q h1 h2 => ?_⟩
    · rw [si_1, if_neg (by omega), si_1, if_neg (by omega)]; exact z1 a b h1 h2 h3
    · rw [si_1, if_neg (by omega), si_1, if_neg (by omega)]; exact z3
    · rw [si_1, if_neg (by omega), si_1, if_neg (by omega)]; exact z4
    · rw [si_1, if_neg (by omega), si_1, if_neg (by omega), si_1, if_neg (by omega), si_1, if_neg (by omega), si_1, if_neg (by omega), si_1, if_neg (by omega)]; exact z5 s h1 h2
    · by_cases c : q = k
      · subst c
        constructor
        · rw [si_1, if_neg (by omega), si_1, if_pos ⟨rfl, rfl⟩, z1 13 q (by omega) (by omega) (by omega)]; exact hr.1.1.lag h1
        · rw [si_1, if_pos ⟨rfl, rfl⟩, si_1, if_neg (by omega), z1 3 q (by omega) (by omega) (by omega)]; exact hr.1.1.cl h1
      · obtain ⟨a1, a2⟩ := z6 q h1 (by omega)
        constructor
        · rw [si_1, if_neg (by omega), si_1, if_neg (by omega)]; exact a1
        · rw [si_1, if_neg (by omega), si_1, if_neg (by omega)]; exact a2
theorem q_keep1 (hw : wf_ S) (hi : i < 3) (hr : rt_ S nv vs M) : ∀ (e k n : Nat) (Z : mm_M), k + e = 16 → e < n → kf_ S i M k 0 Z → wp_ (f_X12_keep_38l n (Int32.ofNat i) (Int32.ofNat k) Z) (fun z => z.1 = 1 ∧ rt_ (ke_ S i) nv vs z.2) := by
  have h16 := hw.signs
  intro e
  induction e with
  | zero =>
    intro k n Z hk hn hz
    obtain ⟨m, rfl⟩ : ∃ m, n = m + 1 := ⟨n - 1, by omega⟩
    unfold f_X12_keep_38l f_X12_keep_38 f_X12_keep_101
    rw [if_pos (show (16 : Int32) ≤ Int32.ofNat k from (n3_le (a := 16) (by omega) (by omega)).mpr (by omega))]
    exact q_keep2 hw hi hr 6 0 fu_ Z (by omega) (by unfold fu_; omega) (by rw [← show k = 16 by omega]; exact hz)
  | succ e ih =>
    intro k n Z hk hn hz
    obtain ⟨m, rfl⟩ : ∃ m, n = m + 1 := ⟨n - 1, by omega⟩
    obtain ⟨z1, z2, z3, z4, z5, z6⟩ := hz
    have e1 : Int32.ofNat k + 1 = Int32.ofNat (k + 1) := n3_add k 1
    have e2 : (16 : Int32) * Int32.ofNat i + Int32.ofNat k = Int32.ofNat (16 * i + k) := by rw [show (16 : Int32) = Int32.ofNat 16 from rfl, n3_mul, n3_add]
    have hix : ix_ok (Int32.ofNat k) 17 := (n3_ix (by omega)).mpr (by omega)
    have hix2 : ix_ok (Int32.ofNat (16 * i + k)) 48 := (n3_ix (by omega)).mpr (by omega)
    have et : (Int32.ofNat k).toNatClampNeg = k := n3_tn (by omega)
    have et2 : (Int32.ofNat (16 * i + k)).toNatClampNeg = 16 * i + k := n3_tn (by omega)
    unfold f_X12_keep_38l f_X12_keep_38
    rw [if_neg (show ¬ ((16 : Int32) ≤ Int32.ofNat k) from fun hh => by have := (n3_le (a := 16) (by omega) (by omega)).mp hh; omega)]
    simp only [e2, et, et2]
    refine wp_ck hix (wp_ck hix2 (wp_sr (wp_ck hix (wp_ck hix2 (wp_sr (wp_ck hix (wp_ck hix2 (wp_sr (wp_sr ?_)))))))))
    rw [e1]
    refine ih (k + 1) m _ (by omega) (by omega) ⟨fun a b h1 h2 h3 => ?_, z2, ?_, ?_, fun s h1 h2 => ?_, fun q h1 h2 => by omega⟩
    · rw [si_1, if_neg (by omega), si_1, if_neg (by omega), si_1, if_neg (by omega)]; exact z1 a b h1 h2 h3
    · rw [si_1, if_neg (by omega), si_1, if_neg (by omega), si_1, if_neg (by omega)]; exact z3
    · rw [si_1, if_neg (by omega), si_1, if_neg (by omega), si_1, if_neg (by omega)]; exact z4
    · by_cases c : s = k
      · subst c
        obtain ⟨-, -, -, -, g24, g25, g26⟩ := hr.1.1.sg h1
        refine ⟨?_, ?_, ?_⟩
        · rw [si_1, if_neg (by omega), si_1, if_neg (by omega), si_1, if_pos ⟨rfl, rfl⟩, z1 26 s (by omega) (by omega) (by omega), g26]; exact nar_b (hw.on s h1)
        · rw [si_1, if_neg (by omega), si_1, if_pos ⟨rfl, rfl⟩, si_1, if_neg (by omega), z1 24 s (by omega) (by omega) (by omega)]; exact g24
        · rw [si_1, if_pos ⟨rfl, rfl⟩, si_1, if_neg (by omega), si_1, if_neg (by omega), z1 25 s (by omega) (by omega) (by omega)]; exact g25
      · obtain ⟨a1, a2, a3⟩ := z5 s h1 (by omega)
        refine ⟨?_, ?_, ?_⟩
        · rw [si_1, if_neg (by omega), si_1, if_neg (by omega), si_1, if_neg (by omega)]; exact a1
        · rw [si_1, if_neg (by omega), si_1, if_neg (by omega), si_1, if_neg (by omega)]; exact a2
        · rw [si_1, if_neg (by omega), si_1, if_neg (by omega), si_1, if_neg (by omega)]; exact a3
theorem m_keep (h : rl_ Mc Mr) (x1 : Int32) : bo_ (f_X11_keep x1 Mc) (f_X12_keep x1 Mr) := by
  obtain ⟨S, vs, hw, hv, hc, hr⟩ := h
  have hr1 := hr.th
  have hrl : rl_ Mc (mm_si Mr 0 0 0) := ⟨S, vs, hw, hv, hc, hr1⟩
  have h16 := hw.signs
  unfold f_X11_keep f_X12_keep
  rw [sq_n (x := mm_si Mr 0 0 0), show f_X11_isBelow x1 3 = bi_ (lt_ x1 3) from c_bl (n := 3) (by omega), show (2 : Int64) = Int64.ofNat 2 from rfl, r_in0 (by omega)]
  refine bo_g hrl (fun b1 => ?_)
  obtain ⟨i, rfl, hi⟩ := lt_nat b1 (by omega)
  have hix : ix_ok (Int32.ofNat i) 3 := (n3_ix (by omega)).mpr hi
  have et : (Int32.ofNat i).toNatClampNeg = i := n3_tn (by omega)
  refine bo_mk (A := 1) (wf_ke hw hi) hv ?_ ?_
  · refine wp_ck hix (wp_bd ?_)
    rw [et]
    exact wp_mo (k_take hw hi hc) (fun z hz => wp_some ⟨rfl, hz⟩)
  · refine wp_ck hix (wp_sr (wp_ck hix (wp_sr ?_)))
    simp only [et]
    refine q_keep1 hw hi hr1 16 0 fu_ _ (by omega) (by unfold fu_; omega) ⟨fun a b h1 h2 h3 => ?_, rfl, ?_, ?_, fun s _ hs => by omega, fun q _ hq => by omega⟩
    · rw [si_1, if_neg (by omega), si_1, if_neg (by omega)]
    · rw [si_1, if_neg (by omega), si_1, if_pos ⟨rfl, rfl⟩]; rfl
    · rw [si_1, if_pos ⟨rfl, rfl⟩, si_1, if_neg (by omega)]; exact hr1.1.1.signs
end VJ1
