/-! CALLS that change the state: lags; the text: sign, end -/
section VC1
variable {S S' : sg_} {M Mc Mr : mm_M} {vs : List Nat} {nv : Nat → Bool} {W : Nat} {pt : Nat → List Nat}
theorem full_ib {n s : Nat} (hn : n ≤ 16) (hs : s < n) : ib_ (((1 : Int32) <<< (Int32.ofNat n &&& 31)) - 1) s = true := by
  rw [← (mk_full (f := fun _ => true) hn).mpr (fun _ _ => rfl), mk_bit (by omega) hs]
/-- an entry of a sheet -/
def sht_ (kd : Int32) (v : Int32) : Int32 := f_X11_lagOnSheet_20 (if kd = 0 then v.toInt8.toInt32 else if kd = 1 then v.toInt16.toInt32 else v)
theorem sht_nat (kd v : Int32) : ∃ n, sht_ kd v = Int32.ofNat n ∧ n ≤ 200 := by
  unfold sht_ f_X11_lagOnSheet_20
  generalize (if kd = 0 then v.toInt8.toInt32 else if kd = 1 then v.toInt16.toInt32 else v) = t
  have h0 : Int32.toInt 0 = 0 := by decide
  have h2 : Int32.toInt 200 = 200 := by decide
  by_cases c1 : t < 200
  · simp only [if_pos c1]
    by_cases c2 : 0 < t
    · rw [if_pos c2]
      rw [Int32.lt_iff_toInt_lt, h2] at c1
      rw [Int32.lt_iff_toInt_lt, h0] at c2
      obtain ⟨n, hn, -, h⟩ := in_nat (a := 0) (b := 200) (x := t) (by omega) (by omega)
      exact ⟨n, hn, h⟩
    · rw [if_neg c2]; exact ⟨0, rfl, by omega⟩
  · simp only [if_neg c1]
    rw [if_pos (by decide)]
    exact ⟨200, rfl, Nat.le_refl _⟩
def sgl_ (kd told f st : Int32) (q : Nat) : Nat := if Int32.ofNat q < told then (sht_ kd (f + Int32.ofNat q * st)).toNatClampNeg else 0
theorem sgl_le {kd told f st : Int32} {q : Nat} : sgl_ kd told f st q ≤ 200 := by
  unfold sgl_
  split
  · obtain ⟨n, hn, h⟩ := sht_nat kd (f + Int32.ofNat q * st)
    rw [hn, n3_tn (by omega)]; exact h
  · omega
def sml_ (g : Nat → Nat) : Nat → Nat
  | 0 => 0
  | n + 1 => sml_ g n + g n
theorem c_los {kd v : Int32} : f_X11_lagOnSheet kd v = sht_ kd v := by
  unfold f_X11_lagOnSheet sht_
  by_cases c0 : kd = 0
  · rw [if_pos c0, if_pos c0]
  · rw [if_neg c0, if_neg c0]
    by_cases c1 : kd = 1
    · rw [if_pos c1, if_pos c1]
    · rw [if_neg c1, if_neg c1]
theorem k_lags_l (hw : wf_ S) (hc : cs_ S vs Mc) {kd f st miss told : Int32} : ∀ (e k n : Nat) (M : mm_M), k + e = 6 → e < n → (∀ a b, a ≠ 15 → M.1 a b = Mc.1 a b) → M.2 = Mc.2 → (∀ q, q < k → M.1 15 q = Int32.ofNat (sgl_ kd told f st q)) →
    wp_ (f_X11_lags_58l n kd f st miss told (Int32.ofNat (sml_ (sgl_ kd told f st) k)) (Int32.ofNat k) M) (fun z => z.1 = (if miss = 0 then Int32.ofNat (sml_ (sgl_ kd told f st) 6) else -3) ∧ cs_ (lg_s S (sgl_ kd told f st)) vs z.2) := by
  have h16 := hw.signs
  intro e
  induction e with
  | zero =>
    intro k n M hk hn hm h2 hl
    obtain ⟨m, rfl⟩ : ∃ m, n = m + 1 := ⟨n - 1, by omega⟩
    have hkk : k = 6 := by omega
    subst hkk
    unfold f_X11_lags_58l f_X11_lags_58 f_X11_lags_114
    rw [if_pos (by decide)]
    have hcs : cs_ (lg_s S (sgl_ kd told f st)) vs (f_X6_doubtAll M) := by
      unfold f_X6_doubtAll
      rw [sq_n]
      refine cs_lg hw hc (fun a b h1 h3 => by rw [si_1, if_neg h3]; exact hm a b h1) h2 (fun q hq => by rw [si_1, if_neg (by omega)]; exact hl q hq) (fun s hs hd => ?_)
      rw [si_1, if_pos ⟨rfl, rfl⟩, hm 19 3 (by omega), hc.2.1.told, full_ib h16 hs] at hd
      cases hd
    refine wp_sr ?_
    by_cases c : miss = 0
    · rw [if_pos c, if_pos c]; exact wp_some ⟨rfl, hcs⟩
    · rw [if_neg c, if_neg c]; exact wp_some ⟨rfl, hcs⟩
  | succ e ih =>
    intro k n M hk hn hm h2 hl
    obtain ⟨m, rfl⟩ : ∃ m, n = m + 1 := ⟨n - 1, by omega⟩
    have e1 : Int32.ofNat k + 1 = Int32.ofNat (k + 1) := n3_add k 1
    have lay : ∀ t, t = Int32.ofNat (sgl_ kd told f st k) → wp_ (f_X11_lags_87 (f_X11_lags_58l m) kd f st miss told (Int32.ofNat (sml_ (sgl_ kd told f st) k)) (Int32.ofNat k) t M) (fun z => z.1 = (if miss = 0 then Int32.ofNat (sml_ (sgl_ kd told f st) 6) else -3) ∧ cs_ (lg_s S (sgl_ kd told f st)) vs z.2) := by
      intro t ht
      unfold f_X11_lags_87
      refine wp_ck ((n3_ix (by omega)).mpr (by omega)) (wp_sr (wp_sr (wp_sr ?_)))
      rw [e1, ht, n3_add, n3_tn (by omega)]
      refine ih (k + 1) m _ (by omega) (by omega) (fun a b h => by rw [si_1, if_neg (by omega)]; exact hm a b h) h2 (fun q hq => ?_)
      rw [si_1]
      by_cases c : q = k
      · rw [if_pos ⟨rfl, c⟩, c]
      · rw [if_neg (by omega)]; exact hl q (by omega)
    unfold f_X11_lags_58l f_X11_lags_58
    rw [if_neg (by show ¬ (Int32.ofNat 6 ≤ _); rw [n3_le (by omega) (by omega)]; omega)]
    by_cases c : told ≤ Int32.ofNat k
    · rw [if_pos c]
      refine lay 0 ?_
      unfold sgl_
      rw [if_neg (Int32.not_lt.mpr c)]; rfl
    · rw [if_neg c]
      refine wp_sr ?_
      rw [c_los]
      refine lay _ ?_
      unfold sgl_
      rw [if_pos (Int32.not_le.mp c)]
      obtain ⟨n2, hn2, h3⟩ := sht_nat kd (f + Int32.ofNat k * st)
      rw [hn2, n3_tn (by omega)]
theorem add_mul_s {f st : Int32} {k : Nat} : f + Int32.ofNat k * st + st = f + Int32.ofNat (k + 1) * st := by
  rw [← n3_add k 1, show Int32.ofNat 1 = 1 from rfl, Int32.add_mul, Int32.one_mul, Int32.add_assoc]
theorem q_lags_l (hw : wf_ S) (hr : rt_ S no_ vs Mr) {kd n0 f st told : Int32} (htold : told = if kd = 3 then 0 else n0) : ∀ (e k n : Nat) (M : mm_M), k + e = 6 → e < n → (∀ a b, a ≠ 13 → M.1 a b = Mr.1 a b) → M.2 = Mr.2 → (∀ q, q < k → M.1 13 q = Int32.ofNat (sgl_ kd told f st q)) →
    wp_ (f_X12_lags_46l n kd n0 st (f + Int32.ofNat k * st) (Int32.ofNat (sml_ (sgl_ kd told f st) k)) (Int32.ofNat k) M) (fun z => z.1 = (if kd = 3 then -3 else Int32.ofNat (sml_ (sgl_ kd told f st) 6)) ∧ rt_ (lg_s S (sgl_ kd told f st)) no_ vs z.2) := by
  intro e
  induction e with
  | zero =>
    intro k n M hk hn hm h2 hl
    obtain ⟨m, rfl⟩ : ∃ m, n = m + 1 := ⟨n - 1, by omega⟩
    have hkk : k = 6 := by omega
    subst hkk
    have hrt : rt_ (lg_s S (sgl_ kd told f st)) no_ vs M := rt_lg hr hm h2 hl
    unfold f_X12_lags_46l f_X12_lags_46 f_X12_lags_137
    rw [if_pos (by decide)]
    by_cases c : kd = 3
    · rw [if_pos c, if_pos c]; exact wp_some ⟨rfl, hrt⟩
    · rw [if_neg c, if_neg c]; exact wp_some ⟨rfl, hrt⟩
  | succ e ih =>
    intro k n M hk hn hm h2 hl
    obtain ⟨m, rfl⟩ : ∃ m, n = m + 1 := ⟨n - 1, by omega⟩
    have e1 : Int32.ofNat k + 1 = Int32.ofNat (k + 1) := n3_add k 1
    have lay : ∀ t, t = Int32.ofNat (sgl_ kd told f st k) → wp_ (f_X12_lags_111 (f_X12_lags_46l m) kd n0 st (f + Int32.ofNat k * st) (Int32.ofNat (sml_ (sgl_ kd told f st) k)) (Int32.ofNat k) (Int32.ofNat k) t M) (fun z => z.1 = (if kd = 3 then -3 else Int32.ofNat (sml_ (sgl_ kd told f st) 6)) ∧ rt_ (lg_s S (sgl_ kd told f st)) no_ vs z.2) := by
      intro t ht
      have hix : ix_ok (Int32.ofNat k) 6 := (n3_ix (by omega)).mpr (by omega)
      unfold f_X12_lags_111
      refine wp_ck hix (wp_sr (wp_ck hix (wp_sr (wp_sr (wp_sr ?_)))))
      rw [e1, n3_tn (by omega), si_1, if_pos ⟨rfl, rfl⟩, ht, n3_add, add_mul_s]
      refine ih (k + 1) m _ (by omega) (by omega) (fun a b h => by rw [si_1, if_neg (by omega)]; exact hm a b h) h2 (fun q hq => ?_)
      rw [si_1]
      by_cases c : q = k
      · rw [if_pos ⟨rfl, c⟩, c]
      · rw [if_neg (by omega)]; exact hl q (by omega)
    have mid : ∀ t0, t0 = (if kd = 0 then (f + Int32.ofNat k * st).toInt8.toInt32 else if kd = 1 then (f + Int32.ofNat k * st).toInt16.toInt32 else f + Int32.ofNat k * st) → wp_ (f_X12_lags_76 (f_X12_lags_46l m) kd n0 st (f + Int32.ofNat k * st) (Int32.ofNat (sml_ (sgl_ kd told f st) k)) (Int32.ofNat k) t0 M) (fun z => z.1 = (if kd = 3 then -3 else Int32.ofNat (sml_ (sgl_ kd told f st) 6)) ∧ rt_ (lg_s S (sgl_ kd told f st)) no_ vs z.2) := by
      intro t0 ht0
      unfold f_X12_lags_76 f_X12_lags_95
      by_cases c3 : kd = 3
      · rw [if_pos c3]
        refine lay 0 ?_
        rw [if_pos c3] at htold
        unfold sgl_
        rw [htold, if_neg (by intro hh; exact (n3_neg (by omega)).mp hh)]; rfl
      · rw [if_neg c3]
        rw [if_neg c3] at htold
        by_cases c : Int32.ofNat k < n0
        · rw [if_pos c]
          refine lay _ ?_
          unfold sgl_
          rw [htold, if_pos c]
          obtain ⟨n2, hn2, h3⟩ := sht_nat kd (f + Int32.ofNat k * st)
          rw [hn2, n3_tn (by omega), ← hn2, ht0]; rfl
        · rw [if_neg c]
          refine lay 0 ?_
          unfold sgl_
          rw [htold, if_neg c]; rfl
    unfold f_X12_lags_46l f_X12_lags_46
    rw [if_neg (by show ¬ (Int32.ofNat 6 ≤ _); rw [n3_le (by omega) (by omega)]; omega)]
    by_cases c0 : kd = 0
    · rw [if_pos c0]; exact mid _ (by rw [if_pos c0])
    · rw [if_neg c0]
      by_cases c1 : kd = 1
      · rw [if_pos c1]; exact mid _ (by rw [if_neg c0, if_pos c1])
      · rw [if_neg c1]; exact mid _ (by rw [if_neg c0, if_neg c1])
theorem m_lags (h : rl_ Mc Mr) (x1 x2 x3 x4 : Int32) : bo_ (f_X11_lags x1 x2 x3 x4 Mc) (f_X12_lags x1 x2 x3 x4 Mr) := by
  obtain ⟨S, vs, hw, hv, hc, hr⟩ := h
  have hr1 := hr.th
  have hrl : rl_ Mc (mm_si Mr 0 0 0) := ⟨S, vs, hw, hv, hc, hr1⟩
  unfold f_X11_lags f_X12_lags
  rw [sq_n (x := mm_si Mr 0 0 0), show (4 : Int32) = Int32.ofNat 4 from rfl, c_bl (by omega), show (3 : Int64) = Int64.ofNat 3 from rfl, r_in0 (by omega)]
  refine bo_g hrl (fun b1 => ?_)
  by_cases c6 : x2 ≤ 6
  · rw [if_pos c6, if_pos c6]
    have z0 : x3 = x3 + Int32.ofNat 0 * x4 := by
      rw [show Int32.ofNat 0 = 0 from rfl, Int32.zero_mul, Int32.add_zero]
    have wfl : ∀ told, wf_ (lg_s S (sgl_ x1 told x3 x4)) := fun told => wf_lg hw (fun p _ => sgl_le)
    by_cases c3 : x1 = 3
    · rw [if_pos c3, if_pos c3]
      unfold f_X11_lags_26 f_X11_lags_40 f_X11_lags_50 f_X12_lags_37
      rw [if_neg (by decide), if_neg (by decide)]
      refine bo_mk (S := lg_s S (sgl_ x1 0 x3 x4)) (vs := vs) (A := -3) (wfl 0) hv ?_ ?_
      · have := k_lags_l hw hc (kd := x1) (f := x3) (st := x4) (miss := 1) (told := 0) 6 0 fu_ Mc (by omega) (by unfold fu_; omega) (fun _ _ _ => rfl) rfl (fun q hq => by omega)
        rw [if_neg (by decide)] at this
        exact this
      · have := q_lags_l hw hr1 (kd := x1) (n0 := x2) (f := x3) (st := x4) (told := 0) (by rw [if_pos c3]) 6 0 fu_ _ (by omega) (by unfold fu_; omega) (fun _ _ _ => rfl) rfl (fun q hq => by omega)
        rw [if_pos c3, ← z0] at this
        exact this
    · rw [if_neg c3, if_neg c3]
      unfold f_X11_lags_26 f_X11_lags_40 f_X11_lags_50 f_X12_lags_37
      rw [if_pos rfl]
      by_cases cn : 0 ≤ x2
      · rw [if_pos cn, if_pos cn, if_pos rfl]
        refine bo_mk (S := lg_s S (sgl_ x1 x2 x3 x4)) (vs := vs) (A := Int32.ofNat (sml_ (sgl_ x1 x2 x3 x4) 6)) (wfl x2) hv ?_ ?_
        · have := k_lags_l hw hc (kd := x1) (f := x3) (st := x4) (miss := 0) (told := x2) 6 0 fu_ Mc (by omega) (by unfold fu_; omega) (fun _ _ _ => rfl) rfl (fun q hq => by omega)
          rw [if_pos rfl] at this
          exact this
        · have := q_lags_l hw hr1 (kd := x1) (n0 := x2) (f := x3) (st := x4) (told := x2) (by rw [if_neg c3]) 6 0 fu_ _ (by omega) (by unfold fu_; omega) (fun _ _ _ => rfl) rfl (fun q hq => by omega)
          rw [if_neg c3, ← z0] at this
          exact this
      · rw [if_neg cn, if_neg cn]; exact bo_no hrl
  · rw [if_neg c6, if_neg c6]; exact bo_no hrl
end VC1
