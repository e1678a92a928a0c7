/-! THE CLASS: tails, beats, a law works -/
def te_ (S : sg_) (xs : List Nat) : Nat := if tl_ S xs = [] then 0 else en_ (tl_ S xs)
def sb_ (o : Option Nat) : Nat := match o with
  | none => 16
  | some s => s
/-- a part of a law as a set of sounds (16: the edge) -/
def st_ (S : sg_) (g : Nat) : Nat := if g = 23 then 131071 else if g = 22 then 65536 else if g < 16 then 2 ^ g else S 3 (g - 16)
def tg_ (g : Nat) : Int32 := if g = 23 then -1 else if g = 22 then 35 else if g < 16 then Int32.ofNat (97 + g) else Int32.ofNat (49 + g)
def bc_ (g : Nat) : Int32 := if g = 24 then -1 else Int32.ofNat g
/-- a law as the class holds it -/
def lo_ (S : sg_) (M : mm_M) (l : Nat) : Prop := M.1 (8 + l) 0 = tg_ (S 6 l) ∧ M.1 (8 + l) 1 = tg_ (S 8 l) ∧ M.1 (8 + l) 2 = tg_ (S 9 l) ∧ M.1 (8 + l) 3 = bc_ (S 7 l) ∧ M.1 (8 + l) 4 = Int32.ofNat (st_ S (S 6 l)) ∧ M.1 (8 + l) 5 = Int32.ofNat (st_ S (S 8 l)) ∧ M.1 (8 + l) 6 = Int32.ofNat (st_ S (S 9 l))
section SB1
variable {S : sg_} {M : mm_M}
theorem tl_v {a : Nat} {suf : List Nat} (ha : (S 3 0).testBit a = true) (hs : (suf.any fun s => (S 3 0).testBit s) = false) : ∀ pre : List Nat, tl_ S (pre ++ a :: suf) = a :: suf := by
  intro pre
  induction pre with
  | nil =>
    show tl_ S (a :: suf) = _
    unfold tl_
    rw [hs, if_neg (by decide), if_pos ha]
  | cons x xs ih =>
    show tl_ S (x :: (xs ++ a :: suf)) = _
    unfold tl_
    rw [if_pos (by simp [ha]), ih]
theorem c_vb {v : Nat} (hv : v < 16) : ((Int32.ofNat (S 3 0) >>> (Int32.ofNat v &&& 31)) &&& 1) = if (S 3 0).testBit v = true then 1 else 0 := by
  rw [ib_bit (by omega), ib_nat2 (by omega)]
theorem m1_neg (k : Nat) (hk : k < 2147483648) : (Int32.ofNat k + (-1) < 0) ↔ k = 0 := by
  cases k with
  | zero => constructor <;> intro _ <;> first | rfl | decide
  | succ k =>
    rw [n3_pred (by omega)]
    constructor
    · intro h; exact ((n3_neg (by omega)).mp h).elim
    · intro h; omega
theorem c_tl_l {xs : List Nat} (hx : ok_ xs) : ∀ (k : Nat) (pre suf : List Nat) (n : Nat), pre.length = k → xs = pre ++ suf → (suf.any fun s => (S 3 0).testBit s) = false → k < n →
    f_X0_tailOf_10l n (Int64.ofNat (en_ xs)) (Int32.ofNat (S 3 0)) (Int32.ofNat xs.length) (Int32.ofNat k + (-1)) = some (Int64.ofNat (te_ S xs)) := by
  have h8 := hx.1
  have hl := en_lt hx
  have hev := ev_lt xs hx.2
  have h16 := p16_8 hx.1
  intro k
  induction k with
  | zero =>
    intro pre suf n hp he hs hn
    obtain ⟨m, rfl⟩ : ∃ m, n = m + 1 := ⟨n - 1, by omega⟩
    have hp2 : pre = [] := List.length_eq_zero_iff.mp hp
    subst hp2
    have hnt : tl_ S xs = [] := (tl_any xs).mpr (by rw [he]; exact hs)
    unfold f_X0_tailOf_10l f_X0_tailOf_10 te_
    rw [if_pos (by decide), if_pos hnt]; rfl
  | succ k ih =>
    intro pre suf n hp he hs hn
    obtain ⟨m, rfl⟩ : ∃ m, n = m + 1 := ⟨n - 1, by omega⟩
    obtain ⟨pr, a, rfl⟩ : ∃ pr a, pre = pr ++ [a] := by
      rcases List.eq_nil_or_concat pre with hh | ⟨pr, a, hh⟩
      · rw [hh] at hp; simp at hp
      · exact ⟨pr, a, by rw [hh, List.concat_eq_append]⟩
    have hpl : pr.length = k := by simpa using hp
    have he2 : xs = pr ++ a :: suf := by rw [he]; simp
    have hlen : xs.length = k + (suf.length + 1) := by rw [he2]; simp [hpl]
    have ha := hx.2 a (by rw [he2]; simp)
    have hat : xs[k]? = some a := by rw [he2, ← hpl]; simp
    unfold f_X0_tailOf_10l f_X0_tailOf_10
    rw [if_neg (by rw [m1_neg _ (by omega)]; omega), n3_pred (by omega), Nat.add_sub_cancel, c_snd hx hat]
    simp only [sq_, c_vb ha]
    cases c : (S 3 0).testBit a
    · rw [if_pos (by decide)]
      exact ih pr (a :: suf) m hpl he2 (by simp [c]; simpa using hs) (by omega)
    · rw [if_pos rfl, if_neg (by decide)]
      have ht : tl_ S xs = a :: suf := by rw [he2]; exact tl_v c hs pr
      have hdr : xs.drop k = a :: suf := by rw [he2, ← hpl]; simp
      have hok : ok_ (a :: suf) := ⟨by simp; omega, fun x hxm => hx.2 x (by rw [he2]; simp at hxm ⊢; rcases hxm with h | h; exact Or.inr (Or.inl h); exact Or.inr (Or.inr h))⟩
      unfold f_X0_tailOf_28 te_
      simp only [sq_]
      rw [ht, if_neg (by simp)]
      have e1 : (Int64.ofNat (en_ xs) &&& 4294967295) = Int64.ofNat (ev_ xs) := by
        show _ &&& Int64.ofNat (2 ^ 32 - 1) = _
        rw [n6_and, nt_and]
        congr 1
        unfold en_; omega
      have e2 : ((4 : Int32) * Int32.ofNat k).toInt64 = Int64.ofNat (4 * k) := by
        show (Int32.ofNat 4 * _).toInt64 = _
        rw [n3_mul, n3_6 (by omega)]
      rw [e1, e2, n6_usr (by omega) (by omega), p16, ev_div k xs hx.2, hdr, n3_sub (by omega)]
      rw [show xs.length - k = (a :: suf).length from by rw [hlen]; simp, c_ofl hok]
theorem c_tl {xs : List Nat} (hx : ok_ xs) : f_X0_tailOf (Int64.ofNat (en_ xs)) (Int32.ofNat (S 3 0)) = some (Int64.ofNat (te_ S xs)) := by
  have h8 := hx.1
  unfold f_X0_tailOf
  rw [c_len hx]
  simp only [sq_]
  rw [Int32.sub_eq_add_neg]
  exact c_tl_l hx xs.length xs [] fu_ rfl (by simp) rfl (by unfold fu_; omega)
theorem tl_okl {xs : List Nat} (h : ok_ xs) : ok_ (tl_ S xs) := by
  refine ⟨Nat.le_trans (tl_len xs) h.1, fun x hx => ?_⟩
  rw [tl_drop] at hx
  exact h.2 x (List.mem_of_mem_drop hx)
theorem te_lt {xs : List Nat} (h : ok_ xs) : te_ S xs < 68719476736 := by
  unfold te_
  split
  · omega
  · exact en_lt (tl_okl h)
theorem te_0 {xs : List Nat} : te_ S xs = 0 ↔ tl_ S xs = [] := by
  unfold te_
  split
  · rename_i h; simp [h]
  · rename_i h
    constructor
    · intro h2; unfold en_ at h2; omega
    · intro h2; exact absurd h2 h
theorem te_inj {xs ys : List Nat} (hx : ok_ xs) (hy : ok_ ys) : te_ S xs = te_ S ys ↔ tl_ S xs = tl_ S ys := by
  constructor
  · intro h
    by_cases c : tl_ S xs = []
    · rw [te_0.mpr c] at h
      rw [c, te_0.mp h.symm]
    · have c2 : tl_ S ys ≠ [] := fun h2 => by
        rw [te_0.mpr h2] at h; exact c (te_0.mp h)
      unfold te_ at h
      rw [if_neg c, if_neg c2] at h
      exact (en_inj (tl_okl hx) (tl_okl hy)).mp h
  · intro h; unfold te_; rw [h]
theorem c_bt_l {xs : List Nat} (hx : ok_ xs) : ∀ (us pre : List Nat) (n : Nat), xs = pre ++ us → us.length < n →
    f_X0_beatsOf_11l n (Int64.ofNat (en_ xs)) (Int32.ofNat (S 3 0)) (Int32.ofNat xs.length) (Int32.ofNat (pre.filter fun s => (S 3 0).testBit s).length) (Int32.ofNat pre.length) = some (Int32.ofNat (xs.filter fun s => (S 3 0).testBit s).length) := by
  have h8 := hx.1
  intro us
  induction us with
  | nil =>
    intro pre n e1 hn
    obtain ⟨m, rfl⟩ : ∃ m, n = m + 1 := ⟨n - 1, by omega⟩
    rw [List.append_nil] at e1
    subst e1
    unfold f_X0_beatsOf_11l f_X0_beatsOf_11
    rw [if_pos (Int32.le_refl _)]
  | cons u us ih =>
    intro pre n e1 hn
    obtain ⟨m, rfl⟩ : ∃ m, n = m + 1 := ⟨n - 1, by omega⟩
    have hlx : xs.length = pre.length + (us.length + 1) := by rw [e1]; simp
    have hu := hx.2 u (by rw [e1]; simp)
    unfold f_X0_beatsOf_11l f_X0_beatsOf_11
    rw [if_neg (by rw [n3_le (by omega) (by omega)]; omega), c_snd hx (i := pre.length) (v := u) (by rw [e1]; simp)]
    simp only [sq_, c_vb hu]
    have e2 : Int32.ofNat pre.length + 1 = Int32.ofNat (pre ++ [u]).length := by
      rw [show (pre ++ [u]).length = pre.length + 1 from by simp]; exact n3_add _ 1
    have e3 : Int32.ofNat (pre.filter fun s => (S 3 0).testBit s).length + (if (S 3 0).testBit u = true then 1 else 0) = Int32.ofNat ((pre ++ [u]).filter fun s => (S 3 0).testBit s).length := by
      rw [List.filter_append]
      cases c : (S 3 0).testBit u
      · rw [if_neg (by decide), show (0 : Int32) = Int32.ofNat 0 from rfl, n3_add]; simp [c]
      · rw [if_pos rfl, show (1 : Int32) = Int32.ofNat 1 from rfl, n3_add]; simp [c]
    rw [e2, e3]
    exact ih (pre ++ [u]) m (by rw [e1]; simp) (by simp at hn; omega)
theorem c_bt {xs : List Nat} (hx : ok_ xs) : f_X0_beatsOf (Int64.ofNat (en_ xs)) (Int32.ofNat (S 3 0)) = some (Int32.ofNat (xs.filter fun s => (S 3 0).testBit s).length) := by
  have h8 := hx.1
  unfold f_X0_beatsOf
  rw [c_len hx]
  exact c_bt_l hx xs [] fu_ rfl (by unfold fu_; omega)
/-! a law's sets -/
theorem st_of (hw : wf_ S) {g s : Nat} (hg : g < 22) (hs : s < 16) : (st_ S g).testBit s = is_of S g s := by
  unfold st_ is_of
  rw [if_neg (by omega), if_neg (by omega)]
  by_cases c : g < 16
  · rw [if_pos c, if_pos c, Nat.testBit_two_pow]
    apply decide_eq_decide.mpr
    exact eq_comm
  · rw [if_neg c, if_neg c]
theorem st_by (hw : wf_ S) {g : Nat} {o : Option Nat} (hg : g ≤ 23) (ho : ∀ s, o = some s → s < 16) : (st_ S g).testBit (sb_ o) = is_by S g o := by
  unfold is_by
  by_cases c1 : g = 23
  · rw [if_pos c1]
    unfold st_
    rw [if_pos c1, show 131071 = 2 ^ 17 - 1 from rfl, Nat.testBit_two_pow_sub_one]
    apply decide_eq_true
    cases o with
    | none => show 16 < 17; omega
    | some s => have := ho s rfl; show s < 17; omega
  · rw [if_neg c1]
    by_cases c2 : g = 22
    · rw [if_pos c2]
      unfold st_
      rw [if_neg c1, if_pos c2, show 65536 = 2 ^ 16 from rfl, Nat.testBit_two_pow]
      cases o with
      | none => rfl
      | some s => have := ho s rfl; show decide (16 = s) = false; apply decide_eq_false; omega
    · rw [if_neg c2]
      cases o with
      | some s => exact st_of hw (by omega) (ho s rfl)
      | none =>
        show (st_ S g).testBit 16 = false
        unfold st_
        rw [if_neg c1, if_neg c2]
        by_cases c3 : g < 16
        · rw [if_pos c3, Nat.testBit_two_pow]
          apply decide_eq_false; omega
        · rw [if_neg c3]
          apply Nat.testBit_lt_two_pow
          exact hw.cl _ (by omega)
theorem c_hit {a b c : Int32} {i j k : Nat} (hi : i < 32) (hj : j < 32) (hk : k < 32) : ((((a >>> (Int32.ofNat i &&& 31)) &&& (b >>> (Int32.ofNat j &&& 31))) &&& (c >>> (Int32.ofNat k &&& 31))) &&& 1) = if (ib_ a i && ib_ b j && ib_ c k) = true then 1 else 0 := by
  apply ib_ext
  intro q hq
  rw [ib_and, ib_1 q hq, ib_and, ib_and]
  by_cases h0 : q = 0
  · subst h0
    rw [ib_sr hi (by omega), ib_sr hj (by omega), ib_sr hk (by omega)]
    simp only [Nat.add_zero, decide_true, Bool.and_true]
    cases h : (ib_ a i && ib_ b j && ib_ c k)
    · rw [if_neg (by decide), ib_0]
    · rw [if_pos rfl, ib_1 0 (by omega)]; rfl
  · rw [decide_eq_false h0, Bool.and_false]
    split
    · rw [ib_1 q hq, decide_eq_false h0]
    · exact ib_0.symm
theorem ev_app (v : Nat) : ∀ xs : List Nat, ev_ (xs ++ [v]) = v * 16 ^ xs.length + ev_ xs := by
  intro xs
  induction xs with
  | nil => simp [ev_]
  | cons x xs ih =>
    show x + 16 * ev_ (xs ++ [v]) = v * 16 ^ (xs.length + 1) + (x + 16 * ev_ xs)
    rw [ih, Nat.pow_succ, Nat.mul_add, ← Nat.mul_assoc 16 v, Nat.mul_comm 16 v, ← Nat.mul_assoc v, Nat.mul_assoc v 16, Nat.mul_comm 16 (16 ^ xs.length), ← Nat.mul_assoc]
    omega
theorem c_wk_l (hw : wf_ S) {l : Nat} (hl : l < S 0 11) (hlo : lo_ S M l) {xs : List Nat} (hx : ok_ xs) :
    ∀ (rest pre out : List Nat) (n : Nat), xs = pre ++ rest → rest.length < n → out.length ≤ pre.length → (∀ x, x ∈ out → x < 16) →
    f_X2_workOn_18l M n (8 + l) (Int64.ofNat (en_ xs)) (Int32.ofNat xs.length) (Int64.ofNat (ev_ out)) (Int32.ofNat out.length) (Int32.ofNat (sb_ pre.getLast?)) (Int32.ofNat pre.length) = some (Int64.ofNat (en_ (out ++ lw_go S l pre.getLast? rest))) := by
  have h8 := hx.1
  have hb := hw.bec l hl
  obtain ⟨-, -, -, m3, m4, m5, m6⟩ := hlo
  intro rest
  induction rest with
  | nil =>
    intro pre out n e1 hn ho h16
    obtain ⟨m, rfl⟩ : ∃ m, n = m + 1 := ⟨n - 1, by omega⟩
    have hlen : xs.length = pre.length := by rw [e1]; simp
    unfold f_X2_workOn_18l f_X2_workOn_18
    rw [if_pos ((n3_le (by omega) (by omega)).mpr (by omega))]
    show some (f_X0_of _ _) = _
    rw [c_ofl ⟨by omega, h16⟩]
    simp [lw_go]
  | cons x rest ih =>
    intro pre out n e1 hn ho h16
    obtain ⟨m, rfl⟩ : ∃ m, n = m + 1 := ⟨n - 1, by omega⟩
    have hlen : xs.length = pre.length + (rest.length + 1) := by rw [e1]; simp
    have hx16 : x < 16 := hx.2 x (by rw [e1]; simp)
    have hp16 : ∀ s, pre.getLast? = some s → s < 16 := fun s hs => hx.2 s (by rw [e1]; simp [List.mem_of_getLast? hs])
    have hr16 : ∀ s, rest.head? = some s → s < 16 := fun s hs => hx.2 s (by rw [e1]; simp [List.mem_of_head? hs])
    have e2 : Int32.ofNat pre.length + 1 = Int32.ofNat (pre ++ [x]).length := by
      rw [show (pre ++ [x]).length = pre.length + 1 from by simp]; exact n3_add _ 1
    have go : ∀ out', out'.length ≤ pre.length + 1 → (∀ z, z ∈ out' → z < 16) → f_X2_workOn_128 (f_X2_workOn_18l M m) (8 + l) (Int64.ofNat (en_ xs)) (Int32.ofNat xs.length) (Int64.ofNat (ev_ out')) (Int32.ofNat out'.length) (Int32.ofNat pre.length) (Int32.ofNat x) M = some (Int64.ofNat (en_ (out' ++ lw_go S l (some x) rest))) := by
      intro out' hl' h16'
      unfold f_X2_workOn_128
      simp only [sq_]
      rw [e2]
      have := ih (pre ++ [x]) out' m (by rw [e1]; simp) (by simp at hn; omega) (by simp; omega) h16'
      rw [show (pre ++ [x]).getLast? = some x from by simp] at this
      exact this
    have lay : ∀ v, v < 16 → f_X2_workOn_104 (f_X2_workOn_18l M m) (8 + l) (Int64.ofNat (en_ xs)) (Int32.ofNat xs.length) (Int64.ofNat (ev_ out)) (Int32.ofNat out.length) (Int32.ofNat pre.length) (Int32.ofNat x) (Int32.ofNat v) M = some (Int64.ofNat (en_ (out ++ v :: lw_go S l (some x) rest))) := by
      intro v hv
      unfold f_X2_workOn_104
      rw [if_neg (by rw [n3_nm (by omega)]; exact id)]
      simp only [sq_]
      have ea : ((4 : Int32) * Int32.ofNat out.length).toInt64 = Int64.ofNat (4 * out.length) := by
        show (Int32.ofNat 4 * _).toInt64 = _
        rw [n3_mul, n3_6 (by omega)]
      have eb : Int64.ofNat (ev_ out) ||| (Int32.ofNat v).toInt64 <<< (((4 : Int32) * Int32.ofNat out.length).toInt64 &&& 63) = Int64.ofNat (ev_ (out ++ [v])) := by
        rw [ea, n3_6 (by omega), n6_shl (by omega), n6_or, Nat.or_comm, nt_or, ev_app, p16]
        rw [p16]; exact ev_lt out h16
      have ec : Int32.ofNat out.length + 1 = Int32.ofNat (out ++ [v]).length := by
        rw [show (out ++ [v]).length = out.length + 1 from by simp]; exact n3_add _ 1
      rw [eb, ec, go (out ++ [v]) (by simp; omega) (fun z hz => by simp at hz; rcases hz with h | h; exact h16 z h; omega)]
      simp
    have step : ∀ does, does = lw_d S l pre.getLast? x rest.head? → f_X2_workOn_88 (f_X2_workOn_18l M m) (8 + l) (Int64.ofNat (en_ xs)) (Int32.ofNat xs.length) (Int64.ofNat (ev_ out)) (Int32.ofNat out.length) (Int32.ofNat pre.length) (Int32.ofNat x) (bi_ does) M = some (Int64.ofNat (en_ (out ++ lw_go S l pre.getLast? (x :: rest)))) := by
      intro does hdoes
      unfold f_X2_workOn_88
      conv => rhs; unfold lw_go
      rw [← hdoes]
      cases does with
      | false => rw [if_pos (by decide), if_neg (by decide), lay x hx16]
      | true =>
        rw [if_neg (by decide), if_pos rfl, m3]
        unfold bc_
        by_cases c : S 7 l = 24
        · rw [if_pos c, if_pos c]
          unfold f_X2_workOn_104
          rw [if_pos rfl, go out (by omega) h16]
        · rw [if_neg c, if_neg c, lay (S 7 l) (by omega)]
    have s2 : ∀ be, be = sb_ rest.head? → f_X2_workOn_53 (f_X2_workOn_18l M m) (8 + l) (Int64.ofNat (en_ xs)) (Int32.ofNat xs.length) (Int64.ofNat (ev_ out)) (Int32.ofNat out.length) (Int32.ofNat (sb_ pre.getLast?)) (Int32.ofNat pre.length) (Int32.ofNat x) (Int32.ofNat be) M = some (Int64.ofNat (en_ (out ++ lw_go S l pre.getLast? (x :: rest)))) := by
      intro be hbe
      have hbp : sb_ pre.getLast? < 32 := by
        cases hq : pre.getLast? with
        | none => show 16 < 32; omega
        | some s => have := hp16 s hq; show s < 32; omega
      have hbr : be < 32 := by
        rw [hbe]
        cases hq : rest.head? with
        | none => show 16 < 32; omega
        | some s => have := hr16 s hq; show s < 32; omega
      unfold f_X2_workOn_53
      rw [m4, m5, m6, c_hit (by omega) hbp hbr, ib_nat2 (by omega), ib_nat2 hbp, ib_nat2 hbr, hbe, st_of hw (hw.goes l hl) hx16, st_by hw (hw.lf l hl) hp16, st_by hw (hw.rt l hl) hr16, Bool.and_assoc]
      cases hd : (is_of S (S 6 l) x && (is_by S (S 8 l) pre.getLast? && is_by S (S 9 l) rest.head?))
      · rw [if_pos (by decide)]; exact step false hd.symm
      · rw [if_pos rfl, if_neg (by decide)]; exact step true hd.symm
    unfold f_X2_workOn_18l f_X2_workOn_18
    rw [if_neg (by rw [n3_le (by omega) (by omega)]; omega), c_snd hx (i := pre.length) (v := x) (by rw [e1]; simp)]
    simp only [sq_]
    have e3 : Int32.ofNat pre.length + 1 = Int32.ofNat (pre.length + 1) := n3_add _ 1
    rw [e3]
    cases hr : rest with
    | nil =>
      rw [hr] at hlen s2
      rw [if_pos ((n3_le (by omega) (by omega)).mpr (by simp at hlen; omega))]
      exact s2 16 rfl
    | cons r rs =>
      rw [hr] at hlen s2 e1
      rw [if_neg (by rw [n3_le (by omega) (by omega)]; simp at hlen; omega), c_snd hx (i := pre.length + 1) (v := r) (by rw [e1]; simp)]
      exact s2 r rfl
theorem c_wk (hw : wf_ S) {l : Nat} (hl : l < S 0 11) (hlo : lo_ S M l) {xs : List Nat} (hx : ok_ xs) : f_X2_workOn (8 + l) (Int64.ofNat (en_ xs)) M = some (Int64.ofNat (en_ (lw_on S l xs))) := by
  have h8 := hx.1
  unfold f_X2_workOn
  rw [c_len hx]
  exact c_wk_l hw hl hlo hx xs [] [] fu_ rfl (by unfold fu_; omega) (Nat.le_refl _) (fun x h => by cases h)
end SB1
