/-! THE LAW'S LOOP: what holds between calls, the reading of an argument, the end of a case -/
def lp_w : Cond := Cond.initialized "RhymedThenLaw"
def lp_o (cy : Nat → ClassId) (out : Nat) (fo : Nat → Int64) : va_W := [(out, .inl (cy 1, 1, .inr (.inl fo)))]
abbrev lp_c (D : va_G) (cy : Nat → ClassId) (s : State) (ad : Nat → Nat) (u : Nat × Nat) (Mc : mm_M) (ad2 : Nat → Nat) (u2 : Nat × Nat) (Mr : mm_M) (out : Nat) (fo : Nat → Int64) (H : Heap) (locs : List Loc) : Prop := wd_in cx_T D cy s.heap.size ad u Mc (wd_ws rf_T cy ad2 u2 Mr (lp_o cy out fo)) s H locs
abbrev lp_r (D : va_G) (cy : Nat → ClassId) (s : State) (ad : Nat → Nat) (u : Nat × Nat) (Mc : mm_M) (ad2 : Nat → Nat) (u2 : Nat × Nat) (Mr : mm_M) (out : Nat) (fo : Nat → Int64) (H : Heap) (locs : List Loc) : Prop := wd_in rf_T D cy s.heap.size ad2 u2 Mr (wd_ws cx_T cy ad u Mc (lp_o cy out fo)) s H locs
theorem lp_perm {α : Type} {A B C E O : List α} : (A ++ (B ++ (C ++ (E ++ O)))).Perm (C ++ (E ++ (A ++ (B ++ O)))) := by
  rw [show A ++ (B ++ (C ++ (E ++ O))) = (A ++ B) ++ ((C ++ E) ++ O) by simp only [List.append_assoc], show C ++ (E ++ (A ++ (B ++ O))) = (C ++ E) ++ ((A ++ B) ++ O) by simp only [List.append_assoc]]
  exact List.perm_append_comm_assoc _ _ _
theorem lp_flip {T T2 : wd_T} {D : va_G} {cy : Nat → ClassId} {z0 : Nat} {ad ad2 : Nat → Nat} {u u2 : Nat × Nat} {M M2 : mm_M} {O : va_W} {s : State} {H : Heap} {locs : List Loc} (hw : wd_in T D cy z0 ad u M (wd_ws T2 cy ad2 u2 M2 O) s H locs) : wd_in T2 D cy z0 ad2 u2 M2 (wd_ws T cy ad u M O) s H locs :=
  ⟨hw.1, wp_Pperm hw.2.1 lp_perm, wp_Dperm hw.2.2.1 lp_perm, hw.2.2.2.1, hw.2.2.2.2.1, hw.2.2.2.2.2⟩
def lp_ls (b k : Nat) (ad ad2 : Nat → Nat) (out : Nat) : List (Nat × Value) := [(0, .ref b), (1, .ref (ad 0)), (2, .ref (ad2 0)), (3, .ref out), (4, .int (nI (7 * k)))]
def lp_F (p : Program) (s : State) (m : MethodId) (meth : Method) (c : Code) (b L : Nat) (xs : Nat → Int32) : Prop := cx_C p s m #[Value.ref b] meth c code "RhymedThenLaw" lp_w 8 ret ∧ va_X b L xs s s.heap ∧ b < s.heap.size ∧ L ≤ 3584
def lp_Go (p : Program) (l : Launch) (e : Env) (s : State) (m : MethodId) (below : List Frame) (meth : Method) (c : Code) (b : Nat) (D : va_G) (cy : Nat → ClassId) (k : Nat) : Prop :=
  ∀ (ad : Nat → Nat) (u : Nat × Nat) (Mc : mm_M) (ad2 : Nat → Nat) (u2 : Nat × Nat) (Mr : mm_M) (out : Nat) (fo : Nat → Int64) (H : Heap) (locs : List Loc), rl_ Mc Mr → lp_c D cy s ad u Mc ad2 u2 Mr out fo H locs → ∀ ls : Array Slot, lv_has ls 8 (lp_ls b k ad ad2 out) →
    W p l e room_1 s m #[Value.ref b] below meth c H locs (53 + 2 * Mc.2.2 + k) (7551 + 52 * Mc.2.2 + 6 * k) (lw_Z below #[Value.ref b] s) (F0 m 2184 ls [])
def lp_W (p : Program) (l : Launch) (e : Env) (s : State) (m : MethodId) (below : List Frame) (meth : Method) (c : Code) (b : Nat) (Mc : mm_M) (k : Nat) (H : Heap) (locs : List Loc) (g : JFrame) : Prop :=
  W p l e room_1 s m #[Value.ref b] below meth c H locs (52 + 2 * Mc.2.2 + k) (7545 + 52 * Mc.2.2 + 6 * k) (lw_Z below #[Value.ref b] s) g
theorem lp_cap {Mc Mr : mm_M} (h : rl_ Mc Mr) : Mc.2.2 ≤ 131072 := by
  obtain ⟨S, vs, -, -, h3, -⟩ := h
  obtain ⟨⟨W, pt, h4⟩, -⟩ := h3
  exact h4.capb
section LAW
variable {p : Program} {l : Launch} {e : Env} {s : State} {m : MethodId} {below : List Frame} {meth : Method} {c : Code} {b L k : Nat} {xs : Nat → Int32} {D : va_G} {cy : Nat → ClassId} {ad ad2 : Nat → Nat} {u u2 : Nat × Nat} {Mc Mr : mm_M} {out : Nat} {fo : Nat → Int64} {H : Heap} {locs : List Loc} {ls : Array Slot}
theorem lp_cr (hw : lp_c D cy s ad u Mc ad2 u2 Mr out fo H locs) : lp_r D cy s ad u Mc ad2 u2 Mr out fo H locs := lp_flip hw
theorem lp_rc (hw : lp_r D cy s ad u Mc ad2 u2 Mr out fo H locs) : lp_c D cy s ad u Mc ad2 u2 Mr out fo H locs := lp_flip hw
theorem lp_n1 {a1 a0 : Nat} (hcap : a1 ≤ 131072) (hmo : a0 ≤ a1) (hk : 7 * k + 7 ≤ L) (hL : L ≤ 3584) : 52 + 2 * a0 + k + 2 * (a1 - a0) ≤ 601024 := by omega
theorem lp_n2 {a1 a0 : Nat} (hcap : a1 ≤ 131072) (hmo : a0 ≤ a1) (hk : 7 * k + 7 ≤ L) (hL : L ≤ 3584) : 7545 + 52 * a0 + 6 * k + 52 * (a1 - a0) ≤ 7293034 := by omega
theorem lp_n3 {a1 a0 : Nat} (hcap : a1 ≤ 131072) (hmo : a0 ≤ a1) (hk : 7 * k + 7 ≤ L) (hL : L ≤ 3584) : 52 + 2 * a0 + k ≤ 601024 := by omega
theorem lp_n4 {a1 a0 : Nat} (hcap : a1 ≤ 131072) (hmo : a0 ≤ a1) (hk : 7 * k + 7 ≤ L) (hL : L ≤ 3584) : 7545 + 52 * a0 + 6 * k ≤ 7293034 := by omega
theorem lp_a {R : Room} {cells slots : Nat} {Q : State → Prop} {rest : List Value} {pc : Nat} (hF : lp_F p s m meth c b L xs) (hS : va_S (fun q => s.heap.size ≤ q) s.heap H locs) (hk : 7 * k + 7 ≤ L) (hl : lv_has ls 8 (lp_ls b k ad ad2 out)) (j : Nat) {n : Int} (hj : j < 7) (hv : Int32.ofInt n = nI j) (d0 : decode code pc = .ok (.aload_n 0, 1)) (d1 : decode code (pc + 1) = .ok (.iload 4, 2)) (d2 : decode code (pc + 1 + 2) = .ok (.iconst n, 1)) (d3 : decode code (pc + 1 + 2 + 1) = .ok (.iadd, 1)) (d4 : decode code (pc + 1 + 2 + 1 + 1) = .ok (.iaload, 1))
    (kk : W p l e R s m #[Value.ref b] below meth c H locs cells slots Q (F0 m (pc + 1 + 2 + 1 + 1 + 1) ls (.int (xs (7 * k + j)) :: rest))) : W p l e R s m #[Value.ref b] below meth c H locs cells slots Q (F0 m pc ls rest) := by
  have hL := hF.2.2.2
  refine lv_aload_n hF.1.1 hF.1.2.1 d0 rfl (lv_at hl 0 rfl) ?_
  refine lv_iload hF.1.1 hF.1.2.1 d1 (lv_at hl 4 rfl) ?_
  refine lv_iconst hF.1.1 hF.1.2.1 d2 hv ?_
  refine lv_iadd hF.1.1 hF.1.2.1 d3 ?_
  have he : (nI (7 * k) + nI j) = nI (7 * k + j) := nI_add _ _
  rw [he]
  refine va_sld hF.1.1 hF.1.2.1 hF.2.1 hF.2.2.1 (Nat.not_le.mpr hF.2.2.1) hS (vp_in_nI (by omega) (by omega)) d4 ?_
  rw [nI_clamp (show 7 * k + j < 2 ^ 31 by omega)]
  exact kk
theorem lp_ab {R : Room} {cells slots : Nat} {Q : State → Prop} {rest : List Value} {pc : Nat} (hF : lp_F p s m meth c b L xs) (hS : va_S (fun q => s.heap.size ≤ q) s.heap H locs) (hk : 7 * k + 7 ≤ L) (hl : lv_has ls 8 (lp_ls b k ad ad2 out)) (j : Nat) {n : Int} (hj : j < 7) (hv : (Int8.ofInt n).toInt32 = nI j) (d0 : decode code pc = .ok (.aload_n 0, 1)) (d1 : decode code (pc + 1) = .ok (.iload 4, 2)) (d2 : decode code (pc + 1 + 2) = .ok (.bipush n, 2)) (d3 : decode code (pc + 1 + 2 + 2) = .ok (.iadd, 1)) (d4 : decode code (pc + 1 + 2 + 2 + 1) = .ok (.iaload, 1))
    (kk : W p l e R s m #[Value.ref b] below meth c H locs cells slots Q (F0 m (pc + 1 + 2 + 2 + 1 + 1) ls (.int (xs (7 * k + j)) :: rest))) : W p l e R s m #[Value.ref b] below meth c H locs cells slots Q (F0 m pc ls rest) := by
  have hL := hF.2.2.2
  refine lv_aload_n hF.1.1 hF.1.2.1 d0 rfl (lv_at hl 0 rfl) ?_
  refine lv_iload hF.1.1 hF.1.2.1 d1 (lv_at hl 4 rfl) ?_
  refine lv_bipush hF.1.1 hF.1.2.1 d2 hv ?_
  refine lv_iadd hF.1.1 hF.1.2.1 d3 ?_
  have he : (nI (7 * k) + nI j) = nI (7 * k + j) := nI_add _ _
  rw [he]
  refine va_sld hF.1.1 hF.1.2.1 hF.2.1 hF.2.2.1 (Nat.not_le.mpr hF.2.2.1) hS (vp_in_nI (by omega) (by omega)) d4 ?_
  rw [nI_clamp (show 7 * k + j < 2 ^ 31 by omega)]
  exact kk
theorem lp_end1 {Mc1 Mr1 : mm_M} (hG : lp_Go p l e s m below meth c b D cy k) (hr : rl_ Mc1 Mr1) (hw : lp_c D cy s ad u Mc1 ad2 u2 Mr1 out fo H locs) (hl : lv_has ls 8 (lp_ls b k ad ad2 out)) (hmo : Mc.2.2 ≤ Mc1.2.2) : W p l e room_1 s m #[Value.ref b] below meth c H locs (52 + 2 * Mc.2.2 + k + 2 * (Mc1.2.2 - Mc.2.2)) (7545 + 52 * Mc.2.2 + 6 * k + 52 * (Mc1.2.2 - Mc.2.2)) (lw_Z below #[Value.ref b] s) (F0 m 2184 ls []) :=
  W.widen (by omega) (by omega) (hG ad u Mc1 ad2 u2 Mr1 out fo H locs hr hw ls hl)
theorem lp_end0 {Mc1 Mr1 : mm_M} (hG : lp_Go p l e s m below meth c b D cy k) (hr : rl_ Mc1 Mr1) (hw : lp_c D cy s ad u Mc1 ad2 u2 Mr1 out fo H locs) (hl : lv_has ls 8 (lp_ls b k ad ad2 out)) (hmo : Mc.2.2 ≤ Mc1.2.2) : W p l e room_1 s m #[Value.ref b] below meth c H locs (52 + 2 * Mc.2.2 + k) (7545 + 52 * Mc.2.2 + 6 * k) (lw_Z below #[Value.ref b] s) (F0 m 2184 ls []) :=
  W.widen (by omega) (by omega) (hG ad u Mc1 ad2 u2 Mr1 out fo H locs hr hw ls hl)
end LAW
