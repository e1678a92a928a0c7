set_option maxRecDepth 100000 in
set_option maxHeartbeats 4000000 in
theorem k_X12_isAnyFit_7 {p : Program} {l : Launch} {e : Env} {s : State} {m : MethodId} {args : Array Value} {below : List Frame} {meth : Method} {c : Code} {D : va_G} {cy : Nat → ClassId} {z0 : Nat} {ad : Nat → Nat} {X : va_W} {u : Nat × Nat} (hC : cx_C p s m args meth c cX12_isAnyFit "RhymedThenModel" (Cond.code yX12_isAnyFit cX12_isAnyFit 3 (some .boolean)) 3 (some .boolean)) {z : (Int32 × mm_M)} {x1 : Int32} {x2 : Int32} {M : mm_M} {q7 : Int32 → Int32 → mm_M → Option (Int32 × mm_M)} (hq7 : ∀ (x1 : Int32) (x2 : Int32) (M : mm_M) (H : Heap) (locs : List Loc) (ls : Array Slot), q7 x1 x2 M = some z → wd_in rf_T D cy z0 ad u M X s H locs → lv_has ls 3 [(0, .ref (ad 0)), (1, .int x1), (2, .int x2)] → W p l e { frames := 7, cells := 0, slots := 0, locals := 167 } s m args below meth c H locs 0 0 (MQ below (cq_i rf_T D cy z0 ad u X z.1 z.2) args s 0 0 (fun q => z0 ≤ q)) (F0 m 7 ls [])) (hf : f_X12_isAnyFit_7 q7 x1 x2 M = some z) {H : Heap} {locs : List Loc} (hw : wd_in rf_T D cy z0 ad u M X s H locs) {ls : Array Slot} (hl : lv_has ls 3 [(0, .ref (ad 0)), (1, .int x1), (2, .int x2)]) : W p l e { frames := 7, cells := 0, slots := 0, locals := 167 } s m args below meth c H locs 0 0 (MQ below (cq_i rf_T D cy z0 ad u X z.1 z.2) args s 0 0 (fun q => z0 ≤ q)) (F0 m 7 ls []) := by
  have hx := hC.1
  have hb := hC.2.1
  unfold f_X12_isAnyFit_7 at hf
  refine lv_iload_n hx hb dX12_isAnyFit_7 rfl (lv_at hl 2 rfl) ?_
  refine lv_iload_n hx hb dX12_isAnyFit_8 rfl (lv_at hl 1 rfl) ?_
  refine lv_icmp_ge (tgt := 28) hx hb dX12_isAnyFit_9 (by decide) (fun c2 => ?_) (fun c2 => ?_)
  · rw [if_pos c2] at hf
    refine lv_iconst (v := 0) hx hb dX12_isAnyFit_28 (by decide) ?_
    have hz := Option.some.inj hf
    subst hz
    exact rtc_z hC hw (Or.inl rfl) dX12_isAnyFit_29
  · rw [if_neg c2] at hf
    refine lv_aload_n hx hb dX12_isAnyFit_12 rfl (lv_at hl 0 rfl) ?_
    refine lv_iload_n hx hb dX12_isAnyFit_13 rfl (lv_at hl 2 rfl) ?_
    obtain ⟨z3, ez3, hf⟩ := bd_e hf
    refine clc_Vi hC hw (c_X12_isFit ez3) hd_X12_isFit cw_X12_276 (Nat.le_of_ble_eq_true rfl) rfl rfl (rest := []) hl.1 rfl (Nat.le_of_ble_eq_true rfl) ⟨Nat.le_of_ble_eq_true rfl, Nat.le_of_ble_eq_true rfl⟩ ⟨Nat.zero_le _, Nat.zero_le _⟩ rfl dX12_isAnyFit_14 (fun H locs hw => ?_)
    refine lv_if_eq (tgt := 22) hx hb dX12_isAnyFit_17 (by decide) (fun c4 => ?_) (fun c4 => ?_)
    · rw [if_pos c4] at hf
      obtain ⟨y5, ey5, hf⟩ := sq_e hf
      refine lv_iinc (v := y5) (lv' := [(2, .int y5), (0, .ref (ad 0)), (1, .int x1)]) hx hb dX12_isAnyFit_22 hl (k := 2) rfl (by rw [ey5]; rfl) (by decide) rfl (fun ls hl => ?_)
      refine lv_goto (tgt := 7) hx hb dX12_isAnyFit_25 (by decide) ?_
      exact hq7 _ _ _ _ _ _ hf hw (lv_sub hl [1, 2, 0] rfl)
    · rw [if_neg c4] at hf
      refine lv_iconst (v := 1) hx hb dX12_isAnyFit_20 (by decide) ?_
      have hz := Option.some.inj hf
      subst hz
      exact rtc_z hC hw (Or.inr rfl) dX12_isAnyFit_21
set_option maxRecDepth 100000 in
set_option maxHeartbeats 4000000 in
theorem k_X12_isAnyFit_7l {p : Program} {l : Launch} {e : Env} {s : State} {m : MethodId} {args : Array Value} {below : List Frame} {meth : Method} {c : Code} {D : va_G} {cy : Nat → ClassId} {z0 : Nat} {ad : Nat → Nat} {X : va_W} {u : Nat × Nat} (hC : cx_C p s m args meth c cX12_isAnyFit "RhymedThenModel" (Cond.code yX12_isAnyFit cX12_isAnyFit 3 (some .boolean)) 3 (some .boolean)) {z : (Int32 × mm_M)} : ∀ (n : Nat) (x1 : Int32) (x2 : Int32) (M : mm_M) (H : Heap) (locs : List Loc) (ls : Array Slot), f_X12_isAnyFit_7l n x1 x2 M = some z → wd_in rf_T D cy z0 ad u M X s H locs → lv_has ls 3 [(0, .ref (ad 0)), (1, .int x1), (2, .int x2)] → W p l e { frames := 7, cells := 0, slots := 0, locals := 167 } s m args below meth c H locs 0 0 (MQ below (cq_i rf_T D cy z0 ad u X z.1 z.2) args s 0 0 (fun q => z0 ≤ q)) (F0 m 7 ls []) := by
  intro n
  induction n with
  | zero => intro x1 x2 M H locs ls hf; exact absurd hf (by simp [f_X12_isAnyFit_7l])
  | succ n ih => intro x1 x2 M H locs ls hf hw hl; exact k_X12_isAnyFit_7 hC ih hf hw hl
set_option maxRecDepth 100000 in
set_option maxHeartbeats 4000000 in
theorem k_X12_isAnyFit {p : Program} {l : Launch} {e : Env} {s : State} {m : MethodId} {args : Array Value} {below : List Frame} {meth : Method} {c : Code} {D : va_G} {cy : Nat → ClassId} {z0 : Nat} {ad : Nat → Nat} {X : va_W} {u : Nat × Nat} (hC : cx_C p s m args meth c cX12_isAnyFit "RhymedThenModel" (Cond.code yX12_isAnyFit cX12_isAnyFit 3 (some .boolean)) 3 (some .boolean)) {z : (Int32 × mm_M)} {M : mm_M} (hf : f_X12_isAnyFit M = some z) {H : Heap} {locs : List Loc} (hw : wd_in rf_T D cy z0 ad u M X s H locs) {ls : Array Slot} (hl : lv_has ls 3 [(0, .ref (ad 0))]) : W p l e { frames := 7, cells := 0, slots := 0, locals := 167 } s m args below meth c H locs 0 0 (MQ below (cq_i rf_T D cy z0 ad u X z.1 z.2) args s 0 0 (fun q => z0 ≤ q)) (F0 m 0 ls []) := by
  have hx := hC.1
  have hb := hC.2.1
  unfold f_X12_isAnyFit at hf
  refine lv_aload_n hx hb dX12_isAnyFit_0 rfl (lv_at hl 0 rfl) ?_
  obtain ⟨z1, ez1, hf⟩ := bd_e hf
  refine clc_Vi hC hw (c_X12_histories ez1) hd_X12_histories cw_X12_107 (Nat.le_of_ble_eq_true rfl) rfl rfl (rest := []) hl.1 rfl (Nat.le_of_ble_eq_true rfl) ⟨Nat.le_of_ble_eq_true rfl, Nat.le_of_ble_eq_true rfl⟩ ⟨Nat.zero_le _, Nat.zero_le _⟩ rfl dX12_isAnyFit_1 (fun H locs hw => ?_)
  refine lv_istore_n (lv' := [(1, .int z1), (0, .ref (ad 0))]) hx hb dX12_isAnyFit_4 rfl hl (by decide) rfl (fun ls hl => ?_)
  refine lv_iconst (v := 0) hx hb dX12_isAnyFit_5 (by decide) ?_
  refine lv_istore_n (lv' := [(2, .int 0), (1, .int z1), (0, .ref (ad 0))]) hx hb dX12_isAnyFit_6 rfl hl (by decide) rfl (fun ls hl => ?_)
  exact k_X12_isAnyFit_7l hC fu_ _ _ _ _ _ _ hf hw (lv_sub hl [2, 1, 0] rfl)
set_option maxRecDepth 100000 in
theorem c_X12_isAnyFit {l : Launch} {D : va_G} {cy : Nat → ClassId} {z0 : Nat} {ad : Nat → Nat} {u : Nat × Nat} {X : va_W} {z : (Int32 × mm_M)} {M : mm_M} (hf : f_X12_isAnyFit M = some z) : ct_i rf_T l yX12_isAnyFit (Cond.code yX12_isAnyFit cX12_isAnyFit 3 (some .boolean)) 7 167 D cy z0 ad u M X [.ref (ad 0)] z.1 z.2 := by
  refine bgc_i (by decide) (fun p e s m below meth c hC hw => ?_)
  refine en_t (Nat.le_of_ble_eq_true rfl) (fun ls hl => ?_)
  have hl : lv_has ls 3 [(0, .ref (ad 0))] := hl
  exact k_X12_isAnyFit hC hf hw hl
set_option maxRecDepth 100000 in
set_option maxHeartbeats 4000000 in
theorem k_X12_ahead_95 {p : Program} {l : Launch} {e : Env} {s : State} {m : MethodId} {args : Array Value} {below : List Frame} {meth : Method} {c : Code} {D : va_G} {cy : Nat → ClassId} {z0 : Nat} {ad : Nat → Nat} {X : va_W} {u : Nat × Nat} (hC : cx_C p s m args meth c cX12_ahead "RhymedThenModel" (Cond.code yX12_ahead cX12_ahead 7 (some .int)) 7 (some .int)) {z : (Int32 × mm_M)} {x1 : Int32} {x2 : Int32} {x3 : Int32} {x5 : Int32} {t0 : Int32} {M : mm_M} {q43 : Int32 → Int32 → Int32 → Int32 → Int32 → mm_M → Option (Int32 × mm_M)} (hq43 : ∀ (x1 : Int32) (x2 : Int32) (x3 : Int32) (x4 : Int32) (x5 : Int32) (M : mm_M) (H : Heap) (locs : List Loc) (ls : Array Slot), q43 x1 x2 x3 x4 x5 M = some z → wd_in rf_T D cy z0 ad u M X s H locs → lv_has ls 7 [(0, .ref (ad 0)), (1, .int x1), (2, .int x2), (3, .int x3), (4, .int x4), (5, .int x5)] → W p l e { frames := 8, cells := 0, slots := 0, locals := 189 } s m args below meth c H locs 0 0 (MQ below (cq_i rf_T D cy z0 ad u X z.1 z.2) args s 0 0 (fun q => z0 ≤ q)) (F0 m 43 ls [])) (hf : f_X12_ahead_95 q43 x1 x2 x3 x5 t0 M = some z) {H : Heap} {locs : List Loc} (hw : wd_in rf_T D cy z0 ad u M X s H locs) {ls : Array Slot} (hl : lv_has ls 7 [(0, .ref (ad 0)), (1, .int x1), (2, .int x2), (3, .int x3), (5, .int x5)]) : W p l e { frames := 8, cells := 0, slots := 0, locals := 189 } s m args below meth c H locs 0 0 (MQ below (cq_i rf_T D cy z0 ad u X z.1 z.2) args s 0 0 (fun q => z0 ≤ q)) (F0 m 95 ls [.int t0]) := by
  have hx := hC.1
  have hb := hC.2.1
  unfold f_X12_ahead_95 at hf
  refine lv_istore (lv' := [(4, .int t0), (0, .ref (ad 0)), (1, .int x1), (2, .int x2), (3, .int x3), (5, .int x5)]) hx hb dX12_ahead_95 hl (by decide) rfl (fun ls hl => ?_)
  obtain ⟨y18, ey18, hf⟩ := sq_e hf
  refine lv_iinc (v := y18) (lv' := [(5, .int y18), (4, .int t0), (0, .ref (ad 0)), (1, .int x1), (2, .int x2), (3, .int x3)]) hx hb dX12_ahead_97 hl (k := 5) rfl (by rw [ey18]; rfl) (by decide) rfl (fun ls hl => ?_)
  refine lv_goto (tgt := 43) hx hb dX12_ahead_100 (by decide) ?_
  exact hq43 _ _ _ _ _ _ _ _ _ hf hw (lv_sub hl [2, 3, 4, 5, 1, 0] rfl)
set_option maxRecDepth 100000 in
set_option maxHeartbeats 4000000 in
theorem k_X12_ahead_93 {p : Program} {l : Launch} {e : Env} {s : State} {m : MethodId} {args : Array Value} {below : List Frame} {meth : Method} {c : Code} {D : va_G} {cy : Nat → ClassId} {z0 : Nat} {ad : Nat → Nat} {X : va_W} {u : Nat × Nat} (hC : cx_C p s m args meth c cX12_ahead "RhymedThenModel" (Cond.code yX12_ahead cX12_ahead 7 (some .int)) 7 (some .int)) {z : (Int32 × mm_M)} {x1 : Int32} {x2 : Int32} {x3 : Int32} {x4 : Int32} {x5 : Int32} {M : mm_M} {q43 : Int32 → Int32 → Int32 → Int32 → Int32 → mm_M → Option (Int32 × mm_M)} (hq43 : ∀ (x1 : Int32) (x2 : Int32) (x3 : Int32) (x4 : Int32) (x5 : Int32) (M : mm_M) (H : Heap) (locs : List Loc) (ls : Array Slot), q43 x1 x2 x3 x4 x5 M = some z → wd_in rf_T D cy z0 ad u M X s H locs → lv_has ls 7 [(0, .ref (ad 0)), (1, .int x1), (2, .int x2), (3, .int x3), (4, .int x4), (5, .int x5)] → W p l e { frames := 8, cells := 0, slots := 0, locals := 189 } s m args below meth c H locs 0 0 (MQ below (cq_i rf_T D cy z0 ad u X z.1 z.2) args s 0 0 (fun q => z0 ≤ q)) (F0 m 43 ls [])) (hf : f_X12_ahead_93 q43 x1 x2 x3 x4 x5 M = some z) {H : Heap} {locs : List Loc} (hw : wd_in rf_T D cy z0 ad u M X s H locs) {ls : Array Slot} (hl : lv_has ls 7 [(0, .ref (ad 0)), (1, .int x1), (2, .int x2), (3, .int x3), (4, .int x4), (5, .int x5)]) : W p l e { frames := 8, cells := 0, slots := 0, locals := 189 } s m args below meth c H locs 0 0 (MQ below (cq_i rf_T D cy z0 ad u X z.1 z.2) args s 0 0 (fun q => z0 ≤ q)) (F0 m 93 ls []) := by
  have hx := hC.1
  have hb := hC.2.1
  unfold f_X12_ahead_93 at hf
  refine lv_iload hx hb dX12_ahead_93 (lv_at hl 4 rfl) ?_
  exact k_X12_ahead_95 hC hq43 hf hw (lv_sub hl [0, 1, 2, 3, 5] rfl)
set_option maxRecDepth 100000 in
set_option maxHeartbeats 4000000 in
theorem k_X12_ahead_74 {p : Program} {l : Launch} {e : Env} {s : State} {m : MethodId} {args : Array Value} {below : List Frame} {meth : Method} {c : Code} {D : va_G} {cy : Nat → ClassId} {z0 : Nat} {ad : Nat → Nat} {X : va_W} {u : Nat × Nat} (hC : cx_C p s m args meth c cX12_ahead "RhymedThenModel" (Cond.code yX12_ahead cX12_ahead 7 (some .int)) 7 (some .int)) {z : (Int32 × mm_M)} {x1 : Int32} {x2 : Int32} {x3 : Int32} {x4 : Int32} {x5 : Int32} {t0 : Int32} {M : mm_M} {q43 : Int32 → Int32 → Int32 → Int32 → Int32 → mm_M → Option (Int32 × mm_M)} (hq43 : ∀ (x1 : Int32) (x2 : Int32) (x3 : Int32) (x4 : Int32) (x5 : Int32) (M : mm_M) (H : Heap) (locs : List Loc) (ls : Array Slot), q43 x1 x2 x3 x4 x5 M = some z → wd_in rf_T D cy z0 ad u M X s H locs → lv_has ls 7 [(0, .ref (ad 0)), (1, .int x1), (2, .int x2), (3, .int x3), (4, .int x4), (5, .int x5)] → W p l e { frames := 8, cells := 0, slots := 0, locals := 189 } s m args below meth c H locs 0 0 (MQ below (cq_i rf_T D cy z0 ad u X z.1 z.2) args s 0 0 (fun q => z0 ≤ q)) (F0 m 43 ls [])) (hf : f_X12_ahead_74 q43 x1 x2 x3 x4 x5 t0 M = some z) {H : Heap} {locs : List Loc} (hw : wd_in rf_T D cy z0 ad u M X s H locs) {ls : Array Slot} (hl : lv_has ls 7 [(0, .ref (ad 0)), (1, .int x1), (2, .int x2), (3, .int x3), (4, .int x4), (5, .int x5)]) : W p l e { frames := 8, cells := 0, slots := 0, locals := 189 } s m args below meth c H locs 0 0 (MQ below (cq_i rf_T D cy z0 ad u X z.1 z.2) args s 0 0 (fun q => z0 ≤ q)) (F0 m 74 ls [.int t0]) := by
  have hx := hC.1
  have hb := hC.2.1
  unfold f_X12_ahead_74 at hf
  refine lv_istore (lv' := [(6, .int t0), (0, .ref (ad 0)), (1, .int x1), (2, .int x2), (3, .int x3), (4, .int x4), (5, .int x5)]) hx hb dX12_ahead_74 hl (by decide) rfl (fun ls hl => ?_)
  refine lv_iload hx hb dX12_ahead_76 (lv_at hl 0 rfl) ?_
  refine lv_if_eq (tgt := 93) hx hb dX12_ahead_78 (by decide) (fun c15 => ?_) (fun c15 => ?_)
  · rw [if_pos c15] at hf
    exact k_X12_ahead_93 hC hq43 hf hw (lv_sub hl [1, 2, 3, 4, 5, 6] rfl)
  · rw [if_neg c15] at hf
    refine lv_aload_n hx hb dX12_ahead_81 rfl (lv_at hl 1 rfl) ?_
    obtain ⟨z16, ez16, hf⟩ := bd_e hf
    refine clc_Vi hC hw (c_X12_isAnyFit ez16) hd_X12_isAnyFit cw_X12_343 (Nat.le_of_ble_eq_true rfl) rfl rfl (rest := []) hl.1 rfl (Nat.le_of_ble_eq_true rfl) ⟨Nat.le_of_ble_eq_true rfl, Nat.le_of_ble_eq_true rfl⟩ ⟨Nat.zero_le _, Nat.zero_le _⟩ rfl dX12_ahead_82 (fun H locs hw => ?_)
    refine lv_if_eq (tgt := 93) hx hb dX12_ahead_85 (by decide) (fun c17 => ?_) (fun c17 => ?_)
    · rw [if_pos c17] at hf
      exact k_X12_ahead_93 hC hq43 hf hw (lv_sub hl [1, 2, 3, 4, 5, 6] rfl)
    · rw [if_neg c17] at hf
      refine lv_iload hx hb dX12_ahead_88 (lv_at hl 6 rfl) ?_
      refine lv_goto (tgt := 95) hx hb dX12_ahead_90 (by decide) ?_
      exact k_X12_ahead_95 hC hq43 hf hw (lv_sub hl [1, 2, 3, 4, 6] rfl)
set_option maxRecDepth 100000 in
set_option maxHeartbeats 4000000 in
theorem k_X12_ahead_69 {p : Program} {l : Launch} {e : Env} {s : State} {m : MethodId} {args : Array Value} {below : List Frame} {meth : Method} {c : Code} {D : va_G} {cy : Nat → ClassId} {z0 : Nat} {ad : Nat → Nat} {X : va_W} {u : Nat × Nat} (hC : cx_C p s m args meth c cX12_ahead "RhymedThenModel" (Cond.code yX12_ahead cX12_ahead 7 (some .int)) 7 (some .int)) {z : (Int32 × mm_M)} {x1 : Int32} {x2 : Int32} {x3 : Int32} {x4 : Int32} {x5 : Int32} {M : mm_M} {q43 : Int32 → Int32 → Int32 → Int32 → Int32 → mm_M → Option (Int32 × mm_M)} (hq43 : ∀ (x1 : Int32) (x2 : Int32) (x3 : Int32) (x4 : Int32) (x5 : Int32) (M : mm_M) (H : Heap) (locs : List Loc) (ls : Array Slot), q43 x1 x2 x3 x4 x5 M = some z → wd_in rf_T D cy z0 ad u M X s H locs → lv_has ls 7 [(0, .ref (ad 0)), (1, .int x1), (2, .int x2), (3, .int x3), (4, .int x4), (5, .int x5)] → W p l e { frames := 8, cells := 0, slots := 0, locals := 189 } s m args below meth c H locs 0 0 (MQ below (cq_i rf_T D cy z0 ad u X z.1 z.2) args s 0 0 (fun q => z0 ≤ q)) (F0 m 43 ls [])) (hf : f_X12_ahead_69 q43 x1 x2 x3 x4 x5 M = some z) {H : Heap} {locs : List Loc} (hw : wd_in rf_T D cy z0 ad u M X s H locs) {ls : Array Slot} (hl : lv_has ls 7 [(0, .ref (ad 0)), (1, .int x1), (2, .int x2), (3, .int x3), (4, .int x4), (5, .int x5)]) : W p l e { frames := 8, cells := 0, slots := 0, locals := 189 } s m args below meth c H locs 0 0 (MQ below (cq_i rf_T D cy z0 ad u X z.1 z.2) args s 0 0 (fun q => z0 ≤ q)) (F0 m 69 ls []) := by
  have hx := hC.1
  have hb := hC.2.1
  unfold f_X12_ahead_69 at hf
  refine lv_iconst (v := 1) hx hb dX12_ahead_69 (by decide) ?_
  refine lv_goto (tgt := 74) hx hb dX12_ahead_70 (by decide) ?_
  exact k_X12_ahead_74 hC hq43 hf hw (lv_sub hl [0, 1, 2, 3, 4, 5] rfl)
set_option maxRecDepth 100000 in
set_option maxHeartbeats 4000000 in
theorem k_X12_ahead_103 {p : Program} {l : Launch} {e : Env} {s : State} {m : MethodId} {args : Array Value} {below : List Frame} {meth : Method} {c : Code} {D : va_G} {cy : Nat → ClassId} {z0 : Nat} {ad : Nat → Nat} {X : va_W} {u : Nat × Nat} (hC : cx_C p s m args meth c cX12_ahead "RhymedThenModel" (Cond.code yX12_ahead cX12_ahead 7 (some .int)) 7 (some .int)) {z : (Int32 × mm_M)} {x1 : Int32} {x3 : Int32} {x4 : Int32} {M : mm_M} (hf : f_X12_ahead_103 x1 x3 x4 M = some z) {H : Heap} {locs : List Loc} (hw : wd_in rf_T D cy z0 ad u M X s H locs) {ls : Array Slot} (hl : lv_has ls 7 [(0, .ref (ad 0)), (1, .int x1), (3, .int x3), (4, .int x4)]) : W p l e { frames := 8, cells := 0, slots := 0, locals := 189 } s m args below meth c H locs 0 0 (MQ below (cq_i rf_T D cy z0 ad u X z.1 z.2) args s 0 0 (fun q => z0 ≤ q)) (F0 m 103 ls []) := by
  have hx := hC.1
  have hb := hC.2.1
  unfold f_X12_ahead_103 at hf
  refine lv_aload_n hx hb dX12_ahead_103 rfl (lv_at hl 0 rfl) ?_
  refine rg_p hC hw 0 (Nat.le_of_ble_eq_true rfl) rfl fd_X12_19 wf_X12_122 (q := 13) rfl dX12_ahead_104 ?_
  refine lv_iload_n hx hb dX12_ahead_107 rfl (lv_at hl 1 rfl) ?_
  refine lv_iload_n hx hb dX12_ahead_108 rfl (lv_at hl 2 rfl) ?_
  obtain ⟨h13, hf⟩ := ck_e hf
  obtain ⟨M14, eM14, hf⟩ := sq_e hf
  refine rs_i hC hw 13 (Nat.le_of_ble_eq_true rfl) rfl h13 dX12_ahead_109 eM14 (fun H locs hw => ?_)
  refine lv_iload hx hb dX12_ahead_110 (lv_at hl 3 rfl) ?_
  have hz := Option.some.inj hf
  subst hz
  exact rtc_i hC hw dX12_ahead_112
set_option maxRecDepth 100000 in
set_option maxHeartbeats 4000000 in
theorem k_X12_ahead_43 {p : Program} {l : Launch} {e : Env} {s : State} {m : MethodId} {args : Array Value} {below : List Frame} {meth : Method} {c : Code} {D : va_G} {cy : Nat → ClassId} {z0 : Nat} {ad : Nat → Nat} {X : va_W} {u : Nat × Nat} (hC : cx_C p s m args meth c cX12_ahead "RhymedThenModel" (Cond.code yX12_ahead cX12_ahead 7 (some .int)) 7 (some .int)) {z : (Int32 × mm_M)} {x1 : Int32} {x2 : Int32} {x3 : Int32} {x4 : Int32} {x5 : Int32} {M : mm_M} {q43 : Int32 → Int32 → Int32 → Int32 → Int32 → mm_M → Option (Int32 × mm_M)} (hq43 : ∀ (x1 : Int32) (x2 : Int32) (x3 : Int32) (x4 : Int32) (x5 : Int32) (M : mm_M) (H : Heap) (locs : List Loc) (ls : Array Slot), q43 x1 x2 x3 x4 x5 M = some z → wd_in rf_T D cy z0 ad u M X s H locs → lv_has ls 7 [(0, .ref (ad 0)), (1, .int x1), (2, .int x2), (3, .int x3), (4, .int x4), (5, .int x5)] → W p l e { frames := 8, cells := 0, slots := 0, locals := 189 } s m args below meth c H locs 0 0 (MQ below (cq_i rf_T D cy z0 ad u X z.1 z.2) args s 0 0 (fun q => z0 ≤ q)) (F0 m 43 ls [])) (hf : f_X12_ahead_43 q43 x1 x2 x3 x4 x5 M = some z) {H : Heap} {locs : List Loc} (hw : wd_in rf_T D cy z0 ad u M X s H locs) {ls : Array Slot} (hl : lv_has ls 7 [(0, .ref (ad 0)), (1, .int x1), (2, .int x2), (3, .int x3), (4, .int x4), (5, .int x5)]) : W p l e { frames := 8, cells := 0, slots := 0, locals := 189 } s m args below meth c H locs 0 0 (MQ below (cq_i rf_T D cy z0 ad u X z.1 z.2) args s 0 0 (fun q => z0 ≤ q)) (F0 m 43 ls []) := by
  have hx := hC.1
  have hb := hC.2.1
  unfold f_X12_ahead_43 at hf
  refine lv_iload hx hb dX12_ahead_43 (lv_at hl 5 rfl) ?_
  refine lv_sipush (v := 200) hx hb dX12_ahead_45 (by decide) ?_
  refine lv_icmp_gt (tgt := 103) hx hb dX12_ahead_48 (by decide) (fun c8 => ?_) (fun c8 => ?_)
  · rw [if_pos c8] at hf
    exact k_X12_ahead_103 hC hf hw (lv_sub hl [0, 1, 3, 4] rfl)
  · rw [if_neg c8] at hf
    refine lv_aload_n hx hb dX12_ahead_51 rfl (lv_at hl 0 rfl) ?_
    refine rg_p hC hw 0 (Nat.le_of_ble_eq_true rfl) rfl fd_X12_19 wf_X12_122 (q := 13) rfl dX12_ahead_52 ?_
    refine lv_iload_n hx hb dX12_ahead_55 rfl (lv_at hl 1 rfl) ?_
    refine lv_iload hx hb dX12_ahead_56 (lv_at hl 5 rfl) ?_
    obtain ⟨h9, hf⟩ := ck_e hf
    obtain ⟨M10, eM10, hf⟩ := sq_e hf
    refine rs_i hC hw 13 (Nat.le_of_ble_eq_true rfl) rfl h9 dX12_ahead_58 eM10 (fun H locs hw => ?_)
    refine lv_iload hx hb dX12_ahead_59 (lv_at hl 4 rfl) ?_
    refine lv_if_lt (tgt := 69) hx hb dX12_ahead_61 (by decide) (fun c11 => ?_) (fun c11 => ?_)
    · rw [if_pos c11] at hf
      exact k_X12_ahead_69 hC hq43 hf hw (lv_sub hl [0, 1, 2, 3, 4, 5] rfl)
    · rw [if_neg c11] at hf
      refine lv_iload_n hx hb dX12_ahead_64 rfl (lv_at hl 2 rfl) ?_
      refine lv_iconst (v := 1) hx hb dX12_ahead_65 (by decide) ?_
      refine lv_icmp_ne (tgt := 73) hx hb dX12_ahead_66 (by decide) (fun c12 => ?_) (fun c12 => ?_)
      · rw [if_neg c12] at hf
        refine lv_iconst (v := 0) hx hb dX12_ahead_73 (by decide) ?_
        exact k_X12_ahead_74 hC hq43 hf hw (lv_sub hl [0, 1, 2, 3, 4, 5] rfl)
      · rw [if_pos c12] at hf
        exact k_X12_ahead_69 hC hq43 hf hw (lv_sub hl [0, 1, 2, 3, 4, 5] rfl)
set_option maxRecDepth 100000 in
set_option maxHeartbeats 4000000 in
theorem k_X12_ahead_43l {p : Program} {l : Launch} {e : Env} {s : State} {m : MethodId} {args : Array Value} {below : List Frame} {meth : Method} {c : Code} {D : va_G} {cy : Nat → ClassId} {z0 : Nat} {ad : Nat → Nat} {X : va_W} {u : Nat × Nat} (hC : cx_C p s m args meth c cX12_ahead "RhymedThenModel" (Cond.code yX12_ahead cX12_ahead 7 (some .int)) 7 (some .int)) {z : (Int32 × mm_M)} : ∀ (n : Nat) (x1 : Int32) (x2 : Int32) (x3 : Int32) (x4 : Int32) (x5 : Int32) (M : mm_M) (H : Heap) (locs : List Loc) (ls : Array Slot), f_X12_ahead_43l n x1 x2 x3 x4 x5 M = some z → wd_in rf_T D cy z0 ad u M X s H locs → lv_has ls 7 [(0, .ref (ad 0)), (1, .int x1), (2, .int x2), (3, .int x3), (4, .int x4), (5, .int x5)] → W p l e { frames := 8, cells := 0, slots := 0, locals := 189 } s m args below meth c H locs 0 0 (MQ below (cq_i rf_T D cy z0 ad u X z.1 z.2) args s 0 0 (fun q => z0 ≤ q)) (F0 m 43 ls []) := by
  intro n
  induction n with
  | zero => intro x1 x2 x3 x4 x5 M H locs ls hf; exact absurd hf (by simp [f_X12_ahead_43l])
  | succ n ih => intro x1 x2 x3 x4 x5 M H locs ls hf hw hl; exact k_X12_ahead_43 hC ih hf hw hl
set_option maxRecDepth 100000 in
set_option maxHeartbeats 4000000 in
theorem k_X12_ahead {p : Program} {l : Launch} {e : Env} {s : State} {m : MethodId} {args : Array Value} {below : List Frame} {meth : Method} {c : Code} {D : va_G} {cy : Nat → ClassId} {z0 : Nat} {ad : Nat → Nat} {X : va_W} {u : Nat × Nat} (hC : cx_C p s m args meth c cX12_ahead "RhymedThenModel" (Cond.code yX12_ahead cX12_ahead 7 (some .int)) 7 (some .int)) {z : (Int32 × mm_M)} {x1 : Int32} {x2 : Int32} {M : mm_M} (hf : f_X12_ahead x1 x2 M = some z) {H : Heap} {locs : List Loc} (hw : wd_in rf_T D cy z0 ad u M X s H locs) {ls : Array Slot} (hl : lv_has ls 7 [(0, .ref (ad 0)), (1, .int x1), (2, .int x2)]) : W p l e { frames := 8, cells := 0, slots := 0, locals := 189 } s m args below meth c H locs 0 0 (MQ below (cq_i rf_T D cy z0 ad u X z.1 z.2) args s 0 0 (fun q => z0 ≤ q)) (F0 m 0 ls []) := by
  have hx := hC.1
  have hb := hC.2.1
  unfold f_X12_ahead at hf
  refine lv_aload_n hx hb dX12_ahead_0 rfl (lv_at hl 0 rfl) ?_
  refine lv_iconst (v := 0) hx hb dX12_ahead_1 (by decide) ?_
  obtain ⟨M1, eM1, hf⟩ := sq_e hf
  refine rp_i hC hw 0 (Nat.le_of_ble_eq_true rfl) rfl fd_X12_0 wf_X12_1 fp_X12_0 rfl rfl dX12_ahead_2 eM1 (fun H locs hw => ?_)
  refine lv_iload_n hx hb dX12_ahead_5 rfl (lv_at hl 1 rfl) ?_
  refine lv_i2l hx hb dX12_ahead_6 rfl ?_
  refine lv_lconst (v := 0) hx hb dX12_ahead_7 (by decide) ?_
  refine lv_ldc2 (v := 5) hx hb hC.2.2.2.1 (hC.t wk_X12_62) dX12_ahead_8 ?_
  obtain ⟨z2, ez2, hf⟩ := sq_e hf
  refine clc_Si hC hw (c_X12_in ez2.symm) hd_X12_in cw_X12_29 (rest := []) hl.1 rfl (Nat.le_of_ble_eq_true rfl) ⟨Nat.le_of_ble_eq_true rfl, Nat.le_of_ble_eq_true rfl⟩ ⟨Nat.zero_le _, Nat.zero_le _⟩ rfl dX12_ahead_11 (fun H locs hw => ?_)
  refine lv_if_eq (tgt := 27) hx hb dX12_ahead_14 (by decide) (fun c3 => ?_) (fun c3 => ?_)
  · rw [if_pos c3] at hf
    refine lv_iconst (v := (-1)) hx hb dX12_ahead_27 (by decide) ?_
    have hz := Option.some.inj hf
    subst hz
    exact rtc_i hC hw dX12_ahead_28
  · rw [if_neg c3] at hf
    refine lv_iload_n hx hb dX12_ahead_17 rfl (lv_at hl 2 rfl) ?_
    refine lv_i2l hx hb dX12_ahead_18 rfl ?_
    refine lv_lconst (v := 0) hx hb dX12_ahead_19 (by decide) ?_
    refine lv_lconst (v := 1) hx hb dX12_ahead_20 (by decide) ?_
    obtain ⟨z4, ez4, hf⟩ := sq_e hf
    refine clc_Si hC hw (c_X12_in ez4.symm) hd_X12_in cw_X12_29 (rest := []) hl.1 rfl (Nat.le_of_ble_eq_true rfl) ⟨Nat.le_of_ble_eq_true rfl, Nat.le_of_ble_eq_true rfl⟩ ⟨Nat.zero_le _, Nat.zero_le _⟩ rfl dX12_ahead_21 (fun H locs hw => ?_)
    refine lv_if_ne (tgt := 29) hx hb dX12_ahead_24 (by decide) (fun c5 => ?_) (fun c5 => ?_)
    · rw [if_neg c5] at hf
      refine lv_aload_n hx hb dX12_ahead_29 rfl (lv_at hl 0 rfl) ?_
      refine rg_p hC hw 0 (Nat.le_of_ble_eq_true rfl) rfl fd_X12_19 wf_X12_122 (q := 13) rfl dX12_ahead_30 ?_
      refine lv_iload_n hx hb dX12_ahead_33 rfl (lv_at hl 1 rfl) ?_
      obtain ⟨h6, hf⟩ := ck_e hf
      refine ra_i hC hw 13 (Nat.le_of_ble_eq_true rfl) rfl h6 dX12_ahead_34 ?_
      obtain ⟨y7, ey7, hf⟩ := sq_e hf
      refine lt_i ey7 ?_
      refine lv_istore_n (lv' := [(3, .int y7), (0, .ref (ad 0)), (1, .int x1), (2, .int x2)]) hx hb dX12_ahead_35 rfl hl (by decide) rfl (fun ls hl => ?_)
      refine lv_bipush (v := (-2)) hx hb dX12_ahead_36 (by decide) ?_
      refine lv_istore (lv' := [(4, .int (-2)), (3, .int y7), (0, .ref (ad 0)), (1, .int x1), (2, .int x2)]) hx hb dX12_ahead_38 hl (by decide) rfl (fun ls hl => ?_)
      refine lv_iconst (v := 0) hx hb dX12_ahead_40 (by decide) ?_
      refine lv_istore (lv' := [(5, .int 0), (4, .int (-2)), (3, .int y7), (0, .ref (ad 0)), (1, .int x1), (2, .int x2)]) hx hb dX12_ahead_41 hl (by decide) rfl (fun ls hl => ?_)
      exact k_X12_ahead_43l hC fu_ _ _ _ _ _ _ _ _ _ hf hw (lv_sub hl [3, 4, 5, 2, 1, 0] rfl)
    · rw [if_pos c5] at hf
      refine lv_iconst (v := (-1)) hx hb dX12_ahead_27 (by decide) ?_
      have hz := Option.some.inj hf
      subst hz
      exact rtc_i hC hw dX12_ahead_28
set_option maxRecDepth 100000 in
theorem c_X12_ahead {l : Launch} {D : va_G} {cy : Nat → ClassId} {z0 : Nat} {ad : Nat → Nat} {u : Nat × Nat} {X : va_W} {z : (Int32 × mm_M)} {x1 : Int32} {x2 : Int32} {M : mm_M} (hf : f_X12_ahead x1 x2 M = some z) : ct_i rf_T l yX12_ahead (Cond.code yX12_ahead cX12_ahead 7 (some .int)) 8 189 D cy z0 ad u M X [.ref (ad 0), .int x1, .int x2] z.1 z.2 := by
  refine bgc_i (by decide) (fun p e s m below meth c hC hw => ?_)
  refine en_t (Nat.le_of_ble_eq_true rfl) (fun ls hl => ?_)
  have hl : lv_has ls 7 [(0, .ref (ad 0)), (1, .int x1), (2, .int x2)] := hl
  exact k_X12_ahead hC hf hw hl
set_option maxRecDepth 100000 in
set_option maxHeartbeats 4000000 in
theorem k_X12_isOnStage {p : Program} {l : Launch} {e : Env} {s : State} {m : MethodId} {args : Array Value} {below : List Frame} {meth : Method} {c : Code} {D : va_G} {cy : Nat → ClassId} {z0 : Nat} {ad : Nat → Nat} {X : va_W} {u : Nat × Nat} (hC : cx_C p s m args meth c cX12_isOnStage "RhymedThenModel" (Cond.code yX12_isOnStage cX12_isOnStage 2 (some .boolean)) 2 (some .boolean)) {z : Int32} {x1 : Int32} {M : mm_M} (hf : f_X12_isOnStage x1 M = some z) {H : Heap} {locs : List Loc} (hw : wd_in rf_T D cy z0 ad u M X s H locs) {ls : Array Slot} (hl : lv_has ls 2 [(0, .ref (ad 0)), (1, .int x1)]) : W p l e { frames := 0, cells := 0, slots := 0, locals := 0 } s m args below meth c H locs 0 0 (MQ below (cq_i rf_T D cy z0 ad u X z M) args s 0 0 (fun q => z0 ≤ q)) (F0 m 0 ls []) := by
  have hx := hC.1
  have hb := hC.2.1
  unfold f_X12_isOnStage at hf
  refine lv_aload_n hx hb dX12_isOnStage_0 rfl (lv_at hl 0 rfl) ?_
  refine rg_p hC hw 0 (Nat.le_of_ble_eq_true rfl) rfl fd_X12_37 wf_X12_250 (q := 26) rfl dX12_isOnStage_1 ?_
  refine lv_iload_n hx hb dX12_isOnStage_4 rfl (lv_at hl 1 rfl) ?_
  obtain ⟨h1, hf⟩ := ck_e hf
  refine ra_z hC hw 26 (Nat.le_of_ble_eq_true rfl) rfl h1 dX12_isOnStage_5 ?_
  refine lv_if_eq (tgt := 23) hx hb dX12_isOnStage_6 (by decide) (fun c2 => ?_) (fun c2 => ?_)
  · rw [if_pos c2] at hf
    refine lv_iconst (v := 0) hx hb dX12_isOnStage_23 (by decide) ?_
    have hz := Option.some.inj hf
    subst hz
    exact rtc_z hC hw (Or.inl rfl) dX12_isOnStage_24
  · rw [if_neg c2] at hf
    refine lv_aload_n hx hb dX12_isOnStage_9 rfl (lv_at hl 0 rfl) ?_
    refine rg_p hC hw 0 (Nat.le_of_ble_eq_true rfl) rfl fd_X12_29 wf_X12_226 (q := 18) rfl dX12_isOnStage_10 ?_
    refine lv_iload_n hx hb dX12_isOnStage_13 rfl (lv_at hl 1 rfl) ?_
    obtain ⟨h3, hf⟩ := ck_e hf
    refine ra_i hC hw 18 (Nat.le_of_ble_eq_true rfl) rfl h3 dX12_isOnStage_14 ?_
    refine lv_iconst (v := 2) hx hb dX12_isOnStage_15 (by decide) ?_
    refine lv_icmp_ge (tgt := 23) hx hb dX12_isOnStage_16 (by decide) (fun c4 => ?_) (fun c4 => ?_)
    · rw [if_pos c4] at hf
      refine lv_iconst (v := 0) hx hb dX12_isOnStage_23 (by decide) ?_
      have hz := Option.some.inj hf
      subst hz
      exact rtc_z hC hw (Or.inl rfl) dX12_isOnStage_24
    · rw [if_neg c4] at hf
      refine lv_iconst (v := 1) hx hb dX12_isOnStage_19 (by decide) ?_
      refine lv_goto (tgt := 24) hx hb dX12_isOnStage_20 (by decide) ?_
      have hz := Option.some.inj hf
      subst hz
      exact rtc_z hC hw (Or.inr rfl) dX12_isOnStage_24
set_option maxRecDepth 100000 in
theorem c_X12_isOnStage {l : Launch} {D : va_G} {cy : Nat → ClassId} {z0 : Nat} {ad : Nat → Nat} {u : Nat × Nat} {X : va_W} {z : Int32} {x1 : Int32} {M : mm_M} (hf : f_X12_isOnStage x1 M = some z) : ct_i rf_T l yX12_isOnStage (Cond.code yX12_isOnStage cX12_isOnStage 2 (some .boolean)) 0 0 D cy z0 ad u M X [.ref (ad 0), .int x1] z M := by
  refine bgc_i (by decide) (fun p e s m below meth c hC hw => ?_)
  refine en_t (Nat.le_of_ble_eq_true rfl) (fun ls hl => ?_)
  have hl : lv_has ls 2 [(0, .ref (ad 0)), (1, .int x1)] := hl
  exact k_X12_isOnStage hC hf hw hl
set_option maxRecDepth 100000 in
set_option maxHeartbeats 4000000 in
theorem k_X12_stagedAt_27 {p : Program} {l : Launch} {e : Env} {s : State} {m : MethodId} {args : Array Value} {below : List Frame} {meth : Method} {c : Code} {D : va_G} {cy : Nat → ClassId} {z0 : Nat} {ad : Nat → Nat} {X : va_W} {u : Nat × Nat} (hC : cx_C p s m args meth c cX12_stagedAt "RhymedThenModel" (Cond.code yX12_stagedAt cX12_stagedAt 4 (some .int)) 4 (some .int)) {z : Int32} {x1 : Int32} {x3 : Int32} {t0 : Int32} {M : mm_M} {q4 : Int32 → Int32 → Int32 → Option Int32} (hq4 : ∀ (x1 : Int32) (x2 : Int32) (x3 : Int32) (H : Heap) (locs : List Loc) (ls : Array Slot), q4 x1 x2 x3 = some z → wd_in rf_T D cy z0 ad u M X s H locs → lv_has ls 4 [(0, .ref (ad 0)), (1, .int x1), (2, .int x2), (3, .int x3)] → W p l e { frames := 0, cells := 0, slots := 0, locals := 0 } s m args below meth c H locs 0 0 (MQ below (cq_i rf_T D cy z0 ad u X z M) args s 0 0 (fun q => z0 ≤ q)) (F0 m 4 ls [])) (hf : f_X12_stagedAt_27 q4 x1 x3 t0 M = some z) {H : Heap} {locs : List Loc} (hw : wd_in rf_T D cy z0 ad u M X s H locs) {ls : Array Slot} (hl : lv_has ls 4 [(0, .ref (ad 0)), (1, .int x1), (3, .int x3)]) : W p l e { frames := 0, cells := 0, slots := 0, locals := 0 } s m args below meth c H locs 0 0 (MQ below (cq_i rf_T D cy z0 ad u X z M) args s 0 0 (fun q => z0 ≤ q)) (F0 m 27 ls [.int t0]) := by
  have hx := hC.1
  have hb := hC.2.1
  unfold f_X12_stagedAt_27 at hf
  refine lv_istore_n (lv' := [(2, .int t0), (0, .ref (ad 0)), (1, .int x1), (3, .int x3)]) hx hb dX12_stagedAt_27 rfl hl (by decide) rfl (fun ls hl => ?_)
  obtain ⟨y4, ey4, hf⟩ := sq_e hf
  refine lv_iinc (v := y4) (lv' := [(3, .int y4), (2, .int t0), (0, .ref (ad 0)), (1, .int x1)]) hx hb dX12_stagedAt_28 hl (k := 3) rfl (by rw [ey4]; rfl) (by decide) rfl (fun ls hl => ?_)
  refine lv_goto (tgt := 4) hx hb dX12_stagedAt_31 (by decide) ?_
  exact hq4 _ _ _ _ _ _ hf hw (lv_sub hl [2, 3, 1, 0] rfl)
set_option maxRecDepth 100000 in
set_option maxHeartbeats 4000000 in
theorem k_X12_stagedAt_4 {p : Program} {l : Launch} {e : Env} {s : State} {m : MethodId} {args : Array Value} {below : List Frame} {meth : Method} {c : Code} {D : va_G} {cy : Nat → ClassId} {z0 : Nat} {ad : Nat → Nat} {X : va_W} {u : Nat × Nat} (hC : cx_C p s m args meth c cX12_stagedAt "RhymedThenModel" (Cond.code yX12_stagedAt cX12_stagedAt 4 (some .int)) 4 (some .int)) {z : Int32} {x1 : Int32} {x2 : Int32} {x3 : Int32} {M : mm_M} {q4 : Int32 → Int32 → Int32 → Option Int32} (hq4 : ∀ (x1 : Int32) (x2 : Int32) (x3 : Int32) (H : Heap) (locs : List Loc) (ls : Array Slot), q4 x1 x2 x3 = some z → wd_in rf_T D cy z0 ad u M X s H locs → lv_has ls 4 [(0, .ref (ad 0)), (1, .int x1), (2, .int x2), (3, .int x3)] → W p l e { frames := 0, cells := 0, slots := 0, locals := 0 } s m args below meth c H locs 0 0 (MQ below (cq_i rf_T D cy z0 ad u X z M) args s 0 0 (fun q => z0 ≤ q)) (F0 m 4 ls [])) (hf : f_X12_stagedAt_4 q4 x1 x2 x3 M = some z) {H : Heap} {locs : List Loc} (hw : wd_in rf_T D cy z0 ad u M X s H locs) {ls : Array Slot} (hl : lv_has ls 4 [(0, .ref (ad 0)), (1, .int x1), (2, .int x2), (3, .int x3)]) : W p l e { frames := 0, cells := 0, slots := 0, locals := 0 } s m args below meth c H locs 0 0 (MQ below (cq_i rf_T D cy z0 ad u X z M) args s 0 0 (fun q => z0 ≤ q)) (F0 m 4 ls []) := by
  have hx := hC.1
  have hb := hC.2.1
  unfold f_X12_stagedAt_4 at hf
  refine lv_iload_n hx hb dX12_stagedAt_4 rfl (lv_at hl 3 rfl) ?_
  refine lv_aload_n hx hb dX12_stagedAt_5 rfl (lv_at hl 0 rfl) ?_
  refine rg_i hC hw 0 (Nat.le_of_ble_eq_true rfl) rfl fd_X12_49 wf_X12_346 dX12_stagedAt_6 ?_
  refine lv_icmp_ge (tgt := 34) hx hb dX12_stagedAt_9 (by decide) (fun c1 => ?_) (fun c1 => ?_)
  · rw [if_pos c1] at hf
    refine lv_iload_n hx hb dX12_stagedAt_34 rfl (lv_at hl 2 rfl) ?_
    have hz := Option.some.inj hf
    subst hz
    exact rtc_i hC hw dX12_stagedAt_35
  · rw [if_neg c1] at hf
    refine lv_aload_n hx hb dX12_stagedAt_12 rfl (lv_at hl 0 rfl) ?_
    refine rg_p hC hw 0 (Nat.le_of_ble_eq_true rfl) rfl fd_X12_45 wf_X12_349 (q := 32) rfl dX12_stagedAt_13 ?_
    refine lv_iload_n hx hb dX12_stagedAt_16 rfl (lv_at hl 3 rfl) ?_
    obtain ⟨h2, hf⟩ := ck_e hf
    refine ra_i hC hw 32 (Nat.le_of_ble_eq_true rfl) rfl h2 dX12_stagedAt_17 ?_
    refine lv_iload_n hx hb dX12_stagedAt_18 rfl (lv_at hl 1 rfl) ?_
    refine lv_icmp_ne (tgt := 26) hx hb dX12_stagedAt_19 (by decide) (fun c3 => ?_) (fun c3 => ?_)
    · rw [if_neg c3] at hf
      refine lv_iload_n hx hb dX12_stagedAt_26 rfl (lv_at hl 2 rfl) ?_
      exact k_X12_stagedAt_27 hC hq4 hf hw (lv_sub hl [0, 1, 3] rfl)
    · rw [if_pos c3] at hf
      refine lv_iload_n hx hb dX12_stagedAt_22 rfl (lv_at hl 3 rfl) ?_
      refine lv_goto (tgt := 27) hx hb dX12_stagedAt_23 (by decide) ?_
      exact k_X12_stagedAt_27 hC hq4 hf hw (lv_sub hl [0, 1, 3] rfl)
set_option maxRecDepth 100000 in
set_option maxHeartbeats 4000000 in
theorem k_X12_stagedAt_4l {p : Program} {l : Launch} {e : Env} {s : State} {m : MethodId} {args : Array Value} {below : List Frame} {meth : Method} {c : Code} {D : va_G} {cy : Nat → ClassId} {z0 : Nat} {ad : Nat → Nat} {X : va_W} {u : Nat × Nat} (hC : cx_C p s m args meth c cX12_stagedAt "RhymedThenModel" (Cond.code yX12_stagedAt cX12_stagedAt 4 (some .int)) 4 (some .int)) {z : Int32} {M : mm_M} : ∀ (n : Nat) (x1 : Int32) (x2 : Int32) (x3 : Int32) (H : Heap) (locs : List Loc) (ls : Array Slot), f_X12_stagedAt_4l M n x1 x2 x3 = some z → wd_in rf_T D cy z0 ad u M X s H locs → lv_has ls 4 [(0, .ref (ad 0)), (1, .int x1), (2, .int x2), (3, .int x3)] → W p l e { frames := 0, cells := 0, slots := 0, locals := 0 } s m args below meth c H locs 0 0 (MQ below (cq_i rf_T D cy z0 ad u X z M) args s 0 0 (fun q => z0 ≤ q)) (F0 m 4 ls []) := by
  intro n
  induction n with
  | zero => intro x1 x2 x3 H locs ls hf; exact absurd hf (by simp [f_X12_stagedAt_4l])
  | succ n ih => intro x1 x2 x3 H locs ls hf hw hl; exact k_X12_stagedAt_4 hC ih hf hw hl
set_option maxRecDepth 100000 in
set_option maxHeartbeats 4000000 in
theorem k_X12_stagedAt {p : Program} {l : Launch} {e : Env} {s : State} {m : MethodId} {args : Array Value} {below : List Frame} {meth : Method} {c : Code} {D : va_G} {cy : Nat → ClassId} {z0 : Nat} {ad : Nat → Nat} {X : va_W} {u : Nat × Nat} (hC : cx_C p s m args meth c cX12_stagedAt "RhymedThenModel" (Cond.code yX12_stagedAt cX12_stagedAt 4 (some .int)) 4 (some .int)) {z : Int32} {x1 : Int32} {M : mm_M} (hf : f_X12_stagedAt x1 M = some z) {H : Heap} {locs : List Loc} (hw : wd_in rf_T D cy z0 ad u M X s H locs) {ls : Array Slot} (hl : lv_has ls 4 [(0, .ref (ad 0)), (1, .int x1)]) : W p l e { frames := 0, cells := 0, slots := 0, locals := 0 } s m args below meth c H locs 0 0 (MQ below (cq_i rf_T D cy z0 ad u X z M) args s 0 0 (fun q => z0 ≤ q)) (F0 m 0 ls []) := by
  have hx := hC.1
  have hb := hC.2.1
  unfold f_X12_stagedAt at hf
  refine lv_iconst (v := (-1)) hx hb dX12_stagedAt_0 (by decide) ?_
  refine lv_istore_n (lv' := [(2, .int (-1)), (0, .ref (ad 0)), (1, .int x1)]) hx hb dX12_stagedAt_1 rfl hl (by decide) rfl (fun ls hl => ?_)
  refine lv_iconst (v := 0) hx hb dX12_stagedAt_2 (by decide) ?_
  refine lv_istore_n (lv' := [(3, .int 0), (2, .int (-1)), (0, .ref (ad 0)), (1, .int x1)]) hx hb dX12_stagedAt_3 rfl hl (by decide) rfl (fun ls hl => ?_)
  exact k_X12_stagedAt_4l hC fu_ _ _ _ _ _ _ hf hw (lv_sub hl [2, 3, 1, 0] rfl)
set_option maxRecDepth 100000 in
theorem c_X12_stagedAt {l : Launch} {D : va_G} {cy : Nat → ClassId} {z0 : Nat} {ad : Nat → Nat} {u : Nat × Nat} {X : va_W} {z : Int32} {x1 : Int32} {M : mm_M} (hf : f_X12_stagedAt x1 M = some z) : ct_i rf_T l yX12_stagedAt (Cond.code yX12_stagedAt cX12_stagedAt 4 (some .int)) 0 0 D cy z0 ad u M X [.ref (ad 0), .int x1] z M := by
  refine bgc_i (by decide) (fun p e s m below meth c hC hw => ?_)
  refine en_t (Nat.le_of_ble_eq_true rfl) (fun ls hl => ?_)
  have hl : lv_has ls 4 [(0, .ref (ad 0)), (1, .int x1)] := hl
  exact k_X12_stagedAt hC hf hw hl
set_option maxRecDepth 100000 in
set_option maxHeartbeats 4000000 in
theorem k_X12_stages_11 {p : Program} {l : Launch} {e : Env} {s : State} {m : MethodId} {args : Array Value} {below : List Frame} {meth : Method} {c : Code} {D : va_G} {cy : Nat → ClassId} {z0 : Nat} {ad : Nat → Nat} {X : va_W} {u : Nat × Nat} (hC : cx_C p s m args meth c cX12_stages "RhymedThenModel" (Cond.code yX12_stages cX12_stages 8 none) 8 none) {z : mm_M} {d : Nat} {rc : Int32 → Int32 → Int32 → mm_M → Option mm_M} (hrc : ∀ (x1 x2 x3 : Int32) (M z : mm_M), rc x1 x2 x3 M = some z → ct_v rf_T l yX12_stages (Cond.code yX12_stages cX12_stages 8 none) (8 + d) (400 + 40 * d) D cy z0 ad u M X [.ref (ad 0), .int x1, .int x2, .int x3] z) {x1 : Int32} {x2 : Int32} {x3 : Int32} {x4 : Int32} {M : mm_M} {q11 : Int32 → Int32 → Int32 → Int32 → mm_M → Option mm_M} (hq11 : ∀ (x1 : Int32) (x2 : Int32) (x3 : Int32) (x4 : Int32) (M : mm_M) (H : Heap) (locs : List Loc) (ls : Array Slot), q11 x1 x2 x3 x4 M = some z → wd_in rf_T D cy z0 ad u M X s H locs → lv_has ls 8 [(0, .ref (ad 0)), (1, .int x1), (2, .int x2), (3, .int x3), (4, .int x4)] → W p l e { frames := 8 + (d + 1), cells := 0, slots := 0, locals := 400 + 40 * (d + 1) } s m args below meth c H locs 0 0 (MQ below (cq_v rf_T D cy z0 ad u X z) args s 0 0 (fun q => z0 ≤ q)) (F0 m 11 ls [])) (hf : f_X12_stages_11 rc q11 x1 x2 x3 x4 M = some z) {H : Heap} {locs : List Loc} (hw : wd_in rf_T D cy z0 ad u M X s H locs) {ls : Array Slot} (hl : lv_has ls 8 [(0, .ref (ad 0)), (1, .int x1), (2, .int x2), (3, .int x3), (4, .int x4)]) : W p l e { frames := 8 + (d + 1), cells := 0, slots := 0, locals := 400 + 40 * (d + 1) } s m args below meth c H locs 0 0 (MQ below (cq_v rf_T D cy z0 ad u X z) args s 0 0 (fun q => z0 ≤ q)) (F0 m 11 ls []) := by
  have hx := hC.1
  have hb := hC.2.1
  unfold f_X12_stages_11 at hf
  refine lv_iload hx hb dX12_stages_11 (lv_at hl 4 rfl) ?_
  refine lv_iconst (v := 3) hx hb dX12_stages_13 (by decide) ?_
  refine lv_icmp_ge (tgt := 40) hx hb dX12_stages_14 (by decide) (fun c9 => ?_) (fun c9 => ?_)
  · rw [if_pos c9] at hf
    have hz := Option.some.inj hf
    subst hz
    exact rtc_v hC hw dX12_stages_40
  · rw [if_neg c9] at hf
    refine lv_aload_n hx hb dX12_stages_17 rfl (lv_at hl 0 rfl) ?_
    refine rg_p hC hw 0 (Nat.le_of_ble_eq_true rfl) rfl fd_X12_46 wf_X12_352 (q := 33) rfl dX12_stages_18 ?_
    refine lv_iload_n hx hb dX12_stages_21 rfl (lv_at hl 1 rfl) ?_
    refine lv_iload hx hb dX12_stages_22 (lv_at hl 4 rfl) ?_
    obtain ⟨h10, hf⟩ := ck_e hf
    obtain ⟨M11, eM11, hf⟩ := sq_e hf
    refine rs_i hC hw 33 (Nat.le_of_ble_eq_true rfl) rfl h10 dX12_stages_24 eM11 (fun H locs hw => ?_)
    refine lv_aload_n hx hb dX12_stages_25 rfl (lv_at hl 0 rfl) ?_
    refine lv_iload_n hx hb dX12_stages_26 rfl (lv_at hl 1 rfl) ?_
    refine lv_iconst (v := 1) hx hb dX12_stages_27 (by decide) ?_
    refine lv_iadd hx hb dX12_stages_28 ?_
    refine lv_iload_n hx hb dX12_stages_29 rfl (lv_at hl 2 rfl) ?_
    refine lv_iload_n hx hb dX12_stages_30 rfl (lv_at hl 3 rfl) ?_
    obtain ⟨z12, ez12, hf⟩ := bd_e hf
    refine clc_Vv hC hw (hrc _ _ _ _ _ ez12) hd_X12_stages cw_X12_355 (Nat.le_of_ble_eq_true rfl) rfl rfl (rest := []) hl.1 rfl (Nat.le_of_ble_eq_true rfl) ⟨(show _ ≤ 8 + (d + 1) by omega), (show _ ≤ 400 + 40 * (d + 1) by omega)⟩ ⟨Nat.zero_le _, Nat.zero_le _⟩ rfl dX12_stages_31 (fun H locs hw => ?_)
    obtain ⟨y13, ey13, hf⟩ := sq_e hf
    refine lv_iinc (v := y13) (lv' := [(4, .int y13), (0, .ref (ad 0)), (1, .int x1), (2, .int x2), (3, .int x3)]) hx hb dX12_stages_34 hl (k := 4) rfl (by rw [ey13]; rfl) (by decide) rfl (fun ls hl => ?_)
    refine lv_goto (tgt := 11) hx hb dX12_stages_37 (by decide) ?_
    exact hq11 _ _ _ _ _ _ _ _ hf hw (lv_sub hl [1, 2, 3, 4, 0] rfl)
set_option maxRecDepth 100000 in
set_option maxHeartbeats 4000000 in
theorem k_X12_stages_11l {p : Program} {l : Launch} {e : Env} {s : State} {m : MethodId} {args : Array Value} {below : List Frame} {meth : Method} {c : Code} {D : va_G} {cy : Nat → ClassId} {z0 : Nat} {ad : Nat → Nat} {X : va_W} {u : Nat × Nat} (hC : cx_C p s m args meth c cX12_stages "RhymedThenModel" (Cond.code yX12_stages cX12_stages 8 none) 8 none) {z : mm_M} {d : Nat} {rc : Int32 → Int32 → Int32 → mm_M → Option mm_M} (hrc : ∀ (x1 x2 x3 : Int32) (M z : mm_M), rc x1 x2 x3 M = some z → ct_v rf_T l yX12_stages (Cond.code yX12_stages cX12_stages 8 none) (8 + d) (400 + 40 * d) D cy z0 ad u M X [.ref (ad 0), .int x1, .int x2, .int x3] z) : ∀ (n : Nat) (x1 : Int32) (x2 : Int32) (x3 : Int32) (x4 : Int32) (M : mm_M) (H : Heap) (locs : List Loc) (ls : Array Slot), f_X12_stages_11l rc n x1 x2 x3 x4 M = some z → wd_in rf_T D cy z0 ad u M X s H locs → lv_has ls 8 [(0, .ref (ad 0)), (1, .int x1), (2, .int x2), (3, .int x3), (4, .int x4)] → W p l e { frames := 8 + (d + 1), cells := 0, slots := 0, locals := 400 + 40 * (d + 1) } s m args below meth c H locs 0 0 (MQ below (cq_v rf_T D cy z0 ad u X z) args s 0 0 (fun q => z0 ≤ q)) (F0 m 11 ls []) := by
  intro n
  induction n with
  | zero => intro x1 x2 x3 x4 M H locs ls hf; exact absurd hf (by simp [f_X12_stages_11l])
  | succ n ih => intro x1 x2 x3 x4 M H locs ls hf hw hl; exact k_X12_stages_11 hC hrc ih hf hw hl
set_option maxRecDepth 100000 in
set_option maxHeartbeats 4000000 in
theorem k_X12_stages_186 {p : Program} {l : Launch} {e : Env} {s : State} {m : MethodId} {args : Array Value} {below : List Frame} {meth : Method} {c : Code} {D : va_G} {cy : Nat → ClassId} {z0 : Nat} {ad : Nat → Nat} {X : va_W} {u : Nat × Nat} (hC : cx_C p s m args meth c cX12_stages "RhymedThenModel" (Cond.code yX12_stages cX12_stages 8 none) 8 none) {z : mm_M} {d : Nat} {rc : Int32 → Int32 → Int32 → mm_M → Option mm_M} (hrc : ∀ (x1 x2 x3 : Int32) (M z : mm_M), rc x1 x2 x3 M = some z → ct_v rf_T l yX12_stages (Cond.code yX12_stages cX12_stages 8 none) (8 + d) (400 + 40 * d) D cy z0 ad u M X [.ref (ad 0), .int x1, .int x2, .int x3] z) {x2 : Int32} {x3 : Int32} {x4 : Int32} {x5 : Int32} {M : mm_M} {q47 : Int32 → Int32 → Int32 → Int32 → mm_M → Option mm_M} (hq47 : ∀ (x2 : Int32) (x3 : Int32) (x4 : Int32) (x5 : Int32) (M : mm_M) (H : Heap) (locs : List Loc) (ls : Array Slot), q47 x2 x3 x4 x5 M = some z → wd_in rf_T D cy z0 ad u M X s H locs → lv_has ls 8 [(0, .ref (ad 0)), (2, .int x2), (3, .int x3), (4, .int x4), (5, .int x5)] → W p l e { frames := 8 + (d + 1), cells := 0, slots := 0, locals := 400 + 40 * (d + 1) } s m args below meth c H locs 0 0 (MQ below (cq_v rf_T D cy z0 ad u X z) args s 0 0 (fun q => z0 ≤ q)) (F0 m 47 ls [])) (hf : f_X12_stages_186 rc q47 x2 x3 x4 x5 M = some z) {H : Heap} {locs : List Loc} (hw : wd_in rf_T D cy z0 ad u M X s H locs) {ls : Array Slot} (hl : lv_has ls 8 [(0, .ref (ad 0)), (2, .int x2), (3, .int x3), (4, .int x4), (5, .int x5)]) : W p l e { frames := 8 + (d + 1), cells := 0, slots := 0, locals := 400 + 40 * (d + 1) } s m args below meth c H locs 0 0 (MQ below (cq_v rf_T D cy z0 ad u X z) args s 0 0 (fun q => z0 ≤ q)) (F0 m 186 ls []) := by
  have hx := hC.1
  have hb := hC.2.1
  unfold f_X12_stages_186 at hf
  obtain ⟨y35, ey35, hf⟩ := sq_e hf
  refine lv_iinc (v := y35) (lv' := [(5, .int y35), (0, .ref (ad 0)), (2, .int x2), (3, .int x3), (4, .int x4)]) hx hb dX12_stages_186 hl (k := 4) rfl (by rw [ey35]; rfl) (by decide) rfl (fun ls hl => ?_)
  refine lv_goto (tgt := 47) hx hb dX12_stages_189 (by decide) ?_
  exact hq47 _ _ _ _ _ _ _ _ hf hw (lv_sub hl [1, 2, 3, 4, 0] rfl)
set_option maxRecDepth 100000 in
set_option maxHeartbeats 4000000 in
theorem k_X12_stages_180 {p : Program} {l : Launch} {e : Env} {s : State} {m : MethodId} {args : Array Value} {below : List Frame} {meth : Method} {c : Code} {D : va_G} {cy : Nat → ClassId} {z0 : Nat} {ad : Nat → Nat} {X : va_W} {u : Nat × Nat} (hC : cx_C p s m args meth c cX12_stages "RhymedThenModel" (Cond.code yX12_stages cX12_stages 8 none) 8 none) {z : mm_M} {d : Nat} {rc : Int32 → Int32 → Int32 → mm_M → Option mm_M} (hrc : ∀ (x1 x2 x3 : Int32) (M z : mm_M), rc x1 x2 x3 M = some z → ct_v rf_T l yX12_stages (Cond.code yX12_stages cX12_stages 8 none) (8 + d) (400 + 40 * d) D cy z0 ad u M X [.ref (ad 0), .int x1, .int x2, .int x3] z) {x2 : Int32} {x3 : Int32} {x5 : Int32} {t0 : Int32} {t1 : Int32} {M : mm_M} {q47 : Int32 → Int32 → Int32 → Int32 → mm_M → Option mm_M} (hq47 : ∀ (x2 : Int32) (x3 : Int32) (x4 : Int32) (x5 : Int32) (M : mm_M) (H : Heap) (locs : List Loc) (ls : Array Slot), q47 x2 x3 x4 x5 M = some z → wd_in rf_T D cy z0 ad u M X s H locs → lv_has ls 8 [(0, .ref (ad 0)), (2, .int x2), (3, .int x3), (4, .int x4), (5, .int x5)] → W p l e { frames := 8 + (d + 1), cells := 0, slots := 0, locals := 400 + 40 * (d + 1) } s m args below meth c H locs 0 0 (MQ below (cq_v rf_T D cy z0 ad u X z) args s 0 0 (fun q => z0 ≤ q)) (F0 m 47 ls [])) (hf : f_X12_stages_180 rc q47 x2 x3 x5 t0 t1 M = some z) {H : Heap} {locs : List Loc} (hw : wd_in rf_T D cy z0 ad u M X s H locs) {ls : Array Slot} (hl : lv_has ls 8 [(0, .ref (ad 0)), (2, .int x2), (3, .int x3), (5, .int x5)]) : W p l e { frames := 8 + (d + 1), cells := 0, slots := 0, locals := 400 + 40 * (d + 1) } s m args below meth c H locs 0 0 (MQ below (cq_v rf_T D cy z0 ad u X z) args s 0 0 (fun q => z0 ≤ q)) (F0 m 180 ls [.int t1, .int t0]) := by
  have hx := hC.1
  have hb := hC.2.1
  unfold f_X12_stages_180 at hf
  obtain ⟨z36, ez36, hf⟩ := sq_e hf
  refine clc_Si hC hw (c_X12_truth ez36.symm) hd_X12_truth cw_X12_39 (rest := [.int t0]) hl.1 rfl (Nat.le_of_ble_eq_true rfl) ⟨(show _ ≤ 8 + (d + 1) by omega), (show _ ≤ 400 + 40 * (d + 1) by omega)⟩ ⟨Nat.zero_le _, Nat.zero_le _⟩ rfl dX12_stages_180 (fun H locs hw => ?_)
  refine lv_iadd hx hb dX12_stages_183 ?_
  obtain ⟨y37, ey37, hf⟩ := sq_e hf
  refine lt_i ey37 ?_
  refine lv_istore (lv' := [(4, .int y37), (0, .ref (ad 0)), (2, .int x2), (3, .int x3), (5, .int x5)]) hx hb dX12_stages_184 hl (by decide) rfl (fun ls hl => ?_)
  exact k_X12_stages_186 hC hrc hq47 hf hw (lv_sub hl [1, 2, 3, 0, 4] rfl)
set_option maxRecDepth 100000 in
set_option maxHeartbeats 4000000 in
theorem k_X12_stages_93 {p : Program} {l : Launch} {e : Env} {s : State} {m : MethodId} {args : Array Value} {below : List Frame} {meth : Method} {c : Code} {D : va_G} {cy : Nat → ClassId} {z0 : Nat} {ad : Nat → Nat} {X : va_W} {u : Nat × Nat} (hC : cx_C p s m args meth c cX12_stages "RhymedThenModel" (Cond.code yX12_stages cX12_stages 8 none) 8 none) {z : mm_M} {d : Nat} {rc : Int32 → Int32 → Int32 → mm_M → Option mm_M} (hrc : ∀ (x1 x2 x3 : Int32) (M z : mm_M), rc x1 x2 x3 M = some z → ct_v rf_T l yX12_stages (Cond.code yX12_stages cX12_stages 8 none) (8 + d) (400 + 40 * d) D cy z0 ad u M X [.ref (ad 0), .int x1, .int x2, .int x3] z) {x2 : Int32} {x3 : Int32} {x4 : Int32} {x5 : Int32} {x6 : Int32} {t0 : Int32} {M : mm_M} {q47 : Int32 → Int32 → Int32 → Int32 → mm_M → Option mm_M} (hq47 : ∀ (x2 : Int32) (x3 : Int32) (x4 : Int32) (x5 : Int32) (M : mm_M) (H : Heap) (locs : List Loc) (ls : Array Slot), q47 x2 x3 x4 x5 M = some z → wd_in rf_T D cy z0 ad u M X s H locs → lv_has ls 8 [(0, .ref (ad 0)), (2, .int x2), (3, .int x3), (4, .int x4), (5, .int x5)] → W p l e { frames := 8 + (d + 1), cells := 0, slots := 0, locals := 400 + 40 * (d + 1) } s m args below meth c H locs 0 0 (MQ below (cq_v rf_T D cy z0 ad u X z) args s 0 0 (fun q => z0 ≤ q)) (F0 m 47 ls [])) (hf : f_X12_stages_93 rc q47 x2 x3 x4 x5 x6 t0 M = some z) {H : Heap} {locs : List Loc} (hw : wd_in rf_T D cy z0 ad u M X s H locs) {ls : Array Slot} (hl : lv_has ls 8 [(0, .ref (ad 0)), (2, .int x2), (3, .int x3), (4, .int x4), (5, .int x5), (6, .int x6)]) : W p l e { frames := 8 + (d + 1), cells := 0, slots := 0, locals := 400 + 40 * (d + 1) } s m args below meth c H locs 0 0 (MQ below (cq_v rf_T D cy z0 ad u X z) args s 0 0 (fun q => z0 ≤ q)) (F0 m 93 ls [.int t0]) := by
  have hx := hC.1
  have hb := hC.2.1
  unfold f_X12_stages_93 at hf
  refine lv_istore (lv' := [(7, .int t0), (0, .ref (ad 0)), (2, .int x2), (3, .int x3), (4, .int x4), (5, .int x5), (6, .int x6)]) hx hb dX12_stages_93 hl (by decide) rfl (fun ls hl => ?_)
  refine lv_iload hx hb dX12_stages_95 (lv_at hl 6 rfl) ?_
  refine lv_if_lt (tgt := 186) hx hb dX12_stages_97 (by decide) (fun c16 => ?_) (fun c16 => ?_)
  · rw [if_pos c16] at hf
    exact k_X12_stages_186 hC hrc hq47 hf hw (lv_sub hl [1, 2, 3, 4, 5] rfl)
  · rw [if_neg c16] at hf
    refine lv_iload hx hb dX12_stages_100 (lv_at hl 0 rfl) ?_
    refine lv_if_lt (tgt := 186) hx hb dX12_stages_102 (by decide) (fun c17 => ?_) (fun c17 => ?_)
    · rw [if_pos c17] at hf
      exact k_X12_stages_186 hC hrc hq47 hf hw (lv_sub hl [1, 2, 3, 4, 5] rfl)
    · rw [if_neg c17] at hf
      refine lv_aload_n hx hb dX12_stages_105 rfl (lv_at hl 1 rfl) ?_
      refine lv_iconst (v := 0) hx hb dX12_stages_106 (by decide) ?_
      refine lv_aload_n hx hb dX12_stages_107 rfl (lv_at hl 1 rfl) ?_
      refine rg_p hC hw 0 (Nat.le_of_ble_eq_true rfl) rfl fd_X12_30 wf_X12_229 (q := 19) rfl dX12_stages_108 ?_
      refine lv_iload hx hb dX12_stages_111 (lv_at hl 5 rfl) ?_
      obtain ⟨h18, hf⟩ := ck_e hf
      refine ra_i hC hw 19 (Nat.le_of_ble_eq_true rfl) rfl h18 dX12_stages_113 ?_
      refine lv_iload_n hx hb dX12_stages_114 rfl (lv_at hl 2 rfl) ?_
      refine lv_aload_n hx hb dX12_stages_115 rfl (lv_at hl 1 rfl) ?_
      refine rg_p hC hw 0 (Nat.le_of_ble_eq_true rfl) rfl fd_X12_48 wf_X12_364 (q := 35) rfl dX12_stages_116 ?_
      refine lv_aload_n hx hb dX12_stages_119 rfl (lv_at hl 1 rfl) ?_
      refine rg_p hC hw 0 (Nat.le_of_ble_eq_true rfl) rfl fd_X12_46 wf_X12_352 (q := 33) rfl dX12_stages_120 ?_
      refine lv_iload hx hb dX12_stages_123 (lv_at hl 6 rfl) ?_
      obtain ⟨h19, hf⟩ := ck_e hf
      refine ra_i hC hw 33 (Nat.le_of_ble_eq_true rfl) rfl h19 dX12_stages_125 ?_
      obtain ⟨h20, hf⟩ := ck_e hf
      refine ra_i hC hw 35 (Nat.le_of_ble_eq_true rfl) rfl h20 dX12_stages_126 ?_
      refine lv_iload_n hx hb dX12_stages_127 rfl (lv_at hl 3 rfl) ?_
      obtain ⟨z21, ez21, hf⟩ := bd_e hf
      refine clc_Vv hC hw (c_X12_says ez21) hd_X12_says cw_X12_200 (Nat.le_of_ble_eq_true rfl) rfl rfl (rest := []) hl.1 rfl (Nat.le_of_ble_eq_true rfl) ⟨(show _ ≤ 8 + (d + 1) by omega), (show _ ≤ 400 + 40 * (d + 1) by omega)⟩ ⟨Nat.zero_le _, Nat.zero_le _⟩ rfl dX12_stages_128 (fun H locs hw => ?_)
      refine lv_aload_n hx hb dX12_stages_131 rfl (lv_at hl 1 rfl) ?_
      refine lv_iconst (v := 1) hx hb dX12_stages_132 (by decide) ?_
      refine lv_aload_n hx hb dX12_stages_133 rfl (lv_at hl 1 rfl) ?_
      refine rg_p hC hw 0 (Nat.le_of_ble_eq_true rfl) rfl fd_X12_31 wf_X12_232 (q := 20) rfl dX12_stages_134 ?_
      refine lv_iload hx hb dX12_stages_137 (lv_at hl 5 rfl) ?_
      obtain ⟨h22, hf⟩ := ck_e hf
      refine ra_i hC hw 20 (Nat.le_of_ble_eq_true rfl) rfl h22 dX12_stages_139 ?_
      refine lv_iload_n hx hb dX12_stages_140 rfl (lv_at hl 2 rfl) ?_
      refine lv_aload_n hx hb dX12_stages_141 rfl (lv_at hl 1 rfl) ?_
      refine rg_p hC hw 0 (Nat.le_of_ble_eq_true rfl) rfl fd_X12_48 wf_X12_364 (q := 35) rfl dX12_stages_142 ?_
      refine lv_aload_n hx hb dX12_stages_145 rfl (lv_at hl 1 rfl) ?_
      refine rg_p hC hw 0 (Nat.le_of_ble_eq_true rfl) rfl fd_X12_46 wf_X12_352 (q := 33) rfl dX12_stages_146 ?_
      refine lv_iload hx hb dX12_stages_149 (lv_at hl 0 rfl) ?_
      obtain ⟨h23, hf⟩ := ck_e hf
      refine ra_i hC hw 33 (Nat.le_of_ble_eq_true rfl) rfl h23 dX12_stages_151 ?_
      obtain ⟨h24, hf⟩ := ck_e hf
      refine ra_i hC hw 35 (Nat.le_of_ble_eq_true rfl) rfl h24 dX12_stages_152 ?_
      refine lv_iload_n hx hb dX12_stages_153 rfl (lv_at hl 3 rfl) ?_
      obtain ⟨z25, ez25, hf⟩ := bd_e hf
      refine clc_Vv hC hw (c_X12_says ez25) hd_X12_says cw_X12_200 (Nat.le_of_ble_eq_true rfl) rfl rfl (rest := []) hl.1 rfl (Nat.le_of_ble_eq_true rfl) ⟨(show _ ≤ 8 + (d + 1) by omega), (show _ ≤ 400 + 40 * (d + 1) by omega)⟩ ⟨Nat.zero_le _, Nat.zero_le _⟩ rfl dX12_stages_154 (fun H locs hw => ?_)
      refine lv_iload hx hb dX12_stages_157 (lv_at hl 4 rfl) ?_
      refine lv_aload_n hx hb dX12_stages_159 rfl (lv_at hl 1 rfl) ?_
      refine rg_p hC hw 0 (Nat.le_of_ble_eq_true rfl) rfl fd_X12_29 wf_X12_226 (q := 18) rfl dX12_stages_160 ?_
      refine lv_iload hx hb dX12_stages_163 (lv_at hl 5 rfl) ?_
      obtain ⟨h26, hf⟩ := ck_e hf
      refine ra_i hC hw 18 (Nat.le_of_ble_eq_true rfl) rfl h26 dX12_stages_165 ?_
      refine lv_if_ne (tgt := 176) hx hb dX12_stages_166 (by decide) (fun c27 => ?_) (fun c27 => ?_)
      · rw [if_neg c27] at hf
        refine lv_aload_n hx hb dX12_stages_176 rfl (lv_at hl 1 rfl) ?_
        obtain ⟨z28, ez28, hf⟩ := bd_e hf
        refine clc_Vi hC hw (c_X12_areAlike ez28) hd_X12_areAlike cw_X12_204 (Nat.le_of_ble_eq_true rfl) rfl rfl (rest := [.int x4]) hl.1 rfl (Nat.le_of_ble_eq_true rfl) ⟨(show _ ≤ 8 + (d + 1) by omega), (show _ ≤ 400 + 40 * (d + 1) by omega)⟩ ⟨Nat.zero_le _, Nat.zero_le _⟩ rfl dX12_stages_177 (fun H locs hw => ?_)
        exact k_X12_stages_180 hC hrc hq47 hf hw (lv_sub hl [1, 2, 3, 5] rfl)
      · rw [if_pos c27] at hf
        refine lv_aload_n hx hb dX12_stages_169 rfl (lv_at hl 1 rfl) ?_
        obtain ⟨z29, ez29, hf⟩ := bd_e hf
        refine clc_Vi hC hw (c_X12_areRhymes ez29) hd_X12_areRhymes cw_X12_210 (Nat.le_of_ble_eq_true rfl) rfl rfl (rest := [.int x4]) hl.1 rfl (Nat.le_of_ble_eq_true rfl) ⟨(show _ ≤ 8 + (d + 1) by omega), (show _ ≤ 400 + 40 * (d + 1) by omega)⟩ ⟨Nat.zero_le _, Nat.zero_le _⟩ rfl dX12_stages_170 (fun H locs hw => ?_)
        refine lv_goto (tgt := 180) hx hb dX12_stages_173 (by decide) ?_
        exact k_X12_stages_180 hC hrc hq47 hf hw (lv_sub hl [1, 2, 3, 5] rfl)
set_option maxRecDepth 100000 in
set_option maxHeartbeats 4000000 in
theorem k_X12_stages_210 {p : Program} {l : Launch} {e : Env} {s : State} {m : MethodId} {args : Array Value} {below : List Frame} {meth : Method} {c : Code} {D : va_G} {cy : Nat → ClassId} {z0 : Nat} {ad : Nat → Nat} {X : va_W} {u : Nat × Nat} (hC : cx_C p s m args meth c cX12_stages "RhymedThenModel" (Cond.code yX12_stages cX12_stages 8 none) 8 none) {z : mm_M} {d : Nat} {rc : Int32 → Int32 → Int32 → mm_M → Option mm_M} (hrc : ∀ (x1 x2 x3 : Int32) (M z : mm_M), rc x1 x2 x3 M = some z → ct_v rf_T l yX12_stages (Cond.code yX12_stages cX12_stages 8 none) (8 + d) (400 + 40 * d) D cy z0 ad u M X [.ref (ad 0), .int x1, .int x2, .int x3] z) {x5 : Int32} {M : mm_M} {q210 : Int32 → mm_M → Option mm_M} (hq210 : ∀ (x5 : Int32) (M : mm_M) (H : Heap) (locs : List Loc) (ls : Array Slot), q210 x5 M = some z → wd_in rf_T D cy z0 ad u M X s H locs → lv_has ls 8 [(0, .ref (ad 0)), (5, .int x5)] → W p l e { frames := 8 + (d + 1), cells := 0, slots := 0, locals := 400 + 40 * (d + 1) } s m args below meth c H locs 0 0 (MQ below (cq_v rf_T D cy z0 ad u X z) args s 0 0 (fun q => z0 ≤ q)) (F0 m 210 ls [])) (hf : f_X12_stages_210 rc q210 x5 M = some z) {H : Heap} {locs : List Loc} (hw : wd_in rf_T D cy z0 ad u M X s H locs) {ls : Array Slot} (hl : lv_has ls 8 [(0, .ref (ad 0)), (5, .int x5)]) : W p l e { frames := 8 + (d + 1), cells := 0, slots := 0, locals := 400 + 40 * (d + 1) } s m args below meth c H locs 0 0 (MQ below (cq_v rf_T D cy z0 ad u X z) args s 0 0 (fun q => z0 ≤ q)) (F0 m 210 ls []) := by
  have hx := hC.1
  have hb := hC.2.1
  unfold f_X12_stages_210 at hf
  refine lv_iload hx hb dX12_stages_210 (lv_at hl 1 rfl) ?_
  refine lv_aload_n hx hb dX12_stages_212 rfl (lv_at hl 0 rfl) ?_
  refine rg_i hC hw 0 (Nat.le_of_ble_eq_true rfl) rfl fd_X12_49 wf_X12_346 dX12_stages_213 ?_
  refine lv_icmp_ge (tgt := 239) hx hb dX12_stages_216 (by decide) (fun c30 => ?_) (fun c30 => ?_)
  · rw [if_pos c30] at hf
    have hz := Option.some.inj hf
    subst hz
    exact rtc_v hC hw dX12_stages_239
  · rw [if_neg c30] at hf
    refine lv_aload_n hx hb dX12_stages_219 rfl (lv_at hl 0 rfl) ?_
    refine rg_p hC hw 0 (Nat.le_of_ble_eq_true rfl) rfl fd_X12_47 wf_X12_370 (q := 34) rfl dX12_stages_220 ?_
    refine lv_iload hx hb dX12_stages_223 (lv_at hl 1 rfl) ?_
    refine lv_aload_n hx hb dX12_stages_225 rfl (lv_at hl 0 rfl) ?_
    refine rg_p hC hw 0 (Nat.le_of_ble_eq_true rfl) rfl fd_X12_46 wf_X12_352 (q := 33) rfl dX12_stages_226 ?_
    refine lv_iload hx hb dX12_stages_229 (lv_at hl 1 rfl) ?_
    obtain ⟨h31, hf⟩ := ck_e hf
    refine ra_i hC hw 33 (Nat.le_of_ble_eq_true rfl) rfl h31 dX12_stages_231 ?_
    obtain ⟨h32, hf⟩ := ck_e hf
    obtain ⟨M33, eM33, hf⟩ := sq_e hf
    refine rs_i hC hw 34 (Nat.le_of_ble_eq_true rfl) rfl h32 dX12_stages_232 eM33 (fun H locs hw => ?_)
    obtain ⟨y34, ey34, hf⟩ := sq_e hf
    refine lv_iinc (v := y34) (lv' := [(5, .int y34), (0, .ref (ad 0))]) hx hb dX12_stages_233 hl (k := 1) rfl (by rw [ey34]; rfl) (by decide) rfl (fun ls hl => ?_)
    refine lv_goto (tgt := 210) hx hb dX12_stages_236 (by decide) ?_
    exact hq210 _ _ _ _ _ hf hw (lv_sub hl [1, 0] rfl)
set_option maxRecDepth 100000 in
set_option maxHeartbeats 4000000 in
theorem k_X12_stages_210l {p : Program} {l : Launch} {e : Env} {s : State} {m : MethodId} {args : Array Value} {below : List Frame} {meth : Method} {c : Code} {D : va_G} {cy : Nat → ClassId} {z0 : Nat} {ad : Nat → Nat} {X : va_W} {u : Nat × Nat} (hC : cx_C p s m args meth c cX12_stages "RhymedThenModel" (Cond.code yX12_stages cX12_stages 8 none) 8 none) {z : mm_M} {d : Nat} {rc : Int32 → Int32 → Int32 → mm_M → Option mm_M} (hrc : ∀ (x1 x2 x3 : Int32) (M z : mm_M), rc x1 x2 x3 M = some z → ct_v rf_T l yX12_stages (Cond.code yX12_stages cX12_stages 8 none) (8 + d) (400 + 40 * d) D cy z0 ad u M X [.ref (ad 0), .int x1, .int x2, .int x3] z) : ∀ (n : Nat) (x5 : Int32) (M : mm_M) (H : Heap) (locs : List Loc) (ls : Array Slot), f_X12_stages_210l rc n x5 M = some z → wd_in rf_T D cy z0 ad u M X s H locs → lv_has ls 8 [(0, .ref (ad 0)), (5, .int x5)] → W p l e { frames := 8 + (d + 1), cells := 0, slots := 0, locals := 400 + 40 * (d + 1) } s m args below meth c H locs 0 0 (MQ below (cq_v rf_T D cy z0 ad u X z) args s 0 0 (fun q => z0 ≤ q)) (F0 m 210 ls []) := by
  intro n
  induction n with
  | zero => intro x5 M H locs ls hf; exact absurd hf (by simp [f_X12_stages_210l])
  | succ n ih => intro x5 M H locs ls hf hw hl; exact k_X12_stages_210 hC hrc ih hf hw hl
set_option maxRecDepth 100000 in
set_option maxHeartbeats 4000000 in
theorem k_X12_stages_192 {p : Program} {l : Launch} {e : Env} {s : State} {m : MethodId} {args : Array Value} {below : List Frame} {meth : Method} {c : Code} {D : va_G} {cy : Nat → ClassId} {z0 : Nat} {ad : Nat → Nat} {X : va_W} {u : Nat × Nat} (hC : cx_C p s m args meth c cX12_stages "RhymedThenModel" (Cond.code yX12_stages cX12_stages 8 none) 8 none) {z : mm_M} {d : Nat} {rc : Int32 → Int32 → Int32 → mm_M → Option mm_M} (hrc : ∀ (x1 x2 x3 : Int32) (M z : mm_M), rc x1 x2 x3 M = some z → ct_v rf_T l yX12_stages (Cond.code yX12_stages cX12_stages 8 none) (8 + d) (400 + 40 * d) D cy z0 ad u M X [.ref (ad 0), .int x1, .int x2, .int x3] z) {x4 : Int32} {M : mm_M} (hf : f_X12_stages_192 rc x4 M = some z) {H : Heap} {locs : List Loc} (hw : wd_in rf_T D cy z0 ad u M X s H locs) {ls : Array Slot} (hl : lv_has ls 8 [(0, .ref (ad 0)), (4, .int x4)]) : W p l e { frames := 8 + (d + 1), cells := 0, slots := 0, locals := 400 + 40 * (d + 1) } s m args below meth c H locs 0 0 (MQ below (cq_v rf_T D cy z0 ad u X z) args s 0 0 (fun q => z0 ≤ q)) (F0 m 192 ls []) := by
  have hx := hC.1
  have hb := hC.2.1
  unfold f_X12_stages_192 at hf
  refine lv_iload hx hb dX12_stages_192 (lv_at hl 1 rfl) ?_
  refine lv_aload_n hx hb dX12_stages_194 rfl (lv_at hl 0 rfl) ?_
  refine rg_i hC hw 0 (Nat.le_of_ble_eq_true rfl) rfl fd_X12_50 wf_X12_367 dX12_stages_195 ?_
  refine lv_icmp_le (tgt := 239) hx hb dX12_stages_198 (by decide) (fun c14 => ?_) (fun c14 => ?_)
  · rw [if_pos c14] at hf
    have hz := Option.some.inj hf
    subst hz
    exact rtc_v hC hw dX12_stages_239
  · rw [if_neg c14] at hf
    refine lv_aload_n hx hb dX12_stages_201 rfl (lv_at hl 0 rfl) ?_
    refine lv_iload hx hb dX12_stages_202 (lv_at hl 1 rfl) ?_
    obtain ⟨M15, eM15, hf⟩ := sq_e hf
    refine rp_i hC hw 0 (Nat.le_of_ble_eq_true rfl) rfl fd_X12_50 wf_X12_367 fp_X12_50 rfl rfl dX12_stages_204 eM15 (fun H locs hw => ?_)
    refine lv_iconst (v := 0) hx hb dX12_stages_207 (by decide) ?_
    refine lv_istore (lv' := [(5, .int 0), (0, .ref (ad 0)), (4, .int x4)]) hx hb dX12_stages_208 hl (by decide) rfl (fun ls hl => ?_)
    exact k_X12_stages_210l hC hrc fu_ _ _ _ _ _ hf hw (lv_sub hl [1, 0] rfl)
set_option maxRecDepth 100000 in
set_option maxHeartbeats 4000000 in
theorem k_X12_stages_47 {p : Program} {l : Launch} {e : Env} {s : State} {m : MethodId} {args : Array Value} {below : List Frame} {meth : Method} {c : Code} {D : va_G} {cy : Nat → ClassId} {z0 : Nat} {ad : Nat → Nat} {X : va_W} {u : Nat × Nat} (hC : cx_C p s m args meth c cX12_stages "RhymedThenModel" (Cond.code yX12_stages cX12_stages 8 none) 8 none) {z : mm_M} {d : Nat} {rc : Int32 → Int32 → Int32 → mm_M → Option mm_M} (hrc : ∀ (x1 x2 x3 : Int32) (M z : mm_M), rc x1 x2 x3 M = some z → ct_v rf_T l yX12_stages (Cond.code yX12_stages cX12_stages 8 none) (8 + d) (400 + 40 * d) D cy z0 ad u M X [.ref (ad 0), .int x1, .int x2, .int x3] z) {x2 : Int32} {x3 : Int32} {x4 : Int32} {x5 : Int32} {M : mm_M} {q47 : Int32 → Int32 → Int32 → Int32 → mm_M → Option mm_M} (hq47 : ∀ (x2 : Int32) (x3 : Int32) (x4 : Int32) (x5 : Int32) (M : mm_M) (H : Heap) (locs : List Loc) (ls : Array Slot), q47 x2 x3 x4 x5 M = some z → wd_in rf_T D cy z0 ad u M X s H locs → lv_has ls 8 [(0, .ref (ad 0)), (2, .int x2), (3, .int x3), (4, .int x4), (5, .int x5)] → W p l e { frames := 8 + (d + 1), cells := 0, slots := 0, locals := 400 + 40 * (d + 1) } s m args below meth c H locs 0 0 (MQ below (cq_v rf_T D cy z0 ad u X z) args s 0 0 (fun q => z0 ≤ q)) (F0 m 47 ls [])) (hf : f_X12_stages_47 rc q47 x2 x3 x4 x5 M = some z) {H : Heap} {locs : List Loc} (hw : wd_in rf_T D cy z0 ad u M X s H locs) {ls : Array Slot} (hl : lv_has ls 8 [(0, .ref (ad 0)), (2, .int x2), (3, .int x3), (4, .int x4), (5, .int x5)]) : W p l e { frames := 8 + (d + 1), cells := 0, slots := 0, locals := 400 + 40 * (d + 1) } s m args below meth c H locs 0 0 (MQ below (cq_v rf_T D cy z0 ad u X z) args s 0 0 (fun q => z0 ≤ q)) (F0 m 47 ls []) := by
  have hx := hC.1
  have hb := hC.2.1
  unfold f_X12_stages_47 at hf
  refine lv_iload hx hb dX12_stages_47 (lv_at hl 4 rfl) ?_
  refine lv_aload_n hx hb dX12_stages_49 rfl (lv_at hl 0 rfl) ?_
  refine rg_i hC hw 0 (Nat.le_of_ble_eq_true rfl) rfl fd_X12_28 wf_X12_258 dX12_stages_50 ?_
  refine lv_icmp_ge (tgt := 192) hx hb dX12_stages_53 (by decide) (fun c2 => ?_) (fun c2 => ?_)
  · rw [if_pos c2] at hf
    exact k_X12_stages_192 hC hrc hf hw (lv_sub hl [0, 3] rfl)
  · rw [if_neg c2] at hf
    refine lv_aload_n hx hb dX12_stages_56 rfl (lv_at hl 0 rfl) ?_
    refine lv_aload_n hx hb dX12_stages_57 rfl (lv_at hl 0 rfl) ?_
    refine rg_p hC hw 0 (Nat.le_of_ble_eq_true rfl) rfl fd_X12_30 wf_X12_229 (q := 19) rfl dX12_stages_58 ?_
    refine lv_iload hx hb dX12_stages_61 (lv_at hl 4 rfl) ?_
    obtain ⟨h3, hf⟩ := ck_e hf
    refine ra_i hC hw 19 (Nat.le_of_ble_eq_true rfl) rfl h3 dX12_stages_63 ?_
    obtain ⟨z4, ez4, hf⟩ := bd_e hf
    refine clc_Vi hC hw (c_X12_stagedAt ez4) hd_X12_stagedAt cw_X12_358 (Nat.le_of_ble_eq_true rfl) rfl rfl (rest := []) hl.1 rfl (Nat.le_of_ble_eq_true rfl) ⟨(show _ ≤ 8 + (d + 1) by omega), (show _ ≤ 400 + 40 * (d + 1) by omega)⟩ ⟨Nat.zero_le _, Nat.zero_le _⟩ rfl dX12_stages_64 (fun H locs hw => ?_)
    refine lv_istore (lv' := [(6, .int z4), (0, .ref (ad 0)), (2, .int x2), (3, .int x3), (4, .int x4), (5, .int x5)]) hx hb dX12_stages_67 hl (by decide) rfl (fun ls hl => ?_)
    refine lv_aload_n hx hb dX12_stages_69 rfl (lv_at hl 1 rfl) ?_
    refine lv_iload hx hb dX12_stages_70 (lv_at hl 5 rfl) ?_
    obtain ⟨z5, ez5, hf⟩ := bd_e hf
    refine clc_Vi hC hw (c_X12_isOnStage ez5) hd_X12_isOnStage cw_X12_361 (Nat.le_of_ble_eq_true rfl) rfl rfl (rest := []) hl.1 rfl (Nat.le_of_ble_eq_true rfl) ⟨(show _ ≤ 8 + (d + 1) by omega), (show _ ≤ 400 + 40 * (d + 1) by omega)⟩ ⟨Nat.zero_le _, Nat.zero_le _⟩ rfl dX12_stages_72 (fun H locs hw => ?_)
    refine lv_if_eq (tgt := 92) hx hb dX12_stages_75 (by decide) (fun c6 => ?_) (fun c6 => ?_)
    · rw [if_pos c6] at hf
      refine lv_iconst (v := (-1)) hx hb dX12_stages_92 (by decide) ?_
      exact k_X12_stages_93 hC hrc hq47 hf hw (lv_sub hl [1, 2, 3, 4, 5, 0] rfl)
    · rw [if_neg c6] at hf
      refine lv_aload_n hx hb dX12_stages_78 rfl (lv_at hl 1 rfl) ?_
      refine lv_aload_n hx hb dX12_stages_79 rfl (lv_at hl 1 rfl) ?_
      refine rg_p hC hw 0 (Nat.le_of_ble_eq_true rfl) rfl fd_X12_31 wf_X12_232 (q := 20) rfl dX12_stages_80 ?_
      refine lv_iload hx hb dX12_stages_83 (lv_at hl 5 rfl) ?_
      obtain ⟨h7, hf⟩ := ck_e hf
      refine ra_i hC hw 20 (Nat.le_of_ble_eq_true rfl) rfl h7 dX12_stages_85 ?_
      obtain ⟨z8, ez8, hf⟩ := bd_e hf
      refine clc_Vi hC hw (c_X12_stagedAt ez8) hd_X12_stagedAt cw_X12_358 (Nat.le_of_ble_eq_true rfl) rfl rfl (rest := []) hl.1 rfl (Nat.le_of_ble_eq_true rfl) ⟨(show _ ≤ 8 + (d + 1) by omega), (show _ ≤ 400 + 40 * (d + 1) by omega)⟩ ⟨Nat.zero_le _, Nat.zero_le _⟩ rfl dX12_stages_86 (fun H locs hw => ?_)
      refine lv_goto (tgt := 93) hx hb dX12_stages_89 (by decide) ?_
      exact k_X12_stages_93 hC hrc hq47 hf hw (lv_sub hl [1, 2, 3, 4, 5, 0] rfl)
set_option maxRecDepth 100000 in
set_option maxHeartbeats 4000000 in
theorem k_X12_stages_47l {p : Program} {l : Launch} {e : Env} {s : State} {m : MethodId} {args : Array Value} {below : List Frame} {meth : Method} {c : Code} {D : va_G} {cy : Nat → ClassId} {z0 : Nat} {ad : Nat → Nat} {X : va_W} {u : Nat × Nat} (hC : cx_C p s m args meth c cX12_stages "RhymedThenModel" (Cond.code yX12_stages cX12_stages 8 none) 8 none) {z : mm_M} {d : Nat} {rc : Int32 → Int32 → Int32 → mm_M → Option mm_M} (hrc : ∀ (x1 x2 x3 : Int32) (M z : mm_M), rc x1 x2 x3 M = some z → ct_v rf_T l yX12_stages (Cond.code yX12_stages cX12_stages 8 none) (8 + d) (400 + 40 * d) D cy z0 ad u M X [.ref (ad 0), .int x1, .int x2, .int x3] z) : ∀ (n : Nat) (x2 : Int32) (x3 : Int32) (x4 : Int32) (x5 : Int32) (M : mm_M) (H : Heap) (locs : List Loc) (ls : Array Slot), f_X12_stages_47l rc n x2 x3 x4 x5 M = some z → wd_in rf_T D cy z0 ad u M X s H locs → lv_has ls 8 [(0, .ref (ad 0)), (2, .int x2), (3, .int x3), (4, .int x4), (5, .int x5)] → W p l e { frames := 8 + (d + 1), cells := 0, slots := 0, locals := 400 + 40 * (d + 1) } s m args below meth c H locs 0 0 (MQ below (cq_v rf_T D cy z0 ad u X z) args s 0 0 (fun q => z0 ≤ q)) (F0 m 47 ls []) := by
  intro n
  induction n with
  | zero => intro x2 x3 x4 x5 M H locs ls hf; exact absurd hf (by simp [f_X12_stages_47l])
  | succ n ih => intro x2 x3 x4 x5 M H locs ls hf hw hl; exact k_X12_stages_47 hC hrc ih hf hw hl
set_option maxRecDepth 100000 in
set_option maxHeartbeats 4000000 in
theorem k_X12_stages_0 {p : Program} {l : Launch} {e : Env} {s : State} {m : MethodId} {args : Array Value} {below : List Frame} {meth : Method} {c : Code} {D : va_G} {cy : Nat → ClassId} {z0 : Nat} {ad : Nat → Nat} {X : va_W} {u : Nat × Nat} (hC : cx_C p s m args meth c cX12_stages "RhymedThenModel" (Cond.code yX12_stages cX12_stages 8 none) 8 none) {z : mm_M} {d : Nat} {rc : Int32 → Int32 → Int32 → mm_M → Option mm_M} (hrc : ∀ (x1 x2 x3 : Int32) (M z : mm_M), rc x1 x2 x3 M = some z → ct_v rf_T l yX12_stages (Cond.code yX12_stages cX12_stages 8 none) (8 + d) (400 + 40 * d) D cy z0 ad u M X [.ref (ad 0), .int x1, .int x2, .int x3] z) {x1 : Int32} {x2 : Int32} {x3 : Int32} {M : mm_M} (hf : f_X12_stages_0 rc x1 x2 x3 M = some z) {H : Heap} {locs : List Loc} (hw : wd_in rf_T D cy z0 ad u M X s H locs) {ls : Array Slot} (hl : lv_has ls 8 [(0, .ref (ad 0)), (1, .int x1), (2, .int x2), (3, .int x3)]) : W p l e { frames := 8 + (d + 1), cells := 0, slots := 0, locals := 400 + 40 * (d + 1) } s m args below meth c H locs 0 0 (MQ below (cq_v rf_T D cy z0 ad u X z) args s 0 0 (fun q => z0 ≤ q)) (F0 m 0 ls []) := by
  have hx := hC.1
  have hb := hC.2.1
  unfold f_X12_stages_0 at hf
  refine lv_iload_n hx hb dX12_stages_0 rfl (lv_at hl 1 rfl) ?_
  refine lv_aload_n hx hb dX12_stages_1 rfl (lv_at hl 0 rfl) ?_
  refine rg_i hC hw 0 (Nat.le_of_ble_eq_true rfl) rfl fd_X12_49 wf_X12_346 dX12_stages_2 ?_
  refine lv_icmp_ge (tgt := 41) hx hb dX12_stages_5 (by decide) (fun c1 => ?_) (fun c1 => ?_)
  · rw [if_pos c1] at hf
    refine lv_iconst (v := 0) hx hb dX12_stages_41 (by decide) ?_
    refine lv_istore (lv' := [(4, .int 0), (0, .ref (ad 0)), (1, .int x1), (2, .int x2), (3, .int x3)]) hx hb dX12_stages_42 hl (by decide) rfl (fun ls hl => ?_)
    refine lv_iconst (v := 0) hx hb dX12_stages_44 (by decide) ?_
    refine lv_istore (lv' := [(5, .int 0), (4, .int 0), (0, .ref (ad 0)), (1, .int x1), (2, .int x2), (3, .int x3)]) hx hb dX12_stages_45 hl (by decide) rfl (fun ls hl => ?_)
    exact k_X12_stages_47l hC hrc fu_ _ _ _ _ _ _ _ _ hf hw (lv_sub hl [2, 4, 5, 1, 0] rfl)
  · rw [if_neg c1] at hf
    refine lv_iconst (v := 0) hx hb dX12_stages_8 (by decide) ?_
    refine lv_istore (lv' := [(4, .int 0), (0, .ref (ad 0)), (1, .int x1), (2, .int x2), (3, .int x3)]) hx hb dX12_stages_9 hl (by decide) rfl (fun ls hl => ?_)
    exact k_X12_stages_11l hC hrc fu_ _ _ _ _ _ _ _ _ hf hw (lv_sub hl [1, 2, 3, 4, 0] rfl)
set_option maxRecDepth 100000 in
theorem c_X12_stages {l : Launch} {D : va_G} {cy : Nat → ClassId} {z0 : Nat} {ad : Nat → Nat} {u : Nat × Nat} {X : va_W} : ∀ {d : Nat} {x1 x2 x3 : Int32} {M z : mm_M}, f_X12_stages d x1 x2 x3 M = some z → ct_v rf_T l yX12_stages (Cond.code yX12_stages cX12_stages 8 none) (8 + d) (400 + 40 * d) D cy z0 ad u M X [.ref (ad 0), .int x1, .int x2, .int x3] z := by
  intro d
  induction d with
  | zero => intro x1 x2 x3 M z hf; exact absurd hf (by simp [f_X12_stages])
  | succ d ih =>
    intro x1 x2 x3 M z hf
    refine bgc_v (by decide) (fun p e s m below meth c hC hw => ?_)
    refine en_t (Nat.le_of_ble_eq_true rfl) (fun ls hl => ?_)
    have hl : lv_has ls 8 [(0, .ref (ad 0)), (1, .int x1), (2, .int x2), (3, .int x3)] := hl
    exact k_X12_stages_0 hC (fun _ _ _ _ _ h => ih h) (show f_X12_stages_0 (f_X12_stages d) x1 x2 x3 M = some z from hf) hw hl
set_option maxRecDepth 100000 in
set_option maxHeartbeats 4000000 in
theorem k_X12_stage_148 {p : Program} {l : Launch} {e : Env} {s : State} {m : MethodId} {args : Array Value} {below : List Frame} {meth : Method} {c : Code} {D : va_G} {cy : Nat → ClassId} {z0 : Nat} {ad : Nat → Nat} {X : va_W} {u : Nat × Nat} (hC : cx_C p s m args meth c cX12_stage "RhymedThenModel" (Cond.code yX12_stage cX12_stage 9 (some .int)) 9 (some .int)) {z : (Int32 × mm_M)} {x1 : Int32} {x2 : Int32} {x6 : Int32} {x8 : Int32} {t0 : Int32} {M : mm_M} {q96 : Int32 → Int32 → Int32 → Int32 → Int32 → mm_M → Option (Int32 × mm_M)} (hq96 : ∀ (x1 : Int32) (x2 : Int32) (x6 : Int32) (x7 : Int32) (x8 : Int32) (M : mm_M) (H : Heap) (locs : List Loc) (ls : Array Slot), q96 x1 x2 x6 x7 x8 M = some z → wd_in rf_T D cy z0 ad u M X s H locs → lv_has ls 9 [(0, .ref (ad 0)), (1, .int x1), (2, .int x2), (6, .int x6), (7, .int x7), (8, .int x8)] → W p l e { frames := 19, cells := 0, slots := 0, locals := 814 } s m args below meth c H locs 0 0 (MQ below (cq_i rf_T D cy z0 ad u X z.1 z.2) args s 0 0 (fun q => z0 ≤ q)) (F0 m 96 ls [])) (hf : f_X12_stage_148 q96 x1 x2 x6 x8 t0 M = some z) {H : Heap} {locs : List Loc} (hw : wd_in rf_T D cy z0 ad u M X s H locs) {ls : Array Slot} (hl : lv_has ls 9 [(0, .ref (ad 0)), (1, .int x1), (2, .int x2), (6, .int x6), (8, .int x8)]) : W p l e { frames := 19, cells := 0, slots := 0, locals := 814 } s m args below meth c H locs 0 0 (MQ below (cq_i rf_T D cy z0 ad u X z.1 z.2) args s 0 0 (fun q => z0 ≤ q)) (F0 m 148 ls [.int t0]) := by
  have hx := hC.1
  have hb := hC.2.1
  unfold f_X12_stage_148 at hf
  refine lv_istore (lv' := [(7, .int t0), (0, .ref (ad 0)), (1, .int x1), (2, .int x2), (6, .int x6), (8, .int x8)]) hx hb dX12_stage_148 hl (by decide) rfl (fun ls hl => ?_)
  obtain ⟨y38, ey38, hf⟩ := sq_e hf
  refine lv_iinc (v := y38) (lv' := [(8, .int y38), (7, .int t0), (0, .ref (ad 0)), (1, .int x1), (2, .int x2), (6, .int x6)]) hx hb dX12_stage_150 hl (k := 5) rfl (by rw [ey38]; rfl) (by decide) rfl (fun ls hl => ?_)
  refine lv_goto (tgt := 96) hx hb dX12_stage_153 (by decide) ?_
  exact hq96 _ _ _ _ _ _ _ _ _ hf hw (lv_sub hl [2, 3, 4, 5, 1, 0] rfl)
set_option maxRecDepth 100000 in
set_option maxHeartbeats 4000000 in
theorem k_X12_stage_143 {p : Program} {l : Launch} {e : Env} {s : State} {m : MethodId} {args : Array Value} {below : List Frame} {meth : Method} {c : Code} {D : va_G} {cy : Nat → ClassId} {z0 : Nat} {ad : Nat → Nat} {X : va_W} {u : Nat × Nat} (hC : cx_C p s m args meth c cX12_stage "RhymedThenModel" (Cond.code yX12_stage cX12_stage 9 (some .int)) 9 (some .int)) {z : (Int32 × mm_M)} {x1 : Int32} {x2 : Int32} {x6 : Int32} {x8 : Int32} {M : mm_M} {q96 : Int32 → Int32 → Int32 → Int32 → Int32 → mm_M → Option (Int32 × mm_M)} (hq96 : ∀ (x1 : Int32) (x2 : Int32) (x6 : Int32) (x7 : Int32) (x8 : Int32) (M : mm_M) (H : Heap) (locs : List Loc) (ls : Array Slot), q96 x1 x2 x6 x7 x8 M = some z → wd_in rf_T D cy z0 ad u M X s H locs → lv_has ls 9 [(0, .ref (ad 0)), (1, .int x1), (2, .int x2), (6, .int x6), (7, .int x7), (8, .int x8)] → W p l e { frames := 19, cells := 0, slots := 0, locals := 814 } s m args below meth c H locs 0 0 (MQ below (cq_i rf_T D cy z0 ad u X z.1 z.2) args s 0 0 (fun q => z0 ≤ q)) (F0 m 96 ls [])) (hf : f_X12_stage_143 q96 x1 x2 x6 x8 M = some z) {H : Heap} {locs : List Loc} (hw : wd_in rf_T D cy z0 ad u M X s H locs) {ls : Array Slot} (hl : lv_has ls 9 [(0, .ref (ad 0)), (1, .int x1), (2, .int x2), (6, .int x6), (8, .int x8)]) : W p l e { frames := 19, cells := 0, slots := 0, locals := 814 } s m args below meth c H locs 0 0 (MQ below (cq_i rf_T D cy z0 ad u X z.1 z.2) args s 0 0 (fun q => z0 ≤ q)) (F0 m 143 ls []) := by
  have hx := hC.1
  have hb := hC.2.1
  unfold f_X12_stage_143 at hf
  refine lv_iconst (v := 1) hx hb dX12_stage_143 (by decide) ?_
  refine lv_goto (tgt := 148) hx hb dX12_stage_144 (by decide) ?_
  exact k_X12_stage_148 hC hq96 hf hw (lv_sub hl [0, 1, 2, 3, 4] rfl)
set_option maxRecDepth 100000 in
set_option maxHeartbeats 4000000 in
theorem k_X12_stage_147 {p : Program} {l : Launch} {e : Env} {s : State} {m : MethodId} {args : Array Value} {below : List Frame} {meth : Method} {c : Code} {D : va_G} {cy : Nat → ClassId} {z0 : Nat} {ad : Nat → Nat} {X : va_W} {u : Nat × Nat} (hC : cx_C p s m args meth c cX12_stage "RhymedThenModel" (Cond.code yX12_stage cX12_stage 9 (some .int)) 9 (some .int)) {z : (Int32 × mm_M)} {x1 : Int32} {x2 : Int32} {x6 : Int32} {x8 : Int32} {M : mm_M} {q96 : Int32 → Int32 → Int32 → Int32 → Int32 → mm_M → Option (Int32 × mm_M)} (hq96 : ∀ (x1 : Int32) (x2 : Int32) (x6 : Int32) (x7 : Int32) (x8 : Int32) (M : mm_M) (H : Heap) (locs : List Loc) (ls : Array Slot), q96 x1 x2 x6 x7 x8 M = some z → wd_in rf_T D cy z0 ad u M X s H locs → lv_has ls 9 [(0, .ref (ad 0)), (1, .int x1), (2, .int x2), (6, .int x6), (7, .int x7), (8, .int x8)] → W p l e { frames := 19, cells := 0, slots := 0, locals := 814 } s m args below meth c H locs 0 0 (MQ below (cq_i rf_T D cy z0 ad u X z.1 z.2) args s 0 0 (fun q => z0 ≤ q)) (F0 m 96 ls [])) (hf : f_X12_stage_147 q96 x1 x2 x6 x8 M = some z) {H : Heap} {locs : List Loc} (hw : wd_in rf_T D cy z0 ad u M X s H locs) {ls : Array Slot} (hl : lv_has ls 9 [(0, .ref (ad 0)), (1, .int x1), (2, .int x2), (6, .int x6), (8, .int x8)]) : W p l e { frames := 19, cells := 0, slots := 0, locals := 814 } s m args below meth c H locs 0 0 (MQ below (cq_i rf_T D cy z0 ad u X z.1 z.2) args s 0 0 (fun q => z0 ≤ q)) (F0 m 147 ls []) := by
  have hx := hC.1
  have hb := hC.2.1
  unfold f_X12_stage_147 at hf
  refine lv_iconst (v := 0) hx hb dX12_stage_147 (by decide) ?_
  exact k_X12_stage_148 hC hq96 hf hw (lv_sub hl [0, 1, 2, 3, 4] rfl)
set_option maxRecDepth 100000 in
set_option maxHeartbeats 4000000 in
theorem k_X12_stage_182 {p : Program} {l : Launch} {e : Env} {s : State} {m : MethodId} {args : Array Value} {below : List Frame} {meth : Method} {c : Code} {D : va_G} {cy : Nat → ClassId} {z0 : Nat} {ad : Nat → Nat} {X : va_W} {u : Nat × Nat} (hC : cx_C p s m args meth c cX12_stage "RhymedThenModel" (Cond.code yX12_stage cX12_stage 9 (some .int)) 9 (some .int)) {z : (Int32 × mm_M)} {x1 : Int32} {x2 : Int32} {x6 : Int32} {M : mm_M} {q72 : Int32 → Int32 → Int32 → mm_M → Option (Int32 × mm_M)} (hq72 : ∀ (x1 : Int32) (x2 : Int32) (x6 : Int32) (M : mm_M) (H : Heap) (locs : List Loc) (ls : Array Slot), q72 x1 x2 x6 M = some z → wd_in rf_T D cy z0 ad u M X s H locs → lv_has ls 9 [(0, .ref (ad 0)), (1, .int x1), (2, .int x2), (6, .int x6)] → W p l e { frames := 19, cells := 0, slots := 0, locals := 814 } s m args below meth c H locs 0 0 (MQ below (cq_i rf_T D cy z0 ad u X z.1 z.2) args s 0 0 (fun q => z0 ≤ q)) (F0 m 72 ls [])) (hf : f_X12_stage_182 q72 x1 x2 x6 M = some z) {H : Heap} {locs : List Loc} (hw : wd_in rf_T D cy z0 ad u M X s H locs) {ls : Array Slot} (hl : lv_has ls 9 [(0, .ref (ad 0)), (1, .int x1), (2, .int x2), (6, .int x6)]) : W p l e { frames := 19, cells := 0, slots := 0, locals := 814 } s m args below meth c H locs 0 0 (MQ below (cq_i rf_T D cy z0 ad u X z.1 z.2) args s 0 0 (fun q => z0 ≤ q)) (F0 m 182 ls []) := by
  have hx := hC.1
  have hb := hC.2.1
  unfold f_X12_stage_182 at hf
  obtain ⟨y37, ey37, hf⟩ := sq_e hf
  refine lv_iinc (v := y37) (lv' := [(6, .int y37), (0, .ref (ad 0)), (1, .int x1), (2, .int x2)]) hx hb dX12_stage_182 hl (k := 3) rfl (by rw [ey37]; rfl) (by decide) rfl (fun ls hl => ?_)
  refine lv_goto (tgt := 72) hx hb dX12_stage_185 (by decide) ?_
  exact hq72 _ _ _ _ _ _ _ hf hw (lv_sub hl [1, 2, 3, 0] rfl)
set_option maxRecDepth 100000 in
set_option maxHeartbeats 4000000 in
theorem k_X12_stage_156 {p : Program} {l : Launch} {e : Env} {s : State} {m : MethodId} {args : Array Value} {below : List Frame} {meth : Method} {c : Code} {D : va_G} {cy : Nat → ClassId} {z0 : Nat} {ad : Nat → Nat} {X : va_W} {u : Nat × Nat} (hC : cx_C p s m args meth c cX12_stage "RhymedThenModel" (Cond.code yX12_stage cX12_stage 9 (some .int)) 9 (some .int)) {z : (Int32 × mm_M)} {x1 : Int32} {x2 : Int32} {x6 : Int32} {x7 : Int32} {M : mm_M} {q72 : Int32 → Int32 → Int32 → mm_M → Option (Int32 × mm_M)} (hq72 : ∀ (x1 : Int32) (x2 : Int32) (x6 : Int32) (M : mm_M) (H : Heap) (locs : List Loc) (ls : Array Slot), q72 x1 x2 x6 M = some z → wd_in rf_T D cy z0 ad u M X s H locs → lv_has ls 9 [(0, .ref (ad 0)), (1, .int x1), (2, .int x2), (6, .int x6)] → W p l e { frames := 19, cells := 0, slots := 0, locals := 814 } s m args below meth c H locs 0 0 (MQ below (cq_i rf_T D cy z0 ad u X z.1 z.2) args s 0 0 (fun q => z0 ≤ q)) (F0 m 72 ls [])) (hf : f_X12_stage_156 q72 x1 x2 x6 x7 M = some z) {H : Heap} {locs : List Loc} (hw : wd_in rf_T D cy z0 ad u M X s H locs) {ls : Array Slot} (hl : lv_has ls 9 [(0, .ref (ad 0)), (1, .int x1), (2, .int x2), (6, .int x6), (7, .int x7)]) : W p l e { frames := 19, cells := 0, slots := 0, locals := 814 } s m args below meth c H locs 0 0 (MQ below (cq_i rf_T D cy z0 ad u X z.1 z.2) args s 0 0 (fun q => z0 ≤ q)) (F0 m 156 ls []) := by
  have hx := hC.1
  have hb := hC.2.1
  unfold f_X12_stage_156 at hf
  refine lv_iload hx hb dX12_stage_156 (lv_at hl 4 rfl) ?_
  refine lv_if_eq (tgt := 182) hx hb dX12_stage_158 (by decide) (fun c33 => ?_) (fun c33 => ?_)
  · rw [if_pos c33] at hf
    exact k_X12_stage_182 hC hq72 hf hw (lv_sub hl [0, 1, 2, 3] rfl)
  · rw [if_neg c33] at hf
    refine lv_aload_n hx hb dX12_stage_161 rfl (lv_at hl 0 rfl) ?_
    refine rg_p hC hw 0 (Nat.le_of_ble_eq_true rfl) rfl fd_X12_45 wf_X12_349 (q := 32) rfl dX12_stage_162 ?_
    refine lv_aload_n hx hb dX12_stage_165 rfl (lv_at hl 0 rfl) ?_
    refine rg_i hC hw 0 (Nat.le_of_ble_eq_true rfl) rfl fd_X12_49 wf_X12_346 dX12_stage_166 ?_
    refine lv_iload hx hb dX12_stage_169 (lv_at hl 3 rfl) ?_
    obtain ⟨h34, hf⟩ := ck_e hf
    obtain ⟨M35, eM35, hf⟩ := sq_e hf
    refine rs_i hC hw 32 (Nat.le_of_ble_eq_true rfl) rfl h34 dX12_stage_171 eM35 (fun H locs hw => ?_)
    refine lv_aload_n hx hb dX12_stage_172 rfl (lv_at hl 0 rfl) ?_
    refine lv_dup hx hb dX12_stage_173 rfl ?_
    refine rg_i hC hw 0 (Nat.le_of_ble_eq_true rfl) rfl fd_X12_49 wf_X12_346 dX12_stage_174 ?_
    refine lv_iconst (v := 1) hx hb dX12_stage_177 (by decide) ?_
    refine lv_iadd hx hb dX12_stage_178 ?_
    obtain ⟨M36, eM36, hf⟩ := sq_e hf
    refine rp_i hC hw 0 (Nat.le_of_ble_eq_true rfl) rfl fd_X12_49 wf_X12_346 fp_X12_49 rfl rfl dX12_stage_179 eM36 (fun H locs hw => ?_)
    exact k_X12_stage_182 hC hq72 hf hw (lv_sub hl [0, 1, 2, 3] rfl)
set_option maxRecDepth 100000 in
set_option maxHeartbeats 4000000 in
theorem k_X12_stage_96 {p : Program} {l : Launch} {e : Env} {s : State} {m : MethodId} {args : Array Value} {below : List Frame} {meth : Method} {c : Code} {D : va_G} {cy : Nat → ClassId} {z0 : Nat} {ad : Nat → Nat} {X : va_W} {u : Nat × Nat} (hC : cx_C p s m args meth c cX12_stage "RhymedThenModel" (Cond.code yX12_stage cX12_stage 9 (some .int)) 9 (some .int)) {z : (Int32 × mm_M)} {x1 : Int32} {x2 : Int32} {x6 : Int32} {x7 : Int32} {x8 : Int32} {M : mm_M} {q72 : Int32 → Int32 → Int32 → mm_M → Option (Int32 × mm_M)} (hq72 : ∀ (x1 : Int32) (x2 : Int32) (x6 : Int32) (M : mm_M) (H : Heap) (locs : List Loc) (ls : Array Slot), q72 x1 x2 x6 M = some z → wd_in rf_T D cy z0 ad u M X s H locs → lv_has ls 9 [(0, .ref (ad 0)), (1, .int x1), (2, .int x2), (6, .int x6)] → W p l e { frames := 19, cells := 0, slots := 0, locals := 814 } s m args below meth c H locs 0 0 (MQ below (cq_i rf_T D cy z0 ad u X z.1 z.2) args s 0 0 (fun q => z0 ≤ q)) (F0 m 72 ls [])) {q96 : Int32 → Int32 → Int32 → Int32 → Int32 → mm_M → Option (Int32 × mm_M)} (hq96 : ∀ (x1 : Int32) (x2 : Int32) (x6 : Int32) (x7 : Int32) (x8 : Int32) (M : mm_M) (H : Heap) (locs : List Loc) (ls : Array Slot), q96 x1 x2 x6 x7 x8 M = some z → wd_in rf_T D cy z0 ad u M X s H locs → lv_has ls 9 [(0, .ref (ad 0)), (1, .int x1), (2, .int x2), (6, .int x6), (7, .int x7), (8, .int x8)] → W p l e { frames := 19, cells := 0, slots := 0, locals := 814 } s m args below meth c H locs 0 0 (MQ below (cq_i rf_T D cy z0 ad u X z.1 z.2) args s 0 0 (fun q => z0 ≤ q)) (F0 m 96 ls [])) (hf : f_X12_stage_96 q72 q96 x1 x2 x6 x7 x8 M = some z) {H : Heap} {locs : List Loc} (hw : wd_in rf_T D cy z0 ad u M X s H locs) {ls : Array Slot} (hl : lv_has ls 9 [(0, .ref (ad 0)), (1, .int x1), (2, .int x2), (6, .int x6), (7, .int x7), (8, .int x8)]) : W p l e { frames := 19, cells := 0, slots := 0, locals := 814 } s m args below meth c H locs 0 0 (MQ below (cq_i rf_T D cy z0 ad u X z.1 z.2) args s 0 0 (fun q => z0 ≤ q)) (F0 m 96 ls []) := by
  have hx := hC.1
  have hb := hC.2.1
  unfold f_X12_stage_96 at hf
  refine lv_iload hx hb dX12_stage_96 (lv_at hl 5 rfl) ?_
  refine lv_aload_n hx hb dX12_stage_98 rfl (lv_at hl 0 rfl) ?_
  refine rg_i hC hw 0 (Nat.le_of_ble_eq_true rfl) rfl fd_X12_28 wf_X12_258 dX12_stage_99 ?_
  refine lv_icmp_ge (tgt := 156) hx hb dX12_stage_102 (by decide) (fun c19 => ?_) (fun c19 => ?_)
  · rw [if_pos c19] at hf
    exact k_X12_stage_156 hC hq72 hf hw (lv_sub hl [0, 1, 2, 3, 4] rfl)
  · rw [if_neg c19] at hf
    refine lv_iload hx hb dX12_stage_105 (lv_at hl 4 rfl) ?_
    refine lv_if_ne (tgt := 143) hx hb dX12_stage_107 (by decide) (fun c20 => ?_) (fun c20 => ?_)
    · rw [if_neg c20] at hf
      exact k_X12_stage_143 hC hq96 hf hw (lv_sub hl [0, 1, 2, 3, 5] rfl)
    · rw [if_pos c20] at hf
      refine lv_aload_n hx hb dX12_stage_110 rfl (lv_at hl 0 rfl) ?_
      refine lv_iload hx hb dX12_stage_111 (lv_at hl 5 rfl) ?_
      obtain ⟨z21, ez21, hf⟩ := bd_e hf
      refine clc_Vi hC hw (c_X12_isOnStage ez21) hd_X12_isOnStage cw_X12_361 (Nat.le_of_ble_eq_true rfl) rfl rfl (rest := []) hl.1 rfl (Nat.le_of_ble_eq_true rfl) ⟨Nat.le_of_ble_eq_true rfl, Nat.le_of_ble_eq_true rfl⟩ ⟨Nat.zero_le _, Nat.zero_le _⟩ rfl dX12_stage_113 (fun H locs hw => ?_)
      refine lv_if_eq (tgt := 147) hx hb dX12_stage_116 (by decide) (fun c22 => ?_) (fun c22 => ?_)
      · rw [if_pos c22] at hf
        exact k_X12_stage_147 hC hq96 hf hw (lv_sub hl [0, 1, 2, 3, 5] rfl)
      · rw [if_neg c22] at hf
        refine lv_aload_n hx hb dX12_stage_119 rfl (lv_at hl 0 rfl) ?_
        refine rg_p hC hw 0 (Nat.le_of_ble_eq_true rfl) rfl fd_X12_30 wf_X12_229 (q := 19) rfl dX12_stage_120 ?_
        refine lv_iload hx hb dX12_stage_123 (lv_at hl 5 rfl) ?_
        obtain ⟨h23, hf⟩ := ck_e hf
        refine ra_i hC hw 19 (Nat.le_of_ble_eq_true rfl) rfl h23 dX12_stage_125 ?_
        refine lv_iload hx hb dX12_stage_126 (lv_at hl 3 rfl) ?_
        refine lv_icmp_eq (tgt := 143) hx hb dX12_stage_128 (by decide) (fun c24 => ?_) (fun c24 => ?_)
        · rw [if_pos c24] at hf
          exact k_X12_stage_143 hC hq96 hf hw (lv_sub hl [0, 1, 2, 3, 5] rfl)
        · rw [if_neg c24] at hf
          refine lv_aload_n hx hb dX12_stage_131 rfl (lv_at hl 0 rfl) ?_
          refine rg_p hC hw 0 (Nat.le_of_ble_eq_true rfl) rfl fd_X12_31 wf_X12_232 (q := 20) rfl dX12_stage_132 ?_
          refine lv_iload hx hb dX12_stage_135 (lv_at hl 5 rfl) ?_
          obtain ⟨h25, hf⟩ := ck_e hf
          refine ra_i hC hw 20 (Nat.le_of_ble_eq_true rfl) rfl h25 dX12_stage_137 ?_
          refine lv_iload hx hb dX12_stage_138 (lv_at hl 3 rfl) ?_
          refine lv_icmp_ne (tgt := 147) hx hb dX12_stage_140 (by decide) (fun c26 => ?_) (fun c26 => ?_)
          · rw [if_neg c26] at hf
            exact k_X12_stage_147 hC hq96 hf hw (lv_sub hl [0, 1, 2, 3, 5] rfl)
          · rw [if_pos c26] at hf
            exact k_X12_stage_143 hC hq96 hf hw (lv_sub hl [0, 1, 2, 3, 5] rfl)
set_option maxRecDepth 100000 in
set_option maxHeartbeats 4000000 in
theorem k_X12_stage_96l {p : Program} {l : Launch} {e : Env} {s : State} {m : MethodId} {args : Array Value} {below : List Frame} {meth : Method} {c : Code} {D : va_G} {cy : Nat → ClassId} {z0 : Nat} {ad : Nat → Nat} {X : va_W} {u : Nat × Nat} (hC : cx_C p s m args meth c cX12_stage "RhymedThenModel" (Cond.code yX12_stage cX12_stage 9 (some .int)) 9 (some .int)) {z : (Int32 × mm_M)} {q72 : Int32 → Int32 → Int32 → mm_M → Option (Int32 × mm_M)} (hq72 : ∀ (x1 : Int32) (x2 : Int32) (x6 : Int32) (M : mm_M) (H : Heap) (locs : List Loc) (ls : Array Slot), q72 x1 x2 x6 M = some z → wd_in rf_T D cy z0 ad u M X s H locs → lv_has ls 9 [(0, .ref (ad 0)), (1, .int x1), (2, .int x2), (6, .int x6)] → W p l e { frames := 19, cells := 0, slots := 0, locals := 814 } s m args below meth c H locs 0 0 (MQ below (cq_i rf_T D cy z0 ad u X z.1 z.2) args s 0 0 (fun q => z0 ≤ q)) (F0 m 72 ls [])) : ∀ (n : Nat) (x1 : Int32) (x2 : Int32) (x6 : Int32) (x7 : Int32) (x8 : Int32) (M : mm_M) (H : Heap) (locs : List Loc) (ls : Array Slot), f_X12_stage_96l q72 n x1 x2 x6 x7 x8 M = some z → wd_in rf_T D cy z0 ad u M X s H locs → lv_has ls 9 [(0, .ref (ad 0)), (1, .int x1), (2, .int x2), (6, .int x6), (7, .int x7), (8, .int x8)] → W p l e { frames := 19, cells := 0, slots := 0, locals := 814 } s m args below meth c H locs 0 0 (MQ below (cq_i rf_T D cy z0 ad u X z.1 z.2) args s 0 0 (fun q => z0 ≤ q)) (F0 m 96 ls []) := by
  intro n
  induction n with
  | zero => intro x1 x2 x6 x7 x8 M H locs ls hf; exact absurd hf (by simp [f_X12_stage_96l])
  | succ n ih => intro x1 x2 x6 x7 x8 M H locs ls hf hw hl; exact k_X12_stage_96 hC hq72 ih hf hw hl
set_option maxRecDepth 100000 in
set_option maxHeartbeats 4000000 in
theorem k_X12_stage_247 {p : Program} {l : Launch} {e : Env} {s : State} {m : MethodId} {args : Array Value} {below : List Frame} {meth : Method} {c : Code} {D : va_G} {cy : Nat → ClassId} {z0 : Nat} {ad : Nat → Nat} {X : va_W} {u : Nat × Nat} (hC : cx_C p s m args meth c cX12_stage "RhymedThenModel" (Cond.code yX12_stage cX12_stage 9 (some .int)) 9 (some .int)) {z : (Int32 × mm_M)} {M : mm_M} (hf : f_X12_stage_247 M = some z) {H : Heap} {locs : List Loc} (hw : wd_in rf_T D cy z0 ad u M X s H locs) {ls : Array Slot} (hl : lv_has ls 9 [(0, .ref (ad 0))]) : W p l e { frames := 19, cells := 0, slots := 0, locals := 814 } s m args below meth c H locs 0 0 (MQ below (cq_i rf_T D cy z0 ad u X z.1 z.2) args s 0 0 (fun q => z0 ≤ q)) (F0 m 247 ls []) := by
  have hx := hC.1
  have hb := hC.2.1
  unfold f_X12_stage_247 at hf
  refine lv_aload_n hx hb dX12_stage_247 rfl (lv_at hl 0 rfl) ?_
  refine rg_i hC hw 0 (Nat.le_of_ble_eq_true rfl) rfl fd_X12_50 wf_X12_367 dX12_stage_248 ?_
  have hz := Option.some.inj hf
  subst hz
  exact rtc_i hC hw dX12_stage_251
set_option maxRecDepth 100000 in
set_option maxHeartbeats 4000000 in
theorem k_X12_stage_208 {p : Program} {l : Launch} {e : Env} {s : State} {m : MethodId} {args : Array Value} {below : List Frame} {meth : Method} {c : Code} {D : va_G} {cy : Nat → ClassId} {z0 : Nat} {ad : Nat → Nat} {X : va_W} {u : Nat × Nat} (hC : cx_C p s m args meth c cX12_stage "RhymedThenModel" (Cond.code yX12_stage cX12_stage 9 (some .int)) 9 (some .int)) {z : (Int32 × mm_M)} {x6 : Int32} {M : mm_M} {q208 : Int32 → mm_M → Option (Int32 × mm_M)} (hq208 : ∀ (x6 : Int32) (M : mm_M) (H : Heap) (locs : List Loc) (ls : Array Slot), q208 x6 M = some z → wd_in rf_T D cy z0 ad u M X s H locs → lv_has ls 9 [(0, .ref (ad 0)), (6, .int x6)] → W p l e { frames := 19, cells := 0, slots := 0, locals := 814 } s m args below meth c H locs 0 0 (MQ below (cq_i rf_T D cy z0 ad u X z.1 z.2) args s 0 0 (fun q => z0 ≤ q)) (F0 m 208 ls [])) (hf : f_X12_stage_208 q208 x6 M = some z) {H : Heap} {locs : List Loc} (hw : wd_in rf_T D cy z0 ad u M X s H locs) {ls : Array Slot} (hl : lv_has ls 9 [(0, .ref (ad 0)), (6, .int x6)]) : W p l e { frames := 19, cells := 0, slots := 0, locals := 814 } s m args below meth c H locs 0 0 (MQ below (cq_i rf_T D cy z0 ad u X z.1 z.2) args s 0 0 (fun q => z0 ≤ q)) (F0 m 208 ls []) := by
  have hx := hC.1
  have hb := hC.2.1
  unfold f_X12_stage_208 at hf
  refine lv_iload hx hb dX12_stage_208 (lv_at hl 1 rfl) ?_
  refine lv_aload_n hx hb dX12_stage_210 rfl (lv_at hl 0 rfl) ?_
  refine rg_i hC hw 0 (Nat.le_of_ble_eq_true rfl) rfl fd_X12_49 wf_X12_346 dX12_stage_211 ?_
  refine lv_icmp_ge (tgt := 247) hx hb dX12_stage_214 (by decide) (fun c27 => ?_) (fun c27 => ?_)
  · rw [if_pos c27] at hf
    exact k_X12_stage_247 hC hf hw (lv_sub hl [0] rfl)
  · rw [if_neg c27] at hf
    refine lv_aload_n hx hb dX12_stage_217 rfl (lv_at hl 0 rfl) ?_
    refine lv_aload_n hx hb dX12_stage_218 rfl (lv_at hl 0 rfl) ?_
    refine rg_p hC hw 0 (Nat.le_of_ble_eq_true rfl) rfl fd_X12_45 wf_X12_349 (q := 32) rfl dX12_stage_219 ?_
    refine lv_iload hx hb dX12_stage_222 (lv_at hl 1 rfl) ?_
    obtain ⟨h28, hf⟩ := ck_e hf
    refine ra_i hC hw 32 (Nat.le_of_ble_eq_true rfl) rfl h28 dX12_stage_224 ?_
    refine lv_i2l hx hb dX12_stage_225 rfl ?_
    obtain ⟨z29, ez29, hf⟩ := bd_e hf
    refine clc_Vv hC hw (c_X12_enters ez29) hd_X12_enters cw_X12_18 (Nat.le_of_ble_eq_true rfl) rfl rfl (rest := []) hl.1 rfl (Nat.le_of_ble_eq_true rfl) ⟨Nat.le_of_ble_eq_true rfl, Nat.le_of_ble_eq_true rfl⟩ ⟨Nat.zero_le _, Nat.zero_le _⟩ rfl dX12_stage_226 (fun H locs hw => ?_)
    refine lv_aload_n hx hb dX12_stage_229 rfl (lv_at hl 0 rfl) ?_
    refine lv_aload_n hx hb dX12_stage_230 rfl (lv_at hl 0 rfl) ?_
    refine rg_p hC hw 0 (Nat.le_of_ble_eq_true rfl) rfl fd_X12_47 wf_X12_370 (q := 34) rfl dX12_stage_231 ?_
    refine lv_iload hx hb dX12_stage_234 (lv_at hl 1 rfl) ?_
    obtain ⟨h30, hf⟩ := ck_e hf
    refine ra_i hC hw 34 (Nat.le_of_ble_eq_true rfl) rfl h30 dX12_stage_236 ?_
    refine lv_i2l hx hb dX12_stage_237 rfl ?_
    obtain ⟨z31, ez31, hf⟩ := bd_e hf
    refine clc_Vv hC hw (c_X12_enters ez31) hd_X12_enters cw_X12_18 (Nat.le_of_ble_eq_true rfl) rfl rfl (rest := []) hl.1 rfl (Nat.le_of_ble_eq_true rfl) ⟨Nat.le_of_ble_eq_true rfl, Nat.le_of_ble_eq_true rfl⟩ ⟨Nat.zero_le _, Nat.zero_le _⟩ rfl dX12_stage_238 (fun H locs hw => ?_)
    obtain ⟨y32, ey32, hf⟩ := sq_e hf
    refine lv_iinc (v := y32) (lv' := [(6, .int y32), (0, .ref (ad 0))]) hx hb dX12_stage_241 hl (k := 1) rfl (by rw [ey32]; rfl) (by decide) rfl (fun ls hl => ?_)
    refine lv_goto (tgt := 208) hx hb dX12_stage_244 (by decide) ?_
    exact hq208 _ _ _ _ _ hf hw (lv_sub hl [1, 0] rfl)
set_option maxRecDepth 100000 in
set_option maxHeartbeats 4000000 in
theorem k_X12_stage_208l {p : Program} {l : Launch} {e : Env} {s : State} {m : MethodId} {args : Array Value} {below : List Frame} {meth : Method} {c : Code} {D : va_G} {cy : Nat → ClassId} {z0 : Nat} {ad : Nat → Nat} {X : va_W} {u : Nat × Nat} (hC : cx_C p s m args meth c cX12_stage "RhymedThenModel" (Cond.code yX12_stage cX12_stage 9 (some .int)) 9 (some .int)) {z : (Int32 × mm_M)} : ∀ (n : Nat) (x6 : Int32) (M : mm_M) (H : Heap) (locs : List Loc) (ls : Array Slot), f_X12_stage_208l n x6 M = some z → wd_in rf_T D cy z0 ad u M X s H locs → lv_has ls 9 [(0, .ref (ad 0)), (6, .int x6)] → W p l e { frames := 19, cells := 0, slots := 0, locals := 814 } s m args below meth c H locs 0 0 (MQ below (cq_i rf_T D cy z0 ad u X z.1 z.2) args s 0 0 (fun q => z0 ≤ q)) (F0 m 208 ls []) := by
  intro n
  induction n with
  | zero => intro x6 M H locs ls hf; exact absurd hf (by simp [f_X12_stage_208l])
  | succ n ih => intro x6 M H locs ls hf hw hl; exact k_X12_stage_208 hC ih hf hw hl
set_option maxRecDepth 100000 in
set_option maxHeartbeats 4000000 in
theorem k_X12_stage_188 {p : Program} {l : Launch} {e : Env} {s : State} {m : MethodId} {args : Array Value} {below : List Frame} {meth : Method} {c : Code} {D : va_G} {cy : Nat → ClassId} {z0 : Nat} {ad : Nat → Nat} {X : va_W} {u : Nat × Nat} (hC : cx_C p s m args meth c cX12_stage "RhymedThenModel" (Cond.code yX12_stage cX12_stage 9 (some .int)) 9 (some .int)) {z : (Int32 × mm_M)} {x1 : Int32} {x2 : Int32} {M : mm_M} (hf : f_X12_stage_188 x1 x2 M = some z) {H : Heap} {locs : List Loc} (hw : wd_in rf_T D cy z0 ad u M X s H locs) {ls : Array Slot} (hl : lv_has ls 9 [(0, .ref (ad 0)), (1, .int x1), (2, .int x2)]) : W p l e { frames := 19, cells := 0, slots := 0, locals := 814 } s m args below meth c H locs 0 0 (MQ below (cq_i rf_T D cy z0 ad u X z.1 z.2) args s 0 0 (fun q => z0 ≤ q)) (F0 m 188 ls []) := by
  have hx := hC.1
  have hb := hC.2.1
  unfold f_X12_stage_188 at hf
  refine lv_aload_n hx hb dX12_stage_188 rfl (lv_at hl 0 rfl) ?_
  refine lv_iconst (v := (-1)) hx hb dX12_stage_189 (by decide) ?_
  obtain ⟨M16, eM16, hf⟩ := sq_e hf
  refine rp_i hC hw 0 (Nat.le_of_ble_eq_true rfl) rfl fd_X12_50 wf_X12_367 fp_X12_50 rfl rfl dX12_stage_190 eM16 (fun H locs hw => ?_)
  refine lv_aload_n hx hb dX12_stage_193 rfl (lv_at hl 0 rfl) ?_
  refine lv_iconst (v := 0) hx hb dX12_stage_194 (by decide) ?_
  refine lv_iload_n hx hb dX12_stage_195 rfl (lv_at hl 1 rfl) ?_
  refine lv_iload_n hx hb dX12_stage_196 rfl (lv_at hl 2 rfl) ?_
  obtain ⟨z17, ez17, hf⟩ := bd_e hf
  refine clc_Vv hC hw (c_X12_stages ez17) hd_X12_stages cw_X12_355 (Nat.le_of_ble_eq_true rfl) rfl rfl (rest := []) hl.1 rfl (Nat.le_of_ble_eq_true rfl) ⟨Nat.le_of_ble_eq_true rfl, Nat.le_of_ble_eq_true rfl⟩ ⟨Nat.zero_le _, Nat.zero_le _⟩ rfl dX12_stage_197 (fun H locs hw => ?_)
  refine lv_aload_n hx hb dX12_stage_200 rfl (lv_at hl 0 rfl) ?_
  refine lv_iconst (v := 0) hx hb dX12_stage_201 (by decide) ?_
  obtain ⟨M18, eM18, hf⟩ := sq_e hf
  refine rp_i hC hw 0 (Nat.le_of_ble_eq_true rfl) rfl fd_X12_1 wf_X12_11 fp_X12_1 rfl rfl dX12_stage_202 eM18 (fun H locs hw => ?_)
  refine lv_iconst (v := 0) hx hb dX12_stage_205 (by decide) ?_
  refine lv_istore (lv' := [(6, .int 0), (0, .ref (ad 0)), (1, .int x1), (2, .int x2)]) hx hb dX12_stage_206 hl (by decide) rfl (fun ls hl => ?_)
  exact k_X12_stage_208l hC fu_ _ _ _ _ _ hf hw (lv_sub hl [1, 0] rfl)
set_option maxRecDepth 100000 in
set_option maxHeartbeats 4000000 in
theorem k_X12_stage_72 {p : Program} {l : Launch} {e : Env} {s : State} {m : MethodId} {args : Array Value} {below : List Frame} {meth : Method} {c : Code} {D : va_G} {cy : Nat → ClassId} {z0 : Nat} {ad : Nat → Nat} {X : va_W} {u : Nat × Nat} (hC : cx_C p s m args meth c cX12_stage "RhymedThenModel" (Cond.code yX12_stage cX12_stage 9 (some .int)) 9 (some .int)) {z : (Int32 × mm_M)} {x1 : Int32} {x2 : Int32} {x6 : Int32} {M : mm_M} {q72 : Int32 → Int32 → Int32 → mm_M → Option (Int32 × mm_M)} (hq72 : ∀ (x1 : Int32) (x2 : Int32) (x6 : Int32) (M : mm_M) (H : Heap) (locs : List Loc) (ls : Array Slot), q72 x1 x2 x6 M = some z → wd_in rf_T D cy z0 ad u M X s H locs → lv_has ls 9 [(0, .ref (ad 0)), (1, .int x1), (2, .int x2), (6, .int x6)] → W p l e { frames := 19, cells := 0, slots := 0, locals := 814 } s m args below meth c H locs 0 0 (MQ below (cq_i rf_T D cy z0 ad u X z.1 z.2) args s 0 0 (fun q => z0 ≤ q)) (F0 m 72 ls [])) (hf : f_X12_stage_72 q72 x1 x2 x6 M = some z) {H : Heap} {locs : List Loc} (hw : wd_in rf_T D cy z0 ad u M X s H locs) {ls : Array Slot} (hl : lv_has ls 9 [(0, .ref (ad 0)), (1, .int x1), (2, .int x2), (6, .int x6)]) : W p l e { frames := 19, cells := 0, slots := 0, locals := 814 } s m args below meth c H locs 0 0 (MQ below (cq_i rf_T D cy z0 ad u X z.1 z.2) args s 0 0 (fun q => z0 ≤ q)) (F0 m 72 ls []) := by
  have hx := hC.1
  have hb := hC.2.1
  unfold f_X12_stage_72 at hf
  refine lv_iload hx hb dX12_stage_72 (lv_at hl 3 rfl) ?_
  refine lv_aload_n hx hb dX12_stage_74 rfl (lv_at hl 0 rfl) ?_
  refine rg_i hC hw 0 (Nat.le_of_ble_eq_true rfl) rfl fd_X12_8 wf_X12_75 dX12_stage_75 ?_
  refine lv_icmp_ge (tgt := 188) hx hb dX12_stage_78 (by decide) (fun c14 => ?_) (fun c14 => ?_)
  · rw [if_pos c14] at hf
    exact k_X12_stage_188 hC hf hw (lv_sub hl [0, 1, 2] rfl)
  · rw [if_neg c14] at hf
    refine lv_aload_n hx hb dX12_stage_81 rfl (lv_at hl 0 rfl) ?_
    refine rg_i hC hw 0 (Nat.le_of_ble_eq_true rfl) rfl fd_X12_49 wf_X12_346 dX12_stage_82 ?_
    refine lv_bipush (v := 7) hx hb dX12_stage_85 (by decide) ?_
    refine lv_icmp_ge (tgt := 188) hx hb dX12_stage_87 (by decide) (fun c15 => ?_) (fun c15 => ?_)
    · rw [if_pos c15] at hf
      exact k_X12_stage_188 hC hf hw (lv_sub hl [0, 1, 2] rfl)
    · rw [if_neg c15] at hf
      refine lv_iconst (v := 0) hx hb dX12_stage_90 (by decide) ?_
      refine lv_istore (lv' := [(7, .int 0), (0, .ref (ad 0)), (1, .int x1), (2, .int x2), (6, .int x6)]) hx hb dX12_stage_91 hl (by decide) rfl (fun ls hl => ?_)
      refine lv_iconst (v := 0) hx hb dX12_stage_93 (by decide) ?_
      refine lv_istore (lv' := [(8, .int 0), (7, .int 0), (0, .ref (ad 0)), (1, .int x1), (2, .int x2), (6, .int x6)]) hx hb dX12_stage_94 hl (by decide) rfl (fun ls hl => ?_)
      exact k_X12_stage_96l hC hq72 fu_ _ _ _ _ _ _ _ _ _ hf hw (lv_sub hl [2, 3, 4, 5, 1, 0] rfl)
set_option maxRecDepth 100000 in
set_option maxHeartbeats 4000000 in
theorem k_X12_stage_72l {p : Program} {l : Launch} {e : Env} {s : State} {m : MethodId} {args : Array Value} {below : List Frame} {meth : Method} {c : Code} {D : va_G} {cy : Nat → ClassId} {z0 : Nat} {ad : Nat → Nat} {X : va_W} {u : Nat × Nat} (hC : cx_C p s m args meth c cX12_stage "RhymedThenModel" (Cond.code yX12_stage cX12_stage 9 (some .int)) 9 (some .int)) {z : (Int32 × mm_M)} : ∀ (n : Nat) (x1 : Int32) (x2 : Int32) (x6 : Int32) (M : mm_M) (H : Heap) (locs : List Loc) (ls : Array Slot), f_X12_stage_72l n x1 x2 x6 M = some z → wd_in rf_T D cy z0 ad u M X s H locs → lv_has ls 9 [(0, .ref (ad 0)), (1, .int x1), (2, .int x2), (6, .int x6)] → W p l e { frames := 19, cells := 0, slots := 0, locals := 814 } s m args below meth c H locs 0 0 (MQ below (cq_i rf_T D cy z0 ad u X z.1 z.2) args s 0 0 (fun q => z0 ≤ q)) (F0 m 72 ls []) := by
  intro n
  induction n with
  | zero => intro x1 x2 x6 M H locs ls hf; exact absurd hf (by simp [f_X12_stage_72l])
  | succ n ih => intro x1 x2 x6 M H locs ls hf hw hl; exact k_X12_stage_72 hC ih hf hw hl
set_option maxRecDepth 100000 in
set_option maxHeartbeats 4000000 in
theorem k_X12_stage {p : Program} {l : Launch} {e : Env} {s : State} {m : MethodId} {args : Array Value} {below : List Frame} {meth : Method} {c : Code} {D : va_G} {cy : Nat → ClassId} {z0 : Nat} {ad : Nat → Nat} {X : va_W} {u : Nat × Nat} (hC : cx_C p s m args meth c cX12_stage "RhymedThenModel" (Cond.code yX12_stage cX12_stage 9 (some .int)) 9 (some .int)) {z : (Int32 × mm_M)} {x1 : Int32} {x2 : Int32} {x3 : Int32} {x4 : Int32} {x5 : Int32} {M : mm_M} (hf : f_X12_stage x1 x2 x3 x4 x5 M = some z) {H : Heap} {locs : List Loc} (hw : wd_in rf_T D cy z0 ad u M X s H locs) {ls : Array Slot} (hl : lv_has ls 9 [(0, .ref (ad 0)), (1, .int x1), (2, .int x2), (3, .int x3), (4, .int x4), (5, .int x5)]) : W p l e { frames := 19, cells := 0, slots := 0, locals := 814 } s m args below meth c H locs 0 0 (MQ below (cq_i rf_T D cy z0 ad u X z.1 z.2) args s 0 0 (fun q => z0 ≤ q)) (F0 m 0 ls []) := by
  have hx := hC.1
  have hb := hC.2.1
  unfold f_X12_stage at hf
  refine lv_aload_n hx hb dX12_stage_0 rfl (lv_at hl 0 rfl) ?_
  refine lv_iconst (v := 0) hx hb dX12_stage_1 (by decide) ?_
  obtain ⟨M1, eM1, hf⟩ := sq_e hf
  refine rp_i hC hw 0 (Nat.le_of_ble_eq_true rfl) rfl fd_X12_0 wf_X12_1 fp_X12_0 rfl rfl dX12_stage_2 eM1 (fun H locs hw => ?_)
  refine lv_aload_n hx hb dX12_stage_5 rfl (lv_at hl 0 rfl) ?_
  refine lv_iload_n hx hb dX12_stage_6 rfl (lv_at hl 1 rfl) ?_
  obtain ⟨z2, ez2, hf⟩ := bd_e hf
  refine clc_Vi hC hw (c_X12_isHistory ez2) hd_X12_isHistory cw_X12_194 (Nat.le_of_ble_eq_true rfl) rfl rfl (rest := []) hl.1 rfl (Nat.le_of_ble_eq_true rfl) ⟨Nat.le_of_ble_eq_true rfl, Nat.le_of_ble_eq_true rfl⟩ ⟨Nat.zero_le _, Nat.zero_le _⟩ rfl dX12_stage_7 (fun H locs hw => ?_)
  refine lv_if_eq (tgt := 39) hx hb dX12_stage_10 (by decide) (fun c3 => ?_) (fun c3 => ?_)
  · rw [if_pos c3] at hf
    refine lv_iconst (v := (-1)) hx hb dX12_stage_39 (by decide) ?_
    have hz := Option.some.inj hf
    subst hz
    exact rtc_i hC hw dX12_stage_40
  · rw [if_neg c3] at hf
    refine lv_iload_n hx hb dX12_stage_13 rfl (lv_at hl 3 rfl) ?_
    refine lv_iload_n hx hb dX12_stage_14 rfl (lv_at hl 2 rfl) ?_
    obtain ⟨z4, ez4, hf⟩ := sq_e hf
    refine clc_Si hC hw (c_X12_isThen ez4.symm) hd_X12_isThen cw_X12_197 (rest := []) hl.1 rfl (Nat.le_of_ble_eq_true rfl) ⟨Nat.le_of_ble_eq_true rfl, Nat.le_of_ble_eq_true rfl⟩ ⟨Nat.zero_le _, Nat.zero_le _⟩ rfl dX12_stage_15 (fun H locs hw => ?_)
    refine lv_if_eq (tgt := 39) hx hb dX12_stage_18 (by decide) (fun c5 => ?_) (fun c5 => ?_)
    · rw [if_pos c5] at hf
      refine lv_iconst (v := (-1)) hx hb dX12_stage_39 (by decide) ?_
      have hz := Option.some.inj hf
      subst hz
      exact rtc_i hC hw dX12_stage_40
    · rw [if_neg c5] at hf
      refine lv_iload hx hb dX12_stage_21 (lv_at hl 4 rfl) ?_
      refine lv_iload_n hx hb dX12_stage_23 rfl (lv_at hl 2 rfl) ?_
      obtain ⟨z6, ez6, hf⟩ := sq_e hf
      refine clc_Si hC hw (c_X12_isThen ez6.symm) hd_X12_isThen cw_X12_197 (rest := []) hl.1 rfl (Nat.le_of_ble_eq_true rfl) ⟨Nat.le_of_ble_eq_true rfl, Nat.le_of_ble_eq_true rfl⟩ ⟨Nat.zero_le _, Nat.zero_le _⟩ rfl dX12_stage_24 (fun H locs hw => ?_)
      refine lv_if_eq (tgt := 39) hx hb dX12_stage_27 (by decide) (fun c7 => ?_) (fun c7 => ?_)
      · rw [if_pos c7] at hf
        refine lv_iconst (v := (-1)) hx hb dX12_stage_39 (by decide) ?_
        have hz := Option.some.inj hf
        subst hz
        exact rtc_i hC hw dX12_stage_40
      · rw [if_neg c7] at hf
        refine lv_iload hx hb dX12_stage_30 (lv_at hl 5 rfl) ?_
        refine lv_iload_n hx hb dX12_stage_32 rfl (lv_at hl 2 rfl) ?_
        obtain ⟨z8, ez8, hf⟩ := sq_e hf
        refine clc_Si hC hw (c_X12_isThen ez8.symm) hd_X12_isThen cw_X12_197 (rest := []) hl.1 rfl (Nat.le_of_ble_eq_true rfl) ⟨Nat.le_of_ble_eq_true rfl, Nat.le_of_ble_eq_true rfl⟩ ⟨Nat.zero_le _, Nat.zero_le _⟩ rfl dX12_stage_33 (fun H locs hw => ?_)
        refine lv_if_ne (tgt := 41) hx hb dX12_stage_36 (by decide) (fun c9 => ?_) (fun c9 => ?_)
        · rw [if_neg c9] at hf
          refine lv_aload_n hx hb dX12_stage_41 rfl (lv_at hl 0 rfl) ?_
          refine rg_p hC hw 0 (Nat.le_of_ble_eq_true rfl) rfl fd_X12_48 wf_X12_364 (q := 35) rfl dX12_stage_42 ?_
          refine lv_iconst (v := 0) hx hb dX12_stage_45 (by decide) ?_
          refine lv_iload_n hx hb dX12_stage_46 rfl (lv_at hl 3 rfl) ?_
          obtain ⟨M10, eM10, hf⟩ := sq_e hf
          refine rs_i hC hw 35 (Nat.le_of_ble_eq_true rfl) rfl (by decide) dX12_stage_47 eM10 (fun H locs hw => ?_)
          refine lv_aload_n hx hb dX12_stage_48 rfl (lv_at hl 0 rfl) ?_
          refine rg_p hC hw 0 (Nat.le_of_ble_eq_true rfl) rfl fd_X12_48 wf_X12_364 (q := 35) rfl dX12_stage_49 ?_
          refine lv_iconst (v := 1) hx hb dX12_stage_52 (by decide) ?_
          refine lv_iload hx hb dX12_stage_53 (lv_at hl 4 rfl) ?_
          obtain ⟨M11, eM11, hf⟩ := sq_e hf
          refine rs_i hC hw 35 (Nat.le_of_ble_eq_true rfl) rfl (by decide) dX12_stage_55 eM11 (fun H locs hw => ?_)
          refine lv_aload_n hx hb dX12_stage_56 rfl (lv_at hl 0 rfl) ?_
          refine rg_p hC hw 0 (Nat.le_of_ble_eq_true rfl) rfl fd_X12_48 wf_X12_364 (q := 35) rfl dX12_stage_57 ?_
          refine lv_iconst (v := 2) hx hb dX12_stage_60 (by decide) ?_
          refine lv_iload hx hb dX12_stage_61 (lv_at hl 5 rfl) ?_
          obtain ⟨M12, eM12, hf⟩ := sq_e hf
          refine rs_i hC hw 35 (Nat.le_of_ble_eq_true rfl) rfl (by decide) dX12_stage_63 eM12 (fun H locs hw => ?_)
          refine lv_aload_n hx hb dX12_stage_64 rfl (lv_at hl 0 rfl) ?_
          refine lv_iconst (v := 0) hx hb dX12_stage_65 (by decide) ?_
          obtain ⟨M13, eM13, hf⟩ := sq_e hf
          refine rp_i hC hw 0 (Nat.le_of_ble_eq_true rfl) rfl fd_X12_49 wf_X12_346 fp_X12_49 rfl rfl dX12_stage_66 eM13 (fun H locs hw => ?_)
          refine lv_iconst (v := 0) hx hb dX12_stage_69 (by decide) ?_
          refine lv_istore (lv' := [(6, .int 0), (0, .ref (ad 0)), (1, .int x1), (2, .int x2), (3, .int x3), (4, .int x4), (5, .int x5)]) hx hb dX12_stage_70 hl (by decide) rfl (fun ls hl => ?_)
          exact k_X12_stage_72l hC fu_ _ _ _ _ _ _ _ hf hw (lv_sub hl [1, 2, 3, 0] rfl)
        · rw [if_pos c9] at hf
          refine lv_iconst (v := (-1)) hx hb dX12_stage_39 (by decide) ?_
          have hz := Option.some.inj hf
          subst hz
          exact rtc_i hC hw dX12_stage_40
set_option maxRecDepth 100000 in
theorem c_X12_stage {l : Launch} {D : va_G} {cy : Nat → ClassId} {z0 : Nat} {ad : Nat → Nat} {u : Nat × Nat} {X : va_W} {z : (Int32 × mm_M)} {x1 : Int32} {x2 : Int32} {x3 : Int32} {x4 : Int32} {x5 : Int32} {M : mm_M} (hf : f_X12_stage x1 x2 x3 x4 x5 M = some z) : ct_i rf_T l yX12_stage (Cond.code yX12_stage cX12_stage 9 (some .int)) 19 814 D cy z0 ad u M X [.ref (ad 0), .int x1, .int x2, .int x3, .int x4, .int x5] z.1 z.2 := by
  refine bgc_i (by decide) (fun p e s m below meth c hC hw => ?_)
  refine en_t (Nat.le_of_ble_eq_true rfl) (fun ls hl => ?_)
  have hl : lv_has ls 9 [(0, .ref (ad 0)), (1, .int x1), (2, .int x2), (3, .int x3), (4, .int x4), (5, .int x5)] := hl
  exact k_X12_stage hC hf hw hl
set_option maxRecDepth 100000 in
set_option maxHeartbeats 4000000 in
theorem k_X12_might {p : Program} {l : Launch} {e : Env} {s : State} {m : MethodId} {args : Array Value} {below : List Frame} {meth : Method} {c : Code} {D : va_G} {cy : Nat → ClassId} {z0 : Nat} {ad : Nat → Nat} {X : va_W} {u : Nat × Nat} (hC : cx_C p s m args meth c cX12_might "RhymedThenModel" (Cond.code yX12_might cX12_might 8 (some .int)) 8 (some .int)) {z : (Int32 × mm_M)} {x1 : Int32} {x2 : Int32} {x3 : Int32} {x4 : Int32} {x5 : Int32} {x6 : Int32} {M : mm_M} (hf : f_X12_might x1 x2 x3 x4 x5 x6 M = some z) {H : Heap} {locs : List Loc} (hw : wd_in rf_T D cy z0 ad u M X s H locs) {ls : Array Slot} (hl : lv_has ls 8 [(0, .ref (ad 0)), (1, .int x1), (2, .int x2), (3, .int x3), (4, .int x4), (5, .int x5), (6, .int x6)]) : W p l e { frames := 8, cells := 0, slots := 0, locals := 189 } s m args below meth c H locs 0 0 (MQ below (cq_i rf_T D cy z0 ad u X z.1 z.2) args s 0 0 (fun q => z0 ≤ q)) (F0 m 0 ls []) := by
  have hx := hC.1
  have hb := hC.2.1
  unfold f_X12_might at hf
  refine lv_aload_n hx hb dX12_might_0 rfl (lv_at hl 0 rfl) ?_
  refine lv_iconst (v := 0) hx hb dX12_might_1 (by decide) ?_
  obtain ⟨M1, eM1, hf⟩ := sq_e hf
  refine rp_i hC hw 0 (Nat.le_of_ble_eq_true rfl) rfl fd_X12_0 wf_X12_1 fp_X12_0 rfl rfl dX12_might_2 eM1 (fun H locs hw => ?_)
  refine lv_aload_n hx hb dX12_might_5 rfl (lv_at hl 0 rfl) ?_
  refine lv_iload_n hx hb dX12_might_6 rfl (lv_at hl 1 rfl) ?_
  refine lv_iload_n hx hb dX12_might_7 rfl (lv_at hl 2 rfl) ?_
  refine lv_iload_n hx hb dX12_might_8 rfl (lv_at hl 3 rfl) ?_
  refine lv_iload hx hb dX12_might_9 (lv_at hl 4 rfl) ?_
  refine lv_iload hx hb dX12_might_11 (lv_at hl 5 rfl) ?_
  refine lv_iload hx hb dX12_might_13 (lv_at hl 6 rfl) ?_
  obtain ⟨z2, ez2, hf⟩ := sq_e hf
  refine clc_Vi hC hw (c_X12_isMark ez2.symm) hd_X12_isMark cw_X12_254 (Nat.le_of_ble_eq_true rfl) rfl rfl (rest := []) hl.1 rfl (Nat.le_of_ble_eq_true rfl) ⟨Nat.le_of_ble_eq_true rfl, Nat.le_of_ble_eq_true rfl⟩ ⟨Nat.zero_le _, Nat.zero_le _⟩ rfl dX12_might_15 (fun H locs hw => ?_)
  refine lv_if_ne (tgt := 23) hx hb dX12_might_18 (by decide) (fun c3 => ?_) (fun c3 => ?_)
  · rw [if_neg c3] at hf
    refine lv_aload_n hx hb dX12_might_23 rfl (lv_at hl 0 rfl) ?_
    obtain ⟨z4, ez4, hf⟩ := bd_e hf
    refine clc_Vv hC hw (c_X12_gathers ez4) hd_X12_gathers cw_X12_282 (Nat.le_of_ble_eq_true rfl) rfl rfl (rest := []) hl.1 rfl (Nat.le_of_ble_eq_true rfl) ⟨Nat.le_of_ble_eq_true rfl, Nat.le_of_ble_eq_true rfl⟩ ⟨Nat.zero_le _, Nat.zero_le _⟩ rfl dX12_might_24 (fun H locs hw => ?_)
    refine lv_aload_n hx hb dX12_might_27 rfl (lv_at hl 0 rfl) ?_
    refine lv_bipush (v := 16) hx hb dX12_might_28 (by decide) ?_
    refine lv_iload_n hx hb dX12_might_30 rfl (lv_at hl 1 rfl) ?_
    refine lv_iload_n hx hb dX12_might_31 rfl (lv_at hl 2 rfl) ?_
    refine lv_iload_n hx hb dX12_might_32 rfl (lv_at hl 3 rfl) ?_
    refine lv_iload hx hb dX12_might_33 (lv_at hl 4 rfl) ?_
    refine lv_iload hx hb dX12_might_35 (lv_at hl 5 rfl) ?_
    refine lv_iload hx hb dX12_might_37 (lv_at hl 6 rfl) ?_
    obtain ⟨z5, ez5, hf⟩ := bd_e hf
    refine clc_Vv hC hw (c_X12_lays ez5) hd_X12_lays cw_X12_261 (Nat.le_of_ble_eq_true rfl) rfl rfl (rest := []) hl.1 rfl (Nat.le_of_ble_eq_true rfl) ⟨Nat.le_of_ble_eq_true rfl, Nat.le_of_ble_eq_true rfl⟩ ⟨Nat.zero_le _, Nat.zero_le _⟩ rfl dX12_might_39 (fun H locs hw => ?_)
    refine lv_aload_n hx hb dX12_might_42 rfl (lv_at hl 0 rfl) ?_
    refine lv_bipush (v := 16) hx hb dX12_might_43 (by decide) ?_
    obtain ⟨z6, ez6, hf⟩ := bd_e hf
    refine clc_Vi hC hw (c_X12_heldBy ez6) hd_X12_heldBy cw_X12_334 (Nat.le_of_ble_eq_true rfl) rfl rfl (rest := []) hl.1 rfl (Nat.le_of_ble_eq_true rfl) ⟨Nat.le_of_ble_eq_true rfl, Nat.le_of_ble_eq_true rfl⟩ ⟨Nat.zero_le _, Nat.zero_le _⟩ rfl dX12_might_45 (fun H locs hw => ?_)
    refine lv_istore (lv' := [(7, .int z6.1), (0, .ref (ad 0)), (1, .int x1), (2, .int x2), (3, .int x3), (4, .int x4), (5, .int x5), (6, .int x6)]) hx hb dX12_might_48 hl (by decide) rfl (fun ls hl => ?_)
    refine lv_aload_n hx hb dX12_might_50 rfl (lv_at hl 1 rfl) ?_
    refine lv_iconst (v := 0) hx hb dX12_might_51 (by decide) ?_
    obtain ⟨M7, eM7, hf⟩ := sq_e hf
    refine rp_i hC hw 0 (Nat.le_of_ble_eq_true rfl) rfl fd_X12_1 wf_X12_11 fp_X12_1 rfl rfl dX12_might_52 eM7 (fun H locs hw => ?_)
    refine lv_aload_n hx hb dX12_might_55 rfl (lv_at hl 1 rfl) ?_
    refine lv_iload hx hb dX12_might_56 (lv_at hl 0 rfl) ?_
    refine lv_i2l hx hb dX12_might_58 rfl ?_
    obtain ⟨z8, ez8, hf⟩ := bd_e hf
    refine clc_Vv hC hw (c_X12_enters ez8) hd_X12_enters cw_X12_18 (Nat.le_of_ble_eq_true rfl) rfl rfl (rest := []) hl.1 rfl (Nat.le_of_ble_eq_true rfl) ⟨Nat.le_of_ble_eq_true rfl, Nat.le_of_ble_eq_true rfl⟩ ⟨Nat.zero_le _, Nat.zero_le _⟩ rfl dX12_might_59 (fun H locs hw => ?_)
    refine lv_aload_n hx hb dX12_might_62 rfl (lv_at hl 1 rfl) ?_
    refine lv_aload_n hx hb dX12_might_63 rfl (lv_at hl 1 rfl) ?_
    refine rg_i hC hw 0 (Nat.le_of_ble_eq_true rfl) rfl fd_X12_39 wf_X12_273 dX12_might_64 ?_
    refine lv_iload hx hb dX12_might_67 (lv_at hl 0 rfl) ?_
    refine lv_isub hx hb dX12_might_69 ?_
    refine lv_i2l hx hb dX12_might_70 rfl ?_
    obtain ⟨z9, ez9, hf⟩ := bd_e hf
    refine clc_Vv hC hw (c_X12_enters ez9) hd_X12_enters cw_X12_18 (Nat.le_of_ble_eq_true rfl) rfl rfl (rest := []) hl.1 rfl (Nat.le_of_ble_eq_true rfl) ⟨Nat.le_of_ble_eq_true rfl, Nat.le_of_ble_eq_true rfl⟩ ⟨Nat.zero_le _, Nat.zero_le _⟩ rfl dX12_might_71 (fun H locs hw => ?_)
    refine lv_aload_n hx hb dX12_might_74 rfl (lv_at hl 1 rfl) ?_
    refine rg_i hC hw 0 (Nat.le_of_ble_eq_true rfl) rfl fd_X12_39 wf_X12_273 dX12_might_75 ?_
    have hz := Option.some.inj hf
    subst hz
    exact rtc_i hC hw dX12_might_78
  · rw [if_pos c3] at hf
    refine lv_iconst (v := (-1)) hx hb dX12_might_21 (by decide) ?_
    have hz := Option.some.inj hf
    subst hz
    exact rtc_i hC hw dX12_might_22
set_option maxRecDepth 100000 in
theorem c_X12_might {l : Launch} {D : va_G} {cy : Nat → ClassId} {z0 : Nat} {ad : Nat → Nat} {u : Nat × Nat} {X : va_W} {z : (Int32 × mm_M)} {x1 : Int32} {x2 : Int32} {x3 : Int32} {x4 : Int32} {x5 : Int32} {x6 : Int32} {M : mm_M} (hf : f_X12_might x1 x2 x3 x4 x5 x6 M = some z) : ct_i rf_T l yX12_might (Cond.code yX12_might cX12_might 8 (some .int)) 8 189 D cy z0 ad u M X [.ref (ad 0), .int x1, .int x2, .int x3, .int x4, .int x5, .int x6] z.1 z.2 := by
  refine bgc_i (by decide) (fun p e s m below meth c hC hw => ?_)
  refine en_t (Nat.le_of_ble_eq_true rfl) (fun ls hl => ?_)
  have hl : lv_has ls 8 [(0, .ref (ad 0)), (1, .int x1), (2, .int x2), (3, .int x3), (4, .int x4), (5, .int x5), (6, .int x6)] := hl
  exact k_X12_might hC hf hw hl
set_option maxRecDepth 100000 in
set_option maxHeartbeats 4000000 in
theorem k_X12_look_135 {p : Program} {l : Launch} {e : Env} {s : State} {m : MethodId} {args : Array Value} {below : List Frame} {meth : Method} {c : Code} {D : va_G} {cy : Nat → ClassId} {z0 : Nat} {ad : Nat → Nat} {X : va_W} {u : Nat × Nat} (hC : cx_C p s m args meth c cX12_look "RhymedThenModel" (Cond.code yX12_look cX12_look 9 (some .int)) 9 (some .int)) {z : (Int32 × mm_M)} {x1 : Int32} {x2 : Int32} {x3 : Int32} {x4 : Int32} {x5 : Int32} {x6 : Int32} {x7 : Int32} {M : mm_M} {q63 : Int32 → Int32 → Int32 → Int32 → Int32 → Int32 → Int32 → mm_M → Option (Int32 × mm_M)} (hq63 : ∀ (x1 : Int32) (x2 : Int32) (x3 : Int32) (x4 : Int32) (x5 : Int32) (x6 : Int32) (x7 : Int32) (M : mm_M) (H : Heap) (locs : List Loc) (ls : Array Slot), q63 x1 x2 x3 x4 x5 x6 x7 M = some z → wd_in rf_T D cy z0 ad u M X s H locs → lv_has ls 9 [(0, .ref (ad 0)), (1, .int x1), (2, .int x2), (3, .int x3), (4, .int x4), (5, .int x5), (6, .int x6), (7, .int x7)] → W p l e { frames := 8, cells := 0, slots := 0, locals := 189 } s m args below meth c H locs 0 0 (MQ below (cq_i rf_T D cy z0 ad u X z.1 z.2) args s 0 0 (fun q => z0 ≤ q)) (F0 m 63 ls [])) (hf : f_X12_look_135 q63 x1 x2 x3 x4 x5 x6 x7 M = some z) {H : Heap} {locs : List Loc} (hw : wd_in rf_T D cy z0 ad u M X s H locs) {ls : Array Slot} (hl : lv_has ls 9 [(0, .ref (ad 0)), (1, .int x1), (2, .int x2), (3, .int x3), (4, .int x4), (5, .int x5), (6, .int x6), (7, .int x7)]) : W p l e { frames := 8, cells := 0, slots := 0, locals := 189 } s m args below meth c H locs 0 0 (MQ below (cq_i rf_T D cy z0 ad u X z.1 z.2) args s 0 0 (fun q => z0 ≤ q)) (F0 m 135 ls []) := by
  have hx := hC.1
  have hb := hC.2.1
  unfold f_X12_look_135 at hf
  obtain ⟨y18, ey18, hf⟩ := sq_e hf
  refine lv_iinc (v := y18) (lv' := [(7, .int y18), (0, .ref (ad 0)), (1, .int x1), (2, .int x2), (3, .int x3), (4, .int x4), (5, .int x5), (6, .int x6)]) hx hb dX12_look_135 hl (k := 7) rfl (by rw [ey18]; rfl) (by decide) rfl (fun ls hl => ?_)
  refine lv_goto (tgt := 63) hx hb dX12_look_138 (by decide) ?_
  exact hq63 _ _ _ _ _ _ _ _ _ _ _ hf hw (lv_sub hl [1, 2, 3, 4, 5, 6, 7, 0] rfl)
set_option maxRecDepth 100000 in
set_option maxHeartbeats 4000000 in
theorem k_X12_look_124 {p : Program} {l : Launch} {e : Env} {s : State} {m : MethodId} {args : Array Value} {below : List Frame} {meth : Method} {c : Code} {D : va_G} {cy : Nat → ClassId} {z0 : Nat} {ad : Nat → Nat} {X : va_W} {u : Nat × Nat} (hC : cx_C p s m args meth c cX12_look "RhymedThenModel" (Cond.code yX12_look cX12_look 9 (some .int)) 9 (some .int)) {z : (Int32 × mm_M)} {x1 : Int32} {x2 : Int32} {x6 : Int32} {x7 : Int32} {x8 : Int32} {M : mm_M} {q63 : Int32 → Int32 → Int32 → Int32 → Int32 → Int32 → Int32 → mm_M → Option (Int32 × mm_M)} (hq63 : ∀ (x1 : Int32) (x2 : Int32) (x3 : Int32) (x4 : Int32) (x5 : Int32) (x6 : Int32) (x7 : Int32) (M : mm_M) (H : Heap) (locs : List Loc) (ls : Array Slot), q63 x1 x2 x3 x4 x5 x6 x7 M = some z → wd_in rf_T D cy z0 ad u M X s H locs → lv_has ls 9 [(0, .ref (ad 0)), (1, .int x1), (2, .int x2), (3, .int x3), (4, .int x4), (5, .int x5), (6, .int x6), (7, .int x7)] → W p l e { frames := 8, cells := 0, slots := 0, locals := 189 } s m args below meth c H locs 0 0 (MQ below (cq_i rf_T D cy z0 ad u X z.1 z.2) args s 0 0 (fun q => z0 ≤ q)) (F0 m 63 ls [])) (hf : f_X12_look_124 q63 x1 x2 x6 x7 x8 M = some z) {H : Heap} {locs : List Loc} (hw : wd_in rf_T D cy z0 ad u M X s H locs) {ls : Array Slot} (hl : lv_has ls 9 [(0, .ref (ad 0)), (1, .int x1), (2, .int x2), (6, .int x6), (7, .int x7), (8, .int x8)]) : W p l e { frames := 8, cells := 0, slots := 0, locals := 189 } s m args below meth c H locs 0 0 (MQ below (cq_i rf_T D cy z0 ad u X z.1 z.2) args s 0 0 (fun q => z0 ≤ q)) (F0 m 124 ls []) := by
  have hx := hC.1
  have hb := hC.2.1
  unfold f_X12_look_124 at hf
  refine lv_iload hx hb dX12_look_124 (lv_at hl 5 rfl) ?_
  refine lv_istore_n (lv' := [(3, .int x8), (0, .ref (ad 0)), (1, .int x1), (2, .int x2), (6, .int x6), (7, .int x7), (8, .int x8)]) hx hb dX12_look_126 rfl hl (by decide) rfl (fun ls hl => ?_)
  refine lv_iload hx hb dX12_look_127 (lv_at hl 4 rfl) ?_
  refine lv_istore (lv' := [(4, .int x6), (3, .int x8), (0, .ref (ad 0)), (1, .int x1), (2, .int x2), (6, .int x6), (7, .int x7), (8, .int x8)]) hx hb dX12_look_129 hl (by decide) rfl (fun ls hl => ?_)
  refine lv_iload hx hb dX12_look_131 (lv_at hl 6 rfl) ?_
  refine lv_istore (lv' := [(5, .int x7), (4, .int x6), (3, .int x8), (0, .ref (ad 0)), (1, .int x1), (2, .int x2), (6, .int x6), (7, .int x7), (8, .int x8)]) hx hb dX12_look_133 hl (by decide) rfl (fun ls hl => ?_)
  exact k_X12_look_135 hC hq63 hf hw (lv_sub hl [3, 4, 5, 2, 1, 0, 6, 7] rfl)
set_option maxRecDepth 100000 in
set_option maxHeartbeats 4000000 in
theorem k_X12_look_141 {p : Program} {l : Launch} {e : Env} {s : State} {m : MethodId} {args : Array Value} {below : List Frame} {meth : Method} {c : Code} {D : va_G} {cy : Nat → ClassId} {z0 : Nat} {ad : Nat → Nat} {X : va_W} {u : Nat × Nat} (hC : cx_C p s m args meth c cX12_look "RhymedThenModel" (Cond.code yX12_look cX12_look 9 (some .int)) 9 (some .int)) {z : (Int32 × mm_M)} {x1 : Int32} {x2 : Int32} {x3 : Int32} {x4 : Int32} {x5 : Int32} {x6 : Int32} {M : mm_M} {q48 : Int32 → Int32 → Int32 → Int32 → Int32 → Int32 → mm_M → Option (Int32 × mm_M)} (hq48 : ∀ (x1 : Int32) (x2 : Int32) (x3 : Int32) (x4 : Int32) (x5 : Int32) (x6 : Int32) (M : mm_M) (H : Heap) (locs : List Loc) (ls : Array Slot), q48 x1 x2 x3 x4 x5 x6 M = some z → wd_in rf_T D cy z0 ad u M X s H locs → lv_has ls 9 [(0, .ref (ad 0)), (1, .int x1), (2, .int x2), (3, .int x3), (4, .int x4), (5, .int x5), (6, .int x6)] → W p l e { frames := 8, cells := 0, slots := 0, locals := 189 } s m args below meth c H locs 0 0 (MQ below (cq_i rf_T D cy z0 ad u X z.1 z.2) args s 0 0 (fun q => z0 ≤ q)) (F0 m 48 ls [])) (hf : f_X12_look_141 q48 x1 x2 x3 x4 x5 x6 M = some z) {H : Heap} {locs : List Loc} (hw : wd_in rf_T D cy z0 ad u M X s H locs) {ls : Array Slot} (hl : lv_has ls 9 [(0, .ref (ad 0)), (1, .int x1), (2, .int x2), (3, .int x3), (4, .int x4), (5, .int x5), (6, .int x6)]) : W p l e { frames := 8, cells := 0, slots := 0, locals := 189 } s m args below meth c H locs 0 0 (MQ below (cq_i rf_T D cy z0 ad u X z.1 z.2) args s 0 0 (fun q => z0 ≤ q)) (F0 m 141 ls []) := by
  have hx := hC.1
  have hb := hC.2.1
  unfold f_X12_look_141 at hf
  obtain ⟨y17, ey17, hf⟩ := sq_e hf
  refine lv_iinc (v := y17) (lv' := [(6, .int y17), (0, .ref (ad 0)), (1, .int x1), (2, .int x2), (3, .int x3), (4, .int x4), (5, .int x5)]) hx hb dX12_look_141 hl (k := 6) rfl (by rw [ey17]; rfl) (by decide) rfl (fun ls hl => ?_)
  refine lv_goto (tgt := 48) hx hb dX12_look_144 (by decide) ?_
  exact hq48 _ _ _ _ _ _ _ _ _ _ hf hw (lv_sub hl [1, 2, 3, 4, 5, 6, 0] rfl)
set_option maxRecDepth 100000 in
set_option maxHeartbeats 4000000 in
theorem k_X12_look_63 {p : Program} {l : Launch} {e : Env} {s : State} {m : MethodId} {args : Array Value} {below : List Frame} {meth : Method} {c : Code} {D : va_G} {cy : Nat → ClassId} {z0 : Nat} {ad : Nat → Nat} {X : va_W} {u : Nat × Nat} (hC : cx_C p s m args meth c cX12_look "RhymedThenModel" (Cond.code yX12_look cX12_look 9 (some .int)) 9 (some .int)) {z : (Int32 × mm_M)} {x1 : Int32} {x2 : Int32} {x3 : Int32} {x4 : Int32} {x5 : Int32} {x6 : Int32} {x7 : Int32} {M : mm_M} {q48 : Int32 → Int32 → Int32 → Int32 → Int32 → Int32 → mm_M → Option (Int32 × mm_M)} (hq48 : ∀ (x1 : Int32) (x2 : Int32) (x3 : Int32) (x4 : Int32) (x5 : Int32) (x6 : Int32) (M : mm_M) (H : Heap) (locs : List Loc) (ls : Array Slot), q48 x1 x2 x3 x4 x5 x6 M = some z → wd_in rf_T D cy z0 ad u M X s H locs → lv_has ls 9 [(0, .ref (ad 0)), (1, .int x1), (2, .int x2), (3, .int x3), (4, .int x4), (5, .int x5), (6, .int x6)] → W p l e { frames := 8, cells := 0, slots := 0, locals := 189 } s m args below meth c H locs 0 0 (MQ below (cq_i rf_T D cy z0 ad u X z.1 z.2) args s 0 0 (fun q => z0 ≤ q)) (F0 m 48 ls [])) {q63 : Int32 → Int32 → Int32 → Int32 → Int32 → Int32 → Int32 → mm_M → Option (Int32 × mm_M)} (hq63 : ∀ (x1 : Int32) (x2 : Int32) (x3 : Int32) (x4 : Int32) (x5 : Int32) (x6 : Int32) (x7 : Int32) (M : mm_M) (H : Heap) (locs : List Loc) (ls : Array Slot), q63 x1 x2 x3 x4 x5 x6 x7 M = some z → wd_in rf_T D cy z0 ad u M X s H locs → lv_has ls 9 [(0, .ref (ad 0)), (1, .int x1), (2, .int x2), (3, .int x3), (4, .int x4), (5, .int x5), (6, .int x6), (7, .int x7)] → W p l e { frames := 8, cells := 0, slots := 0, locals := 189 } s m args below meth c H locs 0 0 (MQ below (cq_i rf_T D cy z0 ad u X z.1 z.2) args s 0 0 (fun q => z0 ≤ q)) (F0 m 63 ls [])) (hf : f_X12_look_63 q48 q63 x1 x2 x3 x4 x5 x6 x7 M = some z) {H : Heap} {locs : List Loc} (hw : wd_in rf_T D cy z0 ad u M X s H locs) {ls : Array Slot} (hl : lv_has ls 9 [(0, .ref (ad 0)), (1, .int x1), (2, .int x2), (3, .int x3), (4, .int x4), (5, .int x5), (6, .int x6), (7, .int x7)]) : W p l e { frames := 8, cells := 0, slots := 0, locals := 189 } s m args below meth c H locs 0 0 (MQ below (cq_i rf_T D cy z0 ad u X z.1 z.2) args s 0 0 (fun q => z0 ≤ q)) (F0 m 63 ls []) := by
  have hx := hC.1
  have hb := hC.2.1
  unfold f_X12_look_63 at hf
  refine lv_iload hx hb dX12_look_63 (lv_at hl 7 rfl) ?_
  refine lv_aload_n hx hb dX12_look_65 rfl (lv_at hl 0 rfl) ?_
  refine rg_i hC hw 0 (Nat.le_of_ble_eq_true rfl) rfl fd_X12_8 wf_X12_75 dX12_look_66 ?_
  refine lv_icmp_ge (tgt := 141) hx hb dX12_look_69 (by decide) (fun c12 => ?_) (fun c12 => ?_)
  · rw [if_pos c12] at hf
    exact k_X12_look_141 hC hq48 hf hw (lv_sub hl [0, 1, 2, 3, 4, 5, 6] rfl)
  · rw [if_neg c12] at hf
    refine lv_aload_n hx hb dX12_look_72 rfl (lv_at hl 0 rfl) ?_
    refine lv_bipush (v := 16) hx hb dX12_look_73 (by decide) ?_
    refine lv_iconst (v := 0) hx hb dX12_look_75 (by decide) ?_
    refine lv_iload hx hb dX12_look_76 (lv_at hl 6 rfl) ?_
    refine lv_iload hx hb dX12_look_78 (lv_at hl 7 rfl) ?_
    refine lv_iload_n hx hb dX12_look_80 rfl (lv_at hl 1 rfl) ?_
    refine lv_iload_n hx hb dX12_look_81 rfl (lv_at hl 2 rfl) ?_
    refine lv_iconst (v := 0) hx hb dX12_look_82 (by decide) ?_
    obtain ⟨z13, ez13, hf⟩ := bd_e hf
    refine clc_Vv hC hw (c_X12_lays ez13) hd_X12_lays cw_X12_261 (Nat.le_of_ble_eq_true rfl) rfl rfl (rest := []) hl.1 rfl (Nat.le_of_ble_eq_true rfl) ⟨Nat.le_of_ble_eq_true rfl, Nat.le_of_ble_eq_true rfl⟩ ⟨Nat.zero_le _, Nat.zero_le _⟩ rfl dX12_look_83 (fun H locs hw => ?_)
    refine lv_aload_n hx hb dX12_look_86 rfl (lv_at hl 0 rfl) ?_
    refine lv_bipush (v := 16) hx hb dX12_look_87 (by decide) ?_
    obtain ⟨z14, ez14, hf⟩ := bd_e hf
    refine clc_Vi hC hw (c_X12_heldBy ez14) hd_X12_heldBy cw_X12_334 (Nat.le_of_ble_eq_true rfl) rfl rfl (rest := []) hl.1 rfl (Nat.le_of_ble_eq_true rfl) ⟨Nat.le_of_ble_eq_true rfl, Nat.le_of_ble_eq_true rfl⟩ ⟨Nat.zero_le _, Nat.zero_le _⟩ rfl dX12_look_89 (fun H locs hw => ?_)
    refine lv_istore (lv' := [(8, .int z14.1), (0, .ref (ad 0)), (1, .int x1), (2, .int x2), (3, .int x3), (4, .int x4), (5, .int x5), (6, .int x6), (7, .int x7)]) hx hb dX12_look_92 hl (by decide) rfl (fun ls hl => ?_)
    refine lv_iload_n hx hb dX12_look_94 rfl (lv_at hl 4 rfl) ?_
    refine lv_if_lt (tgt := 124) hx hb dX12_look_95 (by decide) (fun c15 => ?_) (fun c15 => ?_)
    · rw [if_pos c15] at hf
      exact k_X12_look_124 hC hq63 hf hw (lv_sub hl [1, 2, 3, 7, 8, 0] rfl)
    · rw [if_neg c15] at hf
      refine lv_iconst (v := 2) hx hb dX12_look_98 (by decide) ?_
      refine lv_iload hx hb dX12_look_99 (lv_at hl 0 rfl) ?_
      refine lv_imul hx hb dX12_look_101 ?_
      refine lv_aload_n hx hb dX12_look_102 rfl (lv_at hl 1 rfl) ?_
      refine rg_i hC hw 0 (Nat.le_of_ble_eq_true rfl) rfl fd_X12_39 wf_X12_273 dX12_look_103 ?_
      refine lv_isub hx hb dX12_look_106 ?_
      refine mx_abs hC (rest := []) wm_X12_337 hl.1 ⟨Nat.le_of_ble_eq_true rfl, Nat.le_of_ble_eq_true rfl⟩ ⟨Nat.zero_le _, Nat.zero_le _⟩ dX12_look_107 ?_
      refine lv_iconst (v := 2) hx hb dX12_look_110 (by decide) ?_
      refine lv_iload_n hx hb dX12_look_111 rfl (lv_at hl 4 rfl) ?_
      refine lv_imul hx hb dX12_look_112 ?_
      refine lv_aload_n hx hb dX12_look_113 rfl (lv_at hl 1 rfl) ?_
      refine rg_i hC hw 0 (Nat.le_of_ble_eq_true rfl) rfl fd_X12_39 wf_X12_273 dX12_look_114 ?_
      refine lv_isub hx hb dX12_look_117 ?_
      refine mx_abs hC (rest := [.int (if 0 ≤ ((2 * z14.1) - (z14.2.1 0 39)) then ((2 * z14.1) - (z14.2.1 0 39)) else 0 - ((2 * z14.1) - (z14.2.1 0 39)))]) wm_X12_337 hl.1 ⟨Nat.le_of_ble_eq_true rfl, Nat.le_of_ble_eq_true rfl⟩ ⟨Nat.zero_le _, Nat.zero_le _⟩ dX12_look_118 ?_
      refine lv_icmp_ge (tgt := 135) hx hb dX12_look_121 (by decide) (fun c16 => ?_) (fun c16 => ?_)
      · rw [if_pos c16] at hf
        exact k_X12_look_135 hC hq63 hf hw (lv_sub hl [1, 2, 3, 4, 5, 6, 7, 8] rfl)
      · rw [if_neg c16] at hf
        exact k_X12_look_124 hC hq63 hf hw (lv_sub hl [1, 2, 3, 7, 8, 0] rfl)
set_option maxRecDepth 100000 in
set_option maxHeartbeats 4000000 in
theorem k_X12_look_63l {p : Program} {l : Launch} {e : Env} {s : State} {m : MethodId} {args : Array Value} {below : List Frame} {meth : Method} {c : Code} {D : va_G} {cy : Nat → ClassId} {z0 : Nat} {ad : Nat → Nat} {X : va_W} {u : Nat × Nat} (hC : cx_C p s m args meth c cX12_look "RhymedThenModel" (Cond.code yX12_look cX12_look 9 (some .int)) 9 (some .int)) {z : (Int32 × mm_M)} {q48 : Int32 → Int32 → Int32 → Int32 → Int32 → Int32 → mm_M → Option (Int32 × mm_M)} (hq48 : ∀ (x1 : Int32) (x2 : Int32) (x3 : Int32) (x4 : Int32) (x5 : Int32) (x6 : Int32) (M : mm_M) (H : Heap) (locs : List Loc) (ls : Array Slot), q48 x1 x2 x3 x4 x5 x6 M = some z → wd_in rf_T D cy z0 ad u M X s H locs → lv_has ls 9 [(0, .ref (ad 0)), (1, .int x1), (2, .int x2), (3, .int x3), (4, .int x4), (5, .int x5), (6, .int x6)] → W p l e { frames := 8, cells := 0, slots := 0, locals := 189 } s m args below meth c H locs 0 0 (MQ below (cq_i rf_T D cy z0 ad u X z.1 z.2) args s 0 0 (fun q => z0 ≤ q)) (F0 m 48 ls [])) : ∀ (n : Nat) (x1 : Int32) (x2 : Int32) (x3 : Int32) (x4 : Int32) (x5 : Int32) (x6 : Int32) (x7 : Int32) (M : mm_M) (H : Heap) (locs : List Loc) (ls : Array Slot), f_X12_look_63l q48 n x1 x2 x3 x4 x5 x6 x7 M = some z → wd_in rf_T D cy z0 ad u M X s H locs → lv_has ls 9 [(0, .ref (ad 0)), (1, .int x1), (2, .int x2), (3, .int x3), (4, .int x4), (5, .int x5), (6, .int x6), (7, .int x7)] → W p l e { frames := 8, cells := 0, slots := 0, locals := 189 } s m args below meth c H locs 0 0 (MQ below (cq_i rf_T D cy z0 ad u X z.1 z.2) args s 0 0 (fun q => z0 ≤ q)) (F0 m 63 ls []) := by
  intro n
  induction n with
  | zero => intro x1 x2 x3 x4 x5 x6 x7 M H locs ls hf; exact absurd hf (by simp [f_X12_look_63l])
  | succ n ih => intro x1 x2 x3 x4 x5 x6 x7 M H locs ls hf hw hl; exact k_X12_look_63 hC hq48 ih hf hw hl
set_option maxRecDepth 100000 in
set_option maxHeartbeats 4000000 in
theorem k_X12_look_147 {p : Program} {l : Launch} {e : Env} {s : State} {m : MethodId} {args : Array Value} {below : List Frame} {meth : Method} {c : Code} {D : va_G} {cy : Nat → ClassId} {z0 : Nat} {ad : Nat → Nat} {X : va_W} {u : Nat × Nat} (hC : cx_C p s m args meth c cX12_look "RhymedThenModel" (Cond.code yX12_look cX12_look 9 (some .int)) 9 (some .int)) {z : (Int32 × mm_M)} {x3 : Int32} {x4 : Int32} {x5 : Int32} {M : mm_M} (hf : f_X12_look_147 x3 x4 x5 M = some z) {H : Heap} {locs : List Loc} (hw : wd_in rf_T D cy z0 ad u M X s H locs) {ls : Array Slot} (hl : lv_has ls 9 [(0, .ref (ad 0)), (3, .int x3), (4, .int x4), (5, .int x5)]) : W p l e { frames := 8, cells := 0, slots := 0, locals := 189 } s m args below meth c H locs 0 0 (MQ below (cq_i rf_T D cy z0 ad u X z.1 z.2) args s 0 0 (fun q => z0 ≤ q)) (F0 m 147 ls []) := by
  have hx := hC.1
  have hb := hC.2.1
  unfold f_X12_look_147 at hf
  refine lv_aload_n hx hb dX12_look_147 rfl (lv_at hl 0 rfl) ?_
  refine lv_iconst (v := 0) hx hb dX12_look_148 (by decide) ?_
  obtain ⟨M9, eM9, hf⟩ := sq_e hf
  refine rp_i hC hw 0 (Nat.le_of_ble_eq_true rfl) rfl fd_X12_1 wf_X12_11 fp_X12_1 rfl rfl dX12_look_149 eM9 (fun H locs hw => ?_)
  refine lv_aload_n hx hb dX12_look_152 rfl (lv_at hl 0 rfl) ?_
  refine lv_iload hx hb dX12_look_153 (lv_at hl 2 rfl) ?_
  refine lv_i2l hx hb dX12_look_155 rfl ?_
  obtain ⟨z10, ez10, hf⟩ := bd_e hf
  refine clc_Vv hC hw (c_X12_enters ez10) hd_X12_enters cw_X12_18 (Nat.le_of_ble_eq_true rfl) rfl rfl (rest := []) hl.1 rfl (Nat.le_of_ble_eq_true rfl) ⟨Nat.le_of_ble_eq_true rfl, Nat.le_of_ble_eq_true rfl⟩ ⟨Nat.zero_le _, Nat.zero_le _⟩ rfl dX12_look_156 (fun H locs hw => ?_)
  refine lv_aload_n hx hb dX12_look_159 rfl (lv_at hl 0 rfl) ?_
  refine lv_iload hx hb dX12_look_160 (lv_at hl 3 rfl) ?_
  refine lv_i2l hx hb dX12_look_162 rfl ?_
  obtain ⟨z11, ez11, hf⟩ := bd_e hf
  refine clc_Vv hC hw (c_X12_enters ez11) hd_X12_enters cw_X12_18 (Nat.le_of_ble_eq_true rfl) rfl rfl (rest := []) hl.1 rfl (Nat.le_of_ble_eq_true rfl) ⟨Nat.le_of_ble_eq_true rfl, Nat.le_of_ble_eq_true rfl⟩ ⟨Nat.zero_le _, Nat.zero_le _⟩ rfl dX12_look_163 (fun H locs hw => ?_)
  refine lv_iload_n hx hb dX12_look_166 rfl (lv_at hl 1 rfl) ?_
  have hz := Option.some.inj hf
  subst hz
  exact rtc_i hC hw dX12_look_167
set_option maxRecDepth 100000 in
set_option maxHeartbeats 4000000 in
theorem k_X12_look_48 {p : Program} {l : Launch} {e : Env} {s : State} {m : MethodId} {args : Array Value} {below : List Frame} {meth : Method} {c : Code} {D : va_G} {cy : Nat → ClassId} {z0 : Nat} {ad : Nat → Nat} {X : va_W} {u : Nat × Nat} (hC : cx_C p s m args meth c cX12_look "RhymedThenModel" (Cond.code yX12_look cX12_look 9 (some .int)) 9 (some .int)) {z : (Int32 × mm_M)} {x1 : Int32} {x2 : Int32} {x3 : Int32} {x4 : Int32} {x5 : Int32} {x6 : Int32} {M : mm_M} {q48 : Int32 → Int32 → Int32 → Int32 → Int32 → Int32 → mm_M → Option (Int32 × mm_M)} (hq48 : ∀ (x1 : Int32) (x2 : Int32) (x3 : Int32) (x4 : Int32) (x5 : Int32) (x6 : Int32) (M : mm_M) (H : Heap) (locs : List Loc) (ls : Array Slot), q48 x1 x2 x3 x4 x5 x6 M = some z → wd_in rf_T D cy z0 ad u M X s H locs → lv_has ls 9 [(0, .ref (ad 0)), (1, .int x1), (2, .int x2), (3, .int x3), (4, .int x4), (5, .int x5), (6, .int x6)] → W p l e { frames := 8, cells := 0, slots := 0, locals := 189 } s m args below meth c H locs 0 0 (MQ below (cq_i rf_T D cy z0 ad u X z.1 z.2) args s 0 0 (fun q => z0 ≤ q)) (F0 m 48 ls [])) (hf : f_X12_look_48 q48 x1 x2 x3 x4 x5 x6 M = some z) {H : Heap} {locs : List Loc} (hw : wd_in rf_T D cy z0 ad u M X s H locs) {ls : Array Slot} (hl : lv_has ls 9 [(0, .ref (ad 0)), (1, .int x1), (2, .int x2), (3, .int x3), (4, .int x4), (5, .int x5), (6, .int x6)]) : W p l e { frames := 8, cells := 0, slots := 0, locals := 189 } s m args below meth c H locs 0 0 (MQ below (cq_i rf_T D cy z0 ad u X z.1 z.2) args s 0 0 (fun q => z0 ≤ q)) (F0 m 48 ls []) := by
  have hx := hC.1
  have hb := hC.2.1
  unfold f_X12_look_48 at hf
  refine lv_iload hx hb dX12_look_48 (lv_at hl 6 rfl) ?_
  refine lv_aload_n hx hb dX12_look_50 rfl (lv_at hl 0 rfl) ?_
  refine rg_i hC hw 0 (Nat.le_of_ble_eq_true rfl) rfl fd_X12_8 wf_X12_75 dX12_look_51 ?_
  refine lv_icmp_ge (tgt := 147) hx hb dX12_look_54 (by decide) (fun c7 => ?_) (fun c7 => ?_)
  · rw [if_pos c7] at hf
    exact k_X12_look_147 hC hf hw (lv_sub hl [0, 3, 4, 5] rfl)
  · rw [if_neg c7] at hf
    refine lv_iload hx hb dX12_look_57 (lv_at hl 6 rfl) ?_
    refine lv_iconst (v := 1) hx hb dX12_look_59 (by decide) ?_
    refine lv_iadd hx hb dX12_look_60 ?_
    obtain ⟨y8, ey8, hf⟩ := sq_e hf
    refine lt_i ey8 ?_
    refine lv_istore (lv' := [(7, .int y8), (0, .ref (ad 0)), (1, .int x1), (2, .int x2), (3, .int x3), (4, .int x4), (5, .int x5), (6, .int x6)]) hx hb dX12_look_61 hl (by decide) rfl (fun ls hl => ?_)
    exact k_X12_look_63l hC hq48 fu_ _ _ _ _ _ _ _ _ _ _ _ hf hw (lv_sub hl [1, 2, 3, 4, 5, 6, 7, 0] rfl)
set_option maxRecDepth 100000 in
set_option maxHeartbeats 4000000 in
theorem k_X12_look_48l {p : Program} {l : Launch} {e : Env} {s : State} {m : MethodId} {args : Array Value} {below : List Frame} {meth : Method} {c : Code} {D : va_G} {cy : Nat → ClassId} {z0 : Nat} {ad : Nat → Nat} {X : va_W} {u : Nat × Nat} (hC : cx_C p s m args meth c cX12_look "RhymedThenModel" (Cond.code yX12_look cX12_look 9 (some .int)) 9 (some .int)) {z : (Int32 × mm_M)} : ∀ (n : Nat) (x1 : Int32) (x2 : Int32) (x3 : Int32) (x4 : Int32) (x5 : Int32) (x6 : Int32) (M : mm_M) (H : Heap) (locs : List Loc) (ls : Array Slot), f_X12_look_48l n x1 x2 x3 x4 x5 x6 M = some z → wd_in rf_T D cy z0 ad u M X s H locs → lv_has ls 9 [(0, .ref (ad 0)), (1, .int x1), (2, .int x2), (3, .int x3), (4, .int x4), (5, .int x5), (6, .int x6)] → W p l e { frames := 8, cells := 0, slots := 0, locals := 189 } s m args below meth c H locs 0 0 (MQ below (cq_i rf_T D cy z0 ad u X z.1 z.2) args s 0 0 (fun q => z0 ≤ q)) (F0 m 48 ls []) := by
  intro n
  induction n with
  | zero => intro x1 x2 x3 x4 x5 x6 M H locs ls hf; exact absurd hf (by simp [f_X12_look_48l])
  | succ n ih => intro x1 x2 x3 x4 x5 x6 M H locs ls hf hw hl; exact k_X12_look_48 hC ih hf hw hl
set_option maxRecDepth 100000 in
set_option maxHeartbeats 4000000 in
theorem k_X12_look {p : Program} {l : Launch} {e : Env} {s : State} {m : MethodId} {args : Array Value} {below : List Frame} {meth : Method} {c : Code} {D : va_G} {cy : Nat → ClassId} {z0 : Nat} {ad : Nat → Nat} {X : va_W} {u : Nat × Nat} (hC : cx_C p s m args meth c cX12_look "RhymedThenModel" (Cond.code yX12_look cX12_look 9 (some .int)) 9 (some .int)) {z : (Int32 × mm_M)} {x1 : Int32} {x2 : Int32} {M : mm_M} (hf : f_X12_look x1 x2 M = some z) {H : Heap} {locs : List Loc} (hw : wd_in rf_T D cy z0 ad u M X s H locs) {ls : Array Slot} (hl : lv_has ls 9 [(0, .ref (ad 0)), (1, .int x1), (2, .int x2)]) : W p l e { frames := 8, cells := 0, slots := 0, locals := 189 } s m args below meth c H locs 0 0 (MQ below (cq_i rf_T D cy z0 ad u X z.1 z.2) args s 0 0 (fun q => z0 ≤ q)) (F0 m 0 ls []) := by
  have hx := hC.1
  have hb := hC.2.1
  unfold f_X12_look at hf
  refine lv_aload_n hx hb dX12_look_0 rfl (lv_at hl 0 rfl) ?_
  refine lv_iconst (v := 0) hx hb dX12_look_1 (by decide) ?_
  obtain ⟨M1, eM1, hf⟩ := sq_e hf
  refine rp_i hC hw 0 (Nat.le_of_ble_eq_true rfl) rfl fd_X12_0 wf_X12_1 fp_X12_0 rfl rfl dX12_look_2 eM1 (fun H locs hw => ?_)
  refine lv_iload_n hx hb dX12_look_5 rfl (lv_at hl 1 rfl) ?_
  refine lv_iload_n hx hb dX12_look_6 rfl (lv_at hl 2 rfl) ?_
  obtain ⟨z2, ez2, hf⟩ := sq_e hf
  refine clc_Si hC hw (c_X12_isThen ez2.symm) hd_X12_isThen cw_X12_197 (rest := []) hl.1 rfl (Nat.le_of_ble_eq_true rfl) ⟨Nat.le_of_ble_eq_true rfl, Nat.le_of_ble_eq_true rfl⟩ ⟨Nat.zero_le _, Nat.zero_le _⟩ rfl dX12_look_7 (fun H locs hw => ?_)
  refine lv_if_eq (tgt := 21) hx hb dX12_look_10 (by decide) (fun c3 => ?_) (fun c3 => ?_)
  · rw [if_pos c3] at hf
    refine lv_iconst (v := (-1)) hx hb dX12_look_21 (by decide) ?_
    have hz := Option.some.inj hf
    subst hz
    exact rtc_i hC hw dX12_look_22
  · rw [if_neg c3] at hf
    refine lv_aload_n hx hb dX12_look_13 rfl (lv_at hl 0 rfl) ?_
    refine rg_i hC hw 0 (Nat.le_of_ble_eq_true rfl) rfl fd_X12_8 wf_X12_75 dX12_look_14 ?_
    refine lv_iconst (v := 2) hx hb dX12_look_17 (by decide) ?_
    refine lv_icmp_ge (tgt := 23) hx hb dX12_look_18 (by decide) (fun c4 => ?_) (fun c4 => ?_)
    · rw [if_pos c4] at hf
      refine lv_aload_n hx hb dX12_look_23 rfl (lv_at hl 0 rfl) ?_
      obtain ⟨z5, ez5, hf⟩ := bd_e hf
      refine clc_Vv hC hw (c_X12_gathers ez5) hd_X12_gathers cw_X12_282 (Nat.le_of_ble_eq_true rfl) rfl rfl (rest := []) hl.1 rfl (Nat.le_of_ble_eq_true rfl) ⟨Nat.le_of_ble_eq_true rfl, Nat.le_of_ble_eq_true rfl⟩ ⟨Nat.zero_le _, Nat.zero_le _⟩ rfl dX12_look_24 (fun H locs hw => ?_)
      refine lv_aload_n hx hb dX12_look_27 rfl (lv_at hl 0 rfl) ?_
      refine rg_i hC hw 0 (Nat.le_of_ble_eq_true rfl) rfl fd_X12_39 wf_X12_273 dX12_look_28 ?_
      refine lv_if_ne (tgt := 37) hx hb dX12_look_31 (by decide) (fun c6 => ?_) (fun c6 => ?_)
      · rw [if_neg c6] at hf
        refine lv_iconst (v := (-1)) hx hb dX12_look_37 (by decide) ?_
        refine lv_istore_n (lv' := [(3, .int (-1)), (0, .ref (ad 0)), (1, .int x1), (2, .int x2)]) hx hb dX12_look_38 rfl hl (by decide) rfl (fun ls hl => ?_)
        refine lv_iconst (v := 0) hx hb dX12_look_39 (by decide) ?_
        refine lv_istore (lv' := [(4, .int 0), (3, .int (-1)), (0, .ref (ad 0)), (1, .int x1), (2, .int x2)]) hx hb dX12_look_40 hl (by decide) rfl (fun ls hl => ?_)
        refine lv_iconst (v := 0) hx hb dX12_look_42 (by decide) ?_
        refine lv_istore (lv' := [(5, .int 0), (4, .int 0), (3, .int (-1)), (0, .ref (ad 0)), (1, .int x1), (2, .int x2)]) hx hb dX12_look_43 hl (by decide) rfl (fun ls hl => ?_)
        refine lv_iconst (v := 0) hx hb dX12_look_45 (by decide) ?_
        refine lv_istore (lv' := [(6, .int 0), (5, .int 0), (4, .int 0), (3, .int (-1)), (0, .ref (ad 0)), (1, .int x1), (2, .int x2)]) hx hb dX12_look_46 hl (by decide) rfl (fun ls hl => ?_)
        exact k_X12_look_48l hC fu_ _ _ _ _ _ _ _ _ _ _ hf hw (lv_sub hl [4, 5, 6, 3, 2, 1, 0] rfl)
      · rw [if_pos c6] at hf
        refine lv_bipush (v := (-2)) hx hb dX12_look_34 (by decide) ?_
        have hz := Option.some.inj hf
        subst hz
        exact rtc_i hC hw dX12_look_36
    · rw [if_neg c4] at hf
      refine lv_iconst (v := (-1)) hx hb dX12_look_21 (by decide) ?_
      have hz := Option.some.inj hf
      subst hz
      exact rtc_i hC hw dX12_look_22
set_option maxRecDepth 100000 in
theorem c_X12_look {l : Launch} {D : va_G} {cy : Nat → ClassId} {z0 : Nat} {ad : Nat → Nat} {u : Nat × Nat} {X : va_W} {z : (Int32 × mm_M)} {x1 : Int32} {x2 : Int32} {M : mm_M} (hf : f_X12_look x1 x2 M = some z) : ct_i rf_T l yX12_look (Cond.code yX12_look cX12_look 9 (some .int)) 8 189 D cy z0 ad u M X [.ref (ad 0), .int x1, .int x2] z.1 z.2 := by
  refine bgc_i (by decide) (fun p e s m below meth c hC hw => ?_)
  refine en_t (Nat.le_of_ble_eq_true rfl) (fun ls hl => ?_)
  have hl : lv_has ls 9 [(0, .ref (ad 0)), (1, .int x1), (2, .int x2)] := hl
  exact k_X12_look hC hf hw hl
set_option maxRecDepth 100000 in
set_option maxHeartbeats 4000000 in
theorem k_X12_isOneWay_24 {p : Program} {l : Launch} {e : Env} {s : State} {m : MethodId} {args : Array Value} {below : List Frame} {meth : Method} {c : Code} {D : va_G} {cy : Nat → ClassId} {z0 : Nat} {ad : Nat → Nat} {X : va_W} {u : Nat × Nat} (hC : cx_C p s m args meth c cX12_isOneWay "RhymedThenModel" (Cond.code yX12_isOneWay cX12_isOneWay 7 (some .boolean)) 7 (some .boolean)) {z : (Int32 × mm_M)} {x1 : Int32} {x2 : Int32} {x3 : Int32} {x4 : Int64} {x6 : Int32} {M : mm_M} {q24 : Int32 → Int32 → Int32 → Int64 → Int32 → mm_M → Option (Int32 × mm_M)} (hq24 : ∀ (x1 : Int32) (x2 : Int32) (x3 : Int32) (x4 : Int64) (x6 : Int32) (M : mm_M) (H : Heap) (locs : List Loc) (ls : Array Slot), q24 x1 x2 x3 x4 x6 M = some z → wd_in rf_T D cy z0 ad u M X s H locs → lv_has ls 7 [(0, .ref (ad 0)), (1, .int x1), (2, .int x2), (3, .int x3), (4, .long x4), (6, .int x6)] → W p l e { frames := 5, cells := 0, slots := 0, locals := 121 } s m args below meth c H locs 0 0 (MQ below (cq_i rf_T D cy z0 ad u X z.1 z.2) args s 0 0 (fun q => z0 ≤ q)) (F0 m 24 ls [])) (hf : f_X12_isOneWay_24 q24 x1 x2 x3 x4 x6 M = some z) {H : Heap} {locs : List Loc} (hw : wd_in rf_T D cy z0 ad u M X s H locs) {ls : Array Slot} (hl : lv_has ls 7 [(0, .ref (ad 0)), (1, .int x1), (2, .int x2), (3, .int x3), (4, .long x4), (6, .int x6)]) : W p l e { frames := 5, cells := 0, slots := 0, locals := 121 } s m args below meth c H locs 0 0 (MQ below (cq_i rf_T D cy z0 ad u X z.1 z.2) args s 0 0 (fun q => z0 ≤ q)) (F0 m 24 ls []) := by
  have hx := hC.1
  have hb := hC.2.1
  unfold f_X12_isOneWay_24 at hf
  refine lv_iload hx hb dX12_isOneWay_24 (lv_at hl 5 rfl) ?_
  refine lv_aload_n hx hb dX12_isOneWay_26 rfl (lv_at hl 0 rfl) ?_
  refine rg_i hC hw 0 (Nat.le_of_ble_eq_true rfl) rfl fd_X12_39 wf_X12_273 dX12_isOneWay_27 ?_
  refine lv_icmp_ge (tgt := 67) hx hb dX12_isOneWay_30 (by decide) (fun c3 => ?_) (fun c3 => ?_)
  · rw [if_pos c3] at hf
    refine lv_iconst (v := 1) hx hb dX12_isOneWay_67 (by decide) ?_
    have hz := Option.some.inj hf
    subst hz
    exact rtc_z hC hw (Or.inr rfl) dX12_isOneWay_68
  · rw [if_neg c3] at hf
    refine lv_aload_n hx hb dX12_isOneWay_33 rfl (lv_at hl 0 rfl) ?_
    refine lv_iconst (v := 0) hx hb dX12_isOneWay_34 (by decide) ?_
    refine lv_iload_n hx hb dX12_isOneWay_35 rfl (lv_at hl 1 rfl) ?_
    refine lv_aload_n hx hb dX12_isOneWay_36 rfl (lv_at hl 0 rfl) ?_
    refine rg_p hC hw 0 (Nat.le_of_ble_eq_true rfl) rfl fd_X12_38 wf_X12_279 (q := 27) rfl dX12_isOneWay_37 ?_
    refine lv_iload hx hb dX12_isOneWay_40 (lv_at hl 5 rfl) ?_
    obtain ⟨h4, hf⟩ := ck_e hf
    refine ra_i hC hw 27 (Nat.le_of_ble_eq_true rfl) rfl h4 dX12_isOneWay_42 ?_
    refine lv_iload_n hx hb dX12_isOneWay_43 rfl (lv_at hl 2 rfl) ?_
    refine lv_iload_n hx hb dX12_isOneWay_44 rfl (lv_at hl 3 rfl) ?_
    obtain ⟨z5, ez5, hf⟩ := bd_e hf
    refine clc_Vv hC hw (c_X12_says ez5) hd_X12_says cw_X12_200 (Nat.le_of_ble_eq_true rfl) rfl rfl (rest := []) hl.1 rfl (Nat.le_of_ble_eq_true rfl) ⟨Nat.le_of_ble_eq_true rfl, Nat.le_of_ble_eq_true rfl⟩ ⟨Nat.zero_le _, Nat.zero_le _⟩ rfl dX12_isOneWay_45 (fun H locs hw => ?_)
    refine lv_aload_n hx hb dX12_isOneWay_48 rfl (lv_at hl 0 rfl) ?_
    refine lv_iconst (v := 0) hx hb dX12_isOneWay_49 (by decide) ?_
    obtain ⟨z6, ez6, hf⟩ := bd_e hf
    refine clc_Vl hC hw (c_X12_packs ez6) hd_X12_packs cw_X12_303 (Nat.le_of_ble_eq_true rfl) rfl rfl (rest := []) hl.1 rfl (Nat.le_of_ble_eq_true rfl) ⟨Nat.le_of_ble_eq_true rfl, Nat.le_of_ble_eq_true rfl⟩ ⟨Nat.zero_le _, Nat.zero_le _⟩ rfl dX12_isOneWay_50 (fun H locs hw => ?_)
    refine lv_lload hx hb dX12_isOneWay_53 (lv_at hl 4 rfl) ?_
    refine lc_eq (tgt := 61) hx hb dX12_isOneWay_55 dX12_isOneWay_56 (by decide) (fun c7 => ?_) (fun c7 => ?_)
    · rw [if_pos c7] at hf
      obtain ⟨y8, ey8, hf⟩ := sq_e hf
      refine lv_iinc (v := y8) (lv' := [(6, .int y8), (0, .ref (ad 0)), (1, .int x1), (2, .int x2), (3, .int x3), (4, .long x4)]) hx hb dX12_isOneWay_61 hl (k := 5) rfl (by rw [ey8]; rfl) (by decide) rfl (fun ls hl => ?_)
      refine lv_goto (tgt := 24) hx hb dX12_isOneWay_64 (by decide) ?_
      exact hq24 _ _ _ _ _ _ _ _ _ hf hw (lv_sub hl [1, 2, 3, 4, 5, 0] rfl)
    · rw [if_neg c7] at hf
      refine lv_iconst (v := 0) hx hb dX12_isOneWay_59 (by decide) ?_
      have hz := Option.some.inj hf
      subst hz
      exact rtc_z hC hw (Or.inl rfl) dX12_isOneWay_60
set_option maxRecDepth 100000 in
set_option maxHeartbeats 4000000 in
theorem k_X12_isOneWay_24l {p : Program} {l : Launch} {e : Env} {s : State} {m : MethodId} {args : Array Value} {below : List Frame} {meth : Method} {c : Code} {D : va_G} {cy : Nat → ClassId} {z0 : Nat} {ad : Nat → Nat} {X : va_W} {u : Nat × Nat} (hC : cx_C p s m args meth c cX12_isOneWay "RhymedThenModel" (Cond.code yX12_isOneWay cX12_isOneWay 7 (some .boolean)) 7 (some .boolean)) {z : (Int32 × mm_M)} : ∀ (n : Nat) (x1 : Int32) (x2 : Int32) (x3 : Int32) (x4 : Int64) (x6 : Int32) (M : mm_M) (H : Heap) (locs : List Loc) (ls : Array Slot), f_X12_isOneWay_24l n x1 x2 x3 x4 x6 M = some z → wd_in rf_T D cy z0 ad u M X s H locs → lv_has ls 7 [(0, .ref (ad 0)), (1, .int x1), (2, .int x2), (3, .int x3), (4, .long x4), (6, .int x6)] → W p l e { frames := 5, cells := 0, slots := 0, locals := 121 } s m args below meth c H locs 0 0 (MQ below (cq_i rf_T D cy z0 ad u X z.1 z.2) args s 0 0 (fun q => z0 ≤ q)) (F0 m 24 ls []) := by
  intro n
  induction n with
  | zero => intro x1 x2 x3 x4 x6 M H locs ls hf; exact absurd hf (by simp [f_X12_isOneWay_24l])
  | succ n ih => intro x1 x2 x3 x4 x6 M H locs ls hf hw hl; exact k_X12_isOneWay_24 hC ih hf hw hl
set_option maxRecDepth 100000 in
set_option maxHeartbeats 4000000 in
theorem k_X12_isOneWay {p : Program} {l : Launch} {e : Env} {s : State} {m : MethodId} {args : Array Value} {below : List Frame} {meth : Method} {c : Code} {D : va_G} {cy : Nat → ClassId} {z0 : Nat} {ad : Nat → Nat} {X : va_W} {u : Nat × Nat} (hC : cx_C p s m args meth c cX12_isOneWay "RhymedThenModel" (Cond.code yX12_isOneWay cX12_isOneWay 7 (some .boolean)) 7 (some .boolean)) {z : (Int32 × mm_M)} {x1 : Int32} {x2 : Int32} {x3 : Int32} {M : mm_M} (hf : f_X12_isOneWay x1 x2 x3 M = some z) {H : Heap} {locs : List Loc} (hw : wd_in rf_T D cy z0 ad u M X s H locs) {ls : Array Slot} (hl : lv_has ls 7 [(0, .ref (ad 0)), (1, .int x1), (2, .int x2), (3, .int x3)]) : W p l e { frames := 5, cells := 0, slots := 0, locals := 121 } s m args below meth c H locs 0 0 (MQ below (cq_i rf_T D cy z0 ad u X z.1 z.2) args s 0 0 (fun q => z0 ≤ q)) (F0 m 0 ls []) := by
  have hx := hC.1
  have hb := hC.2.1
  unfold f_X12_isOneWay at hf
  refine lv_aload_n hx hb dX12_isOneWay_0 rfl (lv_at hl 0 rfl) ?_
  refine lv_iconst (v := 0) hx hb dX12_isOneWay_1 (by decide) ?_
  refine lv_iload_n hx hb dX12_isOneWay_2 rfl (lv_at hl 1 rfl) ?_
  refine lv_aload_n hx hb dX12_isOneWay_3 rfl (lv_at hl 0 rfl) ?_
  refine rg_p hC hw 0 (Nat.le_of_ble_eq_true rfl) rfl fd_X12_38 wf_X12_279 (q := 27) rfl dX12_isOneWay_4 ?_
  refine lv_iconst (v := 0) hx hb dX12_isOneWay_7 (by decide) ?_
  refine ra_i hC hw 27 (Nat.le_of_ble_eq_true rfl) rfl (by decide) dX12_isOneWay_8 ?_
  refine lv_iload_n hx hb dX12_isOneWay_9 rfl (lv_at hl 2 rfl) ?_
  refine lv_iload_n hx hb dX12_isOneWay_10 rfl (lv_at hl 3 rfl) ?_
  obtain ⟨z1, ez1, hf⟩ := bd_e hf
  refine clc_Vv hC hw (c_X12_says ez1) hd_X12_says cw_X12_200 (Nat.le_of_ble_eq_true rfl) rfl rfl (rest := []) hl.1 rfl (Nat.le_of_ble_eq_true rfl) ⟨Nat.le_of_ble_eq_true rfl, Nat.le_of_ble_eq_true rfl⟩ ⟨Nat.zero_le _, Nat.zero_le _⟩ rfl dX12_isOneWay_11 (fun H locs hw => ?_)
  refine lv_aload_n hx hb dX12_isOneWay_14 rfl (lv_at hl 0 rfl) ?_
  refine lv_iconst (v := 0) hx hb dX12_isOneWay_15 (by decide) ?_
  obtain ⟨z2, ez2, hf⟩ := bd_e hf
  refine clc_Vl hC hw (c_X12_packs ez2) hd_X12_packs cw_X12_303 (Nat.le_of_ble_eq_true rfl) rfl rfl (rest := []) hl.1 rfl (Nat.le_of_ble_eq_true rfl) ⟨Nat.le_of_ble_eq_true rfl, Nat.le_of_ble_eq_true rfl⟩ ⟨Nat.zero_le _, Nat.zero_le _⟩ rfl dX12_isOneWay_16 (fun H locs hw => ?_)
  refine lv_lstore (lv' := [(4, .long z2), (0, .ref (ad 0)), (1, .int x1), (2, .int x2), (3, .int x3)]) hx hb dX12_isOneWay_19 hl (by decide) rfl (fun ls hl => ?_)
  refine lv_iconst (v := 1) hx hb dX12_isOneWay_21 (by decide) ?_
  refine lv_istore (lv' := [(6, .int 1), (4, .long z2), (0, .ref (ad 0)), (1, .int x1), (2, .int x2), (3, .int x3)]) hx hb dX12_isOneWay_22 hl (by decide) rfl (fun ls hl => ?_)
  exact k_X12_isOneWay_24l hC fu_ _ _ _ _ _ _ _ _ _ hf hw (lv_sub hl [2, 3, 4, 5, 1, 0] rfl)
set_option maxRecDepth 100000 in
theorem c_X12_isOneWay {l : Launch} {D : va_G} {cy : Nat → ClassId} {z0 : Nat} {ad : Nat → Nat} {u : Nat × Nat} {X : va_W} {z : (Int32 × mm_M)} {x1 : Int32} {x2 : Int32} {x3 : Int32} {M : mm_M} (hf : f_X12_isOneWay x1 x2 x3 M = some z) : ct_i rf_T l yX12_isOneWay (Cond.code yX12_isOneWay cX12_isOneWay 7 (some .boolean)) 5 121 D cy z0 ad u M X [.ref (ad 0), .int x1, .int x2, .int x3] z.1 z.2 := by
  refine bgc_i (by decide) (fun p e s m below meth c hC hw => ?_)
  refine en_t (Nat.le_of_ble_eq_true rfl) (fun ls hl => ?_)
  have hl : lv_has ls 7 [(0, .ref (ad 0)), (1, .int x1), (2, .int x2), (3, .int x3)] := hl
  exact k_X12_isOneWay hC hf hw hl
set_option maxRecDepth 100000 in
set_option maxHeartbeats 4000000 in
theorem k_X12_settled_35 {p : Program} {l : Launch} {e : Env} {s : State} {m : MethodId} {args : Array Value} {below : List Frame} {meth : Method} {c : Code} {D : va_G} {cy : Nat → ClassId} {z0 : Nat} {ad : Nat → Nat} {X : va_W} {u : Nat × Nat} (hC : cx_C p s m args meth c cX12_settled "RhymedThenModel" (Cond.code yX12_settled cX12_settled 5 (some .int)) 5 (some .int)) {z : (Int32 × mm_M)} {x1 : Int32} {x2 : Int32} {x3 : Int32} {x4 : Int32} {M : mm_M} {q35 : Int32 → Int32 → Int32 → Int32 → mm_M → Option (Int32 × mm_M)} (hq35 : ∀ (x1 : Int32) (x2 : Int32) (x3 : Int32) (x4 : Int32) (M : mm_M) (H : Heap) (locs : List Loc) (ls : Array Slot), q35 x1 x2 x3 x4 M = some z → wd_in rf_T D cy z0 ad u M X s H locs → lv_has ls 5 [(0, .ref (ad 0)), (1, .int x1), (2, .int x2), (3, .int x3), (4, .int x4)] → W p l e { frames := 8, cells := 0, slots := 0, locals := 189 } s m args below meth c H locs 0 0 (MQ below (cq_i rf_T D cy z0 ad u X z.1 z.2) args s 0 0 (fun q => z0 ≤ q)) (F0 m 35 ls [])) (hf : f_X12_settled_35 q35 x1 x2 x3 x4 M = some z) {H : Heap} {locs : List Loc} (hw : wd_in rf_T D cy z0 ad u M X s H locs) {ls : Array Slot} (hl : lv_has ls 5 [(0, .ref (ad 0)), (1, .int x1), (2, .int x2), (3, .int x3), (4, .int x4)]) : W p l e { frames := 8, cells := 0, slots := 0, locals := 189 } s m args below meth c H locs 0 0 (MQ below (cq_i rf_T D cy z0 ad u X z.1 z.2) args s 0 0 (fun q => z0 ≤ q)) (F0 m 35 ls []) := by
  have hx := hC.1
  have hb := hC.2.1
  unfold f_X12_settled_35 at hf
  refine lv_iload hx hb dX12_settled_35 (lv_at hl 4 rfl) ?_
  refine lv_if_lt (tgt := 69) hx hb dX12_settled_37 (by decide) (fun c7 => ?_) (fun c7 => ?_)
  · rw [if_pos c7] at hf
    refine lv_iload_n hx hb dX12_settled_69 rfl (lv_at hl 3 rfl) ?_
    have hz := Option.some.inj hf
    subst hz
    exact rtc_i hC hw dX12_settled_70
  · rw [if_neg c7] at hf
    refine lv_aload_n hx hb dX12_settled_40 rfl (lv_at hl 0 rfl) ?_
    refine rg_i hC hw 0 (Nat.le_of_ble_eq_true rfl) rfl fd_X12_39 wf_X12_273 dX12_settled_41 ?_
    refine lv_if_le (tgt := 69) hx hb dX12_settled_44 (by decide) (fun c8 => ?_) (fun c8 => ?_)
    · rw [if_pos c8] at hf
      refine lv_iload_n hx hb dX12_settled_69 rfl (lv_at hl 3 rfl) ?_
      have hz := Option.some.inj hf
      subst hz
      exact rtc_i hC hw dX12_settled_70
    · rw [if_neg c8] at hf
      refine lv_aload_n hx hb dX12_settled_47 rfl (lv_at hl 0 rfl) ?_
      refine lv_iload_n hx hb dX12_settled_48 rfl (lv_at hl 1 rfl) ?_
      refine lv_iload hx hb dX12_settled_49 (lv_at hl 4 rfl) ?_
      refine lv_iload_n hx hb dX12_settled_51 rfl (lv_at hl 2 rfl) ?_
      obtain ⟨z9, ez9, hf⟩ := bd_e hf
      refine clc_Vi hC hw (c_X12_isOneWay ez9) hd_X12_isOneWay cw_X12_373 (Nat.le_of_ble_eq_true rfl) rfl rfl (rest := []) hl.1 rfl (Nat.le_of_ble_eq_true rfl) ⟨Nat.le_of_ble_eq_true rfl, Nat.le_of_ble_eq_true rfl⟩ ⟨Nat.zero_le _, Nat.zero_le _⟩ rfl dX12_settled_52 (fun H locs hw => ?_)
      refine lv_if_ne (tgt := 60) hx hb dX12_settled_55 (by decide) (fun c10 => ?_) (fun c10 => ?_)
      · rw [if_neg c10] at hf
        refine lv_iload hx hb dX12_settled_60 (lv_at hl 4 rfl) ?_
        refine lv_istore_n (lv' := [(3, .int x4), (0, .ref (ad 0)), (1, .int x1), (2, .int x2), (4, .int x4)]) hx hb dX12_settled_62 rfl hl (by decide) rfl (fun ls hl => ?_)
        obtain ⟨y11, ey11, hf⟩ := sq_e hf
        refine lv_iinc (v := y11) (lv' := [(4, .int y11), (3, .int x4), (0, .ref (ad 0)), (1, .int x1), (2, .int x2)]) hx hb dX12_settled_63 hl (k := 4) rfl (by rw [ey11]; rfl) (by decide) rfl (fun ls hl => ?_)
        refine lv_goto (tgt := 35) hx hb dX12_settled_66 (by decide) ?_
        exact hq35 _ _ _ _ _ _ _ _ hf hw (lv_sub hl [2, 3, 4, 1, 0] rfl)
      · rw [if_pos c10] at hf
        refine lv_iload_n hx hb dX12_settled_58 rfl (lv_at hl 3 rfl) ?_
        have hz := Option.some.inj hf
        subst hz
        exact rtc_i hC hw dX12_settled_59
set_option maxRecDepth 100000 in
set_option maxHeartbeats 4000000 in
theorem k_X12_settled_35l {p : Program} {l : Launch} {e : Env} {s : State} {m : MethodId} {args : Array Value} {below : List Frame} {meth : Method} {c : Code} {D : va_G} {cy : Nat → ClassId} {z0 : Nat} {ad : Nat → Nat} {X : va_W} {u : Nat × Nat} (hC : cx_C p s m args meth c cX12_settled "RhymedThenModel" (Cond.code yX12_settled cX12_settled 5 (some .int)) 5 (some .int)) {z : (Int32 × mm_M)} : ∀ (n : Nat) (x1 : Int32) (x2 : Int32) (x3 : Int32) (x4 : Int32) (M : mm_M) (H : Heap) (locs : List Loc) (ls : Array Slot), f_X12_settled_35l n x1 x2 x3 x4 M = some z → wd_in rf_T D cy z0 ad u M X s H locs → lv_has ls 5 [(0, .ref (ad 0)), (1, .int x1), (2, .int x2), (3, .int x3), (4, .int x4)] → W p l e { frames := 8, cells := 0, slots := 0, locals := 189 } s m args below meth c H locs 0 0 (MQ below (cq_i rf_T D cy z0 ad u X z.1 z.2) args s 0 0 (fun q => z0 ≤ q)) (F0 m 35 ls []) := by
  intro n
  induction n with
  | zero => intro x1 x2 x3 x4 M H locs ls hf; exact absurd hf (by simp [f_X12_settled_35l])
  | succ n ih => intro x1 x2 x3 x4 M H locs ls hf hw hl; exact k_X12_settled_35 hC ih hf hw hl
set_option maxRecDepth 100000 in
set_option maxHeartbeats 4000000 in
theorem k_X12_settled {p : Program} {l : Launch} {e : Env} {s : State} {m : MethodId} {args : Array Value} {below : List Frame} {meth : Method} {c : Code} {D : va_G} {cy : Nat → ClassId} {z0 : Nat} {ad : Nat → Nat} {X : va_W} {u : Nat × Nat} (hC : cx_C p s m args meth c cX12_settled "RhymedThenModel" (Cond.code yX12_settled cX12_settled 5 (some .int)) 5 (some .int)) {z : (Int32 × mm_M)} {x1 : Int32} {x2 : Int32} {M : mm_M} (hf : f_X12_settled x1 x2 M = some z) {H : Heap} {locs : List Loc} (hw : wd_in rf_T D cy z0 ad u M X s H locs) {ls : Array Slot} (hl : lv_has ls 5 [(0, .ref (ad 0)), (1, .int x1), (2, .int x2)]) : W p l e { frames := 8, cells := 0, slots := 0, locals := 189 } s m args below meth c H locs 0 0 (MQ below (cq_i rf_T D cy z0 ad u X z.1 z.2) args s 0 0 (fun q => z0 ≤ q)) (F0 m 0 ls []) := by
  have hx := hC.1
  have hb := hC.2.1
  unfold f_X12_settled at hf
  refine lv_aload_n hx hb dX12_settled_0 rfl (lv_at hl 0 rfl) ?_
  refine lv_iconst (v := 0) hx hb dX12_settled_1 (by decide) ?_
  obtain ⟨M1, eM1, hf⟩ := sq_e hf
  refine rp_i hC hw 0 (Nat.le_of_ble_eq_true rfl) rfl fd_X12_0 wf_X12_1 fp_X12_0 rfl rfl dX12_settled_2 eM1 (fun H locs hw => ?_)
  refine lv_aload_n hx hb dX12_settled_5 rfl (lv_at hl 0 rfl) ?_
  refine lv_iload_n hx hb dX12_settled_6 rfl (lv_at hl 1 rfl) ?_
  obtain ⟨z2, ez2, hf⟩ := sq_e hf
  refine clc_Vi hC hw (c_X12_isWord ez2.symm) hd_X12_isWord cw_X12_191 (Nat.le_of_ble_eq_true rfl) rfl rfl (rest := []) hl.1 rfl (Nat.le_of_ble_eq_true rfl) ⟨Nat.le_of_ble_eq_true rfl, Nat.le_of_ble_eq_true rfl⟩ ⟨Nat.zero_le _, Nat.zero_le _⟩ rfl dX12_settled_7 (fun H locs hw => ?_)
  refine lv_if_eq (tgt := 21) hx hb dX12_settled_10 (by decide) (fun c3 => ?_) (fun c3 => ?_)
  · rw [if_pos c3] at hf
    refine lv_iconst (v := (-1)) hx hb dX12_settled_21 (by decide) ?_
    have hz := Option.some.inj hf
    subst hz
    exact rtc_i hC hw dX12_settled_22
  · rw [if_neg c3] at hf
    refine lv_iconst (v := 0) hx hb dX12_settled_13 (by decide) ?_
    refine lv_iload_n hx hb dX12_settled_14 rfl (lv_at hl 2 rfl) ?_
    obtain ⟨z4, ez4, hf⟩ := sq_e hf
    refine clc_Si hC hw (c_X12_isThen ez4.symm) hd_X12_isThen cw_X12_197 (rest := []) hl.1 rfl (Nat.le_of_ble_eq_true rfl) ⟨Nat.le_of_ble_eq_true rfl, Nat.le_of_ble_eq_true rfl⟩ ⟨Nat.zero_le _, Nat.zero_le _⟩ rfl dX12_settled_15 (fun H locs hw => ?_)
    refine lv_if_ne (tgt := 23) hx hb dX12_settled_18 (by decide) (fun c5 => ?_) (fun c5 => ?_)
    · rw [if_neg c5] at hf
      refine lv_aload_n hx hb dX12_settled_23 rfl (lv_at hl 0 rfl) ?_
      obtain ⟨z6, ez6, hf⟩ := bd_e hf
      refine clc_Vv hC hw (c_X12_gathers ez6) hd_X12_gathers cw_X12_282 (Nat.le_of_ble_eq_true rfl) rfl rfl (rest := []) hl.1 rfl (Nat.le_of_ble_eq_true rfl) ⟨Nat.le_of_ble_eq_true rfl, Nat.le_of_ble_eq_true rfl⟩ ⟨Nat.zero_le _, Nat.zero_le _⟩ rfl dX12_settled_24 (fun H locs hw => ?_)
      refine lv_bipush (v := (-2)) hx hb dX12_settled_27 (by decide) ?_
      refine lv_istore_n (lv' := [(3, .int (-2)), (0, .ref (ad 0)), (1, .int x1), (2, .int x2)]) hx hb dX12_settled_29 rfl hl (by decide) rfl (fun ls hl => ?_)
      refine lv_sipush (v := 600) hx hb dX12_settled_30 (by decide) ?_
      refine lv_istore (lv' := [(4, .int 600), (3, .int (-2)), (0, .ref (ad 0)), (1, .int x1), (2, .int x2)]) hx hb dX12_settled_33 hl (by decide) rfl (fun ls hl => ?_)
      exact k_X12_settled_35l hC fu_ _ _ _ _ _ _ _ _ hf hw (lv_sub hl [2, 3, 4, 1, 0] rfl)
    · rw [if_pos c5] at hf
      refine lv_iconst (v := (-1)) hx hb dX12_settled_21 (by decide) ?_
      have hz := Option.some.inj hf
      subst hz
      exact rtc_i hC hw dX12_settled_22
set_option maxRecDepth 100000 in
theorem c_X12_settled {l : Launch} {D : va_G} {cy : Nat → ClassId} {z0 : Nat} {ad : Nat → Nat} {u : Nat × Nat} {X : va_W} {z : (Int32 × mm_M)} {x1 : Int32} {x2 : Int32} {M : mm_M} (hf : f_X12_settled x1 x2 M = some z) : ct_i rf_T l yX12_settled (Cond.code yX12_settled cX12_settled 5 (some .int)) 8 189 D cy z0 ad u M X [.ref (ad 0), .int x1, .int x2] z.1 z.2 := by
  refine bgc_i (by decide) (fun p e s m below meth c hC hw => ?_)
  refine en_t (Nat.le_of_ble_eq_true rfl) (fun ls hl => ?_)
  have hl : lv_has ls 5 [(0, .ref (ad 0)), (1, .int x1), (2, .int x2)] := hl
  exact k_X12_settled hC hf hw hl
set_option maxRecDepth 100000 in
set_option maxHeartbeats 4000000 in
theorem k_X12_fell_81 {p : Program} {l : Launch} {e : Env} {s : State} {m : MethodId} {args : Array Value} {below : List Frame} {meth : Method} {c : Code} {D : va_G} {cy : Nat → ClassId} {z0 : Nat} {ad : Nat → Nat} {X : va_W} {u : Nat × Nat} (hC : cx_C p s m args meth c cX12_fell "RhymedThenModel" (Cond.code yX12_fell cX12_fell 8 (some .int)) 8 (some .int)) {z : (Int32 × mm_M)} {x1 : Int32} {x2 : Int32} {x3 : Int32} {x4 : Int32} {x5 : Int32} {x7 : Int32} {t0 : Int32} {t1 : Int32} {M : mm_M} {q44 : Int32 → Int32 → Int32 → Int32 → Int32 → Int32 → Int32 → mm_M → Option (Int32 × mm_M)} (hq44 : ∀ (x1 : Int32) (x2 : Int32) (x3 : Int32) (x4 : Int32) (x5 : Int32) (x6 : Int32) (x7 : Int32) (M : mm_M) (H : Heap) (locs : List Loc) (ls : Array Slot), q44 x1 x2 x3 x4 x5 x6 x7 M = some z → wd_in rf_T D cy z0 ad u M X s H locs → lv_has ls 8 [(0, .ref (ad 0)), (1, .int x1), (2, .int x2), (3, .int x3), (4, .int x4), (5, .int x5), (6, .int x6), (7, .int x7)] → W p l e { frames := 6, cells := 0, slots := 0, locals := 146 } s m args below meth c H locs 0 0 (MQ below (cq_i rf_T D cy z0 ad u X z.1 z.2) args s 0 0 (fun q => z0 ≤ q)) (F0 m 44 ls [])) (hf : f_X12_fell_81 q44 x1 x2 x3 x4 x5 x7 t0 t1 M = some z) {H : Heap} {locs : List Loc} (hw : wd_in rf_T D cy z0 ad u M X s H locs) {ls : Array Slot} (hl : lv_has ls 8 [(0, .ref (ad 0)), (1, .int x1), (2, .int x2), (3, .int x3), (4, .int x4), (5, .int x5), (7, .int x7)]) : W p l e { frames := 6, cells := 0, slots := 0, locals := 146 } s m args below meth c H locs 0 0 (MQ below (cq_i rf_T D cy z0 ad u X z.1 z.2) args s 0 0 (fun q => z0 ≤ q)) (F0 m 81 ls [.int t1, .int t0]) := by
  have hx := hC.1
  have hb := hC.2.1
  unfold f_X12_fell_81 at hf
  refine lv_ior hx hb dX12_fell_81 ?_
  obtain ⟨y18, ey18, hf⟩ := sq_e hf
  refine lt_i ey18 ?_
  refine lv_istore (lv' := [(6, .int y18), (0, .ref (ad 0)), (1, .int x1), (2, .int x2), (3, .int x3), (4, .int x4), (5, .int x5), (7, .int x7)]) hx hb dX12_fell_82 hl (by decide) rfl (fun ls hl => ?_)
  obtain ⟨y19, ey19, hf⟩ := sq_e hf
  refine lv_iinc (v := y19) (lv' := [(7, .int y19), (6, .int y18), (0, .ref (ad 0)), (1, .int x1), (2, .int x2), (3, .int x3), (4, .int x4), (5, .int x5)]) hx hb dX12_fell_84 hl (k := 7) rfl (by rw [ey19]; rfl) (by decide) rfl (fun ls hl => ?_)
  refine lv_goto (tgt := 44) hx hb dX12_fell_87 (by decide) ?_
  exact hq44 _ _ _ _ _ _ _ _ _ _ _ hf hw (lv_sub hl [2, 3, 4, 5, 6, 7, 1, 0] rfl)
set_option maxRecDepth 100000 in
set_option maxHeartbeats 4000000 in
theorem k_X12_fell_110 {p : Program} {l : Launch} {e : Env} {s : State} {m : MethodId} {args : Array Value} {below : List Frame} {meth : Method} {c : Code} {D : va_G} {cy : Nat → ClassId} {z0 : Nat} {ad : Nat → Nat} {X : va_W} {u : Nat × Nat} (hC : cx_C p s m args meth c cX12_fell "RhymedThenModel" (Cond.code yX12_fell cX12_fell 8 (some .int)) 8 (some .int)) {z : (Int32 × mm_M)} {x1 : Int32} {x2 : Int32} {x3 : Int32} {x5 : Int32} {t0 : Int32} {M : mm_M} {q29 : Int32 → Int32 → Int32 → Int32 → Int32 → mm_M → Option (Int32 × mm_M)} (hq29 : ∀ (x1 : Int32) (x2 : Int32) (x3 : Int32) (x4 : Int32) (x5 : Int32) (M : mm_M) (H : Heap) (locs : List Loc) (ls : Array Slot), q29 x1 x2 x3 x4 x5 M = some z → wd_in rf_T D cy z0 ad u M X s H locs → lv_has ls 8 [(0, .ref (ad 0)), (1, .int x1), (2, .int x2), (3, .int x3), (4, .int x4), (5, .int x5)] → W p l e { frames := 6, cells := 0, slots := 0, locals := 146 } s m args below meth c H locs 0 0 (MQ below (cq_i rf_T D cy z0 ad u X z.1 z.2) args s 0 0 (fun q => z0 ≤ q)) (F0 m 29 ls [])) (hf : f_X12_fell_110 q29 x1 x2 x3 x5 t0 M = some z) {H : Heap} {locs : List Loc} (hw : wd_in rf_T D cy z0 ad u M X s H locs) {ls : Array Slot} (hl : lv_has ls 8 [(0, .ref (ad 0)), (1, .int x1), (2, .int x2), (3, .int x3), (5, .int x5)]) : W p l e { frames := 6, cells := 0, slots := 0, locals := 146 } s m args below meth c H locs 0 0 (MQ below (cq_i rf_T D cy z0 ad u X z.1 z.2) args s 0 0 (fun q => z0 ≤ q)) (F0 m 110 ls [.int t0]) := by
  have hx := hC.1
  have hb := hC.2.1
  unfold f_X12_fell_110 at hf
  refine lv_istore (lv' := [(4, .int t0), (0, .ref (ad 0)), (1, .int x1), (2, .int x2), (3, .int x3), (5, .int x5)]) hx hb dX12_fell_110 hl (by decide) rfl (fun ls hl => ?_)
  obtain ⟨y20, ey20, hf⟩ := sq_e hf
  refine lv_iinc (v := y20) (lv' := [(5, .int y20), (4, .int t0), (0, .ref (ad 0)), (1, .int x1), (2, .int x2), (3, .int x3)]) hx hb dX12_fell_112 hl (k := 5) rfl (by rw [ey20]; rfl) (by decide) rfl (fun ls hl => ?_)
  refine lv_goto (tgt := 29) hx hb dX12_fell_115 (by decide) ?_
  exact hq29 _ _ _ _ _ _ _ _ _ hf hw (lv_sub hl [2, 3, 4, 5, 1, 0] rfl)
set_option maxRecDepth 100000 in
set_option maxHeartbeats 4000000 in
theorem k_X12_fell_90 {p : Program} {l : Launch} {e : Env} {s : State} {m : MethodId} {args : Array Value} {below : List Frame} {meth : Method} {c : Code} {D : va_G} {cy : Nat → ClassId} {z0 : Nat} {ad : Nat → Nat} {X : va_W} {u : Nat × Nat} (hC : cx_C p s m args meth c cX12_fell "RhymedThenModel" (Cond.code yX12_fell cX12_fell 8 (some .int)) 8 (some .int)) {z : (Int32 × mm_M)} {x1 : Int32} {x2 : Int32} {x3 : Int32} {x4 : Int32} {x5 : Int32} {x6 : Int32} {M : mm_M} {q29 : Int32 → Int32 → Int32 → Int32 → Int32 → mm_M → Option (Int32 × mm_M)} (hq29 : ∀ (x1 : Int32) (x2 : Int32) (x3 : Int32) (x4 : Int32) (x5 : Int32) (M : mm_M) (H : Heap) (locs : List Loc) (ls : Array Slot), q29 x1 x2 x3 x4 x5 M = some z → wd_in rf_T D cy z0 ad u M X s H locs → lv_has ls 8 [(0, .ref (ad 0)), (1, .int x1), (2, .int x2), (3, .int x3), (4, .int x4), (5, .int x5)] → W p l e { frames := 6, cells := 0, slots := 0, locals := 146 } s m args below meth c H locs 0 0 (MQ below (cq_i rf_T D cy z0 ad u X z.1 z.2) args s 0 0 (fun q => z0 ≤ q)) (F0 m 29 ls [])) (hf : f_X12_fell_90 q29 x1 x2 x3 x4 x5 x6 M = some z) {H : Heap} {locs : List Loc} (hw : wd_in rf_T D cy z0 ad u M X s H locs) {ls : Array Slot} (hl : lv_has ls 8 [(0, .ref (ad 0)), (1, .int x1), (2, .int x2), (3, .int x3), (4, .int x4), (5, .int x5), (6, .int x6)]) : W p l e { frames := 6, cells := 0, slots := 0, locals := 146 } s m args below meth c H locs 0 0 (MQ below (cq_i rf_T D cy z0 ad u X z.1 z.2) args s 0 0 (fun q => z0 ≤ q)) (F0 m 90 ls []) := by
  have hx := hC.1
  have hb := hC.2.1
  unfold f_X12_fell_90 at hf
  refine lv_iload hx hb dX12_fell_90 (lv_at hl 6 rfl) ?_
  obtain ⟨z15, ez15, hf⟩ := sq_e hf
  refine clc_Si hC hw (c_J6_bitCount_0f7a4 ez15.symm) hd_J6_bitCount_0f7a4 cw_X12_289 (rest := []) hl.1 rfl (Nat.le_of_ble_eq_true rfl) ⟨Nat.le_of_ble_eq_true rfl, Nat.le_of_ble_eq_true rfl⟩ ⟨Nat.zero_le _, Nat.zero_le _⟩ rfl dX12_fell_92 (fun H locs hw => ?_)
  refine lv_iload hx hb dX12_fell_95 (lv_at hl 4 rfl) ?_
  obtain ⟨z16, ez16, hf⟩ := sq_e hf
  refine clc_Si hC hw (c_J6_bitCount_0f7a4 ez16.symm) hd_J6_bitCount_0f7a4 cw_X12_289 (rest := [.int z15]) hl.1 rfl (Nat.le_of_ble_eq_true rfl) ⟨Nat.le_of_ble_eq_true rfl, Nat.le_of_ble_eq_true rfl⟩ ⟨Nat.zero_le _, Nat.zero_le _⟩ rfl dX12_fell_97 (fun H locs hw => ?_)
  refine lv_icmp_le (tgt := 108) hx hb dX12_fell_100 (by decide) (fun c17 => ?_) (fun c17 => ?_)
  · rw [if_pos c17] at hf
    refine lv_iload hx hb dX12_fell_108 (lv_at hl 4 rfl) ?_
    exact k_X12_fell_110 hC hq29 hf hw (lv_sub hl [0, 1, 2, 3, 5] rfl)
  · rw [if_neg c17] at hf
    refine lv_iload hx hb dX12_fell_103 (lv_at hl 6 rfl) ?_
    refine lv_goto (tgt := 110) hx hb dX12_fell_105 (by decide) ?_
    exact k_X12_fell_110 hC hq29 hf hw (lv_sub hl [0, 1, 2, 3, 5] rfl)
set_option maxRecDepth 100000 in
set_option maxHeartbeats 4000000 in
theorem k_X12_fell_44 {p : Program} {l : Launch} {e : Env} {s : State} {m : MethodId} {args : Array Value} {below : List Frame} {meth : Method} {c : Code} {D : va_G} {cy : Nat → ClassId} {z0 : Nat} {ad : Nat → Nat} {X : va_W} {u : Nat × Nat} (hC : cx_C p s m args meth c cX12_fell "RhymedThenModel" (Cond.code yX12_fell cX12_fell 8 (some .int)) 8 (some .int)) {z : (Int32 × mm_M)} {x1 : Int32} {x2 : Int32} {x3 : Int32} {x4 : Int32} {x5 : Int32} {x6 : Int32} {x7 : Int32} {M : mm_M} {q29 : Int32 → Int32 → Int32 → Int32 → Int32 → mm_M → Option (Int32 × mm_M)} (hq29 : ∀ (x1 : Int32) (x2 : Int32) (x3 : Int32) (x4 : Int32) (x5 : Int32) (M : mm_M) (H : Heap) (locs : List Loc) (ls : Array Slot), q29 x1 x2 x3 x4 x5 M = some z → wd_in rf_T D cy z0 ad u M X s H locs → lv_has ls 8 [(0, .ref (ad 0)), (1, .int x1), (2, .int x2), (3, .int x3), (4, .int x4), (5, .int x5)] → W p l e { frames := 6, cells := 0, slots := 0, locals := 146 } s m args below meth c H locs 0 0 (MQ below (cq_i rf_T D cy z0 ad u X z.1 z.2) args s 0 0 (fun q => z0 ≤ q)) (F0 m 29 ls [])) {q44 : Int32 → Int32 → Int32 → Int32 → Int32 → Int32 → Int32 → mm_M → Option (Int32 × mm_M)} (hq44 : ∀ (x1 : Int32) (x2 : Int32) (x3 : Int32) (x4 : Int32) (x5 : Int32) (x6 : Int32) (x7 : Int32) (M : mm_M) (H : Heap) (locs : List Loc) (ls : Array Slot), q44 x1 x2 x3 x4 x5 x6 x7 M = some z → wd_in rf_T D cy z0 ad u M X s H locs → lv_has ls 8 [(0, .ref (ad 0)), (1, .int x1), (2, .int x2), (3, .int x3), (4, .int x4), (5, .int x5), (6, .int x6), (7, .int x7)] → W p l e { frames := 6, cells := 0, slots := 0, locals := 146 } s m args below meth c H locs 0 0 (MQ below (cq_i rf_T D cy z0 ad u X z.1 z.2) args s 0 0 (fun q => z0 ≤ q)) (F0 m 44 ls [])) (hf : f_X12_fell_44 q29 q44 x1 x2 x3 x4 x5 x6 x7 M = some z) {H : Heap} {locs : List Loc} (hw : wd_in rf_T D cy z0 ad u M X s H locs) {ls : Array Slot} (hl : lv_has ls 8 [(0, .ref (ad 0)), (1, .int x1), (2, .int x2), (3, .int x3), (4, .int x4), (5, .int x5), (6, .int x6), (7, .int x7)]) : W p l e { frames := 6, cells := 0, slots := 0, locals := 146 } s m args below meth c H locs 0 0 (MQ below (cq_i rf_T D cy z0 ad u X z.1 z.2) args s 0 0 (fun q => z0 ≤ q)) (F0 m 44 ls []) := by
  have hx := hC.1
  have hb := hC.2.1
  unfold f_X12_fell_44 at hf
  refine lv_iload hx hb dX12_fell_44 (lv_at hl 7 rfl) ?_
  refine lv_aload_n hx hb dX12_fell_46 rfl (lv_at hl 0 rfl) ?_
  refine rg_i hC hw 0 (Nat.le_of_ble_eq_true rfl) rfl fd_X12_8 wf_X12_75 dX12_fell_47 ?_
  refine lv_icmp_ge (tgt := 90) hx hb dX12_fell_50 (by decide) (fun c10 => ?_) (fun c10 => ?_)
  · rw [if_pos c10] at hf
    exact k_X12_fell_90 hC hq29 hf hw (lv_sub hl [0, 1, 2, 3, 4, 5, 6] rfl)
  · rw [if_neg c10] at hf
    refine lv_aload_n hx hb dX12_fell_53 rfl (lv_at hl 0 rfl) ?_
    refine lv_iload hx hb dX12_fell_54 (lv_at hl 5 rfl) ?_
    refine lv_iload hx hb dX12_fell_56 (lv_at hl 7 rfl) ?_
    refine lv_iload_n hx hb dX12_fell_58 rfl (lv_at hl 1 rfl) ?_
    refine lv_iload_n hx hb dX12_fell_59 rfl (lv_at hl 2 rfl) ?_
    refine lv_iload_n hx hb dX12_fell_60 rfl (lv_at hl 3 rfl) ?_
    obtain ⟨z11, ez11, hf⟩ := bd_e hf
    refine clc_Vv hC hw (c_X12_saysBoth ez11) hd_X12_saysBoth cw_X12_207 (Nat.le_of_ble_eq_true rfl) rfl rfl (rest := []) hl.1 rfl (Nat.le_of_ble_eq_true rfl) ⟨Nat.le_of_ble_eq_true rfl, Nat.le_of_ble_eq_true rfl⟩ ⟨Nat.zero_le _, Nat.zero_le _⟩ rfl dX12_fell_61 (fun H locs hw => ?_)
    refine lv_iload hx hb dX12_fell_64 (lv_at hl 6 rfl) ?_
    refine lv_aload_n hx hb dX12_fell_66 rfl (lv_at hl 0 rfl) ?_
    obtain ⟨z12, ez12, hf⟩ := bd_e hf
    refine clc_Vi hC hw (c_X12_areAlike ez12) hd_X12_areAlike cw_X12_204 (Nat.le_of_ble_eq_true rfl) rfl rfl (rest := [.int x6]) hl.1 rfl (Nat.le_of_ble_eq_true rfl) ⟨Nat.le_of_ble_eq_true rfl, Nat.le_of_ble_eq_true rfl⟩ ⟨Nat.zero_le _, Nat.zero_le _⟩ rfl dX12_fell_67 (fun H locs hw => ?_)
    refine lv_if_eq (tgt := 80) hx hb dX12_fell_70 (by decide) (fun c13 => ?_) (fun c13 => ?_)
    · rw [if_pos c13] at hf
      refine lv_iconst (v := 0) hx hb dX12_fell_80 (by decide) ?_
      exact k_X12_fell_81 hC hq44 hf hw (lv_sub hl [0, 1, 2, 3, 4, 5, 7] rfl)
    · rw [if_neg c13] at hf
      refine lv_iconst (v := 1) hx hb dX12_fell_73 (by decide) ?_
      refine lv_iload hx hb dX12_fell_74 (lv_at hl 7 rfl) ?_
      refine lv_ishl hx hb dX12_fell_76 ?_
      refine lv_goto (tgt := 81) hx hb dX12_fell_77 (by decide) ?_
      exact k_X12_fell_81 hC hq44 hf hw (lv_sub hl [0, 1, 2, 3, 4, 5, 7] rfl)
set_option maxRecDepth 100000 in
set_option maxHeartbeats 4000000 in
theorem k_X12_fell_44l {p : Program} {l : Launch} {e : Env} {s : State} {m : MethodId} {args : Array Value} {below : List Frame} {meth : Method} {c : Code} {D : va_G} {cy : Nat → ClassId} {z0 : Nat} {ad : Nat → Nat} {X : va_W} {u : Nat × Nat} (hC : cx_C p s m args meth c cX12_fell "RhymedThenModel" (Cond.code yX12_fell cX12_fell 8 (some .int)) 8 (some .int)) {z : (Int32 × mm_M)} {q29 : Int32 → Int32 → Int32 → Int32 → Int32 → mm_M → Option (Int32 × mm_M)} (hq29 : ∀ (x1 : Int32) (x2 : Int32) (x3 : Int32) (x4 : Int32) (x5 : Int32) (M : mm_M) (H : Heap) (locs : List Loc) (ls : Array Slot), q29 x1 x2 x3 x4 x5 M = some z → wd_in rf_T D cy z0 ad u M X s H locs → lv_has ls 8 [(0, .ref (ad 0)), (1, .int x1), (2, .int x2), (3, .int x3), (4, .int x4), (5, .int x5)] → W p l e { frames := 6, cells := 0, slots := 0, locals := 146 } s m args below meth c H locs 0 0 (MQ below (cq_i rf_T D cy z0 ad u X z.1 z.2) args s 0 0 (fun q => z0 ≤ q)) (F0 m 29 ls [])) : ∀ (n : Nat) (x1 : Int32) (x2 : Int32) (x3 : Int32) (x4 : Int32) (x5 : Int32) (x6 : Int32) (x7 : Int32) (M : mm_M) (H : Heap) (locs : List Loc) (ls : Array Slot), f_X12_fell_44l q29 n x1 x2 x3 x4 x5 x6 x7 M = some z → wd_in rf_T D cy z0 ad u M X s H locs → lv_has ls 8 [(0, .ref (ad 0)), (1, .int x1), (2, .int x2), (3, .int x3), (4, .int x4), (5, .int x5), (6, .int x6), (7, .int x7)] → W p l e { frames := 6, cells := 0, slots := 0, locals := 146 } s m args below meth c H locs 0 0 (MQ below (cq_i rf_T D cy z0 ad u X z.1 z.2) args s 0 0 (fun q => z0 ≤ q)) (F0 m 44 ls []) := by
  intro n
  induction n with
  | zero => intro x1 x2 x3 x4 x5 x6 x7 M H locs ls hf; exact absurd hf (by simp [f_X12_fell_44l])
  | succ n ih => intro x1 x2 x3 x4 x5 x6 x7 M H locs ls hf hw hl; exact k_X12_fell_44 hC hq29 ih hf hw hl
set_option maxRecDepth 100000 in
set_option maxHeartbeats 4000000 in
theorem k_X12_fell_137 {p : Program} {l : Launch} {e : Env} {s : State} {m : MethodId} {args : Array Value} {below : List Frame} {meth : Method} {c : Code} {D : va_G} {cy : Nat → ClassId} {z0 : Nat} {ad : Nat → Nat} {X : va_W} {u : Nat × Nat} (hC : cx_C p s m args meth c cX12_fell "RhymedThenModel" (Cond.code yX12_fell cX12_fell 8 (some .int)) 8 (some .int)) {z : (Int32 × mm_M)} {x4 : Int32} {M : mm_M} (hf : f_X12_fell_137 x4 M = some z) {H : Heap} {locs : List Loc} (hw : wd_in rf_T D cy z0 ad u M X s H locs) {ls : Array Slot} (hl : lv_has ls 8 [(4, .int x4)]) : W p l e { frames := 6, cells := 0, slots := 0, locals := 146 } s m args below meth c H locs 0 0 (MQ below (cq_i rf_T D cy z0 ad u X z.1 z.2) args s 0 0 (fun q => z0 ≤ q)) (F0 m 137 ls []) := by
  have hx := hC.1
  have hb := hC.2.1
  unfold f_X12_fell_137 at hf
  refine lv_iload hx hb dX12_fell_137 (lv_at hl 0 rfl) ?_
  obtain ⟨z14, ez14, hf⟩ := sq_e hf
  refine clc_Si hC hw (c_J6_bitCount_0f7a4 ez14.symm) hd_J6_bitCount_0f7a4 cw_X12_289 (rest := []) hl.1 rfl (Nat.le_of_ble_eq_true rfl) ⟨Nat.le_of_ble_eq_true rfl, Nat.le_of_ble_eq_true rfl⟩ ⟨Nat.zero_le _, Nat.zero_le _⟩ rfl dX12_fell_139 (fun H locs hw => ?_)
  have hz := Option.some.inj hf
  subst hz
  exact rtc_i hC hw dX12_fell_142
set_option maxRecDepth 100000 in
set_option maxHeartbeats 4000000 in
theorem k_X12_fell_118 {p : Program} {l : Launch} {e : Env} {s : State} {m : MethodId} {args : Array Value} {below : List Frame} {meth : Method} {c : Code} {D : va_G} {cy : Nat → ClassId} {z0 : Nat} {ad : Nat → Nat} {X : va_W} {u : Nat × Nat} (hC : cx_C p s m args meth c cX12_fell "RhymedThenModel" (Cond.code yX12_fell cX12_fell 8 (some .int)) 8 (some .int)) {z : (Int32 × mm_M)} {x4 : Int32} {M : mm_M} (hf : f_X12_fell_118 x4 M = some z) {H : Heap} {locs : List Loc} (hw : wd_in rf_T D cy z0 ad u M X s H locs) {ls : Array Slot} (hl : lv_has ls 8 [(0, .ref (ad 0)), (4, .int x4)]) : W p l e { frames := 6, cells := 0, slots := 0, locals := 146 } s m args below meth c H locs 0 0 (MQ below (cq_i rf_T D cy z0 ad u X z.1 z.2) args s 0 0 (fun q => z0 ≤ q)) (F0 m 118 ls []) := by
  have hx := hC.1
  have hb := hC.2.1
  unfold f_X12_fell_118 at hf
  refine lv_aload_n hx hb dX12_fell_118 rfl (lv_at hl 0 rfl) ?_
  refine rg_i hC hw 0 (Nat.le_of_ble_eq_true rfl) rfl fd_X12_8 wf_X12_75 dX12_fell_119 ?_
  refine lv_if_le (tgt := 137) hx hb dX12_fell_122 (by decide) (fun c7 => ?_) (fun c7 => ?_)
  · rw [if_pos c7] at hf
    exact k_X12_fell_137 hC hf hw (lv_sub hl [1] rfl)
  · rw [if_neg c7] at hf
    refine lv_aload_n hx hb dX12_fell_125 rfl (lv_at hl 0 rfl) ?_
    refine lv_iconst (v := 0) hx hb dX12_fell_126 (by decide) ?_
    obtain ⟨M8, eM8, hf⟩ := sq_e hf
    refine rp_i hC hw 0 (Nat.le_of_ble_eq_true rfl) rfl fd_X12_1 wf_X12_11 fp_X12_1 rfl rfl dX12_fell_127 eM8 (fun H locs hw => ?_)
    refine lv_aload_n hx hb dX12_fell_130 rfl (lv_at hl 0 rfl) ?_
    refine lv_iload hx hb dX12_fell_131 (lv_at hl 1 rfl) ?_
    refine lv_i2l hx hb dX12_fell_133 rfl ?_
    obtain ⟨z9, ez9, hf⟩ := bd_e hf
    refine clc_Vv hC hw (c_X12_enters ez9) hd_X12_enters cw_X12_18 (Nat.le_of_ble_eq_true rfl) rfl rfl (rest := []) hl.1 rfl (Nat.le_of_ble_eq_true rfl) ⟨Nat.le_of_ble_eq_true rfl, Nat.le_of_ble_eq_true rfl⟩ ⟨Nat.zero_le _, Nat.zero_le _⟩ rfl dX12_fell_134 (fun H locs hw => ?_)
    exact k_X12_fell_137 hC hf hw (lv_sub hl [1] rfl)
set_option maxRecDepth 100000 in
set_option maxHeartbeats 4000000 in
theorem k_X12_fell_29 {p : Program} {l : Launch} {e : Env} {s : State} {m : MethodId} {args : Array Value} {below : List Frame} {meth : Method} {c : Code} {D : va_G} {cy : Nat → ClassId} {z0 : Nat} {ad : Nat → Nat} {X : va_W} {u : Nat × Nat} (hC : cx_C p s m args meth c cX12_fell "RhymedThenModel" (Cond.code yX12_fell cX12_fell 8 (some .int)) 8 (some .int)) {z : (Int32 × mm_M)} {x1 : Int32} {x2 : Int32} {x3 : Int32} {x4 : Int32} {x5 : Int32} {M : mm_M} {q29 : Int32 → Int32 → Int32 → Int32 → Int32 → mm_M → Option (Int32 × mm_M)} (hq29 : ∀ (x1 : Int32) (x2 : Int32) (x3 : Int32) (x4 : Int32) (x5 : Int32) (M : mm_M) (H : Heap) (locs : List Loc) (ls : Array Slot), q29 x1 x2 x3 x4 x5 M = some z → wd_in rf_T D cy z0 ad u M X s H locs → lv_has ls 8 [(0, .ref (ad 0)), (1, .int x1), (2, .int x2), (3, .int x3), (4, .int x4), (5, .int x5)] → W p l e { frames := 6, cells := 0, slots := 0, locals := 146 } s m args below meth c H locs 0 0 (MQ below (cq_i rf_T D cy z0 ad u X z.1 z.2) args s 0 0 (fun q => z0 ≤ q)) (F0 m 29 ls [])) (hf : f_X12_fell_29 q29 x1 x2 x3 x4 x5 M = some z) {H : Heap} {locs : List Loc} (hw : wd_in rf_T D cy z0 ad u M X s H locs) {ls : Array Slot} (hl : lv_has ls 8 [(0, .ref (ad 0)), (1, .int x1), (2, .int x2), (3, .int x3), (4, .int x4), (5, .int x5)]) : W p l e { frames := 6, cells := 0, slots := 0, locals := 146 } s m args below meth c H locs 0 0 (MQ below (cq_i rf_T D cy z0 ad u X z.1 z.2) args s 0 0 (fun q => z0 ≤ q)) (F0 m 29 ls []) := by
  have hx := hC.1
  have hb := hC.2.1
  unfold f_X12_fell_29 at hf
  refine lv_iload hx hb dX12_fell_29 (lv_at hl 5 rfl) ?_
  refine lv_aload_n hx hb dX12_fell_31 rfl (lv_at hl 0 rfl) ?_
  refine rg_i hC hw 0 (Nat.le_of_ble_eq_true rfl) rfl fd_X12_8 wf_X12_75 dX12_fell_32 ?_
  refine lv_icmp_ge (tgt := 118) hx hb dX12_fell_35 (by decide) (fun c6 => ?_) (fun c6 => ?_)
  · rw [if_pos c6] at hf
    exact k_X12_fell_118 hC hf hw (lv_sub hl [0, 4] rfl)
  · rw [if_neg c6] at hf
    refine lv_iconst (v := 0) hx hb dX12_fell_38 (by decide) ?_
    refine lv_istore (lv' := [(6, .int 0), (0, .ref (ad 0)), (1, .int x1), (2, .int x2), (3, .int x3), (4, .int x4), (5, .int x5)]) hx hb dX12_fell_39 hl (by decide) rfl (fun ls hl => ?_)
    refine lv_iconst (v := 0) hx hb dX12_fell_41 (by decide) ?_
    refine lv_istore (lv' := [(7, .int 0), (6, .int 0), (0, .ref (ad 0)), (1, .int x1), (2, .int x2), (3, .int x3), (4, .int x4), (5, .int x5)]) hx hb dX12_fell_42 hl (by decide) rfl (fun ls hl => ?_)
    exact k_X12_fell_44l hC hq29 fu_ _ _ _ _ _ _ _ _ _ _ _ hf hw (lv_sub hl [2, 3, 4, 5, 6, 7, 1, 0] rfl)
set_option maxRecDepth 100000 in
set_option maxHeartbeats 4000000 in
theorem k_X12_fell_29l {p : Program} {l : Launch} {e : Env} {s : State} {m : MethodId} {args : Array Value} {below : List Frame} {meth : Method} {c : Code} {D : va_G} {cy : Nat → ClassId} {z0 : Nat} {ad : Nat → Nat} {X : va_W} {u : Nat × Nat} (hC : cx_C p s m args meth c cX12_fell "RhymedThenModel" (Cond.code yX12_fell cX12_fell 8 (some .int)) 8 (some .int)) {z : (Int32 × mm_M)} : ∀ (n : Nat) (x1 : Int32) (x2 : Int32) (x3 : Int32) (x4 : Int32) (x5 : Int32) (M : mm_M) (H : Heap) (locs : List Loc) (ls : Array Slot), f_X12_fell_29l n x1 x2 x3 x4 x5 M = some z → wd_in rf_T D cy z0 ad u M X s H locs → lv_has ls 8 [(0, .ref (ad 0)), (1, .int x1), (2, .int x2), (3, .int x3), (4, .int x4), (5, .int x5)] → W p l e { frames := 6, cells := 0, slots := 0, locals := 146 } s m args below meth c H locs 0 0 (MQ below (cq_i rf_T D cy z0 ad u X z.1 z.2) args s 0 0 (fun q => z0 ≤ q)) (F0 m 29 ls []) := by
  intro n
  induction n with
  | zero => intro x1 x2 x3 x4 x5 M H locs ls hf; exact absurd hf (by simp [f_X12_fell_29l])
  | succ n ih => intro x1 x2 x3 x4 x5 M H locs ls hf hw hl; exact k_X12_fell_29 hC ih hf hw hl
set_option maxRecDepth 100000 in
set_option maxHeartbeats 4000000 in
theorem k_X12_fell {p : Program} {l : Launch} {e : Env} {s : State} {m : MethodId} {args : Array Value} {below : List Frame} {meth : Method} {c : Code} {D : va_G} {cy : Nat → ClassId} {z0 : Nat} {ad : Nat → Nat} {X : va_W} {u : Nat × Nat} (hC : cx_C p s m args meth c cX12_fell "RhymedThenModel" (Cond.code yX12_fell cX12_fell 8 (some .int)) 8 (some .int)) {z : (Int32 × mm_M)} {x1 : Int32} {x2 : Int32} {x3 : Int32} {M : mm_M} (hf : f_X12_fell x1 x2 x3 M = some z) {H : Heap} {locs : List Loc} (hw : wd_in rf_T D cy z0 ad u M X s H locs) {ls : Array Slot} (hl : lv_has ls 8 [(0, .ref (ad 0)), (1, .int x1), (2, .int x2), (3, .int x3)]) : W p l e { frames := 6, cells := 0, slots := 0, locals := 146 } s m args below meth c H locs 0 0 (MQ below (cq_i rf_T D cy z0 ad u X z.1 z.2) args s 0 0 (fun q => z0 ≤ q)) (F0 m 0 ls []) := by
  have hx := hC.1
  have hb := hC.2.1
  unfold f_X12_fell at hf
  refine lv_aload_n hx hb dX12_fell_0 rfl (lv_at hl 0 rfl) ?_
  refine lv_iconst (v := 0) hx hb dX12_fell_1 (by decide) ?_
  obtain ⟨M1, eM1, hf⟩ := sq_e hf
  refine rp_i hC hw 0 (Nat.le_of_ble_eq_true rfl) rfl fd_X12_0 wf_X12_1 fp_X12_0 rfl rfl dX12_fell_2 eM1 (fun H locs hw => ?_)
  refine lv_aload_n hx hb dX12_fell_5 rfl (lv_at hl 0 rfl) ?_
  refine lv_iload_n hx hb dX12_fell_6 rfl (lv_at hl 1 rfl) ?_
  obtain ⟨z2, ez2, hf⟩ := bd_e hf
  refine clc_Vi hC hw (c_X12_isHistory ez2) hd_X12_isHistory cw_X12_194 (Nat.le_of_ble_eq_true rfl) rfl rfl (rest := []) hl.1 rfl (Nat.le_of_ble_eq_true rfl) ⟨Nat.le_of_ble_eq_true rfl, Nat.le_of_ble_eq_true rfl⟩ ⟨Nat.zero_le _, Nat.zero_le _⟩ rfl dX12_fell_7 (fun H locs hw => ?_)
  refine lv_if_eq (tgt := 21) hx hb dX12_fell_10 (by decide) (fun c3 => ?_) (fun c3 => ?_)
  · rw [if_pos c3] at hf
    refine lv_iconst (v := (-1)) hx hb dX12_fell_21 (by decide) ?_
    have hz := Option.some.inj hf
    subst hz
    exact rtc_i hC hw dX12_fell_22
  · rw [if_neg c3] at hf
    refine lv_iload_n hx hb dX12_fell_13 rfl (lv_at hl 2 rfl) ?_
    refine lv_iload_n hx hb dX12_fell_14 rfl (lv_at hl 3 rfl) ?_
    obtain ⟨z4, ez4, hf⟩ := sq_e hf
    refine clc_Si hC hw (c_X12_isThen ez4.symm) hd_X12_isThen cw_X12_197 (rest := []) hl.1 rfl (Nat.le_of_ble_eq_true rfl) ⟨Nat.le_of_ble_eq_true rfl, Nat.le_of_ble_eq_true rfl⟩ ⟨Nat.zero_le _, Nat.zero_le _⟩ rfl dX12_fell_15 (fun H locs hw => ?_)
    refine lv_if_ne (tgt := 23) hx hb dX12_fell_18 (by decide) (fun c5 => ?_) (fun c5 => ?_)
    · rw [if_neg c5] at hf
      refine lv_iconst (v := 0) hx hb dX12_fell_23 (by decide) ?_
      refine lv_istore (lv' := [(4, .int 0), (0, .ref (ad 0)), (1, .int x1), (2, .int x2), (3, .int x3)]) hx hb dX12_fell_24 hl (by decide) rfl (fun ls hl => ?_)
      refine lv_iconst (v := 0) hx hb dX12_fell_26 (by decide) ?_
      refine lv_istore (lv' := [(5, .int 0), (4, .int 0), (0, .ref (ad 0)), (1, .int x1), (2, .int x2), (3, .int x3)]) hx hb dX12_fell_27 hl (by decide) rfl (fun ls hl => ?_)
      exact k_X12_fell_29l hC fu_ _ _ _ _ _ _ _ _ _ hf hw (lv_sub hl [2, 3, 4, 5, 1, 0] rfl)
    · rw [if_pos c5] at hf
      refine lv_iconst (v := (-1)) hx hb dX12_fell_21 (by decide) ?_
      have hz := Option.some.inj hf
      subst hz
      exact rtc_i hC hw dX12_fell_22
set_option maxRecDepth 100000 in
theorem c_X12_fell {l : Launch} {D : va_G} {cy : Nat → ClassId} {z0 : Nat} {ad : Nat → Nat} {u : Nat × Nat} {X : va_W} {z : (Int32 × mm_M)} {x1 : Int32} {x2 : Int32} {x3 : Int32} {M : mm_M} (hf : f_X12_fell x1 x2 x3 M = some z) : ct_i rf_T l yX12_fell (Cond.code yX12_fell cX12_fell 8 (some .int)) 6 146 D cy z0 ad u M X [.ref (ad 0), .int x1, .int x2, .int x3] z.1 z.2 := by
  refine bgc_i (by decide) (fun p e s m below meth c hC hw => ?_)
  refine en_t (Nat.le_of_ble_eq_true rfl) (fun ls hl => ?_)
  have hl : lv_has ls 8 [(0, .ref (ad 0)), (1, .int x1), (2, .int x2), (3, .int x3)] := hl
  exact k_X12_fell hC hf hw hl
set_option maxRecDepth 100000 in
set_option maxHeartbeats 4000000 in
theorem k_X12_town_125 {p : Program} {l : Launch} {e : Env} {s : State} {m : MethodId} {args : Array Value} {below : List Frame} {meth : Method} {c : Code} {D : va_G} {cy : Nat → ClassId} {z0 : Nat} {ad : Nat → Nat} {X : va_W} {u : Nat × Nat} (hC : cx_C p s m args meth c cX12_town "RhymedThenModel" (Cond.code yX12_town cX12_town 12 (some .int)) 12 (some .int)) {z : (Int32 × mm_M)} {x1 : Int32} {x2 : Int32} {x5 : Int64} {x7 : Int32} {x8 : Int32} {x9 : Int32} {x11 : Int32} {t0 : Int32} {t1 : Int32} {M : mm_M} {q71 : Int32 → Int32 → Int64 → Int32 → Int32 → Int32 → Int32 → Int32 → mm_M → Option (Int32 × mm_M)} (hq71 : ∀ (x1 : Int32) (x2 : Int32) (x5 : Int64) (x7 : Int32) (x8 : Int32) (x9 : Int32) (x10 : Int32) (x11 : Int32) (M : mm_M) (H : Heap) (locs : List Loc) (ls : Array Slot), q71 x1 x2 x5 x7 x8 x9 x10 x11 M = some z → wd_in rf_T D cy z0 ad u M X s H locs → lv_has ls 12 [(0, .ref (ad 0)), (1, .int x1), (2, .int x2), (5, .long x5), (7, .int x7), (8, .int x8), (9, .int x9), (10, .int x10), (11, .int x11)] → W p l e { frames := 5, cells := 0, slots := 0, locals := 121 } s m args below meth c H locs 0 0 (MQ below (cq_i rf_T D cy z0 ad u X z.1 z.2) args s 0 0 (fun q => z0 ≤ q)) (F0 m 71 ls [])) (hf : f_X12_town_125 q71 x1 x2 x5 x7 x8 x9 x11 t0 t1 M = some z) {H : Heap} {locs : List Loc} (hw : wd_in rf_T D cy z0 ad u M X s H locs) {ls : Array Slot} (hl : lv_has ls 12 [(0, .ref (ad 0)), (1, .int x1), (2, .int x2), (5, .long x5), (7, .int x7), (8, .int x8), (9, .int x9), (11, .int x11)]) : W p l e { frames := 5, cells := 0, slots := 0, locals := 121 } s m args below meth c H locs 0 0 (MQ below (cq_i rf_T D cy z0 ad u X z.1 z.2) args s 0 0 (fun q => z0 ≤ q)) (F0 m 125 ls [.int t1, .int t0]) := by
  have hx := hC.1
  have hb := hC.2.1
  unfold f_X12_town_125 at hf
  obtain ⟨z22, ez22, hf⟩ := sq_e hf
  refine clc_Si hC hw (c_X12_truth ez22.symm) hd_X12_truth cw_X12_39 (rest := [.int t0]) hl.1 rfl (Nat.le_of_ble_eq_true rfl) ⟨Nat.le_of_ble_eq_true rfl, Nat.le_of_ble_eq_true rfl⟩ ⟨Nat.zero_le _, Nat.zero_le _⟩ rfl dX12_town_125 (fun H locs hw => ?_)
  refine lv_iadd hx hb dX12_town_128 ?_
  obtain ⟨y23, ey23, hf⟩ := sq_e hf
  refine lt_i ey23 ?_
  refine lv_istore (lv' := [(10, .int y23), (0, .ref (ad 0)), (1, .int x1), (2, .int x2), (5, .long x5), (7, .int x7), (8, .int x8), (9, .int x9), (11, .int x11)]) hx hb dX12_town_129 hl (by decide) rfl (fun ls hl => ?_)
  refine lv_goto (tgt := 71) hx hb dX12_town_131 (by decide) ?_
  exact hq71 _ _ _ _ _ _ _ _ _ _ _ _ hf hw (lv_sub hl [1, 2, 3, 4, 5, 6, 7, 0, 8] rfl)
set_option maxRecDepth 100000 in
set_option maxHeartbeats 4000000 in
theorem k_X12_town_111 {p : Program} {l : Launch} {e : Env} {s : State} {m : MethodId} {args : Array Value} {below : List Frame} {meth : Method} {c : Code} {D : va_G} {cy : Nat → ClassId} {z0 : Nat} {ad : Nat → Nat} {X : va_W} {u : Nat × Nat} (hC : cx_C p s m args meth c cX12_town "RhymedThenModel" (Cond.code yX12_town cX12_town 12 (some .int)) 12 (some .int)) {z : (Int32 × mm_M)} {x1 : Int32} {x2 : Int32} {x5 : Int64} {x7 : Int32} {x8 : Int32} {x9 : Int32} {x10 : Int32} {t0 : Int32} {M : mm_M} {q71 : Int32 → Int32 → Int64 → Int32 → Int32 → Int32 → Int32 → Int32 → mm_M → Option (Int32 × mm_M)} (hq71 : ∀ (x1 : Int32) (x2 : Int32) (x5 : Int64) (x7 : Int32) (x8 : Int32) (x9 : Int32) (x10 : Int32) (x11 : Int32) (M : mm_M) (H : Heap) (locs : List Loc) (ls : Array Slot), q71 x1 x2 x5 x7 x8 x9 x10 x11 M = some z → wd_in rf_T D cy z0 ad u M X s H locs → lv_has ls 12 [(0, .ref (ad 0)), (1, .int x1), (2, .int x2), (5, .long x5), (7, .int x7), (8, .int x8), (9, .int x9), (10, .int x10), (11, .int x11)] → W p l e { frames := 5, cells := 0, slots := 0, locals := 121 } s m args below meth c H locs 0 0 (MQ below (cq_i rf_T D cy z0 ad u X z.1 z.2) args s 0 0 (fun q => z0 ≤ q)) (F0 m 71 ls [])) (hf : f_X12_town_111 q71 x1 x2 x5 x7 x8 x9 x10 t0 M = some z) {H : Heap} {locs : List Loc} (hw : wd_in rf_T D cy z0 ad u M X s H locs) {ls : Array Slot} (hl : lv_has ls 12 [(0, .ref (ad 0)), (1, .int x1), (2, .int x2), (5, .long x5), (7, .int x7), (8, .int x8), (9, .int x9), (10, .int x10)]) : W p l e { frames := 5, cells := 0, slots := 0, locals := 121 } s m args below meth c H locs 0 0 (MQ below (cq_i rf_T D cy z0 ad u X z.1 z.2) args s 0 0 (fun q => z0 ≤ q)) (F0 m 111 ls [.int t0]) := by
  have hx := hC.1
  have hb := hC.2.1
  unfold f_X12_town_111 at hf
  refine lv_istore (lv' := [(11, .int t0), (0, .ref (ad 0)), (1, .int x1), (2, .int x2), (5, .long x5), (7, .int x7), (8, .int x8), (9, .int x9), (10, .int x10)]) hx hb dX12_town_111 hl (by decide) rfl (fun ls hl => ?_)
  refine lv_iload hx hb dX12_town_113 (lv_at hl 8 rfl) ?_
  refine lv_iload hx hb dX12_town_115 (lv_at hl 0 rfl) ?_
  refine lv_if_ne (tgt := 124) hx hb dX12_town_117 (by decide) (fun c20 => ?_) (fun c20 => ?_)
  · rw [if_neg c20] at hf
    refine lv_iconst (v := 0) hx hb dX12_town_124 (by decide) ?_
    exact k_X12_town_125 hC hq71 hf hw (lv_sub hl [1, 2, 3, 4, 5, 6, 7, 0] rfl)
  · rw [if_pos c20] at hf
    refine lv_iconst (v := 1) hx hb dX12_town_120 (by decide) ?_
    refine lv_goto (tgt := 125) hx hb dX12_town_121 (by decide) ?_
    exact k_X12_town_125 hC hq71 hf hw (lv_sub hl [1, 2, 3, 4, 5, 6, 7, 0] rfl)
set_option maxRecDepth 100000 in
set_option maxHeartbeats 4000000 in
theorem k_X12_town_157 {p : Program} {l : Launch} {e : Env} {s : State} {m : MethodId} {args : Array Value} {below : List Frame} {meth : Method} {c : Code} {D : va_G} {cy : Nat → ClassId} {z0 : Nat} {ad : Nat → Nat} {X : va_W} {u : Nat × Nat} (hC : cx_C p s m args meth c cX12_town "RhymedThenModel" (Cond.code yX12_town cX12_town 12 (some .int)) 12 (some .int)) {z : (Int32 × mm_M)} {x1 : Int32} {x2 : Int32} {x5 : Int64} {x7 : Int32} {x8 : Int32} {x9 : Int32} {M : mm_M} {q58 : Int32 → Int32 → Int64 → Int32 → Int32 → Int32 → mm_M → Option (Int32 × mm_M)} (hq58 : ∀ (x1 : Int32) (x2 : Int32) (x5 : Int64) (x7 : Int32) (x8 : Int32) (x9 : Int32) (M : mm_M) (H : Heap) (locs : List Loc) (ls : Array Slot), q58 x1 x2 x5 x7 x8 x9 M = some z → wd_in rf_T D cy z0 ad u M X s H locs → lv_has ls 12 [(0, .ref (ad 0)), (1, .int x1), (2, .int x2), (5, .long x5), (7, .int x7), (8, .int x8), (9, .int x9)] → W p l e { frames := 5, cells := 0, slots := 0, locals := 121 } s m args below meth c H locs 0 0 (MQ below (cq_i rf_T D cy z0 ad u X z.1 z.2) args s 0 0 (fun q => z0 ≤ q)) (F0 m 58 ls [])) (hf : f_X12_town_157 q58 x1 x2 x5 x7 x8 x9 M = some z) {H : Heap} {locs : List Loc} (hw : wd_in rf_T D cy z0 ad u M X s H locs) {ls : Array Slot} (hl : lv_has ls 12 [(0, .ref (ad 0)), (1, .int x1), (2, .int x2), (5, .long x5), (7, .int x7), (8, .int x8), (9, .int x9)]) : W p l e { frames := 5, cells := 0, slots := 0, locals := 121 } s m args below meth c H locs 0 0 (MQ below (cq_i rf_T D cy z0 ad u X z.1 z.2) args s 0 0 (fun q => z0 ≤ q)) (F0 m 157 ls []) := by
  have hx := hC.1
  have hb := hC.2.1
  unfold f_X12_town_157 at hf
  obtain ⟨y21, ey21, hf⟩ := sq_e hf
  refine lv_iinc (v := y21) (lv' := [(9, .int y21), (0, .ref (ad 0)), (1, .int x1), (2, .int x2), (5, .long x5), (7, .int x7), (8, .int x8)]) hx hb dX12_town_157 hl (k := 6) rfl (by rw [ey21]; rfl) (by decide) rfl (fun ls hl => ?_)
  refine lv_goto (tgt := 58) hx hb dX12_town_160 (by decide) ?_
  exact hq58 _ _ _ _ _ _ _ _ _ _ hf hw (lv_sub hl [1, 2, 3, 4, 5, 6, 0] rfl)
set_option maxRecDepth 100000 in
set_option maxHeartbeats 4000000 in
theorem k_X12_town_134 {p : Program} {l : Launch} {e : Env} {s : State} {m : MethodId} {args : Array Value} {below : List Frame} {meth : Method} {c : Code} {D : va_G} {cy : Nat → ClassId} {z0 : Nat} {ad : Nat → Nat} {X : va_W} {u : Nat × Nat} (hC : cx_C p s m args meth c cX12_town "RhymedThenModel" (Cond.code yX12_town cX12_town 12 (some .int)) 12 (some .int)) {z : (Int32 × mm_M)} {x1 : Int32} {x2 : Int32} {x5 : Int64} {x7 : Int32} {x8 : Int32} {x9 : Int32} {x10 : Int32} {x11 : Int32} {M : mm_M} {q58 : Int32 → Int32 → Int64 → Int32 → Int32 → Int32 → mm_M → Option (Int32 × mm_M)} (hq58 : ∀ (x1 : Int32) (x2 : Int32) (x5 : Int64) (x7 : Int32) (x8 : Int32) (x9 : Int32) (M : mm_M) (H : Heap) (locs : List Loc) (ls : Array Slot), q58 x1 x2 x5 x7 x8 x9 M = some z → wd_in rf_T D cy z0 ad u M X s H locs → lv_has ls 12 [(0, .ref (ad 0)), (1, .int x1), (2, .int x2), (5, .long x5), (7, .int x7), (8, .int x8), (9, .int x9)] → W p l e { frames := 5, cells := 0, slots := 0, locals := 121 } s m args below meth c H locs 0 0 (MQ below (cq_i rf_T D cy z0 ad u X z.1 z.2) args s 0 0 (fun q => z0 ≤ q)) (F0 m 58 ls [])) (hf : f_X12_town_134 q58 x1 x2 x5 x7 x8 x9 x10 x11 M = some z) {H : Heap} {locs : List Loc} (hw : wd_in rf_T D cy z0 ad u M X s H locs) {ls : Array Slot} (hl : lv_has ls 12 [(0, .ref (ad 0)), (1, .int x1), (2, .int x2), (5, .long x5), (7, .int x7), (8, .int x8), (9, .int x9), (10, .int x10), (11, .int x11)]) : W p l e { frames := 5, cells := 0, slots := 0, locals := 121 } s m args below meth c H locs 0 0 (MQ below (cq_i rf_T D cy z0 ad u X z.1 z.2) args s 0 0 (fun q => z0 ≤ q)) (F0 m 134 ls []) := by
  have hx := hC.1
  have hb := hC.2.1
  unfold f_X12_town_134 at hf
  refine lv_iload hx hb dX12_town_134 (lv_at hl 8 rfl) ?_
  refine lv_if_ne (tgt := 142) hx hb dX12_town_136 (by decide) (fun c18 => ?_) (fun c18 => ?_)
  · rw [if_neg c18] at hf
    refine lv_iload hx hb dX12_town_142 (lv_at hl 7 rfl) ?_
    refine lv_iload hx hb dX12_town_144 (lv_at hl 4 rfl) ?_
    refine lv_icmp_le (tgt := 157) hx hb dX12_town_146 (by decide) (fun c19 => ?_) (fun c19 => ?_)
    · rw [if_pos c19] at hf
      exact k_X12_town_157 hC hq58 hf hw (lv_sub hl [0, 1, 2, 3, 4, 5, 6] rfl)
    · rw [if_neg c19] at hf
      refine lv_iload hx hb dX12_town_149 (lv_at hl 7 rfl) ?_
      refine lv_istore (lv' := [(7, .int x10), (0, .ref (ad 0)), (1, .int x1), (2, .int x2), (5, .long x5), (8, .int x8), (9, .int x9), (10, .int x10), (11, .int x11)]) hx hb dX12_town_151 hl (by decide) rfl (fun ls hl => ?_)
      refine lv_iload hx hb dX12_town_153 (lv_at hl 6 rfl) ?_
      refine lv_istore (lv' := [(8, .int x9), (7, .int x10), (0, .ref (ad 0)), (1, .int x1), (2, .int x2), (5, .long x5), (9, .int x9), (10, .int x10), (11, .int x11)]) hx hb dX12_town_155 hl (by decide) rfl (fun ls hl => ?_)
      exact k_X12_town_157 hC hq58 hf hw (lv_sub hl [2, 3, 4, 5, 1, 0, 6] rfl)
  · rw [if_pos c18] at hf
    refine lv_bipush (v := (-2)) hx hb dX12_town_139 (by decide) ?_
    have hz := Option.some.inj hf
    subst hz
    exact rtc_i hC hw dX12_town_141
set_option maxRecDepth 100000 in
set_option maxHeartbeats 4000000 in
theorem k_X12_town_71 {p : Program} {l : Launch} {e : Env} {s : State} {m : MethodId} {args : Array Value} {below : List Frame} {meth : Method} {c : Code} {D : va_G} {cy : Nat → ClassId} {z0 : Nat} {ad : Nat → Nat} {X : va_W} {u : Nat × Nat} (hC : cx_C p s m args meth c cX12_town "RhymedThenModel" (Cond.code yX12_town cX12_town 12 (some .int)) 12 (some .int)) {z : (Int32 × mm_M)} {x1 : Int32} {x2 : Int32} {x5 : Int64} {x7 : Int32} {x8 : Int32} {x9 : Int32} {x10 : Int32} {x11 : Int32} {M : mm_M} {q58 : Int32 → Int32 → Int64 → Int32 → Int32 → Int32 → mm_M → Option (Int32 × mm_M)} (hq58 : ∀ (x1 : Int32) (x2 : Int32) (x5 : Int64) (x7 : Int32) (x8 : Int32) (x9 : Int32) (M : mm_M) (H : Heap) (locs : List Loc) (ls : Array Slot), q58 x1 x2 x5 x7 x8 x9 M = some z → wd_in rf_T D cy z0 ad u M X s H locs → lv_has ls 12 [(0, .ref (ad 0)), (1, .int x1), (2, .int x2), (5, .long x5), (7, .int x7), (8, .int x8), (9, .int x9)] → W p l e { frames := 5, cells := 0, slots := 0, locals := 121 } s m args below meth c H locs 0 0 (MQ below (cq_i rf_T D cy z0 ad u X z.1 z.2) args s 0 0 (fun q => z0 ≤ q)) (F0 m 58 ls [])) {q71 : Int32 → Int32 → Int64 → Int32 → Int32 → Int32 → Int32 → Int32 → mm_M → Option (Int32 × mm_M)} (hq71 : ∀ (x1 : Int32) (x2 : Int32) (x5 : Int64) (x7 : Int32) (x8 : Int32) (x9 : Int32) (x10 : Int32) (x11 : Int32) (M : mm_M) (H : Heap) (locs : List Loc) (ls : Array Slot), q71 x1 x2 x5 x7 x8 x9 x10 x11 M = some z → wd_in rf_T D cy z0 ad u M X s H locs → lv_has ls 12 [(0, .ref (ad 0)), (1, .int x1), (2, .int x2), (5, .long x5), (7, .int x7), (8, .int x8), (9, .int x9), (10, .int x10), (11, .int x11)] → W p l e { frames := 5, cells := 0, slots := 0, locals := 121 } s m args below meth c H locs 0 0 (MQ below (cq_i rf_T D cy z0 ad u X z.1 z.2) args s 0 0 (fun q => z0 ≤ q)) (F0 m 71 ls [])) (hf : f_X12_town_71 q58 q71 x1 x2 x5 x7 x8 x9 x10 x11 M = some z) {H : Heap} {locs : List Loc} (hw : wd_in rf_T D cy z0 ad u M X s H locs) {ls : Array Slot} (hl : lv_has ls 12 [(0, .ref (ad 0)), (1, .int x1), (2, .int x2), (5, .long x5), (7, .int x7), (8, .int x8), (9, .int x9), (10, .int x10), (11, .int x11)]) : W p l e { frames := 5, cells := 0, slots := 0, locals := 121 } s m args below meth c H locs 0 0 (MQ below (cq_i rf_T D cy z0 ad u X z.1 z.2) args s 0 0 (fun q => z0 ≤ q)) (F0 m 71 ls []) := by
  have hx := hC.1
  have hb := hC.2.1
  unfold f_X12_town_71 at hf
  refine lv_iload hx hb dX12_town_71 (lv_at hl 7 rfl) ?_
  refine lv_sipush (v := 600) hx hb dX12_town_73 (by decide) ?_
  refine lv_icmp_gt (tgt := 134) hx hb dX12_town_76 (by decide) (fun c13 => ?_) (fun c13 => ?_)
  · rw [if_pos c13] at hf
    exact k_X12_town_134 hC hq58 hf hw (lv_sub hl [0, 1, 2, 3, 4, 5, 6, 7, 8] rfl)
  · rw [if_neg c13] at hf
    refine lv_iload hx hb dX12_town_79 (lv_at hl 8 rfl) ?_
    refine lv_if_ne (tgt := 134) hx hb dX12_town_81 (by decide) (fun c14 => ?_) (fun c14 => ?_)
    · rw [if_neg c14] at hf
      exact k_X12_town_134 hC hq58 hf hw (lv_sub hl [0, 1, 2, 3, 4, 5, 6, 7, 8] rfl)
    · rw [if_pos c14] at hf
      refine lv_aload_n hx hb dX12_town_84 rfl (lv_at hl 0 rfl) ?_
      refine lv_iconst (v := 0) hx hb dX12_town_85 (by decide) ?_
      refine lv_iload_n hx hb dX12_town_86 rfl (lv_at hl 1 rfl) ?_
      refine lv_iload_n hx hb dX12_town_87 rfl (lv_at hl 2 rfl) ?_
      refine lv_iload hx hb dX12_town_88 (lv_at hl 7 rfl) ?_
      refine lv_iload hx hb dX12_town_90 (lv_at hl 6 rfl) ?_
      obtain ⟨z15, ez15, hf⟩ := bd_e hf
      refine clc_Vv hC hw (c_X12_says ez15) hd_X12_says cw_X12_200 (Nat.le_of_ble_eq_true rfl) rfl rfl (rest := []) hl.1 rfl (Nat.le_of_ble_eq_true rfl) ⟨Nat.le_of_ble_eq_true rfl, Nat.le_of_ble_eq_true rfl⟩ ⟨Nat.zero_le _, Nat.zero_le _⟩ rfl dX12_town_92 (fun H locs hw => ?_)
      refine lv_aload_n hx hb dX12_town_95 rfl (lv_at hl 0 rfl) ?_
      refine lv_iconst (v := 0) hx hb dX12_town_96 (by decide) ?_
      obtain ⟨z16, ez16, hf⟩ := bd_e hf
      refine clc_Vl hC hw (c_X12_packs ez16) hd_X12_packs cw_X12_303 (Nat.le_of_ble_eq_true rfl) rfl rfl (rest := []) hl.1 rfl (Nat.le_of_ble_eq_true rfl) ⟨Nat.le_of_ble_eq_true rfl, Nat.le_of_ble_eq_true rfl⟩ ⟨Nat.zero_le _, Nat.zero_le _⟩ rfl dX12_town_97 (fun H locs hw => ?_)
      refine lv_lload hx hb dX12_town_100 (lv_at hl 3 rfl) ?_
      refine lc_ne (tgt := 110) hx hb dX12_town_102 dX12_town_103 (by decide) (fun c17 => ?_) (fun c17 => ?_)
      · rw [if_neg c17] at hf
        refine lv_iconst (v := 0) hx hb dX12_town_110 (by decide) ?_
        exact k_X12_town_111 hC hq71 hf hw (lv_sub hl [0, 1, 2, 3, 4, 5, 6, 7] rfl)
      · rw [if_pos c17] at hf
        refine lv_iconst (v := 1) hx hb dX12_town_106 (by decide) ?_
        refine lv_goto (tgt := 111) hx hb dX12_town_107 (by decide) ?_
        exact k_X12_town_111 hC hq71 hf hw (lv_sub hl [0, 1, 2, 3, 4, 5, 6, 7] rfl)
set_option maxRecDepth 100000 in
set_option maxHeartbeats 4000000 in
theorem k_X12_town_71l {p : Program} {l : Launch} {e : Env} {s : State} {m : MethodId} {args : Array Value} {below : List Frame} {meth : Method} {c : Code} {D : va_G} {cy : Nat → ClassId} {z0 : Nat} {ad : Nat → Nat} {X : va_W} {u : Nat × Nat} (hC : cx_C p s m args meth c cX12_town "RhymedThenModel" (Cond.code yX12_town cX12_town 12 (some .int)) 12 (some .int)) {z : (Int32 × mm_M)} {q58 : Int32 → Int32 → Int64 → Int32 → Int32 → Int32 → mm_M → Option (Int32 × mm_M)} (hq58 : ∀ (x1 : Int32) (x2 : Int32) (x5 : Int64) (x7 : Int32) (x8 : Int32) (x9 : Int32) (M : mm_M) (H : Heap) (locs : List Loc) (ls : Array Slot), q58 x1 x2 x5 x7 x8 x9 M = some z → wd_in rf_T D cy z0 ad u M X s H locs → lv_has ls 12 [(0, .ref (ad 0)), (1, .int x1), (2, .int x2), (5, .long x5), (7, .int x7), (8, .int x8), (9, .int x9)] → W p l e { frames := 5, cells := 0, slots := 0, locals := 121 } s m args below meth c H locs 0 0 (MQ below (cq_i rf_T D cy z0 ad u X z.1 z.2) args s 0 0 (fun q => z0 ≤ q)) (F0 m 58 ls [])) : ∀ (n : Nat) (x1 : Int32) (x2 : Int32) (x5 : Int64) (x7 : Int32) (x8 : Int32) (x9 : Int32) (x10 : Int32) (x11 : Int32) (M : mm_M) (H : Heap) (locs : List Loc) (ls : Array Slot), f_X12_town_71l q58 n x1 x2 x5 x7 x8 x9 x10 x11 M = some z → wd_in rf_T D cy z0 ad u M X s H locs → lv_has ls 12 [(0, .ref (ad 0)), (1, .int x1), (2, .int x2), (5, .long x5), (7, .int x7), (8, .int x8), (9, .int x9), (10, .int x10), (11, .int x11)] → W p l e { frames := 5, cells := 0, slots := 0, locals := 121 } s m args below meth c H locs 0 0 (MQ below (cq_i rf_T D cy z0 ad u X z.1 z.2) args s 0 0 (fun q => z0 ≤ q)) (F0 m 71 ls []) := by
  intro n
  induction n with
  | zero => intro x1 x2 x5 x7 x8 x9 x10 x11 M H locs ls hf; exact absurd hf (by simp [f_X12_town_71l])
  | succ n ih => intro x1 x2 x5 x7 x8 x9 x10 x11 M H locs ls hf hw hl; exact k_X12_town_71 hC hq58 ih hf hw hl
set_option maxRecDepth 100000 in
set_option maxHeartbeats 4000000 in
theorem k_X12_town_163 {p : Program} {l : Launch} {e : Env} {s : State} {m : MethodId} {args : Array Value} {below : List Frame} {meth : Method} {c : Code} {D : va_G} {cy : Nat → ClassId} {z0 : Nat} {ad : Nat → Nat} {X : va_W} {u : Nat × Nat} (hC : cx_C p s m args meth c cX12_town "RhymedThenModel" (Cond.code yX12_town cX12_town 12 (some .int)) 12 (some .int)) {z : (Int32 × mm_M)} {x7 : Int32} {x8 : Int32} {M : mm_M} (hf : f_X12_town_163 x7 x8 M = some z) {H : Heap} {locs : List Loc} (hw : wd_in rf_T D cy z0 ad u M X s H locs) {ls : Array Slot} (hl : lv_has ls 12 [(0, .ref (ad 0)), (7, .int x7), (8, .int x8)]) : W p l e { frames := 5, cells := 0, slots := 0, locals := 121 } s m args below meth c H locs 0 0 (MQ below (cq_i rf_T D cy z0 ad u X z.1 z.2) args s 0 0 (fun q => z0 ≤ q)) (F0 m 163 ls []) := by
  have hx := hC.1
  have hb := hC.2.1
  unfold f_X12_town_163 at hf
  refine lv_aload_n hx hb dX12_town_163 rfl (lv_at hl 0 rfl) ?_
  refine lv_iconst (v := 0) hx hb dX12_town_164 (by decide) ?_
  obtain ⟨M11, eM11, hf⟩ := sq_e hf
  refine rp_i hC hw 0 (Nat.le_of_ble_eq_true rfl) rfl fd_X12_1 wf_X12_11 fp_X12_1 rfl rfl dX12_town_165 eM11 (fun H locs hw => ?_)
  refine lv_aload_n hx hb dX12_town_168 rfl (lv_at hl 0 rfl) ?_
  refine lv_iload hx hb dX12_town_169 (lv_at hl 2 rfl) ?_
  refine lv_i2l hx hb dX12_town_171 rfl ?_
  obtain ⟨z12, ez12, hf⟩ := bd_e hf
  refine clc_Vv hC hw (c_X12_enters ez12) hd_X12_enters cw_X12_18 (Nat.le_of_ble_eq_true rfl) rfl rfl (rest := []) hl.1 rfl (Nat.le_of_ble_eq_true rfl) ⟨Nat.le_of_ble_eq_true rfl, Nat.le_of_ble_eq_true rfl⟩ ⟨Nat.zero_le _, Nat.zero_le _⟩ rfl dX12_town_172 (fun H locs hw => ?_)
  refine lv_iload hx hb dX12_town_175 (lv_at hl 1 rfl) ?_
  have hz := Option.some.inj hf
  subst hz
  exact rtc_i hC hw dX12_town_177
set_option maxRecDepth 100000 in
set_option maxHeartbeats 4000000 in
theorem k_X12_town_58 {p : Program} {l : Launch} {e : Env} {s : State} {m : MethodId} {args : Array Value} {below : List Frame} {meth : Method} {c : Code} {D : va_G} {cy : Nat → ClassId} {z0 : Nat} {ad : Nat → Nat} {X : va_W} {u : Nat × Nat} (hC : cx_C p s m args meth c cX12_town "RhymedThenModel" (Cond.code yX12_town cX12_town 12 (some .int)) 12 (some .int)) {z : (Int32 × mm_M)} {x1 : Int32} {x2 : Int32} {x5 : Int64} {x7 : Int32} {x8 : Int32} {x9 : Int32} {M : mm_M} {q58 : Int32 → Int32 → Int64 → Int32 → Int32 → Int32 → mm_M → Option (Int32 × mm_M)} (hq58 : ∀ (x1 : Int32) (x2 : Int32) (x5 : Int64) (x7 : Int32) (x8 : Int32) (x9 : Int32) (M : mm_M) (H : Heap) (locs : List Loc) (ls : Array Slot), q58 x1 x2 x5 x7 x8 x9 M = some z → wd_in rf_T D cy z0 ad u M X s H locs → lv_has ls 12 [(0, .ref (ad 0)), (1, .int x1), (2, .int x2), (5, .long x5), (7, .int x7), (8, .int x8), (9, .int x9)] → W p l e { frames := 5, cells := 0, slots := 0, locals := 121 } s m args below meth c H locs 0 0 (MQ below (cq_i rf_T D cy z0 ad u X z.1 z.2) args s 0 0 (fun q => z0 ≤ q)) (F0 m 58 ls [])) (hf : f_X12_town_58 q58 x1 x2 x5 x7 x8 x9 M = some z) {H : Heap} {locs : List Loc} (hw : wd_in rf_T D cy z0 ad u M X s H locs) {ls : Array Slot} (hl : lv_has ls 12 [(0, .ref (ad 0)), (1, .int x1), (2, .int x2), (5, .long x5), (7, .int x7), (8, .int x8), (9, .int x9)]) : W p l e { frames := 5, cells := 0, slots := 0, locals := 121 } s m args below meth c H locs 0 0 (MQ below (cq_i rf_T D cy z0 ad u X z.1 z.2) args s 0 0 (fun q => z0 ≤ q)) (F0 m 58 ls []) := by
  have hx := hC.1
  have hb := hC.2.1
  unfold f_X12_town_58 at hf
  refine lv_iload hx hb dX12_town_58 (lv_at hl 6 rfl) ?_
  refine lv_bipush (v := 6) hx hb dX12_town_60 (by decide) ?_
  refine lv_icmp_ge (tgt := 163) hx hb dX12_town_62 (by decide) (fun c10 => ?_) (fun c10 => ?_)
  · rw [if_pos c10] at hf
    exact k_X12_town_163 hC hf hw (lv_sub hl [0, 4, 5] rfl)
  · rw [if_neg c10] at hf
    refine lv_iconst (v := 0) hx hb dX12_town_65 (by decide) ?_
    refine lv_istore (lv' := [(10, .int 0), (0, .ref (ad 0)), (1, .int x1), (2, .int x2), (5, .long x5), (7, .int x7), (8, .int x8), (9, .int x9)]) hx hb dX12_town_66 hl (by decide) rfl (fun ls hl => ?_)
    refine lv_iconst (v := 0) hx hb dX12_town_68 (by decide) ?_
    refine lv_istore (lv' := [(11, .int 0), (10, .int 0), (0, .ref (ad 0)), (1, .int x1), (2, .int x2), (5, .long x5), (7, .int x7), (8, .int x8), (9, .int x9)]) hx hb dX12_town_69 hl (by decide) rfl (fun ls hl => ?_)
    exact k_X12_town_71l hC hq58 fu_ _ _ _ _ _ _ _ _ _ _ _ _ hf hw (lv_sub hl [2, 3, 4, 5, 6, 7, 8, 1, 0] rfl)
set_option maxRecDepth 100000 in
set_option maxHeartbeats 4000000 in
theorem k_X12_town_58l {p : Program} {l : Launch} {e : Env} {s : State} {m : MethodId} {args : Array Value} {below : List Frame} {meth : Method} {c : Code} {D : va_G} {cy : Nat → ClassId} {z0 : Nat} {ad : Nat → Nat} {X : va_W} {u : Nat × Nat} (hC : cx_C p s m args meth c cX12_town "RhymedThenModel" (Cond.code yX12_town cX12_town 12 (some .int)) 12 (some .int)) {z : (Int32 × mm_M)} : ∀ (n : Nat) (x1 : Int32) (x2 : Int32) (x5 : Int64) (x7 : Int32) (x8 : Int32) (x9 : Int32) (M : mm_M) (H : Heap) (locs : List Loc) (ls : Array Slot), f_X12_town_58l n x1 x2 x5 x7 x8 x9 M = some z → wd_in rf_T D cy z0 ad u M X s H locs → lv_has ls 12 [(0, .ref (ad 0)), (1, .int x1), (2, .int x2), (5, .long x5), (7, .int x7), (8, .int x8), (9, .int x9)] → W p l e { frames := 5, cells := 0, slots := 0, locals := 121 } s m args below meth c H locs 0 0 (MQ below (cq_i rf_T D cy z0 ad u X z.1 z.2) args s 0 0 (fun q => z0 ≤ q)) (F0 m 58 ls []) := by
  intro n
  induction n with
  | zero => intro x1 x2 x5 x7 x8 x9 M H locs ls hf; exact absurd hf (by simp [f_X12_town_58l])
  | succ n ih => intro x1 x2 x5 x7 x8 x9 M H locs ls hf hw hl; exact k_X12_town_58 hC ih hf hw hl
set_option maxRecDepth 100000 in
set_option maxHeartbeats 4000000 in
theorem k_X12_town {p : Program} {l : Launch} {e : Env} {s : State} {m : MethodId} {args : Array Value} {below : List Frame} {meth : Method} {c : Code} {D : va_G} {cy : Nat → ClassId} {z0 : Nat} {ad : Nat → Nat} {X : va_W} {u : Nat × Nat} (hC : cx_C p s m args meth c cX12_town "RhymedThenModel" (Cond.code yX12_town cX12_town 12 (some .int)) 12 (some .int)) {z : (Int32 × mm_M)} {x1 : Int32} {x2 : Int32} {x3 : Int32} {x4 : Int32} {M : mm_M} (hf : f_X12_town x1 x2 x3 x4 M = some z) {H : Heap} {locs : List Loc} (hw : wd_in rf_T D cy z0 ad u M X s H locs) {ls : Array Slot} (hl : lv_has ls 12 [(0, .ref (ad 0)), (1, .int x1), (2, .int x2), (3, .int x3), (4, .int x4)]) : W p l e { frames := 5, cells := 0, slots := 0, locals := 121 } s m args below meth c H locs 0 0 (MQ below (cq_i rf_T D cy z0 ad u X z.1 z.2) args s 0 0 (fun q => z0 ≤ q)) (F0 m 0 ls []) := by
  have hx := hC.1
  have hb := hC.2.1
  unfold f_X12_town at hf
  refine lv_aload_n hx hb dX12_town_0 rfl (lv_at hl 0 rfl) ?_
  refine lv_iconst (v := 0) hx hb dX12_town_1 (by decide) ?_
  obtain ⟨M1, eM1, hf⟩ := sq_e hf
  refine rp_i hC hw 0 (Nat.le_of_ble_eq_true rfl) rfl fd_X12_0 wf_X12_1 fp_X12_0 rfl rfl dX12_town_2 eM1 (fun H locs hw => ?_)
  refine lv_aload_n hx hb dX12_town_5 rfl (lv_at hl 0 rfl) ?_
  refine lv_iload_n hx hb dX12_town_6 rfl (lv_at hl 1 rfl) ?_
  obtain ⟨z2, ez2, hf⟩ := sq_e hf
  refine clc_Vi hC hw (c_X12_isWord ez2.symm) hd_X12_isWord cw_X12_191 (Nat.le_of_ble_eq_true rfl) rfl rfl (rest := []) hl.1 rfl (Nat.le_of_ble_eq_true rfl) ⟨Nat.le_of_ble_eq_true rfl, Nat.le_of_ble_eq_true rfl⟩ ⟨Nat.zero_le _, Nat.zero_le _⟩ rfl dX12_town_7 (fun H locs hw => ?_)
  refine lv_if_eq (tgt := 30) hx hb dX12_town_10 (by decide) (fun c3 => ?_) (fun c3 => ?_)
  · rw [if_pos c3] at hf
    refine lv_iconst (v := (-1)) hx hb dX12_town_30 (by decide) ?_
    have hz := Option.some.inj hf
    subst hz
    exact rtc_i hC hw dX12_town_31
  · rw [if_neg c3] at hf
    refine lv_aload_n hx hb dX12_town_13 rfl (lv_at hl 0 rfl) ?_
    refine lv_iload_n hx hb dX12_town_14 rfl (lv_at hl 2 rfl) ?_
    obtain ⟨z4, ez4, hf⟩ := bd_e hf
    refine clc_Vi hC hw (c_X12_isHistory ez4) hd_X12_isHistory cw_X12_194 (Nat.le_of_ble_eq_true rfl) rfl rfl (rest := []) hl.1 rfl (Nat.le_of_ble_eq_true rfl) ⟨Nat.le_of_ble_eq_true rfl, Nat.le_of_ble_eq_true rfl⟩ ⟨Nat.zero_le _, Nat.zero_le _⟩ rfl dX12_town_15 (fun H locs hw => ?_)
    refine lv_if_eq (tgt := 30) hx hb dX12_town_18 (by decide) (fun c5 => ?_) (fun c5 => ?_)
    · rw [if_pos c5] at hf
      refine lv_iconst (v := (-1)) hx hb dX12_town_30 (by decide) ?_
      have hz := Option.some.inj hf
      subst hz
      exact rtc_i hC hw dX12_town_31
    · rw [if_neg c5] at hf
      refine lv_iload_n hx hb dX12_town_21 rfl (lv_at hl 3 rfl) ?_
      refine lv_iload hx hb dX12_town_22 (lv_at hl 4 rfl) ?_
      obtain ⟨z6, ez6, hf⟩ := sq_e hf
      refine clc_Si hC hw (c_X12_isThen ez6.symm) hd_X12_isThen cw_X12_197 (rest := []) hl.1 rfl (Nat.le_of_ble_eq_true rfl) ⟨Nat.le_of_ble_eq_true rfl, Nat.le_of_ble_eq_true rfl⟩ ⟨Nat.zero_le _, Nat.zero_le _⟩ rfl dX12_town_24 (fun H locs hw => ?_)
      refine lv_if_ne (tgt := 32) hx hb dX12_town_27 (by decide) (fun c7 => ?_) (fun c7 => ?_)
      · rw [if_neg c7] at hf
        refine lv_aload_n hx hb dX12_town_32 rfl (lv_at hl 0 rfl) ?_
        refine lv_iconst (v := 0) hx hb dX12_town_33 (by decide) ?_
        refine lv_iload_n hx hb dX12_town_34 rfl (lv_at hl 1 rfl) ?_
        refine lv_iload_n hx hb dX12_town_35 rfl (lv_at hl 2 rfl) ?_
        refine lv_iload_n hx hb dX12_town_36 rfl (lv_at hl 3 rfl) ?_
        refine lv_iload hx hb dX12_town_37 (lv_at hl 4 rfl) ?_
        obtain ⟨z8, ez8, hf⟩ := bd_e hf
        refine clc_Vv hC hw (c_X12_says ez8) hd_X12_says cw_X12_200 (Nat.le_of_ble_eq_true rfl) rfl rfl (rest := []) hl.1 rfl (Nat.le_of_ble_eq_true rfl) ⟨Nat.le_of_ble_eq_true rfl, Nat.le_of_ble_eq_true rfl⟩ ⟨Nat.zero_le _, Nat.zero_le _⟩ rfl dX12_town_39 (fun H locs hw => ?_)
        refine lv_aload_n hx hb dX12_town_42 rfl (lv_at hl 0 rfl) ?_
        refine lv_iconst (v := 0) hx hb dX12_town_43 (by decide) ?_
        obtain ⟨z9, ez9, hf⟩ := bd_e hf
        refine clc_Vl hC hw (c_X12_packs ez9) hd_X12_packs cw_X12_303 (Nat.le_of_ble_eq_true rfl) rfl rfl (rest := []) hl.1 rfl (Nat.le_of_ble_eq_true rfl) ⟨Nat.le_of_ble_eq_true rfl, Nat.le_of_ble_eq_true rfl⟩ ⟨Nat.zero_le _, Nat.zero_le _⟩ rfl dX12_town_44 (fun H locs hw => ?_)
        refine lv_lstore (lv' := [(5, .long z9), (0, .ref (ad 0)), (1, .int x1), (2, .int x2), (3, .int x3), (4, .int x4)]) hx hb dX12_town_47 hl (by decide) rfl (fun ls hl => ?_)
        refine lv_iconst (v := (-1)) hx hb dX12_town_49 (by decide) ?_
        refine lv_istore (lv' := [(7, .int (-1)), (5, .long z9), (0, .ref (ad 0)), (1, .int x1), (2, .int x2), (3, .int x3), (4, .int x4)]) hx hb dX12_town_50 hl (by decide) rfl (fun ls hl => ?_)
        refine lv_iconst (v := 0) hx hb dX12_town_52 (by decide) ?_
        refine lv_istore (lv' := [(8, .int 0), (7, .int (-1)), (5, .long z9), (0, .ref (ad 0)), (1, .int x1), (2, .int x2), (3, .int x3), (4, .int x4)]) hx hb dX12_town_53 hl (by decide) rfl (fun ls hl => ?_)
        refine lv_iconst (v := 0) hx hb dX12_town_55 (by decide) ?_
        refine lv_istore (lv' := [(9, .int 0), (8, .int 0), (7, .int (-1)), (5, .long z9), (0, .ref (ad 0)), (1, .int x1), (2, .int x2), (3, .int x3), (4, .int x4)]) hx hb dX12_town_56 hl (by decide) rfl (fun ls hl => ?_)
        exact k_X12_town_58l hC fu_ _ _ _ _ _ _ _ _ _ _ hf hw (lv_sub hl [4, 5, 6, 3, 2, 1, 0] rfl)
      · rw [if_pos c7] at hf
        refine lv_iconst (v := (-1)) hx hb dX12_town_30 (by decide) ?_
        have hz := Option.some.inj hf
        subst hz
        exact rtc_i hC hw dX12_town_31
set_option maxRecDepth 100000 in
theorem c_X12_town {l : Launch} {D : va_G} {cy : Nat → ClassId} {z0 : Nat} {ad : Nat → Nat} {u : Nat × Nat} {X : va_W} {z : (Int32 × mm_M)} {x1 : Int32} {x2 : Int32} {x3 : Int32} {x4 : Int32} {M : mm_M} (hf : f_X12_town x1 x2 x3 x4 M = some z) : ct_i rf_T l yX12_town (Cond.code yX12_town cX12_town 12 (some .int)) 5 121 D cy z0 ad u M X [.ref (ad 0), .int x1, .int x2, .int x3, .int x4] z.1 z.2 := by
  refine bgc_i (by decide) (fun p e s m below meth c hC hw => ?_)
  refine en_t (Nat.le_of_ble_eq_true rfl) (fun ls hl => ?_)
  have hl : lv_has ls 12 [(0, .ref (ad 0)), (1, .int x1), (2, .int x2), (3, .int x3), (4, .int x4)] := hl
  exact k_X12_town hC hf hw hl
set_option maxRecDepth 100000 in
set_option maxHeartbeats 4000000 in
theorem k_X12_hasCome {p : Program} {l : Launch} {e : Env} {s : State} {m : MethodId} {args : Array Value} {below : List Frame} {meth : Method} {c : Code} {D : va_G} {cy : Nat → ClassId} {z0 : Nat} {ad : Nat → Nat} {X : va_W} {u : Nat × Nat} (hC : cx_C p s m args meth c cX12_hasCome "RhymedThenModel" (Cond.code yX12_hasCome cX12_hasCome 5 (some .boolean)) 5 (some .boolean)) {z : Int32} {x1 : Int32} {x2 : Int32} {x3 : Int32} {x4 : Int32} {M : mm_M} (hf : f_X12_hasCome x1 x2 x3 x4 M = some z) {H : Heap} {locs : List Loc} (hw : wd_in rf_T D cy z0 ad u M X s H locs) {ls : Array Slot} (hl : lv_has ls 5 [(0, .ref (ad 0)), (1, .int x1), (2, .int x2), (3, .int x3), (4, .int x4)]) : W p l e { frames := 1, cells := 0, slots := 0, locals := 24 } s m args below meth c H locs 0 0 (MQ below (cq_i rf_T D cy z0 ad u X z M) args s 0 0 (fun q => z0 ≤ q)) (F0 m 0 ls []) := by
  have hx := hC.1
  have hb := hC.2.1
  unfold f_X12_hasCome at hf
  refine lv_aload_n hx hb dX12_hasCome_0 rfl (lv_at hl 0 rfl) ?_
  refine lv_iload_n hx hb dX12_hasCome_1 rfl (lv_at hl 1 rfl) ?_
  refine lv_iload_n hx hb dX12_hasCome_2 rfl (lv_at hl 2 rfl) ?_
  obtain ⟨z1, ez1, hf⟩ := bd_e hf
  refine clc_Vi hC hw (c_X12_yearOf ez1) hd_X12_yearOf cw_X12_140 (Nat.le_of_ble_eq_true rfl) rfl rfl (rest := []) hl.1 rfl (Nat.le_of_ble_eq_true rfl) ⟨Nat.le_of_ble_eq_true rfl, Nat.le_of_ble_eq_true rfl⟩ ⟨Nat.zero_le _, Nat.zero_le _⟩ rfl dX12_hasCome_3 (fun H locs hw => ?_)
  refine lv_aload_n hx hb dX12_hasCome_6 rfl (lv_at hl 0 rfl) ?_
  refine rg_p hC hw 0 (Nat.le_of_ble_eq_true rfl) rfl fd_X12_19 wf_X12_122 (q := 13) rfl dX12_hasCome_7 ?_
  refine lv_iload hx hb dX12_hasCome_10 (lv_at hl 4 rfl) ?_
  obtain ⟨h2, hf⟩ := ck_e hf
  refine ra_i hC hw 13 (Nat.le_of_ble_eq_true rfl) rfl h2 dX12_hasCome_12 ?_
  refine lv_iadd hx hb dX12_hasCome_13 ?_
  refine lv_iload_n hx hb dX12_hasCome_14 rfl (lv_at hl 3 rfl) ?_
  refine lv_icmp_gt (tgt := 22) hx hb dX12_hasCome_15 (by decide) (fun c3 => ?_) (fun c3 => ?_)
  · rw [if_pos c3] at hf
    refine lv_iconst (v := 0) hx hb dX12_hasCome_22 (by decide) ?_
    have hz := Option.some.inj hf
    subst hz
    exact rtc_z hC hw (Or.inl rfl) dX12_hasCome_23
  · rw [if_neg c3] at hf
    refine lv_iconst (v := 1) hx hb dX12_hasCome_18 (by decide) ?_
    refine lv_goto (tgt := 23) hx hb dX12_hasCome_19 (by decide) ?_
    have hz := Option.some.inj hf
    subst hz
    exact rtc_z hC hw (Or.inr rfl) dX12_hasCome_23
set_option maxRecDepth 100000 in
theorem c_X12_hasCome {l : Launch} {D : va_G} {cy : Nat → ClassId} {z0 : Nat} {ad : Nat → Nat} {u : Nat × Nat} {X : va_W} {z : Int32} {x1 : Int32} {x2 : Int32} {x3 : Int32} {x4 : Int32} {M : mm_M} (hf : f_X12_hasCome x1 x2 x3 x4 M = some z) : ct_i rf_T l yX12_hasCome (Cond.code yX12_hasCome cX12_hasCome 5 (some .boolean)) 1 24 D cy z0 ad u M X [.ref (ad 0), .int x1, .int x2, .int x3, .int x4] z M := by
  refine bgc_i (by decide) (fun p e s m below meth c hC hw => ?_)
  refine en_t (Nat.le_of_ble_eq_true rfl) (fun ls hl => ?_)
  have hl : lv_has ls 5 [(0, .ref (ad 0)), (1, .int x1), (2, .int x2), (3, .int x3), (4, .int x4)] := hl
  exact k_X12_hasCome hC hf hw hl
set_option maxRecDepth 100000 in
set_option maxHeartbeats 4000000 in
theorem k_X12_swap_150 {p : Program} {l : Launch} {e : Env} {s : State} {m : MethodId} {args : Array Value} {below : List Frame} {meth : Method} {c : Code} {D : va_G} {cy : Nat → ClassId} {z0 : Nat} {ad : Nat → Nat} {X : va_W} {u : Nat × Nat} (hC : cx_C p s m args meth c cX12_swap "RhymedThenModel" (Cond.code yX12_swap cX12_swap 8 (some .int)) 8 (some .int)) {z : (Int32 × mm_M)} {x1 : Int32} {x2 : Int32} {x3 : Int32} {x4 : Int32} {x5 : Int32} {x7 : Int32} {t0 : Int32} {t1 : Int32} {M : mm_M} {q80 : Int32 → Int32 → Int32 → Int32 → Int32 → Int32 → Int32 → mm_M → Option (Int32 × mm_M)} (hq80 : ∀ (x1 : Int32) (x2 : Int32) (x3 : Int32) (x4 : Int32) (x5 : Int32) (x6 : Int32) (x7 : Int32) (M : mm_M) (H : Heap) (locs : List Loc) (ls : Array Slot), q80 x1 x2 x3 x4 x5 x6 x7 M = some z → wd_in rf_T D cy z0 ad u M X s H locs → lv_has ls 8 [(0, .ref (ad 0)), (1, .int x1), (2, .int x2), (3, .int x3), (4, .int x4), (5, .int x5), (6, .int x6), (7, .int x7)] → W p l e { frames := 5, cells := 0, slots := 0, locals := 121 } s m args below meth c H locs 0 0 (MQ below (cq_i rf_T D cy z0 ad u X z.1 z.2) args s 0 0 (fun q => z0 ≤ q)) (F0 m 80 ls [])) (hf : f_X12_swap_150 q80 x1 x2 x3 x4 x5 x7 t0 t1 M = some z) {H : Heap} {locs : List Loc} (hw : wd_in rf_T D cy z0 ad u M X s H locs) {ls : Array Slot} (hl : lv_has ls 8 [(0, .ref (ad 0)), (1, .int x1), (2, .int x2), (3, .int x3), (4, .int x4), (5, .int x5), (7, .int x7)]) : W p l e { frames := 5, cells := 0, slots := 0, locals := 121 } s m args below meth c H locs 0 0 (MQ below (cq_i rf_T D cy z0 ad u X z.1 z.2) args s 0 0 (fun q => z0 ≤ q)) (F0 m 150 ls [.int t1, .int t0]) := by
  have hx := hC.1
  have hb := hC.2.1
  unfold f_X12_swap_150 at hf
  refine lv_ior hx hb dX12_swap_150 ?_
  obtain ⟨y24, ey24, hf⟩ := sq_e hf
  refine lt_i ey24 ?_
  refine lv_istore (lv' := [(6, .int y24), (0, .ref (ad 0)), (1, .int x1), (2, .int x2), (3, .int x3), (4, .int x4), (5, .int x5), (7, .int x7)]) hx hb dX12_swap_151 hl (by decide) rfl (fun ls hl => ?_)
  obtain ⟨y25, ey25, hf⟩ := sq_e hf
  refine lv_iinc (v := y25) (lv' := [(7, .int y25), (6, .int y24), (0, .ref (ad 0)), (1, .int x1), (2, .int x2), (3, .int x3), (4, .int x4), (5, .int x5)]) hx hb dX12_swap_153 hl (k := 7) rfl (by rw [ey25]; rfl) (by decide) rfl (fun ls hl => ?_)
  refine lv_goto (tgt := 80) hx hb dX12_swap_156 (by decide) ?_
  exact hq80 _ _ _ _ _ _ _ _ _ _ _ hf hw (lv_sub hl [2, 3, 4, 5, 6, 7, 1, 0] rfl)
set_option maxRecDepth 100000 in
set_option maxHeartbeats 4000000 in
theorem k_X12_swap_80 {p : Program} {l : Launch} {e : Env} {s : State} {m : MethodId} {args : Array Value} {below : List Frame} {meth : Method} {c : Code} {D : va_G} {cy : Nat → ClassId} {z0 : Nat} {ad : Nat → Nat} {X : va_W} {u : Nat × Nat} (hC : cx_C p s m args meth c cX12_swap "RhymedThenModel" (Cond.code yX12_swap cX12_swap 8 (some .int)) 8 (some .int)) {z : (Int32 × mm_M)} {x1 : Int32} {x2 : Int32} {x3 : Int32} {x4 : Int32} {x5 : Int32} {x6 : Int32} {x7 : Int32} {M : mm_M} {q80 : Int32 → Int32 → Int32 → Int32 → Int32 → Int32 → Int32 → mm_M → Option (Int32 × mm_M)} (hq80 : ∀ (x1 : Int32) (x2 : Int32) (x3 : Int32) (x4 : Int32) (x5 : Int32) (x6 : Int32) (x7 : Int32) (M : mm_M) (H : Heap) (locs : List Loc) (ls : Array Slot), q80 x1 x2 x3 x4 x5 x6 x7 M = some z → wd_in rf_T D cy z0 ad u M X s H locs → lv_has ls 8 [(0, .ref (ad 0)), (1, .int x1), (2, .int x2), (3, .int x3), (4, .int x4), (5, .int x5), (6, .int x6), (7, .int x7)] → W p l e { frames := 5, cells := 0, slots := 0, locals := 121 } s m args below meth c H locs 0 0 (MQ below (cq_i rf_T D cy z0 ad u X z.1 z.2) args s 0 0 (fun q => z0 ≤ q)) (F0 m 80 ls [])) (hf : f_X12_swap_80 q80 x1 x2 x3 x4 x5 x6 x7 M = some z) {H : Heap} {locs : List Loc} (hw : wd_in rf_T D cy z0 ad u M X s H locs) {ls : Array Slot} (hl : lv_has ls 8 [(0, .ref (ad 0)), (1, .int x1), (2, .int x2), (3, .int x3), (4, .int x4), (5, .int x5), (6, .int x6), (7, .int x7)]) : W p l e { frames := 5, cells := 0, slots := 0, locals := 121 } s m args below meth c H locs 0 0 (MQ below (cq_i rf_T D cy z0 ad u X z.1 z.2) args s 0 0 (fun q => z0 ≤ q)) (F0 m 80 ls []) := by
  have hx := hC.1
  have hb := hC.2.1
  unfold f_X12_swap_80 at hf
  refine lv_iload hx hb dX12_swap_80 (lv_at hl 7 rfl) ?_
  refine lv_aload_n hx hb dX12_swap_82 rfl (lv_at hl 0 rfl) ?_
  refine rg_i hC hw 0 (Nat.le_of_ble_eq_true rfl) rfl fd_X12_8 wf_X12_75 dX12_swap_83 ?_
  refine lv_icmp_ge (tgt := 159) hx hb dX12_swap_86 (by decide) (fun c15 => ?_) (fun c15 => ?_)
  · rw [if_pos c15] at hf
    refine lv_iload hx hb dX12_swap_159 (lv_at hl 6 rfl) ?_
    have hz := Option.some.inj hf
    subst hz
    exact rtc_i hC hw dX12_swap_161
  · rw [if_neg c15] at hf
    refine lv_aload_n hx hb dX12_swap_89 rfl (lv_at hl 0 rfl) ?_
    refine lv_iconst (v := 0) hx hb dX12_swap_90 (by decide) ?_
    refine lv_iload hx hb dX12_swap_91 (lv_at hl 7 rfl) ?_
    refine lv_iload_n hx hb dX12_swap_93 rfl (lv_at hl 3 rfl) ?_
    refine lv_iload hx hb dX12_swap_94 (lv_at hl 4 rfl) ?_
    refine lv_iload hx hb dX12_swap_96 (lv_at hl 5 rfl) ?_
    obtain ⟨z16, ez16, hf⟩ := bd_e hf
    refine clc_Vv hC hw (c_X12_says ez16) hd_X12_says cw_X12_200 (Nat.le_of_ble_eq_true rfl) rfl rfl (rest := []) hl.1 rfl (Nat.le_of_ble_eq_true rfl) ⟨Nat.le_of_ble_eq_true rfl, Nat.le_of_ble_eq_true rfl⟩ ⟨Nat.zero_le _, Nat.zero_le _⟩ rfl dX12_swap_98 (fun H locs hw => ?_)
    refine lv_aload_n hx hb dX12_swap_101 rfl (lv_at hl 0 rfl) ?_
    refine lv_iload_n hx hb dX12_swap_102 rfl (lv_at hl 1 rfl) ?_
    obtain ⟨M17, eM17, hf⟩ := sq_e hf
    refine rp_i hC hw 0 (Nat.le_of_ble_eq_true rfl) rfl fd_X12_26 wf_X12_146 fp_X12_26 rfl rfl dX12_swap_103 eM17 (fun H locs hw => ?_)
    refine lv_aload_n hx hb dX12_swap_106 rfl (lv_at hl 0 rfl) ?_
    refine lv_iload_n hx hb dX12_swap_107 rfl (lv_at hl 2 rfl) ?_
    obtain ⟨M18, eM18, hf⟩ := sq_e hf
    refine rp_i hC hw 0 (Nat.le_of_ble_eq_true rfl) rfl fd_X12_27 wf_X12_149 fp_X12_27 rfl rfl dX12_swap_108 eM18 (fun H locs hw => ?_)
    refine lv_aload_n hx hb dX12_swap_111 rfl (lv_at hl 0 rfl) ?_
    refine lv_iconst (v := 1) hx hb dX12_swap_112 (by decide) ?_
    refine lv_iload hx hb dX12_swap_113 (lv_at hl 7 rfl) ?_
    refine lv_iload_n hx hb dX12_swap_115 rfl (lv_at hl 3 rfl) ?_
    refine lv_iload hx hb dX12_swap_116 (lv_at hl 4 rfl) ?_
    refine lv_iload hx hb dX12_swap_118 (lv_at hl 5 rfl) ?_
    obtain ⟨z19, ez19, hf⟩ := bd_e hf
    refine clc_Vv hC hw (c_X12_says ez19) hd_X12_says cw_X12_200 (Nat.le_of_ble_eq_true rfl) rfl rfl (rest := []) hl.1 rfl (Nat.le_of_ble_eq_true rfl) ⟨Nat.le_of_ble_eq_true rfl, Nat.le_of_ble_eq_true rfl⟩ ⟨Nat.zero_le _, Nat.zero_le _⟩ rfl dX12_swap_120 (fun H locs hw => ?_)
    refine lv_aload_n hx hb dX12_swap_123 rfl (lv_at hl 0 rfl) ?_
    refine lv_iconst (v := (-1)) hx hb dX12_swap_124 (by decide) ?_
    obtain ⟨M20, eM20, hf⟩ := sq_e hf
    refine rp_i hC hw 0 (Nat.le_of_ble_eq_true rfl) rfl fd_X12_26 wf_X12_146 fp_X12_26 rfl rfl dX12_swap_125 eM20 (fun H locs hw => ?_)
    refine lv_aload_n hx hb dX12_swap_128 rfl (lv_at hl 0 rfl) ?_
    refine lv_iconst (v := (-1)) hx hb dX12_swap_129 (by decide) ?_
    obtain ⟨M21, eM21, hf⟩ := sq_e hf
    refine rp_i hC hw 0 (Nat.le_of_ble_eq_true rfl) rfl fd_X12_27 wf_X12_149 fp_X12_27 rfl rfl dX12_swap_130 eM21 (fun H locs hw => ?_)
    refine lv_iload hx hb dX12_swap_133 (lv_at hl 6 rfl) ?_
    refine lv_aload_n hx hb dX12_swap_135 rfl (lv_at hl 0 rfl) ?_
    obtain ⟨z22, ez22, hf⟩ := bd_e hf
    refine clc_Vi hC hw (c_X12_areAlike ez22) hd_X12_areAlike cw_X12_204 (Nat.le_of_ble_eq_true rfl) rfl rfl (rest := [.int x6]) hl.1 rfl (Nat.le_of_ble_eq_true rfl) ⟨Nat.le_of_ble_eq_true rfl, Nat.le_of_ble_eq_true rfl⟩ ⟨Nat.zero_le _, Nat.zero_le _⟩ rfl dX12_swap_136 (fun H locs hw => ?_)
    refine lv_if_eq (tgt := 146) hx hb dX12_swap_139 (by decide) (fun c23 => ?_) (fun c23 => ?_)
    · rw [if_pos c23] at hf
      refine lv_iconst (v := 1) hx hb dX12_swap_146 (by decide) ?_
      refine lv_iload hx hb dX12_swap_147 (lv_at hl 7 rfl) ?_
      refine lv_ishl hx hb dX12_swap_149 ?_
      exact k_X12_swap_150 hC hq80 hf hw (lv_sub hl [0, 1, 2, 3, 4, 5, 7] rfl)
    · rw [if_neg c23] at hf
      refine lv_iconst (v := 0) hx hb dX12_swap_142 (by decide) ?_
      refine lv_goto (tgt := 150) hx hb dX12_swap_143 (by decide) ?_
      exact k_X12_swap_150 hC hq80 hf hw (lv_sub hl [0, 1, 2, 3, 4, 5, 7] rfl)
set_option maxRecDepth 100000 in
set_option maxHeartbeats 4000000 in
theorem k_X12_swap_80l {p : Program} {l : Launch} {e : Env} {s : State} {m : MethodId} {args : Array Value} {below : List Frame} {meth : Method} {c : Code} {D : va_G} {cy : Nat → ClassId} {z0 : Nat} {ad : Nat → Nat} {X : va_W} {u : Nat × Nat} (hC : cx_C p s m args meth c cX12_swap "RhymedThenModel" (Cond.code yX12_swap cX12_swap 8 (some .int)) 8 (some .int)) {z : (Int32 × mm_M)} : ∀ (n : Nat) (x1 : Int32) (x2 : Int32) (x3 : Int32) (x4 : Int32) (x5 : Int32) (x6 : Int32) (x7 : Int32) (M : mm_M) (H : Heap) (locs : List Loc) (ls : Array Slot), f_X12_swap_80l n x1 x2 x3 x4 x5 x6 x7 M = some z → wd_in rf_T D cy z0 ad u M X s H locs → lv_has ls 8 [(0, .ref (ad 0)), (1, .int x1), (2, .int x2), (3, .int x3), (4, .int x4), (5, .int x5), (6, .int x6), (7, .int x7)] → W p l e { frames := 5, cells := 0, slots := 0, locals := 121 } s m args below meth c H locs 0 0 (MQ below (cq_i rf_T D cy z0 ad u X z.1 z.2) args s 0 0 (fun q => z0 ≤ q)) (F0 m 80 ls []) := by
  intro n
  induction n with
  | zero => intro x1 x2 x3 x4 x5 x6 x7 M H locs ls hf; exact absurd hf (by simp [f_X12_swap_80l])
  | succ n ih => intro x1 x2 x3 x4 x5 x6 x7 M H locs ls hf hw hl; exact k_X12_swap_80 hC ih hf hw hl
set_option maxRecDepth 100000 in
set_option maxHeartbeats 4000000 in
theorem k_X12_swap {p : Program} {l : Launch} {e : Env} {s : State} {m : MethodId} {args : Array Value} {below : List Frame} {meth : Method} {c : Code} {D : va_G} {cy : Nat → ClassId} {z0 : Nat} {ad : Nat → Nat} {X : va_W} {u : Nat × Nat} (hC : cx_C p s m args meth c cX12_swap "RhymedThenModel" (Cond.code yX12_swap cX12_swap 8 (some .int)) 8 (some .int)) {z : (Int32 × mm_M)} {x1 : Int32} {x2 : Int32} {x3 : Int32} {x4 : Int32} {x5 : Int32} {M : mm_M} (hf : f_X12_swap x1 x2 x3 x4 x5 M = some z) {H : Heap} {locs : List Loc} (hw : wd_in rf_T D cy z0 ad u M X s H locs) {ls : Array Slot} (hl : lv_has ls 8 [(0, .ref (ad 0)), (1, .int x1), (2, .int x2), (3, .int x3), (4, .int x4), (5, .int x5)]) : W p l e { frames := 5, cells := 0, slots := 0, locals := 121 } s m args below meth c H locs 0 0 (MQ below (cq_i rf_T D cy z0 ad u X z.1 z.2) args s 0 0 (fun q => z0 ≤ q)) (F0 m 0 ls []) := by
  have hx := hC.1
  have hb := hC.2.1
  unfold f_X12_swap at hf
  refine lv_aload_n hx hb dX12_swap_0 rfl (lv_at hl 0 rfl) ?_
  refine lv_iconst (v := 0) hx hb dX12_swap_1 (by decide) ?_
  obtain ⟨M1, eM1, hf⟩ := sq_e hf
  refine rp_i hC hw 0 (Nat.le_of_ble_eq_true rfl) rfl fd_X12_0 wf_X12_1 fp_X12_0 rfl rfl dX12_swap_2 eM1 (fun H locs hw => ?_)
  refine lv_aload_n hx hb dX12_swap_5 rfl (lv_at hl 0 rfl) ?_
  refine lv_iload_n hx hb dX12_swap_6 rfl (lv_at hl 1 rfl) ?_
  obtain ⟨z2, ez2, hf⟩ := sq_e hf
  refine clc_Vi hC hw (c_X12_isLaw ez2.symm) hd_X12_isLaw cw_X12_217 (Nat.le_of_ble_eq_true rfl) rfl rfl (rest := []) hl.1 rfl (Nat.le_of_ble_eq_true rfl) ⟨Nat.le_of_ble_eq_true rfl, Nat.le_of_ble_eq_true rfl⟩ ⟨Nat.zero_le _, Nat.zero_le _⟩ rfl dX12_swap_7 (fun H locs hw => ?_)
  refine lv_if_eq (tgt := 44) hx hb dX12_swap_10 (by decide) (fun c3 => ?_) (fun c3 => ?_)
  · rw [if_pos c3] at hf
    refine lv_iconst (v := (-1)) hx hb dX12_swap_44 (by decide) ?_
    have hz := Option.some.inj hf
    subst hz
    exact rtc_i hC hw dX12_swap_45
  · rw [if_neg c3] at hf
    refine lv_aload_n hx hb dX12_swap_13 rfl (lv_at hl 0 rfl) ?_
    refine lv_iload_n hx hb dX12_swap_14 rfl (lv_at hl 2 rfl) ?_
    obtain ⟨z4, ez4, hf⟩ := sq_e hf
    refine clc_Vi hC hw (c_X12_isLaw ez4.symm) hd_X12_isLaw cw_X12_217 (Nat.le_of_ble_eq_true rfl) rfl rfl (rest := []) hl.1 rfl (Nat.le_of_ble_eq_true rfl) ⟨Nat.le_of_ble_eq_true rfl, Nat.le_of_ble_eq_true rfl⟩ ⟨Nat.zero_le _, Nat.zero_le _⟩ rfl dX12_swap_15 (fun H locs hw => ?_)
    refine lv_if_eq (tgt := 44) hx hb dX12_swap_18 (by decide) (fun c5 => ?_) (fun c5 => ?_)
    · rw [if_pos c5] at hf
      refine lv_iconst (v := (-1)) hx hb dX12_swap_44 (by decide) ?_
      have hz := Option.some.inj hf
      subst hz
      exact rtc_i hC hw dX12_swap_45
    · rw [if_neg c5] at hf
      refine lv_iload_n hx hb dX12_swap_21 rfl (lv_at hl 1 rfl) ?_
      refine lv_iload_n hx hb dX12_swap_22 rfl (lv_at hl 2 rfl) ?_
      refine lv_icmp_eq (tgt := 44) hx hb dX12_swap_23 (by decide) (fun c6 => ?_) (fun c6 => ?_)
      · rw [if_pos c6] at hf
        refine lv_iconst (v := (-1)) hx hb dX12_swap_44 (by decide) ?_
        have hz := Option.some.inj hf
        subst hz
        exact rtc_i hC hw dX12_swap_45
      · rw [if_neg c6] at hf
        refine lv_aload_n hx hb dX12_swap_26 rfl (lv_at hl 0 rfl) ?_
        refine lv_iload_n hx hb dX12_swap_27 rfl (lv_at hl 3 rfl) ?_
        obtain ⟨z7, ez7, hf⟩ := bd_e hf
        refine clc_Vi hC hw (c_X12_isHistory ez7) hd_X12_isHistory cw_X12_194 (Nat.le_of_ble_eq_true rfl) rfl rfl (rest := []) hl.1 rfl (Nat.le_of_ble_eq_true rfl) ⟨Nat.le_of_ble_eq_true rfl, Nat.le_of_ble_eq_true rfl⟩ ⟨Nat.zero_le _, Nat.zero_le _⟩ rfl dX12_swap_28 (fun H locs hw => ?_)
        refine lv_if_eq (tgt := 44) hx hb dX12_swap_31 (by decide) (fun c8 => ?_) (fun c8 => ?_)
        · rw [if_pos c8] at hf
          refine lv_iconst (v := (-1)) hx hb dX12_swap_44 (by decide) ?_
          have hz := Option.some.inj hf
          subst hz
          exact rtc_i hC hw dX12_swap_45
        · rw [if_neg c8] at hf
          refine lv_iload hx hb dX12_swap_34 (lv_at hl 4 rfl) ?_
          refine lv_iload hx hb dX12_swap_36 (lv_at hl 5 rfl) ?_
          obtain ⟨z9, ez9, hf⟩ := sq_e hf
          refine clc_Si hC hw (c_X12_isThen ez9.symm) hd_X12_isThen cw_X12_197 (rest := []) hl.1 rfl (Nat.le_of_ble_eq_true rfl) ⟨Nat.le_of_ble_eq_true rfl, Nat.le_of_ble_eq_true rfl⟩ ⟨Nat.zero_le _, Nat.zero_le _⟩ rfl dX12_swap_38 (fun H locs hw => ?_)
          refine lv_if_ne (tgt := 46) hx hb dX12_swap_41 (by decide) (fun c10 => ?_) (fun c10 => ?_)
          · rw [if_neg c10] at hf
            refine lv_aload_n hx hb dX12_swap_46 rfl (lv_at hl 0 rfl) ?_
            refine lv_iload_n hx hb dX12_swap_47 rfl (lv_at hl 1 rfl) ?_
            refine lv_iload_n hx hb dX12_swap_48 rfl (lv_at hl 3 rfl) ?_
            refine lv_iload hx hb dX12_swap_49 (lv_at hl 4 rfl) ?_
            refine lv_iload hx hb dX12_swap_51 (lv_at hl 5 rfl) ?_
            obtain ⟨z11, ez11, hf⟩ := bd_e hf
            refine clc_Vi hC hw (c_X12_hasCome ez11) hd_X12_hasCome cw_X12_377 (Nat.le_of_ble_eq_true rfl) rfl rfl (rest := []) hl.1 rfl (Nat.le_of_ble_eq_true rfl) ⟨Nat.le_of_ble_eq_true rfl, Nat.le_of_ble_eq_true rfl⟩ ⟨Nat.zero_le _, Nat.zero_le _⟩ rfl dX12_swap_53 (fun H locs hw => ?_)
            refine lv_if_eq (tgt := 72) hx hb dX12_swap_56 (by decide) (fun c12 => ?_) (fun c12 => ?_)
            · rw [if_pos c12] at hf
              refine lv_iconst (v := (-1)) hx hb dX12_swap_72 (by decide) ?_
              have hz := Option.some.inj hf
              subst hz
              exact rtc_i hC hw dX12_swap_73
            · rw [if_neg c12] at hf
              refine lv_aload_n hx hb dX12_swap_59 rfl (lv_at hl 0 rfl) ?_
              refine lv_iload_n hx hb dX12_swap_60 rfl (lv_at hl 2 rfl) ?_
              refine lv_iload_n hx hb dX12_swap_61 rfl (lv_at hl 3 rfl) ?_
              refine lv_iload hx hb dX12_swap_62 (lv_at hl 4 rfl) ?_
              refine lv_iload hx hb dX12_swap_64 (lv_at hl 5 rfl) ?_
              obtain ⟨z13, ez13, hf⟩ := bd_e hf
              refine clc_Vi hC hw (c_X12_hasCome ez13) hd_X12_hasCome cw_X12_377 (Nat.le_of_ble_eq_true rfl) rfl rfl (rest := []) hl.1 rfl (Nat.le_of_ble_eq_true rfl) ⟨Nat.le_of_ble_eq_true rfl, Nat.le_of_ble_eq_true rfl⟩ ⟨Nat.zero_le _, Nat.zero_le _⟩ rfl dX12_swap_66 (fun H locs hw => ?_)
              refine lv_if_ne (tgt := 74) hx hb dX12_swap_69 (by decide) (fun c14 => ?_) (fun c14 => ?_)
              · rw [if_neg c14] at hf
                refine lv_iconst (v := 0) hx hb dX12_swap_74 (by decide) ?_
                refine lv_istore (lv' := [(6, .int 0), (0, .ref (ad 0)), (1, .int x1), (2, .int x2), (3, .int x3), (4, .int x4), (5, .int x5)]) hx hb dX12_swap_75 hl (by decide) rfl (fun ls hl => ?_)
                refine lv_iconst (v := 0) hx hb dX12_swap_77 (by decide) ?_
                refine lv_istore (lv' := [(7, .int 0), (6, .int 0), (0, .ref (ad 0)), (1, .int x1), (2, .int x2), (3, .int x3), (4, .int x4), (5, .int x5)]) hx hb dX12_swap_78 hl (by decide) rfl (fun ls hl => ?_)
                exact k_X12_swap_80l hC fu_ _ _ _ _ _ _ _ _ _ _ _ hf hw (lv_sub hl [2, 3, 4, 5, 6, 7, 1, 0] rfl)
              · rw [if_pos c14] at hf
                refine lv_iconst (v := (-1)) hx hb dX12_swap_72 (by decide) ?_
                have hz := Option.some.inj hf
                subst hz
                exact rtc_i hC hw dX12_swap_73
          · rw [if_pos c10] at hf
            refine lv_iconst (v := (-1)) hx hb dX12_swap_44 (by decide) ?_
            have hz := Option.some.inj hf
            subst hz
            exact rtc_i hC hw dX12_swap_45
set_option maxRecDepth 100000 in
theorem c_X12_swap {l : Launch} {D : va_G} {cy : Nat → ClassId} {z0 : Nat} {ad : Nat → Nat} {u : Nat × Nat} {X : va_W} {z : (Int32 × mm_M)} {x1 : Int32} {x2 : Int32} {x3 : Int32} {x4 : Int32} {x5 : Int32} {M : mm_M} (hf : f_X12_swap x1 x2 x3 x4 x5 M = some z) : ct_i rf_T l yX12_swap (Cond.code yX12_swap cX12_swap 8 (some .int)) 5 121 D cy z0 ad u M X [.ref (ad 0), .int x1, .int x2, .int x3, .int x4, .int x5] z.1 z.2 := by
  refine bgc_i (by decide) (fun p e s m below meth c hC hw => ?_)
  refine en_t (Nat.le_of_ble_eq_true rfl) (fun ls hl => ?_)
  have hl : lv_has ls 8 [(0, .ref (ad 0)), (1, .int x1), (2, .int x2), (3, .int x3), (4, .int x4), (5, .int x5)] := hl
  exact k_X12_swap hC hf hw hl
set_option maxRecDepth 100000 in
set_option maxHeartbeats 4000000 in
theorem k_X12_keep_103 {p : Program} {l : Launch} {e : Env} {s : State} {m : MethodId} {args : Array Value} {below : List Frame} {meth : Method} {c : Code} {D : va_G} {cy : Nat → ClassId} {z0 : Nat} {ad : Nat → Nat} {X : va_W} {u : Nat × Nat} (hC : cx_C p s m args meth c cX12_keep "RhymedThenModel" (Cond.code yX12_keep cX12_keep 3 (some .boolean)) 3 (some .boolean)) {z : (Int32 × mm_M)} {x1 : Int32} {x2 : Int32} {M : mm_M} {q103 : Int32 → Int32 → mm_M → Option (Int32 × mm_M)} (hq103 : ∀ (x1 : Int32) (x2 : Int32) (M : mm_M) (H : Heap) (locs : List Loc) (ls : Array Slot), q103 x1 x2 M = some z → wd_in rf_T D cy z0 ad u M X s H locs → lv_has ls 3 [(0, .ref (ad 0)), (1, .int x1), (2, .int x2)] → W p l e { frames := 1, cells := 0, slots := 0, locals := 25 } s m args below meth c H locs 0 0 (MQ below (cq_i rf_T D cy z0 ad u X z.1 z.2) args s 0 0 (fun q => z0 ≤ q)) (F0 m 103 ls [])) (hf : f_X12_keep_103 q103 x1 x2 M = some z) {H : Heap} {locs : List Loc} (hw : wd_in rf_T D cy z0 ad u M X s H locs) {ls : Array Slot} (hl : lv_has ls 3 [(0, .ref (ad 0)), (1, .int x1), (2, .int x2)]) : W p l e { frames := 1, cells := 0, slots := 0, locals := 25 } s m args below meth c H locs 0 0 (MQ below (cq_i rf_T D cy z0 ad u X z.1 z.2) args s 0 0 (fun q => z0 ≤ q)) (F0 m 103 ls []) := by
  have hx := hC.1
  have hb := hC.2.1
  unfold f_X12_keep_103 at hf
  refine lv_iload_n hx hb dX12_keep_103 rfl (lv_at hl 2 rfl) ?_
  refine lv_bipush (v := 6) hx hb dX12_keep_104 (by decide) ?_
  refine lv_icmp_ge (tgt := 149) hx hb dX12_keep_106 (by decide) (fun c19 => ?_) (fun c19 => ?_)
  · rw [if_pos c19] at hf
    refine lv_iconst (v := 1) hx hb dX12_keep_149 (by decide) ?_
    have hz := Option.some.inj hf
    subst hz
    exact rtc_z hC hw (Or.inr rfl) dX12_keep_150
  · rw [if_neg c19] at hf
    refine lv_aload_n hx hb dX12_keep_109 rfl (lv_at hl 0 rfl) ?_
    refine rg_p hC hw 0 (Nat.le_of_ble_eq_true rfl) rfl fd_X12_56 wf_X12_398 (q := 41) rfl dX12_keep_110 ?_
    refine lv_bipush (v := 6) hx hb dX12_keep_113 (by decide) ?_
    refine lv_iload_n hx hb dX12_keep_115 rfl (lv_at hl 1 rfl) ?_
    refine lv_imul hx hb dX12_keep_116 ?_
    refine lv_iload_n hx hb dX12_keep_117 rfl (lv_at hl 2 rfl) ?_
    refine lv_iadd hx hb dX12_keep_118 ?_
    refine lv_aload_n hx hb dX12_keep_119 rfl (lv_at hl 0 rfl) ?_
    refine rg_p hC hw 0 (Nat.le_of_ble_eq_true rfl) rfl fd_X12_19 wf_X12_122 (q := 13) rfl dX12_keep_120 ?_
    refine lv_iload_n hx hb dX12_keep_123 rfl (lv_at hl 2 rfl) ?_
    obtain ⟨h20, hf⟩ := ck_e hf
    refine ra_i hC hw 13 (Nat.le_of_ble_eq_true rfl) rfl h20 dX12_keep_124 ?_
    obtain ⟨h21, hf⟩ := ck_e hf
    obtain ⟨M22, eM22, hf⟩ := sq_e hf
    refine rs_i hC hw 41 (Nat.le_of_ble_eq_true rfl) rfl h21 dX12_keep_125 eM22 (fun H locs hw => ?_)
    refine lv_aload_n hx hb dX12_keep_126 rfl (lv_at hl 0 rfl) ?_
    refine rg_p hC hw 0 (Nat.le_of_ble_eq_true rfl) rfl fd_X12_57 wf_X12_401 (q := 42) rfl dX12_keep_127 ?_
    refine lv_bipush (v := 6) hx hb dX12_keep_130 (by decide) ?_
    refine lv_iload_n hx hb dX12_keep_132 rfl (lv_at hl 1 rfl) ?_
    refine lv_imul hx hb dX12_keep_133 ?_
    refine lv_iload_n hx hb dX12_keep_134 rfl (lv_at hl 2 rfl) ?_
    refine lv_iadd hx hb dX12_keep_135 ?_
    refine lv_aload_n hx hb dX12_keep_136 rfl (lv_at hl 0 rfl) ?_
    refine rg_p hC hw 0 (Nat.le_of_ble_eq_true rfl) rfl fd_X12_7 wf_X12_66 (q := 3) rfl dX12_keep_137 ?_
    refine lv_iload_n hx hb dX12_keep_140 rfl (lv_at hl 2 rfl) ?_
    obtain ⟨h23, hf⟩ := ck_e hf
    refine ra_i hC hw 3 (Nat.le_of_ble_eq_true rfl) rfl h23 dX12_keep_141 ?_
    obtain ⟨h24, hf⟩ := ck_e hf
    obtain ⟨M25, eM25, hf⟩ := sq_e hf
    refine rs_i hC hw 42 (Nat.le_of_ble_eq_true rfl) rfl h24 dX12_keep_142 eM25 (fun H locs hw => ?_)
    obtain ⟨y26, ey26, hf⟩ := sq_e hf
    refine lv_iinc (v := y26) (lv' := [(2, .int y26), (0, .ref (ad 0)), (1, .int x1)]) hx hb dX12_keep_143 hl (k := 2) rfl (by rw [ey26]; rfl) (by decide) rfl (fun ls hl => ?_)
    refine lv_goto (tgt := 103) hx hb dX12_keep_146 (by decide) ?_
    exact hq103 _ _ _ _ _ _ hf hw (lv_sub hl [1, 2, 0] rfl)
set_option maxRecDepth 100000 in
set_option maxHeartbeats 4000000 in
theorem k_X12_keep_103l {p : Program} {l : Launch} {e : Env} {s : State} {m : MethodId} {args : Array Value} {below : List Frame} {meth : Method} {c : Code} {D : va_G} {cy : Nat → ClassId} {z0 : Nat} {ad : Nat → Nat} {X : va_W} {u : Nat × Nat} (hC : cx_C p s m args meth c cX12_keep "RhymedThenModel" (Cond.code yX12_keep cX12_keep 3 (some .boolean)) 3 (some .boolean)) {z : (Int32 × mm_M)} : ∀ (n : Nat) (x1 : Int32) (x2 : Int32) (M : mm_M) (H : Heap) (locs : List Loc) (ls : Array Slot), f_X12_keep_103l n x1 x2 M = some z → wd_in rf_T D cy z0 ad u M X s H locs → lv_has ls 3 [(0, .ref (ad 0)), (1, .int x1), (2, .int x2)] → W p l e { frames := 1, cells := 0, slots := 0, locals := 25 } s m args below meth c H locs 0 0 (MQ below (cq_i rf_T D cy z0 ad u X z.1 z.2) args s 0 0 (fun q => z0 ≤ q)) (F0 m 103 ls []) := by
  intro n
  induction n with
  | zero => intro x1 x2 M H locs ls hf; exact absurd hf (by simp [f_X12_keep_103l])
  | succ n ih => intro x1 x2 M H locs ls hf hw hl; exact k_X12_keep_103 hC ih hf hw hl
set_option maxRecDepth 100000 in
set_option maxHeartbeats 4000000 in
theorem k_X12_keep_101 {p : Program} {l : Launch} {e : Env} {s : State} {m : MethodId} {args : Array Value} {below : List Frame} {meth : Method} {c : Code} {D : va_G} {cy : Nat → ClassId} {z0 : Nat} {ad : Nat → Nat} {X : va_W} {u : Nat × Nat} (hC : cx_C p s m args meth c cX12_keep "RhymedThenModel" (Cond.code yX12_keep cX12_keep 3 (some .boolean)) 3 (some .boolean)) {z : (Int32 × mm_M)} {x1 : Int32} {M : mm_M} (hf : f_X12_keep_101 x1 M = some z) {H : Heap} {locs : List Loc} (hw : wd_in rf_T D cy z0 ad u M X s H locs) {ls : Array Slot} (hl : lv_has ls 3 [(0, .ref (ad 0)), (1, .int x1)]) : W p l e { frames := 1, cells := 0, slots := 0, locals := 25 } s m args below meth c H locs 0 0 (MQ below (cq_i rf_T D cy z0 ad u X z.1 z.2) args s 0 0 (fun q => z0 ≤ q)) (F0 m 101 ls []) := by
  have hx := hC.1
  have hb := hC.2.1
  unfold f_X12_keep_101 at hf
  refine lv_iconst (v := 0) hx hb dX12_keep_101 (by decide) ?_
  refine lv_istore_n (lv' := [(2, .int 0), (0, .ref (ad 0)), (1, .int x1)]) hx hb dX12_keep_102 rfl hl (by decide) rfl (fun ls hl => ?_)
  exact k_X12_keep_103l hC fu_ _ _ _ _ _ _ hf hw (lv_sub hl [1, 2, 0] rfl)
set_option maxRecDepth 100000 in
set_option maxHeartbeats 4000000 in
theorem k_X12_keep_38 {p : Program} {l : Launch} {e : Env} {s : State} {m : MethodId} {args : Array Value} {below : List Frame} {meth : Method} {c : Code} {D : va_G} {cy : Nat → ClassId} {z0 : Nat} {ad : Nat → Nat} {X : va_W} {u : Nat × Nat} (hC : cx_C p s m args meth c cX12_keep "RhymedThenModel" (Cond.code yX12_keep cX12_keep 3 (some .boolean)) 3 (some .boolean)) {z : (Int32 × mm_M)} {x1 : Int32} {x2 : Int32} {M : mm_M} {q38 : Int32 → Int32 → mm_M → Option (Int32 × mm_M)} (hq38 : ∀ (x1 : Int32) (x2 : Int32) (M : mm_M) (H : Heap) (locs : List Loc) (ls : Array Slot), q38 x1 x2 M = some z → wd_in rf_T D cy z0 ad u M X s H locs → lv_has ls 3 [(0, .ref (ad 0)), (1, .int x1), (2, .int x2)] → W p l e { frames := 1, cells := 0, slots := 0, locals := 25 } s m args below meth c H locs 0 0 (MQ below (cq_i rf_T D cy z0 ad u X z.1 z.2) args s 0 0 (fun q => z0 ≤ q)) (F0 m 38 ls [])) (hf : f_X12_keep_38 q38 x1 x2 M = some z) {H : Heap} {locs : List Loc} (hw : wd_in rf_T D cy z0 ad u M X s H locs) {ls : Array Slot} (hl : lv_has ls 3 [(0, .ref (ad 0)), (1, .int x1), (2, .int x2)]) : W p l e { frames := 1, cells := 0, slots := 0, locals := 25 } s m args below meth c H locs 0 0 (MQ below (cq_i rf_T D cy z0 ad u X z.1 z.2) args s 0 0 (fun q => z0 ≤ q)) (F0 m 38 ls []) := by
  have hx := hC.1
  have hb := hC.2.1
  unfold f_X12_keep_38 at hf
  refine lv_iload_n hx hb dX12_keep_38 rfl (lv_at hl 2 rfl) ?_
  refine lv_bipush (v := 16) hx hb dX12_keep_39 (by decide) ?_
  refine lv_icmp_ge (tgt := 101) hx hb dX12_keep_41 (by decide) (fun c8 => ?_) (fun c8 => ?_)
  · rw [if_pos c8] at hf
    exact k_X12_keep_101 hC hf hw (lv_sub hl [0, 1] rfl)
  · rw [if_neg c8] at hf
    refine lv_aload_n hx hb dX12_keep_44 rfl (lv_at hl 0 rfl) ?_
    refine rg_p hC hw 0 (Nat.le_of_ble_eq_true rfl) rfl fd_X12_53 wf_X12_389 (q := 38) rfl dX12_keep_45 ?_
    refine lv_bipush (v := 16) hx hb dX12_keep_48 (by decide) ?_
    refine lv_iload_n hx hb dX12_keep_50 rfl (lv_at hl 1 rfl) ?_
    refine lv_imul hx hb dX12_keep_51 ?_
    refine lv_iload_n hx hb dX12_keep_52 rfl (lv_at hl 2 rfl) ?_
    refine lv_iadd hx hb dX12_keep_53 ?_
    refine lv_aload_n hx hb dX12_keep_54 rfl (lv_at hl 0 rfl) ?_
    refine rg_p hC hw 0 (Nat.le_of_ble_eq_true rfl) rfl fd_X12_37 wf_X12_250 (q := 26) rfl dX12_keep_55 ?_
    refine lv_iload_n hx hb dX12_keep_58 rfl (lv_at hl 2 rfl) ?_
    obtain ⟨h9, hf⟩ := ck_e hf
    refine ra_z hC hw 26 (Nat.le_of_ble_eq_true rfl) rfl h9 dX12_keep_59 ?_
    obtain ⟨h10, hf⟩ := ck_e hf
    obtain ⟨M11, eM11, hf⟩ := sq_e hf
    refine rs_z hC hw 38 (Nat.le_of_ble_eq_true rfl) rfl h10 dX12_keep_60 eM11 (fun H locs hw => ?_)
    refine lv_aload_n hx hb dX12_keep_61 rfl (lv_at hl 0 rfl) ?_
    refine rg_p hC hw 0 (Nat.le_of_ble_eq_true rfl) rfl fd_X12_54 wf_X12_392 (q := 39) rfl dX12_keep_62 ?_
    refine lv_bipush (v := 16) hx hb dX12_keep_65 (by decide) ?_
    refine lv_iload_n hx hb dX12_keep_67 rfl (lv_at hl 1 rfl) ?_
    refine lv_imul hx hb dX12_keep_68 ?_
    refine lv_iload_n hx hb dX12_keep_69 rfl (lv_at hl 2 rfl) ?_
    refine lv_iadd hx hb dX12_keep_70 ?_
    refine lv_aload_n hx hb dX12_keep_71 rfl (lv_at hl 0 rfl) ?_
    refine rg_p hC hw 0 (Nat.le_of_ble_eq_true rfl) rfl fd_X12_35 wf_X12_244 (q := 24) rfl dX12_keep_72 ?_
    refine lv_iload_n hx hb dX12_keep_75 rfl (lv_at hl 2 rfl) ?_
    obtain ⟨h12, hf⟩ := ck_e hf
    refine ra_i hC hw 24 (Nat.le_of_ble_eq_true rfl) rfl h12 dX12_keep_76 ?_
    obtain ⟨h13, hf⟩ := ck_e hf
    obtain ⟨M14, eM14, hf⟩ := sq_e hf
    refine rs_i hC hw 39 (Nat.le_of_ble_eq_true rfl) rfl h13 dX12_keep_77 eM14 (fun H locs hw => ?_)
    refine lv_aload_n hx hb dX12_keep_78 rfl (lv_at hl 0 rfl) ?_
    refine rg_p hC hw 0 (Nat.le_of_ble_eq_true rfl) rfl fd_X12_55 wf_X12_395 (q := 40) rfl dX12_keep_79 ?_
    refine lv_bipush (v := 16) hx hb dX12_keep_82 (by decide) ?_
    refine lv_iload_n hx hb dX12_keep_84 rfl (lv_at hl 1 rfl) ?_
    refine lv_imul hx hb dX12_keep_85 ?_
    refine lv_iload_n hx hb dX12_keep_86 rfl (lv_at hl 2 rfl) ?_
    refine lv_iadd hx hb dX12_keep_87 ?_
    refine lv_aload_n hx hb dX12_keep_88 rfl (lv_at hl 0 rfl) ?_
    refine rg_p hC hw 0 (Nat.le_of_ble_eq_true rfl) rfl fd_X12_36 wf_X12_247 (q := 25) rfl dX12_keep_89 ?_
    refine lv_iload_n hx hb dX12_keep_92 rfl (lv_at hl 2 rfl) ?_
    obtain ⟨h15, hf⟩ := ck_e hf
    refine ra_i hC hw 25 (Nat.le_of_ble_eq_true rfl) rfl h15 dX12_keep_93 ?_
    obtain ⟨h16, hf⟩ := ck_e hf
    obtain ⟨M17, eM17, hf⟩ := sq_e hf
    refine rs_i hC hw 40 (Nat.le_of_ble_eq_true rfl) rfl h16 dX12_keep_94 eM17 (fun H locs hw => ?_)
    obtain ⟨y18, ey18, hf⟩ := sq_e hf
    refine lv_iinc (v := y18) (lv' := [(2, .int y18), (0, .ref (ad 0)), (1, .int x1)]) hx hb dX12_keep_95 hl (k := 2) rfl (by rw [ey18]; rfl) (by decide) rfl (fun ls hl => ?_)
    refine lv_goto (tgt := 38) hx hb dX12_keep_98 (by decide) ?_
    exact hq38 _ _ _ _ _ _ hf hw (lv_sub hl [1, 2, 0] rfl)
set_option maxRecDepth 100000 in
set_option maxHeartbeats 4000000 in
theorem k_X12_keep_38l {p : Program} {l : Launch} {e : Env} {s : State} {m : MethodId} {args : Array Value} {below : List Frame} {meth : Method} {c : Code} {D : va_G} {cy : Nat → ClassId} {z0 : Nat} {ad : Nat → Nat} {X : va_W} {u : Nat × Nat} (hC : cx_C p s m args meth c cX12_keep "RhymedThenModel" (Cond.code yX12_keep cX12_keep 3 (some .boolean)) 3 (some .boolean)) {z : (Int32 × mm_M)} : ∀ (n : Nat) (x1 : Int32) (x2 : Int32) (M : mm_M) (H : Heap) (locs : List Loc) (ls : Array Slot), f_X12_keep_38l n x1 x2 M = some z → wd_in rf_T D cy z0 ad u M X s H locs → lv_has ls 3 [(0, .ref (ad 0)), (1, .int x1), (2, .int x2)] → W p l e { frames := 1, cells := 0, slots := 0, locals := 25 } s m args below meth c H locs 0 0 (MQ below (cq_i rf_T D cy z0 ad u X z.1 z.2) args s 0 0 (fun q => z0 ≤ q)) (F0 m 38 ls []) := by
  intro n
  induction n with
  | zero => intro x1 x2 M H locs ls hf; exact absurd hf (by simp [f_X12_keep_38l])
  | succ n ih => intro x1 x2 M H locs ls hf hw hl; exact k_X12_keep_38 hC ih hf hw hl
set_option maxRecDepth 100000 in
set_option maxHeartbeats 4000000 in
theorem k_X12_keep {p : Program} {l : Launch} {e : Env} {s : State} {m : MethodId} {args : Array Value} {below : List Frame} {meth : Method} {c : Code} {D : va_G} {cy : Nat → ClassId} {z0 : Nat} {ad : Nat → Nat} {X : va_W} {u : Nat × Nat} (hC : cx_C p s m args meth c cX12_keep "RhymedThenModel" (Cond.code yX12_keep cX12_keep 3 (some .boolean)) 3 (some .boolean)) {z : (Int32 × mm_M)} {x1 : Int32} {M : mm_M} (hf : f_X12_keep x1 M = some z) {H : Heap} {locs : List Loc} (hw : wd_in rf_T D cy z0 ad u M X s H locs) {ls : Array Slot} (hl : lv_has ls 3 [(0, .ref (ad 0)), (1, .int x1)]) : W p l e { frames := 1, cells := 0, slots := 0, locals := 25 } s m args below meth c H locs 0 0 (MQ below (cq_i rf_T D cy z0 ad u X z.1 z.2) args s 0 0 (fun q => z0 ≤ q)) (F0 m 0 ls []) := by
  have hx := hC.1
  have hb := hC.2.1
  unfold f_X12_keep at hf
  refine lv_aload_n hx hb dX12_keep_0 rfl (lv_at hl 0 rfl) ?_
  refine lv_iconst (v := 0) hx hb dX12_keep_1 (by decide) ?_
  obtain ⟨M1, eM1, hf⟩ := sq_e hf
  refine rp_i hC hw 0 (Nat.le_of_ble_eq_true rfl) rfl fd_X12_0 wf_X12_1 fp_X12_0 rfl rfl dX12_keep_2 eM1 (fun H locs hw => ?_)
  refine lv_iload_n hx hb dX12_keep_5 rfl (lv_at hl 1 rfl) ?_
  refine lv_i2l hx hb dX12_keep_6 rfl ?_
  refine lv_lconst (v := 0) hx hb dX12_keep_7 (by decide) ?_
  refine lv_ldc2 (v := 2) hx hb hC.2.2.2.1 (hC.t wk_X12_381) dX12_keep_8 ?_
  obtain ⟨z2, ez2, hf⟩ := sq_e hf
  refine clc_Si hC hw (c_X12_in ez2.symm) hd_X12_in cw_X12_29 (rest := []) hl.1 rfl (Nat.le_of_ble_eq_true rfl) ⟨Nat.le_of_ble_eq_true rfl, Nat.le_of_ble_eq_true rfl⟩ ⟨Nat.zero_le _, Nat.zero_le _⟩ rfl dX12_keep_11 (fun H locs hw => ?_)
  refine lv_if_ne (tgt := 19) hx hb dX12_keep_14 (by decide) (fun c3 => ?_) (fun c3 => ?_)
  · rw [if_neg c3] at hf
    refine lv_aload_n hx hb dX12_keep_19 rfl (lv_at hl 0 rfl) ?_
    refine rg_p hC hw 0 (Nat.le_of_ble_eq_true rfl) rfl fd_X12_51 wf_X12_383 (q := 36) rfl dX12_keep_20 ?_
    refine lv_iload_n hx hb dX12_keep_23 rfl (lv_at hl 1 rfl) ?_
    refine lv_iconst (v := 1) hx hb dX12_keep_24 (by decide) ?_
    obtain ⟨h4, hf⟩ := ck_e hf
    obtain ⟨M5, eM5, hf⟩ := sq_e hf
    refine rs_z hC hw 36 (Nat.le_of_ble_eq_true rfl) rfl h4 dX12_keep_25 eM5 (fun H locs hw => ?_)
    refine lv_aload_n hx hb dX12_keep_26 rfl (lv_at hl 0 rfl) ?_
    refine rg_p hC hw 0 (Nat.le_of_ble_eq_true rfl) rfl fd_X12_52 wf_X12_386 (q := 37) rfl dX12_keep_27 ?_
    refine lv_iload_n hx hb dX12_keep_30 rfl (lv_at hl 1 rfl) ?_
    refine lv_aload_n hx hb dX12_keep_31 rfl (lv_at hl 0 rfl) ?_
    refine rg_i hC hw 0 (Nat.le_of_ble_eq_true rfl) rfl fd_X12_28 wf_X12_258 dX12_keep_32 ?_
    obtain ⟨h6, hf⟩ := ck_e hf
    obtain ⟨M7, eM7, hf⟩ := sq_e hf
    refine rs_i hC hw 37 (Nat.le_of_ble_eq_true rfl) rfl h6 dX12_keep_35 eM7 (fun H locs hw => ?_)
    refine lv_iconst (v := 0) hx hb dX12_keep_36 (by decide) ?_
    refine lv_istore_n (lv' := [(2, .int 0), (0, .ref (ad 0)), (1, .int x1)]) hx hb dX12_keep_37 rfl hl (by decide) rfl (fun ls hl => ?_)
    exact k_X12_keep_38l hC fu_ _ _ _ _ _ _ hf hw (lv_sub hl [1, 2, 0] rfl)
  · rw [if_pos c3] at hf
    refine lv_iconst (v := 0) hx hb dX12_keep_17 (by decide) ?_
    have hz := Option.some.inj hf
    subst hz
    exact rtc_z hC hw (Or.inl rfl) dX12_keep_18
set_option maxRecDepth 100000 in
theorem c_X12_keep {l : Launch} {D : va_G} {cy : Nat → ClassId} {z0 : Nat} {ad : Nat → Nat} {u : Nat × Nat} {X : va_W} {z : (Int32 × mm_M)} {x1 : Int32} {M : mm_M} (hf : f_X12_keep x1 M = some z) : ct_i rf_T l yX12_keep (Cond.code yX12_keep cX12_keep 3 (some .boolean)) 1 25 D cy z0 ad u M X [.ref (ad 0), .int x1] z.1 z.2 := by
  refine bgc_i (by decide) (fun p e s m below meth c hC hw => ?_)
  refine en_t (Nat.le_of_ble_eq_true rfl) (fun ls hl => ?_)
  have hl : lv_has ls 3 [(0, .ref (ad 0)), (1, .int x1)] := hl
  exact k_X12_keep hC hf hw hl
