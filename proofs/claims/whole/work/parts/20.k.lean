set_option maxRecDepth 100000 in
set_option maxHeartbeats 4000000 in
theorem k_X0_lengthOf {p : Program} {l : Launch} {e : Env} {s : State} {m : MethodId} {args : Array Value} {below : List Frame} {meth : Method} {c : Code} {T : wd_T} {D : va_G} {cy : Nat → ClassId} {z0 : Nat} {ad : Nat → Nat} {X : va_W} {M : mm_M} {u : Nat × Nat} (hC : cx_C p s m args meth c cX0_lengthOf "RhymedThen$Form" (Cond.code yX0_lengthOf cX0_lengthOf 2 (some .int)) 2 (some .int)) {z : Int32} {x0 : Int64} (hf : f_X0_lengthOf x0 = z) {H : Heap} {locs : List Loc} (hw : wd_in T D cy z0 ad u M X s H locs) {ls : Array Slot} (hl : lv_has ls 2 [(0, .long x0)]) : W p l e { frames := 0, cells := 0, slots := 0, locals := 0 } s m args below meth c H locs 0 0 (MQ below (cq_i T D cy z0 ad u X z M) args s 0 0 (fun q => z0 ≤ q)) (F0 m 0 ls []) := by
  have hx := hC.1
  have hb := hC.2.1
  unfold f_X0_lengthOf at hf
  refine lv_lload_n hx hb dX0_lengthOf_0 rfl (lv_at hl 0 rfl) ?_
  refine lv_bipush (v := 32) hx hb dX0_lengthOf_1 (by decide) ?_
  refine lv_lushr hx hb dX0_lengthOf_3 rfl ?_
  refine lv_l2i hx hb dX0_lengthOf_4 rfl ?_
  refine lv_iconst (v := 1) hx hb dX0_lengthOf_5 (by decide) ?_
  refine lv_isub hx hb dX0_lengthOf_6 ?_
  cases hf
  exact rtc_i hC hw dX0_lengthOf_7
set_option maxRecDepth 100000 in
theorem c_X0_lengthOf {l : Launch} {T : wd_T} {D : va_G} {cy : Nat → ClassId} {z0 : Nat} {ad : Nat → Nat} {u : Nat × Nat} {X : va_W} {z : Int32} {x0 : Int64} {M : mm_M} (hf : f_X0_lengthOf x0 = z) : ct_i T l yX0_lengthOf (Cond.code yX0_lengthOf cX0_lengthOf 2 (some .int)) 0 0 D cy z0 ad u M X [.long x0] z M := by
  refine bgc_i (by decide) (fun p e s m below meth c hC hw => ?_)
  refine en_t (Nat.le_of_ble_eq_true rfl) (fun ls hl => ?_)
  have hl : lv_has ls 2 [(0, .long x0)] := hl
  exact k_X0_lengthOf hC hf hw hl
set_option maxRecDepth 100000 in
set_option maxHeartbeats 4000000 in
theorem k_X0_soundAt {p : Program} {l : Launch} {e : Env} {s : State} {m : MethodId} {args : Array Value} {below : List Frame} {meth : Method} {c : Code} {T : wd_T} {D : va_G} {cy : Nat → ClassId} {z0 : Nat} {ad : Nat → Nat} {X : va_W} {M : mm_M} {u : Nat × Nat} (hC : cx_C p s m args meth c cX0_soundAt "RhymedThen$Form" (Cond.code yX0_soundAt cX0_soundAt 3 (some .int)) 3 (some .int)) {z : Int32} {x0 : Int64} {x2 : Int32} (hf : f_X0_soundAt x0 x2 = z) {H : Heap} {locs : List Loc} (hw : wd_in T D cy z0 ad u M X s H locs) {ls : Array Slot} (hl : lv_has ls 3 [(0, .long x0), (2, .int x2)]) : W p l e { frames := 0, cells := 0, slots := 0, locals := 0 } s m args below meth c H locs 0 0 (MQ below (cq_i T D cy z0 ad u X z M) args s 0 0 (fun q => z0 ≤ q)) (F0 m 0 ls []) := by
  have hx := hC.1
  have hb := hC.2.1
  unfold f_X0_soundAt at hf
  refine lv_lload_n hx hb dX0_soundAt_0 rfl (lv_at hl 0 rfl) ?_
  refine lv_iconst (v := 4) hx hb dX0_soundAt_1 (by decide) ?_
  refine lv_iload_n hx hb dX0_soundAt_2 rfl (lv_at hl 1 rfl) ?_
  refine lv_imul hx hb dX0_soundAt_3 ?_
  refine lv_lushr hx hb dX0_soundAt_4 rfl ?_
  refine lv_l2i hx hb dX0_soundAt_5 rfl ?_
  refine lv_bipush (v := 15) hx hb dX0_soundAt_6 (by decide) ?_
  refine lv_iand hx hb dX0_soundAt_8 ?_
  cases hf
  exact rtc_i hC hw dX0_soundAt_9
set_option maxRecDepth 100000 in
theorem c_X0_soundAt {l : Launch} {T : wd_T} {D : va_G} {cy : Nat → ClassId} {z0 : Nat} {ad : Nat → Nat} {u : Nat × Nat} {X : va_W} {z : Int32} {x0 : Int64} {x2 : Int32} {M : mm_M} (hf : f_X0_soundAt x0 x2 = z) : ct_i T l yX0_soundAt (Cond.code yX0_soundAt cX0_soundAt 3 (some .int)) 0 0 D cy z0 ad u M X [.long x0, .int x2] z M := by
  refine bgc_i (by decide) (fun p e s m below meth c hC hw => ?_)
  refine en_t (Nat.le_of_ble_eq_true rfl) (fun ls hl => ?_)
  have hl : lv_has ls 3 [(0, .long x0), (2, .int x2)] := hl
  exact k_X0_soundAt hC hf hw hl
set_option maxRecDepth 100000 in
set_option maxHeartbeats 4000000 in
theorem k_X0_of {p : Program} {l : Launch} {e : Env} {s : State} {m : MethodId} {args : Array Value} {below : List Frame} {meth : Method} {c : Code} {T : wd_T} {D : va_G} {cy : Nat → ClassId} {z0 : Nat} {ad : Nat → Nat} {X : va_W} {M : mm_M} {u : Nat × Nat} (hC : cx_C p s m args meth c cX0_of "RhymedThen$Form" (Cond.code yX0_of cX0_of 3 (some .long)) 3 (some .long)) {z : Int64} {x0 : Int64} {x2 : Int32} (hf : f_X0_of x0 x2 = z) {H : Heap} {locs : List Loc} (hw : wd_in T D cy z0 ad u M X s H locs) {ls : Array Slot} (hl : lv_has ls 3 [(0, .long x0), (2, .int x2)]) : W p l e { frames := 0, cells := 0, slots := 0, locals := 0 } s m args below meth c H locs 0 0 (MQ below (cq_l T D cy z0 ad u X z M) args s 0 0 (fun q => z0 ≤ q)) (F0 m 0 ls []) := by
  have hx := hC.1
  have hb := hC.2.1
  unfold f_X0_of at hf
  refine lv_iload_n hx hb dX0_of_0 rfl (lv_at hl 1 rfl) ?_
  refine lv_iconst (v := 1) hx hb dX0_of_1 (by decide) ?_
  refine lv_iadd hx hb dX0_of_2 ?_
  refine lv_i2l hx hb dX0_of_3 rfl ?_
  refine lv_bipush (v := 32) hx hb dX0_of_4 (by decide) ?_
  refine lv_lshl hx hb dX0_of_6 rfl ?_
  refine lv_lload_n hx hb dX0_of_7 rfl (lv_at hl 0 rfl) ?_
  refine lv_lor hx hb dX0_of_8 ?_
  cases hf
  exact rtc_l hC hw dX0_of_9
set_option maxRecDepth 100000 in
theorem c_X0_of {l : Launch} {T : wd_T} {D : va_G} {cy : Nat → ClassId} {z0 : Nat} {ad : Nat → Nat} {u : Nat × Nat} {X : va_W} {z : Int64} {x0 : Int64} {x2 : Int32} {M : mm_M} (hf : f_X0_of x0 x2 = z) : ct_l T l yX0_of (Cond.code yX0_of cX0_of 3 (some .long)) 0 0 D cy z0 ad u M X [.long x0, .int x2] z M := by
  refine bgc_l (by decide) (fun p e s m below meth c hC hw => ?_)
  refine en_t (Nat.le_of_ble_eq_true rfl) (fun ls hl => ?_)
  have hl : lv_has ls 3 [(0, .long x0), (2, .int x2)] := hl
  exact k_X0_of hC hf hw hl
set_option maxRecDepth 100000 in
set_option maxHeartbeats 4000000 in
theorem k_X0_tailOf_28 {p : Program} {l : Launch} {e : Env} {s : State} {m : MethodId} {args : Array Value} {below : List Frame} {meth : Method} {c : Code} {T : wd_T} {D : va_G} {cy : Nat → ClassId} {z0 : Nat} {ad : Nat → Nat} {X : va_W} {M : mm_M} {u : Nat × Nat} (hC : cx_C p s m args meth c cX0_tailOf "RhymedThen$Form" (Cond.code yX0_tailOf cX0_tailOf 5 (some .long)) 5 (some .long)) {z : Int64} {x0 : Int64} {x3 : Int32} {x4 : Int32} (hf : f_X0_tailOf_28 x0 x3 x4 = some z) {H : Heap} {locs : List Loc} (hw : wd_in T D cy z0 ad u M X s H locs) {ls : Array Slot} (hl : lv_has ls 5 [(0, .long x0), (3, .int x3), (4, .int x4)]) : W p l e { frames := 1, cells := 0, slots := 0, locals := 22 } s m args below meth c H locs 0 0 (MQ below (cq_l T D cy z0 ad u X z M) args s 0 0 (fun q => z0 ≤ q)) (F0 m 28 ls []) := by
  have hx := hC.1
  have hb := hC.2.1
  unfold f_X0_tailOf_28 at hf
  refine lv_lload_n hx hb dX0_tailOf_28 rfl (lv_at hl 0 rfl) ?_
  refine lv_ldc2 (v := 4294967295) hx hb hC.2.2.2.1 (hC.t wk_X0_17) dX0_tailOf_29 ?_
  refine lv_land hx hb dX0_tailOf_32 ?_
  refine lv_iconst (v := 4) hx hb dX0_tailOf_33 (by decide) ?_
  refine lv_iload hx hb dX0_tailOf_34 (lv_at hl 2 rfl) ?_
  refine lv_imul hx hb dX0_tailOf_36 ?_
  refine lv_lushr hx hb dX0_tailOf_37 rfl ?_
  refine lv_iload_n hx hb dX0_tailOf_38 rfl (lv_at hl 1 rfl) ?_
  refine lv_iload hx hb dX0_tailOf_39 (lv_at hl 2 rfl) ?_
  refine lv_isub hx hb dX0_tailOf_41 ?_
  obtain ⟨z7, ez7, hf⟩ := sq_e hf
  refine clc_Sl hC hw (c_X0_of ez7.symm) hd_X0_of cw_X0_19 (rest := []) hl.1 rfl (Nat.le_of_ble_eq_true rfl) ⟨Nat.le_of_ble_eq_true rfl, Nat.le_of_ble_eq_true rfl⟩ ⟨Nat.zero_le _, Nat.zero_le _⟩ rfl dX0_tailOf_42 (fun H locs hw => ?_)
  cases hf
  exact rtc_l hC hw dX0_tailOf_45
set_option maxRecDepth 100000 in
set_option maxHeartbeats 4000000 in
theorem k_X0_tailOf_10 {p : Program} {l : Launch} {e : Env} {s : State} {m : MethodId} {args : Array Value} {below : List Frame} {meth : Method} {c : Code} {T : wd_T} {D : va_G} {cy : Nat → ClassId} {z0 : Nat} {ad : Nat → Nat} {X : va_W} {M : mm_M} {u : Nat × Nat} (hC : cx_C p s m args meth c cX0_tailOf "RhymedThen$Form" (Cond.code yX0_tailOf cX0_tailOf 5 (some .long)) 5 (some .long)) {z : Int64} {x0 : Int64} {x2 : Int32} {x3 : Int32} {x4 : Int32} {q10 : Int64 → Int32 → Int32 → Int32 → Option Int64} (hq10 : ∀ (x0 : Int64) (x2 : Int32) (x3 : Int32) (x4 : Int32) (H : Heap) (locs : List Loc) (ls : Array Slot), q10 x0 x2 x3 x4 = some z → wd_in T D cy z0 ad u M X s H locs → lv_has ls 5 [(0, .long x0), (2, .int x2), (3, .int x3), (4, .int x4)] → W p l e { frames := 1, cells := 0, slots := 0, locals := 22 } s m args below meth c H locs 0 0 (MQ below (cq_l T D cy z0 ad u X z M) args s 0 0 (fun q => z0 ≤ q)) (F0 m 10 ls [])) (hf : f_X0_tailOf_10 q10 x0 x2 x3 x4 = some z) {H : Heap} {locs : List Loc} (hw : wd_in T D cy z0 ad u M X s H locs) {ls : Array Slot} (hl : lv_has ls 5 [(0, .long x0), (2, .int x2), (3, .int x3), (4, .int x4)]) : W p l e { frames := 1, cells := 0, slots := 0, locals := 22 } s m args below meth c H locs 0 0 (MQ below (cq_l T D cy z0 ad u X z M) args s 0 0 (fun q => z0 ≤ q)) (F0 m 10 ls []) := by
  have hx := hC.1
  have hb := hC.2.1
  unfold f_X0_tailOf_10 at hf
  refine lv_iload hx hb dX0_tailOf_10 (lv_at hl 3 rfl) ?_
  refine lv_if_lt (tgt := 52) hx hb dX0_tailOf_12 (by decide) (fun c3 => ?_) (fun c3 => ?_)
  · rw [if_pos c3] at hf
    refine lv_lconst (v := 0) hx hb dX0_tailOf_52 (by decide) ?_
    cases hf
    exact rtc_l hC hw dX0_tailOf_53
  · rw [if_neg c3] at hf
    refine lv_iload_n hx hb dX0_tailOf_15 rfl (lv_at hl 1 rfl) ?_
    refine lv_lload_n hx hb dX0_tailOf_16 rfl (lv_at hl 0 rfl) ?_
    refine lv_iload hx hb dX0_tailOf_17 (lv_at hl 3 rfl) ?_
    obtain ⟨z4, ez4, hf⟩ := sq_e hf
    refine clc_Si hC hw (c_X0_soundAt ez4.symm) hd_X0_soundAt cw_X0_13 (rest := [.int x2]) hl.1 rfl (Nat.le_of_ble_eq_true rfl) ⟨Nat.le_of_ble_eq_true rfl, Nat.le_of_ble_eq_true rfl⟩ ⟨Nat.zero_le _, Nat.zero_le _⟩ rfl dX0_tailOf_19 (fun H locs hw => ?_)
    refine lv_ishr hx hb dX0_tailOf_22 ?_
    refine lv_iconst (v := 1) hx hb dX0_tailOf_23 (by decide) ?_
    refine lv_iand hx hb dX0_tailOf_24 ?_
    refine lv_if_eq (tgt := 46) hx hb dX0_tailOf_25 (by decide) (fun c5 => ?_) (fun c5 => ?_)
    · rw [if_pos c5] at hf
      obtain ⟨y6, ey6, hf⟩ := sq_e hf
      refine lv_iinc (v := y6) (lv' := [(4, .int y6), (0, .long x0), (2, .int x2), (3, .int x3)]) hx hb dX0_tailOf_46 hl (k := 3) rfl (by rw [ey6]; rfl) (by decide) rfl (fun ls hl => ?_)
      refine lv_goto (tgt := 10) hx hb dX0_tailOf_49 (by decide) ?_
      exact hq10 _ _ _ _ _ _ _ hf hw (lv_sub hl [1, 2, 3, 0] rfl)
    · rw [if_neg c5] at hf
      exact k_X0_tailOf_28 hC hf hw (lv_sub hl [0, 2, 3] rfl)
set_option maxRecDepth 100000 in
set_option maxHeartbeats 4000000 in
theorem k_X0_tailOf_10l {p : Program} {l : Launch} {e : Env} {s : State} {m : MethodId} {args : Array Value} {below : List Frame} {meth : Method} {c : Code} {T : wd_T} {D : va_G} {cy : Nat → ClassId} {z0 : Nat} {ad : Nat → Nat} {X : va_W} {M : mm_M} {u : Nat × Nat} (hC : cx_C p s m args meth c cX0_tailOf "RhymedThen$Form" (Cond.code yX0_tailOf cX0_tailOf 5 (some .long)) 5 (some .long)) {z : Int64} : ∀ (n : Nat) (x0 : Int64) (x2 : Int32) (x3 : Int32) (x4 : Int32) (H : Heap) (locs : List Loc) (ls : Array Slot), f_X0_tailOf_10l n x0 x2 x3 x4 = some z → wd_in T D cy z0 ad u M X s H locs → lv_has ls 5 [(0, .long x0), (2, .int x2), (3, .int x3), (4, .int x4)] → W p l e { frames := 1, cells := 0, slots := 0, locals := 22 } s m args below meth c H locs 0 0 (MQ below (cq_l T D cy z0 ad u X z M) args s 0 0 (fun q => z0 ≤ q)) (F0 m 10 ls []) := by
  intro n
  induction n with
  | zero => intro x0 x2 x3 x4 H locs ls hf; exact absurd hf (by simp [f_X0_tailOf_10l])
  | succ n ih => intro x0 x2 x3 x4 H locs ls hf hw hl; exact k_X0_tailOf_10 hC ih hf hw hl
set_option maxRecDepth 100000 in
set_option maxHeartbeats 4000000 in
theorem k_X0_tailOf {p : Program} {l : Launch} {e : Env} {s : State} {m : MethodId} {args : Array Value} {below : List Frame} {meth : Method} {c : Code} {T : wd_T} {D : va_G} {cy : Nat → ClassId} {z0 : Nat} {ad : Nat → Nat} {X : va_W} {M : mm_M} {u : Nat × Nat} (hC : cx_C p s m args meth c cX0_tailOf "RhymedThen$Form" (Cond.code yX0_tailOf cX0_tailOf 5 (some .long)) 5 (some .long)) {z : Int64} {x0 : Int64} {x2 : Int32} (hf : f_X0_tailOf x0 x2 = some z) {H : Heap} {locs : List Loc} (hw : wd_in T D cy z0 ad u M X s H locs) {ls : Array Slot} (hl : lv_has ls 5 [(0, .long x0), (2, .int x2)]) : W p l e { frames := 1, cells := 0, slots := 0, locals := 22 } s m args below meth c H locs 0 0 (MQ below (cq_l T D cy z0 ad u X z M) args s 0 0 (fun q => z0 ≤ q)) (F0 m 0 ls []) := by
  have hx := hC.1
  have hb := hC.2.1
  unfold f_X0_tailOf at hf
  refine lv_lload_n hx hb dX0_tailOf_0 rfl (lv_at hl 0 rfl) ?_
  obtain ⟨z1, ez1, hf⟩ := sq_e hf
  refine clc_Si hC hw (c_X0_lengthOf ez1.symm) hd_X0_lengthOf cw_X0_7 (rest := []) hl.1 rfl (Nat.le_of_ble_eq_true rfl) ⟨Nat.le_of_ble_eq_true rfl, Nat.le_of_ble_eq_true rfl⟩ ⟨Nat.zero_le _, Nat.zero_le _⟩ rfl dX0_tailOf_1 (fun H locs hw => ?_)
  refine lv_istore_n (lv' := [(3, .int z1), (0, .long x0), (2, .int x2)]) hx hb dX0_tailOf_4 rfl hl (by decide) rfl (fun ls hl => ?_)
  refine lv_iload_n hx hb dX0_tailOf_5 rfl (lv_at hl 0 rfl) ?_
  refine lv_iconst (v := 1) hx hb dX0_tailOf_6 (by decide) ?_
  refine lv_isub hx hb dX0_tailOf_7 ?_
  obtain ⟨y2, ey2, hf⟩ := sq_e hf
  refine lt_i ey2 ?_
  refine lv_istore (lv' := [(4, .int y2), (3, .int z1), (0, .long x0), (2, .int x2)]) hx hb dX0_tailOf_8 hl (by decide) rfl (fun ls hl => ?_)
  exact k_X0_tailOf_10l hC fu_ _ _ _ _ _ _ _ hf hw (lv_sub hl [2, 3, 1, 0] rfl)
set_option maxRecDepth 100000 in
theorem c_X0_tailOf {l : Launch} {T : wd_T} {D : va_G} {cy : Nat → ClassId} {z0 : Nat} {ad : Nat → Nat} {u : Nat × Nat} {X : va_W} {z : Int64} {x0 : Int64} {x2 : Int32} {M : mm_M} (hf : f_X0_tailOf x0 x2 = some z) : ct_l T l yX0_tailOf (Cond.code yX0_tailOf cX0_tailOf 5 (some .long)) 1 22 D cy z0 ad u M X [.long x0, .int x2] z M := by
  refine bgc_l (by decide) (fun p e s m below meth c hC hw => ?_)
  refine en_t (Nat.le_of_ble_eq_true rfl) (fun ls hl => ?_)
  have hl : lv_has ls 5 [(0, .long x0), (2, .int x2)] := hl
  exact k_X0_tailOf hC hf hw hl
set_option maxRecDepth 100000 in
set_option maxHeartbeats 4000000 in
theorem k_X8_takes_16 {p : Program} {l : Launch} {e : Env} {s : State} {m : MethodId} {args : Array Value} {below : List Frame} {meth : Method} {c : Code} {D : va_G} {cy : Nat → ClassId} {z0 : Nat} {ad : Nat → Nat} {X : va_W} {u : Nat × Nat} (hC : cx_C p s m args meth c cX8_takes "RhymedThen$Text" (Cond.code yX8_takes cX8_takes 3 (some .boolean)) 3 (some .boolean)) {z : (Int32 × mm_M)} {x1 : Int32} {x2 : Int32} {M : mm_M} {q16 : Int32 → Int32 → mm_M → Option (Int32 × mm_M)} (hq16 : ∀ (x1 : Int32) (x2 : Int32) (M : mm_M) (H : Heap) (locs : List Loc) (ls : Array Slot), q16 x1 x2 M = some z → wd_in cx_T D cy z0 ad u M X s H locs → lv_has ls 3 [(0, .ref (ad 1)), (1, .int x1), (2, .int x2)] → W p l e { frames := 0, cells := 0, slots := 0, locals := 0 } s m args below meth c H locs 0 0 (MQ below (cq_i cx_T D cy z0 ad u X z.1 z.2) args s 0 0 (fun q => z0 ≤ q)) (F0 m 16 ls [])) (hf : f_X8_takes_16 q16 x1 x2 M = some z) {H : Heap} {locs : List Loc} (hw : wd_in cx_T D cy z0 ad u M X s H locs) {ls : Array Slot} (hl : lv_has ls 3 [(0, .ref (ad 1)), (1, .int x1), (2, .int x2)]) : W p l e { frames := 0, cells := 0, slots := 0, locals := 0 } s m args below meth c H locs 0 0 (MQ below (cq_i cx_T D cy z0 ad u X z.1 z.2) args s 0 0 (fun q => z0 ≤ q)) (F0 m 16 ls []) := by
  have hx := hC.1
  have hb := hC.2.1
  unfold f_X8_takes_16 at hf
  refine lv_iload_n hx hb dX8_takes_16 rfl (lv_at hl 2 rfl) ?_
  refine lv_if_lt (tgt := 52) hx hb dX8_takes_17 (by decide) (fun c2 => ?_) (fun c2 => ?_)
  · rw [if_pos c2] at hf
    refine lv_iconst (v := 1) hx hb dX8_takes_52 (by decide) ?_
    cases hf
    exact rtc_z hC hw (Or.inr rfl) dX8_takes_53
  · rw [if_neg c2] at hf
    refine lv_aload_n hx hb dX8_takes_20 rfl (lv_at hl 0 rfl) ?_
    refine rg_p hC hw 1 (Nat.le_of_ble_eq_true rfl) rfl fd_X8_0 wf_X8_11 (q := 2) rfl dX8_takes_21 ?_
    refine lv_aload_n hx hb dX8_takes_24 rfl (lv_at hl 0 rfl) ?_
    refine rg_i hC hw 1 (Nat.le_of_ble_eq_true rfl) rfl fd_X8_1 wf_X8_15 dX8_takes_25 ?_
    refine lv_iload_n hx hb dX8_takes_28 rfl (lv_at hl 1 rfl) ?_
    refine lv_iload_n hx hb dX8_takes_29 rfl (lv_at hl 2 rfl) ?_
    refine lv_ishr hx hb dX8_takes_30 ?_
    refine lv_sipush (v := 255) hx hb dX8_takes_31 (by decide) ?_
    refine lv_iand hx hb dX8_takes_34 ?_
    obtain ⟨h3, hf⟩ := ck_e hf
    obtain ⟨M4, eM4, hf⟩ := sq_e hf
    refine rs_i hC hw 2 (Nat.le_of_ble_eq_true rfl) rfl h3 dX8_takes_35 eM4 (fun H locs hw => ?_)
    refine lv_aload_n hx hb dX8_takes_36 rfl (lv_at hl 0 rfl) ?_
    refine lv_dup hx hb dX8_takes_37 rfl ?_
    refine rg_i hC hw 1 (Nat.le_of_ble_eq_true rfl) rfl fd_X8_1 wf_X8_15 dX8_takes_38 ?_
    refine lv_iconst (v := 1) hx hb dX8_takes_41 (by decide) ?_
    refine lv_iadd hx hb dX8_takes_42 ?_
    obtain ⟨M5, eM5, hf⟩ := sq_e hf
    refine rp_i hC hw 1 (Nat.le_of_ble_eq_true rfl) rfl fd_X8_1 wf_X8_15 fp_X8_1 rfl rfl dX8_takes_43 eM5 (fun H locs hw => ?_)
    obtain ⟨y6, ey6, hf⟩ := sq_e hf
    refine lv_iinc (v := y6) (lv' := [(2, .int y6), (0, .ref (ad 1)), (1, .int x1)]) hx hb dX8_takes_46 hl (k := 2) rfl (by rw [ey6]; rfl) (by decide) rfl (fun ls hl => ?_)
    refine lv_goto (tgt := 16) hx hb dX8_takes_49 (by decide) ?_
    exact hq16 _ _ _ _ _ _ hf hw (lv_sub hl [1, 2, 0] rfl)
set_option maxRecDepth 100000 in
set_option maxHeartbeats 4000000 in
theorem k_X8_takes_16l {p : Program} {l : Launch} {e : Env} {s : State} {m : MethodId} {args : Array Value} {below : List Frame} {meth : Method} {c : Code} {D : va_G} {cy : Nat → ClassId} {z0 : Nat} {ad : Nat → Nat} {X : va_W} {u : Nat × Nat} (hC : cx_C p s m args meth c cX8_takes "RhymedThen$Text" (Cond.code yX8_takes cX8_takes 3 (some .boolean)) 3 (some .boolean)) {z : (Int32 × mm_M)} : ∀ (n : Nat) (x1 : Int32) (x2 : Int32) (M : mm_M) (H : Heap) (locs : List Loc) (ls : Array Slot), f_X8_takes_16l n x1 x2 M = some z → wd_in cx_T D cy z0 ad u M X s H locs → lv_has ls 3 [(0, .ref (ad 1)), (1, .int x1), (2, .int x2)] → W p l e { frames := 0, cells := 0, slots := 0, locals := 0 } s m args below meth c H locs 0 0 (MQ below (cq_i cx_T D cy z0 ad u X z.1 z.2) args s 0 0 (fun q => z0 ≤ q)) (F0 m 16 ls []) := by
  intro n
  induction n with
  | zero => intro x1 x2 M H locs ls hf; exact absurd hf (by simp [f_X8_takes_16l])
  | succ n ih => intro x1 x2 M H locs ls hf hw hl; exact k_X8_takes_16 hC ih hf hw hl
set_option maxRecDepth 100000 in
set_option maxHeartbeats 4000000 in
theorem k_X8_takes {p : Program} {l : Launch} {e : Env} {s : State} {m : MethodId} {args : Array Value} {below : List Frame} {meth : Method} {c : Code} {D : va_G} {cy : Nat → ClassId} {z0 : Nat} {ad : Nat → Nat} {X : va_W} {u : Nat × Nat} (hC : cx_C p s m args meth c cX8_takes "RhymedThen$Text" (Cond.code yX8_takes cX8_takes 3 (some .boolean)) 3 (some .boolean)) {z : (Int32 × mm_M)} {x1 : Int32} {M : mm_M} (hf : f_X8_takes x1 M = some z) {H : Heap} {locs : List Loc} (hw : wd_in cx_T D cy z0 ad u M X s H locs) {ls : Array Slot} (hl : lv_has ls 3 [(0, .ref (ad 1)), (1, .int x1)]) : W p l e { frames := 0, cells := 0, slots := 0, locals := 0 } s m args below meth c H locs 0 0 (MQ below (cq_i cx_T D cy z0 ad u X z.1 z.2) args s 0 0 (fun q => z0 ≤ q)) (F0 m 0 ls []) := by
  have hx := hC.1
  have hb := hC.2.1
  unfold f_X8_takes at hf
  refine lv_aload_n hx hb dX8_takes_0 rfl (lv_at hl 0 rfl) ?_
  refine rg_i hC hw 1 (Nat.le_of_ble_eq_true rfl) rfl fd_X8_1 wf_X8_15 dX8_takes_1 ?_
  refine lv_iconst (v := 4) hx hb dX8_takes_4 (by decide) ?_
  refine lv_iadd hx hb dX8_takes_5 ?_
  refine lv_bipush (v := 40) hx hb dX8_takes_6 (by decide) ?_
  refine lv_icmp_le (tgt := 13) hx hb dX8_takes_8 (by decide) (fun c1 => ?_) (fun c1 => ?_)
  · rw [if_pos c1] at hf
    refine lv_bipush (v := 24) hx hb dX8_takes_13 (by decide) ?_
    refine lv_istore_n (lv' := [(2, .int 24), (0, .ref (ad 1)), (1, .int x1)]) hx hb dX8_takes_15 rfl hl (by decide) rfl (fun ls hl => ?_)
    exact k_X8_takes_16l hC fu_ _ _ _ _ _ _ hf hw (lv_sub hl [1, 2, 0] rfl)
  · rw [if_neg c1] at hf
    refine lv_iconst (v := 0) hx hb dX8_takes_11 (by decide) ?_
    cases hf
    exact rtc_z hC hw (Or.inl rfl) dX8_takes_12
set_option maxRecDepth 100000 in
theorem c_X8_takes {l : Launch} {D : va_G} {cy : Nat → ClassId} {z0 : Nat} {ad : Nat → Nat} {u : Nat × Nat} {X : va_W} {z : (Int32 × mm_M)} {x1 : Int32} {M : mm_M} (hf : f_X8_takes x1 M = some z) : ct_i cx_T l yX8_takes (Cond.code yX8_takes cX8_takes 3 (some .boolean)) 0 0 D cy z0 ad u M X [.ref (ad 1), .int x1] z.1 z.2 := by
  refine bgc_i (by decide) (fun p e s m below meth c hC hw => ?_)
  refine en_t (Nat.le_of_ble_eq_true rfl) (fun ls hl => ?_)
  have hl : lv_has ls 3 [(0, .ref (ad 1)), (1, .int x1)] := hl
  exact k_X8_takes hC hf hw hl
set_option maxRecDepth 100000 in
set_option maxHeartbeats 4000000 in
theorem k_X8_cutTo {p : Program} {l : Launch} {e : Env} {s : State} {m : MethodId} {args : Array Value} {below : List Frame} {meth : Method} {c : Code} {D : va_G} {cy : Nat → ClassId} {z0 : Nat} {ad : Nat → Nat} {X : va_W} {u : Nat × Nat} (hC : cx_C p s m args meth c cX8_cutTo "RhymedThen$Text" (Cond.code yX8_cutTo cX8_cutTo 2 (some .boolean)) 2 (some .boolean)) {z : (Int32 × mm_M)} {x1 : Int32} {M : mm_M} (hf : f_X8_cutTo x1 M = z) {H : Heap} {locs : List Loc} (hw : wd_in cx_T D cy z0 ad u M X s H locs) {ls : Array Slot} (hl : lv_has ls 2 [(0, .ref (ad 1)), (1, .int x1)]) : W p l e { frames := 0, cells := 0, slots := 0, locals := 0 } s m args below meth c H locs 0 0 (MQ below (cq_i cx_T D cy z0 ad u X z.1 z.2) args s 0 0 (fun q => z0 ≤ q)) (F0 m 0 ls []) := by
  have hx := hC.1
  have hb := hC.2.1
  unfold f_X8_cutTo at hf
  refine lv_iload_n hx hb dX8_cutTo_0 rfl (lv_at hl 1 rfl) ?_
  refine lv_if_lt (tgt := 12) hx hb dX8_cutTo_1 (by decide) (fun c1 => ?_) (fun c1 => ?_)
  · rw [if_pos c1] at hf
    refine lv_iconst (v := 0) hx hb dX8_cutTo_12 (by decide) ?_
    cases hf
    exact rtc_z hC hw (Or.inl rfl) dX8_cutTo_13
  · rw [if_neg c1] at hf
    refine lv_iload_n hx hb dX8_cutTo_4 rfl (lv_at hl 1 rfl) ?_
    refine lv_aload_n hx hb dX8_cutTo_5 rfl (lv_at hl 0 rfl) ?_
    refine rg_i hC hw 1 (Nat.le_of_ble_eq_true rfl) rfl fd_X8_1 wf_X8_15 dX8_cutTo_6 ?_
    refine lv_icmp_le (tgt := 14) hx hb dX8_cutTo_9 (by decide) (fun c2 => ?_) (fun c2 => ?_)
    · rw [if_pos c2] at hf
      refine lv_aload_n hx hb dX8_cutTo_14 rfl (lv_at hl 0 rfl) ?_
      refine lv_iload_n hx hb dX8_cutTo_15 rfl (lv_at hl 1 rfl) ?_
      obtain ⟨M3, eM3, hf⟩ := sq_e hf
      refine rp_i hC hw 1 (Nat.le_of_ble_eq_true rfl) rfl fd_X8_1 wf_X8_15 fp_X8_1 rfl rfl dX8_cutTo_16 eM3 (fun H locs hw => ?_)
      refine lv_iconst (v := 1) hx hb dX8_cutTo_19 (by decide) ?_
      cases hf
      exact rtc_z hC hw (Or.inr rfl) dX8_cutTo_20
    · rw [if_neg c2] at hf
      refine lv_iconst (v := 0) hx hb dX8_cutTo_12 (by decide) ?_
      cases hf
      exact rtc_z hC hw (Or.inl rfl) dX8_cutTo_13
set_option maxRecDepth 100000 in
theorem c_X8_cutTo {l : Launch} {D : va_G} {cy : Nat → ClassId} {z0 : Nat} {ad : Nat → Nat} {u : Nat × Nat} {X : va_W} {z : (Int32 × mm_M)} {x1 : Int32} {M : mm_M} (hf : f_X8_cutTo x1 M = z) : ct_i cx_T l yX8_cutTo (Cond.code yX8_cutTo cX8_cutTo 2 (some .boolean)) 0 0 D cy z0 ad u M X [.ref (ad 1), .int x1] z.1 z.2 := by
  refine bgc_i (by decide) (fun p e s m below meth c hC hw => ?_)
  refine en_t (Nat.le_of_ble_eq_true rfl) (fun ls hl => ?_)
  have hl : lv_has ls 2 [(0, .ref (ad 1)), (1, .int x1)] := hl
  exact k_X8_cutTo hC hf hw hl
set_option maxRecDepth 100000 in
set_option maxHeartbeats 4000000 in
theorem k_X5_isBooked {p : Program} {l : Launch} {e : Env} {s : State} {m : MethodId} {args : Array Value} {below : List Frame} {meth : Method} {c : Code} {D : va_G} {cy : Nat → ClassId} {z0 : Nat} {ad : Nat → Nat} {X : va_W} {u : Nat × Nat} (hC : cx_C p s m args meth c cX5_isBooked "RhymedThen$Sign" (Cond.code yX5_isBooked cX5_isBooked 4 (some .boolean)) 4 (some .boolean)) {z : Int32} {k0 : Nat} {x1 : Int64} {M : mm_M} (hk0 : sg_ok k0) (hf : f_X5_isBooked k0 x1 M = z) {H : Heap} {locs : List Loc} (hw : wd_in cx_T D cy z0 ad u M X s H locs) {ls : Array Slot} (hl : lv_has ls 4 [(0, .ref (ad k0)), (1, .long x1)]) : W p l e { frames := 1, cells := 0, slots := 0, locals := 22 } s m args below meth c H locs 0 0 (MQ below (cq_i cx_T D cy z0 ad u X z M) args s 0 0 (fun q => z0 ≤ q)) (F0 m 0 ls []) := by
  have hx := hC.1
  have hb := hC.2.1
  unfold f_X5_isBooked at hf
  refine lv_aload_n hx hb dX5_isBooked_0 rfl (lv_at hl 0 rfl) ?_
  refine rg_i hC hw k0 (sg_lt hk0) (sg_kd hk0) fd_X5_3 wf_X5_25 dX5_isBooked_1 ?_
  refine lv_iconst (v := 4) hx hb dX5_isBooked_4 (by decide) ?_
  refine lv_ishr hx hb dX5_isBooked_5 ?_
  obtain ⟨y1, ey1, hf⟩ := sq_e hf
  refine lt_i ey1 ?_
  refine lv_istore_n (lv' := [(3, .int y1), (0, .ref (ad k0)), (1, .long x1)]) hx hb dX5_isBooked_6 rfl hl (by decide) rfl (fun ls hl => ?_)
  refine lv_iload_n hx hb dX5_isBooked_7 rfl (lv_at hl 0 rfl) ?_
  refine lv_lload_n hx hb dX5_isBooked_8 rfl (lv_at hl 2 rfl) ?_
  obtain ⟨z2, ez2, hf⟩ := sq_e hf
  refine clc_Si hC hw (c_X0_lengthOf ez2.symm) hd_X0_lengthOf cw_X5_66 (rest := [.int y1]) hl.1 rfl (Nat.le_of_ble_eq_true rfl) ⟨Nat.le_of_ble_eq_true rfl, Nat.le_of_ble_eq_true rfl⟩ ⟨Nat.zero_le _, Nat.zero_le _⟩ rfl dX5_isBooked_9 (fun H locs hw => ?_)
  refine lv_icmp_ge (tgt := 34) hx hb dX5_isBooked_12 (by decide) (fun c3 => ?_) (fun c3 => ?_)
  · rw [if_pos c3] at hf
    refine lv_iconst (v := 0) hx hb dX5_isBooked_34 (by decide) ?_
    cases hf
    exact rtc_z hC hw (Or.inl rfl) dX5_isBooked_35
  · rw [if_neg c3] at hf
    refine lv_lload_n hx hb dX5_isBooked_15 rfl (lv_at hl 2 rfl) ?_
    refine lv_iload_n hx hb dX5_isBooked_16 rfl (lv_at hl 0 rfl) ?_
    obtain ⟨z4, ez4, hf⟩ := sq_e hf
    refine clc_Si hC hw (c_X0_soundAt ez4.symm) hd_X0_soundAt cw_X5_70 (rest := []) hl.1 rfl (Nat.le_of_ble_eq_true rfl) ⟨Nat.le_of_ble_eq_true rfl, Nat.le_of_ble_eq_true rfl⟩ ⟨Nat.zero_le _, Nat.zero_le _⟩ rfl dX5_isBooked_17 (fun H locs hw => ?_)
    refine lv_aload_n hx hb dX5_isBooked_20 rfl (lv_at hl 1 rfl) ?_
    refine rg_i hC hw k0 (sg_lt hk0) (sg_kd hk0) fd_X5_3 wf_X5_25 dX5_isBooked_21 ?_
    refine lv_bipush (v := 15) hx hb dX5_isBooked_24 (by decide) ?_
    refine lv_iand hx hb dX5_isBooked_26 ?_
    refine lv_icmp_ne (tgt := 34) hx hb dX5_isBooked_27 (by decide) (fun c5 => ?_) (fun c5 => ?_)
    · rw [if_neg c5] at hf
      refine lv_iconst (v := 0) hx hb dX5_isBooked_34 (by decide) ?_
      cases hf
      exact rtc_z hC hw (Or.inl rfl) dX5_isBooked_35
    · rw [if_pos c5] at hf
      refine lv_iconst (v := 1) hx hb dX5_isBooked_30 (by decide) ?_
      refine lv_goto (tgt := 35) hx hb dX5_isBooked_31 (by decide) ?_
      cases hf
      exact rtc_z hC hw (Or.inr rfl) dX5_isBooked_35
set_option maxRecDepth 100000 in
theorem c_X5_isBooked {l : Launch} {D : va_G} {cy : Nat → ClassId} {z0 : Nat} {ad : Nat → Nat} {u : Nat × Nat} {X : va_W} {z : Int32} {k0 : Nat} {x1 : Int64} {M : mm_M} (hk0 : sg_ok k0) (hf : f_X5_isBooked k0 x1 M = z) : ct_i cx_T l yX5_isBooked (Cond.code yX5_isBooked cX5_isBooked 4 (some .boolean)) 1 22 D cy z0 ad u M X [.ref (ad k0), .long x1] z M := by
  refine bgc_i (by decide) (fun p e s m below meth c hC hw => ?_)
  refine en_t (Nat.le_of_ble_eq_true rfl) (fun ls hl => ?_)
  have hl : lv_has ls 4 [(0, .ref (ad k0)), (1, .long x1)] := hl
  exact k_X5_isBooked hC hk0 hf hw hl
