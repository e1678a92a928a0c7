set_option maxRecDepth 100000 in
set_option maxHeartbeats 4000000 in
theorem k_J6_bitCount_0f7a4 {p : Program} {l : Launch} {e : Env} {s : State} {m : MethodId} {args : Array Value} {below : List Frame} {meth : Method} {c : Code} {T : wd_T} {D : va_G} {cy : Nat → ClassId} {z0 : Nat} {ad : Nat → Nat} {X : va_W} {M : mm_M} {u : Nat × Nat} (hC : cx_C p s m args meth c cJ6_bitCount_0f7a4 "java/lang/Integer" (Cond.code yJ6_bitCount_0f7a4 cJ6_bitCount_0f7a4 1 (some .int)) 1 (some .int)) {z : Int32} {x0 : Int32} (hf : f_J6_bitCount_0f7a4 x0 = z) {H : Heap} {locs : List Loc} (hw : wd_in T D cy z0 ad u M X s H locs) {ls : Array Slot} (hl : lv_has ls 1 [(0, .int x0)]) : W p l e { frames := 0, cells := 0, slots := 0, locals := 0 } s m args below meth c H locs 0 0 (MQ below (cq_i T D cy z0 ad u X z M) args s 0 0 (fun q => z0 ≤ q)) (F0 m 0 ls []) := by
  have hx := hC.1
  have hb := hC.2.1
  unfold f_J6_bitCount_0f7a4 at hf
  refine lv_iload_n hx hb dJ6_bitCount_0f7a4_0 rfl (lv_at hl 0 rfl) ?_
  refine lv_iload_n hx hb dJ6_bitCount_0f7a4_1 rfl (lv_at hl 0 rfl) ?_
  refine lv_iconst (v := 1) hx hb dJ6_bitCount_0f7a4_2 (by decide) ?_
  refine lv_iushr hx hb dJ6_bitCount_0f7a4_3 rfl ?_
  refine lv_ldcw (v := 1431655765) hx hb hC.2.2.2.1 (hC.t wk_J6_265) dJ6_bitCount_0f7a4_4 ?_
  refine lv_iand hx hb dJ6_bitCount_0f7a4_7 ?_
  refine lv_isub hx hb dJ6_bitCount_0f7a4_8 ?_
  obtain ⟨y1, ey1, hf⟩ := sq_e hf
  refine lt_i ey1 ?_
  refine lv_istore_n (lv' := [(0, .int y1)]) hx hb dJ6_bitCount_0f7a4_9 rfl hl (by decide) rfl (fun ls hl => ?_)
  refine lv_iload_n hx hb dJ6_bitCount_0f7a4_10 rfl (lv_at hl 0 rfl) ?_
  refine lv_ldcw (v := 858993459) hx hb hC.2.2.2.1 (hC.t wk_J6_266) dJ6_bitCount_0f7a4_11 ?_
  refine lv_iand hx hb dJ6_bitCount_0f7a4_14 ?_
  refine lv_iload_n hx hb dJ6_bitCount_0f7a4_15 rfl (lv_at hl 0 rfl) ?_
  refine lv_iconst (v := 2) hx hb dJ6_bitCount_0f7a4_16 (by decide) ?_
  refine lv_iushr hx hb dJ6_bitCount_0f7a4_17 rfl ?_
  refine lv_ldcw (v := 858993459) hx hb hC.2.2.2.1 (hC.t wk_J6_266) dJ6_bitCount_0f7a4_18 ?_
  refine lv_iand hx hb dJ6_bitCount_0f7a4_21 ?_
  refine lv_iadd hx hb dJ6_bitCount_0f7a4_22 ?_
  obtain ⟨y2, ey2, hf⟩ := sq_e hf
  refine lt_i ey2 ?_
  refine lv_istore_n (lv' := [(0, .int y2)]) hx hb dJ6_bitCount_0f7a4_23 rfl hl (by decide) rfl (fun ls hl => ?_)
  refine lv_iload_n hx hb dJ6_bitCount_0f7a4_24 rfl (lv_at hl 0 rfl) ?_
  refine lv_iload_n hx hb dJ6_bitCount_0f7a4_25 rfl (lv_at hl 0 rfl) ?_
  refine lv_iconst (v := 4) hx hb dJ6_bitCount_0f7a4_26 (by decide) ?_
  refine lv_iushr hx hb dJ6_bitCount_0f7a4_27 rfl ?_
  refine lv_iadd hx hb dJ6_bitCount_0f7a4_28 ?_
  refine lv_ldcw (v := 252645135) hx hb hC.2.2.2.1 (hC.t wk_J6_267) dJ6_bitCount_0f7a4_29 ?_
  refine lv_iand hx hb dJ6_bitCount_0f7a4_32 ?_
  obtain ⟨y3, ey3, hf⟩ := sq_e hf
  refine lt_i ey3 ?_
  refine lv_istore_n (lv' := [(0, .int y3)]) hx hb dJ6_bitCount_0f7a4_33 rfl hl (by decide) rfl (fun ls hl => ?_)
  refine lv_iload_n hx hb dJ6_bitCount_0f7a4_34 rfl (lv_at hl 0 rfl) ?_
  refine lv_iload_n hx hb dJ6_bitCount_0f7a4_35 rfl (lv_at hl 0 rfl) ?_
  refine lv_bipush (v := 8) hx hb dJ6_bitCount_0f7a4_36 (by decide) ?_
  refine lv_iushr hx hb dJ6_bitCount_0f7a4_38 rfl ?_
  refine lv_iadd hx hb dJ6_bitCount_0f7a4_39 ?_
  obtain ⟨y4, ey4, hf⟩ := sq_e hf
  refine lt_i ey4 ?_
  refine lv_istore_n (lv' := [(0, .int y4)]) hx hb dJ6_bitCount_0f7a4_40 rfl hl (by decide) rfl (fun ls hl => ?_)
  refine lv_iload_n hx hb dJ6_bitCount_0f7a4_41 rfl (lv_at hl 0 rfl) ?_
  refine lv_iload_n hx hb dJ6_bitCount_0f7a4_42 rfl (lv_at hl 0 rfl) ?_
  refine lv_bipush (v := 16) hx hb dJ6_bitCount_0f7a4_43 (by decide) ?_
  refine lv_iushr hx hb dJ6_bitCount_0f7a4_45 rfl ?_
  refine lv_iadd hx hb dJ6_bitCount_0f7a4_46 ?_
  obtain ⟨y5, ey5, hf⟩ := sq_e hf
  refine lt_i ey5 ?_
  refine lv_istore_n (lv' := [(0, .int y5)]) hx hb dJ6_bitCount_0f7a4_47 rfl hl (by decide) rfl (fun ls hl => ?_)
  refine lv_iload_n hx hb dJ6_bitCount_0f7a4_48 rfl (lv_at hl 0 rfl) ?_
  refine lv_bipush (v := 63) hx hb dJ6_bitCount_0f7a4_49 (by decide) ?_
  refine lv_iand hx hb dJ6_bitCount_0f7a4_51 ?_
  subst hf
  exact rtc_i hC hw dJ6_bitCount_0f7a4_52
set_option maxRecDepth 100000 in
theorem c_J6_bitCount_0f7a4 {l : Launch} {T : wd_T} {D : va_G} {cy : Nat → ClassId} {z0 : Nat} {ad : Nat → Nat} {u : Nat × Nat} {X : va_W} {z : Int32} {x0 : Int32} {M : mm_M} (hf : f_J6_bitCount_0f7a4 x0 = z) : ct_i T l yJ6_bitCount_0f7a4 (Cond.code yJ6_bitCount_0f7a4 cJ6_bitCount_0f7a4 1 (some .int)) 0 0 D cy z0 ad u M X [.int x0] z M := by
  refine bgc_i (by decide) (fun p e s m below meth c hC hw => ?_)
  refine en_t (Nat.le_of_ble_eq_true rfl) (fun ls hl => ?_)
  have hl : lv_has ls 1 [(0, .int x0)] := hl
  exact k_J6_bitCount_0f7a4 hC hf hw hl
set_option maxRecDepth 100000 in
set_option maxHeartbeats 4000000 in
theorem k_J7_fill_53178_5 {p : Program} {l : Launch} {e : Env} {s : State} {m : MethodId} {args : Array Value} {below : List Frame} {meth : Method} {c : Code} {D : va_G} {cy : Nat → ClassId} {z0 : Nat} {ad : Nat → Nat} {X : va_W} {u : Nat × Nat} (hC : cx_C p s m args meth c cJ7_fill_53178 "java/util/Arrays" (Cond.code yJ7_fill_53178 cJ7_fill_53178 4 none) 4 none) {z : mm_M} {x1 : Int32} {x2 : Int32} {x3 : Int32} {M : mm_M} {q5 : Int32 → Int32 → Int32 → mm_M → Option mm_M} (hq5 : ∀ (x1 : Int32) (x2 : Int32) (x3 : Int32) (M : mm_M) (H : Heap) (locs : List Loc) (ls : Array Slot), q5 x1 x2 x3 M = some z → wd_in cx_T D cy z0 ad u M X s H locs → lv_has ls 4 [(0, .ref (ad 69)), (1, .int x1), (2, .int x2), (3, .int x3)] → W p l e { frames := 0, cells := 0, slots := 0, locals := 0 } s m args below meth c H locs 0 0 (MQ below (cq_v cx_T D cy z0 ad u X z) args s 0 0 (fun q => z0 ≤ q)) (F0 m 5 ls [])) (hf : f_J7_fill_53178_5 q5 x1 x2 x3 M = some z) {H : Heap} {locs : List Loc} (hw : wd_in cx_T D cy z0 ad u M X s H locs) {ls : Array Slot} (hl : lv_has ls 4 [(0, .ref (ad 69)), (1, .int x1), (2, .int x2), (3, .int x3)]) : W p l e { frames := 0, cells := 0, slots := 0, locals := 0 } s m args below meth c H locs 0 0 (MQ below (cq_v cx_T D cy z0 ad u X z) args s 0 0 (fun q => z0 ≤ q)) (F0 m 5 ls []) := by
  have hx := hC.1
  have hb := hC.2.1
  unfold f_J7_fill_53178_5 at hf
  refine lv_iload_n hx hb dJ7_fill_53178_5 rfl (lv_at hl 2 rfl) ?_
  refine lv_iload_n hx hb dJ7_fill_53178_6 rfl (lv_at hl 3 rfl) ?_
  refine lv_icmp_ge (tgt := 20) hx hb dJ7_fill_53178_7 (by decide) (fun c1 => ?_) (fun c1 => ?_)
  · rw [if_pos c1] at hf
    have hz := Option.some.inj hf
    subst hz
    exact rtc_v hC hw dJ7_fill_53178_20
  · rw [if_neg c1] at hf
    refine lv_aload_n hx hb dJ7_fill_53178_10 rfl (lv_at hl 0 rfl) ?_
    refine lv_iload_n hx hb dJ7_fill_53178_11 rfl (lv_at hl 2 rfl) ?_
    refine lv_iload_n hx hb dJ7_fill_53178_12 rfl (lv_at hl 1 rfl) ?_
    obtain ⟨h2, hf⟩ := ck_e hf
    obtain ⟨M3, eM3, hf⟩ := sq_e hf
    refine rs_i hC hw 69 (Nat.le_of_ble_eq_true rfl) rfl h2 dJ7_fill_53178_13 eM3 (fun H locs hw => ?_)
    obtain ⟨y4, ey4, hf⟩ := sq_e hf
    refine lv_iinc (v := y4) (lv' := [(2, .int y4), (0, .ref (ad 69)), (1, .int x1), (3, .int x3)]) hx hb dJ7_fill_53178_14 hl (k := 2) rfl (by rw [ey4]; rfl) (by decide) rfl (fun ls hl => ?_)
    refine lv_goto (tgt := 5) hx hb dJ7_fill_53178_17 (by decide) ?_
    exact hq5 _ _ _ _ _ _ _ hf hw (lv_sub hl [1, 2, 0, 3] rfl)
set_option maxRecDepth 100000 in
set_option maxHeartbeats 4000000 in
theorem k_J7_fill_53178_5l {p : Program} {l : Launch} {e : Env} {s : State} {m : MethodId} {args : Array Value} {below : List Frame} {meth : Method} {c : Code} {D : va_G} {cy : Nat → ClassId} {z0 : Nat} {ad : Nat → Nat} {X : va_W} {u : Nat × Nat} (hC : cx_C p s m args meth c cJ7_fill_53178 "java/util/Arrays" (Cond.code yJ7_fill_53178 cJ7_fill_53178 4 none) 4 none) {z : mm_M} : ∀ (n : Nat) (x1 : Int32) (x2 : Int32) (x3 : Int32) (M : mm_M) (H : Heap) (locs : List Loc) (ls : Array Slot), f_J7_fill_53178_5l n x1 x2 x3 M = some z → wd_in cx_T D cy z0 ad u M X s H locs → lv_has ls 4 [(0, .ref (ad 69)), (1, .int x1), (2, .int x2), (3, .int x3)] → W p l e { frames := 0, cells := 0, slots := 0, locals := 0 } s m args below meth c H locs 0 0 (MQ below (cq_v cx_T D cy z0 ad u X z) args s 0 0 (fun q => z0 ≤ q)) (F0 m 5 ls []) := by
  intro n
  induction n with
  | zero => intro x1 x2 x3 M H locs ls hf; exact absurd hf (by simp [f_J7_fill_53178_5l])
  | succ n ih => intro x1 x2 x3 M H locs ls hf hw hl; exact k_J7_fill_53178_5 hC ih hf hw hl
set_option maxRecDepth 100000 in
set_option maxHeartbeats 4000000 in
theorem k_J7_fill_53178 {p : Program} {l : Launch} {e : Env} {s : State} {m : MethodId} {args : Array Value} {below : List Frame} {meth : Method} {c : Code} {D : va_G} {cy : Nat → ClassId} {z0 : Nat} {ad : Nat → Nat} {X : va_W} {u : Nat × Nat} (hC : cx_C p s m args meth c cJ7_fill_53178 "java/util/Arrays" (Cond.code yJ7_fill_53178 cJ7_fill_53178 4 none) 4 none) {z : mm_M} {x1 : Int32} {M : mm_M} (hf : f_J7_fill_53178 x1 M = some z) {H : Heap} {locs : List Loc} (hw : wd_in cx_T D cy z0 ad u M X s H locs) {ls : Array Slot} (hl : lv_has ls 4 [(0, .ref (ad 69)), (1, .int x1)]) : W p l e { frames := 0, cells := 0, slots := 0, locals := 0 } s m args below meth c H locs 0 0 (MQ below (cq_v cx_T D cy z0 ad u X z) args s 0 0 (fun q => z0 ≤ q)) (F0 m 0 ls []) := by
  have hx := hC.1
  have hb := hC.2.1
  unfold f_J7_fill_53178 at hf
  refine lv_iconst (v := 0) hx hb dJ7_fill_53178_0 (by decide) ?_
  refine lv_istore_n (lv' := [(2, .int 0), (0, .ref (ad 69)), (1, .int x1)]) hx hb dJ7_fill_53178_1 rfl hl (by decide) rfl (fun ls hl => ?_)
  refine lv_aload_n hx hb dJ7_fill_53178_2 rfl (lv_at hl 1 rfl) ?_
  refine rn_i hC hw 69 (Nat.le_of_ble_eq_true rfl) rfl (v := 400) rfl dJ7_fill_53178_3 ?_
  refine lv_istore_n (lv' := [(3, .int 400), (2, .int 0), (0, .ref (ad 69)), (1, .int x1)]) hx hb dJ7_fill_53178_4 rfl hl (by decide) rfl (fun ls hl => ?_)
  exact k_J7_fill_53178_5l hC fu_ _ _ _ _ _ _ _ hf hw (lv_sub hl [2, 3, 1, 0] rfl)
set_option maxRecDepth 100000 in
theorem c_J7_fill_53178 {l : Launch} {D : va_G} {cy : Nat → ClassId} {z0 : Nat} {ad : Nat → Nat} {u : Nat × Nat} {X : va_W} {z : mm_M} {x1 : Int32} {M : mm_M} (hf : f_J7_fill_53178 x1 M = some z) : ct_v cx_T l yJ7_fill_53178 (Cond.code yJ7_fill_53178 cJ7_fill_53178 4 none) 0 0 D cy z0 ad u M X [.ref (ad 69), .int x1] z := by
  refine bgc_v (by decide) (fun p e s m below meth c hC hw => ?_)
  refine en_t (Nat.le_of_ble_eq_true rfl) (fun ls hl => ?_)
  have hl : lv_has ls 4 [(0, .ref (ad 69)), (1, .int x1)] := hl
  exact k_J7_fill_53178 hC hf hw hl
set_option maxRecDepth 100000 in
set_option maxHeartbeats 4000000 in
theorem k_X0_lengthOf {p : Program} {l : Launch} {e : Env} {s : State} {m : MethodId} {args : Array Value} {below : List Frame} {meth : Method} {c : Code} {T : wd_T} {D : va_G} {cy : Nat → ClassId} {z0 : Nat} {ad : Nat → Nat} {X : va_W} {M : mm_M} {u : Nat × Nat} (hC : cx_C p s m args meth c cX0_lengthOf "RhymedThen$Form" (Cond.code yX0_lengthOf cX0_lengthOf 2 (some .int)) 2 (some .int)) {z : Int32} {x0 : Int64} (hf : f_X0_lengthOf x0 = z) {H : Heap} {locs : List Loc} (hw : wd_in T D cy z0 ad u M X s H locs) {ls : Array Slot} (hl : lv_has ls 2 [(0, .long x0)]) : W p l e { frames := 0, cells := 0, slots := 0, locals := 0 } s m args below meth c H locs 0 0 (MQ below (cq_i T D cy z0 ad u X z M) args s 0 0 (fun q => z0 ≤ q)) (F0 m 0 ls []) := by
  have hx := hC.1
  have hb := hC.2.1
  unfold f_X0_lengthOf at hf
  refine lv_lload_n hx hb dX0_lengthOf_0 rfl (lv_at hl 0 rfl) ?_
  refine lv_bipush (v := 32) hx hb dX0_lengthOf_1 (by decide) ?_
  refine lv_lushr hx hb dX0_lengthOf_3 rfl ?_
  refine lv_l2i hx hb dX0_lengthOf_4 rfl ?_
  refine lv_iconst (v := 1) hx hb dX0_lengthOf_5 (by decide) ?_
  refine lv_isub hx hb dX0_lengthOf_6 ?_
  subst hf
  exact rtc_i hC hw dX0_lengthOf_7
set_option maxRecDepth 100000 in
theorem c_X0_lengthOf {l : Launch} {T : wd_T} {D : va_G} {cy : Nat → ClassId} {z0 : Nat} {ad : Nat → Nat} {u : Nat × Nat} {X : va_W} {z : Int32} {x0 : Int64} {M : mm_M} (hf : f_X0_lengthOf x0 = z) : ct_i T l yX0_lengthOf (Cond.code yX0_lengthOf cX0_lengthOf 2 (some .int)) 0 0 D cy z0 ad u M X [.long x0] z M := by
  refine bgc_i (by decide) (fun p e s m below meth c hC hw => ?_)
  refine en_t (Nat.le_of_ble_eq_true rfl) (fun ls hl => ?_)
  have hl : lv_has ls 2 [(0, .long x0)] := hl
  exact k_X0_lengthOf hC hf hw hl
set_option maxRecDepth 100000 in
set_option maxHeartbeats 4000000 in
theorem k_X0_soundAt {p : Program} {l : Launch} {e : Env} {s : State} {m : MethodId} {args : Array Value} {below : List Frame} {meth : Method} {c : Code} {T : wd_T} {D : va_G} {cy : Nat → ClassId} {z0 : Nat} {ad : Nat → Nat} {X : va_W} {M : mm_M} {u : Nat × Nat} (hC : cx_C p s m args meth c cX0_soundAt "RhymedThen$Form" (Cond.code yX0_soundAt cX0_soundAt 3 (some .int)) 3 (some .int)) {z : Int32} {x0 : Int64} {x2 : Int32} (hf : f_X0_soundAt x0 x2 = z) {H : Heap} {locs : List Loc} (hw : wd_in T D cy z0 ad u M X s H locs) {ls : Array Slot} (hl : lv_has ls 3 [(0, .long x0), (2, .int x2)]) : W p l e { frames := 0, cells := 0, slots := 0, locals := 0 } s m args below meth c H locs 0 0 (MQ below (cq_i T D cy z0 ad u X z M) args s 0 0 (fun q => z0 ≤ q)) (F0 m 0 ls []) := by
  have hx := hC.1
  have hb := hC.2.1
  unfold f_X0_soundAt at hf
  refine lv_lload_n hx hb dX0_soundAt_0 rfl (lv_at hl 0 rfl) ?_
  refine lv_iconst (v := 4) hx hb dX0_soundAt_1 (by decide) ?_
  refine lv_iload_n hx hb dX0_soundAt_2 rfl (lv_at hl 1 rfl) ?_
  refine lv_imul hx hb dX0_soundAt_3 ?_
  refine lv_lushr hx hb dX0_soundAt_4 rfl ?_
  refine lv_l2i hx hb dX0_soundAt_5 rfl ?_
  refine lv_bipush (v := 15) hx hb dX0_soundAt_6 (by decide) ?_
  refine lv_iand hx hb dX0_soundAt_8 ?_
  subst hf
  exact rtc_i hC hw dX0_soundAt_9
set_option maxRecDepth 100000 in
theorem c_X0_soundAt {l : Launch} {T : wd_T} {D : va_G} {cy : Nat → ClassId} {z0 : Nat} {ad : Nat → Nat} {u : Nat × Nat} {X : va_W} {z : Int32} {x0 : Int64} {x2 : Int32} {M : mm_M} (hf : f_X0_soundAt x0 x2 = z) : ct_i T l yX0_soundAt (Cond.code yX0_soundAt cX0_soundAt 3 (some .int)) 0 0 D cy z0 ad u M X [.long x0, .int x2] z M := by
  refine bgc_i (by decide) (fun p e s m below meth c hC hw => ?_)
  refine en_t (Nat.le_of_ble_eq_true rfl) (fun ls hl => ?_)
  have hl : lv_has ls 3 [(0, .long x0), (2, .int x2)] := hl
  exact k_X0_soundAt hC hf hw hl
set_option maxRecDepth 100000 in
set_option maxHeartbeats 4000000 in
theorem k_X0_of {p : Program} {l : Launch} {e : Env} {s : State} {m : MethodId} {args : Array Value} {below : List Frame} {meth : Method} {c : Code} {T : wd_T} {D : va_G} {cy : Nat → ClassId} {z0 : Nat} {ad : Nat → Nat} {X : va_W} {M : mm_M} {u : Nat × Nat} (hC : cx_C p s m args meth c cX0_of "RhymedThen$Form" (Cond.code yX0_of cX0_of 3 (some .long)) 3 (some .long)) {z : Int64} {x0 : Int64} {x2 : Int32} (hf : f_X0_of x0 x2 = z) {H : Heap} {locs : List Loc} (hw : wd_in T D cy z0 ad u M X s H locs) {ls : Array Slot} (hl : lv_has ls 3 [(0, .long x0), (2, .int x2)]) : W p l e { frames := 0, cells := 0, slots := 0, locals := 0 } s m args below meth c H locs 0 0 (MQ below (cq_l T D cy z0 ad u X z M) args s 0 0 (fun q => z0 ≤ q)) (F0 m 0 ls []) := by
  have hx := hC.1
  have hb := hC.2.1
  unfold f_X0_of at hf
  refine lv_iload_n hx hb dX0_of_0 rfl (lv_at hl 1 rfl) ?_
  refine lv_iconst (v := 1) hx hb dX0_of_1 (by decide) ?_
  refine lv_iadd hx hb dX0_of_2 ?_
  refine lv_i2l hx hb dX0_of_3 rfl ?_
  refine lv_bipush (v := 32) hx hb dX0_of_4 (by decide) ?_
  refine lv_lshl hx hb dX0_of_6 rfl ?_
  refine lv_lload_n hx hb dX0_of_7 rfl (lv_at hl 0 rfl) ?_
  refine lv_lor hx hb dX0_of_8 ?_
  subst hf
  exact rtc_l hC hw dX0_of_9
set_option maxRecDepth 100000 in
theorem c_X0_of {l : Launch} {T : wd_T} {D : va_G} {cy : Nat → ClassId} {z0 : Nat} {ad : Nat → Nat} {u : Nat × Nat} {X : va_W} {z : Int64} {x0 : Int64} {x2 : Int32} {M : mm_M} (hf : f_X0_of x0 x2 = z) : ct_l T l yX0_of (Cond.code yX0_of cX0_of 3 (some .long)) 0 0 D cy z0 ad u M X [.long x0, .int x2] z M := by
  refine bgc_l (by decide) (fun p e s m below meth c hC hw => ?_)
  refine en_t (Nat.le_of_ble_eq_true rfl) (fun ls hl => ?_)
  have hl : lv_has ls 3 [(0, .long x0), (2, .int x2)] := hl
  exact k_X0_of hC hf hw hl
set_option maxRecDepth 100000 in
set_option maxHeartbeats 4000000 in
theorem k_X0_tailOf_28 {p : Program} {l : Launch} {e : Env} {s : State} {m : MethodId} {args : Array Value} {below : List Frame} {meth : Method} {c : Code} {T : wd_T} {D : va_G} {cy : Nat → ClassId} {z0 : Nat} {ad : Nat → Nat} {X : va_W} {M : mm_M} {u : Nat × Nat} (hC : cx_C p s m args meth c cX0_tailOf "RhymedThen$Form" (Cond.code yX0_tailOf cX0_tailOf 5 (some .long)) 5 (some .long)) {z : Int64} {x0 : Int64} {x3 : Int32} {x4 : Int32} (hf : f_X0_tailOf_28 x0 x3 x4 = some z) {H : Heap} {locs : List Loc} (hw : wd_in T D cy z0 ad u M X s H locs) {ls : Array Slot} (hl : lv_has ls 5 [(0, .long x0), (3, .int x3), (4, .int x4)]) : W p l e { frames := 1, cells := 0, slots := 0, locals := 22 } s m args below meth c H locs 0 0 (MQ below (cq_l T D cy z0 ad u X z M) args s 0 0 (fun q => z0 ≤ q)) (F0 m 28 ls []) := by
  have hx := hC.1
  have hb := hC.2.1
  unfold f_X0_tailOf_28 at hf
  refine lv_lload_n hx hb dX0_tailOf_28 rfl (lv_at hl 0 rfl) ?_
  refine lv_ldc2 (v := 4294967295) hx hb hC.2.2.2.1 (hC.t wk_X0_17) dX0_tailOf_29 ?_
  refine lv_land hx hb dX0_tailOf_32 ?_
  refine lv_iconst (v := 4) hx hb dX0_tailOf_33 (by decide) ?_
  refine lv_iload hx hb dX0_tailOf_34 (lv_at hl 2 rfl) ?_
  refine lv_imul hx hb dX0_tailOf_36 ?_
  refine lv_lushr hx hb dX0_tailOf_37 rfl ?_
  refine lv_iload_n hx hb dX0_tailOf_38 rfl (lv_at hl 1 rfl) ?_
  refine lv_iload hx hb dX0_tailOf_39 (lv_at hl 2 rfl) ?_
  refine lv_isub hx hb dX0_tailOf_41 ?_
  obtain ⟨z7, ez7, hf⟩ := sq_e hf
  refine clc_Sl hC hw (c_X0_of ez7.symm) hd_X0_of cw_X0_19 (rest := []) hl.1 rfl (Nat.le_of_ble_eq_true rfl) ⟨Nat.le_of_ble_eq_true rfl, Nat.le_of_ble_eq_true rfl⟩ ⟨Nat.zero_le _, Nat.zero_le _⟩ rfl dX0_tailOf_42 (fun H locs hw => ?_)
  have hz := Option.some.inj hf
  subst hz
  exact rtc_l hC hw dX0_tailOf_45
set_option maxRecDepth 100000 in
set_option maxHeartbeats 4000000 in
theorem k_X0_tailOf_10 {p : Program} {l : Launch} {e : Env} {s : State} {m : MethodId} {args : Array Value} {below : List Frame} {meth : Method} {c : Code} {T : wd_T} {D : va_G} {cy : Nat → ClassId} {z0 : Nat} {ad : Nat → Nat} {X : va_W} {M : mm_M} {u : Nat × Nat} (hC : cx_C p s m args meth c cX0_tailOf "RhymedThen$Form" (Cond.code yX0_tailOf cX0_tailOf 5 (some .long)) 5 (some .long)) {z : Int64} {x0 : Int64} {x2 : Int32} {x3 : Int32} {x4 : Int32} {q10 : Int64 → Int32 → Int32 → Int32 → Option Int64} (hq10 : ∀ (x0 : Int64) (x2 : Int32) (x3 : Int32) (x4 : Int32) (H : Heap) (locs : List Loc) (ls : Array Slot), q10 x0 x2 x3 x4 = some z → wd_in T D cy z0 ad u M X s H locs → lv_has ls 5 [(0, .long x0), (2, .int x2), (3, .int x3), (4, .int x4)] → W p l e { frames := 1, cells := 0, slots := 0, locals := 22 } s m args below meth c H locs 0 0 (MQ below (cq_l T D cy z0 ad u X z M) args s 0 0 (fun q => z0 ≤ q)) (F0 m 10 ls [])) (hf : f_X0_tailOf_10 q10 x0 x2 x3 x4 = some z) {H : Heap} {locs : List Loc} (hw : wd_in T D cy z0 ad u M X s H locs) {ls : Array Slot} (hl : lv_has ls 5 [(0, .long x0), (2, .int x2), (3, .int x3), (4, .int x4)]) : W p l e { frames := 1, cells := 0, slots := 0, locals := 22 } s m args below meth c H locs 0 0 (MQ below (cq_l T D cy z0 ad u X z M) args s 0 0 (fun q => z0 ≤ q)) (F0 m 10 ls []) := by
  have hx := hC.1
  have hb := hC.2.1
  unfold f_X0_tailOf_10 at hf
  refine lv_iload hx hb dX0_tailOf_10 (lv_at hl 3 rfl) ?_
  refine lv_if_lt (tgt := 52) hx hb dX0_tailOf_12 (by decide) (fun c3 => ?_) (fun c3 => ?_)
  · rw [if_pos c3] at hf
    refine lv_lconst (v := 0) hx hb dX0_tailOf_52 (by decide) ?_
    have hz := Option.some.inj hf
    subst hz
    exact rtc_l hC hw dX0_tailOf_53
  · rw [if_neg c3] at hf
    refine lv_iload_n hx hb dX0_tailOf_15 rfl (lv_at hl 1 rfl) ?_
    refine lv_lload_n hx hb dX0_tailOf_16 rfl (lv_at hl 0 rfl) ?_
    refine lv_iload hx hb dX0_tailOf_17 (lv_at hl 3 rfl) ?_
    obtain ⟨z4, ez4, hf⟩ := sq_e hf
    refine clc_Si hC hw (c_X0_soundAt ez4.symm) hd_X0_soundAt cw_X0_13 (rest := [.int x2]) hl.1 rfl (Nat.le_of_ble_eq_true rfl) ⟨Nat.le_of_ble_eq_true rfl, Nat.le_of_ble_eq_true rfl⟩ ⟨Nat.zero_le _, Nat.zero_le _⟩ rfl dX0_tailOf_19 (fun H locs hw => ?_)
    refine lv_ishr hx hb dX0_tailOf_22 ?_
    refine lv_iconst (v := 1) hx hb dX0_tailOf_23 (by decide) ?_
    refine lv_iand hx hb dX0_tailOf_24 ?_
    refine lv_if_eq (tgt := 46) hx hb dX0_tailOf_25 (by decide) (fun c5 => ?_) (fun c5 => ?_)
    · rw [if_pos c5] at hf
      obtain ⟨y6, ey6, hf⟩ := sq_e hf
      refine lv_iinc (v := y6) (lv' := [(4, .int y6), (0, .long x0), (2, .int x2), (3, .int x3)]) hx hb dX0_tailOf_46 hl (k := 3) rfl (by rw [ey6]; rfl) (by decide) rfl (fun ls hl => ?_)
      refine lv_goto (tgt := 10) hx hb dX0_tailOf_49 (by decide) ?_
      exact hq10 _ _ _ _ _ _ _ hf hw (lv_sub hl [1, 2, 3, 0] rfl)
    · rw [if_neg c5] at hf
      exact k_X0_tailOf_28 hC hf hw (lv_sub hl [0, 2, 3] rfl)
set_option maxRecDepth 100000 in
set_option maxHeartbeats 4000000 in
theorem k_X0_tailOf_10l {p : Program} {l : Launch} {e : Env} {s : State} {m : MethodId} {args : Array Value} {below : List Frame} {meth : Method} {c : Code} {T : wd_T} {D : va_G} {cy : Nat → ClassId} {z0 : Nat} {ad : Nat → Nat} {X : va_W} {M : mm_M} {u : Nat × Nat} (hC : cx_C p s m args meth c cX0_tailOf "RhymedThen$Form" (Cond.code yX0_tailOf cX0_tailOf 5 (some .long)) 5 (some .long)) {z : Int64} : ∀ (n : Nat) (x0 : Int64) (x2 : Int32) (x3 : Int32) (x4 : Int32) (H : Heap) (locs : List Loc) (ls : Array Slot), f_X0_tailOf_10l n x0 x2 x3 x4 = some z → wd_in T D cy z0 ad u M X s H locs → lv_has ls 5 [(0, .long x0), (2, .int x2), (3, .int x3), (4, .int x4)] → W p l e { frames := 1, cells := 0, slots := 0, locals := 22 } s m args below meth c H locs 0 0 (MQ below (cq_l T D cy z0 ad u X z M) args s 0 0 (fun q => z0 ≤ q)) (F0 m 10 ls []) := by
  intro n
  induction n with
  | zero => intro x0 x2 x3 x4 H locs ls hf; exact absurd hf (by simp [f_X0_tailOf_10l])
  | succ n ih => intro x0 x2 x3 x4 H locs ls hf hw hl; exact k_X0_tailOf_10 hC ih hf hw hl
set_option maxRecDepth 100000 in
set_option maxHeartbeats 4000000 in
theorem k_X0_tailOf {p : Program} {l : Launch} {e : Env} {s : State} {m : MethodId} {args : Array Value} {below : List Frame} {meth : Method} {c : Code} {T : wd_T} {D : va_G} {cy : Nat → ClassId} {z0 : Nat} {ad : Nat → Nat} {X : va_W} {M : mm_M} {u : Nat × Nat} (hC : cx_C p s m args meth c cX0_tailOf "RhymedThen$Form" (Cond.code yX0_tailOf cX0_tailOf 5 (some .long)) 5 (some .long)) {z : Int64} {x0 : Int64} {x2 : Int32} (hf : f_X0_tailOf x0 x2 = some z) {H : Heap} {locs : List Loc} (hw : wd_in T D cy z0 ad u M X s H locs) {ls : Array Slot} (hl : lv_has ls 5 [(0, .long x0), (2, .int x2)]) : W p l e { frames := 1, cells := 0, slots := 0, locals := 22 } s m args below meth c H locs 0 0 (MQ below (cq_l T D cy z0 ad u X z M) args s 0 0 (fun q => z0 ≤ q)) (F0 m 0 ls []) := by
  have hx := hC.1
  have hb := hC.2.1
  unfold f_X0_tailOf at hf
  refine lv_lload_n hx hb dX0_tailOf_0 rfl (lv_at hl 0 rfl) ?_
  obtain ⟨z1, ez1, hf⟩ := sq_e hf
  refine clc_Si hC hw (c_X0_lengthOf ez1.symm) hd_X0_lengthOf cw_X0_7 (rest := []) hl.1 rfl (Nat.le_of_ble_eq_true rfl) ⟨Nat.le_of_ble_eq_true rfl, Nat.le_of_ble_eq_true rfl⟩ ⟨Nat.zero_le _, Nat.zero_le _⟩ rfl dX0_tailOf_1 (fun H locs hw => ?_)
  refine lv_istore_n (lv' := [(3, .int z1), (0, .long x0), (2, .int x2)]) hx hb dX0_tailOf_4 rfl hl (by decide) rfl (fun ls hl => ?_)
  refine lv_iload_n hx hb dX0_tailOf_5 rfl (lv_at hl 0 rfl) ?_
  refine lv_iconst (v := 1) hx hb dX0_tailOf_6 (by decide) ?_
  refine lv_isub hx hb dX0_tailOf_7 ?_
  obtain ⟨y2, ey2, hf⟩ := sq_e hf
  refine lt_i ey2 ?_
  refine lv_istore (lv' := [(4, .int y2), (3, .int z1), (0, .long x0), (2, .int x2)]) hx hb dX0_tailOf_8 hl (by decide) rfl (fun ls hl => ?_)
  exact k_X0_tailOf_10l hC fu_ _ _ _ _ _ _ _ hf hw (lv_sub hl [2, 3, 1, 0] rfl)
set_option maxRecDepth 100000 in
theorem c_X0_tailOf {l : Launch} {T : wd_T} {D : va_G} {cy : Nat → ClassId} {z0 : Nat} {ad : Nat → Nat} {u : Nat × Nat} {X : va_W} {z : Int64} {x0 : Int64} {x2 : Int32} {M : mm_M} (hf : f_X0_tailOf x0 x2 = some z) : ct_l T l yX0_tailOf (Cond.code yX0_tailOf cX0_tailOf 5 (some .long)) 1 22 D cy z0 ad u M X [.long x0, .int x2] z M := by
  refine bgc_l (by decide) (fun p e s m below meth c hC hw => ?_)
  refine en_t (Nat.le_of_ble_eq_true rfl) (fun ls hl => ?_)
  have hl : lv_has ls 5 [(0, .long x0), (2, .int x2)] := hl
  exact k_X0_tailOf hC hf hw hl
set_option maxRecDepth 100000 in
set_option maxHeartbeats 4000000 in
theorem k_X0_beatsOf_11 {p : Program} {l : Launch} {e : Env} {s : State} {m : MethodId} {args : Array Value} {below : List Frame} {meth : Method} {c : Code} {T : wd_T} {D : va_G} {cy : Nat → ClassId} {z0 : Nat} {ad : Nat → Nat} {X : va_W} {M : mm_M} {u : Nat × Nat} (hC : cx_C p s m args meth c cX0_beatsOf "RhymedThen$Form" (Cond.code yX0_beatsOf cX0_beatsOf 6 (some .int)) 6 (some .int)) {z : Int32} {x0 : Int64} {x2 : Int32} {x3 : Int32} {x4 : Int32} {x5 : Int32} {q11 : Int64 → Int32 → Int32 → Int32 → Int32 → Option Int32} (hq11 : ∀ (x0 : Int64) (x2 : Int32) (x3 : Int32) (x4 : Int32) (x5 : Int32) (H : Heap) (locs : List Loc) (ls : Array Slot), q11 x0 x2 x3 x4 x5 = some z → wd_in T D cy z0 ad u M X s H locs → lv_has ls 6 [(0, .long x0), (2, .int x2), (3, .int x3), (4, .int x4), (5, .int x5)] → W p l e { frames := 1, cells := 0, slots := 0, locals := 22 } s m args below meth c H locs 0 0 (MQ below (cq_i T D cy z0 ad u X z M) args s 0 0 (fun q => z0 ≤ q)) (F0 m 11 ls [])) (hf : f_X0_beatsOf_11 q11 x0 x2 x3 x4 x5 = some z) {H : Heap} {locs : List Loc} (hw : wd_in T D cy z0 ad u M X s H locs) {ls : Array Slot} (hl : lv_has ls 6 [(0, .long x0), (2, .int x2), (3, .int x3), (4, .int x4), (5, .int x5)]) : W p l e { frames := 1, cells := 0, slots := 0, locals := 22 } s m args below meth c H locs 0 0 (MQ below (cq_i T D cy z0 ad u X z M) args s 0 0 (fun q => z0 ≤ q)) (F0 m 11 ls []) := by
  have hx := hC.1
  have hb := hC.2.1
  unfold f_X0_beatsOf_11 at hf
  refine lv_iload hx hb dX0_beatsOf_11 (lv_at hl 4 rfl) ?_
  refine lv_iload_n hx hb dX0_beatsOf_13 rfl (lv_at hl 2 rfl) ?_
  refine lv_icmp_ge (tgt := 38) hx hb dX0_beatsOf_14 (by decide) (fun c2 => ?_) (fun c2 => ?_)
  · rw [if_pos c2] at hf
    refine lv_iload hx hb dX0_beatsOf_38 (lv_at hl 3 rfl) ?_
    have hz := Option.some.inj hf
    subst hz
    exact rtc_i hC hw dX0_beatsOf_40
  · rw [if_neg c2] at hf
    refine lv_iload hx hb dX0_beatsOf_17 (lv_at hl 3 rfl) ?_
    refine lv_iload_n hx hb dX0_beatsOf_19 rfl (lv_at hl 1 rfl) ?_
    refine lv_lload_n hx hb dX0_beatsOf_20 rfl (lv_at hl 0 rfl) ?_
    refine lv_iload hx hb dX0_beatsOf_21 (lv_at hl 4 rfl) ?_
    obtain ⟨z3, ez3, hf⟩ := sq_e hf
    refine clc_Si hC hw (c_X0_soundAt ez3.symm) hd_X0_soundAt cw_X0_13 (rest := [.int x2, .int x4]) hl.1 rfl (Nat.le_of_ble_eq_true rfl) ⟨Nat.le_of_ble_eq_true rfl, Nat.le_of_ble_eq_true rfl⟩ ⟨Nat.zero_le _, Nat.zero_le _⟩ rfl dX0_beatsOf_23 (fun H locs hw => ?_)
    refine lv_ishr hx hb dX0_beatsOf_26 ?_
    refine lv_iconst (v := 1) hx hb dX0_beatsOf_27 (by decide) ?_
    refine lv_iand hx hb dX0_beatsOf_28 ?_
    refine lv_iadd hx hb dX0_beatsOf_29 ?_
    obtain ⟨y4, ey4, hf⟩ := sq_e hf
    refine lt_i ey4 ?_
    refine lv_istore (lv' := [(4, .int y4), (0, .long x0), (2, .int x2), (3, .int x3), (5, .int x5)]) hx hb dX0_beatsOf_30 hl (by decide) rfl (fun ls hl => ?_)
    obtain ⟨y5, ey5, hf⟩ := sq_e hf
    refine lv_iinc (v := y5) (lv' := [(5, .int y5), (4, .int y4), (0, .long x0), (2, .int x2), (3, .int x3)]) hx hb dX0_beatsOf_32 hl (k := 4) rfl (by rw [ey5]; rfl) (by decide) rfl (fun ls hl => ?_)
    refine lv_goto (tgt := 11) hx hb dX0_beatsOf_35 (by decide) ?_
    exact hq11 _ _ _ _ _ _ _ _ hf hw (lv_sub hl [2, 3, 4, 1, 0] rfl)
set_option maxRecDepth 100000 in
set_option maxHeartbeats 4000000 in
theorem k_X0_beatsOf_11l {p : Program} {l : Launch} {e : Env} {s : State} {m : MethodId} {args : Array Value} {below : List Frame} {meth : Method} {c : Code} {T : wd_T} {D : va_G} {cy : Nat → ClassId} {z0 : Nat} {ad : Nat → Nat} {X : va_W} {M : mm_M} {u : Nat × Nat} (hC : cx_C p s m args meth c cX0_beatsOf "RhymedThen$Form" (Cond.code yX0_beatsOf cX0_beatsOf 6 (some .int)) 6 (some .int)) {z : Int32} : ∀ (n : Nat) (x0 : Int64) (x2 : Int32) (x3 : Int32) (x4 : Int32) (x5 : Int32) (H : Heap) (locs : List Loc) (ls : Array Slot), f_X0_beatsOf_11l n x0 x2 x3 x4 x5 = some z → wd_in T D cy z0 ad u M X s H locs → lv_has ls 6 [(0, .long x0), (2, .int x2), (3, .int x3), (4, .int x4), (5, .int x5)] → W p l e { frames := 1, cells := 0, slots := 0, locals := 22 } s m args below meth c H locs 0 0 (MQ below (cq_i T D cy z0 ad u X z M) args s 0 0 (fun q => z0 ≤ q)) (F0 m 11 ls []) := by
  intro n
  induction n with
  | zero => intro x0 x2 x3 x4 x5 H locs ls hf; exact absurd hf (by simp [f_X0_beatsOf_11l])
  | succ n ih => intro x0 x2 x3 x4 x5 H locs ls hf hw hl; exact k_X0_beatsOf_11 hC ih hf hw hl
set_option maxRecDepth 100000 in
set_option maxHeartbeats 4000000 in
theorem k_X0_beatsOf {p : Program} {l : Launch} {e : Env} {s : State} {m : MethodId} {args : Array Value} {below : List Frame} {meth : Method} {c : Code} {T : wd_T} {D : va_G} {cy : Nat → ClassId} {z0 : Nat} {ad : Nat → Nat} {X : va_W} {M : mm_M} {u : Nat × Nat} (hC : cx_C p s m args meth c cX0_beatsOf "RhymedThen$Form" (Cond.code yX0_beatsOf cX0_beatsOf 6 (some .int)) 6 (some .int)) {z : Int32} {x0 : Int64} {x2 : Int32} (hf : f_X0_beatsOf x0 x2 = some z) {H : Heap} {locs : List Loc} (hw : wd_in T D cy z0 ad u M X s H locs) {ls : Array Slot} (hl : lv_has ls 6 [(0, .long x0), (2, .int x2)]) : W p l e { frames := 1, cells := 0, slots := 0, locals := 22 } s m args below meth c H locs 0 0 (MQ below (cq_i T D cy z0 ad u X z M) args s 0 0 (fun q => z0 ≤ q)) (F0 m 0 ls []) := by
  have hx := hC.1
  have hb := hC.2.1
  unfold f_X0_beatsOf at hf
  refine lv_lload_n hx hb dX0_beatsOf_0 rfl (lv_at hl 0 rfl) ?_
  obtain ⟨z1, ez1, hf⟩ := sq_e hf
  refine clc_Si hC hw (c_X0_lengthOf ez1.symm) hd_X0_lengthOf cw_X0_7 (rest := []) hl.1 rfl (Nat.le_of_ble_eq_true rfl) ⟨Nat.le_of_ble_eq_true rfl, Nat.le_of_ble_eq_true rfl⟩ ⟨Nat.zero_le _, Nat.zero_le _⟩ rfl dX0_beatsOf_1 (fun H locs hw => ?_)
  refine lv_istore_n (lv' := [(3, .int z1), (0, .long x0), (2, .int x2)]) hx hb dX0_beatsOf_4 rfl hl (by decide) rfl (fun ls hl => ?_)
  refine lv_iconst (v := 0) hx hb dX0_beatsOf_5 (by decide) ?_
  refine lv_istore (lv' := [(4, .int 0), (3, .int z1), (0, .long x0), (2, .int x2)]) hx hb dX0_beatsOf_6 hl (by decide) rfl (fun ls hl => ?_)
  refine lv_iconst (v := 0) hx hb dX0_beatsOf_8 (by decide) ?_
  refine lv_istore (lv' := [(5, .int 0), (4, .int 0), (3, .int z1), (0, .long x0), (2, .int x2)]) hx hb dX0_beatsOf_9 hl (by decide) rfl (fun ls hl => ?_)
  exact k_X0_beatsOf_11l hC fu_ _ _ _ _ _ _ _ _ hf hw (lv_sub hl [3, 4, 2, 1, 0] rfl)
set_option maxRecDepth 100000 in
theorem c_X0_beatsOf {l : Launch} {T : wd_T} {D : va_G} {cy : Nat → ClassId} {z0 : Nat} {ad : Nat → Nat} {u : Nat × Nat} {X : va_W} {z : Int32} {x0 : Int64} {x2 : Int32} {M : mm_M} (hf : f_X0_beatsOf x0 x2 = some z) : ct_i T l yX0_beatsOf (Cond.code yX0_beatsOf cX0_beatsOf 6 (some .int)) 1 22 D cy z0 ad u M X [.long x0, .int x2] z M := by
  refine bgc_i (by decide) (fun p e s m below meth c hC hw => ?_)
  refine en_t (Nat.le_of_ble_eq_true rfl) (fun ls hl => ?_)
  have hl : lv_has ls 6 [(0, .long x0), (2, .int x2)] := hl
  exact k_X0_beatsOf hC hf hw hl
set_option maxRecDepth 100000 in
set_option maxHeartbeats 4000000 in
theorem k_X1_take_73 {p : Program} {l : Launch} {e : Env} {s : State} {m : MethodId} {args : Array Value} {below : List Frame} {meth : Method} {c : Code} {D : va_G} {cy : Nat → ClassId} {z0 : Nat} {ad : Nat → Nat} {X : va_W} {u : Nat × Nat} (hC : cx_C p s m args meth c cX1_take "RhymedThen$Kept" (Cond.code yX1_take cX1_take 5 none) 5 none) {z : mm_M} {k0 : Nat} {M : mm_M} (hk0 : kp_ok k0) (hf : f_X1_take_73 k0 M = some z) {H : Heap} {locs : List Loc} (hw : wd_in cx_T D cy z0 ad u M X s H locs) {ls : Array Slot} (hl : lv_has ls 5 [(0, .ref (ad k0)), (2, .ref (ad 15)), (3, .ref (ad 7))]) : W p l e { frames := 1, cells := 0, slots := 0, locals := 60 } s m args below meth c H locs 0 0 (MQ below (cq_v cx_T D cy z0 ad u X z) args s 0 0 (fun q => z0 ≤ q)) (F0 m 73 ls []) := by
  have hx := hC.1
  have hb := hC.2.1
  unfold f_X1_take_73 at hf
  refine lv_aload_n hx hb dX1_take_73 rfl (lv_at hl 1 rfl) ?_
  refine lv_iconst (v := 0) hx hb dX1_take_74 (by decide) ?_
  refine lv_aload_n hx hb dX1_take_75 rfl (lv_at hl 0 rfl) ?_
  refine rg_p hC hw k0 (kp_lt hk0) (kp_kd hk0) fd_X1_5 wf_X1_29 (q := (k0 + 3)) (kp_rt3 hk0) dX1_take_76 ?_
  refine lv_iconst (v := 0) hx hb dX1_take_79 (by decide) ?_
  refine lv_bipush (v := 6) hx hb dX1_take_80 (by decide) ?_
  obtain ⟨M12, eM12, hf⟩ := sq_e hf
  refine rc_i hC hw (index := 51) wm_X1_51 15 (k0 + 3) (Nat.le_of_ble_eq_true rfl) rfl (kp_lt3 hk0) (kp_kd3 hk0) (by decide) hl.1 ⟨Nat.le_of_ble_eq_true rfl, Nat.le_of_ble_eq_true rfl⟩ dX1_take_82 eM12 (fun H locs hw => ?_)
  refine lv_aload_n hx hb dX1_take_85 rfl (lv_at hl 2 rfl) ?_
  refine lv_iconst (v := 0) hx hb dX1_take_86 (by decide) ?_
  refine lv_aload_n hx hb dX1_take_87 rfl (lv_at hl 0 rfl) ?_
  refine rg_p hC hw k0 (kp_lt hk0) (kp_kd hk0) fd_X1_6 wf_X1_32 (q := (k0 + 4)) (kp_rt4 hk0) dX1_take_88 ?_
  refine lv_iconst (v := 0) hx hb dX1_take_91 (by decide) ?_
  refine lv_bipush (v := 6) hx hb dX1_take_92 (by decide) ?_
  obtain ⟨M13, eM13, hf⟩ := sq_e hf
  refine rc_i hC hw (index := 51) wm_X1_51 7 (k0 + 4) (Nat.le_of_ble_eq_true rfl) rfl (kp_lt4 hk0) (kp_kd4 hk0) (by decide) hl.1 ⟨Nat.le_of_ble_eq_true rfl, Nat.le_of_ble_eq_true rfl⟩ dX1_take_94 eM13 (fun H locs hw => ?_)
  have hz := Option.some.inj hf
  subst hz
  exact rtc_v hC hw dX1_take_97
set_option maxRecDepth 100000 in
set_option maxHeartbeats 4000000 in
theorem k_X1_take_24 {p : Program} {l : Launch} {e : Env} {s : State} {m : MethodId} {args : Array Value} {below : List Frame} {meth : Method} {c : Code} {D : va_G} {cy : Nat → ClassId} {z0 : Nat} {ad : Nat → Nat} {X : va_W} {u : Nat × Nat} (hC : cx_C p s m args meth c cX1_take "RhymedThen$Kept" (Cond.code yX1_take cX1_take 5 none) 5 none) {z : mm_M} {k0 : Nat} {x4 : Int32} {M : mm_M} (hk0 : kp_ok k0) {q24 : Nat → Int32 → mm_M → Option mm_M} (hq24 : ∀ (k0 : Nat) (x4 : Int32) (M : mm_M) (H : Heap) (locs : List Loc) (ls : Array Slot), kp_ok k0 → q24 k0 x4 M = some z → wd_in cx_T D cy z0 ad u M X s H locs → lv_has ls 5 [(0, .ref (ad k0)), (1, .ref (ad 19)), (2, .ref (ad 15)), (3, .ref (ad 7)), (4, .int x4)] → W p l e { frames := 1, cells := 0, slots := 0, locals := 60 } s m args below meth c H locs 0 0 (MQ below (cq_v cx_T D cy z0 ad u X z) args s 0 0 (fun q => z0 ≤ q)) (F0 m 24 ls [])) (hf : f_X1_take_24 q24 k0 x4 M = some z) {H : Heap} {locs : List Loc} (hw : wd_in cx_T D cy z0 ad u M X s H locs) {ls : Array Slot} (hl : lv_has ls 5 [(0, .ref (ad k0)), (1, .ref (ad 19)), (2, .ref (ad 15)), (3, .ref (ad 7)), (4, .int x4)]) : W p l e { frames := 1, cells := 0, slots := 0, locals := 60 } s m args below meth c H locs 0 0 (MQ below (cq_v cx_T D cy z0 ad u X z) args s 0 0 (fun q => z0 ≤ q)) (F0 m 24 ls []) := by
  have hx := hC.1
  have hb := hC.2.1
  unfold f_X1_take_24 at hf
  refine lv_iload hx hb dX1_take_24 (lv_at hl 4 rfl) ?_
  refine lv_aload_n hx hb dX1_take_26 rfl (lv_at hl 0 rfl) ?_
  refine rg_i hC hw k0 (kp_lt hk0) (kp_kd hk0) fd_X1_1 wf_X1_15 dX1_take_27 ?_
  refine lv_icmp_ge (tgt := 73) hx hb dX1_take_30 (by decide) (fun c4 => ?_) (fun c4 => ?_)
  · rw [if_pos c4] at hf
    exact k_X1_take_73 hC hk0 hf hw (lv_sub hl [0, 2, 3] rfl)
  · rw [if_neg c4] at hf
    refine lv_aload_n hx hb dX1_take_33 rfl (lv_at hl 0 rfl) ?_
    refine rg_p hC hw k0 (kp_lt hk0) (kp_kd hk0) fd_X1_3 wf_X1_22 (q := (k0 + 1)) (kp_rt1 hk0) dX1_take_34 ?_
    refine lv_iload hx hb dX1_take_37 (lv_at hl 4 rfl) ?_
    refine lv_aload_n hx hb dX1_take_39 rfl (lv_at hl 1 rfl) ?_
    refine rg_p hC hw 19 (Nat.le_of_ble_eq_true rfl) rfl fd_X6_2 wf_X1_39 (q := 20) rfl dX1_take_40 ?_
    refine lv_iload hx hb dX1_take_43 (lv_at hl 4 rfl) ?_
    obtain ⟨h5, hf⟩ := ck_e hf
    refine ra_S hC hw 20 (Nat.le_of_ble_eq_true rfl) rfl h5 dX1_take_45 ?_
    refine rg_i hC hw (22 + x4.toNatClampNeg) (sg_lt (sg_ix h5)) (sg_kd (sg_ix h5)) fd_X5_6 wf_X1_43 dX1_take_46 ?_
    obtain ⟨h6, hf⟩ := ck_e hf
    obtain ⟨M7, eM7, hf⟩ := sq_e hf
    refine rs_i hC hw (k0 + 1) (kp_lt1 hk0) (kp_kd1 hk0) h6 dX1_take_49 eM7 (fun H locs hw => ?_)
    refine lv_aload_n hx hb dX1_take_50 rfl (lv_at hl 0 rfl) ?_
    refine rg_p hC hw k0 (kp_lt hk0) (kp_kd hk0) fd_X1_4 wf_X1_26 (q := (k0 + 2)) (kp_rt2 hk0) dX1_take_51 ?_
    refine lv_iload hx hb dX1_take_54 (lv_at hl 4 rfl) ?_
    refine lv_aload_n hx hb dX1_take_56 rfl (lv_at hl 1 rfl) ?_
    refine rg_p hC hw 19 (Nat.le_of_ble_eq_true rfl) rfl fd_X6_2 wf_X1_39 (q := 20) rfl dX1_take_57 ?_
    refine lv_iload hx hb dX1_take_60 (lv_at hl 4 rfl) ?_
    obtain ⟨h8, hf⟩ := ck_e hf
    refine ra_S hC hw 20 (Nat.le_of_ble_eq_true rfl) rfl h8 dX1_take_62 ?_
    refine rg_i hC hw (22 + x4.toNatClampNeg) (sg_lt (sg_ix h8)) (sg_kd (sg_ix h8)) fd_X5_7 wf_X1_48 dX1_take_63 ?_
    obtain ⟨h9, hf⟩ := ck_e hf
    obtain ⟨M10, eM10, hf⟩ := sq_e hf
    refine rs_i hC hw (k0 + 2) (kp_lt2 hk0) (kp_kd2 hk0) h9 dX1_take_66 eM10 (fun H locs hw => ?_)
    obtain ⟨y11, ey11, hf⟩ := sq_e hf
    refine lv_iinc (v := y11) (lv' := [(4, .int y11), (0, .ref (ad k0)), (1, .ref (ad 19)), (2, .ref (ad 15)), (3, .ref (ad 7))]) hx hb dX1_take_67 hl (k := 4) rfl (by rw [ey11]; rfl) (by decide) rfl (fun ls hl => ?_)
    refine lv_goto (tgt := 24) hx hb dX1_take_70 (by decide) ?_
    exact hq24 _ _ _ _ _ _ hk0 hf hw (lv_sub hl [1, 2, 3, 4, 0] rfl)
set_option maxRecDepth 100000 in
set_option maxHeartbeats 4000000 in
theorem k_X1_take_24l {p : Program} {l : Launch} {e : Env} {s : State} {m : MethodId} {args : Array Value} {below : List Frame} {meth : Method} {c : Code} {D : va_G} {cy : Nat → ClassId} {z0 : Nat} {ad : Nat → Nat} {X : va_W} {u : Nat × Nat} (hC : cx_C p s m args meth c cX1_take "RhymedThen$Kept" (Cond.code yX1_take cX1_take 5 none) 5 none) {z : mm_M} : ∀ (n : Nat) (k0 : Nat) (x4 : Int32) (M : mm_M) (H : Heap) (locs : List Loc) (ls : Array Slot), kp_ok k0 → f_X1_take_24l n k0 x4 M = some z → wd_in cx_T D cy z0 ad u M X s H locs → lv_has ls 5 [(0, .ref (ad k0)), (1, .ref (ad 19)), (2, .ref (ad 15)), (3, .ref (ad 7)), (4, .int x4)] → W p l e { frames := 1, cells := 0, slots := 0, locals := 60 } s m args below meth c H locs 0 0 (MQ below (cq_v cx_T D cy z0 ad u X z) args s 0 0 (fun q => z0 ≤ q)) (F0 m 24 ls []) := by
  intro n
  induction n with
  | zero => intro k0 x4 M H locs ls hhk0 hf; exact absurd hf (by simp [f_X1_take_24l])
  | succ n ih => intro k0 x4 M H locs ls hhk0 hf hw hl; exact k_X1_take_24 hC hhk0 ih hf hw hl
set_option maxRecDepth 100000 in
set_option maxHeartbeats 4000000 in
theorem k_X1_take {p : Program} {l : Launch} {e : Env} {s : State} {m : MethodId} {args : Array Value} {below : List Frame} {meth : Method} {c : Code} {D : va_G} {cy : Nat → ClassId} {z0 : Nat} {ad : Nat → Nat} {X : va_W} {u : Nat × Nat} (hC : cx_C p s m args meth c cX1_take "RhymedThen$Kept" (Cond.code yX1_take cX1_take 5 none) 5 none) {z : mm_M} {k0 : Nat} {M : mm_M} (hk0 : kp_ok k0) (hf : f_X1_take k0 M = some z) {H : Heap} {locs : List Loc} (hw : wd_in cx_T D cy z0 ad u M X s H locs) {ls : Array Slot} (hl : lv_has ls 5 [(0, .ref (ad k0)), (1, .ref (ad 19)), (2, .ref (ad 15)), (3, .ref (ad 7))]) : W p l e { frames := 1, cells := 0, slots := 0, locals := 60 } s m args below meth c H locs 0 0 (MQ below (cq_v cx_T D cy z0 ad u X z) args s 0 0 (fun q => z0 ≤ q)) (F0 m 0 ls []) := by
  have hx := hC.1
  have hb := hC.2.1
  unfold f_X1_take at hf
  refine lv_aload_n hx hb dX1_take_0 rfl (lv_at hl 0 rfl) ?_
  refine lv_iconst (v := 1) hx hb dX1_take_1 (by decide) ?_
  obtain ⟨M1, eM1, hf⟩ := sq_e hf
  refine rp_i hC hw k0 (kp_lt hk0) (kp_kd hk0) fd_X1_0 wf_X1_9 fp_X1_0 rfl rfl dX1_take_2 eM1 (fun H locs hw => ?_)
  refine lv_aload_n hx hb dX1_take_5 rfl (lv_at hl 0 rfl) ?_
  refine lv_aload_n hx hb dX1_take_6 rfl (lv_at hl 1 rfl) ?_
  refine rg_i hC hw 19 (Nat.le_of_ble_eq_true rfl) rfl fd_X6_3 wf_X1_35 dX1_take_7 ?_
  obtain ⟨M2, eM2, hf⟩ := sq_e hf
  refine rp_i hC hw k0 (kp_lt hk0) (kp_kd hk0) fd_X1_1 wf_X1_15 fp_X1_1 rfl rfl dX1_take_10 eM2 (fun H locs hw => ?_)
  refine lv_aload_n hx hb dX1_take_13 rfl (lv_at hl 0 rfl) ?_
  refine lv_aload_n hx hb dX1_take_14 rfl (lv_at hl 1 rfl) ?_
  refine rg_i hC hw 19 (Nat.le_of_ble_eq_true rfl) rfl fd_X6_4 wf_X1_38 dX1_take_15 ?_
  obtain ⟨M3, eM3, hf⟩ := sq_e hf
  refine rp_i hC hw k0 (kp_lt hk0) (kp_kd hk0) fd_X1_2 wf_X1_19 fp_X1_2 rfl rfl dX1_take_18 eM3 (fun H locs hw => ?_)
  refine lv_iconst (v := 0) hx hb dX1_take_21 (by decide) ?_
  refine lv_istore (lv' := [(4, .int 0), (0, .ref (ad k0)), (1, .ref (ad 19)), (2, .ref (ad 15)), (3, .ref (ad 7))]) hx hb dX1_take_22 hl (by decide) rfl (fun ls hl => ?_)
  exact k_X1_take_24l hC fu_ _ _ _ _ _ _ hk0 hf hw (lv_sub hl [1, 2, 3, 4, 0] rfl)
set_option maxRecDepth 100000 in
theorem c_X1_take {l : Launch} {D : va_G} {cy : Nat → ClassId} {z0 : Nat} {ad : Nat → Nat} {u : Nat × Nat} {X : va_W} {z : mm_M} {k0 : Nat} {M : mm_M} (hk0 : kp_ok k0) (hf : f_X1_take k0 M = some z) : ct_v cx_T l yX1_take (Cond.code yX1_take cX1_take 5 none) 1 60 D cy z0 ad u M X [.ref (ad k0), .ref (ad 19), .ref (ad 15), .ref (ad 7)] z := by
  refine bgc_v (by decide) (fun p e s m below meth c hC hw => ?_)
  refine en_t (Nat.le_of_ble_eq_true rfl) (fun ls hl => ?_)
  have hl : lv_has ls 5 [(0, .ref (ad k0)), (1, .ref (ad 19)), (2, .ref (ad 15)), (3, .ref (ad 7))] := hl
  exact k_X1_take hC hk0 hf hw hl
set_option maxRecDepth 100000 in
set_option maxHeartbeats 4000000 in
theorem k_X1_giveBack_78 {p : Program} {l : Launch} {e : Env} {s : State} {m : MethodId} {args : Array Value} {below : List Frame} {meth : Method} {c : Code} {D : va_G} {cy : Nat → ClassId} {z0 : Nat} {ad : Nat → Nat} {X : va_W} {u : Nat × Nat} (hC : cx_C p s m args meth c cX1_giveBack "RhymedThen$Kept" (Cond.code yX1_giveBack cX1_giveBack 5 none) 5 none) {z : mm_M} {k0 : Nat} {M : mm_M} (hk0 : kp_ok k0) (hf : f_X1_giveBack_78 k0 M = some z) {H : Heap} {locs : List Loc} (hw : wd_in cx_T D cy z0 ad u M X s H locs) {ls : Array Slot} (hl : lv_has ls 5 [(0, .ref (ad k0)), (2, .ref (ad 15))]) : W p l e { frames := 1, cells := 0, slots := 0, locals := 60 } s m args below meth c H locs 0 0 (MQ below (cq_v cx_T D cy z0 ad u X z) args s 0 0 (fun q => z0 ≤ q)) (F0 m 78 ls []) := by
  have hx := hC.1
  have hb := hC.2.1
  unfold f_X1_giveBack_78 at hf
  refine lv_aload_n hx hb dX1_giveBack_78 rfl (lv_at hl 0 rfl) ?_
  refine rg_p hC hw k0 (kp_lt hk0) (kp_kd hk0) fd_X1_5 wf_X1_29 (q := (k0 + 3)) (kp_rt3 hk0) dX1_giveBack_79 ?_
  refine lv_iconst (v := 0) hx hb dX1_giveBack_82 (by decide) ?_
  refine lv_aload_n hx hb dX1_giveBack_83 rfl (lv_at hl 1 rfl) ?_
  refine lv_iconst (v := 0) hx hb dX1_giveBack_84 (by decide) ?_
  refine lv_bipush (v := 6) hx hb dX1_giveBack_85 (by decide) ?_
  obtain ⟨M11, eM11, hf⟩ := sq_e hf
  refine rc_i hC hw (index := 51) wm_X1_51 (k0 + 3) 15 (kp_lt3 hk0) (kp_kd3 hk0) (Nat.le_of_ble_eq_true rfl) rfl (by decide) hl.1 ⟨Nat.le_of_ble_eq_true rfl, Nat.le_of_ble_eq_true rfl⟩ dX1_giveBack_87 eM11 (fun H locs hw => ?_)
  have hz := Option.some.inj hf
  subst hz
  exact rtc_v hC hw dX1_giveBack_90
set_option maxRecDepth 100000 in
set_option maxHeartbeats 4000000 in
theorem k_X1_giveBack_29 {p : Program} {l : Launch} {e : Env} {s : State} {m : MethodId} {args : Array Value} {below : List Frame} {meth : Method} {c : Code} {D : va_G} {cy : Nat → ClassId} {z0 : Nat} {ad : Nat → Nat} {X : va_W} {u : Nat × Nat} (hC : cx_C p s m args meth c cX1_giveBack "RhymedThen$Kept" (Cond.code yX1_giveBack cX1_giveBack 5 none) 5 none) {z : mm_M} {k0 : Nat} {x4 : Int32} {M : mm_M} (hk0 : kp_ok k0) {q29 : Nat → Int32 → mm_M → Option mm_M} (hq29 : ∀ (k0 : Nat) (x4 : Int32) (M : mm_M) (H : Heap) (locs : List Loc) (ls : Array Slot), kp_ok k0 → q29 k0 x4 M = some z → wd_in cx_T D cy z0 ad u M X s H locs → lv_has ls 5 [(0, .ref (ad k0)), (1, .ref (ad 19)), (2, .ref (ad 15)), (4, .int x4)] → W p l e { frames := 1, cells := 0, slots := 0, locals := 60 } s m args below meth c H locs 0 0 (MQ below (cq_v cx_T D cy z0 ad u X z) args s 0 0 (fun q => z0 ≤ q)) (F0 m 29 ls [])) (hf : f_X1_giveBack_29 q29 k0 x4 M = some z) {H : Heap} {locs : List Loc} (hw : wd_in cx_T D cy z0 ad u M X s H locs) {ls : Array Slot} (hl : lv_has ls 5 [(0, .ref (ad k0)), (1, .ref (ad 19)), (2, .ref (ad 15)), (4, .int x4)]) : W p l e { frames := 1, cells := 0, slots := 0, locals := 60 } s m args below meth c H locs 0 0 (MQ below (cq_v cx_T D cy z0 ad u X z) args s 0 0 (fun q => z0 ≤ q)) (F0 m 29 ls []) := by
  have hx := hC.1
  have hb := hC.2.1
  unfold f_X1_giveBack_29 at hf
  refine lv_iload hx hb dX1_giveBack_29 (lv_at hl 3 rfl) ?_
  refine lv_aload_n hx hb dX1_giveBack_31 rfl (lv_at hl 0 rfl) ?_
  refine rg_i hC hw k0 (kp_lt hk0) (kp_kd hk0) fd_X1_1 wf_X1_15 dX1_giveBack_32 ?_
  refine lv_icmp_ge (tgt := 78) hx hb dX1_giveBack_35 (by decide) (fun c3 => ?_) (fun c3 => ?_)
  · rw [if_pos c3] at hf
    exact k_X1_giveBack_78 hC hk0 hf hw (lv_sub hl [0, 2] rfl)
  · rw [if_neg c3] at hf
    refine lv_aload_n hx hb dX1_giveBack_38 rfl (lv_at hl 1 rfl) ?_
    refine rg_p hC hw 19 (Nat.le_of_ble_eq_true rfl) rfl fd_X6_2 wf_X1_39 (q := 20) rfl dX1_giveBack_39 ?_
    refine lv_iload hx hb dX1_giveBack_42 (lv_at hl 3 rfl) ?_
    obtain ⟨h4, hf⟩ := ck_e hf
    refine ra_S hC hw 20 (Nat.le_of_ble_eq_true rfl) rfl h4 dX1_giveBack_44 ?_
    refine lv_aload_n hx hb dX1_giveBack_45 rfl (lv_at hl 0 rfl) ?_
    refine rg_p hC hw k0 (kp_lt hk0) (kp_kd hk0) fd_X1_3 wf_X1_22 (q := (k0 + 1)) (kp_rt1 hk0) dX1_giveBack_46 ?_
    refine lv_iload hx hb dX1_giveBack_49 (lv_at hl 3 rfl) ?_
    obtain ⟨h5, hf⟩ := ck_e hf
    refine ra_i hC hw (k0 + 1) (kp_lt1 hk0) (kp_kd1 hk0) h5 dX1_giveBack_51 ?_
    obtain ⟨M6, eM6, hf⟩ := sq_e hf
    refine rp_i hC hw (22 + x4.toNatClampNeg) (sg_lt (sg_ix h4)) (sg_kd (sg_ix h4)) fd_X5_6 wf_X1_43 fp_X5_6 rfl rfl dX1_giveBack_52 eM6 (fun H locs hw => ?_)
    refine lv_aload_n hx hb dX1_giveBack_55 rfl (lv_at hl 1 rfl) ?_
    refine rg_p hC hw 19 (Nat.le_of_ble_eq_true rfl) rfl fd_X6_2 wf_X1_39 (q := 20) rfl dX1_giveBack_56 ?_
    refine lv_iload hx hb dX1_giveBack_59 (lv_at hl 3 rfl) ?_
    obtain ⟨h7, hf⟩ := ck_e hf
    refine ra_S hC hw 20 (Nat.le_of_ble_eq_true rfl) rfl h7 dX1_giveBack_61 ?_
    refine lv_aload_n hx hb dX1_giveBack_62 rfl (lv_at hl 0 rfl) ?_
    refine rg_p hC hw k0 (kp_lt hk0) (kp_kd hk0) fd_X1_4 wf_X1_26 (q := (k0 + 2)) (kp_rt2 hk0) dX1_giveBack_63 ?_
    refine lv_iload hx hb dX1_giveBack_66 (lv_at hl 3 rfl) ?_
    obtain ⟨h8, hf⟩ := ck_e hf
    refine ra_i hC hw (k0 + 2) (kp_lt2 hk0) (kp_kd2 hk0) h8 dX1_giveBack_68 ?_
    obtain ⟨M9, eM9, hf⟩ := sq_e hf
    refine rp_i hC hw (22 + x4.toNatClampNeg) (sg_lt (sg_ix h7)) (sg_kd (sg_ix h7)) fd_X5_7 wf_X1_48 fp_X5_7 rfl rfl dX1_giveBack_69 eM9 (fun H locs hw => ?_)
    obtain ⟨y10, ey10, hf⟩ := sq_e hf
    refine lv_iinc (v := y10) (lv' := [(4, .int y10), (0, .ref (ad k0)), (1, .ref (ad 19)), (2, .ref (ad 15))]) hx hb dX1_giveBack_72 hl (k := 3) rfl (by rw [ey10]; rfl) (by decide) rfl (fun ls hl => ?_)
    refine lv_goto (tgt := 29) hx hb dX1_giveBack_75 (by decide) ?_
    exact hq29 _ _ _ _ _ _ hk0 hf hw (lv_sub hl [1, 2, 3, 0] rfl)
set_option maxRecDepth 100000 in
set_option maxHeartbeats 4000000 in
theorem k_X1_giveBack_29l {p : Program} {l : Launch} {e : Env} {s : State} {m : MethodId} {args : Array Value} {below : List Frame} {meth : Method} {c : Code} {D : va_G} {cy : Nat → ClassId} {z0 : Nat} {ad : Nat → Nat} {X : va_W} {u : Nat × Nat} (hC : cx_C p s m args meth c cX1_giveBack "RhymedThen$Kept" (Cond.code yX1_giveBack cX1_giveBack 5 none) 5 none) {z : mm_M} : ∀ (n : Nat) (k0 : Nat) (x4 : Int32) (M : mm_M) (H : Heap) (locs : List Loc) (ls : Array Slot), kp_ok k0 → f_X1_giveBack_29l n k0 x4 M = some z → wd_in cx_T D cy z0 ad u M X s H locs → lv_has ls 5 [(0, .ref (ad k0)), (1, .ref (ad 19)), (2, .ref (ad 15)), (4, .int x4)] → W p l e { frames := 1, cells := 0, slots := 0, locals := 60 } s m args below meth c H locs 0 0 (MQ below (cq_v cx_T D cy z0 ad u X z) args s 0 0 (fun q => z0 ≤ q)) (F0 m 29 ls []) := by
  intro n
  induction n with
  | zero => intro k0 x4 M H locs ls hhk0 hf; exact absurd hf (by simp [f_X1_giveBack_29l])
  | succ n ih => intro k0 x4 M H locs ls hhk0 hf hw hl; exact k_X1_giveBack_29 hC hhk0 ih hf hw hl
set_option maxRecDepth 100000 in
set_option maxHeartbeats 4000000 in
theorem k_X1_giveBack {p : Program} {l : Launch} {e : Env} {s : State} {m : MethodId} {args : Array Value} {below : List Frame} {meth : Method} {c : Code} {D : va_G} {cy : Nat → ClassId} {z0 : Nat} {ad : Nat → Nat} {X : va_W} {u : Nat × Nat} (hC : cx_C p s m args meth c cX1_giveBack "RhymedThen$Kept" (Cond.code yX1_giveBack cX1_giveBack 5 none) 5 none) {z : mm_M} {k0 : Nat} {M : mm_M} (hk0 : kp_ok k0) (hf : f_X1_giveBack k0 M = some z) {H : Heap} {locs : List Loc} (hw : wd_in cx_T D cy z0 ad u M X s H locs) {ls : Array Slot} (hl : lv_has ls 5 [(0, .ref (ad k0)), (1, .ref (ad 19)), (2, .ref (ad 15))]) : W p l e { frames := 1, cells := 0, slots := 0, locals := 60 } s m args below meth c H locs 0 0 (MQ below (cq_v cx_T D cy z0 ad u X z) args s 0 0 (fun q => z0 ≤ q)) (F0 m 0 ls []) := by
  have hx := hC.1
  have hb := hC.2.1
  unfold f_X1_giveBack at hf
  refine lv_iconst (v := 1) hx hb dX1_giveBack_0 (by decide) ?_
  refine lv_aload_n hx hb dX1_giveBack_1 rfl (lv_at hl 0 rfl) ?_
  refine rg_i hC hw k0 (kp_lt hk0) (kp_kd hk0) fd_X1_1 wf_X1_15 dX1_giveBack_2 ?_
  refine lv_ishl hx hb dX1_giveBack_5 ?_
  refine lv_iconst (v := 1) hx hb dX1_giveBack_6 (by decide) ?_
  refine lv_isub hx hb dX1_giveBack_7 ?_
  refine lv_iconst (v := (-1)) hx hb dX1_giveBack_8 (by decide) ?_
  refine lv_ixor hx hb dX1_giveBack_9 ?_
  obtain ⟨y1, ey1, hf⟩ := sq_e hf
  refine lt_i ey1 ?_
  refine lv_istore_n (lv' := [(3, .int y1), (0, .ref (ad k0)), (1, .ref (ad 19)), (2, .ref (ad 15))]) hx hb dX1_giveBack_10 rfl hl (by decide) rfl (fun ls hl => ?_)
  refine lv_aload_n hx hb dX1_giveBack_11 rfl (lv_at hl 2 rfl) ?_
  refine lv_aload_n hx hb dX1_giveBack_12 rfl (lv_at hl 2 rfl) ?_
  refine rg_i hC hw 19 (Nat.le_of_ble_eq_true rfl) rfl fd_X6_4 wf_X1_38 dX1_giveBack_13 ?_
  refine lv_iload_n hx hb dX1_giveBack_16 rfl (lv_at hl 0 rfl) ?_
  refine lv_iand hx hb dX1_giveBack_17 ?_
  refine lv_aload_n hx hb dX1_giveBack_18 rfl (lv_at hl 1 rfl) ?_
  refine rg_i hC hw k0 (kp_lt hk0) (kp_kd hk0) fd_X1_2 wf_X1_19 dX1_giveBack_19 ?_
  refine lv_ior hx hb dX1_giveBack_22 ?_
  obtain ⟨M2, eM2, hf⟩ := sq_e hf
  refine rp_i hC hw 19 (Nat.le_of_ble_eq_true rfl) rfl fd_X6_4 wf_X1_38 fp_X6_4 rfl rfl dX1_giveBack_23 eM2 (fun H locs hw => ?_)
  refine lv_iconst (v := 0) hx hb dX1_giveBack_26 (by decide) ?_
  refine lv_istore (lv' := [(4, .int 0), (3, .int y1), (0, .ref (ad k0)), (1, .ref (ad 19)), (2, .ref (ad 15))]) hx hb dX1_giveBack_27 hl (by decide) rfl (fun ls hl => ?_)
  exact k_X1_giveBack_29l hC fu_ _ _ _ _ _ _ hk0 hf hw (lv_sub hl [2, 3, 4, 0] rfl)
set_option maxRecDepth 100000 in
theorem c_X1_giveBack {l : Launch} {D : va_G} {cy : Nat → ClassId} {z0 : Nat} {ad : Nat → Nat} {u : Nat × Nat} {X : va_W} {z : mm_M} {k0 : Nat} {M : mm_M} (hk0 : kp_ok k0) (hf : f_X1_giveBack k0 M = some z) : ct_v cx_T l yX1_giveBack (Cond.code yX1_giveBack cX1_giveBack 5 none) 1 60 D cy z0 ad u M X [.ref (ad k0), .ref (ad 19), .ref (ad 15)] z := by
  refine bgc_v (by decide) (fun p e s m below meth c hC hw => ?_)
  refine en_t (Nat.le_of_ble_eq_true rfl) (fun ls hl => ?_)
  have hl : lv_has ls 5 [(0, .ref (ad k0)), (1, .ref (ad 19)), (2, .ref (ad 15))] := hl
  exact k_X1_giveBack hC hk0 hf hw hl
set_option maxRecDepth 100000 in
set_option maxHeartbeats 4000000 in
theorem k_X10_clear {p : Program} {l : Launch} {e : Env} {s : State} {m : MethodId} {args : Array Value} {below : List Frame} {meth : Method} {c : Code} {D : va_G} {cy : Nat → ClassId} {z0 : Nat} {ad : Nat → Nat} {X : va_W} {u : Nat × Nat} (hC : cx_C p s m args meth c cX10_clear "RhymedThen$Ways" (Cond.code yX10_clear cX10_clear 1 none) 1 none) {z : mm_M} {M : mm_M} (hf : f_X10_clear M = z) {H : Heap} {locs : List Loc} (hw : wd_in cx_T D cy z0 ad u M X s H locs) {ls : Array Slot} (hl : lv_has ls 1 [(0, .ref (ad 39))]) : W p l e { frames := 0, cells := 0, slots := 0, locals := 0 } s m args below meth c H locs 0 0 (MQ below (cq_v cx_T D cy z0 ad u X z) args s 0 0 (fun q => z0 ≤ q)) (F0 m 0 ls []) := by
  have hx := hC.1
  have hb := hC.2.1
  unfold f_X10_clear at hf
  refine lv_aload_n hx hb dX10_clear_0 rfl (lv_at hl 0 rfl) ?_
  refine lv_iconst (v := 0) hx hb dX10_clear_1 (by decide) ?_
  obtain ⟨M1, eM1, hf⟩ := sq_e hf
  refine rp_i hC hw 39 (Nat.le_of_ble_eq_true rfl) rfl fd_X10_2 wf_X10_18 fp_X10_2 rfl rfl dX10_clear_2 eM1 (fun H locs hw => ?_)
  subst hf
  exact rtc_v hC hw dX10_clear_5
set_option maxRecDepth 100000 in
theorem c_X10_clear {l : Launch} {D : va_G} {cy : Nat → ClassId} {z0 : Nat} {ad : Nat → Nat} {u : Nat × Nat} {X : va_W} {z : mm_M} {M : mm_M} (hf : f_X10_clear M = z) : ct_v cx_T l yX10_clear (Cond.code yX10_clear cX10_clear 1 none) 0 0 D cy z0 ad u M X [.ref (ad 39)] z := by
  refine bgc_v (by decide) (fun p e s m below meth c hC hw => ?_)
  refine en_t (Nat.le_of_ble_eq_true rfl) (fun ls hl => ?_)
  have hl : lv_has ls 1 [(0, .ref (ad 39))] := hl
  exact k_X10_clear hC hf hw hl
set_option maxRecDepth 100000 in
set_option maxHeartbeats 4000000 in
theorem k_X10_add_30 {p : Program} {l : Launch} {e : Env} {s : State} {m : MethodId} {args : Array Value} {below : List Frame} {meth : Method} {c : Code} {D : va_G} {cy : Nat → ClassId} {z0 : Nat} {ad : Nat → Nat} {X : va_W} {u : Nat × Nat} (hC : cx_C p s m args meth c cX10_add "RhymedThen$Ways" (Cond.code yX10_add cX10_add 6 none) 6 none) {z : mm_M} {x1 : Int64} {x3 : Int64} {x5 : Int32} {M : mm_M} (hf : f_X10_add_30 x1 x3 x5 M = some z) {H : Heap} {locs : List Loc} (hw : wd_in cx_T D cy z0 ad u M X s H locs) {ls : Array Slot} (hl : lv_has ls 6 [(0, .ref (ad 39)), (1, .long x1), (3, .long x3), (5, .int x5)]) : W p l e { frames := 0, cells := 0, slots := 0, locals := 0 } s m args below meth c H locs 0 0 (MQ below (cq_v cx_T D cy z0 ad u X z) args s 0 0 (fun q => z0 ≤ q)) (F0 m 30 ls []) := by
  have hx := hC.1
  have hb := hC.2.1
  unfold f_X10_add_30 at hf
  refine lv_iload hx hb dX10_add_30 (lv_at hl 3 rfl) ?_
  refine lv_aload_n hx hb dX10_add_32 rfl (lv_at hl 0 rfl) ?_
  refine rg_i hC hw 39 (Nat.le_of_ble_eq_true rfl) rfl fd_X10_2 wf_X10_18 dX10_add_33 ?_
  refine lv_icmp_ge (tgt := 53) hx hb dX10_add_36 (by decide) (fun c5 => ?_) (fun c5 => ?_)
  · rw [if_pos c5] at hf
    refine lv_aload_n hx hb dX10_add_53 rfl (lv_at hl 0 rfl) ?_
    refine rg_i hC hw 39 (Nat.le_of_ble_eq_true rfl) rfl fd_X10_2 wf_X10_18 dX10_add_54 ?_
    refine lv_sipush (v := 600) hx hb dX10_add_57 (by decide) ?_
    refine lv_icmp_ge (tgt := 93) hx hb dX10_add_60 (by decide) (fun c6 => ?_) (fun c6 => ?_)
    · rw [if_pos c6] at hf
      have hz := Option.some.inj hf
      subst hz
      exact rtc_v hC hw dX10_add_93
    · rw [if_neg c6] at hf
      refine lv_aload_n hx hb dX10_add_63 rfl (lv_at hl 0 rfl) ?_
      refine rg_p hC hw 39 (Nat.le_of_ble_eq_true rfl) rfl fd_X10_0 wf_X10_9 (q := 40) rfl dX10_add_64 ?_
      refine lv_aload_n hx hb dX10_add_67 rfl (lv_at hl 0 rfl) ?_
      refine rg_i hC hw 39 (Nat.le_of_ble_eq_true rfl) rfl fd_X10_2 wf_X10_18 dX10_add_68 ?_
      refine lv_lload_n hx hb dX10_add_71 rfl (lv_at hl 1 rfl) ?_
      obtain ⟨h7, hf⟩ := ck_e hf
      obtain ⟨M8, eM8, hf⟩ := sq_e hf
      refine rs_l hC hw 40 (Nat.le_of_ble_eq_true rfl) rfl h7 dX10_add_72 eM8 (fun H locs hw => ?_)
      refine lv_aload_n hx hb dX10_add_73 rfl (lv_at hl 0 rfl) ?_
      refine rg_p hC hw 39 (Nat.le_of_ble_eq_true rfl) rfl fd_X10_1 wf_X10_15 (q := 41) rfl dX10_add_74 ?_
      refine lv_aload_n hx hb dX10_add_77 rfl (lv_at hl 0 rfl) ?_
      refine rg_i hC hw 39 (Nat.le_of_ble_eq_true rfl) rfl fd_X10_2 wf_X10_18 dX10_add_78 ?_
      refine lv_lload_n hx hb dX10_add_81 rfl (lv_at hl 2 rfl) ?_
      obtain ⟨h9, hf⟩ := ck_e hf
      obtain ⟨M10, eM10, hf⟩ := sq_e hf
      refine rs_l hC hw 41 (Nat.le_of_ble_eq_true rfl) rfl h9 dX10_add_82 eM10 (fun H locs hw => ?_)
      refine lv_aload_n hx hb dX10_add_83 rfl (lv_at hl 0 rfl) ?_
      refine lv_dup hx hb dX10_add_84 rfl ?_
      refine rg_i hC hw 39 (Nat.le_of_ble_eq_true rfl) rfl fd_X10_2 wf_X10_18 dX10_add_85 ?_
      refine lv_iconst (v := 1) hx hb dX10_add_88 (by decide) ?_
      refine lv_iadd hx hb dX10_add_89 ?_
      obtain ⟨M11, eM11, hf⟩ := sq_e hf
      refine rp_i hC hw 39 (Nat.le_of_ble_eq_true rfl) rfl fd_X10_2 wf_X10_18 fp_X10_2 rfl rfl dX10_add_90 eM11 (fun H locs hw => ?_)
      have hz := Option.some.inj hf
      subst hz
      exact rtc_v hC hw dX10_add_93
  · rw [if_neg c5] at hf
    refine lv_aload_n hx hb dX10_add_39 rfl (lv_at hl 0 rfl) ?_
    refine rg_p hC hw 39 (Nat.le_of_ble_eq_true rfl) rfl fd_X10_1 wf_X10_15 (q := 41) rfl dX10_add_40 ?_
    refine lv_iload hx hb dX10_add_43 (lv_at hl 3 rfl) ?_
    refine lv_dup2_11 hx hb dX10_add_45 rfl rfl ?_
    obtain ⟨h12, hf⟩ := ck_e hf
    refine ra_l hC hw 41 (Nat.le_of_ble_eq_true rfl) rfl h12 dX10_add_46 ?_
    refine lv_lload_n hx hb dX10_add_47 rfl (lv_at hl 2 rfl) ?_
    refine lv_ladd hx hb dX10_add_48 ?_
    obtain ⟨h13, hf⟩ := ck_e hf
    obtain ⟨M14, eM14, hf⟩ := sq_e hf
    refine rs_l hC hw 41 (Nat.le_of_ble_eq_true rfl) rfl h13 dX10_add_49 eM14 (fun H locs hw => ?_)
    refine lv_goto (tgt := 93) hx hb dX10_add_50 (by decide) ?_
    have hz := Option.some.inj hf
    subst hz
    exact rtc_v hC hw dX10_add_93
set_option maxRecDepth 100000 in
set_option maxHeartbeats 4000000 in
theorem k_X10_add_3 {p : Program} {l : Launch} {e : Env} {s : State} {m : MethodId} {args : Array Value} {below : List Frame} {meth : Method} {c : Code} {D : va_G} {cy : Nat → ClassId} {z0 : Nat} {ad : Nat → Nat} {X : va_W} {u : Nat × Nat} (hC : cx_C p s m args meth c cX10_add "RhymedThen$Ways" (Cond.code yX10_add cX10_add 6 none) 6 none) {z : mm_M} {x1 : Int64} {x3 : Int64} {x5 : Int32} {M : mm_M} {q3 : Int64 → Int64 → Int32 → mm_M → Option mm_M} (hq3 : ∀ (x1 : Int64) (x3 : Int64) (x5 : Int32) (M : mm_M) (H : Heap) (locs : List Loc) (ls : Array Slot), q3 x1 x3 x5 M = some z → wd_in cx_T D cy z0 ad u M X s H locs → lv_has ls 6 [(0, .ref (ad 39)), (1, .long x1), (3, .long x3), (5, .int x5)] → W p l e { frames := 0, cells := 0, slots := 0, locals := 0 } s m args below meth c H locs 0 0 (MQ below (cq_v cx_T D cy z0 ad u X z) args s 0 0 (fun q => z0 ≤ q)) (F0 m 3 ls [])) (hf : f_X10_add_3 q3 x1 x3 x5 M = some z) {H : Heap} {locs : List Loc} (hw : wd_in cx_T D cy z0 ad u M X s H locs) {ls : Array Slot} (hl : lv_has ls 6 [(0, .ref (ad 39)), (1, .long x1), (3, .long x3), (5, .int x5)]) : W p l e { frames := 0, cells := 0, slots := 0, locals := 0 } s m args below meth c H locs 0 0 (MQ below (cq_v cx_T D cy z0 ad u X z) args s 0 0 (fun q => z0 ≤ q)) (F0 m 3 ls []) := by
  have hx := hC.1
  have hb := hC.2.1
  unfold f_X10_add_3 at hf
  refine lv_iload hx hb dX10_add_3 (lv_at hl 3 rfl) ?_
  refine lv_aload_n hx hb dX10_add_5 rfl (lv_at hl 0 rfl) ?_
  refine rg_i hC hw 39 (Nat.le_of_ble_eq_true rfl) rfl fd_X10_2 wf_X10_18 dX10_add_6 ?_
  refine lv_icmp_ge (tgt := 30) hx hb dX10_add_9 (by decide) (fun c1 => ?_) (fun c1 => ?_)
  · rw [if_pos c1] at hf
    exact k_X10_add_30 hC hf hw (lv_sub hl [0, 1, 2, 3] rfl)
  · rw [if_neg c1] at hf
    refine lv_aload_n hx hb dX10_add_12 rfl (lv_at hl 0 rfl) ?_
    refine rg_p hC hw 39 (Nat.le_of_ble_eq_true rfl) rfl fd_X10_0 wf_X10_9 (q := 40) rfl dX10_add_13 ?_
    refine lv_iload hx hb dX10_add_16 (lv_at hl 3 rfl) ?_
    obtain ⟨h2, hf⟩ := ck_e hf
    refine ra_l hC hw 40 (Nat.le_of_ble_eq_true rfl) rfl h2 dX10_add_18 ?_
    refine lv_lload_n hx hb dX10_add_19 rfl (lv_at hl 1 rfl) ?_
    refine lc_eq (tgt := 30) hx hb dX10_add_20 dX10_add_21 (by decide) (fun c3 => ?_) (fun c3 => ?_)
    · rw [if_pos c3] at hf
      exact k_X10_add_30 hC hf hw (lv_sub hl [0, 1, 2, 3] rfl)
    · rw [if_neg c3] at hf
      obtain ⟨y4, ey4, hf⟩ := sq_e hf
      refine lv_iinc (v := y4) (lv' := [(5, .int y4), (0, .ref (ad 39)), (1, .long x1), (3, .long x3)]) hx hb dX10_add_24 hl (k := 3) rfl (by rw [ey4]; rfl) (by decide) rfl (fun ls hl => ?_)
      refine lv_goto (tgt := 3) hx hb dX10_add_27 (by decide) ?_
      exact hq3 _ _ _ _ _ _ _ hf hw (lv_sub hl [1, 2, 3, 0] rfl)
set_option maxRecDepth 100000 in
set_option maxHeartbeats 4000000 in
theorem k_X10_add_3l {p : Program} {l : Launch} {e : Env} {s : State} {m : MethodId} {args : Array Value} {below : List Frame} {meth : Method} {c : Code} {D : va_G} {cy : Nat → ClassId} {z0 : Nat} {ad : Nat → Nat} {X : va_W} {u : Nat × Nat} (hC : cx_C p s m args meth c cX10_add "RhymedThen$Ways" (Cond.code yX10_add cX10_add 6 none) 6 none) {z : mm_M} : ∀ (n : Nat) (x1 : Int64) (x3 : Int64) (x5 : Int32) (M : mm_M) (H : Heap) (locs : List Loc) (ls : Array Slot), f_X10_add_3l n x1 x3 x5 M = some z → wd_in cx_T D cy z0 ad u M X s H locs → lv_has ls 6 [(0, .ref (ad 39)), (1, .long x1), (3, .long x3), (5, .int x5)] → W p l e { frames := 0, cells := 0, slots := 0, locals := 0 } s m args below meth c H locs 0 0 (MQ below (cq_v cx_T D cy z0 ad u X z) args s 0 0 (fun q => z0 ≤ q)) (F0 m 3 ls []) := by
  intro n
  induction n with
  | zero => intro x1 x3 x5 M H locs ls hf; exact absurd hf (by simp [f_X10_add_3l])
  | succ n ih => intro x1 x3 x5 M H locs ls hf hw hl; exact k_X10_add_3 hC ih hf hw hl
set_option maxRecDepth 100000 in
set_option maxHeartbeats 4000000 in
theorem k_X10_add {p : Program} {l : Launch} {e : Env} {s : State} {m : MethodId} {args : Array Value} {below : List Frame} {meth : Method} {c : Code} {D : va_G} {cy : Nat → ClassId} {z0 : Nat} {ad : Nat → Nat} {X : va_W} {u : Nat × Nat} (hC : cx_C p s m args meth c cX10_add "RhymedThen$Ways" (Cond.code yX10_add cX10_add 6 none) 6 none) {z : mm_M} {x1 : Int64} {x3 : Int64} {M : mm_M} (hf : f_X10_add x1 x3 M = some z) {H : Heap} {locs : List Loc} (hw : wd_in cx_T D cy z0 ad u M X s H locs) {ls : Array Slot} (hl : lv_has ls 6 [(0, .ref (ad 39)), (1, .long x1), (3, .long x3)]) : W p l e { frames := 0, cells := 0, slots := 0, locals := 0 } s m args below meth c H locs 0 0 (MQ below (cq_v cx_T D cy z0 ad u X z) args s 0 0 (fun q => z0 ≤ q)) (F0 m 0 ls []) := by
  have hx := hC.1
  have hb := hC.2.1
  unfold f_X10_add at hf
  refine lv_iconst (v := 0) hx hb dX10_add_0 (by decide) ?_
  refine lv_istore (lv' := [(5, .int 0), (0, .ref (ad 39)), (1, .long x1), (3, .long x3)]) hx hb dX10_add_1 hl (by decide) rfl (fun ls hl => ?_)
  exact k_X10_add_3l hC fu_ _ _ _ _ _ _ _ hf hw (lv_sub hl [1, 2, 3, 0] rfl)
set_option maxRecDepth 100000 in
theorem c_X10_add {l : Launch} {D : va_G} {cy : Nat → ClassId} {z0 : Nat} {ad : Nat → Nat} {u : Nat × Nat} {X : va_W} {z : mm_M} {x1 : Int64} {x3 : Int64} {M : mm_M} (hf : f_X10_add x1 x3 M = some z) : ct_v cx_T l yX10_add (Cond.code yX10_add cX10_add 6 none) 0 0 D cy z0 ad u M X [.ref (ad 39), .long x1, .long x3] z := by
  refine bgc_v (by decide) (fun p e s m below meth c hC hw => ?_)
  refine en_t (Nat.le_of_ble_eq_true rfl) (fun ls hl => ?_)
  have hl : lv_has ls 6 [(0, .ref (ad 39)), (1, .long x1), (3, .long x3)] := hl
  exact k_X10_add hC hf hw hl
set_option maxRecDepth 100000 in
set_option maxHeartbeats 4000000 in
theorem k_X10_heaviest_30 {p : Program} {l : Launch} {e : Env} {s : State} {m : MethodId} {args : Array Value} {below : List Frame} {meth : Method} {c : Code} {D : va_G} {cy : Nat → ClassId} {z0 : Nat} {ad : Nat → Nat} {X : va_W} {u : Nat × Nat} (hC : cx_C p s m args meth c cX10_heaviest "RhymedThen$Ways" (Cond.code yX10_heaviest cX10_heaviest 3 (some .int)) 3 (some .int)) {z : Int32} {x1 : Int32} {x2 : Int32} {M : mm_M} {q4 : Int32 → Int32 → Option Int32} (hq4 : ∀ (x1 : Int32) (x2 : Int32) (H : Heap) (locs : List Loc) (ls : Array Slot), q4 x1 x2 = some z → wd_in cx_T D cy z0 ad u M X s H locs → lv_has ls 3 [(0, .ref (ad 39)), (1, .int x1), (2, .int x2)] → W p l e { frames := 0, cells := 0, slots := 0, locals := 0 } s m args below meth c H locs 0 0 (MQ below (cq_i cx_T D cy z0 ad u X z M) args s 0 0 (fun q => z0 ≤ q)) (F0 m 4 ls [])) (hf : f_X10_heaviest_30 q4 x1 x2 M = some z) {H : Heap} {locs : List Loc} (hw : wd_in cx_T D cy z0 ad u M X s H locs) {ls : Array Slot} (hl : lv_has ls 3 [(0, .ref (ad 39)), (1, .int x1), (2, .int x2)]) : W p l e { frames := 0, cells := 0, slots := 0, locals := 0 } s m args below meth c H locs 0 0 (MQ below (cq_i cx_T D cy z0 ad u X z M) args s 0 0 (fun q => z0 ≤ q)) (F0 m 30 ls []) := by
  have hx := hC.1
  have hb := hC.2.1
  unfold f_X10_heaviest_30 at hf
  obtain ⟨y5, ey5, hf⟩ := sq_e hf
  refine lv_iinc (v := y5) (lv' := [(2, .int y5), (0, .ref (ad 39)), (1, .int x1)]) hx hb dX10_heaviest_30 hl (k := 2) rfl (by rw [ey5]; rfl) (by decide) rfl (fun ls hl => ?_)
  refine lv_goto (tgt := 4) hx hb dX10_heaviest_33 (by decide) ?_
  exact hq4 _ _ _ _ _ hf hw (lv_sub hl [1, 2, 0] rfl)
set_option maxRecDepth 100000 in
set_option maxHeartbeats 4000000 in
theorem k_X10_heaviest_4 {p : Program} {l : Launch} {e : Env} {s : State} {m : MethodId} {args : Array Value} {below : List Frame} {meth : Method} {c : Code} {D : va_G} {cy : Nat → ClassId} {z0 : Nat} {ad : Nat → Nat} {X : va_W} {u : Nat × Nat} (hC : cx_C p s m args meth c cX10_heaviest "RhymedThen$Ways" (Cond.code yX10_heaviest cX10_heaviest 3 (some .int)) 3 (some .int)) {z : Int32} {x1 : Int32} {x2 : Int32} {M : mm_M} {q4 : Int32 → Int32 → Option Int32} (hq4 : ∀ (x1 : Int32) (x2 : Int32) (H : Heap) (locs : List Loc) (ls : Array Slot), q4 x1 x2 = some z → wd_in cx_T D cy z0 ad u M X s H locs → lv_has ls 3 [(0, .ref (ad 39)), (1, .int x1), (2, .int x2)] → W p l e { frames := 0, cells := 0, slots := 0, locals := 0 } s m args below meth c H locs 0 0 (MQ below (cq_i cx_T D cy z0 ad u X z M) args s 0 0 (fun q => z0 ≤ q)) (F0 m 4 ls [])) (hf : f_X10_heaviest_4 q4 x1 x2 M = some z) {H : Heap} {locs : List Loc} (hw : wd_in cx_T D cy z0 ad u M X s H locs) {ls : Array Slot} (hl : lv_has ls 3 [(0, .ref (ad 39)), (1, .int x1), (2, .int x2)]) : W p l e { frames := 0, cells := 0, slots := 0, locals := 0 } s m args below meth c H locs 0 0 (MQ below (cq_i cx_T D cy z0 ad u X z M) args s 0 0 (fun q => z0 ≤ q)) (F0 m 4 ls []) := by
  have hx := hC.1
  have hb := hC.2.1
  unfold f_X10_heaviest_4 at hf
  refine lv_iload_n hx hb dX10_heaviest_4 rfl (lv_at hl 2 rfl) ?_
  refine lv_aload_n hx hb dX10_heaviest_5 rfl (lv_at hl 0 rfl) ?_
  refine rg_i hC hw 39 (Nat.le_of_ble_eq_true rfl) rfl fd_X10_2 wf_X10_18 dX10_heaviest_6 ?_
  refine lv_icmp_ge (tgt := 36) hx hb dX10_heaviest_9 (by decide) (fun c1 => ?_) (fun c1 => ?_)
  · rw [if_pos c1] at hf
    refine lv_iload_n hx hb dX10_heaviest_36 rfl (lv_at hl 1 rfl) ?_
    have hz := Option.some.inj hf
    subst hz
    exact rtc_i hC hw dX10_heaviest_37
  · rw [if_neg c1] at hf
    refine lv_aload_n hx hb dX10_heaviest_12 rfl (lv_at hl 0 rfl) ?_
    refine rg_p hC hw 39 (Nat.le_of_ble_eq_true rfl) rfl fd_X10_1 wf_X10_15 (q := 41) rfl dX10_heaviest_13 ?_
    refine lv_iload_n hx hb dX10_heaviest_16 rfl (lv_at hl 2 rfl) ?_
    obtain ⟨h2, hf⟩ := ck_e hf
    refine ra_l hC hw 41 (Nat.le_of_ble_eq_true rfl) rfl h2 dX10_heaviest_17 ?_
    refine lv_aload_n hx hb dX10_heaviest_18 rfl (lv_at hl 0 rfl) ?_
    refine rg_p hC hw 39 (Nat.le_of_ble_eq_true rfl) rfl fd_X10_1 wf_X10_15 (q := 41) rfl dX10_heaviest_19 ?_
    refine lv_iload_n hx hb dX10_heaviest_22 rfl (lv_at hl 1 rfl) ?_
    obtain ⟨h3, hf⟩ := ck_e hf
    refine ra_l hC hw 41 (Nat.le_of_ble_eq_true rfl) rfl h3 dX10_heaviest_23 ?_
    refine lc_le (tgt := 30) hx hb dX10_heaviest_24 dX10_heaviest_25 (by decide) (fun c4 => ?_) (fun c4 => ?_)
    · rw [if_pos c4] at hf
      exact k_X10_heaviest_30 hC hq4 hf hw (lv_sub hl [0, 1, 2] rfl)
    · rw [if_neg c4] at hf
      refine lv_iload_n hx hb dX10_heaviest_28 rfl (lv_at hl 2 rfl) ?_
      refine lv_istore_n (lv' := [(1, .int x2), (0, .ref (ad 39)), (2, .int x2)]) hx hb dX10_heaviest_29 rfl hl (by decide) rfl (fun ls hl => ?_)
      exact k_X10_heaviest_30 hC hq4 hf hw (lv_sub hl [1, 0, 2] rfl)
set_option maxRecDepth 100000 in
set_option maxHeartbeats 4000000 in
theorem k_X10_heaviest_4l {p : Program} {l : Launch} {e : Env} {s : State} {m : MethodId} {args : Array Value} {below : List Frame} {meth : Method} {c : Code} {D : va_G} {cy : Nat → ClassId} {z0 : Nat} {ad : Nat → Nat} {X : va_W} {u : Nat × Nat} (hC : cx_C p s m args meth c cX10_heaviest "RhymedThen$Ways" (Cond.code yX10_heaviest cX10_heaviest 3 (some .int)) 3 (some .int)) {z : Int32} {M : mm_M} : ∀ (n : Nat) (x1 : Int32) (x2 : Int32) (H : Heap) (locs : List Loc) (ls : Array Slot), f_X10_heaviest_4l M n x1 x2 = some z → wd_in cx_T D cy z0 ad u M X s H locs → lv_has ls 3 [(0, .ref (ad 39)), (1, .int x1), (2, .int x2)] → W p l e { frames := 0, cells := 0, slots := 0, locals := 0 } s m args below meth c H locs 0 0 (MQ below (cq_i cx_T D cy z0 ad u X z M) args s 0 0 (fun q => z0 ≤ q)) (F0 m 4 ls []) := by
  intro n
  induction n with
  | zero => intro x1 x2 H locs ls hf; exact absurd hf (by simp [f_X10_heaviest_4l])
  | succ n ih => intro x1 x2 H locs ls hf hw hl; exact k_X10_heaviest_4 hC ih hf hw hl
set_option maxRecDepth 100000 in
set_option maxHeartbeats 4000000 in
theorem k_X10_heaviest {p : Program} {l : Launch} {e : Env} {s : State} {m : MethodId} {args : Array Value} {below : List Frame} {meth : Method} {c : Code} {D : va_G} {cy : Nat → ClassId} {z0 : Nat} {ad : Nat → Nat} {X : va_W} {u : Nat × Nat} (hC : cx_C p s m args meth c cX10_heaviest "RhymedThen$Ways" (Cond.code yX10_heaviest cX10_heaviest 3 (some .int)) 3 (some .int)) {z : Int32} {M : mm_M} (hf : f_X10_heaviest M = some z) {H : Heap} {locs : List Loc} (hw : wd_in cx_T D cy z0 ad u M X s H locs) {ls : Array Slot} (hl : lv_has ls 3 [(0, .ref (ad 39))]) : W p l e { frames := 0, cells := 0, slots := 0, locals := 0 } s m args below meth c H locs 0 0 (MQ below (cq_i cx_T D cy z0 ad u X z M) args s 0 0 (fun q => z0 ≤ q)) (F0 m 0 ls []) := by
  have hx := hC.1
  have hb := hC.2.1
  unfold f_X10_heaviest at hf
  refine lv_iconst (v := 0) hx hb dX10_heaviest_0 (by decide) ?_
  refine lv_istore_n (lv' := [(1, .int 0), (0, .ref (ad 39))]) hx hb dX10_heaviest_1 rfl hl (by decide) rfl (fun ls hl => ?_)
  refine lv_iconst (v := 1) hx hb dX10_heaviest_2 (by decide) ?_
  refine lv_istore_n (lv' := [(2, .int 1), (1, .int 0), (0, .ref (ad 39))]) hx hb dX10_heaviest_3 rfl hl (by decide) rfl (fun ls hl => ?_)
  exact k_X10_heaviest_4l hC fu_ _ _ _ _ _ hf hw (lv_sub hl [2, 1, 0] rfl)
set_option maxRecDepth 100000 in
theorem c_X10_heaviest {l : Launch} {D : va_G} {cy : Nat → ClassId} {z0 : Nat} {ad : Nat → Nat} {u : Nat × Nat} {X : va_W} {z : Int32} {M : mm_M} (hf : f_X10_heaviest M = some z) : ct_i cx_T l yX10_heaviest (Cond.code yX10_heaviest cX10_heaviest 3 (some .int)) 0 0 D cy z0 ad u M X [.ref (ad 39)] z M := by
  refine bgc_i (by decide) (fun p e s m below meth c hC hw => ?_)
  refine en_t (Nat.le_of_ble_eq_true rfl) (fun ls hl => ?_)
  have hl : lv_has ls 3 [(0, .ref (ad 39))] := hl
  exact k_X10_heaviest hC hf hw hl
set_option maxRecDepth 100000 in
set_option maxHeartbeats 4000000 in
theorem k_X10_shortest_5 {p : Program} {l : Launch} {e : Env} {s : State} {m : MethodId} {args : Array Value} {below : List Frame} {meth : Method} {c : Code} {D : va_G} {cy : Nat → ClassId} {z0 : Nat} {ad : Nat → Nat} {X : va_W} {u : Nat × Nat} (hC : cx_C p s m args meth c cX10_shortest "RhymedThen$Ways" (Cond.code yX10_shortest cX10_shortest 3 (some .int)) 3 (some .int)) {z : Int32} {x1 : Int32} {x2 : Int32} {M : mm_M} {q5 : Int32 → Int32 → Option Int32} (hq5 : ∀ (x1 : Int32) (x2 : Int32) (H : Heap) (locs : List Loc) (ls : Array Slot), q5 x1 x2 = some z → wd_in cx_T D cy z0 ad u M X s H locs → lv_has ls 3 [(0, .ref (ad 39)), (1, .int x1), (2, .int x2)] → W p l e { frames := 1, cells := 0, slots := 0, locals := 21 } s m args below meth c H locs 0 0 (MQ below (cq_i cx_T D cy z0 ad u X z M) args s 0 0 (fun q => z0 ≤ q)) (F0 m 5 ls [])) (hf : f_X10_shortest_5 q5 x1 x2 M = some z) {H : Heap} {locs : List Loc} (hw : wd_in cx_T D cy z0 ad u M X s H locs) {ls : Array Slot} (hl : lv_has ls 3 [(0, .ref (ad 39)), (1, .int x1), (2, .int x2)]) : W p l e { frames := 1, cells := 0, slots := 0, locals := 21 } s m args below meth c H locs 0 0 (MQ below (cq_i cx_T D cy z0 ad u X z M) args s 0 0 (fun q => z0 ≤ q)) (F0 m 5 ls []) := by
  have hx := hC.1
  have hb := hC.2.1
  unfold f_X10_shortest_5 at hf
  refine lv_iload_n hx hb dX10_shortest_5 rfl (lv_at hl 2 rfl) ?_
  refine lv_aload_n hx hb dX10_shortest_6 rfl (lv_at hl 0 rfl) ?_
  refine rg_i hC hw 39 (Nat.le_of_ble_eq_true rfl) rfl fd_X10_2 wf_X10_18 dX10_shortest_7 ?_
  refine lv_icmp_ge (tgt := 33) hx hb dX10_shortest_10 (by decide) (fun c1 => ?_) (fun c1 => ?_)
  · rw [if_pos c1] at hf
    refine lv_iload_n hx hb dX10_shortest_33 rfl (lv_at hl 1 rfl) ?_
    have hz := Option.some.inj hf
    subst hz
    exact rtc_i hC hw dX10_shortest_34
  · rw [if_neg c1] at hf
    refine lv_iload_n hx hb dX10_shortest_13 rfl (lv_at hl 1 rfl) ?_
    refine lv_aload_n hx hb dX10_shortest_14 rfl (lv_at hl 0 rfl) ?_
    refine rg_p hC hw 39 (Nat.le_of_ble_eq_true rfl) rfl fd_X10_0 wf_X10_9 (q := 40) rfl dX10_shortest_15 ?_
    refine lv_iload_n hx hb dX10_shortest_18 rfl (lv_at hl 2 rfl) ?_
    obtain ⟨h2, hf⟩ := ck_e hf
    refine ra_l hC hw 40 (Nat.le_of_ble_eq_true rfl) rfl h2 dX10_shortest_19 ?_
    obtain ⟨z3, ez3, hf⟩ := sq_e hf
    refine clc_Si hC hw (c_X0_lengthOf ez3.symm) hd_X0_lengthOf cw_X10_22 (rest := [.int x1]) hl.1 rfl (Nat.le_of_ble_eq_true rfl) ⟨Nat.le_of_ble_eq_true rfl, Nat.le_of_ble_eq_true rfl⟩ ⟨Nat.zero_le _, Nat.zero_le _⟩ rfl dX10_shortest_20 (fun H locs hw => ?_)
    refine mx_min hC (rest := []) wm_X10_28 hl.1 ⟨Nat.le_of_ble_eq_true rfl, Nat.le_of_ble_eq_true rfl⟩ ⟨Nat.zero_le _, Nat.zero_le _⟩ dX10_shortest_23 ?_
    obtain ⟨y4, ey4, hf⟩ := sq_e hf
    refine lt_i ey4 ?_
    refine lv_istore_n (lv' := [(1, .int y4), (0, .ref (ad 39)), (2, .int x2)]) hx hb dX10_shortest_26 rfl hl (by decide) rfl (fun ls hl => ?_)
    obtain ⟨y5, ey5, hf⟩ := sq_e hf
    refine lv_iinc (v := y5) (lv' := [(2, .int y5), (1, .int y4), (0, .ref (ad 39))]) hx hb dX10_shortest_27 hl (k := 2) rfl (by rw [ey5]; rfl) (by decide) rfl (fun ls hl => ?_)
    refine lv_goto (tgt := 5) hx hb dX10_shortest_30 (by decide) ?_
    exact hq5 _ _ _ _ _ hf hw (lv_sub hl [2, 1, 0] rfl)
set_option maxRecDepth 100000 in
set_option maxHeartbeats 4000000 in
theorem k_X10_shortest_5l {p : Program} {l : Launch} {e : Env} {s : State} {m : MethodId} {args : Array Value} {below : List Frame} {meth : Method} {c : Code} {D : va_G} {cy : Nat → ClassId} {z0 : Nat} {ad : Nat → Nat} {X : va_W} {u : Nat × Nat} (hC : cx_C p s m args meth c cX10_shortest "RhymedThen$Ways" (Cond.code yX10_shortest cX10_shortest 3 (some .int)) 3 (some .int)) {z : Int32} {M : mm_M} : ∀ (n : Nat) (x1 : Int32) (x2 : Int32) (H : Heap) (locs : List Loc) (ls : Array Slot), f_X10_shortest_5l M n x1 x2 = some z → wd_in cx_T D cy z0 ad u M X s H locs → lv_has ls 3 [(0, .ref (ad 39)), (1, .int x1), (2, .int x2)] → W p l e { frames := 1, cells := 0, slots := 0, locals := 21 } s m args below meth c H locs 0 0 (MQ below (cq_i cx_T D cy z0 ad u X z M) args s 0 0 (fun q => z0 ≤ q)) (F0 m 5 ls []) := by
  intro n
  induction n with
  | zero => intro x1 x2 H locs ls hf; exact absurd hf (by simp [f_X10_shortest_5l])
  | succ n ih => intro x1 x2 H locs ls hf hw hl; exact k_X10_shortest_5 hC ih hf hw hl
set_option maxRecDepth 100000 in
set_option maxHeartbeats 4000000 in
theorem k_X10_shortest {p : Program} {l : Launch} {e : Env} {s : State} {m : MethodId} {args : Array Value} {below : List Frame} {meth : Method} {c : Code} {D : va_G} {cy : Nat → ClassId} {z0 : Nat} {ad : Nat → Nat} {X : va_W} {u : Nat × Nat} (hC : cx_C p s m args meth c cX10_shortest "RhymedThen$Ways" (Cond.code yX10_shortest cX10_shortest 3 (some .int)) 3 (some .int)) {z : Int32} {M : mm_M} (hf : f_X10_shortest M = some z) {H : Heap} {locs : List Loc} (hw : wd_in cx_T D cy z0 ad u M X s H locs) {ls : Array Slot} (hl : lv_has ls 3 [(0, .ref (ad 39))]) : W p l e { frames := 1, cells := 0, slots := 0, locals := 21 } s m args below meth c H locs 0 0 (MQ below (cq_i cx_T D cy z0 ad u X z M) args s 0 0 (fun q => z0 ≤ q)) (F0 m 0 ls []) := by
  have hx := hC.1
  have hb := hC.2.1
  unfold f_X10_shortest at hf
  refine lv_bipush (v := 8) hx hb dX10_shortest_0 (by decide) ?_
  refine lv_istore_n (lv' := [(1, .int 8), (0, .ref (ad 39))]) hx hb dX10_shortest_2 rfl hl (by decide) rfl (fun ls hl => ?_)
  refine lv_iconst (v := 0) hx hb dX10_shortest_3 (by decide) ?_
  refine lv_istore_n (lv' := [(2, .int 0), (1, .int 8), (0, .ref (ad 39))]) hx hb dX10_shortest_4 rfl hl (by decide) rfl (fun ls hl => ?_)
  exact k_X10_shortest_5l hC fu_ _ _ _ _ _ hf hw (lv_sub hl [2, 1, 0] rfl)
set_option maxRecDepth 100000 in
theorem c_X10_shortest {l : Launch} {D : va_G} {cy : Nat → ClassId} {z0 : Nat} {ad : Nat → Nat} {u : Nat × Nat} {X : va_W} {z : Int32} {M : mm_M} (hf : f_X10_shortest M = some z) : ct_i cx_T l yX10_shortest (Cond.code yX10_shortest cX10_shortest 3 (some .int)) 1 21 D cy z0 ad u M X [.ref (ad 39)] z M := by
  refine bgc_i (by decide) (fun p e s m below meth c hC hw => ?_)
  refine en_t (Nat.le_of_ble_eq_true rfl) (fun ls hl => ?_)
  have hl : lv_has ls 3 [(0, .ref (ad 39))] := hl
  exact k_X10_shortest hC hf hw hl
set_option maxRecDepth 100000 in
set_option maxHeartbeats 4000000 in
theorem k_X10_longest_4 {p : Program} {l : Launch} {e : Env} {s : State} {m : MethodId} {args : Array Value} {below : List Frame} {meth : Method} {c : Code} {D : va_G} {cy : Nat → ClassId} {z0 : Nat} {ad : Nat → Nat} {X : va_W} {u : Nat × Nat} (hC : cx_C p s m args meth c cX10_longest "RhymedThen$Ways" (Cond.code yX10_longest cX10_longest 3 (some .int)) 3 (some .int)) {z : Int32} {x1 : Int32} {x2 : Int32} {M : mm_M} {q4 : Int32 → Int32 → Option Int32} (hq4 : ∀ (x1 : Int32) (x2 : Int32) (H : Heap) (locs : List Loc) (ls : Array Slot), q4 x1 x2 = some z → wd_in cx_T D cy z0 ad u M X s H locs → lv_has ls 3 [(0, .ref (ad 39)), (1, .int x1), (2, .int x2)] → W p l e { frames := 1, cells := 0, slots := 0, locals := 21 } s m args below meth c H locs 0 0 (MQ below (cq_i cx_T D cy z0 ad u X z M) args s 0 0 (fun q => z0 ≤ q)) (F0 m 4 ls [])) (hf : f_X10_longest_4 q4 x1 x2 M = some z) {H : Heap} {locs : List Loc} (hw : wd_in cx_T D cy z0 ad u M X s H locs) {ls : Array Slot} (hl : lv_has ls 3 [(0, .ref (ad 39)), (1, .int x1), (2, .int x2)]) : W p l e { frames := 1, cells := 0, slots := 0, locals := 21 } s m args below meth c H locs 0 0 (MQ below (cq_i cx_T D cy z0 ad u X z M) args s 0 0 (fun q => z0 ≤ q)) (F0 m 4 ls []) := by
  have hx := hC.1
  have hb := hC.2.1
  unfold f_X10_longest_4 at hf
  refine lv_iload_n hx hb dX10_longest_4 rfl (lv_at hl 2 rfl) ?_
  refine lv_aload_n hx hb dX10_longest_5 rfl (lv_at hl 0 rfl) ?_
  refine rg_i hC hw 39 (Nat.le_of_ble_eq_true rfl) rfl fd_X10_2 wf_X10_18 dX10_longest_6 ?_
  refine lv_icmp_ge (tgt := 32) hx hb dX10_longest_9 (by decide) (fun c1 => ?_) (fun c1 => ?_)
  · rw [if_pos c1] at hf
    refine lv_iload_n hx hb dX10_longest_32 rfl (lv_at hl 1 rfl) ?_
    have hz := Option.some.inj hf
    subst hz
    exact rtc_i hC hw dX10_longest_33
  · rw [if_neg c1] at hf
    refine lv_iload_n hx hb dX10_longest_12 rfl (lv_at hl 1 rfl) ?_
    refine lv_aload_n hx hb dX10_longest_13 rfl (lv_at hl 0 rfl) ?_
    refine rg_p hC hw 39 (Nat.le_of_ble_eq_true rfl) rfl fd_X10_0 wf_X10_9 (q := 40) rfl dX10_longest_14 ?_
    refine lv_iload_n hx hb dX10_longest_17 rfl (lv_at hl 2 rfl) ?_
    obtain ⟨h2, hf⟩ := ck_e hf
    refine ra_l hC hw 40 (Nat.le_of_ble_eq_true rfl) rfl h2 dX10_longest_18 ?_
    obtain ⟨z3, ez3, hf⟩ := sq_e hf
    refine clc_Si hC hw (c_X0_lengthOf ez3.symm) hd_X0_lengthOf cw_X10_22 (rest := [.int x1]) hl.1 rfl (Nat.le_of_ble_eq_true rfl) ⟨Nat.le_of_ble_eq_true rfl, Nat.le_of_ble_eq_true rfl⟩ ⟨Nat.zero_le _, Nat.zero_le _⟩ rfl dX10_longest_19 (fun H locs hw => ?_)
    refine mx_max hC (rest := []) wm_X10_34 hl.1 ⟨Nat.le_of_ble_eq_true rfl, Nat.le_of_ble_eq_true rfl⟩ ⟨Nat.zero_le _, Nat.zero_le _⟩ dX10_longest_22 ?_
    obtain ⟨y4, ey4, hf⟩ := sq_e hf
    refine lt_i ey4 ?_
    refine lv_istore_n (lv' := [(1, .int y4), (0, .ref (ad 39)), (2, .int x2)]) hx hb dX10_longest_25 rfl hl (by decide) rfl (fun ls hl => ?_)
    obtain ⟨y5, ey5, hf⟩ := sq_e hf
    refine lv_iinc (v := y5) (lv' := [(2, .int y5), (1, .int y4), (0, .ref (ad 39))]) hx hb dX10_longest_26 hl (k := 2) rfl (by rw [ey5]; rfl) (by decide) rfl (fun ls hl => ?_)
    refine lv_goto (tgt := 4) hx hb dX10_longest_29 (by decide) ?_
    exact hq4 _ _ _ _ _ hf hw (lv_sub hl [2, 1, 0] rfl)
set_option maxRecDepth 100000 in
set_option maxHeartbeats 4000000 in
theorem k_X10_longest_4l {p : Program} {l : Launch} {e : Env} {s : State} {m : MethodId} {args : Array Value} {below : List Frame} {meth : Method} {c : Code} {D : va_G} {cy : Nat → ClassId} {z0 : Nat} {ad : Nat → Nat} {X : va_W} {u : Nat × Nat} (hC : cx_C p s m args meth c cX10_longest "RhymedThen$Ways" (Cond.code yX10_longest cX10_longest 3 (some .int)) 3 (some .int)) {z : Int32} {M : mm_M} : ∀ (n : Nat) (x1 : Int32) (x2 : Int32) (H : Heap) (locs : List Loc) (ls : Array Slot), f_X10_longest_4l M n x1 x2 = some z → wd_in cx_T D cy z0 ad u M X s H locs → lv_has ls 3 [(0, .ref (ad 39)), (1, .int x1), (2, .int x2)] → W p l e { frames := 1, cells := 0, slots := 0, locals := 21 } s m args below meth c H locs 0 0 (MQ below (cq_i cx_T D cy z0 ad u X z M) args s 0 0 (fun q => z0 ≤ q)) (F0 m 4 ls []) := by
  intro n
  induction n with
  | zero => intro x1 x2 H locs ls hf; exact absurd hf (by simp [f_X10_longest_4l])
  | succ n ih => intro x1 x2 H locs ls hf hw hl; exact k_X10_longest_4 hC ih hf hw hl
set_option maxRecDepth 100000 in
set_option maxHeartbeats 4000000 in
theorem k_X10_longest {p : Program} {l : Launch} {e : Env} {s : State} {m : MethodId} {args : Array Value} {below : List Frame} {meth : Method} {c : Code} {D : va_G} {cy : Nat → ClassId} {z0 : Nat} {ad : Nat → Nat} {X : va_W} {u : Nat × Nat} (hC : cx_C p s m args meth c cX10_longest "RhymedThen$Ways" (Cond.code yX10_longest cX10_longest 3 (some .int)) 3 (some .int)) {z : Int32} {M : mm_M} (hf : f_X10_longest M = some z) {H : Heap} {locs : List Loc} (hw : wd_in cx_T D cy z0 ad u M X s H locs) {ls : Array Slot} (hl : lv_has ls 3 [(0, .ref (ad 39))]) : W p l e { frames := 1, cells := 0, slots := 0, locals := 21 } s m args below meth c H locs 0 0 (MQ below (cq_i cx_T D cy z0 ad u X z M) args s 0 0 (fun q => z0 ≤ q)) (F0 m 0 ls []) := by
  have hx := hC.1
  have hb := hC.2.1
  unfold f_X10_longest at hf
  refine lv_iconst (v := 0) hx hb dX10_longest_0 (by decide) ?_
  refine lv_istore_n (lv' := [(1, .int 0), (0, .ref (ad 39))]) hx hb dX10_longest_1 rfl hl (by decide) rfl (fun ls hl => ?_)
  refine lv_iconst (v := 0) hx hb dX10_longest_2 (by decide) ?_
  refine lv_istore_n (lv' := [(2, .int 0), (1, .int 0), (0, .ref (ad 39))]) hx hb dX10_longest_3 rfl hl (by decide) rfl (fun ls hl => ?_)
  exact k_X10_longest_4l hC fu_ _ _ _ _ _ hf hw (lv_sub hl [2, 1, 0] rfl)
set_option maxRecDepth 100000 in
theorem c_X10_longest {l : Launch} {D : va_G} {cy : Nat → ClassId} {z0 : Nat} {ad : Nat → Nat} {u : Nat × Nat} {X : va_W} {z : Int32} {M : mm_M} (hf : f_X10_longest M = some z) : ct_i cx_T l yX10_longest (Cond.code yX10_longest cX10_longest 3 (some .int)) 1 21 D cy z0 ad u M X [.ref (ad 39)] z M := by
  refine bgc_i (by decide) (fun p e s m below meth c hC hw => ?_)
  refine en_t (Nat.le_of_ble_eq_true rfl) (fun ls hl => ?_)
  have hl : lv_has ls 3 [(0, .ref (ad 39))] := hl
  exact k_X10_longest hC hf hw hl
set_option maxRecDepth 100000 in
set_option maxHeartbeats 4000000 in
theorem k_X8_takes_16 {p : Program} {l : Launch} {e : Env} {s : State} {m : MethodId} {args : Array Value} {below : List Frame} {meth : Method} {c : Code} {D : va_G} {cy : Nat → ClassId} {z0 : Nat} {ad : Nat → Nat} {X : va_W} {u : Nat × Nat} (hC : cx_C p s m args meth c cX8_takes "RhymedThen$Text" (Cond.code yX8_takes cX8_takes 3 (some .boolean)) 3 (some .boolean)) {z : (Int32 × mm_M)} {x1 : Int32} {x2 : Int32} {M : mm_M} {q16 : Int32 → Int32 → mm_M → Option (Int32 × mm_M)} (hq16 : ∀ (x1 : Int32) (x2 : Int32) (M : mm_M) (H : Heap) (locs : List Loc) (ls : Array Slot), q16 x1 x2 M = some z → wd_in cx_T D cy z0 ad u M X s H locs → lv_has ls 3 [(0, .ref (ad 1)), (1, .int x1), (2, .int x2)] → W p l e { frames := 0, cells := 0, slots := 0, locals := 0 } s m args below meth c H locs 0 0 (MQ below (cq_i cx_T D cy z0 ad u X z.1 z.2) args s 0 0 (fun q => z0 ≤ q)) (F0 m 16 ls [])) (hf : f_X8_takes_16 q16 x1 x2 M = some z) {H : Heap} {locs : List Loc} (hw : wd_in cx_T D cy z0 ad u M X s H locs) {ls : Array Slot} (hl : lv_has ls 3 [(0, .ref (ad 1)), (1, .int x1), (2, .int x2)]) : W p l e { frames := 0, cells := 0, slots := 0, locals := 0 } s m args below meth c H locs 0 0 (MQ below (cq_i cx_T D cy z0 ad u X z.1 z.2) args s 0 0 (fun q => z0 ≤ q)) (F0 m 16 ls []) := by
  have hx := hC.1
  have hb := hC.2.1
  unfold f_X8_takes_16 at hf
  refine lv_iload_n hx hb dX8_takes_16 rfl (lv_at hl 2 rfl) ?_
  refine lv_if_lt (tgt := 52) hx hb dX8_takes_17 (by decide) (fun c2 => ?_) (fun c2 => ?_)
  · rw [if_pos c2] at hf
    refine lv_iconst (v := 1) hx hb dX8_takes_52 (by decide) ?_
    have hz := Option.some.inj hf
    subst hz
    exact rtc_z hC hw (Or.inr rfl) dX8_takes_53
  · rw [if_neg c2] at hf
    refine lv_aload_n hx hb dX8_takes_20 rfl (lv_at hl 0 rfl) ?_
    refine rg_p hC hw 1 (Nat.le_of_ble_eq_true rfl) rfl fd_X8_0 wf_X8_11 (q := 2) rfl dX8_takes_21 ?_
    refine lv_aload_n hx hb dX8_takes_24 rfl (lv_at hl 0 rfl) ?_
    refine rg_i hC hw 1 (Nat.le_of_ble_eq_true rfl) rfl fd_X8_1 wf_X8_15 dX8_takes_25 ?_
    refine lv_iload_n hx hb dX8_takes_28 rfl (lv_at hl 1 rfl) ?_
    refine lv_iload_n hx hb dX8_takes_29 rfl (lv_at hl 2 rfl) ?_
    refine lv_ishr hx hb dX8_takes_30 ?_
    refine lv_sipush (v := 255) hx hb dX8_takes_31 (by decide) ?_
    refine lv_iand hx hb dX8_takes_34 ?_
    obtain ⟨h3, hf⟩ := ck_e hf
    obtain ⟨M4, eM4, hf⟩ := sq_e hf
    refine rs_i hC hw 2 (Nat.le_of_ble_eq_true rfl) rfl h3 dX8_takes_35 eM4 (fun H locs hw => ?_)
    refine lv_aload_n hx hb dX8_takes_36 rfl (lv_at hl 0 rfl) ?_
    refine lv_dup hx hb dX8_takes_37 rfl ?_
    refine rg_i hC hw 1 (Nat.le_of_ble_eq_true rfl) rfl fd_X8_1 wf_X8_15 dX8_takes_38 ?_
    refine lv_iconst (v := 1) hx hb dX8_takes_41 (by decide) ?_
    refine lv_iadd hx hb dX8_takes_42 ?_
    obtain ⟨M5, eM5, hf⟩ := sq_e hf
    refine rp_i hC hw 1 (Nat.le_of_ble_eq_true rfl) rfl fd_X8_1 wf_X8_15 fp_X8_1 rfl rfl dX8_takes_43 eM5 (fun H locs hw => ?_)
    obtain ⟨y6, ey6, hf⟩ := sq_e hf
    refine lv_iinc (v := y6) (lv' := [(2, .int y6), (0, .ref (ad 1)), (1, .int x1)]) hx hb dX8_takes_46 hl (k := 2) rfl (by rw [ey6]; rfl) (by decide) rfl (fun ls hl => ?_)
    refine lv_goto (tgt := 16) hx hb dX8_takes_49 (by decide) ?_
    exact hq16 _ _ _ _ _ _ hf hw (lv_sub hl [1, 2, 0] rfl)
set_option maxRecDepth 100000 in
set_option maxHeartbeats 4000000 in
theorem k_X8_takes_16l {p : Program} {l : Launch} {e : Env} {s : State} {m : MethodId} {args : Array Value} {below : List Frame} {meth : Method} {c : Code} {D : va_G} {cy : Nat → ClassId} {z0 : Nat} {ad : Nat → Nat} {X : va_W} {u : Nat × Nat} (hC : cx_C p s m args meth c cX8_takes "RhymedThen$Text" (Cond.code yX8_takes cX8_takes 3 (some .boolean)) 3 (some .boolean)) {z : (Int32 × mm_M)} : ∀ (n : Nat) (x1 : Int32) (x2 : Int32) (M : mm_M) (H : Heap) (locs : List Loc) (ls : Array Slot), f_X8_takes_16l n x1 x2 M = some z → wd_in cx_T D cy z0 ad u M X s H locs → lv_has ls 3 [(0, .ref (ad 1)), (1, .int x1), (2, .int x2)] → W p l e { frames := 0, cells := 0, slots := 0, locals := 0 } s m args below meth c H locs 0 0 (MQ below (cq_i cx_T D cy z0 ad u X z.1 z.2) args s 0 0 (fun q => z0 ≤ q)) (F0 m 16 ls []) := by
  intro n
  induction n with
  | zero => intro x1 x2 M H locs ls hf; exact absurd hf (by simp [f_X8_takes_16l])
  | succ n ih => intro x1 x2 M H locs ls hf hw hl; exact k_X8_takes_16 hC ih hf hw hl
set_option maxRecDepth 100000 in
set_option maxHeartbeats 4000000 in
theorem k_X8_takes {p : Program} {l : Launch} {e : Env} {s : State} {m : MethodId} {args : Array Value} {below : List Frame} {meth : Method} {c : Code} {D : va_G} {cy : Nat → ClassId} {z0 : Nat} {ad : Nat → Nat} {X : va_W} {u : Nat × Nat} (hC : cx_C p s m args meth c cX8_takes "RhymedThen$Text" (Cond.code yX8_takes cX8_takes 3 (some .boolean)) 3 (some .boolean)) {z : (Int32 × mm_M)} {x1 : Int32} {M : mm_M} (hf : f_X8_takes x1 M = some z) {H : Heap} {locs : List Loc} (hw : wd_in cx_T D cy z0 ad u M X s H locs) {ls : Array Slot} (hl : lv_has ls 3 [(0, .ref (ad 1)), (1, .int x1)]) : W p l e { frames := 0, cells := 0, slots := 0, locals := 0 } s m args below meth c H locs 0 0 (MQ below (cq_i cx_T D cy z0 ad u X z.1 z.2) args s 0 0 (fun q => z0 ≤ q)) (F0 m 0 ls []) := by
  have hx := hC.1
  have hb := hC.2.1
  unfold f_X8_takes at hf
  refine lv_aload_n hx hb dX8_takes_0 rfl (lv_at hl 0 rfl) ?_
  refine rg_i hC hw 1 (Nat.le_of_ble_eq_true rfl) rfl fd_X8_1 wf_X8_15 dX8_takes_1 ?_
  refine lv_iconst (v := 4) hx hb dX8_takes_4 (by decide) ?_
  refine lv_iadd hx hb dX8_takes_5 ?_
  refine lv_bipush (v := 40) hx hb dX8_takes_6 (by decide) ?_
  refine lv_icmp_le (tgt := 13) hx hb dX8_takes_8 (by decide) (fun c1 => ?_) (fun c1 => ?_)
  · rw [if_pos c1] at hf
    refine lv_bipush (v := 24) hx hb dX8_takes_13 (by decide) ?_
    refine lv_istore_n (lv' := [(2, .int 24), (0, .ref (ad 1)), (1, .int x1)]) hx hb dX8_takes_15 rfl hl (by decide) rfl (fun ls hl => ?_)
    exact k_X8_takes_16l hC fu_ _ _ _ _ _ _ hf hw (lv_sub hl [1, 2, 0] rfl)
  · rw [if_neg c1] at hf
    refine lv_iconst (v := 0) hx hb dX8_takes_11 (by decide) ?_
    have hz := Option.some.inj hf
    subst hz
    exact rtc_z hC hw (Or.inl rfl) dX8_takes_12
set_option maxRecDepth 100000 in
theorem c_X8_takes {l : Launch} {D : va_G} {cy : Nat → ClassId} {z0 : Nat} {ad : Nat → Nat} {u : Nat × Nat} {X : va_W} {z : (Int32 × mm_M)} {x1 : Int32} {M : mm_M} (hf : f_X8_takes x1 M = some z) : ct_i cx_T l yX8_takes (Cond.code yX8_takes cX8_takes 3 (some .boolean)) 0 0 D cy z0 ad u M X [.ref (ad 1), .int x1] z.1 z.2 := by
  refine bgc_i (by decide) (fun p e s m below meth c hC hw => ?_)
  refine en_t (Nat.le_of_ble_eq_true rfl) (fun ls hl => ?_)
  have hl : lv_has ls 3 [(0, .ref (ad 1)), (1, .int x1)] := hl
  exact k_X8_takes hC hf hw hl
set_option maxRecDepth 100000 in
set_option maxHeartbeats 4000000 in
theorem k_X11_sign {p : Program} {l : Launch} {e : Env} {s : State} {m : MethodId} {args : Array Value} {below : List Frame} {meth : Method} {c : Code} {D : va_G} {cy : Nat → ClassId} {z0 : Nat} {ad : Nat → Nat} {X : va_W} {u : Nat × Nat} (hC : cx_C p s m args meth c cX11_sign "RhymedThen" (Cond.code yX11_sign cX11_sign 2 (some .int)) 2 (some .int)) {z : (Int32 × mm_M)} {x1 : Int32} {M : mm_M} (hf : f_X11_sign x1 M = some z) {H : Heap} {locs : List Loc} (hw : wd_in cx_T D cy z0 ad u M X s H locs) {ls : Array Slot} (hl : lv_has ls 2 [(0, .ref (ad 0)), (1, .int x1)]) : W p l e { frames := 1, cells := 0, slots := 0, locals := 22 } s m args below meth c H locs 0 0 (MQ below (cq_i cx_T D cy z0 ad u X z.1 z.2) args s 0 0 (fun q => z0 ≤ q)) (F0 m 0 ls []) := by
  have hx := hC.1
  have hb := hC.2.1
  unfold f_X11_sign at hf
  refine lv_aload_n hx hb dX11_sign_0 rfl (lv_at hl 0 rfl) ?_
  refine rg_p hC hw 0 (Nat.le_of_ble_eq_true rfl) rfl fd_X11_0 wf_X11_10 (q := 1) rfl dX11_sign_1 ?_
  refine lv_iload_n hx hb dX11_sign_4 rfl (lv_at hl 1 rfl) ?_
  obtain ⟨z1, ez1, hf⟩ := bd_e hf
  refine clc_Vi hC hw (c_X8_takes ez1) hd_X8_takes cw_X11_90 (Nat.le_of_ble_eq_true rfl) rfl rfl (rest := []) hl.1 rfl (Nat.le_of_ble_eq_true rfl) ⟨Nat.le_of_ble_eq_true rfl, Nat.le_of_ble_eq_true rfl⟩ ⟨Nat.zero_le _, Nat.zero_le _⟩ rfl dX11_sign_5 (fun H locs hw => ?_)
  refine lv_if_eq (tgt := 21) hx hb dX11_sign_8 (by decide) (fun c2 => ?_) (fun c2 => ?_)
  · rw [if_pos c2] at hf
    refine lv_iconst (v := (-1)) hx hb dX11_sign_21 (by decide) ?_
    have hz := Option.some.inj hf
    subst hz
    exact rtc_i hC hw dX11_sign_22
  · rw [if_neg c2] at hf
    refine lv_aload_n hx hb dX11_sign_11 rfl (lv_at hl 0 rfl) ?_
    refine rg_p hC hw 0 (Nat.le_of_ble_eq_true rfl) rfl fd_X11_0 wf_X11_10 (q := 1) rfl dX11_sign_12 ?_
    refine rg_i hC hw 1 (Nat.le_of_ble_eq_true rfl) rfl fd_X8_1 wf_X11_94 dX11_sign_15 ?_
    refine lv_goto (tgt := 22) hx hb dX11_sign_18 (by decide) ?_
    have hz := Option.some.inj hf
    subst hz
    exact rtc_i hC hw dX11_sign_22
set_option maxRecDepth 100000 in
theorem c_X11_sign {l : Launch} {D : va_G} {cy : Nat → ClassId} {z0 : Nat} {ad : Nat → Nat} {u : Nat × Nat} {X : va_W} {z : (Int32 × mm_M)} {x1 : Int32} {M : mm_M} (hf : f_X11_sign x1 M = some z) : ct_i cx_T l yX11_sign (Cond.code yX11_sign cX11_sign 2 (some .int)) 1 22 D cy z0 ad u M X [.ref (ad 0), .int x1] z.1 z.2 := by
  refine bgc_i (by decide) (fun p e s m below meth c hC hw => ?_)
  refine en_t (Nat.le_of_ble_eq_true rfl) (fun ls hl => ?_)
  have hl : lv_has ls 2 [(0, .ref (ad 0)), (1, .int x1)] := hl
  exact k_X11_sign hC hf hw hl
set_option maxRecDepth 100000 in
set_option maxHeartbeats 4000000 in
theorem k_X8_cutTo {p : Program} {l : Launch} {e : Env} {s : State} {m : MethodId} {args : Array Value} {below : List Frame} {meth : Method} {c : Code} {D : va_G} {cy : Nat → ClassId} {z0 : Nat} {ad : Nat → Nat} {X : va_W} {u : Nat × Nat} (hC : cx_C p s m args meth c cX8_cutTo "RhymedThen$Text" (Cond.code yX8_cutTo cX8_cutTo 2 (some .boolean)) 2 (some .boolean)) {z : (Int32 × mm_M)} {x1 : Int32} {M : mm_M} (hf : f_X8_cutTo x1 M = z) {H : Heap} {locs : List Loc} (hw : wd_in cx_T D cy z0 ad u M X s H locs) {ls : Array Slot} (hl : lv_has ls 2 [(0, .ref (ad 1)), (1, .int x1)]) : W p l e { frames := 0, cells := 0, slots := 0, locals := 0 } s m args below meth c H locs 0 0 (MQ below (cq_i cx_T D cy z0 ad u X z.1 z.2) args s 0 0 (fun q => z0 ≤ q)) (F0 m 0 ls []) := by
  have hx := hC.1
  have hb := hC.2.1
  unfold f_X8_cutTo at hf
  refine lv_iload_n hx hb dX8_cutTo_0 rfl (lv_at hl 1 rfl) ?_
  refine lv_if_lt (tgt := 12) hx hb dX8_cutTo_1 (by decide) (fun c1 => ?_) (fun c1 => ?_)
  · rw [if_pos c1] at hf
    refine lv_iconst (v := 0) hx hb dX8_cutTo_12 (by decide) ?_
    subst hf
    exact rtc_z hC hw (Or.inl rfl) dX8_cutTo_13
  · rw [if_neg c1] at hf
    refine lv_iload_n hx hb dX8_cutTo_4 rfl (lv_at hl 1 rfl) ?_
    refine lv_aload_n hx hb dX8_cutTo_5 rfl (lv_at hl 0 rfl) ?_
    refine rg_i hC hw 1 (Nat.le_of_ble_eq_true rfl) rfl fd_X8_1 wf_X8_15 dX8_cutTo_6 ?_
    refine lv_icmp_le (tgt := 14) hx hb dX8_cutTo_9 (by decide) (fun c2 => ?_) (fun c2 => ?_)
    · rw [if_pos c2] at hf
      refine lv_aload_n hx hb dX8_cutTo_14 rfl (lv_at hl 0 rfl) ?_
      refine lv_iload_n hx hb dX8_cutTo_15 rfl (lv_at hl 1 rfl) ?_
      obtain ⟨M3, eM3, hf⟩ := sq_e hf
      refine rp_i hC hw 1 (Nat.le_of_ble_eq_true rfl) rfl fd_X8_1 wf_X8_15 fp_X8_1 rfl rfl dX8_cutTo_16 eM3 (fun H locs hw => ?_)
      refine lv_iconst (v := 1) hx hb dX8_cutTo_19 (by decide) ?_
      subst hf
      exact rtc_z hC hw (Or.inr rfl) dX8_cutTo_20
    · rw [if_neg c2] at hf
      refine lv_iconst (v := 0) hx hb dX8_cutTo_12 (by decide) ?_
      subst hf
      exact rtc_z hC hw (Or.inl rfl) dX8_cutTo_13
set_option maxRecDepth 100000 in
theorem c_X8_cutTo {l : Launch} {D : va_G} {cy : Nat → ClassId} {z0 : Nat} {ad : Nat → Nat} {u : Nat × Nat} {X : va_W} {z : (Int32 × mm_M)} {x1 : Int32} {M : mm_M} (hf : f_X8_cutTo x1 M = z) : ct_i cx_T l yX8_cutTo (Cond.code yX8_cutTo cX8_cutTo 2 (some .boolean)) 0 0 D cy z0 ad u M X [.ref (ad 1), .int x1] z.1 z.2 := by
  refine bgc_i (by decide) (fun p e s m below meth c hC hw => ?_)
  refine en_t (Nat.le_of_ble_eq_true rfl) (fun ls hl => ?_)
  have hl : lv_has ls 2 [(0, .ref (ad 1)), (1, .int x1)] := hl
  exact k_X8_cutTo hC hf hw hl
set_option maxRecDepth 100000 in
set_option maxHeartbeats 4000000 in
theorem k_X11_end {p : Program} {l : Launch} {e : Env} {s : State} {m : MethodId} {args : Array Value} {below : List Frame} {meth : Method} {c : Code} {D : va_G} {cy : Nat → ClassId} {z0 : Nat} {ad : Nat → Nat} {X : va_W} {u : Nat × Nat} (hC : cx_C p s m args meth c cX11_end "RhymedThen" (Cond.code yX11_end cX11_end 2 (some .boolean)) 2 (some .boolean)) {z : (Int32 × mm_M)} {x1 : Int32} {M : mm_M} (hf : f_X11_end x1 M = z) {H : Heap} {locs : List Loc} (hw : wd_in cx_T D cy z0 ad u M X s H locs) {ls : Array Slot} (hl : lv_has ls 2 [(0, .ref (ad 0)), (1, .int x1)]) : W p l e { frames := 1, cells := 0, slots := 0, locals := 21 } s m args below meth c H locs 0 0 (MQ below (cq_i cx_T D cy z0 ad u X z.1 z.2) args s 0 0 (fun q => z0 ≤ q)) (F0 m 0 ls []) := by
  have hx := hC.1
  have hb := hC.2.1
  unfold f_X11_end at hf
  refine lv_aload_n hx hb dX11_end_0 rfl (lv_at hl 0 rfl) ?_
  refine rg_p hC hw 0 (Nat.le_of_ble_eq_true rfl) rfl fd_X11_0 wf_X11_10 (q := 1) rfl dX11_end_1 ?_
  refine lv_iload_n hx hb dX11_end_4 rfl (lv_at hl 1 rfl) ?_
  obtain ⟨z1, ez1, hf⟩ := sq_e hf
  refine clc_Vi hC hw (c_X8_cutTo ez1.symm) hd_X8_cutTo cw_X11_98 (Nat.le_of_ble_eq_true rfl) rfl rfl (rest := []) hl.1 rfl (Nat.le_of_ble_eq_true rfl) ⟨Nat.le_of_ble_eq_true rfl, Nat.le_of_ble_eq_true rfl⟩ ⟨Nat.zero_le _, Nat.zero_le _⟩ rfl dX11_end_5 (fun H locs hw => ?_)
  subst hf
  exact rtc_z hC hw (bz_X8_cutTo ez1.symm) dX11_end_8
set_option maxRecDepth 100000 in
theorem c_X11_end {l : Launch} {D : va_G} {cy : Nat → ClassId} {z0 : Nat} {ad : Nat → Nat} {u : Nat × Nat} {X : va_W} {z : (Int32 × mm_M)} {x1 : Int32} {M : mm_M} (hf : f_X11_end x1 M = z) : ct_i cx_T l yX11_end (Cond.code yX11_end cX11_end 2 (some .boolean)) 1 21 D cy z0 ad u M X [.ref (ad 0), .int x1] z.1 z.2 := by
  refine bgc_i (by decide) (fun p e s m below meth c hC hw => ?_)
  refine en_t (Nat.le_of_ble_eq_true rfl) (fun ls hl => ?_)
  have hl : lv_has ls 2 [(0, .ref (ad 0)), (1, .int x1)] := hl
  exact k_X11_end hC hf hw hl
set_option maxRecDepth 100000 in
set_option maxHeartbeats 4000000 in
theorem k_X11_isBelow {p : Program} {l : Launch} {e : Env} {s : State} {m : MethodId} {args : Array Value} {below : List Frame} {meth : Method} {c : Code} {T : wd_T} {D : va_G} {cy : Nat → ClassId} {z0 : Nat} {ad : Nat → Nat} {X : va_W} {M : mm_M} {u : Nat × Nat} (hC : cx_C p s m args meth c cX11_isBelow "RhymedThen" (Cond.code yX11_isBelow cX11_isBelow 2 (some .boolean)) 2 (some .boolean)) {z : Int32} {x0 : Int32} {x1 : Int32} (hf : f_X11_isBelow x0 x1 = z) {H : Heap} {locs : List Loc} (hw : wd_in T D cy z0 ad u M X s H locs) {ls : Array Slot} (hl : lv_has ls 2 [(0, .int x0), (1, .int x1)]) : W p l e { frames := 0, cells := 0, slots := 0, locals := 0 } s m args below meth c H locs 0 0 (MQ below (cq_i T D cy z0 ad u X z M) args s 0 0 (fun q => z0 ≤ q)) (F0 m 0 ls []) := by
  have hx := hC.1
  have hb := hC.2.1
  unfold f_X11_isBelow at hf
  refine lv_iload_n hx hb dX11_isBelow_0 rfl (lv_at hl 0 rfl) ?_
  refine lv_if_lt (tgt := 13) hx hb dX11_isBelow_1 (by decide) (fun c1 => ?_) (fun c1 => ?_)
  · rw [if_pos c1] at hf
    refine lv_iconst (v := 0) hx hb dX11_isBelow_13 (by decide) ?_
    subst hf
    exact rtc_z hC hw (Or.inl rfl) dX11_isBelow_14
  · rw [if_neg c1] at hf
    refine lv_iload_n hx hb dX11_isBelow_4 rfl (lv_at hl 0 rfl) ?_
    refine lv_iload_n hx hb dX11_isBelow_5 rfl (lv_at hl 1 rfl) ?_
    refine lv_icmp_ge (tgt := 13) hx hb dX11_isBelow_6 (by decide) (fun c2 => ?_) (fun c2 => ?_)
    · rw [if_pos c2] at hf
      refine lv_iconst (v := 0) hx hb dX11_isBelow_13 (by decide) ?_
      subst hf
      exact rtc_z hC hw (Or.inl rfl) dX11_isBelow_14
    · rw [if_neg c2] at hf
      refine lv_iconst (v := 1) hx hb dX11_isBelow_9 (by decide) ?_
      refine lv_goto (tgt := 14) hx hb dX11_isBelow_10 (by decide) ?_
      subst hf
      exact rtc_z hC hw (Or.inr rfl) dX11_isBelow_14
set_option maxRecDepth 100000 in
theorem c_X11_isBelow {l : Launch} {T : wd_T} {D : va_G} {cy : Nat → ClassId} {z0 : Nat} {ad : Nat → Nat} {u : Nat × Nat} {X : va_W} {z : Int32} {x0 : Int32} {x1 : Int32} {M : mm_M} (hf : f_X11_isBelow x0 x1 = z) : ct_i T l yX11_isBelow (Cond.code yX11_isBelow cX11_isBelow 2 (some .boolean)) 0 0 D cy z0 ad u M X [.int x0, .int x1] z M := by
  refine bgc_i (by decide) (fun p e s m below meth c hC hw => ?_)
  refine en_t (Nat.le_of_ble_eq_true rfl) (fun ls hl => ?_)
  have hl : lv_has ls 2 [(0, .int x0), (1, .int x1)] := hl
  exact k_X11_isBelow hC hf hw hl
set_option maxRecDepth 100000 in
set_option maxHeartbeats 4000000 in
theorem k_X8_isSound {p : Program} {l : Launch} {e : Env} {s : State} {m : MethodId} {args : Array Value} {below : List Frame} {meth : Method} {c : Code} {T : wd_T} {D : va_G} {cy : Nat → ClassId} {z0 : Nat} {ad : Nat → Nat} {X : va_W} {M : mm_M} {u : Nat × Nat} (hC : cx_C p s m args meth c cX8_isSound "RhymedThen$Text" (Cond.code yX8_isSound cX8_isSound 1 (some .boolean)) 1 (some .boolean)) {z : Int32} {x0 : Int32} (hf : f_X8_isSound x0 = z) {H : Heap} {locs : List Loc} (hw : wd_in T D cy z0 ad u M X s H locs) {ls : Array Slot} (hl : lv_has ls 1 [(0, .int x0)]) : W p l e { frames := 0, cells := 0, slots := 0, locals := 0 } s m args below meth c H locs 0 0 (MQ below (cq_i T D cy z0 ad u X z M) args s 0 0 (fun q => z0 ≤ q)) (F0 m 0 ls []) := by
  have hx := hC.1
  have hb := hC.2.1
  unfold f_X8_isSound at hf
  refine lv_iload_n hx hb dX8_isSound_0 rfl (lv_at hl 0 rfl) ?_
  refine lv_bipush (v := 97) hx hb dX8_isSound_1 (by decide) ?_
  refine lv_icmp_lt (tgt := 16) hx hb dX8_isSound_3 (by decide) (fun c1 => ?_) (fun c1 => ?_)
  · rw [if_pos c1] at hf
    refine lv_iconst (v := 0) hx hb dX8_isSound_16 (by decide) ?_
    subst hf
    exact rtc_z hC hw (Or.inl rfl) dX8_isSound_17
  · rw [if_neg c1] at hf
    refine lv_iload_n hx hb dX8_isSound_6 rfl (lv_at hl 0 rfl) ?_
    refine lv_bipush (v := 112) hx hb dX8_isSound_7 (by decide) ?_
    refine lv_icmp_gt (tgt := 16) hx hb dX8_isSound_9 (by decide) (fun c2 => ?_) (fun c2 => ?_)
    · rw [if_pos c2] at hf
      refine lv_iconst (v := 0) hx hb dX8_isSound_16 (by decide) ?_
      subst hf
      exact rtc_z hC hw (Or.inl rfl) dX8_isSound_17
    · rw [if_neg c2] at hf
      refine lv_iconst (v := 1) hx hb dX8_isSound_12 (by decide) ?_
      refine lv_goto (tgt := 17) hx hb dX8_isSound_13 (by decide) ?_
      subst hf
      exact rtc_z hC hw (Or.inr rfl) dX8_isSound_17
set_option maxRecDepth 100000 in
theorem c_X8_isSound {l : Launch} {T : wd_T} {D : va_G} {cy : Nat → ClassId} {z0 : Nat} {ad : Nat → Nat} {u : Nat × Nat} {X : va_W} {z : Int32} {x0 : Int32} {M : mm_M} (hf : f_X8_isSound x0 = z) : ct_i T l yX8_isSound (Cond.code yX8_isSound cX8_isSound 1 (some .boolean)) 0 0 D cy z0 ad u M X [.int x0] z M := by
  refine bgc_i (by decide) (fun p e s m below meth c hC hw => ?_)
  refine en_t (Nat.le_of_ble_eq_true rfl) (fun ls hl => ?_)
  have hl : lv_has ls 1 [(0, .int x0)] := hl
  exact k_X8_isSound hC hf hw hl
set_option maxRecDepth 100000 in
set_option maxHeartbeats 4000000 in
theorem k_X2_setOf {p : Program} {l : Launch} {e : Env} {s : State} {m : MethodId} {args : Array Value} {below : List Frame} {meth : Method} {c : Code} {D : va_G} {cy : Nat → ClassId} {z0 : Nat} {ad : Nat → Nat} {X : va_W} {u : Nat × Nat} (hC : cx_C p s m args meth c cX2_setOf "RhymedThen$Law" (Cond.code yX2_setOf cX2_setOf 3 (some .int)) 3 (some .int)) {z : Int32} {x0 : Int32} {M : mm_M} (hf : f_X2_setOf x0 M = some z) {H : Heap} {locs : List Loc} (hw : wd_in cx_T D cy z0 ad u M X s H locs) {ls : Array Slot} (hl : lv_has ls 3 [(0, .int x0), (1, .ref (ad 7))]) : W p l e { frames := 1, cells := 0, slots := 0, locals := 21 } s m args below meth c H locs 0 0 (MQ below (cq_i cx_T D cy z0 ad u X z M) args s 0 0 (fun q => z0 ≤ q)) (F0 m 0 ls []) := by
  have hx := hC.1
  have hb := hC.2.1
  unfold f_X2_setOf at hf
  refine lv_iload_n hx hb dX2_setOf_0 rfl (lv_at hl 0 rfl) ?_
  refine lv_iconst (v := (-1)) hx hb dX2_setOf_1 (by decide) ?_
  refine lv_icmp_ne (tgt := 8) hx hb dX2_setOf_2 (by decide) (fun c1 => ?_) (fun c1 => ?_)
  · rw [if_neg c1] at hf
    refine lv_iload_n hx hb dX2_setOf_8 rfl (lv_at hl 0 rfl) ?_
    refine lv_bipush (v := 35) hx hb dX2_setOf_9 (by decide) ?_
    refine lv_icmp_ne (tgt := 17) hx hb dX2_setOf_11 (by decide) (fun c2 => ?_) (fun c2 => ?_)
    · rw [if_neg c2] at hf
      refine lv_iload_n hx hb dX2_setOf_17 rfl (lv_at hl 0 rfl) ?_
      obtain ⟨z3, ez3, hf⟩ := sq_e hf
      refine clc_Si hC hw (c_X8_isSound ez3.symm) hd_X8_isSound cw_X2_26 (rest := []) hl.1 rfl (Nat.le_of_ble_eq_true rfl) ⟨Nat.le_of_ble_eq_true rfl, Nat.le_of_ble_eq_true rfl⟩ ⟨Nat.zero_le _, Nat.zero_le _⟩ rfl dX2_setOf_18 (fun H locs hw => ?_)
      refine lv_if_eq (tgt := 31) hx hb dX2_setOf_21 (by decide) (fun c4 => ?_) (fun c4 => ?_)
      · rw [if_pos c4] at hf
        refine lv_iload_n hx hb dX2_setOf_31 rfl (lv_at hl 0 rfl) ?_
        refine lv_bipush (v := 65) hx hb dX2_setOf_32 (by decide) ?_
        refine lv_isub hx hb dX2_setOf_34 ?_
        obtain ⟨y5, ey5, hf⟩ := sq_e hf
        refine lt_i ey5 ?_
        refine lv_istore_n (lv' := [(2, .int y5), (0, .int x0), (1, .ref (ad 7))]) hx hb dX2_setOf_35 rfl hl (by decide) rfl (fun ls hl => ?_)
        refine lv_iload_n hx hb dX2_setOf_36 rfl (lv_at hl 0 rfl) ?_
        refine lv_aload_n hx hb dX2_setOf_37 rfl (lv_at hl 2 rfl) ?_
        refine rn_i hC hw 7 (Nat.le_of_ble_eq_true rfl) rfl (v := 6) rfl dX2_setOf_38 ?_
        obtain ⟨z6, ez6, hf⟩ := sq_e hf
        refine cl_NS hC hw (c_X11_isBelow ez6.symm) (rest := []) hl.1 rfl (Nat.le_of_ble_eq_true rfl) ⟨Nat.le_of_ble_eq_true rfl, Nat.le_of_ble_eq_true rfl⟩ ⟨Nat.zero_le _, Nat.zero_le _⟩ rfl dX2_setOf_39 (fun H locs hw => ?_)
        refine lv_if_eq (tgt := 51) hx hb dX2_setOf_42 (by decide) (fun c7 => ?_) (fun c7 => ?_)
        · rw [if_pos c7] at hf
          refine lv_iconst (v := 0) hx hb dX2_setOf_51 (by decide) ?_
          have hz := Option.some.inj hf
          subst hz
          exact rtc_i hC hw dX2_setOf_52
        · rw [if_neg c7] at hf
          refine lv_aload_n hx hb dX2_setOf_45 rfl (lv_at hl 2 rfl) ?_
          refine lv_iload_n hx hb dX2_setOf_46 rfl (lv_at hl 0 rfl) ?_
          obtain ⟨h8, hf⟩ := ck_e hf
          refine ra_i hC hw 7 (Nat.le_of_ble_eq_true rfl) rfl h8 dX2_setOf_47 ?_
          refine lv_goto (tgt := 52) hx hb dX2_setOf_48 (by decide) ?_
          have hz := Option.some.inj hf
          subst hz
          exact rtc_i hC hw dX2_setOf_52
      · rw [if_neg c4] at hf
        refine lv_iconst (v := 1) hx hb dX2_setOf_24 (by decide) ?_
        refine lv_iload_n hx hb dX2_setOf_25 rfl (lv_at hl 0 rfl) ?_
        refine lv_bipush (v := 97) hx hb dX2_setOf_26 (by decide) ?_
        refine lv_isub hx hb dX2_setOf_28 ?_
        refine lv_ishl hx hb dX2_setOf_29 ?_
        have hz := Option.some.inj hf
        subst hz
        exact rtc_i hC hw dX2_setOf_30
    · rw [if_pos c2] at hf
      refine lv_ldc (v := 65536) hx hb hC.2.2.2.1 (hC.t wk_X2_59) dX2_setOf_14 ?_
      have hz := Option.some.inj hf
      subst hz
      exact rtc_i hC hw dX2_setOf_16
  · rw [if_pos c1] at hf
    refine lv_ldc (v := 131071) hx hb hC.2.2.2.1 (hC.t wk_X2_58) dX2_setOf_5 ?_
    have hz := Option.some.inj hf
    subst hz
    exact rtc_i hC hw dX2_setOf_7
set_option maxRecDepth 100000 in
theorem c_X2_setOf {l : Launch} {D : va_G} {cy : Nat → ClassId} {z0 : Nat} {ad : Nat → Nat} {u : Nat × Nat} {X : va_W} {z : Int32} {x0 : Int32} {M : mm_M} (hf : f_X2_setOf x0 M = some z) : ct_i cx_T l yX2_setOf (Cond.code yX2_setOf cX2_setOf 3 (some .int)) 1 21 D cy z0 ad u M X [.int x0, .ref (ad 7)] z M := by
  refine bgc_i (by decide) (fun p e s m below meth c hC hw => ?_)
  refine en_t (Nat.le_of_ble_eq_true rfl) (fun ls hl => ?_)
  have hl : lv_has ls 3 [(0, .int x0), (1, .ref (ad 7))] := hl
  exact k_X2_setOf hC hf hw hl
set_option maxRecDepth 100000 in
set_option maxHeartbeats 4000000 in
theorem k_X2_tune {p : Program} {l : Launch} {e : Env} {s : State} {m : MethodId} {args : Array Value} {below : List Frame} {meth : Method} {c : Code} {D : va_G} {cy : Nat → ClassId} {z0 : Nat} {ad : Nat → Nat} {X : va_W} {u : Nat × Nat} (hC : cx_C p s m args meth c cX2_tune "RhymedThen$Law" (Cond.code yX2_tune cX2_tune 2 none) 2 none) {z : mm_M} {k0 : Nat} {M : mm_M} (hk0 : lw_ok k0) (hf : f_X2_tune k0 M = some z) {H : Heap} {locs : List Loc} (hw : wd_in cx_T D cy z0 ad u M X s H locs) {ls : Array Slot} (hl : lv_has ls 2 [(0, .ref (ad k0)), (1, .ref (ad 7))]) : W p l e { frames := 2, cells := 0, slots := 0, locals := 43 } s m args below meth c H locs 0 0 (MQ below (cq_v cx_T D cy z0 ad u X z) args s 0 0 (fun q => z0 ≤ q)) (F0 m 0 ls []) := by
  have hx := hC.1
  have hb := hC.2.1
  unfold f_X2_tune at hf
  refine lv_aload_n hx hb dX2_tune_0 rfl (lv_at hl 0 rfl) ?_
  refine lv_aload_n hx hb dX2_tune_1 rfl (lv_at hl 0 rfl) ?_
  refine rg_i hC hw k0 (lw_lt hk0) (lw_kd hk0) fd_X2_0 wf_X2_15 dX2_tune_2 ?_
  refine lv_aload_n hx hb dX2_tune_5 rfl (lv_at hl 1 rfl) ?_
  obtain ⟨z1, ez1, hf⟩ := bd_e hf
  refine clc_Si hC hw (c_X2_setOf ez1) hd_X2_setOf cw_X2_45 (rest := [.ref (ad k0)]) hl.1 rfl (Nat.le_of_ble_eq_true rfl) ⟨Nat.le_of_ble_eq_true rfl, Nat.le_of_ble_eq_true rfl⟩ ⟨Nat.zero_le _, Nat.zero_le _⟩ rfl dX2_tune_6 (fun H locs hw => ?_)
  obtain ⟨M2, eM2, hf⟩ := sq_e hf
  refine rp_i hC hw k0 (lw_lt hk0) (lw_kd hk0) fd_X2_4 wf_X2_49 fp_X2_4 rfl rfl dX2_tune_9 eM2 (fun H locs hw => ?_)
  refine lv_aload_n hx hb dX2_tune_12 rfl (lv_at hl 0 rfl) ?_
  refine lv_aload_n hx hb dX2_tune_13 rfl (lv_at hl 0 rfl) ?_
  refine rg_i hC hw k0 (lw_lt hk0) (lw_kd hk0) fd_X2_1 wf_X2_29 dX2_tune_14 ?_
  refine lv_aload_n hx hb dX2_tune_17 rfl (lv_at hl 1 rfl) ?_
  obtain ⟨z3, ez3, hf⟩ := bd_e hf
  refine clc_Si hC hw (c_X2_setOf ez3) hd_X2_setOf cw_X2_45 (rest := [.ref (ad k0)]) hl.1 rfl (Nat.le_of_ble_eq_true rfl) ⟨Nat.le_of_ble_eq_true rfl, Nat.le_of_ble_eq_true rfl⟩ ⟨Nat.zero_le _, Nat.zero_le _⟩ rfl dX2_tune_18 (fun H locs hw => ?_)
  obtain ⟨M4, eM4, hf⟩ := sq_e hf
  refine rp_i hC hw k0 (lw_lt hk0) (lw_kd hk0) fd_X2_5 wf_X2_52 fp_X2_5 rfl rfl dX2_tune_21 eM4 (fun H locs hw => ?_)
  refine lv_aload_n hx hb dX2_tune_24 rfl (lv_at hl 0 rfl) ?_
  refine lv_aload_n hx hb dX2_tune_25 rfl (lv_at hl 0 rfl) ?_
  refine rg_i hC hw k0 (lw_lt hk0) (lw_kd hk0) fd_X2_2 wf_X2_32 dX2_tune_26 ?_
  refine lv_aload_n hx hb dX2_tune_29 rfl (lv_at hl 1 rfl) ?_
  obtain ⟨z5, ez5, hf⟩ := bd_e hf
  refine clc_Si hC hw (c_X2_setOf ez5) hd_X2_setOf cw_X2_45 (rest := [.ref (ad k0)]) hl.1 rfl (Nat.le_of_ble_eq_true rfl) ⟨Nat.le_of_ble_eq_true rfl, Nat.le_of_ble_eq_true rfl⟩ ⟨Nat.zero_le _, Nat.zero_le _⟩ rfl dX2_tune_30 (fun H locs hw => ?_)
  obtain ⟨M6, eM6, hf⟩ := sq_e hf
  refine rp_i hC hw k0 (lw_lt hk0) (lw_kd hk0) fd_X2_6 wf_X2_55 fp_X2_6 rfl rfl dX2_tune_33 eM6 (fun H locs hw => ?_)
  have hz := Option.some.inj hf
  subst hz
  exact rtc_v hC hw dX2_tune_36
set_option maxRecDepth 100000 in
theorem c_X2_tune {l : Launch} {D : va_G} {cy : Nat → ClassId} {z0 : Nat} {ad : Nat → Nat} {u : Nat × Nat} {X : va_W} {z : mm_M} {k0 : Nat} {M : mm_M} (hk0 : lw_ok k0) (hf : f_X2_tune k0 M = some z) : ct_v cx_T l yX2_tune (Cond.code yX2_tune cX2_tune 2 none) 2 43 D cy z0 ad u M X [.ref (ad k0), .ref (ad 7)] z := by
  refine bgc_v (by decide) (fun p e s m below meth c hC hw => ?_)
  refine en_t (Nat.le_of_ble_eq_true rfl) (fun ls hl => ?_)
  have hl : lv_has ls 2 [(0, .ref (ad k0)), (1, .ref (ad 7))] := hl
  exact k_X2_tune hC hk0 hf hw hl
set_option maxRecDepth 100000 in
set_option maxHeartbeats 4000000 in
theorem k_X9_forgetCourses_28 {p : Program} {l : Launch} {e : Env} {s : State} {m : MethodId} {args : Array Value} {below : List Frame} {meth : Method} {c : Code} {D : va_G} {cy : Nat → ClassId} {z0 : Nat} {ad : Nat → Nat} {X : va_W} {u : Nat × Nat} (hC : cx_C p s m args meth c cX9_forgetCourses "RhymedThen$Tongue" (Cond.code yX9_forgetCourses cX9_forgetCourses 3 none) 3 none) {z : mm_M} {M : mm_M} (hf : f_X9_forgetCourses_28 M = some z) {H : Heap} {locs : List Loc} (hw : wd_in cx_T D cy z0 ad u M X s H locs) {ls : Array Slot} (hl : lv_has ls 3 [(0, .ref (ad 5))]) : W p l e { frames := 0, cells := 0, slots := 0, locals := 0 } s m args below meth c H locs 0 0 (MQ below (cq_v cx_T D cy z0 ad u X z) args s 0 0 (fun q => z0 ≤ q)) (F0 m 28 ls []) := by
  have hx := hC.1
  have hb := hC.2.1
  unfold f_X9_forgetCourses_28 at hf
  refine lv_aload_n hx hb dX9_forgetCourses_28 rfl (lv_at hl 0 rfl) ?_
  refine lv_iconst (v := 1) hx hb dX9_forgetCourses_29 (by decide) ?_
  obtain ⟨M6, eM6, hf⟩ := sq_e hf
  refine rp_i hC hw 5 (Nat.le_of_ble_eq_true rfl) rfl fd_X9_4 wf_X9_28 fp_X9_4 rfl rfl dX9_forgetCourses_30 eM6 (fun H locs hw => ?_)
  have hz := Option.some.inj hf
  subst hz
  exact rtc_v hC hw dX9_forgetCourses_33
set_option maxRecDepth 100000 in
set_option maxHeartbeats 4000000 in
theorem k_X9_forgetCourses_10 {p : Program} {l : Launch} {e : Env} {s : State} {m : MethodId} {args : Array Value} {below : List Frame} {meth : Method} {c : Code} {D : va_G} {cy : Nat → ClassId} {z0 : Nat} {ad : Nat → Nat} {X : va_W} {u : Nat × Nat} (hC : cx_C p s m args meth c cX9_forgetCourses "RhymedThen$Tongue" (Cond.code yX9_forgetCourses cX9_forgetCourses 3 none) 3 none) {z : mm_M} {x1 : Int32} {x2 : Int32} {M : mm_M} {q10 : Int32 → Int32 → mm_M → Option mm_M} (hq10 : ∀ (x1 : Int32) (x2 : Int32) (M : mm_M) (H : Heap) (locs : List Loc) (ls : Array Slot), q10 x1 x2 M = some z → wd_in cx_T D cy z0 ad u M X s H locs → lv_has ls 3 [(0, .ref (ad 5)), (1, .int x1), (2, .int x2)] → W p l e { frames := 0, cells := 0, slots := 0, locals := 0 } s m args below meth c H locs 0 0 (MQ below (cq_v cx_T D cy z0 ad u X z) args s 0 0 (fun q => z0 ≤ q)) (F0 m 10 ls [])) (hf : f_X9_forgetCourses_10 q10 x1 x2 M = some z) {H : Heap} {locs : List Loc} (hw : wd_in cx_T D cy z0 ad u M X s H locs) {ls : Array Slot} (hl : lv_has ls 3 [(0, .ref (ad 5)), (1, .int x1), (2, .int x2)]) : W p l e { frames := 0, cells := 0, slots := 0, locals := 0 } s m args below meth c H locs 0 0 (MQ below (cq_v cx_T D cy z0 ad u X z) args s 0 0 (fun q => z0 ≤ q)) (F0 m 10 ls []) := by
  have hx := hC.1
  have hb := hC.2.1
  unfold f_X9_forgetCourses_10 at hf
  refine lv_iload_n hx hb dX9_forgetCourses_10 rfl (lv_at hl 2 rfl) ?_
  refine lv_iload_n hx hb dX9_forgetCourses_11 rfl (lv_at hl 1 rfl) ?_
  refine lv_icmp_ge (tgt := 28) hx hb dX9_forgetCourses_12 (by decide) (fun c2 => ?_) (fun c2 => ?_)
  · rw [if_pos c2] at hf
    exact k_X9_forgetCourses_28 hC hf hw (lv_sub hl [0] rfl)
  · rw [if_neg c2] at hf
    refine lv_aload_n hx hb dX9_forgetCourses_15 rfl (lv_at hl 0 rfl) ?_
    refine rg_8 hC hw 5 (Nat.le_of_ble_eq_true rfl) rfl fd_X9_5 wf_X9_31 dX9_forgetCourses_16 ?_
    refine lv_iload_n hx hb dX9_forgetCourses_19 rfl (lv_at hl 2 rfl) ?_
    refine lv_iconst (v := 0) hx hb dX9_forgetCourses_20 (by decide) ?_
    obtain ⟨h3, hf⟩ := ck_e hf
    obtain ⟨M4, eM4, hf⟩ := sq_e hf
    refine rg_s8 hC hw rfl (n := 70) rfl h3 dX9_forgetCourses_21 eM4 (fun H locs hw => ?_)
    obtain ⟨y5, ey5, hf⟩ := sq_e hf
    refine lv_iinc (v := y5) (lv' := [(2, .int y5), (0, .ref (ad 5)), (1, .int x1)]) hx hb dX9_forgetCourses_22 hl (k := 2) rfl (by rw [ey5]; rfl) (by decide) rfl (fun ls hl => ?_)
    refine lv_goto (tgt := 10) hx hb dX9_forgetCourses_25 (by decide) ?_
    exact hq10 _ _ _ _ _ _ hf hw (lv_sub hl [1, 2, 0] rfl)
set_option maxRecDepth 100000 in
set_option maxHeartbeats 4000000 in
theorem k_X9_forgetCourses_10l {p : Program} {l : Launch} {e : Env} {s : State} {m : MethodId} {args : Array Value} {below : List Frame} {meth : Method} {c : Code} {D : va_G} {cy : Nat → ClassId} {z0 : Nat} {ad : Nat → Nat} {X : va_W} {u : Nat × Nat} (hC : cx_C p s m args meth c cX9_forgetCourses "RhymedThen$Tongue" (Cond.code yX9_forgetCourses cX9_forgetCourses 3 none) 3 none) {z : mm_M} : ∀ (n : Nat) (x1 : Int32) (x2 : Int32) (M : mm_M) (H : Heap) (locs : List Loc) (ls : Array Slot), f_X9_forgetCourses_10l n x1 x2 M = some z → wd_in cx_T D cy z0 ad u M X s H locs → lv_has ls 3 [(0, .ref (ad 5)), (1, .int x1), (2, .int x2)] → W p l e { frames := 0, cells := 0, slots := 0, locals := 0 } s m args below meth c H locs 0 0 (MQ below (cq_v cx_T D cy z0 ad u X z) args s 0 0 (fun q => z0 ≤ q)) (F0 m 10 ls []) := by
  intro n
  induction n with
  | zero => intro x1 x2 M H locs ls hf; exact absurd hf (by simp [f_X9_forgetCourses_10l])
  | succ n ih => intro x1 x2 M H locs ls hf hw hl; exact k_X9_forgetCourses_10 hC ih hf hw hl
set_option maxRecDepth 100000 in
set_option maxHeartbeats 4000000 in
theorem k_X9_forgetCourses {p : Program} {l : Launch} {e : Env} {s : State} {m : MethodId} {args : Array Value} {below : List Frame} {meth : Method} {c : Code} {D : va_G} {cy : Nat → ClassId} {z0 : Nat} {ad : Nat → Nat} {X : va_W} {u : Nat × Nat} (hC : cx_C p s m args meth c cX9_forgetCourses "RhymedThen$Tongue" (Cond.code yX9_forgetCourses cX9_forgetCourses 3 none) 3 none) {z : mm_M} {M : mm_M} (hf : f_X9_forgetCourses M = some z) {H : Heap} {locs : List Loc} (hw : wd_in cx_T D cy z0 ad u M X s H locs) {ls : Array Slot} (hl : lv_has ls 3 [(0, .ref (ad 5))]) : W p l e { frames := 0, cells := 0, slots := 0, locals := 0 } s m args below meth c H locs 0 0 (MQ below (cq_v cx_T D cy z0 ad u X z) args s 0 0 (fun q => z0 ≤ q)) (F0 m 0 ls []) := by
  have hx := hC.1
  have hb := hC.2.1
  unfold f_X9_forgetCourses at hf
  refine lv_aload_n hx hb dX9_forgetCourses_0 rfl (lv_at hl 0 rfl) ?_
  refine rg_i hC hw 5 (Nat.le_of_ble_eq_true rfl) rfl fd_X9_4 wf_X9_28 dX9_forgetCourses_1 ?_
  refine lv_bipush (v := 6) hx hb dX9_forgetCourses_4 (by decide) ?_
  refine lv_imul hx hb dX9_forgetCourses_6 ?_
  obtain ⟨y1, ey1, hf⟩ := sq_e hf
  refine lt_i ey1 ?_
  refine lv_istore_n (lv' := [(1, .int y1), (0, .ref (ad 5))]) hx hb dX9_forgetCourses_7 rfl hl (by decide) rfl (fun ls hl => ?_)
  refine lv_iconst (v := 0) hx hb dX9_forgetCourses_8 (by decide) ?_
  refine lv_istore_n (lv' := [(2, .int 0), (1, .int y1), (0, .ref (ad 5))]) hx hb dX9_forgetCourses_9 rfl hl (by decide) rfl (fun ls hl => ?_)
  exact k_X9_forgetCourses_10l hC fu_ _ _ _ _ _ _ hf hw (lv_sub hl [2, 1, 0] rfl)
set_option maxRecDepth 100000 in
theorem c_X9_forgetCourses {l : Launch} {D : va_G} {cy : Nat → ClassId} {z0 : Nat} {ad : Nat → Nat} {u : Nat × Nat} {X : va_W} {z : mm_M} {M : mm_M} (hf : f_X9_forgetCourses M = some z) : ct_v cx_T l yX9_forgetCourses (Cond.code yX9_forgetCourses cX9_forgetCourses 3 none) 0 0 D cy z0 ad u M X [.ref (ad 5)] z := by
  refine bgc_v (by decide) (fun p e s m below meth c hC hw => ?_)
  refine en_t (Nat.le_of_ble_eq_true rfl) (fun ls hl => ?_)
  have hl : lv_has ls 3 [(0, .ref (ad 5))] := hl
  exact k_X9_forgetCourses hC hf hw hl
set_option maxRecDepth 100000 in
set_option maxHeartbeats 4000000 in
theorem k_X9_setClass_36 {p : Program} {l : Launch} {e : Env} {s : State} {m : MethodId} {args : Array Value} {below : List Frame} {meth : Method} {c : Code} {D : va_G} {cy : Nat → ClassId} {z0 : Nat} {ad : Nat → Nat} {X : va_W} {u : Nat × Nat} (hC : cx_C p s m args meth c cX9_setClass "RhymedThen$Tongue" (Cond.code yX9_setClass cX9_setClass 4 none) 4 none) {z : mm_M} {M : mm_M} (hf : f_X9_setClass_36 M = some z) {H : Heap} {locs : List Loc} (hw : wd_in cx_T D cy z0 ad u M X s H locs) {ls : Array Slot} (hl : lv_has ls 4 [(0, .ref (ad 5))]) : W p l e { frames := 3, cells := 0, slots := 0, locals := 64 } s m args below meth c H locs 0 0 (MQ below (cq_v cx_T D cy z0 ad u X z) args s 0 0 (fun q => z0 ≤ q)) (F0 m 36 ls []) := by
  have hx := hC.1
  have hb := hC.2.1
  unfold f_X9_setClass_36 at hf
  refine lv_aload_n hx hb dX9_setClass_36 rfl (lv_at hl 0 rfl) ?_
  obtain ⟨z7, ez7, hf⟩ := bd_e hf
  refine clc_Vv hC hw (c_X9_forgetCourses ez7) hd_X9_forgetCourses cw_X9_43 (Nat.le_of_ble_eq_true rfl) rfl rfl (rest := []) hl.1 rfl (Nat.le_of_ble_eq_true rfl) ⟨Nat.le_of_ble_eq_true rfl, Nat.le_of_ble_eq_true rfl⟩ ⟨Nat.zero_le _, Nat.zero_le _⟩ rfl dX9_setClass_37 (fun H locs hw => ?_)
  have hz := Option.some.inj hf
  subst hz
  exact rtc_v hC hw dX9_setClass_40
set_option maxRecDepth 100000 in
set_option maxHeartbeats 4000000 in
theorem k_X9_setClass_9 {p : Program} {l : Launch} {e : Env} {s : State} {m : MethodId} {args : Array Value} {below : List Frame} {meth : Method} {c : Code} {D : va_G} {cy : Nat → ClassId} {z0 : Nat} {ad : Nat → Nat} {X : va_W} {u : Nat × Nat} (hC : cx_C p s m args meth c cX9_setClass "RhymedThen$Tongue" (Cond.code yX9_setClass cX9_setClass 4 none) 4 none) {z : mm_M} {x3 : Int32} {M : mm_M} {q9 : Int32 → mm_M → Option mm_M} (hq9 : ∀ (x3 : Int32) (M : mm_M) (H : Heap) (locs : List Loc) (ls : Array Slot), q9 x3 M = some z → wd_in cx_T D cy z0 ad u M X s H locs → lv_has ls 4 [(0, .ref (ad 5)), (3, .int x3)] → W p l e { frames := 3, cells := 0, slots := 0, locals := 64 } s m args below meth c H locs 0 0 (MQ below (cq_v cx_T D cy z0 ad u X z) args s 0 0 (fun q => z0 ≤ q)) (F0 m 9 ls [])) (hf : f_X9_setClass_9 q9 x3 M = some z) {H : Heap} {locs : List Loc} (hw : wd_in cx_T D cy z0 ad u M X s H locs) {ls : Array Slot} (hl : lv_has ls 4 [(0, .ref (ad 5)), (3, .int x3)]) : W p l e { frames := 3, cells := 0, slots := 0, locals := 64 } s m args below meth c H locs 0 0 (MQ below (cq_v cx_T D cy z0 ad u X z) args s 0 0 (fun q => z0 ≤ q)) (F0 m 9 ls []) := by
  have hx := hC.1
  have hb := hC.2.1
  unfold f_X9_setClass_9 at hf
  refine lv_iload_n hx hb dX9_setClass_9 rfl (lv_at hl 1 rfl) ?_
  refine lv_aload_n hx hb dX9_setClass_10 rfl (lv_at hl 0 rfl) ?_
  refine rg_i hC hw 5 (Nat.le_of_ble_eq_true rfl) rfl fd_X9_1 wf_X9_17 dX9_setClass_11 ?_
  refine lv_icmp_ge (tgt := 36) hx hb dX9_setClass_14 (by decide) (fun c3 => ?_) (fun c3 => ?_)
  · rw [if_pos c3] at hf
    exact k_X9_setClass_36 hC hf hw (lv_sub hl [0] rfl)
  · rw [if_neg c3] at hf
    refine lv_aload_n hx hb dX9_setClass_17 rfl (lv_at hl 0 rfl) ?_
    refine rg_p hC hw 5 (Nat.le_of_ble_eq_true rfl) rfl fd_X9_0 wf_X9_11 (q := 6) rfl dX9_setClass_18 ?_
    refine lv_iload_n hx hb dX9_setClass_21 rfl (lv_at hl 1 rfl) ?_
    obtain ⟨h4, hf⟩ := ck_e hf
    refine ra_L hC hw 6 (Nat.le_of_ble_eq_true rfl) rfl h4 dX9_setClass_22 ?_
    refine lv_aload_n hx hb dX9_setClass_23 rfl (lv_at hl 0 rfl) ?_
    refine rg_p hC hw 5 (Nat.le_of_ble_eq_true rfl) rfl fd_X9_3 wf_X9_24 (q := 7) rfl dX9_setClass_24 ?_
    obtain ⟨z5, ez5, hf⟩ := bd_e hf
    refine clc_Vv hC hw (c_X2_tune (lw_ix h4) ez5) hd_X2_tune cw_X9_39 (lw_lt (lw_ix h4)) (lw_kd (lw_ix h4)) rfl (rest := []) hl.1 rfl (Nat.le_of_ble_eq_true rfl) ⟨Nat.le_of_ble_eq_true rfl, Nat.le_of_ble_eq_true rfl⟩ ⟨Nat.zero_le _, Nat.zero_le _⟩ rfl dX9_setClass_27 (fun H locs hw => ?_)
    obtain ⟨y6, ey6, hf⟩ := sq_e hf
    refine lv_iinc (v := y6) (lv' := [(3, .int y6), (0, .ref (ad 5))]) hx hb dX9_setClass_30 hl (k := 1) rfl (by rw [ey6]; rfl) (by decide) rfl (fun ls hl => ?_)
    refine lv_goto (tgt := 9) hx hb dX9_setClass_33 (by decide) ?_
    exact hq9 _ _ _ _ _ hf hw (lv_sub hl [1, 0] rfl)
set_option maxRecDepth 100000 in
set_option maxHeartbeats 4000000 in
theorem k_X9_setClass_9l {p : Program} {l : Launch} {e : Env} {s : State} {m : MethodId} {args : Array Value} {below : List Frame} {meth : Method} {c : Code} {D : va_G} {cy : Nat → ClassId} {z0 : Nat} {ad : Nat → Nat} {X : va_W} {u : Nat × Nat} (hC : cx_C p s m args meth c cX9_setClass "RhymedThen$Tongue" (Cond.code yX9_setClass cX9_setClass 4 none) 4 none) {z : mm_M} : ∀ (n : Nat) (x3 : Int32) (M : mm_M) (H : Heap) (locs : List Loc) (ls : Array Slot), f_X9_setClass_9l n x3 M = some z → wd_in cx_T D cy z0 ad u M X s H locs → lv_has ls 4 [(0, .ref (ad 5)), (3, .int x3)] → W p l e { frames := 3, cells := 0, slots := 0, locals := 64 } s m args below meth c H locs 0 0 (MQ below (cq_v cx_T D cy z0 ad u X z) args s 0 0 (fun q => z0 ≤ q)) (F0 m 9 ls []) := by
  intro n
  induction n with
  | zero => intro x3 M H locs ls hf; exact absurd hf (by simp [f_X9_setClass_9l])
  | succ n ih => intro x3 M H locs ls hf hw hl; exact k_X9_setClass_9 hC ih hf hw hl
set_option maxRecDepth 100000 in
set_option maxHeartbeats 4000000 in
theorem k_X9_setClass {p : Program} {l : Launch} {e : Env} {s : State} {m : MethodId} {args : Array Value} {below : List Frame} {meth : Method} {c : Code} {D : va_G} {cy : Nat → ClassId} {z0 : Nat} {ad : Nat → Nat} {X : va_W} {u : Nat × Nat} (hC : cx_C p s m args meth c cX9_setClass "RhymedThen$Tongue" (Cond.code yX9_setClass cX9_setClass 4 none) 4 none) {z : mm_M} {x1 : Int32} {x2 : Int32} {M : mm_M} (hf : f_X9_setClass x1 x2 M = some z) {H : Heap} {locs : List Loc} (hw : wd_in cx_T D cy z0 ad u M X s H locs) {ls : Array Slot} (hl : lv_has ls 4 [(0, .ref (ad 5)), (1, .int x1), (2, .int x2)]) : W p l e { frames := 3, cells := 0, slots := 0, locals := 64 } s m args below meth c H locs 0 0 (MQ below (cq_v cx_T D cy z0 ad u X z) args s 0 0 (fun q => z0 ≤ q)) (F0 m 0 ls []) := by
  have hx := hC.1
  have hb := hC.2.1
  unfold f_X9_setClass at hf
  refine lv_aload_n hx hb dX9_setClass_0 rfl (lv_at hl 0 rfl) ?_
  refine rg_p hC hw 5 (Nat.le_of_ble_eq_true rfl) rfl fd_X9_3 wf_X9_24 (q := 7) rfl dX9_setClass_1 ?_
  refine lv_iload_n hx hb dX9_setClass_4 rfl (lv_at hl 1 rfl) ?_
  refine lv_iload_n hx hb dX9_setClass_5 rfl (lv_at hl 2 rfl) ?_
  obtain ⟨h1, hf⟩ := ck_e hf
  obtain ⟨M2, eM2, hf⟩ := sq_e hf
  refine rs_i hC hw 7 (Nat.le_of_ble_eq_true rfl) rfl h1 dX9_setClass_6 eM2 (fun H locs hw => ?_)
  refine lv_iconst (v := 0) hx hb dX9_setClass_7 (by decide) ?_
  refine lv_istore_n (lv' := [(3, .int 0), (0, .ref (ad 5)), (1, .int x1), (2, .int x2)]) hx hb dX9_setClass_8 rfl hl (by decide) rfl (fun ls hl => ?_)
  exact k_X9_setClass_9l hC fu_ _ _ _ _ _ hf hw (lv_sub hl [1, 0] rfl)
set_option maxRecDepth 100000 in
theorem c_X9_setClass {l : Launch} {D : va_G} {cy : Nat → ClassId} {z0 : Nat} {ad : Nat → Nat} {u : Nat × Nat} {X : va_W} {z : mm_M} {x1 : Int32} {x2 : Int32} {M : mm_M} (hf : f_X9_setClass x1 x2 M = some z) : ct_v cx_T l yX9_setClass (Cond.code yX9_setClass cX9_setClass 4 none) 3 64 D cy z0 ad u M X [.ref (ad 5), .int x1, .int x2] z := by
  refine bgc_v (by decide) (fun p e s m below meth c hC hw => ?_)
  refine en_t (Nat.le_of_ble_eq_true rfl) (fun ls hl => ?_)
  have hl : lv_has ls 4 [(0, .ref (ad 5)), (1, .int x1), (2, .int x2)] := hl
  exact k_X9_setClass hC hf hw hl
set_option maxRecDepth 100000 in
set_option maxHeartbeats 4000000 in
theorem k_X6_doubtAll {p : Program} {l : Launch} {e : Env} {s : State} {m : MethodId} {args : Array Value} {below : List Frame} {meth : Method} {c : Code} {D : va_G} {cy : Nat → ClassId} {z0 : Nat} {ad : Nat → Nat} {X : va_W} {u : Nat × Nat} (hC : cx_C p s m args meth c cX6_doubtAll "RhymedThen$Signs" (Cond.code yX6_doubtAll cX6_doubtAll 1 none) 1 none) {z : mm_M} {M : mm_M} (hf : f_X6_doubtAll M = z) {H : Heap} {locs : List Loc} (hw : wd_in cx_T D cy z0 ad u M X s H locs) {ls : Array Slot} (hl : lv_has ls 1 [(0, .ref (ad 19))]) : W p l e { frames := 0, cells := 0, slots := 0, locals := 0 } s m args below meth c H locs 0 0 (MQ below (cq_v cx_T D cy z0 ad u X z) args s 0 0 (fun q => z0 ≤ q)) (F0 m 0 ls []) := by
  have hx := hC.1
  have hb := hC.2.1
  unfold f_X6_doubtAll at hf
  refine lv_aload_n hx hb dX6_doubtAll_0 rfl (lv_at hl 0 rfl) ?_
  refine lv_iconst (v := 1) hx hb dX6_doubtAll_1 (by decide) ?_
  refine lv_aload_n hx hb dX6_doubtAll_2 rfl (lv_at hl 0 rfl) ?_
  refine rg_i hC hw 19 (Nat.le_of_ble_eq_true rfl) rfl fd_X6_3 wf_X6_17 dX6_doubtAll_3 ?_
  refine lv_ishl hx hb dX6_doubtAll_6 ?_
  refine lv_iconst (v := 1) hx hb dX6_doubtAll_7 (by decide) ?_
  refine lv_isub hx hb dX6_doubtAll_8 ?_
  obtain ⟨M1, eM1, hf⟩ := sq_e hf
  refine rp_i hC hw 19 (Nat.le_of_ble_eq_true rfl) rfl fd_X6_6 wf_X6_28 fp_X6_6 rfl rfl dX6_doubtAll_9 eM1 (fun H locs hw => ?_)
  subst hf
  exact rtc_v hC hw dX6_doubtAll_12
set_option maxRecDepth 100000 in
theorem c_X6_doubtAll {l : Launch} {D : va_G} {cy : Nat → ClassId} {z0 : Nat} {ad : Nat → Nat} {u : Nat × Nat} {X : va_W} {z : mm_M} {M : mm_M} (hf : f_X6_doubtAll M = z) : ct_v cx_T l yX6_doubtAll (Cond.code yX6_doubtAll cX6_doubtAll 1 none) 0 0 D cy z0 ad u M X [.ref (ad 19)] z := by
  refine bgc_v (by decide) (fun p e s m below meth c hC hw => ?_)
  refine en_t (Nat.le_of_ble_eq_true rfl) (fun ls hl => ?_)
  have hl : lv_has ls 1 [(0, .ref (ad 19))] := hl
  exact k_X6_doubtAll hC hf hw hl
set_option maxRecDepth 100000 in
set_option maxHeartbeats 4000000 in
theorem k_X11_group {p : Program} {l : Launch} {e : Env} {s : State} {m : MethodId} {args : Array Value} {below : List Frame} {meth : Method} {c : Code} {D : va_G} {cy : Nat → ClassId} {z0 : Nat} {ad : Nat → Nat} {X : va_W} {u : Nat × Nat} (hC : cx_C p s m args meth c cX11_group "RhymedThen" (Cond.code yX11_group cX11_group 4 (some .int)) 4 (some .int)) {z : (Int32 × mm_M)} {x1 : Int32} {x2 : Int32} {M : mm_M} (hf : f_X11_group x1 x2 M = some z) {H : Heap} {locs : List Loc} (hw : wd_in cx_T D cy z0 ad u M X s H locs) {ls : Array Slot} (hl : lv_has ls 4 [(0, .ref (ad 0)), (1, .int x1), (2, .int x2)]) : W p l e { frames := 4, cells := 0, slots := 0, locals := 87 } s m args below meth c H locs 0 0 (MQ below (cq_i cx_T D cy z0 ad u X z.1 z.2) args s 0 0 (fun q => z0 ≤ q)) (F0 m 0 ls []) := by
  have hx := hC.1
  have hb := hC.2.1
  unfold f_X11_group at hf
  refine lv_iload_n hx hb dX11_group_0 rfl (lv_at hl 1 rfl) ?_
  refine lv_bipush (v := 6) hx hb dX11_group_1 (by decide) ?_
  obtain ⟨z1, ez1, hf⟩ := sq_e hf
  refine clc_Si hC hw (c_X11_isBelow ez1.symm) hd_X11_isBelow cw_X11_101 (rest := []) hl.1 rfl (Nat.le_of_ble_eq_true rfl) ⟨Nat.le_of_ble_eq_true rfl, Nat.le_of_ble_eq_true rfl⟩ ⟨Nat.zero_le _, Nat.zero_le _⟩ rfl dX11_group_3 (fun H locs hw => ?_)
  refine lv_if_eq (tgt := 19) hx hb dX11_group_6 (by decide) (fun c2 => ?_) (fun c2 => ?_)
  · rw [if_pos c2] at hf
    refine lv_iconst (v := (-1)) hx hb dX11_group_19 (by decide) ?_
    have hz := Option.some.inj hf
    subst hz
    exact rtc_i hC hw dX11_group_20
  · rw [if_neg c2] at hf
    refine lv_iload_n hx hb dX11_group_9 rfl (lv_at hl 2 rfl) ?_
    refine lv_if_lt (tgt := 19) hx hb dX11_group_10 (by decide) (fun c3 => ?_) (fun c3 => ?_)
    · rw [if_pos c3] at hf
      refine lv_iconst (v := (-1)) hx hb dX11_group_19 (by decide) ?_
      have hz := Option.some.inj hf
      subst hz
      exact rtc_i hC hw dX11_group_20
    · rw [if_neg c3] at hf
      refine lv_iload_n hx hb dX11_group_13 rfl (lv_at hl 2 rfl) ?_
      refine lv_ldc (v := 65535) hx hb hC.2.2.2.1 (hC.t wk_X11_105) dX11_group_14 ?_
      refine lv_icmp_le (tgt := 21) hx hb dX11_group_16 (by decide) (fun c4 => ?_) (fun c4 => ?_)
      · rw [if_pos c4] at hf
        refine lv_aload_n hx hb dX11_group_21 rfl (lv_at hl 0 rfl) ?_
        refine rg_p hC hw 0 (Nat.le_of_ble_eq_true rfl) rfl fd_X11_2 wf_X11_26 (q := 5) rfl dX11_group_22 ?_
        refine rg_p hC hw 5 (Nat.le_of_ble_eq_true rfl) rfl fd_X9_3 wf_X11_106 (q := 7) rfl dX11_group_25 ?_
        refine lv_iload_n hx hb dX11_group_28 rfl (lv_at hl 1 rfl) ?_
        obtain ⟨h5, hf⟩ := ck_e hf
        refine ra_i hC hw 7 (Nat.le_of_ble_eq_true rfl) rfl h5 dX11_group_29 ?_
        obtain ⟨y6, ey6, hf⟩ := sq_e hf
        refine lt_i ey6 ?_
        refine lv_istore_n (lv' := [(3, .int y6), (0, .ref (ad 0)), (1, .int x1), (2, .int x2)]) hx hb dX11_group_30 rfl hl (by decide) rfl (fun ls hl => ?_)
        refine lv_aload_n hx hb dX11_group_31 rfl (lv_at hl 1 rfl) ?_
        refine rg_p hC hw 0 (Nat.le_of_ble_eq_true rfl) rfl fd_X11_2 wf_X11_26 (q := 5) rfl dX11_group_32 ?_
        refine lv_iload_n hx hb dX11_group_35 rfl (lv_at hl 2 rfl) ?_
        refine lv_iload_n hx hb dX11_group_36 rfl (lv_at hl 3 rfl) ?_
        obtain ⟨z7, ez7, hf⟩ := bd_e hf
        refine clc_Vv hC hw (c_X9_setClass ez7) hd_X9_setClass cw_X11_109 (Nat.le_of_ble_eq_true rfl) rfl rfl (rest := []) hl.1 rfl (Nat.le_of_ble_eq_true rfl) ⟨Nat.le_of_ble_eq_true rfl, Nat.le_of_ble_eq_true rfl⟩ ⟨Nat.zero_le _, Nat.zero_le _⟩ rfl dX11_group_37 (fun H locs hw => ?_)
        refine lv_aload_n hx hb dX11_group_40 rfl (lv_at hl 1 rfl) ?_
        refine rg_p hC hw 0 (Nat.le_of_ble_eq_true rfl) rfl fd_X11_4 wf_X11_44 (q := 19) rfl dX11_group_41 ?_
        obtain ⟨z8, ez8, hf⟩ := sq_e hf
        refine clc_Vv hC hw (c_X6_doubtAll ez8.symm) hd_X6_doubtAll cw_X11_113 (Nat.le_of_ble_eq_true rfl) rfl rfl (rest := []) hl.1 rfl (Nat.le_of_ble_eq_true rfl) ⟨Nat.le_of_ble_eq_true rfl, Nat.le_of_ble_eq_true rfl⟩ ⟨Nat.zero_le _, Nat.zero_le _⟩ rfl dX11_group_44 (fun H locs hw => ?_)
        refine lv_iload_n hx hb dX11_group_47 rfl (lv_at hl 0 rfl) ?_
        have hz := Option.some.inj hf
        subst hz
        exact rtc_i hC hw dX11_group_48
      · rw [if_neg c4] at hf
        refine lv_iconst (v := (-1)) hx hb dX11_group_19 (by decide) ?_
        have hz := Option.some.inj hf
        subst hz
        exact rtc_i hC hw dX11_group_20
set_option maxRecDepth 100000 in
theorem c_X11_group {l : Launch} {D : va_G} {cy : Nat → ClassId} {z0 : Nat} {ad : Nat → Nat} {u : Nat × Nat} {X : va_W} {z : (Int32 × mm_M)} {x1 : Int32} {x2 : Int32} {M : mm_M} (hf : f_X11_group x1 x2 M = some z) : ct_i cx_T l yX11_group (Cond.code yX11_group cX11_group 4 (some .int)) 4 87 D cy z0 ad u M X [.ref (ad 0), .int x1, .int x2] z.1 z.2 := by
  refine bgc_i (by decide) (fun p e s m below meth c hC hw => ?_)
  refine en_t (Nat.le_of_ble_eq_true rfl) (fun ls hl => ?_)
  have hl : lv_has ls 4 [(0, .ref (ad 0)), (1, .int x1), (2, .int x2)] := hl
  exact k_X11_group hC hf hw hl
set_option maxRecDepth 100000 in
set_option maxHeartbeats 4000000 in
theorem k_X8_firstNoWord_36 {p : Program} {l : Launch} {e : Env} {s : State} {m : MethodId} {args : Array Value} {below : List Frame} {meth : Method} {c : Code} {D : va_G} {cy : Nat → ClassId} {z0 : Nat} {ad : Nat → Nat} {X : va_W} {u : Nat × Nat} (hC : cx_C p s m args meth c cX8_firstNoWord "RhymedThen$Text" (Cond.code yX8_firstNoWord cX8_firstNoWord 2 (some .int)) 2 (some .int)) {z : Int32} {M : mm_M} (hf : f_X8_firstNoWord_36 M = some z) {H : Heap} {locs : List Loc} (hw : wd_in cx_T D cy z0 ad u M X s H locs) {ls : Array Slot} (hl : lv_has ls 2 [(0, .ref (ad 1))]) : W p l e { frames := 1, cells := 0, slots := 0, locals := 20 } s m args below meth c H locs 0 0 (MQ below (cq_i cx_T D cy z0 ad u X z M) args s 0 0 (fun q => z0 ≤ q)) (F0 m 36 ls []) := by
  have hx := hC.1
  have hb := hC.2.1
  unfold f_X8_firstNoWord_36 at hf
  refine lv_aload_n hx hb dX8_firstNoWord_36 rfl (lv_at hl 0 rfl) ?_
  refine rg_i hC hw 1 (Nat.le_of_ble_eq_true rfl) rfl fd_X8_1 wf_X8_15 dX8_firstNoWord_37 ?_
  refine lv_if_ne (tgt := 47) hx hb dX8_firstNoWord_40 (by decide) (fun c7 => ?_) (fun c7 => ?_)
  · rw [if_neg c7] at hf
    refine lv_iconst (v := (-1)) hx hb dX8_firstNoWord_47 (by decide) ?_
    have hz := Option.some.inj hf
    subst hz
    exact rtc_i hC hw dX8_firstNoWord_48
  · rw [if_pos c7] at hf
    refine lv_iconst (v := 0) hx hb dX8_firstNoWord_43 (by decide) ?_
    refine lv_goto (tgt := 48) hx hb dX8_firstNoWord_44 (by decide) ?_
    have hz := Option.some.inj hf
    subst hz
    exact rtc_i hC hw dX8_firstNoWord_48
set_option maxRecDepth 100000 in
set_option maxHeartbeats 4000000 in
theorem k_X8_firstNoWord_2 {p : Program} {l : Launch} {e : Env} {s : State} {m : MethodId} {args : Array Value} {below : List Frame} {meth : Method} {c : Code} {D : va_G} {cy : Nat → ClassId} {z0 : Nat} {ad : Nat → Nat} {X : va_W} {u : Nat × Nat} (hC : cx_C p s m args meth c cX8_firstNoWord "RhymedThen$Text" (Cond.code yX8_firstNoWord cX8_firstNoWord 2 (some .int)) 2 (some .int)) {z : Int32} {x1 : Int32} {M : mm_M} {q2 : Int32 → Option Int32} (hq2 : ∀ (x1 : Int32) (H : Heap) (locs : List Loc) (ls : Array Slot), q2 x1 = some z → wd_in cx_T D cy z0 ad u M X s H locs → lv_has ls 2 [(0, .ref (ad 1)), (1, .int x1)] → W p l e { frames := 1, cells := 0, slots := 0, locals := 20 } s m args below meth c H locs 0 0 (MQ below (cq_i cx_T D cy z0 ad u X z M) args s 0 0 (fun q => z0 ≤ q)) (F0 m 2 ls [])) (hf : f_X8_firstNoWord_2 q2 x1 M = some z) {H : Heap} {locs : List Loc} (hw : wd_in cx_T D cy z0 ad u M X s H locs) {ls : Array Slot} (hl : lv_has ls 2 [(0, .ref (ad 1)), (1, .int x1)]) : W p l e { frames := 1, cells := 0, slots := 0, locals := 20 } s m args below meth c H locs 0 0 (MQ below (cq_i cx_T D cy z0 ad u X z M) args s 0 0 (fun q => z0 ≤ q)) (F0 m 2 ls []) := by
  have hx := hC.1
  have hb := hC.2.1
  unfold f_X8_firstNoWord_2 at hf
  refine lv_iload_n hx hb dX8_firstNoWord_2 rfl (lv_at hl 1 rfl) ?_
  refine lv_aload_n hx hb dX8_firstNoWord_3 rfl (lv_at hl 0 rfl) ?_
  refine rg_i hC hw 1 (Nat.le_of_ble_eq_true rfl) rfl fd_X8_1 wf_X8_15 dX8_firstNoWord_4 ?_
  refine lv_icmp_ge (tgt := 36) hx hb dX8_firstNoWord_7 (by decide) (fun c1 => ?_) (fun c1 => ?_)
  · rw [if_pos c1] at hf
    exact k_X8_firstNoWord_36 hC hf hw (lv_sub hl [0] rfl)
  · rw [if_neg c1] at hf
    refine lv_iload_n hx hb dX8_firstNoWord_10 rfl (lv_at hl 1 rfl) ?_
    refine lv_bipush (v := 8) hx hb dX8_firstNoWord_11 (by decide) ?_
    refine lv_icmp_eq (tgt := 28) hx hb dX8_firstNoWord_13 (by decide) (fun c2 => ?_) (fun c2 => ?_)
    · rw [if_pos c2] at hf
      refine lv_iload_n hx hb dX8_firstNoWord_28 rfl (lv_at hl 1 rfl) ?_
      have hz := Option.some.inj hf
      subst hz
      exact rtc_i hC hw dX8_firstNoWord_29
    · rw [if_neg c2] at hf
      refine lv_aload_n hx hb dX8_firstNoWord_16 rfl (lv_at hl 0 rfl) ?_
      refine rg_p hC hw 1 (Nat.le_of_ble_eq_true rfl) rfl fd_X8_0 wf_X8_11 (q := 2) rfl dX8_firstNoWord_17 ?_
      refine lv_iload_n hx hb dX8_firstNoWord_20 rfl (lv_at hl 1 rfl) ?_
      obtain ⟨h3, hf⟩ := ck_e hf
      refine ra_i hC hw 2 (Nat.le_of_ble_eq_true rfl) rfl h3 dX8_firstNoWord_21 ?_
      obtain ⟨z4, ez4, hf⟩ := sq_e hf
      refine clc_Si hC hw (c_X8_isSound ez4.symm) hd_X8_isSound cw_X8_19 (rest := []) hl.1 rfl (Nat.le_of_ble_eq_true rfl) ⟨Nat.le_of_ble_eq_true rfl, Nat.le_of_ble_eq_true rfl⟩ ⟨Nat.zero_le _, Nat.zero_le _⟩ rfl dX8_firstNoWord_22 (fun H locs hw => ?_)
      refine lv_if_ne (tgt := 30) hx hb dX8_firstNoWord_25 (by decide) (fun c5 => ?_) (fun c5 => ?_)
      · rw [if_neg c5] at hf
        obtain ⟨y6, ey6, hf⟩ := sq_e hf
        refine lv_iinc (v := y6) (lv' := [(1, .int y6), (0, .ref (ad 1))]) hx hb dX8_firstNoWord_30 hl (k := 1) rfl (by rw [ey6]; rfl) (by decide) rfl (fun ls hl => ?_)
        refine lv_goto (tgt := 2) hx hb dX8_firstNoWord_33 (by decide) ?_
        exact hq2 _ _ _ _ hf hw (lv_sub hl [1, 0] rfl)
      · rw [if_pos c5] at hf
        refine lv_iload_n hx hb dX8_firstNoWord_28 rfl (lv_at hl 1 rfl) ?_
        have hz := Option.some.inj hf
        subst hz
        exact rtc_i hC hw dX8_firstNoWord_29
set_option maxRecDepth 100000 in
set_option maxHeartbeats 4000000 in
theorem k_X8_firstNoWord_2l {p : Program} {l : Launch} {e : Env} {s : State} {m : MethodId} {args : Array Value} {below : List Frame} {meth : Method} {c : Code} {D : va_G} {cy : Nat → ClassId} {z0 : Nat} {ad : Nat → Nat} {X : va_W} {u : Nat × Nat} (hC : cx_C p s m args meth c cX8_firstNoWord "RhymedThen$Text" (Cond.code yX8_firstNoWord cX8_firstNoWord 2 (some .int)) 2 (some .int)) {z : Int32} {M : mm_M} : ∀ (n : Nat) (x1 : Int32) (H : Heap) (locs : List Loc) (ls : Array Slot), f_X8_firstNoWord_2l M n x1 = some z → wd_in cx_T D cy z0 ad u M X s H locs → lv_has ls 2 [(0, .ref (ad 1)), (1, .int x1)] → W p l e { frames := 1, cells := 0, slots := 0, locals := 20 } s m args below meth c H locs 0 0 (MQ below (cq_i cx_T D cy z0 ad u X z M) args s 0 0 (fun q => z0 ≤ q)) (F0 m 2 ls []) := by
  intro n
  induction n with
  | zero => intro x1 H locs ls hf; exact absurd hf (by simp [f_X8_firstNoWord_2l])
  | succ n ih => intro x1 H locs ls hf hw hl; exact k_X8_firstNoWord_2 hC ih hf hw hl
set_option maxRecDepth 100000 in
set_option maxHeartbeats 4000000 in
theorem k_X8_firstNoWord {p : Program} {l : Launch} {e : Env} {s : State} {m : MethodId} {args : Array Value} {below : List Frame} {meth : Method} {c : Code} {D : va_G} {cy : Nat → ClassId} {z0 : Nat} {ad : Nat → Nat} {X : va_W} {u : Nat × Nat} (hC : cx_C p s m args meth c cX8_firstNoWord "RhymedThen$Text" (Cond.code yX8_firstNoWord cX8_firstNoWord 2 (some .int)) 2 (some .int)) {z : Int32} {M : mm_M} (hf : f_X8_firstNoWord M = some z) {H : Heap} {locs : List Loc} (hw : wd_in cx_T D cy z0 ad u M X s H locs) {ls : Array Slot} (hl : lv_has ls 2 [(0, .ref (ad 1))]) : W p l e { frames := 1, cells := 0, slots := 0, locals := 20 } s m args below meth c H locs 0 0 (MQ below (cq_i cx_T D cy z0 ad u X z M) args s 0 0 (fun q => z0 ≤ q)) (F0 m 0 ls []) := by
  have hx := hC.1
  have hb := hC.2.1
  unfold f_X8_firstNoWord at hf
  refine lv_iconst (v := 0) hx hb dX8_firstNoWord_0 (by decide) ?_
  refine lv_istore_n (lv' := [(1, .int 0), (0, .ref (ad 1))]) hx hb dX8_firstNoWord_1 rfl hl (by decide) rfl (fun ls hl => ?_)
  exact k_X8_firstNoWord_2l hC fu_ _ _ _ _ hf hw (lv_sub hl [1, 0] rfl)
set_option maxRecDepth 100000 in
theorem c_X8_firstNoWord {l : Launch} {D : va_G} {cy : Nat → ClassId} {z0 : Nat} {ad : Nat → Nat} {u : Nat × Nat} {X : va_W} {z : Int32} {M : mm_M} (hf : f_X8_firstNoWord M = some z) : ct_i cx_T l yX8_firstNoWord (Cond.code yX8_firstNoWord cX8_firstNoWord 2 (some .int)) 1 20 D cy z0 ad u M X [.ref (ad 1)] z M := by
  refine bgc_i (by decide) (fun p e s m below meth c hC hw => ?_)
  refine en_t (Nat.le_of_ble_eq_true rfl) (fun ls hl => ?_)
  have hl : lv_has ls 2 [(0, .ref (ad 1))] := hl
  exact k_X8_firstNoWord hC hf hw hl
set_option maxRecDepth 100000 in
set_option maxHeartbeats 4000000 in
theorem k_X8_asForm_46 {p : Program} {l : Launch} {e : Env} {s : State} {m : MethodId} {args : Array Value} {below : List Frame} {meth : Method} {c : Code} {D : va_G} {cy : Nat → ClassId} {z0 : Nat} {ad : Nat → Nat} {X : va_W} {u : Nat × Nat} (hC : cx_C p s m args meth c cX8_asForm "RhymedThen$Text" (Cond.code yX8_asForm cX8_asForm 5 (some .long)) 5 (some .long)) {z : Int64} {x1 : Int32} {x2 : Int64} {M : mm_M} (hf : f_X8_asForm_46 x1 x2 M = some z) {H : Heap} {locs : List Loc} (hw : wd_in cx_T D cy z0 ad u M X s H locs) {ls : Array Slot} (hl : lv_has ls 5 [(1, .int x1), (2, .long x2)]) : W p l e { frames := 1, cells := 0, slots := 0, locals := 22 } s m args below meth c H locs 0 0 (MQ below (cq_l cx_T D cy z0 ad u X z M) args s 0 0 (fun q => z0 ≤ q)) (F0 m 46 ls []) := by
  have hx := hC.1
  have hb := hC.2.1
  unfold f_X8_asForm_46 at hf
  refine lv_lload_n hx hb dX8_asForm_46 rfl (lv_at hl 1 rfl) ?_
  refine lv_iload_n hx hb dX8_asForm_47 rfl (lv_at hl 0 rfl) ?_
  obtain ⟨z6, ez6, hf⟩ := sq_e hf
  refine clc_Sl hC hw (c_X0_of ez6.symm) hd_X0_of cw_X8_29 (rest := []) hl.1 rfl (Nat.le_of_ble_eq_true rfl) ⟨Nat.le_of_ble_eq_true rfl, Nat.le_of_ble_eq_true rfl⟩ ⟨Nat.zero_le _, Nat.zero_le _⟩ rfl dX8_asForm_48 (fun H locs hw => ?_)
  have hz := Option.some.inj hf
  subst hz
  exact rtc_l hC hw dX8_asForm_51
set_option maxRecDepth 100000 in
set_option maxHeartbeats 4000000 in
theorem k_X8_asForm_15 {p : Program} {l : Launch} {e : Env} {s : State} {m : MethodId} {args : Array Value} {below : List Frame} {meth : Method} {c : Code} {D : va_G} {cy : Nat → ClassId} {z0 : Nat} {ad : Nat → Nat} {X : va_W} {u : Nat × Nat} (hC : cx_C p s m args meth c cX8_asForm "RhymedThen$Text" (Cond.code yX8_asForm cX8_asForm 5 (some .long)) 5 (some .long)) {z : Int64} {x1 : Int32} {x2 : Int64} {x4 : Int32} {M : mm_M} {q15 : Int32 → Int64 → Int32 → Option Int64} (hq15 : ∀ (x1 : Int32) (x2 : Int64) (x4 : Int32) (H : Heap) (locs : List Loc) (ls : Array Slot), q15 x1 x2 x4 = some z → wd_in cx_T D cy z0 ad u M X s H locs → lv_has ls 5 [(0, .ref (ad 1)), (1, .int x1), (2, .long x2), (4, .int x4)] → W p l e { frames := 1, cells := 0, slots := 0, locals := 22 } s m args below meth c H locs 0 0 (MQ below (cq_l cx_T D cy z0 ad u X z M) args s 0 0 (fun q => z0 ≤ q)) (F0 m 15 ls [])) (hf : f_X8_asForm_15 q15 x1 x2 x4 M = some z) {H : Heap} {locs : List Loc} (hw : wd_in cx_T D cy z0 ad u M X s H locs) {ls : Array Slot} (hl : lv_has ls 5 [(0, .ref (ad 1)), (1, .int x1), (2, .long x2), (4, .int x4)]) : W p l e { frames := 1, cells := 0, slots := 0, locals := 22 } s m args below meth c H locs 0 0 (MQ below (cq_l cx_T D cy z0 ad u X z M) args s 0 0 (fun q => z0 ≤ q)) (F0 m 15 ls []) := by
  have hx := hC.1
  have hb := hC.2.1
  unfold f_X8_asForm_15 at hf
  refine lv_iload hx hb dX8_asForm_15 (lv_at hl 3 rfl) ?_
  refine lv_iload_n hx hb dX8_asForm_17 rfl (lv_at hl 1 rfl) ?_
  refine lv_icmp_ge (tgt := 46) hx hb dX8_asForm_18 (by decide) (fun c2 => ?_) (fun c2 => ?_)
  · rw [if_pos c2] at hf
    exact k_X8_asForm_46 hC hf hw (lv_sub hl [1, 2] rfl)
  · rw [if_neg c2] at hf
    refine lv_lload_n hx hb dX8_asForm_21 rfl (lv_at hl 2 rfl) ?_
    refine lv_aload_n hx hb dX8_asForm_22 rfl (lv_at hl 0 rfl) ?_
    refine rg_p hC hw 1 (Nat.le_of_ble_eq_true rfl) rfl fd_X8_0 wf_X8_11 (q := 2) rfl dX8_asForm_23 ?_
    refine lv_iload hx hb dX8_asForm_26 (lv_at hl 3 rfl) ?_
    obtain ⟨h3, hf⟩ := ck_e hf
    refine ra_i hC hw 2 (Nat.le_of_ble_eq_true rfl) rfl h3 dX8_asForm_28 ?_
    refine lv_bipush (v := 97) hx hb dX8_asForm_29 (by decide) ?_
    refine lv_isub hx hb dX8_asForm_31 ?_
    refine lv_i2l hx hb dX8_asForm_32 rfl ?_
    refine lv_iconst (v := 4) hx hb dX8_asForm_33 (by decide) ?_
    refine lv_iload hx hb dX8_asForm_34 (lv_at hl 3 rfl) ?_
    refine lv_imul hx hb dX8_asForm_36 ?_
    refine lv_lshl hx hb dX8_asForm_37 rfl ?_
    refine lv_lor hx hb dX8_asForm_38 ?_
    obtain ⟨y4, ey4, hf⟩ := sq_e hf
    refine lt_l ey4 ?_
    refine lv_lstore_n (lv' := [(2, .long y4), (0, .ref (ad 1)), (1, .int x1), (4, .int x4)]) hx hb dX8_asForm_39 rfl hl (by decide) rfl (fun ls hl => ?_)
    obtain ⟨y5, ey5, hf⟩ := sq_e hf
    refine lv_iinc (v := y5) (lv' := [(4, .int y5), (2, .long y4), (0, .ref (ad 1)), (1, .int x1)]) hx hb dX8_asForm_40 hl (k := 3) rfl (by rw [ey5]; rfl) (by decide) rfl (fun ls hl => ?_)
    refine lv_goto (tgt := 15) hx hb dX8_asForm_43 (by decide) ?_
    exact hq15 _ _ _ _ _ _ hf hw (lv_sub hl [2, 3, 1, 0] rfl)
set_option maxRecDepth 100000 in
set_option maxHeartbeats 4000000 in
theorem k_X8_asForm_15l {p : Program} {l : Launch} {e : Env} {s : State} {m : MethodId} {args : Array Value} {below : List Frame} {meth : Method} {c : Code} {D : va_G} {cy : Nat → ClassId} {z0 : Nat} {ad : Nat → Nat} {X : va_W} {u : Nat × Nat} (hC : cx_C p s m args meth c cX8_asForm "RhymedThen$Text" (Cond.code yX8_asForm cX8_asForm 5 (some .long)) 5 (some .long)) {z : Int64} {M : mm_M} : ∀ (n : Nat) (x1 : Int32) (x2 : Int64) (x4 : Int32) (H : Heap) (locs : List Loc) (ls : Array Slot), f_X8_asForm_15l M n x1 x2 x4 = some z → wd_in cx_T D cy z0 ad u M X s H locs → lv_has ls 5 [(0, .ref (ad 1)), (1, .int x1), (2, .long x2), (4, .int x4)] → W p l e { frames := 1, cells := 0, slots := 0, locals := 22 } s m args below meth c H locs 0 0 (MQ below (cq_l cx_T D cy z0 ad u X z M) args s 0 0 (fun q => z0 ≤ q)) (F0 m 15 ls []) := by
  intro n
  induction n with
  | zero => intro x1 x2 x4 H locs ls hf; exact absurd hf (by simp [f_X8_asForm_15l])
  | succ n ih => intro x1 x2 x4 H locs ls hf hw hl; exact k_X8_asForm_15 hC ih hf hw hl
set_option maxRecDepth 100000 in
set_option maxHeartbeats 4000000 in
theorem k_X8_asForm {p : Program} {l : Launch} {e : Env} {s : State} {m : MethodId} {args : Array Value} {below : List Frame} {meth : Method} {c : Code} {D : va_G} {cy : Nat → ClassId} {z0 : Nat} {ad : Nat → Nat} {X : va_W} {u : Nat × Nat} (hC : cx_C p s m args meth c cX8_asForm "RhymedThen$Text" (Cond.code yX8_asForm cX8_asForm 5 (some .long)) 5 (some .long)) {z : Int64} {M : mm_M} (hf : f_X8_asForm M = some z) {H : Heap} {locs : List Loc} (hw : wd_in cx_T D cy z0 ad u M X s H locs) {ls : Array Slot} (hl : lv_has ls 5 [(0, .ref (ad 1))]) : W p l e { frames := 1, cells := 0, slots := 0, locals := 22 } s m args below meth c H locs 0 0 (MQ below (cq_l cx_T D cy z0 ad u X z M) args s 0 0 (fun q => z0 ≤ q)) (F0 m 0 ls []) := by
  have hx := hC.1
  have hb := hC.2.1
  unfold f_X8_asForm at hf
  refine lv_aload_n hx hb dX8_asForm_0 rfl (lv_at hl 0 rfl) ?_
  refine rg_i hC hw 1 (Nat.le_of_ble_eq_true rfl) rfl fd_X8_1 wf_X8_15 dX8_asForm_1 ?_
  refine lv_bipush (v := 8) hx hb dX8_asForm_4 (by decide) ?_
  refine mx_min hC (rest := []) wm_X8_23 hl.1 ⟨Nat.le_of_ble_eq_true rfl, Nat.le_of_ble_eq_true rfl⟩ ⟨Nat.zero_le _, Nat.zero_le _⟩ dX8_asForm_6 ?_
  obtain ⟨y1, ey1, hf⟩ := sq_e hf
  refine lt_i ey1 ?_
  refine lv_istore_n (lv' := [(1, .int y1), (0, .ref (ad 1))]) hx hb dX8_asForm_9 rfl hl (by decide) rfl (fun ls hl => ?_)
  refine lv_lconst (v := 0) hx hb dX8_asForm_10 (by decide) ?_
  refine lv_lstore_n (lv' := [(2, .long 0), (1, .int y1), (0, .ref (ad 1))]) hx hb dX8_asForm_11 rfl hl (by decide) rfl (fun ls hl => ?_)
  refine lv_iconst (v := 0) hx hb dX8_asForm_12 (by decide) ?_
  refine lv_istore (lv' := [(4, .int 0), (2, .long 0), (1, .int y1), (0, .ref (ad 1))]) hx hb dX8_asForm_13 hl (by decide) rfl (fun ls hl => ?_)
  exact k_X8_asForm_15l hC fu_ _ _ _ _ _ _ hf hw (lv_sub hl [3, 2, 1, 0] rfl)
set_option maxRecDepth 100000 in
theorem c_X8_asForm {l : Launch} {D : va_G} {cy : Nat → ClassId} {z0 : Nat} {ad : Nat → Nat} {u : Nat × Nat} {X : va_W} {z : Int64} {M : mm_M} (hf : f_X8_asForm M = some z) : ct_l cx_T l yX8_asForm (Cond.code yX8_asForm cX8_asForm 5 (some .long)) 1 22 D cy z0 ad u M X [.ref (ad 1)] z M := by
  refine bgc_l (by decide) (fun p e s m below meth c hC hw => ?_)
  refine en_t (Nat.le_of_ble_eq_true rfl) (fun ls hl => ?_)
  have hl : lv_has ls 5 [(0, .ref (ad 1))] := hl
  exact k_X8_asForm hC hf hw hl
set_option maxRecDepth 100000 in
set_option maxHeartbeats 4000000 in
theorem k_X9_addWord {p : Program} {l : Launch} {e : Env} {s : State} {m : MethodId} {args : Array Value} {below : List Frame} {meth : Method} {c : Code} {D : va_G} {cy : Nat → ClassId} {z0 : Nat} {ad : Nat → Nat} {X : va_W} {u : Nat × Nat} (hC : cx_C p s m args meth c cX9_addWord "RhymedThen$Tongue" (Cond.code yX9_addWord cX9_addWord 4 (some .int)) 4 (some .int)) {z : (Int32 × mm_M)} {x1 : Int64} {M : mm_M} (hf : f_X9_addWord x1 M = some z) {H : Heap} {locs : List Loc} (hw : wd_in cx_T D cy z0 ad u M X s H locs) {ls : Array Slot} (hl : lv_has ls 4 [(0, .ref (ad 5)), (1, .long x1)]) : W p l e { frames := 1, cells := 0, slots := 0, locals := 22 } s m args below meth c H locs 0 0 (MQ below (cq_i cx_T D cy z0 ad u X z.1 z.2) args s 0 0 (fun q => z0 ≤ q)) (F0 m 0 ls []) := by
  have hx := hC.1
  have hb := hC.2.1
  unfold f_X9_addWord at hf
  refine lv_aload_n hx hb dX9_addWord_0 rfl (lv_at hl 0 rfl) ?_
  refine rg_i hC hw 5 (Nat.le_of_ble_eq_true rfl) rfl fd_X9_2 wf_X9_21 dX9_addWord_1 ?_
  obtain ⟨y1, ey1, hf⟩ := sq_e hf
  refine lt_i ey1 ?_
  refine lv_istore_n (lv' := [(3, .int y1), (0, .ref (ad 5)), (1, .long x1)]) hx hb dX9_addWord_4 rfl hl (by decide) rfl (fun ls hl => ?_)
  refine lv_aload_n hx hb dX9_addWord_5 rfl (lv_at hl 1 rfl) ?_
  refine rg_9 hC hw 5 (Nat.le_of_ble_eq_true rfl) rfl fd_X9_6 wf_X9_34 dX9_addWord_6 ?_
  refine lv_iconst (v := 0) hx hb dX9_addWord_9 (by decide) ?_
  refine lv_iload_n hx hb dX9_addWord_10 rfl (lv_at hl 0 rfl) ?_
  refine lv_iadd hx hb dX9_addWord_11 ?_
  refine lv_lload_n hx hb dX9_addWord_12 rfl (lv_at hl 2 rfl) ?_
  obtain ⟨h2, hf⟩ := ck_e hf
  obtain ⟨M3, eM3, hf⟩ := sq_e hf
  refine rg_s9 hC hw rfl (n := 71) rfl h2 dX9_addWord_13 eM3 (fun H locs hw => ?_)
  refine lv_aload_n hx hb dX9_addWord_14 rfl (lv_at hl 1 rfl) ?_
  refine lv_dup hx hb dX9_addWord_15 rfl ?_
  refine rg_i hC hw 5 (Nat.le_of_ble_eq_true rfl) rfl fd_X9_2 wf_X9_21 dX9_addWord_16 ?_
  refine lv_iconst (v := 1) hx hb dX9_addWord_19 (by decide) ?_
  refine lv_iadd hx hb dX9_addWord_20 ?_
  obtain ⟨M4, eM4, hf⟩ := sq_e hf
  refine rp_i hC hw 5 (Nat.le_of_ble_eq_true rfl) rfl fd_X9_2 wf_X9_21 fp_X9_2 rfl rfl dX9_addWord_21 eM4 (fun H locs hw => ?_)
  refine lv_aload_n hx hb dX9_addWord_24 rfl (lv_at hl 1 rfl) ?_
  obtain ⟨z5, ez5, hf⟩ := bd_e hf
  refine clc_Vv hC hw (c_X9_forgetCourses ez5) hd_X9_forgetCourses cw_X9_43 (Nat.le_of_ble_eq_true rfl) rfl rfl (rest := []) hl.1 rfl (Nat.le_of_ble_eq_true rfl) ⟨Nat.le_of_ble_eq_true rfl, Nat.le_of_ble_eq_true rfl⟩ ⟨Nat.zero_le _, Nat.zero_le _⟩ rfl dX9_addWord_25 (fun H locs hw => ?_)
  refine lv_iload_n hx hb dX9_addWord_28 rfl (lv_at hl 0 rfl) ?_
  have hz := Option.some.inj hf
  subst hz
  exact rtc_i hC hw dX9_addWord_29
set_option maxRecDepth 100000 in
theorem c_X9_addWord {l : Launch} {D : va_G} {cy : Nat → ClassId} {z0 : Nat} {ad : Nat → Nat} {u : Nat × Nat} {X : va_W} {z : (Int32 × mm_M)} {x1 : Int64} {M : mm_M} (hf : f_X9_addWord x1 M = some z) : ct_i cx_T l yX9_addWord (Cond.code yX9_addWord cX9_addWord 4 (some .int)) 1 22 D cy z0 ad u M X [.ref (ad 5), .long x1] z.1 z.2 := by
  refine bgc_i (by decide) (fun p e s m below meth c hC hw => ?_)
  refine en_t (Nat.le_of_ble_eq_true rfl) (fun ls hl => ?_)
  have hl : lv_has ls 4 [(0, .ref (ad 5)), (1, .long x1)] := hl
  exact k_X9_addWord hC hf hw hl
set_option maxRecDepth 100000 in
set_option maxHeartbeats 4000000 in
theorem k_X11_wordFromText {p : Program} {l : Launch} {e : Env} {s : State} {m : MethodId} {args : Array Value} {below : List Frame} {meth : Method} {c : Code} {D : va_G} {cy : Nat → ClassId} {z0 : Nat} {ad : Nat → Nat} {X : va_W} {u : Nat × Nat} (hC : cx_C p s m args meth c cX11_wordFromText "RhymedThen" (Cond.code yX11_wordFromText cX11_wordFromText 2 (some .int)) 2 (some .int)) {z : (Int32 × mm_M)} {M : mm_M} (hf : f_X11_wordFromText M = some z) {H : Heap} {locs : List Loc} (hw : wd_in cx_T D cy z0 ad u M X s H locs) {ls : Array Slot} (hl : lv_has ls 2 [(0, .ref (ad 0))]) : W p l e { frames := 2, cells := 0, slots := 0, locals := 46 } s m args below meth c H locs 0 0 (MQ below (cq_i cx_T D cy z0 ad u X z.1 z.2) args s 0 0 (fun q => z0 ≤ q)) (F0 m 0 ls []) := by
  have hx := hC.1
  have hb := hC.2.1
  unfold f_X11_wordFromText at hf
  refine lv_aload_n hx hb dX11_wordFromText_0 rfl (lv_at hl 0 rfl) ?_
  refine rg_p hC hw 0 (Nat.le_of_ble_eq_true rfl) rfl fd_X11_0 wf_X11_10 (q := 1) rfl dX11_wordFromText_1 ?_
  obtain ⟨z1, ez1, hf⟩ := bd_e hf
  refine clc_Vi hC hw (c_X8_firstNoWord ez1) hd_X8_firstNoWord cw_X11_123 (Nat.le_of_ble_eq_true rfl) rfl rfl (rest := []) hl.1 rfl (Nat.le_of_ble_eq_true rfl) ⟨Nat.le_of_ble_eq_true rfl, Nat.le_of_ble_eq_true rfl⟩ ⟨Nat.zero_le _, Nat.zero_le _⟩ rfl dX11_wordFromText_4 (fun H locs hw => ?_)
  refine lv_istore_n (lv' := [(1, .int z1), (0, .ref (ad 0))]) hx hb dX11_wordFromText_7 rfl hl (by decide) rfl (fun ls hl => ?_)
  refine lv_iload_n hx hb dX11_wordFromText_8 rfl (lv_at hl 0 rfl) ?_
  refine lv_iconst (v := (-1)) hx hb dX11_wordFromText_9 (by decide) ?_
  refine lv_icmp_ne (tgt := 30) hx hb dX11_wordFromText_10 (by decide) (fun c2 => ?_) (fun c2 => ?_)
  · rw [if_neg c2] at hf
    refine lv_iconst (v := (-1)) hx hb dX11_wordFromText_30 (by decide) ?_
    refine lv_iload_n hx hb dX11_wordFromText_31 rfl (lv_at hl 0 rfl) ?_
    refine lv_isub hx hb dX11_wordFromText_32 ?_
    have hz := Option.some.inj hf
    subst hz
    exact rtc_i hC hw dX11_wordFromText_33
  · rw [if_pos c2] at hf
    refine lv_aload_n hx hb dX11_wordFromText_13 rfl (lv_at hl 1 rfl) ?_
    refine rg_p hC hw 0 (Nat.le_of_ble_eq_true rfl) rfl fd_X11_2 wf_X11_26 (q := 5) rfl dX11_wordFromText_14 ?_
    refine lv_aload_n hx hb dX11_wordFromText_17 rfl (lv_at hl 1 rfl) ?_
    refine rg_p hC hw 0 (Nat.le_of_ble_eq_true rfl) rfl fd_X11_0 wf_X11_10 (q := 1) rfl dX11_wordFromText_18 ?_
    obtain ⟨z3, ez3, hf⟩ := bd_e hf
    refine clc_Vl hC hw (c_X8_asForm ez3) hd_X8_asForm cw_X11_126 (Nat.le_of_ble_eq_true rfl) rfl rfl (rest := [.ref (ad 5)]) hl.1 rfl (Nat.le_of_ble_eq_true rfl) ⟨Nat.le_of_ble_eq_true rfl, Nat.le_of_ble_eq_true rfl⟩ ⟨Nat.zero_le _, Nat.zero_le _⟩ rfl dX11_wordFromText_21 (fun H locs hw => ?_)
    obtain ⟨z4, ez4, hf⟩ := bd_e hf
    refine clc_Vi hC hw (c_X9_addWord ez4) hd_X9_addWord cw_X11_130 (Nat.le_of_ble_eq_true rfl) rfl rfl (rest := []) hl.1 rfl (Nat.le_of_ble_eq_true rfl) ⟨Nat.le_of_ble_eq_true rfl, Nat.le_of_ble_eq_true rfl⟩ ⟨Nat.zero_le _, Nat.zero_le _⟩ rfl dX11_wordFromText_24 (fun H locs hw => ?_)
    refine lv_goto (tgt := 33) hx hb dX11_wordFromText_27 (by decide) ?_
    have hz := Option.some.inj hf
    subst hz
    exact rtc_i hC hw dX11_wordFromText_33
set_option maxRecDepth 100000 in
theorem c_X11_wordFromText {l : Launch} {D : va_G} {cy : Nat → ClassId} {z0 : Nat} {ad : Nat → Nat} {u : Nat × Nat} {X : va_W} {z : (Int32 × mm_M)} {M : mm_M} (hf : f_X11_wordFromText M = some z) : ct_i cx_T l yX11_wordFromText (Cond.code yX11_wordFromText cX11_wordFromText 2 (some .int)) 2 46 D cy z0 ad u M X [.ref (ad 0)] z.1 z.2 := by
  refine bgc_i (by decide) (fun p e s m below meth c hC hw => ?_)
  refine en_t (Nat.le_of_ble_eq_true rfl) (fun ls hl => ?_)
  have hl : lv_has ls 2 [(0, .ref (ad 0))] := hl
  exact k_X11_wordFromText hC hf hw hl
set_option maxRecDepth 100000 in
set_option maxHeartbeats 4000000 in
theorem k_X11_word_21 {p : Program} {l : Launch} {e : Env} {s : State} {m : MethodId} {args : Array Value} {below : List Frame} {meth : Method} {c : Code} {D : va_G} {cy : Nat → ClassId} {z0 : Nat} {ad : Nat → Nat} {X : va_W} {u : Nat × Nat} (hC : cx_C p s m args meth c cX11_word "RhymedThen" (Cond.code yX11_word cX11_word 2 (some .int)) 2 (some .int)) {z : (Int32 × mm_M)} {t0 : Int32} {M : mm_M} (hf : f_X11_word_21 t0 M = some z) {H : Heap} {locs : List Loc} (hw : wd_in cx_T D cy z0 ad u M X s H locs) {ls : Array Slot} (hl : lv_has ls 2 [(0, .ref (ad 0))]) : W p l e { frames := 3, cells := 0, slots := 0, locals := 67 } s m args below meth c H locs 0 0 (MQ below (cq_i cx_T D cy z0 ad u X z.1 z.2) args s 0 0 (fun q => z0 ≤ q)) (F0 m 21 ls [.int t0]) := by
  have hx := hC.1
  have hb := hC.2.1
  unfold f_X11_word_21 at hf
  refine lv_istore_n (lv' := [(1, .int t0), (0, .ref (ad 0))]) hx hb dX11_word_21 rfl hl (by decide) rfl (fun ls hl => ?_)
  refine lv_aload_n hx hb dX11_word_22 rfl (lv_at hl 1 rfl) ?_
  refine rg_p hC hw 0 (Nat.le_of_ble_eq_true rfl) rfl fd_X11_0 wf_X11_10 (q := 1) rfl dX11_word_23 ?_
  refine lv_iconst (v := 0) hx hb dX11_word_26 (by decide) ?_
  obtain ⟨z3, ez3, hf⟩ := sq_e hf
  refine clc_Vi hC hw (c_X8_cutTo ez3.symm) hd_X8_cutTo cw_X11_98 (Nat.le_of_ble_eq_true rfl) rfl rfl (rest := []) hl.1 rfl (Nat.le_of_ble_eq_true rfl) ⟨Nat.le_of_ble_eq_true rfl, Nat.le_of_ble_eq_true rfl⟩ ⟨Nat.zero_le _, Nat.zero_le _⟩ rfl dX11_word_27 (fun H locs hw => ?_)
  refine lv_pop hx hb dX11_word_30 rfl ?_
  refine lv_iload_n hx hb dX11_word_31 rfl (lv_at hl 0 rfl) ?_
  have hz := Option.some.inj hf
  subst hz
  exact rtc_i hC hw dX11_word_32
set_option maxRecDepth 100000 in
set_option maxHeartbeats 4000000 in
theorem k_X11_word {p : Program} {l : Launch} {e : Env} {s : State} {m : MethodId} {args : Array Value} {below : List Frame} {meth : Method} {c : Code} {D : va_G} {cy : Nat → ClassId} {z0 : Nat} {ad : Nat → Nat} {X : va_W} {u : Nat × Nat} (hC : cx_C p s m args meth c cX11_word "RhymedThen" (Cond.code yX11_word cX11_word 2 (some .int)) 2 (some .int)) {z : (Int32 × mm_M)} {M : mm_M} (hf : f_X11_word M = some z) {H : Heap} {locs : List Loc} (hw : wd_in cx_T D cy z0 ad u M X s H locs) {ls : Array Slot} (hl : lv_has ls 2 [(0, .ref (ad 0))]) : W p l e { frames := 3, cells := 0, slots := 0, locals := 67 } s m args below meth c H locs 0 0 (MQ below (cq_i cx_T D cy z0 ad u X z.1 z.2) args s 0 0 (fun q => z0 ≤ q)) (F0 m 0 ls []) := by
  have hx := hC.1
  have hb := hC.2.1
  unfold f_X11_word at hf
  refine lv_aload_n hx hb dX11_word_0 rfl (lv_at hl 0 rfl) ?_
  refine rg_p hC hw 0 (Nat.le_of_ble_eq_true rfl) rfl fd_X11_2 wf_X11_26 (q := 5) rfl dX11_word_1 ?_
  refine rg_i hC hw 5 (Nat.le_of_ble_eq_true rfl) rfl fd_X9_2 wf_X11_116 dX11_word_4 ?_
  refine lv_bipush (v := 20) hx hb dX11_word_7 (by decide) ?_
  refine lv_icmp_lt (tgt := 17) hx hb dX11_word_9 (by decide) (fun c1 => ?_) (fun c1 => ?_)
  · rw [if_pos c1] at hf
    refine lv_aload_n hx hb dX11_word_17 rfl (lv_at hl 0 rfl) ?_
    obtain ⟨z2, ez2, hf⟩ := bd_e hf
    refine clc_Vi hC hw (c_X11_wordFromText ez2) hd_X11_wordFromText cw_X11_119 (Nat.le_of_ble_eq_true rfl) rfl rfl (rest := []) hl.1 rfl (Nat.le_of_ble_eq_true rfl) ⟨Nat.le_of_ble_eq_true rfl, Nat.le_of_ble_eq_true rfl⟩ ⟨Nat.zero_le _, Nat.zero_le _⟩ rfl dX11_word_18 (fun H locs hw => ?_)
    exact k_X11_word_21 hC hf hw (lv_sub hl [0] rfl)
  · rw [if_neg c1] at hf
    refine lv_bipush (v := (-100)) hx hb dX11_word_12 (by decide) ?_
    refine lv_goto (tgt := 21) hx hb dX11_word_14 (by decide) ?_
    exact k_X11_word_21 hC hf hw (lv_sub hl [0] rfl)
set_option maxRecDepth 100000 in
theorem c_X11_word {l : Launch} {D : va_G} {cy : Nat → ClassId} {z0 : Nat} {ad : Nat → Nat} {u : Nat × Nat} {X : va_W} {z : (Int32 × mm_M)} {M : mm_M} (hf : f_X11_word M = some z) : ct_i cx_T l yX11_word (Cond.code yX11_word cX11_word 2 (some .int)) 3 67 D cy z0 ad u M X [.ref (ad 0)] z.1 z.2 := by
  refine bgc_i (by decide) (fun p e s m below meth c hC hw => ?_)
  refine en_t (Nat.le_of_ble_eq_true rfl) (fun ls hl => ?_)
  have hl : lv_has ls 2 [(0, .ref (ad 0))] := hl
  exact k_X11_word hC hf hw hl
set_option maxRecDepth 100000 in
set_option maxHeartbeats 4000000 in
theorem k_X11_yearsOfLaw {p : Program} {l : Launch} {e : Env} {s : State} {m : MethodId} {args : Array Value} {below : List Frame} {meth : Method} {c : Code} {T : wd_T} {D : va_G} {cy : Nat → ClassId} {z0 : Nat} {ad : Nat → Nat} {X : va_W} {M : mm_M} {u : Nat × Nat} (hC : cx_C p s m args meth c cX11_yearsOfLaw "RhymedThen" (Cond.code yX11_yearsOfLaw cX11_yearsOfLaw 3 (some .int)) 3 (some .int)) {z : Int32} {x0 : Int32} {x1 : Int32} {x2 : Int32} (hf : f_X11_yearsOfLaw x0 x1 x2 = some z) {H : Heap} {locs : List Loc} (hw : wd_in T D cy z0 ad u M X s H locs) {ls : Array Slot} (hl : lv_has ls 3 [(0, .int x0), (1, .int x1), (2, .int x2)]) : W p l e { frames := 0, cells := 0, slots := 0, locals := 0 } s m args below meth c H locs 0 0 (MQ below (cq_i T D cy z0 ad u X z M) args s 0 0 (fun q => z0 ≤ q)) (F0 m 0 ls []) := by
  have hx := hC.1
  have hb := hC.2.1
  unfold f_X11_yearsOfLaw at hf
  refine lv_iload_n hx hb dX11_yearsOfLaw_0 rfl (lv_at hl 0 rfl) ?_
  refine lv_if_lt (tgt := 21) hx hb dX11_yearsOfLaw_1 (by decide) (fun c1 => ?_) (fun c1 => ?_)
  · rw [if_pos c1] at hf
    refine lv_iconst (v := 0) hx hb dX11_yearsOfLaw_21 (by decide) ?_
    have hz := Option.some.inj hf
    subst hz
    exact rtc_i hC hw dX11_yearsOfLaw_22
  · rw [if_neg c1] at hf
    refine lv_iload_n hx hb dX11_yearsOfLaw_4 rfl (lv_at hl 1 rfl) ?_
    refine lv_sipush (v := 400) hx hb dX11_yearsOfLaw_5 (by decide) ?_
    refine lv_icmp_gt (tgt := 21) hx hb dX11_yearsOfLaw_8 (by decide) (fun c2 => ?_) (fun c2 => ?_)
    · rw [if_pos c2] at hf
      refine lv_iconst (v := 0) hx hb dX11_yearsOfLaw_21 (by decide) ?_
      have hz := Option.some.inj hf
      subst hz
      exact rtc_i hC hw dX11_yearsOfLaw_22
    · rw [if_neg c2] at hf
      refine lv_iload_n hx hb dX11_yearsOfLaw_11 rfl (lv_at hl 1 rfl) ?_
      refine lv_iload_n hx hb dX11_yearsOfLaw_12 rfl (lv_at hl 0 rfl) ?_
      refine lv_icmp_lt (tgt := 21) hx hb dX11_yearsOfLaw_13 (by decide) (fun c3 => ?_) (fun c3 => ?_)
      · rw [if_pos c3] at hf
        refine lv_iconst (v := 0) hx hb dX11_yearsOfLaw_21 (by decide) ?_
        have hz := Option.some.inj hf
        subst hz
        exact rtc_i hC hw dX11_yearsOfLaw_22
      · rw [if_neg c3] at hf
        refine lv_iload_n hx hb dX11_yearsOfLaw_16 rfl (lv_at hl 2 rfl) ?_
        refine lv_iconst (v := 1) hx hb dX11_yearsOfLaw_17 (by decide) ?_
        refine lv_icmp_ge (tgt := 23) hx hb dX11_yearsOfLaw_18 (by decide) (fun c4 => ?_) (fun c4 => ?_)
        · rw [if_pos c4] at hf
          refine lv_iload_n hx hb dX11_yearsOfLaw_23 rfl (lv_at hl 1 rfl) ?_
          refine lv_iload_n hx hb dX11_yearsOfLaw_24 rfl (lv_at hl 0 rfl) ?_
          refine lv_isub hx hb dX11_yearsOfLaw_25 ?_
          refine lv_iload_n hx hb dX11_yearsOfLaw_26 rfl (lv_at hl 2 rfl) ?_
          obtain ⟨h5, hf⟩ := ck_e hf
          refine lv_idiv hx hb dX11_yearsOfLaw_27 h5 ?_
          refine lv_iconst (v := 1) hx hb dX11_yearsOfLaw_28 (by decide) ?_
          refine lv_iadd hx hb dX11_yearsOfLaw_29 ?_
          have hz := Option.some.inj hf
          subst hz
          exact rtc_i hC hw dX11_yearsOfLaw_30
        · rw [if_neg c4] at hf
          refine lv_iconst (v := 0) hx hb dX11_yearsOfLaw_21 (by decide) ?_
          have hz := Option.some.inj hf
          subst hz
          exact rtc_i hC hw dX11_yearsOfLaw_22
set_option maxRecDepth 100000 in
theorem c_X11_yearsOfLaw {l : Launch} {T : wd_T} {D : va_G} {cy : Nat → ClassId} {z0 : Nat} {ad : Nat → Nat} {u : Nat × Nat} {X : va_W} {z : Int32} {x0 : Int32} {x1 : Int32} {x2 : Int32} {M : mm_M} (hf : f_X11_yearsOfLaw x0 x1 x2 = some z) : ct_i T l yX11_yearsOfLaw (Cond.code yX11_yearsOfLaw cX11_yearsOfLaw 3 (some .int)) 0 0 D cy z0 ad u M X [.int x0, .int x1, .int x2] z M := by
  refine bgc_i (by decide) (fun p e s m below meth c hC hw => ?_)
  refine en_t (Nat.le_of_ble_eq_true rfl) (fun ls hl => ?_)
  have hl : lv_has ls 3 [(0, .int x0), (1, .int x1), (2, .int x2)] := hl
  exact k_X11_yearsOfLaw hC hf hw hl
set_option maxRecDepth 100000 in
set_option maxHeartbeats 4000000 in
theorem k_X8_signAt {p : Program} {l : Launch} {e : Env} {s : State} {m : MethodId} {args : Array Value} {below : List Frame} {meth : Method} {c : Code} {D : va_G} {cy : Nat → ClassId} {z0 : Nat} {ad : Nat → Nat} {X : va_W} {u : Nat × Nat} (hC : cx_C p s m args meth c cX8_signAt "RhymedThen$Text" (Cond.code yX8_signAt cX8_signAt 2 (some .int)) 2 (some .int)) {z : Int32} {x1 : Int32} {M : mm_M} (hf : f_X8_signAt x1 M = some z) {H : Heap} {locs : List Loc} (hw : wd_in cx_T D cy z0 ad u M X s H locs) {ls : Array Slot} (hl : lv_has ls 2 [(0, .ref (ad 1)), (1, .int x1)]) : W p l e { frames := 0, cells := 0, slots := 0, locals := 0 } s m args below meth c H locs 0 0 (MQ below (cq_i cx_T D cy z0 ad u X z M) args s 0 0 (fun q => z0 ≤ q)) (F0 m 0 ls []) := by
  have hx := hC.1
  have hb := hC.2.1
  unfold f_X8_signAt at hf
  refine lv_iload_n hx hb dX8_signAt_0 rfl (lv_at hl 1 rfl) ?_
  refine lv_aload_n hx hb dX8_signAt_1 rfl (lv_at hl 0 rfl) ?_
  refine rg_i hC hw 1 (Nat.le_of_ble_eq_true rfl) rfl fd_X8_1 wf_X8_15 dX8_signAt_2 ?_
  refine lv_icmp_ge (tgt := 17) hx hb dX8_signAt_5 (by decide) (fun c1 => ?_) (fun c1 => ?_)
  · rw [if_pos c1] at hf
    refine lv_iconst (v := (-1)) hx hb dX8_signAt_17 (by decide) ?_
    have hz := Option.some.inj hf
    subst hz
    exact rtc_i hC hw dX8_signAt_18
  · rw [if_neg c1] at hf
    refine lv_aload_n hx hb dX8_signAt_8 rfl (lv_at hl 0 rfl) ?_
    refine rg_p hC hw 1 (Nat.le_of_ble_eq_true rfl) rfl fd_X8_0 wf_X8_11 (q := 2) rfl dX8_signAt_9 ?_
    refine lv_iload_n hx hb dX8_signAt_12 rfl (lv_at hl 1 rfl) ?_
    obtain ⟨h2, hf⟩ := ck_e hf
    refine ra_i hC hw 2 (Nat.le_of_ble_eq_true rfl) rfl h2 dX8_signAt_13 ?_
    refine lv_goto (tgt := 18) hx hb dX8_signAt_14 (by decide) ?_
    have hz := Option.some.inj hf
    subst hz
    exact rtc_i hC hw dX8_signAt_18
set_option maxRecDepth 100000 in
theorem c_X8_signAt {l : Launch} {D : va_G} {cy : Nat → ClassId} {z0 : Nat} {ad : Nat → Nat} {u : Nat × Nat} {X : va_W} {z : Int32} {x1 : Int32} {M : mm_M} (hf : f_X8_signAt x1 M = some z) : ct_i cx_T l yX8_signAt (Cond.code yX8_signAt cX8_signAt 2 (some .int)) 0 0 D cy z0 ad u M X [.ref (ad 1), .int x1] z M := by
  refine bgc_i (by decide) (fun p e s m below meth c hC hw => ?_)
  refine en_t (Nat.le_of_ble_eq_true rfl) (fun ls hl => ?_)
  have hl : lv_has ls 2 [(0, .ref (ad 1)), (1, .int x1)] := hl
  exact k_X8_signAt hC hf hw hl
set_option maxRecDepth 100000 in
set_option maxHeartbeats 4000000 in
theorem k_X8_isSoundOrClass_19 {p : Program} {l : Launch} {e : Env} {s : State} {m : MethodId} {args : Array Value} {below : List Frame} {meth : Method} {c : Code} {T : wd_T} {D : va_G} {cy : Nat → ClassId} {z0 : Nat} {ad : Nat → Nat} {X : va_W} {M : mm_M} {u : Nat × Nat} (hC : cx_C p s m args meth c cX8_isSoundOrClass "RhymedThen$Text" (Cond.code yX8_isSoundOrClass cX8_isSoundOrClass 1 (some .boolean)) 1 (some .boolean)) {z : Int32} (hf : f_X8_isSoundOrClass_19 = z) {H : Heap} {locs : List Loc} (hw : wd_in T D cy z0 ad u M X s H locs) {ls : Array Slot} (hl : lv_has ls 1 []) : W p l e { frames := 1, cells := 0, slots := 0, locals := 20 } s m args below meth c H locs 0 0 (MQ below (cq_i T D cy z0 ad u X z M) args s 0 0 (fun q => z0 ≤ q)) (F0 m 19 ls []) := by
  have hx := hC.1
  have hb := hC.2.1
  unfold f_X8_isSoundOrClass_19 at hf
  refine lv_iconst (v := 1) hx hb dX8_isSoundOrClass_19 (by decide) ?_
  refine lv_goto (tgt := 24) hx hb dX8_isSoundOrClass_20 (by decide) ?_
  subst hf
  exact rtc_z hC hw (Or.inr rfl) dX8_isSoundOrClass_24
set_option maxRecDepth 100000 in
set_option maxHeartbeats 4000000 in
theorem k_X8_isSoundOrClass {p : Program} {l : Launch} {e : Env} {s : State} {m : MethodId} {args : Array Value} {below : List Frame} {meth : Method} {c : Code} {T : wd_T} {D : va_G} {cy : Nat → ClassId} {z0 : Nat} {ad : Nat → Nat} {X : va_W} {M : mm_M} {u : Nat × Nat} (hC : cx_C p s m args meth c cX8_isSoundOrClass "RhymedThen$Text" (Cond.code yX8_isSoundOrClass cX8_isSoundOrClass 1 (some .boolean)) 1 (some .boolean)) {z : Int32} {x0 : Int32} (hf : f_X8_isSoundOrClass x0 = z) {H : Heap} {locs : List Loc} (hw : wd_in T D cy z0 ad u M X s H locs) {ls : Array Slot} (hl : lv_has ls 1 [(0, .int x0)]) : W p l e { frames := 1, cells := 0, slots := 0, locals := 20 } s m args below meth c H locs 0 0 (MQ below (cq_i T D cy z0 ad u X z M) args s 0 0 (fun q => z0 ≤ q)) (F0 m 0 ls []) := by
  have hx := hC.1
  have hb := hC.2.1
  unfold f_X8_isSoundOrClass at hf
  refine lv_iload_n hx hb dX8_isSoundOrClass_0 rfl (lv_at hl 0 rfl) ?_
  obtain ⟨z1, ez1, hf⟩ := sq_e hf
  refine clc_Si hC hw (c_X8_isSound ez1.symm) hd_X8_isSound cw_X8_19 (rest := []) hl.1 rfl (Nat.le_of_ble_eq_true rfl) ⟨Nat.le_of_ble_eq_true rfl, Nat.le_of_ble_eq_true rfl⟩ ⟨Nat.zero_le _, Nat.zero_le _⟩ rfl dX8_isSoundOrClass_1 (fun H locs hw => ?_)
  refine lv_if_ne (tgt := 19) hx hb dX8_isSoundOrClass_4 (by decide) (fun c2 => ?_) (fun c2 => ?_)
  · rw [if_neg c2] at hf
    exact k_X8_isSoundOrClass_19 hC hf hw (lv_sub hl [] rfl)
  · rw [if_pos c2] at hf
    refine lv_iload_n hx hb dX8_isSoundOrClass_7 rfl (lv_at hl 0 rfl) ?_
    refine lv_bipush (v := 65) hx hb dX8_isSoundOrClass_8 (by decide) ?_
    refine lv_icmp_lt (tgt := 23) hx hb dX8_isSoundOrClass_10 (by decide) (fun c3 => ?_) (fun c3 => ?_)
    · rw [if_pos c3] at hf
      refine lv_iconst (v := 0) hx hb dX8_isSoundOrClass_23 (by decide) ?_
      subst hf
      exact rtc_z hC hw (Or.inl rfl) dX8_isSoundOrClass_24
    · rw [if_neg c3] at hf
      refine lv_iload_n hx hb dX8_isSoundOrClass_13 rfl (lv_at hl 0 rfl) ?_
      refine lv_bipush (v := 70) hx hb dX8_isSoundOrClass_14 (by decide) ?_
      refine lv_icmp_gt (tgt := 23) hx hb dX8_isSoundOrClass_16 (by decide) (fun c4 => ?_) (fun c4 => ?_)
      · rw [if_pos c4] at hf
        refine lv_iconst (v := 0) hx hb dX8_isSoundOrClass_23 (by decide) ?_
        subst hf
        exact rtc_z hC hw (Or.inl rfl) dX8_isSoundOrClass_24
      · rw [if_neg c4] at hf
        exact k_X8_isSoundOrClass_19 hC hf hw (lv_sub hl [] rfl)
set_option maxRecDepth 100000 in
theorem c_X8_isSoundOrClass {l : Launch} {T : wd_T} {D : va_G} {cy : Nat → ClassId} {z0 : Nat} {ad : Nat → Nat} {u : Nat × Nat} {X : va_W} {z : Int32} {x0 : Int32} {M : mm_M} (hf : f_X8_isSoundOrClass x0 = z) : ct_i T l yX8_isSoundOrClass (Cond.code yX8_isSoundOrClass cX8_isSoundOrClass 1 (some .boolean)) 1 20 D cy z0 ad u M X [.int x0] z M := by
  refine bgc_i (by decide) (fun p e s m below meth c hC hw => ?_)
  refine en_t (Nat.le_of_ble_eq_true rfl) (fun ls hl => ?_)
  have hl : lv_has ls 1 [(0, .int x0)] := hl
  exact k_X8_isSoundOrClass hC hf hw hl
set_option maxRecDepth 100000 in
set_option maxHeartbeats 4000000 in
theorem k_X2_isSide_13 {p : Program} {l : Launch} {e : Env} {s : State} {m : MethodId} {args : Array Value} {below : List Frame} {meth : Method} {c : Code} {T : wd_T} {D : va_G} {cy : Nat → ClassId} {z0 : Nat} {ad : Nat → Nat} {X : va_W} {M : mm_M} {u : Nat × Nat} (hC : cx_C p s m args meth c cX2_isSide "RhymedThen$Law" (Cond.code yX2_isSide cX2_isSide 1 (some .boolean)) 1 (some .boolean)) {z : Int32} (hf : f_X2_isSide_13 = z) {H : Heap} {locs : List Loc} (hw : wd_in T D cy z0 ad u M X s H locs) {ls : Array Slot} (hl : lv_has ls 1 []) : W p l e { frames := 2, cells := 0, slots := 0, locals := 40 } s m args below meth c H locs 0 0 (MQ below (cq_i T D cy z0 ad u X z M) args s 0 0 (fun q => z0 ≤ q)) (F0 m 13 ls []) := by
  have hx := hC.1
  have hb := hC.2.1
  unfold f_X2_isSide_13 at hf
  refine lv_iconst (v := 1) hx hb dX2_isSide_13 (by decide) ?_
  refine lv_goto (tgt := 18) hx hb dX2_isSide_14 (by decide) ?_
  subst hf
  exact rtc_z hC hw (Or.inr rfl) dX2_isSide_18
set_option maxRecDepth 100000 in
set_option maxHeartbeats 4000000 in
theorem k_X2_isSide {p : Program} {l : Launch} {e : Env} {s : State} {m : MethodId} {args : Array Value} {below : List Frame} {meth : Method} {c : Code} {T : wd_T} {D : va_G} {cy : Nat → ClassId} {z0 : Nat} {ad : Nat → Nat} {X : va_W} {M : mm_M} {u : Nat × Nat} (hC : cx_C p s m args meth c cX2_isSide "RhymedThen$Law" (Cond.code yX2_isSide cX2_isSide 1 (some .boolean)) 1 (some .boolean)) {z : Int32} {x0 : Int32} (hf : f_X2_isSide x0 = z) {H : Heap} {locs : List Loc} (hw : wd_in T D cy z0 ad u M X s H locs) {ls : Array Slot} (hl : lv_has ls 1 [(0, .int x0)]) : W p l e { frames := 2, cells := 0, slots := 0, locals := 40 } s m args below meth c H locs 0 0 (MQ below (cq_i T D cy z0 ad u X z M) args s 0 0 (fun q => z0 ≤ q)) (F0 m 0 ls []) := by
  have hx := hC.1
  have hb := hC.2.1
  unfold f_X2_isSide at hf
  refine lv_iload_n hx hb dX2_isSide_0 rfl (lv_at hl 0 rfl) ?_
  refine lv_bipush (v := 35) hx hb dX2_isSide_1 (by decide) ?_
  refine lv_icmp_eq (tgt := 13) hx hb dX2_isSide_3 (by decide) (fun c1 => ?_) (fun c1 => ?_)
  · rw [if_pos c1] at hf
    exact k_X2_isSide_13 hC hf hw (lv_sub hl [] rfl)
  · rw [if_neg c1] at hf
    refine lv_iload_n hx hb dX2_isSide_6 rfl (lv_at hl 0 rfl) ?_
    obtain ⟨z2, ez2, hf⟩ := sq_e hf
    refine clc_Si hC hw (c_X8_isSoundOrClass ez2.symm) hd_X8_isSoundOrClass cw_X2_19 (rest := []) hl.1 rfl (Nat.le_of_ble_eq_true rfl) ⟨Nat.le_of_ble_eq_true rfl, Nat.le_of_ble_eq_true rfl⟩ ⟨Nat.zero_le _, Nat.zero_le _⟩ rfl dX2_isSide_7 (fun H locs hw => ?_)
    refine lv_if_eq (tgt := 17) hx hb dX2_isSide_10 (by decide) (fun c3 => ?_) (fun c3 => ?_)
    · rw [if_pos c3] at hf
      refine lv_iconst (v := 0) hx hb dX2_isSide_17 (by decide) ?_
      subst hf
      exact rtc_z hC hw (Or.inl rfl) dX2_isSide_18
    · rw [if_neg c3] at hf
      exact k_X2_isSide_13 hC hf hw (lv_sub hl [] rfl)
set_option maxRecDepth 100000 in
theorem c_X2_isSide {l : Launch} {T : wd_T} {D : va_G} {cy : Nat → ClassId} {z0 : Nat} {ad : Nat → Nat} {u : Nat × Nat} {X : va_W} {z : Int32} {x0 : Int32} {M : mm_M} (hf : f_X2_isSide x0 = z) : ct_i T l yX2_isSide (Cond.code yX2_isSide cX2_isSide 1 (some .boolean)) 2 40 D cy z0 ad u M X [.int x0] z M := by
  refine bgc_i (by decide) (fun p e s m below meth c hC hw => ?_)
  refine en_t (Nat.le_of_ble_eq_true rfl) (fun ls hl => ?_)
  have hl : lv_has ls 1 [(0, .int x0)] := hl
  exact k_X2_isSide hC hf hw hl
set_option maxRecDepth 100000 in
set_option maxHeartbeats 4000000 in
theorem k_X2_overAt {p : Program} {l : Launch} {e : Env} {s : State} {m : MethodId} {args : Array Value} {below : List Frame} {meth : Method} {c : Code} {D : va_G} {cy : Nat → ClassId} {z0 : Nat} {ad : Nat → Nat} {X : va_W} {u : Nat × Nat} (hC : cx_C p s m args meth c cX2_overAt "RhymedThen$Law" (Cond.code yX2_overAt cX2_overAt 2 (some .int)) 2 (some .int)) {z : Int32} {x1 : Int32} {M : mm_M} (hf : f_X2_overAt x1 M = some z) {H : Heap} {locs : List Loc} (hw : wd_in cx_T D cy z0 ad u M X s H locs) {ls : Array Slot} (hl : lv_has ls 2 [(0, .ref (ad 1)), (1, .int x1)]) : W p l e { frames := 1, cells := 0, slots := 0, locals := 21 } s m args below meth c H locs 0 0 (MQ below (cq_i cx_T D cy z0 ad u X z M) args s 0 0 (fun q => z0 ≤ q)) (F0 m 0 ls []) := by
  have hx := hC.1
  have hb := hC.2.1
  unfold f_X2_overAt at hf
  refine lv_aload_n hx hb dX2_overAt_0 rfl (lv_at hl 0 rfl) ?_
  refine lv_iload_n hx hb dX2_overAt_1 rfl (lv_at hl 1 rfl) ?_
  obtain ⟨z1, ez1, hf⟩ := bd_e hf
  refine clc_Vi hC hw (c_X8_signAt ez1) hd_X8_signAt cw_X2_9 (Nat.le_of_ble_eq_true rfl) rfl rfl (rest := []) hl.1 rfl (Nat.le_of_ble_eq_true rfl) ⟨Nat.le_of_ble_eq_true rfl, Nat.le_of_ble_eq_true rfl⟩ ⟨Nat.zero_le _, Nat.zero_le _⟩ rfl dX2_overAt_2 (fun H locs hw => ?_)
  refine lv_iconst (v := (-1)) hx hb dX2_overAt_5 (by decide) ?_
  refine lv_icmp_ne (tgt := 13) hx hb dX2_overAt_6 (by decide) (fun c2 => ?_) (fun c2 => ?_)
  · rw [if_neg c2] at hf
    refine lv_iload_n hx hb dX2_overAt_13 rfl (lv_at hl 1 rfl) ?_
    have hz := Option.some.inj hf
    subst hz
    exact rtc_i hC hw dX2_overAt_14
  · rw [if_pos c2] at hf
    refine lv_iconst (v := (-1)) hx hb dX2_overAt_9 (by decide) ?_
    refine lv_goto (tgt := 14) hx hb dX2_overAt_10 (by decide) ?_
    have hz := Option.some.inj hf
    subst hz
    exact rtc_i hC hw dX2_overAt_14
set_option maxRecDepth 100000 in
theorem c_X2_overAt {l : Launch} {D : va_G} {cy : Nat → ClassId} {z0 : Nat} {ad : Nat → Nat} {u : Nat × Nat} {X : va_W} {z : Int32} {x1 : Int32} {M : mm_M} (hf : f_X2_overAt x1 M = some z) : ct_i cx_T l yX2_overAt (Cond.code yX2_overAt cX2_overAt 2 (some .int)) 1 21 D cy z0 ad u M X [.ref (ad 1), .int x1] z M := by
  refine bgc_i (by decide) (fun p e s m below meth c hC hw => ?_)
  refine en_t (Nat.le_of_ble_eq_true rfl) (fun ls hl => ?_)
  have hl : lv_has ls 2 [(0, .ref (ad 1)), (1, .int x1)] := hl
  exact k_X2_overAt hC hf hw hl
set_option maxRecDepth 100000 in
set_option maxHeartbeats 4000000 in
theorem k_X2_readSides_63 {p : Program} {l : Launch} {e : Env} {s : State} {m : MethodId} {args : Array Value} {below : List Frame} {meth : Method} {c : Code} {D : va_G} {cy : Nat → ClassId} {z0 : Nat} {ad : Nat → Nat} {X : va_W} {u : Nat × Nat} (hC : cx_C p s m args meth c cX2_readSides "RhymedThen$Law" (Cond.code yX2_readSides cX2_readSides 4 (some .int)) 4 (some .int)) {z : (Int32 × mm_M)} {x3 : Int32} {M : mm_M} (hf : f_X2_readSides_63 x3 M = some z) {H : Heap} {locs : List Loc} (hw : wd_in cx_T D cy z0 ad u M X s H locs) {ls : Array Slot} (hl : lv_has ls 4 [(1, .ref (ad 1)), (3, .int x3)]) : W p l e { frames := 3, cells := 0, slots := 0, locals := 60 } s m args below meth c H locs 0 0 (MQ below (cq_i cx_T D cy z0 ad u X z.1 z.2) args s 0 0 (fun q => z0 ≤ q)) (F0 m 63 ls []) := by
  have hx := hC.1
  have hb := hC.2.1
  unfold f_X2_readSides_63 at hf
  refine lv_aload_n hx hb dX2_readSides_63 rfl (lv_at hl 0 rfl) ?_
  refine lv_iload_n hx hb dX2_readSides_64 rfl (lv_at hl 1 rfl) ?_
  obtain ⟨z16, ez16, hf⟩ := bd_e hf
  refine clc_Si hC hw (c_X2_overAt ez16) hd_X2_overAt cw_X2_39 (rest := []) hl.1 rfl (Nat.le_of_ble_eq_true rfl) ⟨Nat.le_of_ble_eq_true rfl, Nat.le_of_ble_eq_true rfl⟩ ⟨Nat.zero_le _, Nat.zero_le _⟩ rfl dX2_readSides_65 (fun H locs hw => ?_)
  have hz := Option.some.inj hf
  subst hz
  exact rtc_i hC hw dX2_readSides_68
set_option maxRecDepth 100000 in
set_option maxHeartbeats 4000000 in
theorem k_X2_readSides_25 {p : Program} {l : Launch} {e : Env} {s : State} {m : MethodId} {args : Array Value} {below : List Frame} {meth : Method} {c : Code} {D : va_G} {cy : Nat → ClassId} {z0 : Nat} {ad : Nat → Nat} {X : va_W} {u : Nat × Nat} (hC : cx_C p s m args meth c cX2_readSides "RhymedThen$Law" (Cond.code yX2_readSides cX2_readSides 4 (some .int)) 4 (some .int)) {z : (Int32 × mm_M)} {k0 : Nat} {x3 : Int32} {M : mm_M} (hk0 : lw_ok k0) (hf : f_X2_readSides_25 k0 x3 M = some z) {H : Heap} {locs : List Loc} (hw : wd_in cx_T D cy z0 ad u M X s H locs) {ls : Array Slot} (hl : lv_has ls 4 [(0, .ref (ad k0)), (1, .ref (ad 1)), (3, .int x3)]) : W p l e { frames := 3, cells := 0, slots := 0, locals := 60 } s m args below meth c H locs 0 0 (MQ below (cq_i cx_T D cy z0 ad u X z.1 z.2) args s 0 0 (fun q => z0 ≤ q)) (F0 m 25 ls []) := by
  have hx := hC.1
  have hb := hC.2.1
  unfold f_X2_readSides_25 at hf
  refine lv_aload_n hx hb dX2_readSides_25 rfl (lv_at hl 1 rfl) ?_
  refine lv_iload_n hx hb dX2_readSides_26 rfl (lv_at hl 2 rfl) ?_
  obtain ⟨z7, ez7, hf⟩ := bd_e hf
  refine clc_Vi hC hw (c_X8_signAt ez7) hd_X8_signAt cw_X2_9 (Nat.le_of_ble_eq_true rfl) rfl rfl (rest := []) hl.1 rfl (Nat.le_of_ble_eq_true rfl) ⟨Nat.le_of_ble_eq_true rfl, Nat.le_of_ble_eq_true rfl⟩ ⟨Nat.zero_le _, Nat.zero_le _⟩ rfl dX2_readSides_27 (fun H locs hw => ?_)
  refine lv_bipush (v := 95) hx hb dX2_readSides_30 (by decide) ?_
  refine lv_icmp_eq (tgt := 37) hx hb dX2_readSides_32 (by decide) (fun c8 => ?_) (fun c8 => ?_)
  · rw [if_pos c8] at hf
    obtain ⟨y9, ey9, hf⟩ := sq_e hf
    refine lv_iinc (v := y9) (lv' := [(3, .int y9), (0, .ref (ad k0)), (1, .ref (ad 1))]) hx hb dX2_readSides_37 hl (k := 2) rfl (by rw [ey9]; rfl) (by decide) rfl (fun ls hl => ?_)
    refine lv_aload_n hx hb dX2_readSides_40 rfl (lv_at hl 2 rfl) ?_
    refine lv_iload_n hx hb dX2_readSides_41 rfl (lv_at hl 0 rfl) ?_
    obtain ⟨z10, ez10, hf⟩ := bd_e hf
    refine clc_Vi hC hw (c_X8_signAt ez10) hd_X8_signAt cw_X2_9 (Nat.le_of_ble_eq_true rfl) rfl rfl (rest := []) hl.1 rfl (Nat.le_of_ble_eq_true rfl) ⟨Nat.le_of_ble_eq_true rfl, Nat.le_of_ble_eq_true rfl⟩ ⟨Nat.zero_le _, Nat.zero_le _⟩ rfl dX2_readSides_42 (fun H locs hw => ?_)
    obtain ⟨z11, ez11, hf⟩ := sq_e hf
    refine clc_Si hC hw (c_X2_isSide ez11.symm) hd_X2_isSide cw_X2_42 (rest := []) hl.1 rfl (Nat.le_of_ble_eq_true rfl) ⟨Nat.le_of_ble_eq_true rfl, Nat.le_of_ble_eq_true rfl⟩ ⟨Nat.zero_le _, Nat.zero_le _⟩ rfl dX2_readSides_45 (fun H locs hw => ?_)
    refine lv_if_eq (tgt := 63) hx hb dX2_readSides_48 (by decide) (fun c12 => ?_) (fun c12 => ?_)
    · rw [if_pos c12] at hf
      exact k_X2_readSides_63 hC hf hw (lv_sub hl [2, 0] rfl)
    · rw [if_neg c12] at hf
      refine lv_aload_n hx hb dX2_readSides_51 rfl (lv_at hl 1 rfl) ?_
      refine lv_aload_n hx hb dX2_readSides_52 rfl (lv_at hl 2 rfl) ?_
      refine lv_iload_n hx hb dX2_readSides_53 rfl (lv_at hl 0 rfl) ?_
      obtain ⟨z13, ez13, hf⟩ := bd_e hf
      refine clc_Vi hC hw (c_X8_signAt ez13) hd_X8_signAt cw_X2_9 (Nat.le_of_ble_eq_true rfl) rfl rfl (rest := [.ref (ad k0)]) hl.1 rfl (Nat.le_of_ble_eq_true rfl) ⟨Nat.le_of_ble_eq_true rfl, Nat.le_of_ble_eq_true rfl⟩ ⟨Nat.zero_le _, Nat.zero_le _⟩ rfl dX2_readSides_54 (fun H locs hw => ?_)
      obtain ⟨M14, eM14, hf⟩ := sq_e hf
      refine rp_i hC hw k0 (lw_lt hk0) (lw_kd hk0) fd_X2_2 wf_X2_32 fp_X2_2 rfl rfl dX2_readSides_57 eM14 (fun H locs hw => ?_)
      obtain ⟨y15, ey15, hf⟩ := sq_e hf
      refine lv_iinc (v := y15) (lv' := [(3, .int y15), (0, .ref (ad k0)), (1, .ref (ad 1))]) hx hb dX2_readSides_60 hl (k := 0) rfl (by rw [ey15]; rfl) (by decide) rfl (fun ls hl => ?_)
      exact k_X2_readSides_63 hC hf hw (lv_sub hl [2, 0] rfl)
  · rw [if_neg c8] at hf
    refine lv_iload_n hx hb dX2_readSides_35 rfl (lv_at hl 2 rfl) ?_
    have hz := Option.some.inj hf
    subst hz
    exact rtc_i hC hw dX2_readSides_36
set_option maxRecDepth 100000 in
set_option maxHeartbeats 4000000 in
theorem k_X2_readSides {p : Program} {l : Launch} {e : Env} {s : State} {m : MethodId} {args : Array Value} {below : List Frame} {meth : Method} {c : Code} {D : va_G} {cy : Nat → ClassId} {z0 : Nat} {ad : Nat → Nat} {X : va_W} {u : Nat × Nat} (hC : cx_C p s m args meth c cX2_readSides "RhymedThen$Law" (Cond.code yX2_readSides cX2_readSides 4 (some .int)) 4 (some .int)) {z : (Int32 × mm_M)} {k0 : Nat} {x2 : Int32} {M : mm_M} (hk0 : lw_ok k0) (hf : f_X2_readSides k0 x2 M = some z) {H : Heap} {locs : List Loc} (hw : wd_in cx_T D cy z0 ad u M X s H locs) {ls : Array Slot} (hl : lv_has ls 4 [(0, .ref (ad k0)), (1, .ref (ad 1)), (2, .int x2)]) : W p l e { frames := 3, cells := 0, slots := 0, locals := 60 } s m args below meth c H locs 0 0 (MQ below (cq_i cx_T D cy z0 ad u X z.1 z.2) args s 0 0 (fun q => z0 ≤ q)) (F0 m 0 ls []) := by
  have hx := hC.1
  have hb := hC.2.1
  unfold f_X2_readSides at hf
  refine lv_iload_n hx hb dX2_readSides_0 rfl (lv_at hl 2 rfl) ?_
  refine lv_istore_n (lv' := [(3, .int x2), (0, .ref (ad k0)), (1, .ref (ad 1)), (2, .int x2)]) hx hb dX2_readSides_1 rfl hl (by decide) rfl (fun ls hl => ?_)
  refine lv_aload_n hx hb dX2_readSides_2 rfl (lv_at hl 2 rfl) ?_
  refine lv_iload_n hx hb dX2_readSides_3 rfl (lv_at hl 0 rfl) ?_
  obtain ⟨z1, ez1, hf⟩ := bd_e hf
  refine clc_Vi hC hw (c_X8_signAt ez1) hd_X8_signAt cw_X2_9 (Nat.le_of_ble_eq_true rfl) rfl rfl (rest := []) hl.1 rfl (Nat.le_of_ble_eq_true rfl) ⟨Nat.le_of_ble_eq_true rfl, Nat.le_of_ble_eq_true rfl⟩ ⟨Nat.zero_le _, Nat.zero_le _⟩ rfl dX2_readSides_4 (fun H locs hw => ?_)
  obtain ⟨z2, ez2, hf⟩ := sq_e hf
  refine clc_Si hC hw (c_X2_isSide ez2.symm) hd_X2_isSide cw_X2_42 (rest := []) hl.1 rfl (Nat.le_of_ble_eq_true rfl) ⟨Nat.le_of_ble_eq_true rfl, Nat.le_of_ble_eq_true rfl⟩ ⟨Nat.zero_le _, Nat.zero_le _⟩ rfl dX2_readSides_7 (fun H locs hw => ?_)
  refine lv_if_eq (tgt := 25) hx hb dX2_readSides_10 (by decide) (fun c3 => ?_) (fun c3 => ?_)
  · rw [if_pos c3] at hf
    exact k_X2_readSides_25 hC hk0 hf hw (lv_sub hl [1, 2, 0] rfl)
  · rw [if_neg c3] at hf
    refine lv_aload_n hx hb dX2_readSides_13 rfl (lv_at hl 1 rfl) ?_
    refine lv_aload_n hx hb dX2_readSides_14 rfl (lv_at hl 2 rfl) ?_
    refine lv_iload_n hx hb dX2_readSides_15 rfl (lv_at hl 0 rfl) ?_
    obtain ⟨z4, ez4, hf⟩ := bd_e hf
    refine clc_Vi hC hw (c_X8_signAt ez4) hd_X8_signAt cw_X2_9 (Nat.le_of_ble_eq_true rfl) rfl rfl (rest := [.ref (ad k0)]) hl.1 rfl (Nat.le_of_ble_eq_true rfl) ⟨Nat.le_of_ble_eq_true rfl, Nat.le_of_ble_eq_true rfl⟩ ⟨Nat.zero_le _, Nat.zero_le _⟩ rfl dX2_readSides_16 (fun H locs hw => ?_)
    obtain ⟨M5, eM5, hf⟩ := sq_e hf
    refine rp_i hC hw k0 (lw_lt hk0) (lw_kd hk0) fd_X2_1 wf_X2_29 fp_X2_1 rfl rfl dX2_readSides_19 eM5 (fun H locs hw => ?_)
    obtain ⟨y6, ey6, hf⟩ := sq_e hf
    refine lv_iinc (v := y6) (lv' := [(3, .int y6), (0, .ref (ad k0)), (1, .ref (ad 1)), (2, .int x2)]) hx hb dX2_readSides_22 hl (k := 0) rfl (by rw [ey6]; rfl) (by decide) rfl (fun ls hl => ?_)
    exact k_X2_readSides_25 hC hk0 hf hw (lv_sub hl [1, 2, 0] rfl)
set_option maxRecDepth 100000 in
theorem c_X2_readSides {l : Launch} {D : va_G} {cy : Nat → ClassId} {z0 : Nat} {ad : Nat → Nat} {u : Nat × Nat} {X : va_W} {z : (Int32 × mm_M)} {k0 : Nat} {x2 : Int32} {M : mm_M} (hk0 : lw_ok k0) (hf : f_X2_readSides k0 x2 M = some z) : ct_i cx_T l yX2_readSides (Cond.code yX2_readSides cX2_readSides 4 (some .int)) 3 60 D cy z0 ad u M X [.ref (ad k0), .ref (ad 1), .int x2] z.1 z.2 := by
  refine bgc_i (by decide) (fun p e s m below meth c hC hw => ?_)
  refine en_t (Nat.le_of_ble_eq_true rfl) (fun ls hl => ?_)
  have hl : lv_has ls 4 [(0, .ref (ad k0)), (1, .ref (ad 1)), (2, .int x2)] := hl
  exact k_X2_readSides hC hk0 hf hw hl
set_option maxRecDepth 100000 in
set_option maxHeartbeats 4000000 in
theorem k_X2_read_66 {p : Program} {l : Launch} {e : Env} {s : State} {m : MethodId} {args : Array Value} {below : List Frame} {meth : Method} {c : Code} {D : va_G} {cy : Nat → ClassId} {z0 : Nat} {ad : Nat → Nat} {X : va_W} {u : Nat × Nat} (hC : cx_C p s m args meth c cX2_read "RhymedThen$Law" (Cond.code yX2_read cX2_read 3 (some .int)) 3 (some .int)) {z : (Int32 × mm_M)} {k0 : Nat} {x2 : Int32} {M : mm_M} (hk0 : lw_ok k0) (hf : f_X2_read_66 k0 x2 M = some z) {H : Heap} {locs : List Loc} (hw : wd_in cx_T D cy z0 ad u M X s H locs) {ls : Array Slot} (hl : lv_has ls 3 [(0, .ref (ad k0)), (1, .ref (ad 1)), (2, .int x2)]) : W p l e { frames := 4, cells := 0, slots := 0, locals := 83 } s m args below meth c H locs 0 0 (MQ below (cq_i cx_T D cy z0 ad u X z.1 z.2) args s 0 0 (fun q => z0 ≤ q)) (F0 m 66 ls []) := by
  have hx := hC.1
  have hb := hC.2.1
  unfold f_X2_read_66 at hf
  refine lv_aload_n hx hb dX2_read_66 rfl (lv_at hl 0 rfl) ?_
  refine lv_iconst (v := (-1)) hx hb dX2_read_67 (by decide) ?_
  obtain ⟨M14, eM14, hf⟩ := sq_e hf
  refine rp_i hC hw k0 (lw_lt hk0) (lw_kd hk0) fd_X2_1 wf_X2_29 fp_X2_1 rfl rfl dX2_read_68 eM14 (fun H locs hw => ?_)
  refine lv_aload_n hx hb dX2_read_71 rfl (lv_at hl 0 rfl) ?_
  refine lv_iconst (v := (-1)) hx hb dX2_read_72 (by decide) ?_
  obtain ⟨M15, eM15, hf⟩ := sq_e hf
  refine rp_i hC hw k0 (lw_lt hk0) (lw_kd hk0) fd_X2_2 wf_X2_32 fp_X2_2 rfl rfl dX2_read_73 eM15 (fun H locs hw => ?_)
  refine lv_aload_n hx hb dX2_read_76 rfl (lv_at hl 1 rfl) ?_
  refine lv_iload_n hx hb dX2_read_77 rfl (lv_at hl 2 rfl) ?_
  obtain ⟨z16, ez16, hf⟩ := bd_e hf
  refine clc_Vi hC hw (c_X8_signAt ez16) hd_X8_signAt cw_X2_9 (Nat.le_of_ble_eq_true rfl) rfl rfl (rest := []) hl.1 rfl (Nat.le_of_ble_eq_true rfl) ⟨Nat.le_of_ble_eq_true rfl, Nat.le_of_ble_eq_true rfl⟩ ⟨Nat.zero_le _, Nat.zero_le _⟩ rfl dX2_read_78 (fun H locs hw => ?_)
  refine lv_bipush (v := 47) hx hb dX2_read_81 (by decide) ?_
  refine lv_icmp_ne (tgt := 97) hx hb dX2_read_83 (by decide) (fun c17 => ?_) (fun c17 => ?_)
  · rw [if_neg c17] at hf
    refine lv_aload_n hx hb dX2_read_97 rfl (lv_at hl 1 rfl) ?_
    refine lv_iload_n hx hb dX2_read_98 rfl (lv_at hl 2 rfl) ?_
    obtain ⟨z18, ez18, hf⟩ := bd_e hf
    refine clc_Si hC hw (c_X2_overAt ez18) hd_X2_overAt cw_X2_39 (rest := []) hl.1 rfl (Nat.le_of_ble_eq_true rfl) ⟨Nat.le_of_ble_eq_true rfl, Nat.le_of_ble_eq_true rfl⟩ ⟨Nat.zero_le _, Nat.zero_le _⟩ rfl dX2_read_99 (fun H locs hw => ?_)
    have hz := Option.some.inj hf
    subst hz
    exact rtc_i hC hw dX2_read_102
  · rw [if_pos c17] at hf
    refine lv_aload_n hx hb dX2_read_86 rfl (lv_at hl 0 rfl) ?_
    refine lv_aload_n hx hb dX2_read_87 rfl (lv_at hl 1 rfl) ?_
    refine lv_iload_n hx hb dX2_read_88 rfl (lv_at hl 2 rfl) ?_
    refine lv_iconst (v := 1) hx hb dX2_read_89 (by decide) ?_
    refine lv_iadd hx hb dX2_read_90 ?_
    obtain ⟨z19, ez19, hf⟩ := bd_e hf
    refine clc_Vi hC hw (c_X2_readSides hk0 ez19) hd_X2_readSides cw_X2_35 (lw_lt hk0) (lw_kd hk0) rfl (rest := []) hl.1 rfl (Nat.le_of_ble_eq_true rfl) ⟨Nat.le_of_ble_eq_true rfl, Nat.le_of_ble_eq_true rfl⟩ ⟨Nat.zero_le _, Nat.zero_le _⟩ rfl dX2_read_91 (fun H locs hw => ?_)
    refine lv_goto (tgt := 102) hx hb dX2_read_94 (by decide) ?_
    have hz := Option.some.inj hf
    subst hz
    exact rtc_i hC hw dX2_read_102
set_option maxRecDepth 100000 in
set_option maxHeartbeats 4000000 in
theorem k_X2_read {p : Program} {l : Launch} {e : Env} {s : State} {m : MethodId} {args : Array Value} {below : List Frame} {meth : Method} {c : Code} {D : va_G} {cy : Nat → ClassId} {z0 : Nat} {ad : Nat → Nat} {X : va_W} {u : Nat × Nat} (hC : cx_C p s m args meth c cX2_read "RhymedThen$Law" (Cond.code yX2_read cX2_read 3 (some .int)) 3 (some .int)) {z : (Int32 × mm_M)} {k0 : Nat} {M : mm_M} (hk0 : lw_ok k0) (hf : f_X2_read k0 M = some z) {H : Heap} {locs : List Loc} (hw : wd_in cx_T D cy z0 ad u M X s H locs) {ls : Array Slot} (hl : lv_has ls 3 [(0, .ref (ad k0)), (1, .ref (ad 1))]) : W p l e { frames := 4, cells := 0, slots := 0, locals := 83 } s m args below meth c H locs 0 0 (MQ below (cq_i cx_T D cy z0 ad u X z.1 z.2) args s 0 0 (fun q => z0 ≤ q)) (F0 m 0 ls []) := by
  have hx := hC.1
  have hb := hC.2.1
  unfold f_X2_read at hf
  refine lv_aload_n hx hb dX2_read_0 rfl (lv_at hl 0 rfl) ?_
  refine lv_aload_n hx hb dX2_read_1 rfl (lv_at hl 1 rfl) ?_
  refine lv_iconst (v := 0) hx hb dX2_read_2 (by decide) ?_
  obtain ⟨z1, ez1, hf⟩ := bd_e hf
  refine clc_Vi hC hw (c_X8_signAt ez1) hd_X8_signAt cw_X2_9 (Nat.le_of_ble_eq_true rfl) rfl rfl (rest := [.ref (ad k0)]) hl.1 rfl (Nat.le_of_ble_eq_true rfl) ⟨Nat.le_of_ble_eq_true rfl, Nat.le_of_ble_eq_true rfl⟩ ⟨Nat.zero_le _, Nat.zero_le _⟩ rfl dX2_read_3 (fun H locs hw => ?_)
  obtain ⟨M2, eM2, hf⟩ := sq_e hf
  refine rp_i hC hw k0 (lw_lt hk0) (lw_kd hk0) fd_X2_0 wf_X2_15 fp_X2_0 rfl rfl dX2_read_6 eM2 (fun H locs hw => ?_)
  refine lv_aload_n hx hb dX2_read_9 rfl (lv_at hl 0 rfl) ?_
  refine rg_i hC hw k0 (lw_lt hk0) (lw_kd hk0) fd_X2_0 wf_X2_15 dX2_read_10 ?_
  obtain ⟨z3, ez3, hf⟩ := sq_e hf
  refine clc_Si hC hw (c_X8_isSoundOrClass ez3.symm) hd_X8_isSoundOrClass cw_X2_19 (rest := []) hl.1 rfl (Nat.le_of_ble_eq_true rfl) ⟨Nat.le_of_ble_eq_true rfl, Nat.le_of_ble_eq_true rfl⟩ ⟨Nat.zero_le _, Nat.zero_le _⟩ rfl dX2_read_13 (fun H locs hw => ?_)
  refine lv_if_ne (tgt := 21) hx hb dX2_read_16 (by decide) (fun c4 => ?_) (fun c4 => ?_)
  · rw [if_neg c4] at hf
    refine lv_aload_n hx hb dX2_read_21 rfl (lv_at hl 1 rfl) ?_
    refine lv_iconst (v := 1) hx hb dX2_read_22 (by decide) ?_
    obtain ⟨z5, ez5, hf⟩ := bd_e hf
    refine clc_Vi hC hw (c_X8_signAt ez5) hd_X8_signAt cw_X2_9 (Nat.le_of_ble_eq_true rfl) rfl rfl (rest := []) hl.1 rfl (Nat.le_of_ble_eq_true rfl) ⟨Nat.le_of_ble_eq_true rfl, Nat.le_of_ble_eq_true rfl⟩ ⟨Nat.zero_le _, Nat.zero_le _⟩ rfl dX2_read_23 (fun H locs hw => ?_)
    refine lv_bipush (v := 62) hx hb dX2_read_26 (by decide) ?_
    refine lv_icmp_eq (tgt := 33) hx hb dX2_read_28 (by decide) (fun c6 => ?_) (fun c6 => ?_)
    · rw [if_pos c6] at hf
      refine lv_iconst (v := 2) hx hb dX2_read_33 (by decide) ?_
      refine lv_istore_n (lv' := [(2, .int 2), (0, .ref (ad k0)), (1, .ref (ad 1))]) hx hb dX2_read_34 rfl hl (by decide) rfl (fun ls hl => ?_)
      refine lv_aload_n hx hb dX2_read_35 rfl (lv_at hl 1 rfl) ?_
      refine lv_iconst (v := (-1)) hx hb dX2_read_36 (by decide) ?_
      obtain ⟨M7, eM7, hf⟩ := sq_e hf
      refine rp_i hC hw k0 (lw_lt hk0) (lw_kd hk0) fd_X2_3 wf_X2_23 fp_X2_3 rfl rfl dX2_read_37 eM7 (fun H locs hw => ?_)
      refine lv_aload_n hx hb dX2_read_40 rfl (lv_at hl 2 rfl) ?_
      refine lv_iload_n hx hb dX2_read_41 rfl (lv_at hl 0 rfl) ?_
      obtain ⟨z8, ez8, hf⟩ := bd_e hf
      refine clc_Vi hC hw (c_X8_signAt ez8) hd_X8_signAt cw_X2_9 (Nat.le_of_ble_eq_true rfl) rfl rfl (rest := []) hl.1 rfl (Nat.le_of_ble_eq_true rfl) ⟨Nat.le_of_ble_eq_true rfl, Nat.le_of_ble_eq_true rfl⟩ ⟨Nat.zero_le _, Nat.zero_le _⟩ rfl dX2_read_42 (fun H locs hw => ?_)
      obtain ⟨z9, ez9, hf⟩ := sq_e hf
      refine clc_Si hC hw (c_X8_isSound ez9.symm) hd_X8_isSound cw_X2_26 (rest := []) hl.1 rfl (Nat.le_of_ble_eq_true rfl) ⟨Nat.le_of_ble_eq_true rfl, Nat.le_of_ble_eq_true rfl⟩ ⟨Nat.zero_le _, Nat.zero_le _⟩ rfl dX2_read_45 (fun H locs hw => ?_)
      refine lv_if_eq (tgt := 66) hx hb dX2_read_48 (by decide) (fun c10 => ?_) (fun c10 => ?_)
      · rw [if_pos c10] at hf
        exact k_X2_read_66 hC hk0 hf hw (lv_sub hl [1, 2, 0] rfl)
      · rw [if_neg c10] at hf
        refine lv_aload_n hx hb dX2_read_51 rfl (lv_at hl 1 rfl) ?_
        refine lv_aload_n hx hb dX2_read_52 rfl (lv_at hl 2 rfl) ?_
        refine lv_iload_n hx hb dX2_read_53 rfl (lv_at hl 0 rfl) ?_
        obtain ⟨z11, ez11, hf⟩ := bd_e hf
        refine clc_Vi hC hw (c_X8_signAt ez11) hd_X8_signAt cw_X2_9 (Nat.le_of_ble_eq_true rfl) rfl rfl (rest := [.ref (ad k0)]) hl.1 rfl (Nat.le_of_ble_eq_true rfl) ⟨Nat.le_of_ble_eq_true rfl, Nat.le_of_ble_eq_true rfl⟩ ⟨Nat.zero_le _, Nat.zero_le _⟩ rfl dX2_read_54 (fun H locs hw => ?_)
        refine lv_bipush (v := 97) hx hb dX2_read_57 (by decide) ?_
        refine lv_isub hx hb dX2_read_59 ?_
        obtain ⟨M12, eM12, hf⟩ := sq_e hf
        refine rp_i hC hw k0 (lw_lt hk0) (lw_kd hk0) fd_X2_3 wf_X2_23 fp_X2_3 rfl rfl dX2_read_60 eM12 (fun H locs hw => ?_)
        obtain ⟨y13, ey13, hf⟩ := sq_e hf
        refine lv_iinc (v := y13) (lv' := [(2, .int y13), (0, .ref (ad k0)), (1, .ref (ad 1))]) hx hb dX2_read_63 hl (k := 0) rfl (by rw [ey13]; rfl) (by decide) rfl (fun ls hl => ?_)
        exact k_X2_read_66 hC hk0 hf hw (lv_sub hl [1, 2, 0] rfl)
    · rw [if_neg c6] at hf
      refine lv_iconst (v := 1) hx hb dX2_read_31 (by decide) ?_
      have hz := Option.some.inj hf
      subst hz
      exact rtc_i hC hw dX2_read_32
  · rw [if_pos c4] at hf
    refine lv_iconst (v := 0) hx hb dX2_read_19 (by decide) ?_
    have hz := Option.some.inj hf
    subst hz
    exact rtc_i hC hw dX2_read_20
set_option maxRecDepth 100000 in
theorem c_X2_read {l : Launch} {D : va_G} {cy : Nat → ClassId} {z0 : Nat} {ad : Nat → Nat} {u : Nat × Nat} {X : va_W} {z : (Int32 × mm_M)} {k0 : Nat} {M : mm_M} (hk0 : lw_ok k0) (hf : f_X2_read k0 M = some z) : ct_i cx_T l yX2_read (Cond.code yX2_read cX2_read 3 (some .int)) 4 83 D cy z0 ad u M X [.ref (ad k0), .ref (ad 1)] z.1 z.2 := by
  refine bgc_i (by decide) (fun p e s m below meth c hC hw => ?_)
  refine en_t (Nat.le_of_ble_eq_true rfl) (fun ls hl => ?_)
  have hl : lv_has ls 3 [(0, .ref (ad k0)), (1, .ref (ad 1))] := hl
  exact k_X2_read hC hk0 hf hw hl
set_option maxRecDepth 100000 in
set_option maxHeartbeats 4000000 in
theorem k_X9_addLaw {p : Program} {l : Launch} {e : Env} {s : State} {m : MethodId} {args : Array Value} {below : List Frame} {meth : Method} {c : Code} {D : va_G} {cy : Nat → ClassId} {z0 : Nat} {ad : Nat → Nat} {X : va_W} {u : Nat × Nat} (hC : cx_C p s m args meth c cX9_addLaw "RhymedThen$Tongue" (Cond.code yX9_addLaw cX9_addLaw 2 (some .int)) 2 (some .int)) {z : (Int32 × mm_M)} {M : mm_M} (hf : f_X9_addLaw M = some z) {H : Heap} {locs : List Loc} (hw : wd_in cx_T D cy z0 ad u M X s H locs) {ls : Array Slot} (hl : lv_has ls 2 [(0, .ref (ad 5))]) : W p l e { frames := 3, cells := 0, slots := 0, locals := 64 } s m args below meth c H locs 0 0 (MQ below (cq_i cx_T D cy z0 ad u X z.1 z.2) args s 0 0 (fun q => z0 ≤ q)) (F0 m 0 ls []) := by
  have hx := hC.1
  have hb := hC.2.1
  unfold f_X9_addLaw at hf
  refine lv_aload_n hx hb dX9_addLaw_0 rfl (lv_at hl 0 rfl) ?_
  refine rg_i hC hw 5 (Nat.le_of_ble_eq_true rfl) rfl fd_X9_1 wf_X9_17 dX9_addLaw_1 ?_
  obtain ⟨y1, ey1, hf⟩ := sq_e hf
  refine lt_i ey1 ?_
  refine lv_istore_n (lv' := [(1, .int y1), (0, .ref (ad 5))]) hx hb dX9_addLaw_4 rfl hl (by decide) rfl (fun ls hl => ?_)
  refine lv_aload_n hx hb dX9_addLaw_5 rfl (lv_at hl 1 rfl) ?_
  refine rg_p hC hw 5 (Nat.le_of_ble_eq_true rfl) rfl fd_X9_0 wf_X9_11 (q := 6) rfl dX9_addLaw_6 ?_
  refine lv_iload_n hx hb dX9_addLaw_9 rfl (lv_at hl 0 rfl) ?_
  obtain ⟨h2, hf⟩ := ck_e hf
  refine ra_L hC hw 6 (Nat.le_of_ble_eq_true rfl) rfl h2 dX9_addLaw_10 ?_
  refine lv_aload_n hx hb dX9_addLaw_11 rfl (lv_at hl 1 rfl) ?_
  refine rg_p hC hw 5 (Nat.le_of_ble_eq_true rfl) rfl fd_X9_3 wf_X9_24 (q := 7) rfl dX9_addLaw_12 ?_
  obtain ⟨z3, ez3, hf⟩ := bd_e hf
  refine clc_Vv hC hw (c_X2_tune (lw_ix h2) ez3) hd_X2_tune cw_X9_39 (lw_lt (lw_ix h2)) (lw_kd (lw_ix h2)) rfl (rest := []) hl.1 rfl (Nat.le_of_ble_eq_true rfl) ⟨Nat.le_of_ble_eq_true rfl, Nat.le_of_ble_eq_true rfl⟩ ⟨Nat.zero_le _, Nat.zero_le _⟩ rfl dX9_addLaw_15 (fun H locs hw => ?_)
  refine lv_aload_n hx hb dX9_addLaw_18 rfl (lv_at hl 1 rfl) ?_
  refine lv_dup hx hb dX9_addLaw_19 rfl ?_
  refine rg_i hC hw 5 (Nat.le_of_ble_eq_true rfl) rfl fd_X9_1 wf_X9_17 dX9_addLaw_20 ?_
  refine lv_iconst (v := 1) hx hb dX9_addLaw_23 (by decide) ?_
  refine lv_iadd hx hb dX9_addLaw_24 ?_
  obtain ⟨M4, eM4, hf⟩ := sq_e hf
  refine rp_i hC hw 5 (Nat.le_of_ble_eq_true rfl) rfl fd_X9_1 wf_X9_17 fp_X9_1 rfl rfl dX9_addLaw_25 eM4 (fun H locs hw => ?_)
  refine lv_iload_n hx hb dX9_addLaw_28 rfl (lv_at hl 0 rfl) ?_
  have hz := Option.some.inj hf
  subst hz
  exact rtc_i hC hw dX9_addLaw_29
set_option maxRecDepth 100000 in
theorem c_X9_addLaw {l : Launch} {D : va_G} {cy : Nat → ClassId} {z0 : Nat} {ad : Nat → Nat} {u : Nat × Nat} {X : va_W} {z : (Int32 × mm_M)} {M : mm_M} (hf : f_X9_addLaw M = some z) : ct_i cx_T l yX9_addLaw (Cond.code yX9_addLaw cX9_addLaw 2 (some .int)) 3 64 D cy z0 ad u M X [.ref (ad 5)] z.1 z.2 := by
  refine bgc_i (by decide) (fun p e s m below meth c hC hw => ?_)
  refine en_t (Nat.le_of_ble_eq_true rfl) (fun ls hl => ?_)
  have hl : lv_has ls 2 [(0, .ref (ad 5))] := hl
  exact k_X9_addLaw hC hf hw hl
set_option maxRecDepth 100000 in
set_option maxHeartbeats 4000000 in
theorem k_X3_yearIn {p : Program} {l : Launch} {e : Env} {s : State} {m : MethodId} {args : Array Value} {below : List Frame} {meth : Method} {c : Code} {T : wd_T} {D : va_G} {cy : Nat → ClassId} {z0 : Nat} {ad : Nat → Nat} {X : va_W} {M : mm_M} {u : Nat × Nat} (hC : cx_C p s m args meth c cX3_yearIn "RhymedThen$Past" (Cond.code yX3_yearIn cX3_yearIn 3 (some .int)) 3 (some .int)) {z : Int32} {x0 : Int64} {x2 : Int32} (hf : f_X3_yearIn x0 x2 = z) {H : Heap} {locs : List Loc} (hw : wd_in T D cy z0 ad u M X s H locs) {ls : Array Slot} (hl : lv_has ls 3 [(0, .long x0), (2, .int x2)]) : W p l e { frames := 0, cells := 0, slots := 0, locals := 0 } s m args below meth c H locs 0 0 (MQ below (cq_i T D cy z0 ad u X z M) args s 0 0 (fun q => z0 ≤ q)) (F0 m 0 ls []) := by
  have hx := hC.1
  have hb := hC.2.1
  unfold f_X3_yearIn at hf
  refine lv_lload_n hx hb dX3_yearIn_0 rfl (lv_at hl 0 rfl) ?_
  refine lv_bipush (v := 9) hx hb dX3_yearIn_1 (by decide) ?_
  refine lv_iload_n hx hb dX3_yearIn_3 rfl (lv_at hl 1 rfl) ?_
  refine lv_imul hx hb dX3_yearIn_4 ?_
  refine lv_lshr hx hb dX3_yearIn_5 rfl ?_
  refine lv_l2i hx hb dX3_yearIn_6 rfl ?_
  refine lv_sipush (v := 511) hx hb dX3_yearIn_7 (by decide) ?_
  refine lv_iand hx hb dX3_yearIn_10 ?_
  subst hf
  exact rtc_i hC hw dX3_yearIn_11
set_option maxRecDepth 100000 in
theorem c_X3_yearIn {l : Launch} {T : wd_T} {D : va_G} {cy : Nat → ClassId} {z0 : Nat} {ad : Nat → Nat} {u : Nat × Nat} {X : va_W} {z : Int32} {x0 : Int64} {x2 : Int32} {M : mm_M} (hf : f_X3_yearIn x0 x2 = z) : ct_i T l yX3_yearIn (Cond.code yX3_yearIn cX3_yearIn 3 (some .int)) 0 0 D cy z0 ad u M X [.long x0, .int x2] z M := by
  refine bgc_i (by decide) (fun p e s m below meth c hC hw => ?_)
  refine en_t (Nat.le_of_ble_eq_true rfl) (fun ls hl => ?_)
  have hl : lv_has ls 3 [(0, .long x0), (2, .int x2)] := hl
  exact k_X3_yearIn hC hf hw hl
set_option maxRecDepth 100000 in
set_option maxHeartbeats 4000000 in
theorem k_X3_insert_29 {p : Program} {l : Launch} {e : Env} {s : State} {m : MethodId} {args : Array Value} {below : List Frame} {meth : Method} {c : Code} {D : va_G} {cy : Nat → ClassId} {z0 : Nat} {ad : Nat → Nat} {X : va_W} {u : Nat × Nat} (hC : cx_C p s m args meth c cX3_insert "RhymedThen$Past" (Cond.code yX3_insert cX3_insert 9 none) 9 none) {z : mm_M} {x1 : Int32} {x2 : Int32} {x3 : Int64} {x5 : Int32} {x6 : Int32} {M : mm_M} (hf : f_X3_insert_29 x1 x2 x3 x5 x6 M = some z) {H : Heap} {locs : List Loc} (hw : wd_in cx_T D cy z0 ad u M X s H locs) {ls : Array Slot} (hl : lv_has ls 9 [(0, .ref (ad 14)), (1, .int x1), (2, .int x2), (3, .long x3), (5, .int x5), (6, .int x6)]) : W p l e { frames := 1, cells := 0, slots := 0, locals := 22 } s m args below meth c H locs 0 0 (MQ below (cq_v cx_T D cy z0 ad u X z) args s 0 0 (fun q => z0 ≤ q)) (F0 m 29 ls []) := by
  have hx := hC.1
  have hb := hC.2.1
  unfold f_X3_insert_29 at hf
  refine lv_iconst (v := 3) hx hb dX3_insert_29 (by decide) ?_
  refine lv_iload hx hb dX3_insert_30 (lv_at hl 5 rfl) ?_
  refine lv_imul hx hb dX3_insert_32 ?_
  obtain ⟨y5, ey5, hf⟩ := sq_e hf
  refine lt_i ey5 ?_
  refine lv_istore (lv' := [(7, .int y5), (0, .ref (ad 14)), (1, .int x1), (2, .int x2), (3, .long x3), (5, .int x5), (6, .int x6)]) hx hb dX3_insert_33 hl (by decide) rfl (fun ls hl => ?_)
  refine lv_bipush (v := 9) hx hb dX3_insert_35 (by decide) ?_
  refine lv_iload hx hb dX3_insert_37 (lv_at hl 6 rfl) ?_
  refine lv_imul hx hb dX3_insert_39 ?_
  obtain ⟨y6, ey6, hf⟩ := sq_e hf
  refine lt_i ey6 ?_
  refine lv_istore (lv' := [(8, .int y6), (7, .int y5), (0, .ref (ad 14)), (1, .int x1), (2, .int x2), (3, .long x3), (5, .int x5), (6, .int x6)]) hx hb dX3_insert_40 hl (by decide) rfl (fun ls hl => ?_)
  refine lv_aload_n hx hb dX3_insert_42 rfl (lv_at hl 2 rfl) ?_
  refine rg_p hC hw 14 (Nat.le_of_ble_eq_true rfl) rfl fd_X3_4 wf_X3_22 (q := 16) rfl dX3_insert_43 ?_
  refine lv_iload_n hx hb dX3_insert_46 rfl (lv_at hl 3 rfl) ?_
  refine lv_iload_n hx hb dX3_insert_47 rfl (lv_at hl 4 rfl) ?_
  refine lv_iconst (v := 1) hx hb dX3_insert_48 (by decide) ?_
  refine lv_iload hx hb dX3_insert_49 (lv_at hl 1 rfl) ?_
  refine lv_ishl hx hb dX3_insert_51 ?_
  refine lv_iconst (v := 1) hx hb dX3_insert_52 (by decide) ?_
  refine lv_isub hx hb dX3_insert_53 ?_
  refine lv_iand hx hb dX3_insert_54 ?_
  refine lv_aload_n hx hb dX3_insert_55 rfl (lv_at hl 2 rfl) ?_
  refine rg_i hC hw 14 (Nat.le_of_ble_eq_true rfl) rfl fd_X3_3 wf_X3_19 dX3_insert_56 ?_
  refine lv_iload hx hb dX3_insert_59 (lv_at hl 1 rfl) ?_
  refine lv_ishl hx hb dX3_insert_61 ?_
  refine lv_ior hx hb dX3_insert_62 ?_
  refine lv_iload_n hx hb dX3_insert_63 rfl (lv_at hl 4 rfl) ?_
  refine lv_iload hx hb dX3_insert_64 (lv_at hl 1 rfl) ?_
  refine lv_ishr hx hb dX3_insert_66 ?_
  refine lv_iload hx hb dX3_insert_67 (lv_at hl 1 rfl) ?_
  refine lv_iconst (v := 3) hx hb dX3_insert_69 (by decide) ?_
  refine lv_iadd hx hb dX3_insert_70 ?_
  refine lv_ishl hx hb dX3_insert_71 ?_
  refine lv_ior hx hb dX3_insert_72 ?_
  obtain ⟨h7, hf⟩ := ck_e hf
  obtain ⟨M8, eM8, hf⟩ := sq_e hf
  refine rs_i hC hw 16 (Nat.le_of_ble_eq_true rfl) rfl h7 dX3_insert_73 eM8 (fun H locs hw => ?_)
  refine lv_aload_n hx hb dX3_insert_74 rfl (lv_at hl 2 rfl) ?_
  refine rg_p hC hw 14 (Nat.le_of_ble_eq_true rfl) rfl fd_X3_5 wf_X3_25 (q := 17) rfl dX3_insert_75 ?_
  refine lv_iload_n hx hb dX3_insert_78 rfl (lv_at hl 3 rfl) ?_
  refine lv_lload_n hx hb dX3_insert_79 rfl (lv_at hl 5 rfl) ?_
  refine lv_lconst (v := 1) hx hb dX3_insert_80 (by decide) ?_
  refine lv_iload hx hb dX3_insert_81 (lv_at hl 0 rfl) ?_
  refine lv_lshl hx hb dX3_insert_83 rfl ?_
  refine lv_lconst (v := 1) hx hb dX3_insert_84 (by decide) ?_
  refine lv_lsub hx hb dX3_insert_85 ?_
  refine lv_land hx hb dX3_insert_86 ?_
  refine lv_iload hx hb dX3_insert_87 (lv_at hl 6 rfl) ?_
  refine lv_i2l hx hb dX3_insert_89 rfl ?_
  refine lv_iload hx hb dX3_insert_90 (lv_at hl 0 rfl) ?_
  refine lv_lshl hx hb dX3_insert_92 rfl ?_
  refine lv_lor hx hb dX3_insert_93 ?_
  refine lv_lload_n hx hb dX3_insert_94 rfl (lv_at hl 5 rfl) ?_
  refine lv_iload hx hb dX3_insert_95 (lv_at hl 0 rfl) ?_
  refine lv_lshr hx hb dX3_insert_97 rfl ?_
  refine lv_iload hx hb dX3_insert_98 (lv_at hl 0 rfl) ?_
  refine lv_bipush (v := 9) hx hb dX3_insert_100 (by decide) ?_
  refine lv_iadd hx hb dX3_insert_102 ?_
  refine lv_lshl hx hb dX3_insert_103 rfl ?_
  refine lv_lor hx hb dX3_insert_104 ?_
  obtain ⟨h9, hf⟩ := ck_e hf
  obtain ⟨M10, eM10, hf⟩ := sq_e hf
  refine rs_l hC hw 17 (Nat.le_of_ble_eq_true rfl) rfl h9 dX3_insert_105 eM10 (fun H locs hw => ?_)
  have hz := Option.some.inj hf
  subst hz
  exact rtc_v hC hw dX3_insert_106
set_option maxRecDepth 100000 in
set_option maxHeartbeats 4000000 in
theorem k_X3_insert_3 {p : Program} {l : Launch} {e : Env} {s : State} {m : MethodId} {args : Array Value} {below : List Frame} {meth : Method} {c : Code} {D : va_G} {cy : Nat → ClassId} {z0 : Nat} {ad : Nat → Nat} {X : va_W} {u : Nat × Nat} (hC : cx_C p s m args meth c cX3_insert "RhymedThen$Past" (Cond.code yX3_insert cX3_insert 9 none) 9 none) {z : mm_M} {x1 : Int32} {x2 : Int32} {x3 : Int64} {x5 : Int32} {x6 : Int32} {M : mm_M} {q3 : Int32 → Int32 → Int64 → Int32 → Int32 → mm_M → Option mm_M} (hq3 : ∀ (x1 : Int32) (x2 : Int32) (x3 : Int64) (x5 : Int32) (x6 : Int32) (M : mm_M) (H : Heap) (locs : List Loc) (ls : Array Slot), q3 x1 x2 x3 x5 x6 M = some z → wd_in cx_T D cy z0 ad u M X s H locs → lv_has ls 9 [(0, .ref (ad 14)), (1, .int x1), (2, .int x2), (3, .long x3), (5, .int x5), (6, .int x6)] → W p l e { frames := 1, cells := 0, slots := 0, locals := 22 } s m args below meth c H locs 0 0 (MQ below (cq_v cx_T D cy z0 ad u X z) args s 0 0 (fun q => z0 ≤ q)) (F0 m 3 ls [])) (hf : f_X3_insert_3 q3 x1 x2 x3 x5 x6 M = some z) {H : Heap} {locs : List Loc} (hw : wd_in cx_T D cy z0 ad u M X s H locs) {ls : Array Slot} (hl : lv_has ls 9 [(0, .ref (ad 14)), (1, .int x1), (2, .int x2), (3, .long x3), (5, .int x5), (6, .int x6)]) : W p l e { frames := 1, cells := 0, slots := 0, locals := 22 } s m args below meth c H locs 0 0 (MQ below (cq_v cx_T D cy z0 ad u X z) args s 0 0 (fun q => z0 ≤ q)) (F0 m 3 ls []) := by
  have hx := hC.1
  have hb := hC.2.1
  unfold f_X3_insert_3 at hf
  refine lv_iload hx hb dX3_insert_3 (lv_at hl 5 rfl) ?_
  refine lv_aload_n hx hb dX3_insert_5 rfl (lv_at hl 0 rfl) ?_
  refine rg_i hC hw 14 (Nat.le_of_ble_eq_true rfl) rfl fd_X3_3 wf_X3_19 dX3_insert_6 ?_
  refine lv_icmp_ge (tgt := 29) hx hb dX3_insert_9 (by decide) (fun c1 => ?_) (fun c1 => ?_)
  · rw [if_pos c1] at hf
    exact k_X3_insert_29 hC hf hw (lv_sub hl [0, 1, 2, 3, 4, 5] rfl)
  · rw [if_neg c1] at hf
    refine lv_lload_n hx hb dX3_insert_12 rfl (lv_at hl 3 rfl) ?_
    refine lv_iload hx hb dX3_insert_13 (lv_at hl 5 rfl) ?_
    obtain ⟨z2, ez2, hf⟩ := sq_e hf
    refine clc_Si hC hw (c_X3_yearIn ez2.symm) hd_X3_yearIn cw_X3_40 (rest := []) hl.1 rfl (Nat.le_of_ble_eq_true rfl) ⟨Nat.le_of_ble_eq_true rfl, Nat.le_of_ble_eq_true rfl⟩ ⟨Nat.zero_le _, Nat.zero_le _⟩ rfl dX3_insert_15 (fun H locs hw => ?_)
    refine lv_iload hx hb dX3_insert_18 (lv_at hl 4 rfl) ?_
    refine lv_icmp_gt (tgt := 29) hx hb dX3_insert_20 (by decide) (fun c3 => ?_) (fun c3 => ?_)
    · rw [if_pos c3] at hf
      exact k_X3_insert_29 hC hf hw (lv_sub hl [0, 1, 2, 3, 4, 5] rfl)
    · rw [if_neg c3] at hf
      obtain ⟨y4, ey4, hf⟩ := sq_e hf
      refine lv_iinc (v := y4) (lv' := [(6, .int y4), (0, .ref (ad 14)), (1, .int x1), (2, .int x2), (3, .long x3), (5, .int x5)]) hx hb dX3_insert_23 hl (k := 5) rfl (by rw [ey4]; rfl) (by decide) rfl (fun ls hl => ?_)
      refine lv_goto (tgt := 3) hx hb dX3_insert_26 (by decide) ?_
      exact hq3 _ _ _ _ _ _ _ _ _ hf hw (lv_sub hl [1, 2, 3, 4, 5, 0] rfl)
set_option maxRecDepth 100000 in
set_option maxHeartbeats 4000000 in
theorem k_X3_insert_3l {p : Program} {l : Launch} {e : Env} {s : State} {m : MethodId} {args : Array Value} {below : List Frame} {meth : Method} {c : Code} {D : va_G} {cy : Nat → ClassId} {z0 : Nat} {ad : Nat → Nat} {X : va_W} {u : Nat × Nat} (hC : cx_C p s m args meth c cX3_insert "RhymedThen$Past" (Cond.code yX3_insert cX3_insert 9 none) 9 none) {z : mm_M} : ∀ (n : Nat) (x1 : Int32) (x2 : Int32) (x3 : Int64) (x5 : Int32) (x6 : Int32) (M : mm_M) (H : Heap) (locs : List Loc) (ls : Array Slot), f_X3_insert_3l n x1 x2 x3 x5 x6 M = some z → wd_in cx_T D cy z0 ad u M X s H locs → lv_has ls 9 [(0, .ref (ad 14)), (1, .int x1), (2, .int x2), (3, .long x3), (5, .int x5), (6, .int x6)] → W p l e { frames := 1, cells := 0, slots := 0, locals := 22 } s m args below meth c H locs 0 0 (MQ below (cq_v cx_T D cy z0 ad u X z) args s 0 0 (fun q => z0 ≤ q)) (F0 m 3 ls []) := by
  intro n
  induction n with
  | zero => intro x1 x2 x3 x5 x6 M H locs ls hf; exact absurd hf (by simp [f_X3_insert_3l])
  | succ n ih => intro x1 x2 x3 x5 x6 M H locs ls hf hw hl; exact k_X3_insert_3 hC ih hf hw hl
set_option maxRecDepth 100000 in
set_option maxHeartbeats 4000000 in
theorem k_X3_insert {p : Program} {l : Launch} {e : Env} {s : State} {m : MethodId} {args : Array Value} {below : List Frame} {meth : Method} {c : Code} {D : va_G} {cy : Nat → ClassId} {z0 : Nat} {ad : Nat → Nat} {X : va_W} {u : Nat × Nat} (hC : cx_C p s m args meth c cX3_insert "RhymedThen$Past" (Cond.code yX3_insert cX3_insert 9 none) 9 none) {z : mm_M} {x1 : Int32} {x2 : Int32} {x3 : Int64} {x5 : Int32} {M : mm_M} (hf : f_X3_insert x1 x2 x3 x5 M = some z) {H : Heap} {locs : List Loc} (hw : wd_in cx_T D cy z0 ad u M X s H locs) {ls : Array Slot} (hl : lv_has ls 9 [(0, .ref (ad 14)), (1, .int x1), (2, .int x2), (3, .long x3), (5, .int x5)]) : W p l e { frames := 1, cells := 0, slots := 0, locals := 22 } s m args below meth c H locs 0 0 (MQ below (cq_v cx_T D cy z0 ad u X z) args s 0 0 (fun q => z0 ≤ q)) (F0 m 0 ls []) := by
  have hx := hC.1
  have hb := hC.2.1
  unfold f_X3_insert at hf
  refine lv_iconst (v := 0) hx hb dX3_insert_0 (by decide) ?_
  refine lv_istore (lv' := [(6, .int 0), (0, .ref (ad 14)), (1, .int x1), (2, .int x2), (3, .long x3), (5, .int x5)]) hx hb dX3_insert_1 hl (by decide) rfl (fun ls hl => ?_)
  exact k_X3_insert_3l hC fu_ _ _ _ _ _ _ _ _ _ hf hw (lv_sub hl [1, 2, 3, 4, 5, 0] rfl)
set_option maxRecDepth 100000 in
theorem c_X3_insert {l : Launch} {D : va_G} {cy : Nat → ClassId} {z0 : Nat} {ad : Nat → Nat} {u : Nat × Nat} {X : va_W} {z : mm_M} {x1 : Int32} {x2 : Int32} {x3 : Int64} {x5 : Int32} {M : mm_M} (hf : f_X3_insert x1 x2 x3 x5 M = some z) : ct_v cx_T l yX3_insert (Cond.code yX3_insert cX3_insert 9 none) 1 22 D cy z0 ad u M X [.ref (ad 14), .int x1, .int x2, .long x3, .int x5] z := by
  refine bgc_v (by decide) (fun p e s m below meth c hC hw => ?_)
  refine en_t (Nat.le_of_ble_eq_true rfl) (fun ls hl => ?_)
  have hl : lv_has ls 9 [(0, .ref (ad 14)), (1, .int x1), (2, .int x2), (3, .long x3), (5, .int x5)] := hl
  exact k_X3_insert hC hf hw hl
