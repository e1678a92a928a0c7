set_option maxRecDepth 100000 in
set_option maxHeartbeats 4000000 in
theorem k_X4_sharedDivisor_9 {p : Program} {l : Launch} {e : Env} {s : State} {m : MethodId} {args : Array Value} {below : List Frame} {meth : Method} {c : Code} {T : wd_T} {D : va_G} {cy : Nat → ClassId} {z0 : Nat} {ad : Nat → Nat} {X : va_W} {M : mm_M} {u : Nat × Nat} (hC : cx_C p s m args meth c cX4_sharedDivisor "RhymedThen$Row" (Cond.code yX4_sharedDivisor cX4_sharedDivisor 11 (some .long)) 11 (some .long)) {z : Int64} {x4 : Int64} {x6 : Int64} {x8 : Int32} {q9 : Int64 → Int64 → Int32 → Option Int64} (hq9 : ∀ (x4 : Int64) (x6 : Int64) (x8 : Int32) (H : Heap) (locs : List Loc) (ls : Array Slot), q9 x4 x6 x8 = some z → wd_in T D cy z0 ad u M X s H locs → lv_has ls 11 [(4, .long x4), (6, .long x6), (8, .int x8)] → W p l e { frames := 0, cells := 0, slots := 0, locals := 0 } s m args below meth c H locs 0 0 (MQ below (cq_l T D cy z0 ad u X z M) args s 0 0 (fun q => z0 ≤ q)) (F0 m 9 ls [])) (hf : f_X4_sharedDivisor_9 q9 x4 x6 x8 = some z) {H : Heap} {locs : List Loc} (hw : wd_in T D cy z0 ad u M X s H locs) {ls : Array Slot} (hl : lv_has ls 11 [(4, .long x4), (6, .long x6), (8, .int x8)]) : W p l e { frames := 0, cells := 0, slots := 0, locals := 0 } s m args below meth c H locs 0 0 (MQ below (cq_l T D cy z0 ad u X z M) args s 0 0 (fun q => z0 ≤ q)) (F0 m 9 ls []) := by
  have hx := hC.1
  have hb := hC.2.1
  unfold f_X4_sharedDivisor_9 at hf
  refine lv_iload hx hb dX4_sharedDivisor_9 (lv_at hl 2 rfl) ?_
  refine lv_sipush (v := 200) hx hb dX4_sharedDivisor_11 (by decide) ?_
  refine lv_icmp_ge (tgt := 45) hx hb dX4_sharedDivisor_14 (by decide) (fun c1 => ?_) (fun c1 => ?_)
  · rw [if_pos c1] at hf
    refine lv_lload hx hb dX4_sharedDivisor_45 (lv_at hl 0 rfl) ?_
    have hz := Option.some.inj hf
    subst hz
    exact rtc_l hC hw dX4_sharedDivisor_47
  · rw [if_neg c1] at hf
    refine lv_lload hx hb dX4_sharedDivisor_17 (lv_at hl 1 rfl) ?_
    refine lv_lconst (v := 0) hx hb dX4_sharedDivisor_19 (by decide) ?_
    refine lc_eq (tgt := 45) hx hb dX4_sharedDivisor_20 dX4_sharedDivisor_21 (by decide) (fun c2 => ?_) (fun c2 => ?_)
    · rw [if_pos c2] at hf
      refine lv_lload hx hb dX4_sharedDivisor_45 (lv_at hl 0 rfl) ?_
      have hz := Option.some.inj hf
      subst hz
      exact rtc_l hC hw dX4_sharedDivisor_47
    · rw [if_neg c2] at hf
      refine lv_lload hx hb dX4_sharedDivisor_24 (lv_at hl 0 rfl) ?_
      refine lv_lload hx hb dX4_sharedDivisor_26 (lv_at hl 1 rfl) ?_
      obtain ⟨h3, hf⟩ := ck_e hf
      refine lv_lrem hx hb dX4_sharedDivisor_28 h3 ?_
      obtain ⟨y4, ey4, hf⟩ := sq_e hf
      refine lt_l ey4 ?_
      refine lv_lstore (lv' := [(9, .long y4), (4, .long x4), (6, .long x6), (8, .int x8)]) hx hb dX4_sharedDivisor_29 hl (by decide) rfl (fun ls hl => ?_)
      refine lv_lload hx hb dX4_sharedDivisor_31 (lv_at hl 2 rfl) ?_
      refine lv_lstore (lv' := [(4, .long x6), (9, .long y4), (6, .long x6), (8, .int x8)]) hx hb dX4_sharedDivisor_33 hl (by decide) rfl (fun ls hl => ?_)
      refine lv_lload hx hb dX4_sharedDivisor_35 (lv_at hl 1 rfl) ?_
      refine lv_lstore (lv' := [(6, .long y4), (4, .long x6), (9, .long y4), (8, .int x8)]) hx hb dX4_sharedDivisor_37 hl (by decide) rfl (fun ls hl => ?_)
      obtain ⟨y5, ey5, hf⟩ := sq_e hf
      refine lv_iinc (v := y5) (lv' := [(8, .int y5), (6, .long y4), (4, .long x6), (9, .long y4)]) hx hb dX4_sharedDivisor_39 hl (k := 3) rfl (by rw [ey5]; rfl) (by decide) rfl (fun ls hl => ?_)
      refine lv_goto (tgt := 9) hx hb dX4_sharedDivisor_42 (by decide) ?_
      exact hq9 _ _ _ _ _ _ hf hw (lv_sub hl [2, 1, 0] rfl)
set_option maxRecDepth 100000 in
set_option maxHeartbeats 4000000 in
theorem k_X4_sharedDivisor_9l {p : Program} {l : Launch} {e : Env} {s : State} {m : MethodId} {args : Array Value} {below : List Frame} {meth : Method} {c : Code} {T : wd_T} {D : va_G} {cy : Nat → ClassId} {z0 : Nat} {ad : Nat → Nat} {X : va_W} {M : mm_M} {u : Nat × Nat} (hC : cx_C p s m args meth c cX4_sharedDivisor "RhymedThen$Row" (Cond.code yX4_sharedDivisor cX4_sharedDivisor 11 (some .long)) 11 (some .long)) {z : Int64} : ∀ (n : Nat) (x4 : Int64) (x6 : Int64) (x8 : Int32) (H : Heap) (locs : List Loc) (ls : Array Slot), f_X4_sharedDivisor_9l n x4 x6 x8 = some z → wd_in T D cy z0 ad u M X s H locs → lv_has ls 11 [(4, .long x4), (6, .long x6), (8, .int x8)] → W p l e { frames := 0, cells := 0, slots := 0, locals := 0 } s m args below meth c H locs 0 0 (MQ below (cq_l T D cy z0 ad u X z M) args s 0 0 (fun q => z0 ≤ q)) (F0 m 9 ls []) := by
  intro n
  induction n with
  | zero => intro x4 x6 x8 H locs ls hf; exact absurd hf (by simp [f_X4_sharedDivisor_9l])
  | succ n ih => intro x4 x6 x8 H locs ls hf hw hl; exact k_X4_sharedDivisor_9 hC ih hf hw hl
set_option maxRecDepth 100000 in
set_option maxHeartbeats 4000000 in
theorem k_X4_sharedDivisor {p : Program} {l : Launch} {e : Env} {s : State} {m : MethodId} {args : Array Value} {below : List Frame} {meth : Method} {c : Code} {T : wd_T} {D : va_G} {cy : Nat → ClassId} {z0 : Nat} {ad : Nat → Nat} {X : va_W} {M : mm_M} {u : Nat × Nat} (hC : cx_C p s m args meth c cX4_sharedDivisor "RhymedThen$Row" (Cond.code yX4_sharedDivisor cX4_sharedDivisor 11 (some .long)) 11 (some .long)) {z : Int64} {x0 : Int64} {x2 : Int64} (hf : f_X4_sharedDivisor x0 x2 = some z) {H : Heap} {locs : List Loc} (hw : wd_in T D cy z0 ad u M X s H locs) {ls : Array Slot} (hl : lv_has ls 11 [(0, .long x0), (2, .long x2)]) : W p l e { frames := 0, cells := 0, slots := 0, locals := 0 } s m args below meth c H locs 0 0 (MQ below (cq_l T D cy z0 ad u X z M) args s 0 0 (fun q => z0 ≤ q)) (F0 m 0 ls []) := by
  have hx := hC.1
  have hb := hC.2.1
  unfold f_X4_sharedDivisor at hf
  refine lv_lload_n hx hb dX4_sharedDivisor_0 rfl (lv_at hl 0 rfl) ?_
  refine lv_lstore (lv' := [(4, .long x0), (0, .long x0), (2, .long x2)]) hx hb dX4_sharedDivisor_1 hl (by decide) rfl (fun ls hl => ?_)
  refine lv_lload_n hx hb dX4_sharedDivisor_3 rfl (lv_at hl 2 rfl) ?_
  refine lv_lstore (lv' := [(6, .long x2), (4, .long x0), (0, .long x0), (2, .long x2)]) hx hb dX4_sharedDivisor_4 hl (by decide) rfl (fun ls hl => ?_)
  refine lv_iconst (v := 0) hx hb dX4_sharedDivisor_6 (by decide) ?_
  refine lv_istore (lv' := [(8, .int 0), (6, .long x2), (4, .long x0), (0, .long x0), (2, .long x2)]) hx hb dX4_sharedDivisor_7 hl (by decide) rfl (fun ls hl => ?_)
  exact k_X4_sharedDivisor_9l hC fu_ _ _ _ _ _ _ hf hw (lv_sub hl [2, 1, 0] rfl)
set_option maxRecDepth 100000 in
theorem c_X4_sharedDivisor {l : Launch} {T : wd_T} {D : va_G} {cy : Nat → ClassId} {z0 : Nat} {ad : Nat → Nat} {u : Nat × Nat} {X : va_W} {z : Int64} {x0 : Int64} {x2 : Int64} {M : mm_M} (hf : f_X4_sharedDivisor x0 x2 = some z) : ct_l T l yX4_sharedDivisor (Cond.code yX4_sharedDivisor cX4_sharedDivisor 11 (some .long)) 0 0 D cy z0 ad u M X [.long x0, .long x2] z M := by
  refine bgc_l (by decide) (fun p e s m below meth c hC hw => ?_)
  refine en_t (Nat.le_of_ble_eq_true rfl) (fun ls hl => ?_)
  have hl : lv_has ls 11 [(0, .long x0), (2, .long x2)] := hl
  exact k_X4_sharedDivisor hC hf hw hl
set_option maxRecDepth 100000 in
set_option maxHeartbeats 4000000 in
theorem k_X4_addFraction {p : Program} {l : Launch} {e : Env} {s : State} {m : MethodId} {args : Array Value} {below : List Frame} {meth : Method} {c : Code} {D : va_G} {cy : Nat → ClassId} {z0 : Nat} {ad : Nat → Nat} {X : va_W} {u : Nat × Nat} (hC : cx_C p s m args meth c cX4_addFraction "RhymedThen$Row" (Cond.code yX4_addFraction cX4_addFraction 7 none) 7 none) {z : mm_M} {x1 : Int64} {x3 : Int64} {M : mm_M} (hf : f_X4_addFraction x1 x3 M = some z) {H : Heap} {locs : List Loc} (hw : wd_in cx_T D cy z0 ad u M X s H locs) {ls : Array Slot} (hl : lv_has ls 7 [(0, .ref (ad 3)), (1, .long x1), (3, .long x3)]) : W p l e { frames := 1, cells := 0, slots := 0, locals := 30 } s m args below meth c H locs 0 0 (MQ below (cq_v cx_T D cy z0 ad u X z) args s 0 0 (fun q => z0 ≤ q)) (F0 m 0 ls []) := by
  have hx := hC.1
  have hb := hC.2.1
  unfold f_X4_addFraction at hf
  refine lv_lload_n hx hb dX4_addFraction_0 rfl (lv_at hl 1 rfl) ?_
  refine lv_lload_n hx hb dX4_addFraction_1 rfl (lv_at hl 2 rfl) ?_
  obtain ⟨z1, ez1, hf⟩ := bd_e hf
  refine clc_Sl hC hw (c_X4_sharedDivisor ez1) hd_X4_sharedDivisor cw_X4_17 (rest := []) hl.1 rfl (Nat.le_of_ble_eq_true rfl) ⟨Nat.le_of_ble_eq_true rfl, Nat.le_of_ble_eq_true rfl⟩ ⟨Nat.zero_le _, Nat.zero_le _⟩ rfl dX4_addFraction_2 (fun H locs hw => ?_)
  refine lv_lstore (lv' := [(5, .long z1), (0, .ref (ad 3)), (1, .long x1), (3, .long x3)]) hx hb dX4_addFraction_5 hl (by decide) rfl (fun ls hl => ?_)
  refine lv_lload hx hb dX4_addFraction_7 (lv_at hl 0 rfl) ?_
  refine lv_lconst (v := 0) hx hb dX4_addFraction_9 (by decide) ?_
  refine lc_le (tgt := 30) hx hb dX4_addFraction_10 dX4_addFraction_11 (by decide) (fun c2 => ?_) (fun c2 => ?_)
  · rw [if_pos c2] at hf
    have hz := Option.some.inj hf
    subst hz
    exact rtc_v hC hw dX4_addFraction_30
  · rw [if_neg c2] at hf
    refine lv_aload_n hx hb dX4_addFraction_14 rfl (lv_at hl 1 rfl) ?_
    refine lv_lload_n hx hb dX4_addFraction_15 rfl (lv_at hl 2 rfl) ?_
    refine lv_lload hx hb dX4_addFraction_16 (lv_at hl 0 rfl) ?_
    obtain ⟨h3, hf⟩ := ck_e hf
    refine lv_ldiv hx hb dX4_addFraction_18 h3 ?_
    obtain ⟨z4, ez4, hf⟩ := bd_e hf
    refine clc_Vv hC hw (c_X4_add ez4) hd_X4_add cw_X4_21 (Nat.le_of_ble_eq_true rfl) rfl rfl (rest := []) hl.1 rfl (Nat.le_of_ble_eq_true rfl) ⟨Nat.le_of_ble_eq_true rfl, Nat.le_of_ble_eq_true rfl⟩ ⟨Nat.zero_le _, Nat.zero_le _⟩ rfl dX4_addFraction_19 (fun H locs hw => ?_)
    refine lv_aload_n hx hb dX4_addFraction_22 rfl (lv_at hl 1 rfl) ?_
    refine lv_lload_n hx hb dX4_addFraction_23 rfl (lv_at hl 3 rfl) ?_
    refine lv_lload hx hb dX4_addFraction_24 (lv_at hl 0 rfl) ?_
    obtain ⟨h5, hf⟩ := ck_e hf
    refine lv_ldiv hx hb dX4_addFraction_26 h5 ?_
    obtain ⟨z6, ez6, hf⟩ := bd_e hf
    refine clc_Vv hC hw (c_X4_add ez6) hd_X4_add cw_X4_21 (Nat.le_of_ble_eq_true rfl) rfl rfl (rest := []) hl.1 rfl (Nat.le_of_ble_eq_true rfl) ⟨Nat.le_of_ble_eq_true rfl, Nat.le_of_ble_eq_true rfl⟩ ⟨Nat.zero_le _, Nat.zero_le _⟩ rfl dX4_addFraction_27 (fun H locs hw => ?_)
    have hz := Option.some.inj hf
    subst hz
    exact rtc_v hC hw dX4_addFraction_30
set_option maxRecDepth 100000 in
theorem c_X4_addFraction {l : Launch} {D : va_G} {cy : Nat → ClassId} {z0 : Nat} {ad : Nat → Nat} {u : Nat × Nat} {X : va_W} {z : mm_M} {x1 : Int64} {x3 : Int64} {M : mm_M} (hf : f_X4_addFraction x1 x3 M = some z) : ct_v cx_T l yX4_addFraction (Cond.code yX4_addFraction cX4_addFraction 7 none) 1 30 D cy z0 ad u M X [.ref (ad 3), .long x1, .long x3] z := by
  refine bgc_v (by decide) (fun p e s m below meth c hC hw => ?_)
  refine en_t (Nat.le_of_ble_eq_true rfl) (fun ls hl => ?_)
  have hl : lv_has ls 7 [(0, .ref (ad 3)), (1, .long x1), (3, .long x3)] := hl
  exact k_X4_addFraction hC hf hw hl
set_option maxRecDepth 100000 in
set_option maxHeartbeats 4000000 in
theorem k_X11_chance_91 {p : Program} {l : Launch} {e : Env} {s : State} {m : MethodId} {args : Array Value} {below : List Frame} {meth : Method} {c : Code} {D : va_G} {cy : Nat → ClassId} {z0 : Nat} {ad : Nat → Nat} {X : va_W} {u : Nat × Nat} (hC : cx_C p s m args meth c cX11_chance "RhymedThen" (Cond.code yX11_chance cX11_chance 9 (some .int)) 9 (some .int)) {z : (Int32 × mm_M)} {c0 : Nat} {x4 : Int32} {x5 : Int32} {x7 : Int32} {x8 : Int32} {t0 : Int32} {t1 : Int32} {M : mm_M} (hc0 : c0 ≤ M.2.2) {q61 : Int32 → Int32 → Int32 → Int32 → Int32 → mm_M → Option (Int32 × mm_M)} (hq61 : ∀ (x4 : Int32) (x5 : Int32) (x6 : Int32) (x7 : Int32) (x8 : Int32) (M : mm_M) (u : Nat × Nat) (H : Heap) (locs : List Loc) (ls : Array Slot), c0 ≤ M.2.2 → q61 x4 x5 x6 x7 x8 M = some z → wd_in cx_T D cy z0 ad u M X s H locs → lv_has ls 9 [(0, .ref (ad 0)), (4, .int x4), (5, .int x5), (6, .int x6), (7, .int x7), (8, .int x8)] → W p l e { frames := 7, cells := 2 * (z.2.2.2 - c0), slots := 52 * (z.2.2.2 - c0), locals := 215 } s m args below meth c H locs (2 * (M.2.2 - c0)) (52 * (M.2.2 - c0)) (MQ below (aq_i cx_T D cy z0 ad X z.1 z.2) args s (2 * (z.2.2.2 - c0)) (52 * (z.2.2.2 - c0)) (fun q => z0 ≤ q)) (F0 m 61 ls [])) (hm61 : ∀ (x4 : Int32) (x5 : Int32) (x6 : Int32) (x7 : Int32) (x8 : Int32) (M : mm_M), q61 x4 x5 x6 x7 x8 M = some z → M.2.2 ≤ z.2.2.2) (hf : f_X11_chance_91 q61 x4 x5 x7 x8 t0 t1 M = some z) {H : Heap} {locs : List Loc} (hw : wd_in cx_T D cy z0 ad u M X s H locs) {ls : Array Slot} (hl : lv_has ls 9 [(0, .ref (ad 0)), (4, .int x4), (5, .int x5), (7, .int x7), (8, .int x8)]) : W p l e { frames := 7, cells := 2 * (z.2.2.2 - c0), slots := 52 * (z.2.2.2 - c0), locals := 215 } s m args below meth c H locs (2 * (M.2.2 - c0)) (52 * (M.2.2 - c0)) (MQ below (aq_i cx_T D cy z0 ad X z.1 z.2) args s (2 * (z.2.2.2 - c0)) (52 * (z.2.2.2 - c0)) (fun q => z0 ≤ q)) (F0 m 91 ls [.int t1, .int t0]) := by
  have hx := hC.1
  have hb := hC.2.1
  have hmz : M.2.2 ≤ z.2.2.2 := mo_X11_chance_91 hm61 hf
  unfold f_X11_chance_91 at hf
  refine lv_iadd hx hb dX11_chance_91 ?_
  obtain ⟨y14, ey14, hf⟩ := sq_e hf
  refine lt_i ey14 ?_
  refine lv_istore (lv' := [(6, .int y14), (0, .ref (ad 0)), (4, .int x4), (5, .int x5), (7, .int x7), (8, .int x8)]) hx hb dX11_chance_92 hl (by decide) rfl (fun ls hl => ?_)
  obtain ⟨y15, ey15, hf⟩ := sq_e hf
  refine lv_iinc (v := y15) (lv' := [(8, .int y15), (6, .int y14), (0, .ref (ad 0)), (4, .int x4), (5, .int x5), (7, .int x7)]) hx hb dX11_chance_94 hl (k := 5) rfl (by rw [ey15]; rfl) (by decide) rfl (fun ls hl => ?_)
  refine lv_goto (tgt := 61) hx hb dX11_chance_97 (by decide) ?_
  refine W.widen (k := 2 * (M.2.2 - c0)) (n := 52 * (M.2.2 - c0)) (by omega) (by omega) ?_
  exact hq61 _ _ _ _ _ _ _ _ _ _ (by omega) hf hw (lv_sub hl [2, 3, 4, 1, 5, 0] rfl)
set_option maxRecDepth 100000 in
set_option maxHeartbeats 4000000 in
theorem k_X11_chance_100 {p : Program} {l : Launch} {e : Env} {s : State} {m : MethodId} {args : Array Value} {below : List Frame} {meth : Method} {c : Code} {D : va_G} {cy : Nat → ClassId} {z0 : Nat} {ad : Nat → Nat} {X : va_W} {u : Nat × Nat} (hC : cx_C p s m args meth c cX11_chance "RhymedThen" (Cond.code yX11_chance cX11_chance 9 (some .int)) 9 (some .int)) {z : (Int32 × mm_M)} {c0 : Nat} {x4 : Int32} {x5 : Int32} {x6 : Int32} {x7 : Int32} {M : mm_M} (hc0 : c0 ≤ M.2.2) {q48 : Int32 → Int32 → Int32 → Int32 → mm_M → Option (Int32 × mm_M)} (hq48 : ∀ (x4 : Int32) (x5 : Int32) (x6 : Int32) (x7 : Int32) (M : mm_M) (u : Nat × Nat) (H : Heap) (locs : List Loc) (ls : Array Slot), c0 ≤ M.2.2 → q48 x4 x5 x6 x7 M = some z → wd_in cx_T D cy z0 ad u M X s H locs → lv_has ls 9 [(0, .ref (ad 0)), (4, .int x4), (5, .int x5), (6, .int x6), (7, .int x7)] → W p l e { frames := 7, cells := 2 * (z.2.2.2 - c0), slots := 52 * (z.2.2.2 - c0), locals := 215 } s m args below meth c H locs (2 * (M.2.2 - c0)) (52 * (M.2.2 - c0)) (MQ below (aq_i cx_T D cy z0 ad X z.1 z.2) args s (2 * (z.2.2.2 - c0)) (52 * (z.2.2.2 - c0)) (fun q => z0 ≤ q)) (F0 m 48 ls [])) (hm48 : ∀ (x4 : Int32) (x5 : Int32) (x6 : Int32) (x7 : Int32) (M : mm_M), q48 x4 x5 x6 x7 M = some z → M.2.2 ≤ z.2.2.2) (hf : f_X11_chance_100 q48 x4 x5 x6 x7 M = some z) {H : Heap} {locs : List Loc} (hw : wd_in cx_T D cy z0 ad u M X s H locs) {ls : Array Slot} (hl : lv_has ls 9 [(0, .ref (ad 0)), (4, .int x4), (5, .int x5), (6, .int x6), (7, .int x7)]) : W p l e { frames := 7, cells := 2 * (z.2.2.2 - c0), slots := 52 * (z.2.2.2 - c0), locals := 215 } s m args below meth c H locs (2 * (M.2.2 - c0)) (52 * (M.2.2 - c0)) (MQ below (aq_i cx_T D cy z0 ad X z.1 z.2) args s (2 * (z.2.2.2 - c0)) (52 * (z.2.2.2 - c0)) (fun q => z0 ≤ q)) (F0 m 100 ls []) := by
  have hx := hC.1
  have hb := hC.2.1
  have hmz : M.2.2 ≤ z.2.2.2 := mo_X11_chance_100 hm48 hf
  unfold f_X11_chance_100 at hf
  obtain ⟨y13, ey13, hf⟩ := sq_e hf
  refine lv_iinc (v := y13) (lv' := [(7, .int y13), (0, .ref (ad 0)), (4, .int x4), (5, .int x5), (6, .int x6)]) hx hb dX11_chance_100 hl (k := 4) rfl (by rw [ey13]; rfl) (by decide) rfl (fun ls hl => ?_)
  refine lv_goto (tgt := 48) hx hb dX11_chance_103 (by decide) ?_
  refine W.widen (k := 2 * (M.2.2 - c0)) (n := 52 * (M.2.2 - c0)) (by omega) (by omega) ?_
  exact hq48 _ _ _ _ _ _ _ _ _ (by omega) hf hw (lv_sub hl [1, 2, 3, 4, 0] rfl)
set_option maxRecDepth 100000 in
set_option maxHeartbeats 4000000 in
theorem k_X11_chance_61 {p : Program} {l : Launch} {e : Env} {s : State} {m : MethodId} {args : Array Value} {below : List Frame} {meth : Method} {c : Code} {D : va_G} {cy : Nat → ClassId} {z0 : Nat} {ad : Nat → Nat} {X : va_W} {u : Nat × Nat} (hC : cx_C p s m args meth c cX11_chance "RhymedThen" (Cond.code yX11_chance cX11_chance 9 (some .int)) 9 (some .int)) {z : (Int32 × mm_M)} {c0 : Nat} {x4 : Int32} {x5 : Int32} {x6 : Int32} {x7 : Int32} {x8 : Int32} {M : mm_M} (hc0 : c0 ≤ M.2.2) {q48 : Int32 → Int32 → Int32 → Int32 → mm_M → Option (Int32 × mm_M)} (hq48 : ∀ (x4 : Int32) (x5 : Int32) (x6 : Int32) (x7 : Int32) (M : mm_M) (u : Nat × Nat) (H : Heap) (locs : List Loc) (ls : Array Slot), c0 ≤ M.2.2 → q48 x4 x5 x6 x7 M = some z → wd_in cx_T D cy z0 ad u M X s H locs → lv_has ls 9 [(0, .ref (ad 0)), (4, .int x4), (5, .int x5), (6, .int x6), (7, .int x7)] → W p l e { frames := 7, cells := 2 * (z.2.2.2 - c0), slots := 52 * (z.2.2.2 - c0), locals := 215 } s m args below meth c H locs (2 * (M.2.2 - c0)) (52 * (M.2.2 - c0)) (MQ below (aq_i cx_T D cy z0 ad X z.1 z.2) args s (2 * (z.2.2.2 - c0)) (52 * (z.2.2.2 - c0)) (fun q => z0 ≤ q)) (F0 m 48 ls [])) (hm48 : ∀ (x4 : Int32) (x5 : Int32) (x6 : Int32) (x7 : Int32) (M : mm_M), q48 x4 x5 x6 x7 M = some z → M.2.2 ≤ z.2.2.2) {q61 : Int32 → Int32 → Int32 → Int32 → Int32 → mm_M → Option (Int32 × mm_M)} (hq61 : ∀ (x4 : Int32) (x5 : Int32) (x6 : Int32) (x7 : Int32) (x8 : Int32) (M : mm_M) (u : Nat × Nat) (H : Heap) (locs : List Loc) (ls : Array Slot), c0 ≤ M.2.2 → q61 x4 x5 x6 x7 x8 M = some z → wd_in cx_T D cy z0 ad u M X s H locs → lv_has ls 9 [(0, .ref (ad 0)), (4, .int x4), (5, .int x5), (6, .int x6), (7, .int x7), (8, .int x8)] → W p l e { frames := 7, cells := 2 * (z.2.2.2 - c0), slots := 52 * (z.2.2.2 - c0), locals := 215 } s m args below meth c H locs (2 * (M.2.2 - c0)) (52 * (M.2.2 - c0)) (MQ below (aq_i cx_T D cy z0 ad X z.1 z.2) args s (2 * (z.2.2.2 - c0)) (52 * (z.2.2.2 - c0)) (fun q => z0 ≤ q)) (F0 m 61 ls [])) (hm61 : ∀ (x4 : Int32) (x5 : Int32) (x6 : Int32) (x7 : Int32) (x8 : Int32) (M : mm_M), q61 x4 x5 x6 x7 x8 M = some z → M.2.2 ≤ z.2.2.2) (hf : f_X11_chance_61 q48 q61 x4 x5 x6 x7 x8 M = some z) {H : Heap} {locs : List Loc} (hw : wd_in cx_T D cy z0 ad u M X s H locs) {ls : Array Slot} (hl : lv_has ls 9 [(0, .ref (ad 0)), (4, .int x4), (5, .int x5), (6, .int x6), (7, .int x7), (8, .int x8)]) : W p l e { frames := 7, cells := 2 * (z.2.2.2 - c0), slots := 52 * (z.2.2.2 - c0), locals := 215 } s m args below meth c H locs (2 * (M.2.2 - c0)) (52 * (M.2.2 - c0)) (MQ below (aq_i cx_T D cy z0 ad X z.1 z.2) args s (2 * (z.2.2.2 - c0)) (52 * (z.2.2.2 - c0)) (fun q => z0 ≤ q)) (F0 m 61 ls []) := by
  have hx := hC.1
  have hb := hC.2.1
  have hmz : M.2.2 ≤ z.2.2.2 := mo_X11_chance_61 hm48 hm61 hf
  unfold f_X11_chance_61 at hf
  refine lv_iload hx hb dX11_chance_61 (lv_at hl 5 rfl) ?_
  refine lv_iload hx hb dX11_chance_63 (lv_at hl 1 rfl) ?_
  refine lv_icmp_ge (tgt := 100) hx hb dX11_chance_65 (by decide) (fun c10 => ?_) (fun c10 => ?_)
  · rw [if_pos c10] at hf
    refine W.widen (k := 2 * (M.2.2 - c0)) (n := 52 * (M.2.2 - c0)) (by omega) (by omega) ?_
    exact k_X11_chance_100 hC (by omega) hq48 hm48 hf hw (lv_sub hl [0, 1, 2, 3, 4] rfl)
  · rw [if_neg c10] at hf
    refine lv_iload hx hb dX11_chance_68 (lv_at hl 3 rfl) ?_
    refine lv_aload_n hx hb dX11_chance_70 rfl (lv_at hl 0 rfl) ?_
    refine rg_p hC hw 0 (Nat.le_of_ble_eq_true rfl) rfl fd_X11_2 wf_X11_26 (q := 5) rfl dX11_chance_71 ?_
    refine lv_iload hx hb dX11_chance_74 (lv_at hl 2 rfl) ?_
    refine lv_iload hx hb dX11_chance_76 (lv_at hl 4 rfl) ?_
    refine lv_iload hx hb dX11_chance_78 (lv_at hl 5 rfl) ?_
    obtain ⟨z11, ez11, hf⟩ := bd_e hf
    refine clc_Vi hC hw (c_X9_rhymeOn ez11) hd_X9_rhymeOn cw_X11_225 (Nat.le_of_ble_eq_true rfl) rfl rfl (rest := [.int x6]) hl.1 rfl (Nat.le_of_ble_eq_true rfl) ⟨Nat.le_of_ble_eq_true rfl, Nat.le_of_ble_eq_true rfl⟩ ⟨(show 2 * (M.2.2 - c0) ≤ 2 * (z.2.2.2 - c0) by omega), (show 52 * (M.2.2 - c0) ≤ 52 * (z.2.2.2 - c0) by omega)⟩ rfl dX11_chance_80 (fun H locs hw => ?_)
    refine lv_if_eq (tgt := 90) hx hb dX11_chance_83 (by decide) (fun c12 => ?_) (fun c12 => ?_)
    · rw [if_pos c12] at hf
      refine lv_iconst (v := 0) hx hb dX11_chance_90 (by decide) ?_
      refine W.widen (k := 2 * (M.2.2 - c0)) (n := 52 * (M.2.2 - c0)) (by omega) (by omega) ?_
      exact k_X11_chance_91 hC (by omega) hq61 hm61 hf hw (lv_sub hl [0, 1, 2, 4, 5] rfl)
    · rw [if_neg c12] at hf
      refine lv_iconst (v := 1) hx hb dX11_chance_86 (by decide) ?_
      refine lv_goto (tgt := 91) hx hb dX11_chance_87 (by decide) ?_
      refine W.widen (k := 2 * (M.2.2 - c0)) (n := 52 * (M.2.2 - c0)) (by omega) (by omega) ?_
      exact k_X11_chance_91 hC (by omega) hq61 hm61 hf hw (lv_sub hl [0, 1, 2, 4, 5] rfl)
set_option maxRecDepth 100000 in
set_option maxHeartbeats 4000000 in
theorem k_X11_chance_61l {p : Program} {l : Launch} {e : Env} {s : State} {m : MethodId} {args : Array Value} {below : List Frame} {meth : Method} {c : Code} {D : va_G} {cy : Nat → ClassId} {z0 : Nat} {ad : Nat → Nat} {X : va_W} (hC : cx_C p s m args meth c cX11_chance "RhymedThen" (Cond.code yX11_chance cX11_chance 9 (some .int)) 9 (some .int)) {z : (Int32 × mm_M)} {c0 : Nat} {q48 : Int32 → Int32 → Int32 → Int32 → mm_M → Option (Int32 × mm_M)} (hq48 : ∀ (x4 : Int32) (x5 : Int32) (x6 : Int32) (x7 : Int32) (M : mm_M) (u : Nat × Nat) (H : Heap) (locs : List Loc) (ls : Array Slot), c0 ≤ M.2.2 → q48 x4 x5 x6 x7 M = some z → wd_in cx_T D cy z0 ad u M X s H locs → lv_has ls 9 [(0, .ref (ad 0)), (4, .int x4), (5, .int x5), (6, .int x6), (7, .int x7)] → W p l e { frames := 7, cells := 2 * (z.2.2.2 - c0), slots := 52 * (z.2.2.2 - c0), locals := 215 } s m args below meth c H locs (2 * (M.2.2 - c0)) (52 * (M.2.2 - c0)) (MQ below (aq_i cx_T D cy z0 ad X z.1 z.2) args s (2 * (z.2.2.2 - c0)) (52 * (z.2.2.2 - c0)) (fun q => z0 ≤ q)) (F0 m 48 ls [])) (hm48 : ∀ (x4 : Int32) (x5 : Int32) (x6 : Int32) (x7 : Int32) (M : mm_M), q48 x4 x5 x6 x7 M = some z → M.2.2 ≤ z.2.2.2) : ∀ (n : Nat) (x4 : Int32) (x5 : Int32) (x6 : Int32) (x7 : Int32) (x8 : Int32) (M : mm_M) (u : Nat × Nat) (H : Heap) (locs : List Loc) (ls : Array Slot), c0 ≤ M.2.2 → f_X11_chance_61l q48 n x4 x5 x6 x7 x8 M = some z → wd_in cx_T D cy z0 ad u M X s H locs → lv_has ls 9 [(0, .ref (ad 0)), (4, .int x4), (5, .int x5), (6, .int x6), (7, .int x7), (8, .int x8)] → W p l e { frames := 7, cells := 2 * (z.2.2.2 - c0), slots := 52 * (z.2.2.2 - c0), locals := 215 } s m args below meth c H locs (2 * (M.2.2 - c0)) (52 * (M.2.2 - c0)) (MQ below (aq_i cx_T D cy z0 ad X z.1 z.2) args s (2 * (z.2.2.2 - c0)) (52 * (z.2.2.2 - c0)) (fun q => z0 ≤ q)) (F0 m 61 ls []) := by
  intro n
  induction n with
  | zero => intro x4 x5 x6 x7 x8 M u H locs ls hc0 hf; exact absurd hf (by simp [f_X11_chance_61l])
  | succ n ih => intro x4 x5 x6 x7 x8 M u H locs ls hc0 hf hw hl; exact k_X11_chance_61 hC hc0 hq48 hm48 ih (mo_X11_chance_61l hm48 n) hf hw hl
set_option maxRecDepth 100000 in
set_option maxHeartbeats 4000000 in
theorem k_X11_chance_106 {p : Program} {l : Launch} {e : Env} {s : State} {m : MethodId} {args : Array Value} {below : List Frame} {meth : Method} {c : Code} {D : va_G} {cy : Nat → ClassId} {z0 : Nat} {ad : Nat → Nat} {X : va_W} {u : Nat × Nat} (hC : cx_C p s m args meth c cX11_chance "RhymedThen" (Cond.code yX11_chance cX11_chance 9 (some .int)) 9 (some .int)) {z : (Int32 × mm_M)} {c0 : Nat} {x4 : Int32} {x6 : Int32} {M : mm_M} (hc0 : c0 ≤ M.2.2) (hf : f_X11_chance_106 x4 x6 M = some z) {H : Heap} {locs : List Loc} (hw : wd_in cx_T D cy z0 ad u M X s H locs) {ls : Array Slot} (hl : lv_has ls 9 [(0, .ref (ad 0)), (4, .int x4), (6, .int x6)]) : W p l e { frames := 7, cells := 2 * (z.2.2.2 - c0), slots := 52 * (z.2.2.2 - c0), locals := 215 } s m args below meth c H locs (2 * (M.2.2 - c0)) (52 * (M.2.2 - c0)) (MQ below (aq_i cx_T D cy z0 ad X z.1 z.2) args s (2 * (z.2.2.2 - c0)) (52 * (z.2.2.2 - c0)) (fun q => z0 ≤ q)) (F0 m 106 ls []) := by
  have hx := hC.1
  have hb := hC.2.1
  have hmz : M.2.2 ≤ z.2.2.2 := mo_X11_chance_106 hf
  unfold f_X11_chance_106 at hf
  refine lv_aload_n hx hb dX11_chance_106 rfl (lv_at hl 0 rfl) ?_
  refine rg_p hC hw 0 (Nat.le_of_ble_eq_true rfl) rfl fd_X11_1 wf_X11_19 (q := 3) rfl dX11_chance_107 ?_
  obtain ⟨z8, ez8, hf⟩ := sq_e hf
  have mz8 : M.2.2 ≤ z8.2.2 := mo_X4_clear ez8.symm
  refine clc_Vv hC hw (c_X4_clear ez8.symm) hd_X4_clear cw_X11_192 (Nat.le_of_ble_eq_true rfl) rfl rfl (rest := []) hl.1 rfl (Nat.le_of_ble_eq_true rfl) ⟨Nat.le_of_ble_eq_true rfl, Nat.le_of_ble_eq_true rfl⟩ ⟨(show 2 * (M.2.2 - c0) ≤ 2 * (z.2.2.2 - c0) by omega), (show 52 * (M.2.2 - c0) ≤ 52 * (z.2.2.2 - c0) by omega)⟩ rfl dX11_chance_110 (fun H locs hw => ?_)
  refine lv_aload_n hx hb dX11_chance_113 rfl (lv_at hl 0 rfl) ?_
  refine rg_p hC hw 0 (Nat.le_of_ble_eq_true rfl) rfl fd_X11_1 wf_X11_19 (q := 3) rfl dX11_chance_114 ?_
  refine lv_iload hx hb dX11_chance_117 (lv_at hl 2 rfl) ?_
  refine lv_i2l hx hb dX11_chance_119 rfl ?_
  refine lv_iload hx hb dX11_chance_120 (lv_at hl 1 rfl) ?_
  refine lv_iload hx hb dX11_chance_122 (lv_at hl 1 rfl) ?_
  refine lv_iconst (v := 1) hx hb dX11_chance_124 (by decide) ?_
  refine lv_isub hx hb dX11_chance_125 ?_
  refine lv_imul hx hb dX11_chance_126 ?_
  refine lv_iconst (v := 2) hx hb dX11_chance_127 (by decide) ?_
  refine lv_idiv hx hb dX11_chance_128 (by decide) ?_
  refine lv_i2l hx hb dX11_chance_129 rfl ?_
  obtain ⟨z9, ez9, hf⟩ := bd_e hf
  have mz9 : z8.2.2 ≤ z9.2.2 := mo_X4_addFraction ez9
  refine clc_Vv hC hw (c_X4_addFraction ez9) hd_X4_addFraction cw_X11_231 (Nat.le_of_ble_eq_true rfl) rfl rfl (rest := []) hl.1 rfl (Nat.le_of_ble_eq_true rfl) ⟨Nat.le_of_ble_eq_true rfl, Nat.le_of_ble_eq_true rfl⟩ ⟨(show 2 * (M.2.2 - c0) ≤ 2 * (z.2.2.2 - c0) by omega), (show 52 * (M.2.2 - c0) ≤ 52 * (z.2.2.2 - c0) by omega)⟩ rfl dX11_chance_130 (fun H locs hw => ?_)
  refine lv_iconst (v := 0) hx hb dX11_chance_133 (by decide) ?_
  refine W.widen (k := 2 * (z.2.2.2 - c0)) (n := 52 * (z.2.2.2 - c0)) (by omega) (by omega) ?_
  have hz := Option.some.inj hf
  subst hz
  exact rta_i hC hw dX11_chance_134
set_option maxRecDepth 100000 in
set_option maxHeartbeats 4000000 in
theorem k_X11_chance_48 {p : Program} {l : Launch} {e : Env} {s : State} {m : MethodId} {args : Array Value} {below : List Frame} {meth : Method} {c : Code} {D : va_G} {cy : Nat → ClassId} {z0 : Nat} {ad : Nat → Nat} {X : va_W} {u : Nat × Nat} (hC : cx_C p s m args meth c cX11_chance "RhymedThen" (Cond.code yX11_chance cX11_chance 9 (some .int)) 9 (some .int)) {z : (Int32 × mm_M)} {c0 : Nat} {x4 : Int32} {x5 : Int32} {x6 : Int32} {x7 : Int32} {M : mm_M} (hc0 : c0 ≤ M.2.2) {q48 : Int32 → Int32 → Int32 → Int32 → mm_M → Option (Int32 × mm_M)} (hq48 : ∀ (x4 : Int32) (x5 : Int32) (x6 : Int32) (x7 : Int32) (M : mm_M) (u : Nat × Nat) (H : Heap) (locs : List Loc) (ls : Array Slot), c0 ≤ M.2.2 → q48 x4 x5 x6 x7 M = some z → wd_in cx_T D cy z0 ad u M X s H locs → lv_has ls 9 [(0, .ref (ad 0)), (4, .int x4), (5, .int x5), (6, .int x6), (7, .int x7)] → W p l e { frames := 7, cells := 2 * (z.2.2.2 - c0), slots := 52 * (z.2.2.2 - c0), locals := 215 } s m args below meth c H locs (2 * (M.2.2 - c0)) (52 * (M.2.2 - c0)) (MQ below (aq_i cx_T D cy z0 ad X z.1 z.2) args s (2 * (z.2.2.2 - c0)) (52 * (z.2.2.2 - c0)) (fun q => z0 ≤ q)) (F0 m 48 ls [])) (hm48 : ∀ (x4 : Int32) (x5 : Int32) (x6 : Int32) (x7 : Int32) (M : mm_M), q48 x4 x5 x6 x7 M = some z → M.2.2 ≤ z.2.2.2) (hf : f_X11_chance_48 q48 x4 x5 x6 x7 M = some z) {H : Heap} {locs : List Loc} (hw : wd_in cx_T D cy z0 ad u M X s H locs) {ls : Array Slot} (hl : lv_has ls 9 [(0, .ref (ad 0)), (4, .int x4), (5, .int x5), (6, .int x6), (7, .int x7)]) : W p l e { frames := 7, cells := 2 * (z.2.2.2 - c0), slots := 52 * (z.2.2.2 - c0), locals := 215 } s m args below meth c H locs (2 * (M.2.2 - c0)) (52 * (M.2.2 - c0)) (MQ below (aq_i cx_T D cy z0 ad X z.1 z.2) args s (2 * (z.2.2.2 - c0)) (52 * (z.2.2.2 - c0)) (fun q => z0 ≤ q)) (F0 m 48 ls []) := by
  have hx := hC.1
  have hb := hC.2.1
  have hmz : M.2.2 ≤ z.2.2.2 := mo_X11_chance_48 hm48 hf
  unfold f_X11_chance_48 at hf
  refine lv_iload hx hb dX11_chance_48 (lv_at hl 4 rfl) ?_
  refine lv_iload hx hb dX11_chance_50 (lv_at hl 1 rfl) ?_
  refine lv_icmp_ge (tgt := 106) hx hb dX11_chance_52 (by decide) (fun c6 => ?_) (fun c6 => ?_)
  · rw [if_pos c6] at hf
    refine W.widen (k := 2 * (M.2.2 - c0)) (n := 52 * (M.2.2 - c0)) (by omega) (by omega) ?_
    exact k_X11_chance_106 hC (by omega) hf hw (lv_sub hl [0, 1, 3] rfl)
  · rw [if_neg c6] at hf
    refine lv_iload hx hb dX11_chance_55 (lv_at hl 4 rfl) ?_
    refine lv_iconst (v := 1) hx hb dX11_chance_57 (by decide) ?_
    refine lv_iadd hx hb dX11_chance_58 ?_
    obtain ⟨y7, ey7, hf⟩ := sq_e hf
    refine lt_i ey7 ?_
    refine lv_istore (lv' := [(8, .int y7), (0, .ref (ad 0)), (4, .int x4), (5, .int x5), (6, .int x6), (7, .int x7)]) hx hb dX11_chance_59 hl (by decide) rfl (fun ls hl => ?_)
    refine W.widen (k := 2 * (M.2.2 - c0)) (n := 52 * (M.2.2 - c0)) (by omega) (by omega) ?_
    exact k_X11_chance_61l hC hq48 hm48 fu_ _ _ _ _ _ _ _ _ _ _ (by omega) hf hw (lv_sub hl [1, 2, 3, 4, 5, 0] rfl)
set_option maxRecDepth 100000 in
set_option maxHeartbeats 4000000 in
theorem k_X11_chance_48l {p : Program} {l : Launch} {e : Env} {s : State} {m : MethodId} {args : Array Value} {below : List Frame} {meth : Method} {c : Code} {D : va_G} {cy : Nat → ClassId} {z0 : Nat} {ad : Nat → Nat} {X : va_W} (hC : cx_C p s m args meth c cX11_chance "RhymedThen" (Cond.code yX11_chance cX11_chance 9 (some .int)) 9 (some .int)) {z : (Int32 × mm_M)} {c0 : Nat} : ∀ (n : Nat) (x4 : Int32) (x5 : Int32) (x6 : Int32) (x7 : Int32) (M : mm_M) (u : Nat × Nat) (H : Heap) (locs : List Loc) (ls : Array Slot), c0 ≤ M.2.2 → f_X11_chance_48l n x4 x5 x6 x7 M = some z → wd_in cx_T D cy z0 ad u M X s H locs → lv_has ls 9 [(0, .ref (ad 0)), (4, .int x4), (5, .int x5), (6, .int x6), (7, .int x7)] → W p l e { frames := 7, cells := 2 * (z.2.2.2 - c0), slots := 52 * (z.2.2.2 - c0), locals := 215 } s m args below meth c H locs (2 * (M.2.2 - c0)) (52 * (M.2.2 - c0)) (MQ below (aq_i cx_T D cy z0 ad X z.1 z.2) args s (2 * (z.2.2.2 - c0)) (52 * (z.2.2.2 - c0)) (fun q => z0 ≤ q)) (F0 m 48 ls []) := by
  intro n
  induction n with
  | zero => intro x4 x5 x6 x7 M u H locs ls hc0 hf; exact absurd hf (by simp [f_X11_chance_48l])
  | succ n ih => intro x4 x5 x6 x7 M u H locs ls hc0 hf hw hl; exact k_X11_chance_48 hC hc0 ih (mo_X11_chance_48l n) hf hw hl
set_option maxRecDepth 100000 in
set_option maxHeartbeats 4000000 in
theorem k_X11_chance_40 {p : Program} {l : Launch} {e : Env} {s : State} {m : MethodId} {args : Array Value} {below : List Frame} {meth : Method} {c : Code} {D : va_G} {cy : Nat → ClassId} {z0 : Nat} {ad : Nat → Nat} {X : va_W} {u : Nat × Nat} (hC : cx_C p s m args meth c cX11_chance "RhymedThen" (Cond.code yX11_chance cX11_chance 9 (some .int)) 9 (some .int)) {z : (Int32 × mm_M)} {c0 : Nat} {x4 : Int32} {t0 : Int32} {M : mm_M} (hc0 : c0 ≤ M.2.2) (hf : f_X11_chance_40 x4 t0 M = some z) {H : Heap} {locs : List Loc} (hw : wd_in cx_T D cy z0 ad u M X s H locs) {ls : Array Slot} (hl : lv_has ls 9 [(0, .ref (ad 0)), (4, .int x4)]) : W p l e { frames := 7, cells := 2 * (z.2.2.2 - c0), slots := 52 * (z.2.2.2 - c0), locals := 215 } s m args below meth c H locs (2 * (M.2.2 - c0)) (52 * (M.2.2 - c0)) (MQ below (aq_i cx_T D cy z0 ad X z.1 z.2) args s (2 * (z.2.2.2 - c0)) (52 * (z.2.2.2 - c0)) (fun q => z0 ≤ q)) (F0 m 40 ls [.int t0]) := by
  have hx := hC.1
  have hb := hC.2.1
  have hmz : M.2.2 ≤ z.2.2.2 := mo_X11_chance_40 hf
  unfold f_X11_chance_40 at hf
  refine lv_istore (lv' := [(5, .int t0), (0, .ref (ad 0)), (4, .int x4)]) hx hb dX11_chance_40 hl (by decide) rfl (fun ls hl => ?_)
  refine lv_iconst (v := 0) hx hb dX11_chance_42 (by decide) ?_
  refine lv_istore (lv' := [(6, .int 0), (5, .int t0), (0, .ref (ad 0)), (4, .int x4)]) hx hb dX11_chance_43 hl (by decide) rfl (fun ls hl => ?_)
  refine lv_iconst (v := 0) hx hb dX11_chance_45 (by decide) ?_
  refine lv_istore (lv' := [(7, .int 0), (6, .int 0), (5, .int t0), (0, .ref (ad 0)), (4, .int x4)]) hx hb dX11_chance_46 hl (by decide) rfl (fun ls hl => ?_)
  refine W.widen (k := 2 * (M.2.2 - c0)) (n := 52 * (M.2.2 - c0)) (by omega) (by omega) ?_
  exact k_X11_chance_48l hC fu_ _ _ _ _ _ _ _ _ _ (by omega) hf hw (lv_sub hl [3, 4, 2, 1, 0] rfl)
set_option maxRecDepth 100000 in
set_option maxHeartbeats 4000000 in
theorem k_X11_chance {p : Program} {l : Launch} {e : Env} {s : State} {m : MethodId} {args : Array Value} {below : List Frame} {meth : Method} {c : Code} {D : va_G} {cy : Nat → ClassId} {z0 : Nat} {ad : Nat → Nat} {X : va_W} {u : Nat × Nat} (hC : cx_C p s m args meth c cX11_chance "RhymedThen" (Cond.code yX11_chance cX11_chance 9 (some .int)) 9 (some .int)) {z : (Int32 × mm_M)} {c0 : Nat} {x1 : Int32} {x2 : Int32} {x3 : Int32} {M : mm_M} (hc0 : c0 ≤ M.2.2) (hf : f_X11_chance x1 x2 x3 M = some z) {H : Heap} {locs : List Loc} (hw : wd_in cx_T D cy z0 ad u M X s H locs) {ls : Array Slot} (hl : lv_has ls 9 [(0, .ref (ad 0)), (1, .int x1), (2, .int x2), (3, .int x3)]) : W p l e { frames := 7, cells := 2 * (z.2.2.2 - c0), slots := 52 * (z.2.2.2 - c0), locals := 215 } s m args below meth c H locs (2 * (M.2.2 - c0)) (52 * (M.2.2 - c0)) (MQ below (aq_i cx_T D cy z0 ad X z.1 z.2) args s (2 * (z.2.2.2 - c0)) (52 * (z.2.2.2 - c0)) (fun q => z0 ≤ q)) (F0 m 0 ls []) := by
  have hx := hC.1
  have hb := hC.2.1
  have hmz : M.2.2 ≤ z.2.2.2 := mo_X11_chance hf
  unfold f_X11_chance at hf
  refine lv_aload_n hx hb dX11_chance_0 rfl (lv_at hl 0 rfl) ?_
  refine lv_iload_n hx hb dX11_chance_1 rfl (lv_at hl 1 rfl) ?_
  refine lv_iload_n hx hb dX11_chance_2 rfl (lv_at hl 2 rfl) ?_
  refine lv_iload_n hx hb dX11_chance_3 rfl (lv_at hl 3 rfl) ?_
  obtain ⟨z1, ez1, hf⟩ := sq_e hf
  refine clc_Vi hC hw (c_X11_isThenAndThere ez1.symm) hd_X11_isThenAndThere cw_X11_188 (Nat.le_of_ble_eq_true rfl) rfl rfl (rest := []) hl.1 rfl (Nat.le_of_ble_eq_true rfl) ⟨Nat.le_of_ble_eq_true rfl, Nat.le_of_ble_eq_true rfl⟩ ⟨(show 2 * (M.2.2 - c0) ≤ 2 * (z.2.2.2 - c0) by omega), (show 52 * (M.2.2 - c0) ≤ 52 * (z.2.2.2 - c0) by omega)⟩ rfl dX11_chance_4 (fun H locs hw => ?_)
  refine lv_if_ne (tgt := 12) hx hb dX11_chance_7 (by decide) (fun c2 => ?_) (fun c2 => ?_)
  · rw [if_neg c2] at hf
    refine lv_aload_n hx hb dX11_chance_12 rfl (lv_at hl 0 rfl) ?_
    refine rg_p hC hw 0 (Nat.le_of_ble_eq_true rfl) rfl fd_X11_2 wf_X11_26 (q := 5) rfl dX11_chance_13 ?_
    refine rg_i hC hw 5 (Nat.le_of_ble_eq_true rfl) rfl fd_X9_2 wf_X11_116 dX11_chance_16 ?_
    obtain ⟨y3, ey3, hf⟩ := sq_e hf
    refine lt_i ey3 ?_
    refine lv_istore (lv' := [(4, .int y3), (0, .ref (ad 0)), (1, .int x1), (2, .int x2), (3, .int x3)]) hx hb dX11_chance_19 hl (by decide) rfl (fun ls hl => ?_)
    refine lv_iload hx hb dX11_chance_21 (lv_at hl 0 rfl) ?_
    refine lv_iconst (v := 2) hx hb dX11_chance_23 (by decide) ?_
    refine lv_icmp_ge (tgt := 30) hx hb dX11_chance_24 (by decide) (fun c4 => ?_) (fun c4 => ?_)
    · rw [if_pos c4] at hf
      refine lv_aload_n hx hb dX11_chance_30 rfl (lv_at hl 1 rfl) ?_
      refine rg_p hC hw 0 (Nat.le_of_ble_eq_true rfl) rfl fd_X11_3 wf_X11_35 (q := 14) rfl dX11_chance_31 ?_
      refine lv_iload_n hx hb dX11_chance_34 rfl (lv_at hl 2 rfl) ?_
      refine lv_iload_n hx hb dX11_chance_35 rfl (lv_at hl 3 rfl) ?_
      refine lv_iload_n hx hb dX11_chance_36 rfl (lv_at hl 4 rfl) ?_
      obtain ⟨z5, ez5, hf⟩ := bd_e hf
      have mz5 : M.2.2 ≤ z5.2.2.2 := mo_X3_courseAt ez5
      have hnz : z5.2.2.2 ≤ z.2.2.2 := mo_X11_chance_40 hf
      refine cla_Vi hC hw (c_X3_courseAt ez5) hd_X3_courseAt cw_X11_195 (Nat.le_of_ble_eq_true rfl) rfl rfl (rest := []) hl.1 rfl (Nat.le_of_ble_eq_true rfl) ⟨Nat.le_of_ble_eq_true rfl, Nat.le_of_ble_eq_true rfl⟩ ⟨(show 2 * (M.2.2 - c0) + 2 * (z5.2.2.2 - M.2.2) ≤ 2 * (z.2.2.2 - c0) by omega), (show 52 * (M.2.2 - c0) + 52 * (z5.2.2.2 - M.2.2) ≤ 52 * (z.2.2.2 - c0) by omega)⟩ rfl dX11_chance_37 (fun u H locs hw => ?_)
      refine W.widen (k := 2 * (z5.2.2.2 - c0)) (n := 52 * (z5.2.2.2 - c0)) (by omega) (by omega) ?_
      exact k_X11_chance_40 hC (by omega) hf hw (lv_sub hl [1, 0] rfl)
    · rw [if_neg c4] at hf
      refine lv_bipush (v := (-2)) hx hb dX11_chance_27 (by decide) ?_
      refine W.widen (k := 2 * (z.2.2.2 - c0)) (n := 52 * (z.2.2.2 - c0)) (by omega) (by omega) ?_
      have hz := Option.some.inj hf
      subst hz
      exact rta_i hC hw dX11_chance_29
  · rw [if_pos c2] at hf
    refine lv_iconst (v := (-1)) hx hb dX11_chance_10 (by decide) ?_
    refine W.widen (k := 2 * (z.2.2.2 - c0)) (n := 52 * (z.2.2.2 - c0)) (by omega) (by omega) ?_
    have hz := Option.some.inj hf
    subst hz
    exact rta_i hC hw dX11_chance_11
set_option maxRecDepth 100000 in
theorem c_X11_chance {l : Launch} {D : va_G} {cy : Nat → ClassId} {z0 : Nat} {ad : Nat → Nat} {u : Nat × Nat} {X : va_W} {z : (Int32 × mm_M)} {x1 : Int32} {x2 : Int32} {x3 : Int32} {M : mm_M} (hf : f_X11_chance x1 x2 x3 M = some z) : ca_i cx_T l yX11_chance (Cond.code yX11_chance cX11_chance 9 (some .int)) 7 215 D cy z0 ad u M X [.ref (ad 0), .int x1, .int x2, .int x3] z.1 z.2 := by
  refine bga_i (by decide) (fun p e s m below meth c hC hw => ?_)
  refine en_t (Nat.le_of_ble_eq_true rfl) (fun ls hl => ?_)
  have hl : lv_has ls 9 [(0, .ref (ad 0)), (1, .int x1), (2, .int x2), (3, .int x3)] := hl
  refine W.widen (k := 2 * (M.2.2 - M.2.2)) (n := 52 * (M.2.2 - M.2.2)) (by omega) (by omega) ?_
  exact k_X11_chance hC (Nat.le_refl _) hf hw hl
set_option maxRecDepth 100000 in
set_option maxHeartbeats 4000000 in
theorem k_X11_isLaw {p : Program} {l : Launch} {e : Env} {s : State} {m : MethodId} {args : Array Value} {below : List Frame} {meth : Method} {c : Code} {D : va_G} {cy : Nat → ClassId} {z0 : Nat} {ad : Nat → Nat} {X : va_W} {u : Nat × Nat} (hC : cx_C p s m args meth c cX11_isLaw "RhymedThen" (Cond.code yX11_isLaw cX11_isLaw 2 (some .boolean)) 2 (some .boolean)) {z : Int32} {x1 : Int32} {M : mm_M} (hf : f_X11_isLaw x1 M = z) {H : Heap} {locs : List Loc} (hw : wd_in cx_T D cy z0 ad u M X s H locs) {ls : Array Slot} (hl : lv_has ls 2 [(0, .ref (ad 0)), (1, .int x1)]) : W p l e { frames := 1, cells := 0, slots := 0, locals := 21 } s m args below meth c H locs 0 0 (MQ below (cq_i cx_T D cy z0 ad u X z M) args s 0 0 (fun q => z0 ≤ q)) (F0 m 0 ls []) := by
  have hx := hC.1
  have hb := hC.2.1
  unfold f_X11_isLaw at hf
  refine lv_iload_n hx hb dX11_isLaw_0 rfl (lv_at hl 1 rfl) ?_
  refine lv_aload_n hx hb dX11_isLaw_1 rfl (lv_at hl 0 rfl) ?_
  refine rg_p hC hw 0 (Nat.le_of_ble_eq_true rfl) rfl fd_X11_2 wf_X11_26 (q := 5) rfl dX11_isLaw_2 ?_
  refine rg_i hC hw 5 (Nat.le_of_ble_eq_true rfl) rfl fd_X9_1 wf_X11_138 dX11_isLaw_5 ?_
  obtain ⟨z1, ez1, hf⟩ := sq_e hf
  refine clc_Si hC hw (c_X11_isBelow ez1.symm) hd_X11_isBelow cw_X11_101 (rest := []) hl.1 rfl (Nat.le_of_ble_eq_true rfl) ⟨Nat.le_of_ble_eq_true rfl, Nat.le_of_ble_eq_true rfl⟩ ⟨Nat.zero_le _, Nat.zero_le _⟩ rfl dX11_isLaw_8 (fun H locs hw => ?_)
  subst hf
  exact rtc_z hC hw (bz_X11_isBelow ez1.symm) dX11_isLaw_11
set_option maxRecDepth 100000 in
theorem c_X11_isLaw {l : Launch} {D : va_G} {cy : Nat → ClassId} {z0 : Nat} {ad : Nat → Nat} {u : Nat × Nat} {X : va_W} {z : Int32} {x1 : Int32} {M : mm_M} (hf : f_X11_isLaw x1 M = z) : ct_i cx_T l yX11_isLaw (Cond.code yX11_isLaw cX11_isLaw 2 (some .boolean)) 1 21 D cy z0 ad u M X [.ref (ad 0), .int x1] z M := by
  refine bgc_i (by decide) (fun p e s m below meth c hC hw => ?_)
  refine en_t (Nat.le_of_ble_eq_true rfl) (fun ls hl => ?_)
  have hl : lv_has ls 2 [(0, .ref (ad 0)), (1, .int x1)] := hl
  exact k_X11_isLaw hC hf hw hl
set_option maxRecDepth 100000 in
set_option maxHeartbeats 4000000 in
theorem k_X3_turnOf_2 {p : Program} {l : Launch} {e : Env} {s : State} {m : MethodId} {args : Array Value} {below : List Frame} {meth : Method} {c : Code} {D : va_G} {cy : Nat → ClassId} {z0 : Nat} {ad : Nat → Nat} {X : va_W} {u : Nat × Nat} (hC : cx_C p s m args meth c cX3_turnOf "RhymedThen$Past" (Cond.code yX3_turnOf cX3_turnOf 4 (some .int)) 4 (some .int)) {z : Int32} {x1 : Int32} {x2 : Int32} {x3 : Int32} {M : mm_M} {q2 : Int32 → Int32 → Int32 → Option Int32} (hq2 : ∀ (x1 : Int32) (x2 : Int32) (x3 : Int32) (H : Heap) (locs : List Loc) (ls : Array Slot), q2 x1 x2 x3 = some z → wd_in cx_T D cy z0 ad u M X s H locs → lv_has ls 4 [(0, .ref (ad 14)), (1, .int x1), (2, .int x2), (3, .int x3)] → W p l e { frames := 1, cells := 0, slots := 0, locals := 22 } s m args below meth c H locs 0 0 (MQ below (cq_i cx_T D cy z0 ad u X z M) args s 0 0 (fun q => z0 ≤ q)) (F0 m 2 ls [])) (hf : f_X3_turnOf_2 q2 x1 x2 x3 M = some z) {H : Heap} {locs : List Loc} (hw : wd_in cx_T D cy z0 ad u M X s H locs) {ls : Array Slot} (hl : lv_has ls 4 [(0, .ref (ad 14)), (1, .int x1), (2, .int x2), (3, .int x3)]) : W p l e { frames := 1, cells := 0, slots := 0, locals := 22 } s m args below meth c H locs 0 0 (MQ below (cq_i cx_T D cy z0 ad u X z M) args s 0 0 (fun q => z0 ≤ q)) (F0 m 2 ls []) := by
  have hx := hC.1
  have hb := hC.2.1
  unfold f_X3_turnOf_2 at hf
  refine lv_iload_n hx hb dX3_turnOf_2 rfl (lv_at hl 3 rfl) ?_
  refine lv_aload_n hx hb dX3_turnOf_3 rfl (lv_at hl 0 rfl) ?_
  refine rg_i hC hw 14 (Nat.le_of_ble_eq_true rfl) rfl fd_X3_3 wf_X3_19 dX3_turnOf_4 ?_
  refine lv_iconst (v := 1) hx hb dX3_turnOf_7 (by decide) ?_
  refine lv_isub hx hb dX3_turnOf_8 ?_
  refine lv_icmp_ge (tgt := 28) hx hb dX3_turnOf_9 (by decide) (fun c1 => ?_) (fun c1 => ?_)
  · rw [if_pos c1] at hf
    refine lv_iload_n hx hb dX3_turnOf_28 rfl (lv_at hl 3 rfl) ?_
    have hz := Option.some.inj hf
    subst hz
    exact rtc_i hC hw dX3_turnOf_29
  · rw [if_neg c1] at hf
    refine lv_aload_n hx hb dX3_turnOf_12 rfl (lv_at hl 0 rfl) ?_
    refine lv_iload_n hx hb dX3_turnOf_13 rfl (lv_at hl 1 rfl) ?_
    refine lv_iload_n hx hb dX3_turnOf_14 rfl (lv_at hl 3 rfl) ?_
    obtain ⟨z2, ez2, hf⟩ := bd_e hf
    refine clc_Vi hC hw (c_X3_lawAt ez2) hd_X3_lawAt cw_X3_44 (Nat.le_of_ble_eq_true rfl) rfl rfl (rest := []) hl.1 rfl (Nat.le_of_ble_eq_true rfl) ⟨Nat.le_of_ble_eq_true rfl, Nat.le_of_ble_eq_true rfl⟩ ⟨Nat.zero_le _, Nat.zero_le _⟩ rfl dX3_turnOf_15 (fun H locs hw => ?_)
    refine lv_iload_n hx hb dX3_turnOf_18 rfl (lv_at hl 2 rfl) ?_
    refine lv_icmp_eq (tgt := 28) hx hb dX3_turnOf_19 (by decide) (fun c3 => ?_) (fun c3 => ?_)
    · rw [if_pos c3] at hf
      refine lv_iload_n hx hb dX3_turnOf_28 rfl (lv_at hl 3 rfl) ?_
      have hz := Option.some.inj hf
      subst hz
      exact rtc_i hC hw dX3_turnOf_29
    · rw [if_neg c3] at hf
      obtain ⟨y4, ey4, hf⟩ := sq_e hf
      refine lv_iinc (v := y4) (lv' := [(3, .int y4), (0, .ref (ad 14)), (1, .int x1), (2, .int x2)]) hx hb dX3_turnOf_22 hl (k := 3) rfl (by rw [ey4]; rfl) (by decide) rfl (fun ls hl => ?_)
      refine lv_goto (tgt := 2) hx hb dX3_turnOf_25 (by decide) ?_
      exact hq2 _ _ _ _ _ _ hf hw (lv_sub hl [1, 2, 3, 0] rfl)
set_option maxRecDepth 100000 in
set_option maxHeartbeats 4000000 in
theorem k_X3_turnOf_2l {p : Program} {l : Launch} {e : Env} {s : State} {m : MethodId} {args : Array Value} {below : List Frame} {meth : Method} {c : Code} {D : va_G} {cy : Nat → ClassId} {z0 : Nat} {ad : Nat → Nat} {X : va_W} {u : Nat × Nat} (hC : cx_C p s m args meth c cX3_turnOf "RhymedThen$Past" (Cond.code yX3_turnOf cX3_turnOf 4 (some .int)) 4 (some .int)) {z : Int32} {M : mm_M} : ∀ (n : Nat) (x1 : Int32) (x2 : Int32) (x3 : Int32) (H : Heap) (locs : List Loc) (ls : Array Slot), f_X3_turnOf_2l M n x1 x2 x3 = some z → wd_in cx_T D cy z0 ad u M X s H locs → lv_has ls 4 [(0, .ref (ad 14)), (1, .int x1), (2, .int x2), (3, .int x3)] → W p l e { frames := 1, cells := 0, slots := 0, locals := 22 } s m args below meth c H locs 0 0 (MQ below (cq_i cx_T D cy z0 ad u X z M) args s 0 0 (fun q => z0 ≤ q)) (F0 m 2 ls []) := by
  intro n
  induction n with
  | zero => intro x1 x2 x3 H locs ls hf; exact absurd hf (by simp [f_X3_turnOf_2l])
  | succ n ih => intro x1 x2 x3 H locs ls hf hw hl; exact k_X3_turnOf_2 hC ih hf hw hl
set_option maxRecDepth 100000 in
set_option maxHeartbeats 4000000 in
theorem k_X3_turnOf {p : Program} {l : Launch} {e : Env} {s : State} {m : MethodId} {args : Array Value} {below : List Frame} {meth : Method} {c : Code} {D : va_G} {cy : Nat → ClassId} {z0 : Nat} {ad : Nat → Nat} {X : va_W} {u : Nat × Nat} (hC : cx_C p s m args meth c cX3_turnOf "RhymedThen$Past" (Cond.code yX3_turnOf cX3_turnOf 4 (some .int)) 4 (some .int)) {z : Int32} {x1 : Int32} {x2 : Int32} {M : mm_M} (hf : f_X3_turnOf x1 x2 M = some z) {H : Heap} {locs : List Loc} (hw : wd_in cx_T D cy z0 ad u M X s H locs) {ls : Array Slot} (hl : lv_has ls 4 [(0, .ref (ad 14)), (1, .int x1), (2, .int x2)]) : W p l e { frames := 1, cells := 0, slots := 0, locals := 22 } s m args below meth c H locs 0 0 (MQ below (cq_i cx_T D cy z0 ad u X z M) args s 0 0 (fun q => z0 ≤ q)) (F0 m 0 ls []) := by
  have hx := hC.1
  have hb := hC.2.1
  unfold f_X3_turnOf at hf
  refine lv_iconst (v := 0) hx hb dX3_turnOf_0 (by decide) ?_
  refine lv_istore_n (lv' := [(3, .int 0), (0, .ref (ad 14)), (1, .int x1), (2, .int x2)]) hx hb dX3_turnOf_1 rfl hl (by decide) rfl (fun ls hl => ?_)
  exact k_X3_turnOf_2l hC fu_ _ _ _ _ _ _ hf hw (lv_sub hl [1, 2, 3, 0] rfl)
set_option maxRecDepth 100000 in
theorem c_X3_turnOf {l : Launch} {D : va_G} {cy : Nat → ClassId} {z0 : Nat} {ad : Nat → Nat} {u : Nat × Nat} {X : va_W} {z : Int32} {x1 : Int32} {x2 : Int32} {M : mm_M} (hf : f_X3_turnOf x1 x2 M = some z) : ct_i cx_T l yX3_turnOf (Cond.code yX3_turnOf cX3_turnOf 4 (some .int)) 1 22 D cy z0 ad u M X [.ref (ad 14), .int x1, .int x2] z M := by
  refine bgc_i (by decide) (fun p e s m below meth c hC hw => ?_)
  refine en_t (Nat.le_of_ble_eq_true rfl) (fun ls hl => ?_)
  have hl : lv_has ls 4 [(0, .ref (ad 14)), (1, .int x1), (2, .int x2)] := hl
  exact k_X3_turnOf hC hf hw hl
set_option maxRecDepth 100000 in
set_option maxHeartbeats 4000000 in
theorem k_X3_yearOf {p : Program} {l : Launch} {e : Env} {s : State} {m : MethodId} {args : Array Value} {below : List Frame} {meth : Method} {c : Code} {D : va_G} {cy : Nat → ClassId} {z0 : Nat} {ad : Nat → Nat} {X : va_W} {u : Nat × Nat} (hC : cx_C p s m args meth c cX3_yearOf "RhymedThen$Past" (Cond.code yX3_yearOf cX3_yearOf 3 (some .int)) 3 (some .int)) {z : Int32} {x1 : Int32} {x2 : Int32} {M : mm_M} (hf : f_X3_yearOf x1 x2 M = some z) {H : Heap} {locs : List Loc} (hw : wd_in cx_T D cy z0 ad u M X s H locs) {ls : Array Slot} (hl : lv_has ls 3 [(0, .ref (ad 14)), (1, .int x1), (2, .int x2)]) : W p l e { frames := 2, cells := 0, slots := 0, locals := 45 } s m args below meth c H locs 0 0 (MQ below (cq_i cx_T D cy z0 ad u X z M) args s 0 0 (fun q => z0 ≤ q)) (F0 m 0 ls []) := by
  have hx := hC.1
  have hb := hC.2.1
  unfold f_X3_yearOf at hf
  refine lv_aload_n hx hb dX3_yearOf_0 rfl (lv_at hl 0 rfl) ?_
  refine rg_p hC hw 14 (Nat.le_of_ble_eq_true rfl) rfl fd_X3_5 wf_X3_25 (q := 17) rfl dX3_yearOf_1 ?_
  refine lv_iload_n hx hb dX3_yearOf_4 rfl (lv_at hl 1 rfl) ?_
  obtain ⟨h1, hf⟩ := ck_e hf
  refine ra_l hC hw 17 (Nat.le_of_ble_eq_true rfl) rfl h1 dX3_yearOf_5 ?_
  refine lv_aload_n hx hb dX3_yearOf_6 rfl (lv_at hl 0 rfl) ?_
  refine lv_iload_n hx hb dX3_yearOf_7 rfl (lv_at hl 1 rfl) ?_
  refine lv_iload_n hx hb dX3_yearOf_8 rfl (lv_at hl 2 rfl) ?_
  obtain ⟨z2, ez2, hf⟩ := bd_e hf
  refine clc_Vi hC hw (c_X3_turnOf ez2) hd_X3_turnOf cw_X3_48 (Nat.le_of_ble_eq_true rfl) rfl rfl (rest := [.long (M.2.1 17 x1.toNatClampNeg)]) hl.1 rfl (Nat.le_of_ble_eq_true rfl) ⟨Nat.le_of_ble_eq_true rfl, Nat.le_of_ble_eq_true rfl⟩ ⟨Nat.zero_le _, Nat.zero_le _⟩ rfl dX3_yearOf_9 (fun H locs hw => ?_)
  obtain ⟨z3, ez3, hf⟩ := sq_e hf
  refine clc_Si hC hw (c_X3_yearIn ez3.symm) hd_X3_yearIn cw_X3_40 (rest := []) hl.1 rfl (Nat.le_of_ble_eq_true rfl) ⟨Nat.le_of_ble_eq_true rfl, Nat.le_of_ble_eq_true rfl⟩ ⟨Nat.zero_le _, Nat.zero_le _⟩ rfl dX3_yearOf_12 (fun H locs hw => ?_)
  have hz := Option.some.inj hf
  subst hz
  exact rtc_i hC hw dX3_yearOf_15
set_option maxRecDepth 100000 in
theorem c_X3_yearOf {l : Launch} {D : va_G} {cy : Nat → ClassId} {z0 : Nat} {ad : Nat → Nat} {u : Nat × Nat} {X : va_W} {z : Int32} {x1 : Int32} {x2 : Int32} {M : mm_M} (hf : f_X3_yearOf x1 x2 M = some z) : ct_i cx_T l yX3_yearOf (Cond.code yX3_yearOf cX3_yearOf 3 (some .int)) 2 45 D cy z0 ad u M X [.ref (ad 14), .int x1, .int x2] z M := by
  refine bgc_i (by decide) (fun p e s m below meth c hC hw => ?_)
  refine en_t (Nat.le_of_ble_eq_true rfl) (fun ls hl => ?_)
  have hl : lv_has ls 3 [(0, .ref (ad 14)), (1, .int x1), (2, .int x2)] := hl
  exact k_X3_yearOf hC hf hw hl
set_option maxRecDepth 100000 in
set_option maxHeartbeats 4000000 in
theorem k_X3_hasCome {p : Program} {l : Launch} {e : Env} {s : State} {m : MethodId} {args : Array Value} {below : List Frame} {meth : Method} {c : Code} {D : va_G} {cy : Nat → ClassId} {z0 : Nat} {ad : Nat → Nat} {X : va_W} {u : Nat × Nat} (hC : cx_C p s m args meth c cX3_hasCome "RhymedThen$Past" (Cond.code yX3_hasCome cX3_hasCome 5 (some .boolean)) 5 (some .boolean)) {z : Int32} {x1 : Int32} {x2 : Int32} {x3 : Int32} {x4 : Int32} {M : mm_M} (hf : f_X3_hasCome x1 x2 x3 x4 M = some z) {H : Heap} {locs : List Loc} (hw : wd_in cx_T D cy z0 ad u M X s H locs) {ls : Array Slot} (hl : lv_has ls 5 [(0, .ref (ad 14)), (1, .int x1), (2, .int x2), (3, .int x3), (4, .int x4)]) : W p l e { frames := 3, cells := 0, slots := 0, locals := 67 } s m args below meth c H locs 0 0 (MQ below (cq_i cx_T D cy z0 ad u X z M) args s 0 0 (fun q => z0 ≤ q)) (F0 m 0 ls []) := by
  have hx := hC.1
  have hb := hC.2.1
  unfold f_X3_hasCome at hf
  refine lv_aload_n hx hb dX3_hasCome_0 rfl (lv_at hl 0 rfl) ?_
  refine lv_iload_n hx hb dX3_hasCome_1 rfl (lv_at hl 2 rfl) ?_
  refine lv_iload_n hx hb dX3_hasCome_2 rfl (lv_at hl 1 rfl) ?_
  obtain ⟨z1, ez1, hf⟩ := bd_e hf
  refine clc_Vi hC hw (c_X3_yearOf ez1) hd_X3_yearOf cw_X3_51 (Nat.le_of_ble_eq_true rfl) rfl rfl (rest := []) hl.1 rfl (Nat.le_of_ble_eq_true rfl) ⟨Nat.le_of_ble_eq_true rfl, Nat.le_of_ble_eq_true rfl⟩ ⟨Nat.zero_le _, Nat.zero_le _⟩ rfl dX3_hasCome_3 (fun H locs hw => ?_)
  refine lv_aload_n hx hb dX3_hasCome_6 rfl (lv_at hl 0 rfl) ?_
  refine rg_p hC hw 14 (Nat.le_of_ble_eq_true rfl) rfl fd_X3_1 wf_X3_9 (q := 15) rfl dX3_hasCome_7 ?_
  refine lv_iload hx hb dX3_hasCome_10 (lv_at hl 4 rfl) ?_
  obtain ⟨h2, hf⟩ := ck_e hf
  refine ra_i hC hw 15 (Nat.le_of_ble_eq_true rfl) rfl h2 dX3_hasCome_12 ?_
  refine lv_iadd hx hb dX3_hasCome_13 ?_
  refine lv_iload_n hx hb dX3_hasCome_14 rfl (lv_at hl 3 rfl) ?_
  refine lv_icmp_gt (tgt := 22) hx hb dX3_hasCome_15 (by decide) (fun c3 => ?_) (fun c3 => ?_)
  · rw [if_pos c3] at hf
    refine lv_iconst (v := 0) hx hb dX3_hasCome_22 (by decide) ?_
    have hz := Option.some.inj hf
    subst hz
    exact rtc_z hC hw (Or.inl rfl) dX3_hasCome_23
  · rw [if_neg c3] at hf
    refine lv_iconst (v := 1) hx hb dX3_hasCome_18 (by decide) ?_
    refine lv_goto (tgt := 23) hx hb dX3_hasCome_19 (by decide) ?_
    have hz := Option.some.inj hf
    subst hz
    exact rtc_z hC hw (Or.inr rfl) dX3_hasCome_23
set_option maxRecDepth 100000 in
theorem c_X3_hasCome {l : Launch} {D : va_G} {cy : Nat → ClassId} {z0 : Nat} {ad : Nat → Nat} {u : Nat × Nat} {X : va_W} {z : Int32} {x1 : Int32} {x2 : Int32} {x3 : Int32} {x4 : Int32} {M : mm_M} (hf : f_X3_hasCome x1 x2 x3 x4 M = some z) : ct_i cx_T l yX3_hasCome (Cond.code yX3_hasCome cX3_hasCome 5 (some .boolean)) 3 67 D cy z0 ad u M X [.ref (ad 14), .int x1, .int x2, .int x3, .int x4] z M := by
  refine bgc_i (by decide) (fun p e s m below meth c hC hw => ?_)
  refine en_t (Nat.le_of_ble_eq_true rfl) (fun ls hl => ?_)
  have hl : lv_has ls 5 [(0, .ref (ad 14)), (1, .int x1), (2, .int x2), (3, .int x3), (4, .int x4)] := hl
  exact k_X3_hasCome hC hf hw hl
set_option maxRecDepth 100000 in
set_option maxHeartbeats 4000000 in
theorem k_X3_courseUpTo_40 {p : Program} {l : Launch} {e : Env} {s : State} {m : MethodId} {args : Array Value} {below : List Frame} {meth : Method} {c : Code} {D : va_G} {cy : Nat → ClassId} {z0 : Nat} {ad : Nat → Nat} {X : va_W} {u : Nat × Nat} (hC : cx_C p s m args meth c cX3_courseUpTo "RhymedThen$Past" (Cond.code yX3_courseUpTo cX3_courseUpTo 5 (some .int)) 5 (some .int)) {z : (Int32 × mm_M)} {c0 : Nat} {x1 : Int32} {x2 : Int32} {x4 : Int32} {t0 : Int32} {M : mm_M} (hc0 : c0 ≤ M.2.2) {q5 : Int32 → Int32 → Int32 → Int32 → mm_M → Option (Int32 × mm_M)} (hq5 : ∀ (x1 : Int32) (x2 : Int32) (x3 : Int32) (x4 : Int32) (M : mm_M) (u : Nat × Nat) (H : Heap) (locs : List Loc) (ls : Array Slot), c0 ≤ M.2.2 → q5 x1 x2 x3 x4 M = some z → wd_in cx_T D cy z0 ad u M X s H locs → lv_has ls 5 [(0, .ref (ad 14)), (1, .int x1), (2, .int x2), (3, .int x3), (4, .int x4)] → W p l e { frames := 5, cells := 2 * (z.2.2.2 - c0), slots := 52 * (z.2.2.2 - c0), locals := 164 } s m args below meth c H locs (2 * (M.2.2 - c0)) (52 * (M.2.2 - c0)) (MQ below (aq_i cx_T D cy z0 ad X z.1 z.2) args s (2 * (z.2.2.2 - c0)) (52 * (z.2.2.2 - c0)) (fun q => z0 ≤ q)) (F0 m 5 ls [])) (hm5 : ∀ (x1 : Int32) (x2 : Int32) (x3 : Int32) (x4 : Int32) (M : mm_M), q5 x1 x2 x3 x4 M = some z → M.2.2 ≤ z.2.2.2) (hf : f_X3_courseUpTo_40 q5 x1 x2 x4 t0 M = some z) {H : Heap} {locs : List Loc} (hw : wd_in cx_T D cy z0 ad u M X s H locs) {ls : Array Slot} (hl : lv_has ls 5 [(0, .ref (ad 14)), (1, .int x1), (2, .int x2), (4, .int x4)]) : W p l e { frames := 5, cells := 2 * (z.2.2.2 - c0), slots := 52 * (z.2.2.2 - c0), locals := 164 } s m args below meth c H locs (2 * (M.2.2 - c0)) (52 * (M.2.2 - c0)) (MQ below (aq_i cx_T D cy z0 ad X z.1 z.2) args s (2 * (z.2.2.2 - c0)) (52 * (z.2.2.2 - c0)) (fun q => z0 ≤ q)) (F0 m 40 ls [.int t0]) := by
  have hx := hC.1
  have hb := hC.2.1
  have hmz : M.2.2 ≤ z.2.2.2 := mo_X3_courseUpTo_40 hm5 hf
  unfold f_X3_courseUpTo_40 at hf
  refine lv_istore_n (lv' := [(3, .int t0), (0, .ref (ad 14)), (1, .int x1), (2, .int x2), (4, .int x4)]) hx hb dX3_courseUpTo_40 rfl hl (by decide) rfl (fun ls hl => ?_)
  obtain ⟨y6, ey6, hf⟩ := sq_e hf
  refine lv_iinc (v := y6) (lv' := [(4, .int y6), (3, .int t0), (0, .ref (ad 14)), (1, .int x1), (2, .int x2)]) hx hb dX3_courseUpTo_41 hl (k := 4) rfl (by rw [ey6]; rfl) (by decide) rfl (fun ls hl => ?_)
  refine lv_goto (tgt := 5) hx hb dX3_courseUpTo_44 (by decide) ?_
  refine W.widen (k := 2 * (M.2.2 - c0)) (n := 52 * (M.2.2 - c0)) (by omega) (by omega) ?_
  exact hq5 _ _ _ _ _ _ _ _ _ (by omega) hf hw (lv_sub hl [2, 3, 4, 1, 0] rfl)
set_option maxRecDepth 100000 in
set_option maxHeartbeats 4000000 in
theorem k_X3_courseUpTo_5 {p : Program} {l : Launch} {e : Env} {s : State} {m : MethodId} {args : Array Value} {below : List Frame} {meth : Method} {c : Code} {D : va_G} {cy : Nat → ClassId} {z0 : Nat} {ad : Nat → Nat} {X : va_W} {u : Nat × Nat} (hC : cx_C p s m args meth c cX3_courseUpTo "RhymedThen$Past" (Cond.code yX3_courseUpTo cX3_courseUpTo 5 (some .int)) 5 (some .int)) {z : (Int32 × mm_M)} {c0 : Nat} {x1 : Int32} {x2 : Int32} {x3 : Int32} {x4 : Int32} {M : mm_M} (hc0 : c0 ≤ M.2.2) {q5 : Int32 → Int32 → Int32 → Int32 → mm_M → Option (Int32 × mm_M)} (hq5 : ∀ (x1 : Int32) (x2 : Int32) (x3 : Int32) (x4 : Int32) (M : mm_M) (u : Nat × Nat) (H : Heap) (locs : List Loc) (ls : Array Slot), c0 ≤ M.2.2 → q5 x1 x2 x3 x4 M = some z → wd_in cx_T D cy z0 ad u M X s H locs → lv_has ls 5 [(0, .ref (ad 14)), (1, .int x1), (2, .int x2), (3, .int x3), (4, .int x4)] → W p l e { frames := 5, cells := 2 * (z.2.2.2 - c0), slots := 52 * (z.2.2.2 - c0), locals := 164 } s m args below meth c H locs (2 * (M.2.2 - c0)) (52 * (M.2.2 - c0)) (MQ below (aq_i cx_T D cy z0 ad X z.1 z.2) args s (2 * (z.2.2.2 - c0)) (52 * (z.2.2.2 - c0)) (fun q => z0 ≤ q)) (F0 m 5 ls [])) (hm5 : ∀ (x1 : Int32) (x2 : Int32) (x3 : Int32) (x4 : Int32) (M : mm_M), q5 x1 x2 x3 x4 M = some z → M.2.2 ≤ z.2.2.2) (hf : f_X3_courseUpTo_5 q5 x1 x2 x3 x4 M = some z) {H : Heap} {locs : List Loc} (hw : wd_in cx_T D cy z0 ad u M X s H locs) {ls : Array Slot} (hl : lv_has ls 5 [(0, .ref (ad 14)), (1, .int x1), (2, .int x2), (3, .int x3), (4, .int x4)]) : W p l e { frames := 5, cells := 2 * (z.2.2.2 - c0), slots := 52 * (z.2.2.2 - c0), locals := 164 } s m args below meth c H locs (2 * (M.2.2 - c0)) (52 * (M.2.2 - c0)) (MQ below (aq_i cx_T D cy z0 ad X z.1 z.2) args s (2 * (z.2.2.2 - c0)) (52 * (z.2.2.2 - c0)) (fun q => z0 ≤ q)) (F0 m 5 ls []) := by
  have hx := hC.1
  have hb := hC.2.1
  have hmz : M.2.2 ≤ z.2.2.2 := mo_X3_courseUpTo_5 hm5 hf
  unfold f_X3_courseUpTo_5 at hf
  refine lv_iload hx hb dX3_courseUpTo_5 (lv_at hl 4 rfl) ?_
  refine lv_aload_n hx hb dX3_courseUpTo_7 rfl (lv_at hl 0 rfl) ?_
  refine rg_i hC hw 14 (Nat.le_of_ble_eq_true rfl) rfl fd_X3_3 wf_X3_19 dX3_courseUpTo_8 ?_
  refine lv_icmp_ge (tgt := 47) hx hb dX3_courseUpTo_11 (by decide) (fun c1 => ?_) (fun c1 => ?_)
  · rw [if_pos c1] at hf
    refine lv_iload_n hx hb dX3_courseUpTo_47 rfl (lv_at hl 3 rfl) ?_
    refine W.widen (k := 2 * (z.2.2.2 - c0)) (n := 52 * (z.2.2.2 - c0)) (by omega) (by omega) ?_
    have hz := Option.some.inj hf
    subst hz
    exact rta_i hC hw dX3_courseUpTo_48
  · rw [if_neg c1] at hf
    refine lv_aload_n hx hb dX3_courseUpTo_14 rfl (lv_at hl 0 rfl) ?_
    refine lv_iload_n hx hb dX3_courseUpTo_15 rfl (lv_at hl 1 rfl) ?_
    refine lv_iload hx hb dX3_courseUpTo_16 (lv_at hl 4 rfl) ?_
    obtain ⟨z2, ez2, hf⟩ := bd_e hf
    refine clc_Vi hC hw (c_X3_lawAt ez2) hd_X3_lawAt cw_X3_44 (Nat.le_of_ble_eq_true rfl) rfl rfl (rest := []) hl.1 rfl (Nat.le_of_ble_eq_true rfl) ⟨Nat.le_of_ble_eq_true rfl, Nat.le_of_ble_eq_true rfl⟩ ⟨(show 2 * (M.2.2 - c0) ≤ 2 * (z.2.2.2 - c0) by omega), (show 52 * (M.2.2 - c0) ≤ 52 * (z.2.2.2 - c0) by omega)⟩ rfl dX3_courseUpTo_18 (fun H locs hw => ?_)
    refine lv_iload_n hx hb dX3_courseUpTo_21 rfl (lv_at hl 2 rfl) ?_
    refine lv_icmp_eq (tgt := 47) hx hb dX3_courseUpTo_22 (by decide) (fun c3 => ?_) (fun c3 => ?_)
    · rw [if_pos c3] at hf
      refine lv_iload_n hx hb dX3_courseUpTo_47 rfl (lv_at hl 3 rfl) ?_
      refine W.widen (k := 2 * (z.2.2.2 - c0)) (n := 52 * (z.2.2.2 - c0)) (by omega) (by omega) ?_
      have hz := Option.some.inj hf
      subst hz
      exact rta_i hC hw dX3_courseUpTo_48
    · rw [if_neg c3] at hf
      refine lv_aload_n hx hb dX3_courseUpTo_25 rfl (lv_at hl 0 rfl) ?_
      refine rg_p hC hw 14 (Nat.le_of_ble_eq_true rfl) rfl fd_X3_0 wf_X3_32 (q := 5) rfl dX3_courseUpTo_26 ?_
      refine lv_iload_n hx hb dX3_courseUpTo_29 rfl (lv_at hl 3 rfl) ?_
      refine lv_aload_n hx hb dX3_courseUpTo_30 rfl (lv_at hl 0 rfl) ?_
      refine lv_iload_n hx hb dX3_courseUpTo_31 rfl (lv_at hl 1 rfl) ?_
      refine lv_iload hx hb dX3_courseUpTo_32 (lv_at hl 4 rfl) ?_
      obtain ⟨z4, ez4, hf⟩ := bd_e hf
      refine clc_Vi hC hw (c_X3_lawAt ez4) hd_X3_lawAt cw_X3_44 (Nat.le_of_ble_eq_true rfl) rfl rfl (rest := [.int x3, .ref (ad 5)]) hl.1 rfl (Nat.le_of_ble_eq_true rfl) ⟨Nat.le_of_ble_eq_true rfl, Nat.le_of_ble_eq_true rfl⟩ ⟨(show 2 * (M.2.2 - c0) ≤ 2 * (z.2.2.2 - c0) by omega), (show 52 * (M.2.2 - c0) ≤ 52 * (z.2.2.2 - c0) by omega)⟩ rfl dX3_courseUpTo_34 (fun H locs hw => ?_)
      obtain ⟨z5, ez5, hf⟩ := bd_e hf
      have mz5 : M.2.2 ≤ z5.2.2.2 := mo_X9_courseAfter ez5
      have hnz : z5.2.2.2 ≤ z.2.2.2 := mo_X3_courseUpTo_40 hm5 hf
      refine cla_Vi hC hw (c_X9_courseAfter ez5) hd_X9_courseAfter cw_X3_60 (Nat.le_of_ble_eq_true rfl) rfl rfl (rest := []) hl.1 rfl (Nat.le_of_ble_eq_true rfl) ⟨Nat.le_of_ble_eq_true rfl, Nat.le_of_ble_eq_true rfl⟩ ⟨(show 2 * (M.2.2 - c0) + 2 * (z5.2.2.2 - M.2.2) ≤ 2 * (z.2.2.2 - c0) by omega), (show 52 * (M.2.2 - c0) + 52 * (z5.2.2.2 - M.2.2) ≤ 52 * (z.2.2.2 - c0) by omega)⟩ rfl dX3_courseUpTo_37 (fun u H locs hw => ?_)
      refine W.widen (k := 2 * (z5.2.2.2 - c0)) (n := 52 * (z5.2.2.2 - c0)) (by omega) (by omega) ?_
      exact k_X3_courseUpTo_40 hC (by omega) hq5 hm5 hf hw (lv_sub hl [0, 1, 2, 4] rfl)
set_option maxRecDepth 100000 in
set_option maxHeartbeats 4000000 in
theorem k_X3_courseUpTo_5l {p : Program} {l : Launch} {e : Env} {s : State} {m : MethodId} {args : Array Value} {below : List Frame} {meth : Method} {c : Code} {D : va_G} {cy : Nat → ClassId} {z0 : Nat} {ad : Nat → Nat} {X : va_W} (hC : cx_C p s m args meth c cX3_courseUpTo "RhymedThen$Past" (Cond.code yX3_courseUpTo cX3_courseUpTo 5 (some .int)) 5 (some .int)) {z : (Int32 × mm_M)} {c0 : Nat} : ∀ (n : Nat) (x1 : Int32) (x2 : Int32) (x3 : Int32) (x4 : Int32) (M : mm_M) (u : Nat × Nat) (H : Heap) (locs : List Loc) (ls : Array Slot), c0 ≤ M.2.2 → f_X3_courseUpTo_5l n x1 x2 x3 x4 M = some z → wd_in cx_T D cy z0 ad u M X s H locs → lv_has ls 5 [(0, .ref (ad 14)), (1, .int x1), (2, .int x2), (3, .int x3), (4, .int x4)] → W p l e { frames := 5, cells := 2 * (z.2.2.2 - c0), slots := 52 * (z.2.2.2 - c0), locals := 164 } s m args below meth c H locs (2 * (M.2.2 - c0)) (52 * (M.2.2 - c0)) (MQ below (aq_i cx_T D cy z0 ad X z.1 z.2) args s (2 * (z.2.2.2 - c0)) (52 * (z.2.2.2 - c0)) (fun q => z0 ≤ q)) (F0 m 5 ls []) := by
  intro n
  induction n with
  | zero => intro x1 x2 x3 x4 M u H locs ls hc0 hf; exact absurd hf (by simp [f_X3_courseUpTo_5l])
  | succ n ih => intro x1 x2 x3 x4 M u H locs ls hc0 hf hw hl; exact k_X3_courseUpTo_5 hC hc0 ih (mo_X3_courseUpTo_5l n) hf hw hl
set_option maxRecDepth 100000 in
set_option maxHeartbeats 4000000 in
theorem k_X3_courseUpTo {p : Program} {l : Launch} {e : Env} {s : State} {m : MethodId} {args : Array Value} {below : List Frame} {meth : Method} {c : Code} {D : va_G} {cy : Nat → ClassId} {z0 : Nat} {ad : Nat → Nat} {X : va_W} {u : Nat × Nat} (hC : cx_C p s m args meth c cX3_courseUpTo "RhymedThen$Past" (Cond.code yX3_courseUpTo cX3_courseUpTo 5 (some .int)) 5 (some .int)) {z : (Int32 × mm_M)} {c0 : Nat} {x1 : Int32} {x2 : Int32} {M : mm_M} (hc0 : c0 ≤ M.2.2) (hf : f_X3_courseUpTo x1 x2 M = some z) {H : Heap} {locs : List Loc} (hw : wd_in cx_T D cy z0 ad u M X s H locs) {ls : Array Slot} (hl : lv_has ls 5 [(0, .ref (ad 14)), (1, .int x1), (2, .int x2)]) : W p l e { frames := 5, cells := 2 * (z.2.2.2 - c0), slots := 52 * (z.2.2.2 - c0), locals := 164 } s m args below meth c H locs (2 * (M.2.2 - c0)) (52 * (M.2.2 - c0)) (MQ below (aq_i cx_T D cy z0 ad X z.1 z.2) args s (2 * (z.2.2.2 - c0)) (52 * (z.2.2.2 - c0)) (fun q => z0 ≤ q)) (F0 m 0 ls []) := by
  have hx := hC.1
  have hb := hC.2.1
  have hmz : M.2.2 ≤ z.2.2.2 := mo_X3_courseUpTo hf
  unfold f_X3_courseUpTo at hf
  refine lv_iconst (v := 0) hx hb dX3_courseUpTo_0 (by decide) ?_
  refine lv_istore_n (lv' := [(3, .int 0), (0, .ref (ad 14)), (1, .int x1), (2, .int x2)]) hx hb dX3_courseUpTo_1 rfl hl (by decide) rfl (fun ls hl => ?_)
  refine lv_iconst (v := 0) hx hb dX3_courseUpTo_2 (by decide) ?_
  refine lv_istore (lv' := [(4, .int 0), (3, .int 0), (0, .ref (ad 14)), (1, .int x1), (2, .int x2)]) hx hb dX3_courseUpTo_3 hl (by decide) rfl (fun ls hl => ?_)
  refine W.widen (k := 2 * (M.2.2 - c0)) (n := 52 * (M.2.2 - c0)) (by omega) (by omega) ?_
  exact k_X3_courseUpTo_5l hC fu_ _ _ _ _ _ _ _ _ _ (by omega) hf hw (lv_sub hl [2, 3, 4, 1, 0] rfl)
set_option maxRecDepth 100000 in
theorem c_X3_courseUpTo {l : Launch} {D : va_G} {cy : Nat → ClassId} {z0 : Nat} {ad : Nat → Nat} {u : Nat × Nat} {X : va_W} {z : (Int32 × mm_M)} {x1 : Int32} {x2 : Int32} {M : mm_M} (hf : f_X3_courseUpTo x1 x2 M = some z) : ca_i cx_T l yX3_courseUpTo (Cond.code yX3_courseUpTo cX3_courseUpTo 5 (some .int)) 5 164 D cy z0 ad u M X [.ref (ad 14), .int x1, .int x2] z.1 z.2 := by
  refine bga_i (by decide) (fun p e s m below meth c hC hw => ?_)
  refine en_t (Nat.le_of_ble_eq_true rfl) (fun ls hl => ?_)
  have hl : lv_has ls 5 [(0, .ref (ad 14)), (1, .int x1), (2, .int x2)] := hl
  refine W.widen (k := 2 * (M.2.2 - M.2.2)) (n := 52 * (M.2.2 - M.2.2)) (by omega) (by omega) ?_
  exact k_X3_courseUpTo hC (Nat.le_refl _) hf hw hl
set_option maxRecDepth 100000 in
set_option maxHeartbeats 4000000 in
theorem k_X9_differing_41 {p : Program} {l : Launch} {e : Env} {s : State} {m : MethodId} {args : Array Value} {below : List Frame} {meth : Method} {c : Code} {D : va_G} {cy : Nat → ClassId} {z0 : Nat} {ad : Nat → Nat} {X : va_W} {u : Nat × Nat} (hC : cx_C p s m args meth c cX9_differing "RhymedThen$Tongue" (Cond.code yX9_differing cX9_differing 5 (some .int)) 5 (some .int)) {z : Int32} {x1 : Int32} {x2 : Int32} {x4 : Int32} {t0 : Int32} {t1 : Int32} {M : mm_M} {q5 : Int32 → Int32 → Int32 → Int32 → Option Int32} (hq5 : ∀ (x1 : Int32) (x2 : Int32) (x3 : Int32) (x4 : Int32) (H : Heap) (locs : List Loc) (ls : Array Slot), q5 x1 x2 x3 x4 = some z → wd_in cx_T D cy z0 ad u M X s H locs → lv_has ls 5 [(0, .ref (ad 5)), (1, .int x1), (2, .int x2), (3, .int x3), (4, .int x4)] → W p l e { frames := 1, cells := 0, slots := 0, locals := 22 } s m args below meth c H locs 0 0 (MQ below (cq_i cx_T D cy z0 ad u X z M) args s 0 0 (fun q => z0 ≤ q)) (F0 m 5 ls [])) (hf : f_X9_differing_41 q5 x1 x2 x4 t0 t1 M = some z) {H : Heap} {locs : List Loc} (hw : wd_in cx_T D cy z0 ad u M X s H locs) {ls : Array Slot} (hl : lv_has ls 5 [(0, .ref (ad 5)), (1, .int x1), (2, .int x2), (4, .int x4)]) : W p l e { frames := 1, cells := 0, slots := 0, locals := 22 } s m args below meth c H locs 0 0 (MQ below (cq_i cx_T D cy z0 ad u X z M) args s 0 0 (fun q => z0 ≤ q)) (F0 m 41 ls [.int t1, .int t0]) := by
  have hx := hC.1
  have hb := hC.2.1
  unfold f_X9_differing_41 at hf
  refine lv_ior hx hb dX9_differing_41 ?_
  obtain ⟨y5, ey5, hf⟩ := sq_e hf
  refine lt_i ey5 ?_
  refine lv_istore_n (lv' := [(3, .int y5), (0, .ref (ad 5)), (1, .int x1), (2, .int x2), (4, .int x4)]) hx hb dX9_differing_42 rfl hl (by decide) rfl (fun ls hl => ?_)
  obtain ⟨y6, ey6, hf⟩ := sq_e hf
  refine lv_iinc (v := y6) (lv' := [(4, .int y6), (3, .int y5), (0, .ref (ad 5)), (1, .int x1), (2, .int x2)]) hx hb dX9_differing_43 hl (k := 4) rfl (by rw [ey6]; rfl) (by decide) rfl (fun ls hl => ?_)
  refine lv_goto (tgt := 5) hx hb dX9_differing_46 (by decide) ?_
  exact hq5 _ _ _ _ _ _ _ hf hw (lv_sub hl [2, 3, 4, 1, 0] rfl)
set_option maxRecDepth 100000 in
set_option maxHeartbeats 4000000 in
theorem k_X9_differing_5 {p : Program} {l : Launch} {e : Env} {s : State} {m : MethodId} {args : Array Value} {below : List Frame} {meth : Method} {c : Code} {D : va_G} {cy : Nat → ClassId} {z0 : Nat} {ad : Nat → Nat} {X : va_W} {u : Nat × Nat} (hC : cx_C p s m args meth c cX9_differing "RhymedThen$Tongue" (Cond.code yX9_differing cX9_differing 5 (some .int)) 5 (some .int)) {z : Int32} {x1 : Int32} {x2 : Int32} {x3 : Int32} {x4 : Int32} {M : mm_M} {q5 : Int32 → Int32 → Int32 → Int32 → Option Int32} (hq5 : ∀ (x1 : Int32) (x2 : Int32) (x3 : Int32) (x4 : Int32) (H : Heap) (locs : List Loc) (ls : Array Slot), q5 x1 x2 x3 x4 = some z → wd_in cx_T D cy z0 ad u M X s H locs → lv_has ls 5 [(0, .ref (ad 5)), (1, .int x1), (2, .int x2), (3, .int x3), (4, .int x4)] → W p l e { frames := 1, cells := 0, slots := 0, locals := 22 } s m args below meth c H locs 0 0 (MQ below (cq_i cx_T D cy z0 ad u X z M) args s 0 0 (fun q => z0 ≤ q)) (F0 m 5 ls [])) (hf : f_X9_differing_5 q5 x1 x2 x3 x4 M = some z) {H : Heap} {locs : List Loc} (hw : wd_in cx_T D cy z0 ad u M X s H locs) {ls : Array Slot} (hl : lv_has ls 5 [(0, .ref (ad 5)), (1, .int x1), (2, .int x2), (3, .int x3), (4, .int x4)]) : W p l e { frames := 1, cells := 0, slots := 0, locals := 22 } s m args below meth c H locs 0 0 (MQ below (cq_i cx_T D cy z0 ad u X z M) args s 0 0 (fun q => z0 ≤ q)) (F0 m 5 ls []) := by
  have hx := hC.1
  have hb := hC.2.1
  unfold f_X9_differing_5 at hf
  refine lv_iload hx hb dX9_differing_5 (lv_at hl 4 rfl) ?_
  refine lv_aload_n hx hb dX9_differing_7 rfl (lv_at hl 0 rfl) ?_
  refine rg_i hC hw 5 (Nat.le_of_ble_eq_true rfl) rfl fd_X9_2 wf_X9_21 dX9_differing_8 ?_
  refine lv_icmp_ge (tgt := 49) hx hb dX9_differing_11 (by decide) (fun c1 => ?_) (fun c1 => ?_)
  · rw [if_pos c1] at hf
    refine lv_iload_n hx hb dX9_differing_49 rfl (lv_at hl 3 rfl) ?_
    have hz := Option.some.inj hf
    subst hz
    exact rtc_i hC hw dX9_differing_50
  · rw [if_neg c1] at hf
    refine lv_iload_n hx hb dX9_differing_14 rfl (lv_at hl 3 rfl) ?_
    refine lv_aload_n hx hb dX9_differing_15 rfl (lv_at hl 0 rfl) ?_
    refine lv_iload_n hx hb dX9_differing_16 rfl (lv_at hl 1 rfl) ?_
    refine lv_iload hx hb dX9_differing_17 (lv_at hl 4 rfl) ?_
    obtain ⟨z2, ez2, hf⟩ := bd_e hf
    refine clc_Vl hC hw (c_X9_formOn ez2) hd_X9_formOn cw_X9_62 (Nat.le_of_ble_eq_true rfl) rfl rfl (rest := [.int x3]) hl.1 rfl (Nat.le_of_ble_eq_true rfl) ⟨Nat.le_of_ble_eq_true rfl, Nat.le_of_ble_eq_true rfl⟩ ⟨Nat.zero_le _, Nat.zero_le _⟩ rfl dX9_differing_19 (fun H locs hw => ?_)
    refine lv_aload_n hx hb dX9_differing_22 rfl (lv_at hl 0 rfl) ?_
    refine lv_iload_n hx hb dX9_differing_23 rfl (lv_at hl 2 rfl) ?_
    refine lv_iload hx hb dX9_differing_24 (lv_at hl 4 rfl) ?_
    obtain ⟨z3, ez3, hf⟩ := bd_e hf
    refine clc_Vl hC hw (c_X9_formOn ez3) hd_X9_formOn cw_X9_62 (Nat.le_of_ble_eq_true rfl) rfl rfl (rest := [.long z2, .int x3]) hl.1 rfl (Nat.le_of_ble_eq_true rfl) ⟨Nat.le_of_ble_eq_true rfl, Nat.le_of_ble_eq_true rfl⟩ ⟨Nat.zero_le _, Nat.zero_le _⟩ rfl dX9_differing_26 (fun H locs hw => ?_)
    refine lc_eq (tgt := 40) hx hb dX9_differing_29 dX9_differing_30 (by decide) (fun c4 => ?_) (fun c4 => ?_)
    · rw [if_pos c4] at hf
      refine lv_iconst (v := 0) hx hb dX9_differing_40 (by decide) ?_
      exact k_X9_differing_41 hC hq5 hf hw (lv_sub hl [0, 1, 2, 4] rfl)
    · rw [if_neg c4] at hf
      refine lv_iconst (v := 1) hx hb dX9_differing_33 (by decide) ?_
      refine lv_iload hx hb dX9_differing_34 (lv_at hl 4 rfl) ?_
      refine lv_ishl hx hb dX9_differing_36 ?_
      refine lv_goto (tgt := 41) hx hb dX9_differing_37 (by decide) ?_
      exact k_X9_differing_41 hC hq5 hf hw (lv_sub hl [0, 1, 2, 4] rfl)
set_option maxRecDepth 100000 in
set_option maxHeartbeats 4000000 in
theorem k_X9_differing_5l {p : Program} {l : Launch} {e : Env} {s : State} {m : MethodId} {args : Array Value} {below : List Frame} {meth : Method} {c : Code} {D : va_G} {cy : Nat → ClassId} {z0 : Nat} {ad : Nat → Nat} {X : va_W} {u : Nat × Nat} (hC : cx_C p s m args meth c cX9_differing "RhymedThen$Tongue" (Cond.code yX9_differing cX9_differing 5 (some .int)) 5 (some .int)) {z : Int32} {M : mm_M} : ∀ (n : Nat) (x1 : Int32) (x2 : Int32) (x3 : Int32) (x4 : Int32) (H : Heap) (locs : List Loc) (ls : Array Slot), f_X9_differing_5l M n x1 x2 x3 x4 = some z → wd_in cx_T D cy z0 ad u M X s H locs → lv_has ls 5 [(0, .ref (ad 5)), (1, .int x1), (2, .int x2), (3, .int x3), (4, .int x4)] → W p l e { frames := 1, cells := 0, slots := 0, locals := 22 } s m args below meth c H locs 0 0 (MQ below (cq_i cx_T D cy z0 ad u X z M) args s 0 0 (fun q => z0 ≤ q)) (F0 m 5 ls []) := by
  intro n
  induction n with
  | zero => intro x1 x2 x3 x4 H locs ls hf; exact absurd hf (by simp [f_X9_differing_5l])
  | succ n ih => intro x1 x2 x3 x4 H locs ls hf hw hl; exact k_X9_differing_5 hC ih hf hw hl
set_option maxRecDepth 100000 in
set_option maxHeartbeats 4000000 in
theorem k_X9_differing {p : Program} {l : Launch} {e : Env} {s : State} {m : MethodId} {args : Array Value} {below : List Frame} {meth : Method} {c : Code} {D : va_G} {cy : Nat → ClassId} {z0 : Nat} {ad : Nat → Nat} {X : va_W} {u : Nat × Nat} (hC : cx_C p s m args meth c cX9_differing "RhymedThen$Tongue" (Cond.code yX9_differing cX9_differing 5 (some .int)) 5 (some .int)) {z : Int32} {x1 : Int32} {x2 : Int32} {M : mm_M} (hf : f_X9_differing x1 x2 M = some z) {H : Heap} {locs : List Loc} (hw : wd_in cx_T D cy z0 ad u M X s H locs) {ls : Array Slot} (hl : lv_has ls 5 [(0, .ref (ad 5)), (1, .int x1), (2, .int x2)]) : W p l e { frames := 1, cells := 0, slots := 0, locals := 22 } s m args below meth c H locs 0 0 (MQ below (cq_i cx_T D cy z0 ad u X z M) args s 0 0 (fun q => z0 ≤ q)) (F0 m 0 ls []) := by
  have hx := hC.1
  have hb := hC.2.1
  unfold f_X9_differing at hf
  refine lv_iconst (v := 0) hx hb dX9_differing_0 (by decide) ?_
  refine lv_istore_n (lv' := [(3, .int 0), (0, .ref (ad 5)), (1, .int x1), (2, .int x2)]) hx hb dX9_differing_1 rfl hl (by decide) rfl (fun ls hl => ?_)
  refine lv_iconst (v := 0) hx hb dX9_differing_2 (by decide) ?_
  refine lv_istore (lv' := [(4, .int 0), (3, .int 0), (0, .ref (ad 5)), (1, .int x1), (2, .int x2)]) hx hb dX9_differing_3 hl (by decide) rfl (fun ls hl => ?_)
  exact k_X9_differing_5l hC fu_ _ _ _ _ _ _ _ hf hw (lv_sub hl [2, 3, 4, 1, 0] rfl)
set_option maxRecDepth 100000 in
theorem c_X9_differing {l : Launch} {D : va_G} {cy : Nat → ClassId} {z0 : Nat} {ad : Nat → Nat} {u : Nat × Nat} {X : va_W} {z : Int32} {x1 : Int32} {x2 : Int32} {M : mm_M} (hf : f_X9_differing x1 x2 M = some z) : ct_i cx_T l yX9_differing (Cond.code yX9_differing cX9_differing 5 (some .int)) 1 22 D cy z0 ad u M X [.ref (ad 5), .int x1, .int x2] z M := by
  refine bgc_i (by decide) (fun p e s m below meth c hC hw => ?_)
  refine en_t (Nat.le_of_ble_eq_true rfl) (fun ls hl => ?_)
  have hl : lv_has ls 5 [(0, .ref (ad 5)), (1, .int x1), (2, .int x2)] := hl
  exact k_X9_differing hC hf hw hl
set_option maxRecDepth 100000 in
set_option maxHeartbeats 4000000 in
theorem k_X11_works_65 {p : Program} {l : Launch} {e : Env} {s : State} {m : MethodId} {args : Array Value} {below : List Frame} {meth : Method} {c : Code} {D : va_G} {cy : Nat → ClassId} {z0 : Nat} {ad : Nat → Nat} {X : va_W} {u : Nat × Nat} (hC : cx_C p s m args meth c cX11_works "RhymedThen" (Cond.code yX11_works cX11_works 6 (some .int)) 6 (some .int)) {z : (Int32 × mm_M)} {c0 : Nat} {t1 : Int32} {t2 : Int32} {M : mm_M} (hc0 : c0 ≤ M.2.2) (hf : f_X11_works_65 t1 t2 M = some z) {H : Heap} {locs : List Loc} (hw : wd_in cx_T D cy z0 ad u M X s H locs) {ls : Array Slot} (hl : lv_has ls 6 []) : W p l e { frames := 6, cells := 2 * (z.2.2.2 - c0), slots := 52 * (z.2.2.2 - c0), locals := 188 } s m args below meth c H locs (2 * (M.2.2 - c0)) (52 * (M.2.2 - c0)) (MQ below (aq_i cx_T D cy z0 ad X z.1 z.2) args s (2 * (z.2.2.2 - c0)) (52 * (z.2.2.2 - c0)) (fun q => z0 ≤ q)) (F0 m 65 ls [.int t2, .int t1, .ref (ad 5)]) := by
  have hx := hC.1
  have hb := hC.2.1
  have hmz : M.2.2 ≤ z.2.2.2 := mo_X11_works_65 hf
  unfold f_X11_works_65 at hf
  obtain ⟨z9, ez9, hf⟩ := bd_e hf
  refine clc_Vi hC hw (c_X9_differing ez9) hd_X9_differing cw_X11_248 (Nat.le_of_ble_eq_true rfl) rfl rfl (rest := []) hl.1 rfl (Nat.le_of_ble_eq_true rfl) ⟨Nat.le_of_ble_eq_true rfl, Nat.le_of_ble_eq_true rfl⟩ ⟨(show 2 * (M.2.2 - c0) ≤ 2 * (z.2.2.2 - c0) by omega), (show 52 * (M.2.2 - c0) ≤ 52 * (z.2.2.2 - c0) by omega)⟩ rfl dX11_works_65 (fun H locs hw => ?_)
  refine W.widen (k := 2 * (z.2.2.2 - c0)) (n := 52 * (z.2.2.2 - c0)) (by omega) (by omega) ?_
  have hz := Option.some.inj hf
  subst hz
  exact rta_i hC hw dX11_works_68
set_option maxRecDepth 100000 in
set_option maxHeartbeats 4000000 in
theorem k_X11_works_47 {p : Program} {l : Launch} {e : Env} {s : State} {m : MethodId} {args : Array Value} {below : List Frame} {meth : Method} {c : Code} {D : va_G} {cy : Nat → ClassId} {z0 : Nat} {ad : Nat → Nat} {X : va_W} {u : Nat × Nat} (hC : cx_C p s m args meth c cX11_works "RhymedThen" (Cond.code yX11_works cX11_works 6 (some .int)) 6 (some .int)) {z : (Int32 × mm_M)} {c0 : Nat} {x1 : Int32} {t0 : Int32} {M : mm_M} (hc0 : c0 ≤ M.2.2) (hf : f_X11_works_47 x1 t0 M = some z) {H : Heap} {locs : List Loc} (hw : wd_in cx_T D cy z0 ad u M X s H locs) {ls : Array Slot} (hl : lv_has ls 6 [(0, .ref (ad 0)), (1, .int x1)]) : W p l e { frames := 6, cells := 2 * (z.2.2.2 - c0), slots := 52 * (z.2.2.2 - c0), locals := 188 } s m args below meth c H locs (2 * (M.2.2 - c0)) (52 * (M.2.2 - c0)) (MQ below (aq_i cx_T D cy z0 ad X z.1 z.2) args s (2 * (z.2.2.2 - c0)) (52 * (z.2.2.2 - c0)) (fun q => z0 ≤ q)) (F0 m 47 ls [.int t0]) := by
  have hx := hC.1
  have hb := hC.2.1
  have hmz : M.2.2 ≤ z.2.2.2 := mo_X11_works_47 hf
  unfold f_X11_works_47 at hf
  refine lv_istore (lv' := [(5, .int t0), (0, .ref (ad 0)), (1, .int x1)]) hx hb dX11_works_47 hl (by decide) rfl (fun ls hl => ?_)
  refine lv_aload_n hx hb dX11_works_49 rfl (lv_at hl 1 rfl) ?_
  refine rg_p hC hw 0 (Nat.le_of_ble_eq_true rfl) rfl fd_X11_2 wf_X11_26 (q := 5) rfl dX11_works_50 ?_
  refine lv_iload hx hb dX11_works_53 (lv_at hl 0 rfl) ?_
  refine lv_aload_n hx hb dX11_works_55 rfl (lv_at hl 1 rfl) ?_
  refine rg_p hC hw 0 (Nat.le_of_ble_eq_true rfl) rfl fd_X11_2 wf_X11_26 (q := 5) rfl dX11_works_56 ?_
  refine lv_iload hx hb dX11_works_59 (lv_at hl 0 rfl) ?_
  refine lv_iload_n hx hb dX11_works_61 rfl (lv_at hl 2 rfl) ?_
  obtain ⟨z8, ez8, hf⟩ := bd_e hf
  have mz8 : M.2.2 ≤ z8.2.2.2 := mo_X9_courseAfter ez8
  have hnz : z8.2.2.2 ≤ z.2.2.2 := mo_X11_works_65 hf
  refine cla_Vi hC hw (c_X9_courseAfter ez8) hd_X9_courseAfter cw_X11_245 (Nat.le_of_ble_eq_true rfl) rfl rfl (rest := [.int t0, .ref (ad 5)]) hl.1 rfl (Nat.le_of_ble_eq_true rfl) ⟨Nat.le_of_ble_eq_true rfl, Nat.le_of_ble_eq_true rfl⟩ ⟨(show 2 * (M.2.2 - c0) + 2 * (z8.2.2.2 - M.2.2) ≤ 2 * (z.2.2.2 - c0) by omega), (show 52 * (M.2.2 - c0) + 52 * (z8.2.2.2 - M.2.2) ≤ 52 * (z.2.2.2 - c0) by omega)⟩ rfl dX11_works_62 (fun u H locs hw => ?_)
  refine W.widen (k := 2 * (z8.2.2.2 - c0)) (n := 52 * (z8.2.2.2 - c0)) (by omega) (by omega) ?_
  exact k_X11_works_65 hC (by omega) hf hw (lv_sub hl [] rfl)
set_option maxRecDepth 100000 in
set_option maxHeartbeats 4000000 in
theorem k_X11_works {p : Program} {l : Launch} {e : Env} {s : State} {m : MethodId} {args : Array Value} {below : List Frame} {meth : Method} {c : Code} {D : va_G} {cy : Nat → ClassId} {z0 : Nat} {ad : Nat → Nat} {X : va_W} {u : Nat × Nat} (hC : cx_C p s m args meth c cX11_works "RhymedThen" (Cond.code yX11_works cX11_works 6 (some .int)) 6 (some .int)) {z : (Int32 × mm_M)} {c0 : Nat} {x1 : Int32} {x2 : Int32} {x3 : Int32} {x4 : Int32} {M : mm_M} (hc0 : c0 ≤ M.2.2) (hf : f_X11_works x1 x2 x3 x4 M = some z) {H : Heap} {locs : List Loc} (hw : wd_in cx_T D cy z0 ad u M X s H locs) {ls : Array Slot} (hl : lv_has ls 6 [(0, .ref (ad 0)), (1, .int x1), (2, .int x2), (3, .int x3), (4, .int x4)]) : W p l e { frames := 6, cells := 2 * (z.2.2.2 - c0), slots := 52 * (z.2.2.2 - c0), locals := 188 } s m args below meth c H locs (2 * (M.2.2 - c0)) (52 * (M.2.2 - c0)) (MQ below (aq_i cx_T D cy z0 ad X z.1 z.2) args s (2 * (z.2.2.2 - c0)) (52 * (z.2.2.2 - c0)) (fun q => z0 ≤ q)) (F0 m 0 ls []) := by
  have hx := hC.1
  have hb := hC.2.1
  have hmz : M.2.2 ≤ z.2.2.2 := mo_X11_works hf
  unfold f_X11_works at hf
  refine lv_aload_n hx hb dX11_works_0 rfl (lv_at hl 0 rfl) ?_
  refine lv_iload_n hx hb dX11_works_1 rfl (lv_at hl 1 rfl) ?_
  obtain ⟨z1, ez1, hf⟩ := sq_e hf
  refine clc_Vi hC hw (c_X11_isLaw ez1.symm) hd_X11_isLaw cw_X11_235 (Nat.le_of_ble_eq_true rfl) rfl rfl (rest := []) hl.1 rfl (Nat.le_of_ble_eq_true rfl) ⟨Nat.le_of_ble_eq_true rfl, Nat.le_of_ble_eq_true rfl⟩ ⟨(show 2 * (M.2.2 - c0) ≤ 2 * (z.2.2.2 - c0) by omega), (show 52 * (M.2.2 - c0) ≤ 52 * (z.2.2.2 - c0) by omega)⟩ rfl dX11_works_2 (fun H locs hw => ?_)
  refine lv_if_eq (tgt := 19) hx hb dX11_works_5 (by decide) (fun c2 => ?_) (fun c2 => ?_)
  · rw [if_pos c2] at hf
    refine lv_iconst (v := (-1)) hx hb dX11_works_19 (by decide) ?_
    refine W.widen (k := 2 * (z.2.2.2 - c0)) (n := 52 * (z.2.2.2 - c0)) (by omega) (by omega) ?_
    have hz := Option.some.inj hf
    subst hz
    exact rta_i hC hw dX11_works_20
  · rw [if_neg c2] at hf
    refine lv_aload_n hx hb dX11_works_8 rfl (lv_at hl 0 rfl) ?_
    refine lv_iload_n hx hb dX11_works_9 rfl (lv_at hl 2 rfl) ?_
    refine lv_iload_n hx hb dX11_works_10 rfl (lv_at hl 3 rfl) ?_
    refine lv_iload hx hb dX11_works_11 (lv_at hl 4 rfl) ?_
    obtain ⟨z3, ez3, hf⟩ := sq_e hf
    refine clc_Vi hC hw (c_X11_isThenAndThere ez3.symm) hd_X11_isThenAndThere cw_X11_188 (Nat.le_of_ble_eq_true rfl) rfl rfl (rest := []) hl.1 rfl (Nat.le_of_ble_eq_true rfl) ⟨Nat.le_of_ble_eq_true rfl, Nat.le_of_ble_eq_true rfl⟩ ⟨(show 2 * (M.2.2 - c0) ≤ 2 * (z.2.2.2 - c0) by omega), (show 52 * (M.2.2 - c0) ≤ 52 * (z.2.2.2 - c0) by omega)⟩ rfl dX11_works_13 (fun H locs hw => ?_)
    refine lv_if_ne (tgt := 21) hx hb dX11_works_16 (by decide) (fun c4 => ?_) (fun c4 => ?_)
    · rw [if_neg c4] at hf
      refine lv_aload_n hx hb dX11_works_21 rfl (lv_at hl 0 rfl) ?_
      refine rg_p hC hw 0 (Nat.le_of_ble_eq_true rfl) rfl fd_X11_3 wf_X11_35 (q := 14) rfl dX11_works_22 ?_
      refine lv_iload_n hx hb dX11_works_25 rfl (lv_at hl 1 rfl) ?_
      refine lv_iload_n hx hb dX11_works_26 rfl (lv_at hl 2 rfl) ?_
      refine lv_iload_n hx hb dX11_works_27 rfl (lv_at hl 3 rfl) ?_
      refine lv_iload hx hb dX11_works_28 (lv_at hl 4 rfl) ?_
      obtain ⟨z5, ez5, hf⟩ := bd_e hf
      refine clc_Vi hC hw (c_X3_hasCome ez5) hd_X3_hasCome cw_X11_238 (Nat.le_of_ble_eq_true rfl) rfl rfl (rest := []) hl.1 rfl (Nat.le_of_ble_eq_true rfl) ⟨Nat.le_of_ble_eq_true rfl, Nat.le_of_ble_eq_true rfl⟩ ⟨(show 2 * (M.2.2 - c0) ≤ 2 * (z.2.2.2 - c0) by omega), (show 52 * (M.2.2 - c0) ≤ 52 * (z.2.2.2 - c0) by omega)⟩ rfl dX11_works_30 (fun H locs hw => ?_)
      refine lv_if_ne (tgt := 38) hx hb dX11_works_33 (by decide) (fun c6 => ?_) (fun c6 => ?_)
      · rw [if_neg c6] at hf
        refine lv_aload_n hx hb dX11_works_38 rfl (lv_at hl 0 rfl) ?_
        refine rg_p hC hw 0 (Nat.le_of_ble_eq_true rfl) rfl fd_X11_3 wf_X11_35 (q := 14) rfl dX11_works_39 ?_
        refine lv_iload_n hx hb dX11_works_42 rfl (lv_at hl 2 rfl) ?_
        refine lv_iload_n hx hb dX11_works_43 rfl (lv_at hl 1 rfl) ?_
        obtain ⟨z7, ez7, hf⟩ := bd_e hf
        have mz7 : M.2.2 ≤ z7.2.2.2 := mo_X3_courseUpTo ez7
        have hnz : z7.2.2.2 ≤ z.2.2.2 := mo_X11_works_47 hf
        refine cla_Vi hC hw (c_X3_courseUpTo ez7) hd_X3_courseUpTo cw_X11_242 (Nat.le_of_ble_eq_true rfl) rfl rfl (rest := []) hl.1 rfl (Nat.le_of_ble_eq_true rfl) ⟨Nat.le_of_ble_eq_true rfl, Nat.le_of_ble_eq_true rfl⟩ ⟨(show 2 * (M.2.2 - c0) + 2 * (z7.2.2.2 - M.2.2) ≤ 2 * (z.2.2.2 - c0) by omega), (show 52 * (M.2.2 - c0) + 52 * (z7.2.2.2 - M.2.2) ≤ 52 * (z.2.2.2 - c0) by omega)⟩ rfl dX11_works_44 (fun u H locs hw => ?_)
        refine W.widen (k := 2 * (z7.2.2.2 - c0)) (n := 52 * (z7.2.2.2 - c0)) (by omega) (by omega) ?_
        exact k_X11_works_47 hC (by omega) hf hw (lv_sub hl [0, 1] rfl)
      · rw [if_pos c6] at hf
        refine lv_iconst (v := 0) hx hb dX11_works_36 (by decide) ?_
        refine W.widen (k := 2 * (z.2.2.2 - c0)) (n := 52 * (z.2.2.2 - c0)) (by omega) (by omega) ?_
        have hz := Option.some.inj hf
        subst hz
        exact rta_i hC hw dX11_works_37
    · rw [if_pos c4] at hf
      refine lv_iconst (v := (-1)) hx hb dX11_works_19 (by decide) ?_
      refine W.widen (k := 2 * (z.2.2.2 - c0)) (n := 52 * (z.2.2.2 - c0)) (by omega) (by omega) ?_
      have hz := Option.some.inj hf
      subst hz
      exact rta_i hC hw dX11_works_20
set_option maxRecDepth 100000 in
theorem c_X11_works {l : Launch} {D : va_G} {cy : Nat → ClassId} {z0 : Nat} {ad : Nat → Nat} {u : Nat × Nat} {X : va_W} {z : (Int32 × mm_M)} {x1 : Int32} {x2 : Int32} {x3 : Int32} {x4 : Int32} {M : mm_M} (hf : f_X11_works x1 x2 x3 x4 M = some z) : ca_i cx_T l yX11_works (Cond.code yX11_works cX11_works 6 (some .int)) 6 188 D cy z0 ad u M X [.ref (ad 0), .int x1, .int x2, .int x3, .int x4] z.1 z.2 := by
  refine bga_i (by decide) (fun p e s m below meth c hC hw => ?_)
  refine en_t (Nat.le_of_ble_eq_true rfl) (fun ls hl => ?_)
  have hl : lv_has ls 6 [(0, .ref (ad 0)), (1, .int x1), (2, .int x2), (3, .int x3), (4, .int x4)] := hl
  refine W.widen (k := 2 * (M.2.2 - M.2.2)) (n := 52 * (M.2.2 - M.2.2)) (by omega) (by omega) ?_
  exact k_X11_works hC (Nat.le_refl _) hf hw hl
set_option maxRecDepth 100000 in
set_option maxHeartbeats 4000000 in
theorem k_X11_mayBeSign {p : Program} {l : Launch} {e : Env} {s : State} {m : MethodId} {args : Array Value} {below : List Frame} {meth : Method} {c : Code} {D : va_G} {cy : Nat → ClassId} {z0 : Nat} {ad : Nat → Nat} {X : va_W} {u : Nat × Nat} (hC : cx_C p s m args meth c cX11_mayBeSign "RhymedThen" (Cond.code yX11_mayBeSign cX11_mayBeSign 5 (some .boolean)) 5 (some .boolean)) {z : Int32} {x1 : Int32} {x2 : Int32} {x3 : Int32} {x4 : Int32} {M : mm_M} (hf : f_X11_mayBeSign x1 x2 x3 x4 M = z) {H : Heap} {locs : List Loc} (hw : wd_in cx_T D cy z0 ad u M X s H locs) {ls : Array Slot} (hl : lv_has ls 5 [(0, .ref (ad 0)), (1, .int x1), (2, .int x2), (3, .int x3), (4, .int x4)]) : W p l e { frames := 2, cells := 0, slots := 0, locals := 42 } s m args below meth c H locs 0 0 (MQ below (cq_i cx_T D cy z0 ad u X z M) args s 0 0 (fun q => z0 ≤ q)) (F0 m 0 ls []) := by
  have hx := hC.1
  have hb := hC.2.1
  unfold f_X11_mayBeSign at hf
  refine lv_aload_n hx hb dX11_mayBeSign_0 rfl (lv_at hl 0 rfl) ?_
  refine lv_iload_n hx hb dX11_mayBeSign_1 rfl (lv_at hl 2 rfl) ?_
  obtain ⟨z1, ez1, hf⟩ := sq_e hf
  refine clc_Vi hC hw (c_X11_isWord ez1.symm) hd_X11_isWord cw_X11_185 (Nat.le_of_ble_eq_true rfl) rfl rfl (rest := []) hl.1 rfl (Nat.le_of_ble_eq_true rfl) ⟨Nat.le_of_ble_eq_true rfl, Nat.le_of_ble_eq_true rfl⟩ ⟨Nat.zero_le _, Nat.zero_le _⟩ rfl dX11_mayBeSign_2 (fun H locs hw => ?_)
  refine lv_if_ne (tgt := 10) hx hb dX11_mayBeSign_5 (by decide) (fun c2 => ?_) (fun c2 => ?_)
  · rw [if_neg c2] at hf
    refine lv_iload_n hx hb dX11_mayBeSign_10 rfl (lv_at hl 1 rfl) ?_
    by_cases s15 : x1 = 0
    · rw [if_pos s15] at hf
      refine lt_i s15.symm ?_
      refine lv_tableIn (tgt := 44) hx hb dX11_mayBeSign_11 (by decide) (by decide) rfl (by decide) ?_
      refine lv_aload_n hx hb dX11_mayBeSign_44 rfl (lv_at hl 0 rfl) ?_
      refine lv_iload_n hx hb dX11_mayBeSign_45 rfl (lv_at hl 3 rfl) ?_
      obtain ⟨z3, ez3, hf⟩ := sq_e hf
      refine clc_Vi hC hw (c_X11_isWord ez3.symm) hd_X11_isWord cw_X11_185 (Nat.le_of_ble_eq_true rfl) rfl rfl (rest := []) hl.1 rfl (Nat.le_of_ble_eq_true rfl) ⟨Nat.le_of_ble_eq_true rfl, Nat.le_of_ble_eq_true rfl⟩ ⟨Nat.zero_le _, Nat.zero_le _⟩ rfl dX11_mayBeSign_46 (fun H locs hw => ?_)
      refine lv_if_eq (tgt := 61) hx hb dX11_mayBeSign_49 (by decide) (fun c4 => ?_) (fun c4 => ?_)
      · rw [if_pos c4] at hf
        refine lv_iconst (v := 0) hx hb dX11_mayBeSign_61 (by decide) ?_
        subst hf
        exact rtc_z hC hw (Or.inl rfl) dX11_mayBeSign_62
      · rw [if_neg c4] at hf
        refine lv_iload_n hx hb dX11_mayBeSign_52 rfl (lv_at hl 2 rfl) ?_
        refine lv_iload_n hx hb dX11_mayBeSign_53 rfl (lv_at hl 3 rfl) ?_
        refine lv_icmp_eq (tgt := 61) hx hb dX11_mayBeSign_54 (by decide) (fun c5 => ?_) (fun c5 => ?_)
        · rw [if_pos c5] at hf
          refine lv_iconst (v := 0) hx hb dX11_mayBeSign_61 (by decide) ?_
          subst hf
          exact rtc_z hC hw (Or.inl rfl) dX11_mayBeSign_62
        · rw [if_neg c5] at hf
          refine lv_iconst (v := 1) hx hb dX11_mayBeSign_57 (by decide) ?_
          refine lv_goto (tgt := 62) hx hb dX11_mayBeSign_58 (by decide) ?_
          subst hf
          exact rtc_z hC hw (Or.inr rfl) dX11_mayBeSign_62
    rw [if_neg s15] at hf
    by_cases s16 : x1 = 1
    · rw [if_pos s16] at hf
      refine lt_i s16.symm ?_
      refine lv_tableIn (tgt := 44) hx hb dX11_mayBeSign_11 (by decide) (by decide) rfl (by decide) ?_
      refine lv_aload_n hx hb dX11_mayBeSign_44 rfl (lv_at hl 0 rfl) ?_
      refine lv_iload_n hx hb dX11_mayBeSign_45 rfl (lv_at hl 3 rfl) ?_
      obtain ⟨z6, ez6, hf⟩ := sq_e hf
      refine clc_Vi hC hw (c_X11_isWord ez6.symm) hd_X11_isWord cw_X11_185 (Nat.le_of_ble_eq_true rfl) rfl rfl (rest := []) hl.1 rfl (Nat.le_of_ble_eq_true rfl) ⟨Nat.le_of_ble_eq_true rfl, Nat.le_of_ble_eq_true rfl⟩ ⟨Nat.zero_le _, Nat.zero_le _⟩ rfl dX11_mayBeSign_46 (fun H locs hw => ?_)
      refine lv_if_eq (tgt := 61) hx hb dX11_mayBeSign_49 (by decide) (fun c7 => ?_) (fun c7 => ?_)
      · rw [if_pos c7] at hf
        refine lv_iconst (v := 0) hx hb dX11_mayBeSign_61 (by decide) ?_
        subst hf
        exact rtc_z hC hw (Or.inl rfl) dX11_mayBeSign_62
      · rw [if_neg c7] at hf
        refine lv_iload_n hx hb dX11_mayBeSign_52 rfl (lv_at hl 2 rfl) ?_
        refine lv_iload_n hx hb dX11_mayBeSign_53 rfl (lv_at hl 3 rfl) ?_
        refine lv_icmp_eq (tgt := 61) hx hb dX11_mayBeSign_54 (by decide) (fun c8 => ?_) (fun c8 => ?_)
        · rw [if_pos c8] at hf
          refine lv_iconst (v := 0) hx hb dX11_mayBeSign_61 (by decide) ?_
          subst hf
          exact rtc_z hC hw (Or.inl rfl) dX11_mayBeSign_62
        · rw [if_neg c8] at hf
          refine lv_iconst (v := 1) hx hb dX11_mayBeSign_57 (by decide) ?_
          refine lv_goto (tgt := 62) hx hb dX11_mayBeSign_58 (by decide) ?_
          subst hf
          exact rtc_z hC hw (Or.inr rfl) dX11_mayBeSign_62
    rw [if_neg s16] at hf
    by_cases s17 : x1 = 2
    · rw [if_pos s17] at hf
      refine lt_i s17.symm ?_
      refine lv_tableIn (tgt := 63) hx hb dX11_mayBeSign_11 (by decide) (by decide) rfl (by decide) ?_
      refine lv_iload hx hb dX11_mayBeSign_63 (lv_at hl 4 rfl) ?_
      refine lv_if_lt (tgt := 79) hx hb dX11_mayBeSign_65 (by decide) (fun c9 => ?_) (fun c9 => ?_)
      · rw [if_pos c9] at hf
        refine lv_iconst (v := 0) hx hb dX11_mayBeSign_79 (by decide) ?_
        subst hf
        exact rtc_z hC hw (Or.inl rfl) dX11_mayBeSign_80
      · rw [if_neg c9] at hf
        refine lv_iload hx hb dX11_mayBeSign_68 (lv_at hl 4 rfl) ?_
        refine lv_bipush (v := 8) hx hb dX11_mayBeSign_70 (by decide) ?_
        refine lv_icmp_gt (tgt := 79) hx hb dX11_mayBeSign_72 (by decide) (fun c10 => ?_) (fun c10 => ?_)
        · rw [if_pos c10] at hf
          refine lv_iconst (v := 0) hx hb dX11_mayBeSign_79 (by decide) ?_
          subst hf
          exact rtc_z hC hw (Or.inl rfl) dX11_mayBeSign_80
        · rw [if_neg c10] at hf
          refine lv_iconst (v := 1) hx hb dX11_mayBeSign_75 (by decide) ?_
          refine lv_goto (tgt := 80) hx hb dX11_mayBeSign_76 (by decide) ?_
          subst hf
          exact rtc_z hC hw (Or.inr rfl) dX11_mayBeSign_80
    rw [if_neg s17] at hf
    by_cases s18 : x1 = 3
    · rw [if_pos s18] at hf
      refine lt_i s18.symm ?_
      refine lv_tableIn (tgt := 81) hx hb dX11_mayBeSign_11 (by decide) (by decide) rfl (by decide) ?_
      refine lv_iload hx hb dX11_mayBeSign_81 (lv_at hl 4 rfl) ?_
      refine lv_sipush (v := 128) hx hb dX11_mayBeSign_83 (by decide) ?_
      obtain ⟨z11, ez11, hf⟩ := sq_e hf
      refine clc_Si hC hw (c_X11_isBelow ez11.symm) hd_X11_isBelow cw_X11_101 (rest := []) hl.1 rfl (Nat.le_of_ble_eq_true rfl) ⟨Nat.le_of_ble_eq_true rfl, Nat.le_of_ble_eq_true rfl⟩ ⟨Nat.zero_le _, Nat.zero_le _⟩ rfl dX11_mayBeSign_86 (fun H locs hw => ?_)
      subst hf
      exact rtc_z hC hw (bz_X11_isBelow ez11.symm) dX11_mayBeSign_89
    rw [if_neg s18] at hf
    by_cases s19 : x1 = 4
    · rw [if_pos s19] at hf
      refine lt_i s19.symm ?_
      refine lv_tableIn (tgt := 44) hx hb dX11_mayBeSign_11 (by decide) (by decide) rfl (by decide) ?_
      refine lv_aload_n hx hb dX11_mayBeSign_44 rfl (lv_at hl 0 rfl) ?_
      refine lv_iload_n hx hb dX11_mayBeSign_45 rfl (lv_at hl 3 rfl) ?_
      obtain ⟨z12, ez12, hf⟩ := sq_e hf
      refine clc_Vi hC hw (c_X11_isWord ez12.symm) hd_X11_isWord cw_X11_185 (Nat.le_of_ble_eq_true rfl) rfl rfl (rest := []) hl.1 rfl (Nat.le_of_ble_eq_true rfl) ⟨Nat.le_of_ble_eq_true rfl, Nat.le_of_ble_eq_true rfl⟩ ⟨Nat.zero_le _, Nat.zero_le _⟩ rfl dX11_mayBeSign_46 (fun H locs hw => ?_)
      refine lv_if_eq (tgt := 61) hx hb dX11_mayBeSign_49 (by decide) (fun c13 => ?_) (fun c13 => ?_)
      · rw [if_pos c13] at hf
        refine lv_iconst (v := 0) hx hb dX11_mayBeSign_61 (by decide) ?_
        subst hf
        exact rtc_z hC hw (Or.inl rfl) dX11_mayBeSign_62
      · rw [if_neg c13] at hf
        refine lv_iload_n hx hb dX11_mayBeSign_52 rfl (lv_at hl 2 rfl) ?_
        refine lv_iload_n hx hb dX11_mayBeSign_53 rfl (lv_at hl 3 rfl) ?_
        refine lv_icmp_eq (tgt := 61) hx hb dX11_mayBeSign_54 (by decide) (fun c14 => ?_) (fun c14 => ?_)
        · rw [if_pos c14] at hf
          refine lv_iconst (v := 0) hx hb dX11_mayBeSign_61 (by decide) ?_
          subst hf
          exact rtc_z hC hw (Or.inl rfl) dX11_mayBeSign_62
        · rw [if_neg c14] at hf
          refine lv_iconst (v := 1) hx hb dX11_mayBeSign_57 (by decide) ?_
          refine lv_goto (tgt := 62) hx hb dX11_mayBeSign_58 (by decide) ?_
          subst hf
          exact rtc_z hC hw (Or.inr rfl) dX11_mayBeSign_62
    rw [if_neg s19] at hf
    refine lv_tableOut (tgt := 90) hx hb dX11_mayBeSign_11 (sw_out x1 0 4 (fun v h1 h2 => by rcases (show v = 0 ∨ v = 1 ∨ v = 2 ∨ v = 3 ∨ v = 4 by omega) with rfl | rfl | rfl | rfl | rfl <;> first | exact sw_ne s15 (by decide) | exact sw_ne s16 (by decide) | exact sw_ne s17 (by decide) | exact sw_ne s18 (by decide) | exact sw_ne s19 (by decide))) (by decide) ?_
    refine lv_iconst (v := 0) hx hb dX11_mayBeSign_90 (by decide) ?_
    subst hf
    exact rtc_z hC hw (Or.inl rfl) dX11_mayBeSign_91
  · rw [if_pos c2] at hf
    refine lv_iconst (v := 0) hx hb dX11_mayBeSign_8 (by decide) ?_
    subst hf
    exact rtc_z hC hw (Or.inl rfl) dX11_mayBeSign_9
set_option maxRecDepth 100000 in
theorem c_X11_mayBeSign {l : Launch} {D : va_G} {cy : Nat → ClassId} {z0 : Nat} {ad : Nat → Nat} {u : Nat × Nat} {X : va_W} {z : Int32} {x1 : Int32} {x2 : Int32} {x3 : Int32} {x4 : Int32} {M : mm_M} (hf : f_X11_mayBeSign x1 x2 x3 x4 M = z) : ct_i cx_T l yX11_mayBeSign (Cond.code yX11_mayBeSign cX11_mayBeSign 5 (some .boolean)) 2 42 D cy z0 ad u M X [.ref (ad 0), .int x1, .int x2, .int x3, .int x4] z M := by
  refine bgc_i (by decide) (fun p e s m below meth c hC hw => ?_)
  refine en_t (Nat.le_of_ble_eq_true rfl) (fun ls hl => ?_)
  have hl : lv_has ls 5 [(0, .ref (ad 0)), (1, .int x1), (2, .int x2), (3, .int x3), (4, .int x4)] := hl
  exact k_X11_mayBeSign hC hf hw hl
set_option maxRecDepth 100000 in
set_option maxHeartbeats 4000000 in
theorem k_X5_tell_26 {p : Program} {l : Launch} {e : Env} {s : State} {m : MethodId} {args : Array Value} {below : List Frame} {meth : Method} {c : Code} {D : va_G} {cy : Nat → ClassId} {z0 : Nat} {ad : Nat → Nat} {X : va_W} {u : Nat × Nat} (hC : cx_C p s m args meth c cX5_tell "RhymedThen$Sign" (Cond.code yX5_tell cX5_tell 5 none) 5 none) {z : mm_M} {k0 : Nat} {x4 : Int32} {ks0 : Nat} {t1 : Int32} {M : mm_M} (hk0 : sg_ok k0) (hks0 : sg_ok ks0) (hf : f_X5_tell_26 k0 x4 ks0 t1 M = z) {H : Heap} {locs : List Loc} (hw : wd_in cx_T D cy z0 ad u M X s H locs) {ls : Array Slot} (hl : lv_has ls 5 [(0, .ref (ad k0)), (4, .int x4)]) : W p l e { frames := 0, cells := 0, slots := 0, locals := 0 } s m args below meth c H locs 0 0 (MQ below (cq_v cx_T D cy z0 ad u X z) args s 0 0 (fun q => z0 ≤ q)) (F0 m 26 ls [.int t1, .ref (ad ks0)]) := by
  have hx := hC.1
  have hb := hC.2.1
  unfold f_X5_tell_26 at hf
  obtain ⟨M5, eM5, hf⟩ := sq_e hf
  refine rp_i hC hw ks0 (sg_lt hks0) (sg_kd hks0) fd_X5_2 wf_X5_22 fp_X5_2 rfl rfl dX5_tell_26 eM5 (fun H locs hw => ?_)
  refine lv_aload_n hx hb dX5_tell_29 rfl (lv_at hl 0 rfl) ?_
  refine lv_iload hx hb dX5_tell_30 (lv_at hl 1 rfl) ?_
  obtain ⟨M6, eM6, hf⟩ := sq_e hf
  refine rp_i hC hw k0 (sg_lt hk0) (sg_kd hk0) fd_X5_3 wf_X5_25 fp_X5_3 rfl rfl dX5_tell_32 eM6 (fun H locs hw => ?_)
  subst hf
  exact rtc_v hC hw dX5_tell_35
set_option maxRecDepth 100000 in
set_option maxHeartbeats 4000000 in
theorem k_X5_tell_21 {p : Program} {l : Launch} {e : Env} {s : State} {m : MethodId} {args : Array Value} {below : List Frame} {meth : Method} {c : Code} {D : va_G} {cy : Nat → ClassId} {z0 : Nat} {ad : Nat → Nat} {X : va_W} {u : Nat × Nat} (hC : cx_C p s m args meth c cX5_tell "RhymedThen$Sign" (Cond.code yX5_tell cX5_tell 5 none) 5 none) {z : mm_M} {k0 : Nat} {x2 : Int32} {x4 : Int32} {ks0 : Nat} {M : mm_M} (hk0 : sg_ok k0) (hks0 : sg_ok ks0) (hf : f_X5_tell_21 k0 x2 x4 ks0 M = z) {H : Heap} {locs : List Loc} (hw : wd_in cx_T D cy z0 ad u M X s H locs) {ls : Array Slot} (hl : lv_has ls 5 [(0, .ref (ad k0)), (2, .int x2), (4, .int x4)]) : W p l e { frames := 0, cells := 0, slots := 0, locals := 0 } s m args below meth c H locs 0 0 (MQ below (cq_v cx_T D cy z0 ad u X z) args s 0 0 (fun q => z0 ≤ q)) (F0 m 21 ls [.ref (ad ks0)]) := by
  have hx := hC.1
  have hb := hC.2.1
  unfold f_X5_tell_21 at hf
  refine lv_iload_n hx hb dX5_tell_21 rfl (lv_at hl 1 rfl) ?_
  refine lv_goto (tgt := 26) hx hb dX5_tell_22 (by decide) ?_
  exact k_X5_tell_26 hC hk0 hks0 hf hw (lv_sub hl [0, 2] rfl)
set_option maxRecDepth 100000 in
set_option maxHeartbeats 4000000 in
theorem k_X5_tell {p : Program} {l : Launch} {e : Env} {s : State} {m : MethodId} {args : Array Value} {below : List Frame} {meth : Method} {c : Code} {D : va_G} {cy : Nat → ClassId} {z0 : Nat} {ad : Nat → Nat} {X : va_W} {u : Nat × Nat} (hC : cx_C p s m args meth c cX5_tell "RhymedThen$Sign" (Cond.code yX5_tell cX5_tell 5 none) 5 none) {z : mm_M} {k0 : Nat} {x1 : Int32} {x2 : Int32} {x3 : Int32} {x4 : Int32} {M : mm_M} (hk0 : sg_ok k0) (hf : f_X5_tell k0 x1 x2 x3 x4 M = z) {H : Heap} {locs : List Loc} (hw : wd_in cx_T D cy z0 ad u M X s H locs) {ls : Array Slot} (hl : lv_has ls 5 [(0, .ref (ad k0)), (1, .int x1), (2, .int x2), (3, .int x3), (4, .int x4)]) : W p l e { frames := 0, cells := 0, slots := 0, locals := 0 } s m args below meth c H locs 0 0 (MQ below (cq_v cx_T D cy z0 ad u X z) args s 0 0 (fun q => z0 ≤ q)) (F0 m 0 ls []) := by
  have hx := hC.1
  have hb := hC.2.1
  unfold f_X5_tell at hf
  refine lv_aload_n hx hb dX5_tell_0 rfl (lv_at hl 0 rfl) ?_
  refine lv_iload_n hx hb dX5_tell_1 rfl (lv_at hl 1 rfl) ?_
  obtain ⟨M1, eM1, hf⟩ := sq_e hf
  refine rp_i hC hw k0 (sg_lt hk0) (sg_kd hk0) fd_X5_0 wf_X5_16 fp_X5_0 rfl rfl dX5_tell_2 eM1 (fun H locs hw => ?_)
  refine lv_aload_n hx hb dX5_tell_5 rfl (lv_at hl 0 rfl) ?_
  refine lv_iload_n hx hb dX5_tell_6 rfl (lv_at hl 2 rfl) ?_
  obtain ⟨M2, eM2, hf⟩ := sq_e hf
  refine rp_i hC hw k0 (sg_lt hk0) (sg_kd hk0) fd_X5_1 wf_X5_19 fp_X5_1 rfl rfl dX5_tell_7 eM2 (fun H locs hw => ?_)
  refine lv_aload_n hx hb dX5_tell_10 rfl (lv_at hl 0 rfl) ?_
  refine lv_iload_n hx hb dX5_tell_11 rfl (lv_at hl 1 rfl) ?_
  refine lv_iconst (v := 2) hx hb dX5_tell_12 (by decide) ?_
  refine lv_icmp_eq (tgt := 21) hx hb dX5_tell_13 (by decide) (fun c3 => ?_) (fun c3 => ?_)
  · rw [if_pos c3] at hf
    exact k_X5_tell_21 hC hk0 hk0 hf hw (lv_sub hl [0, 2, 4] rfl)
  · rw [if_neg c3] at hf
    refine lv_iload_n hx hb dX5_tell_16 rfl (lv_at hl 1 rfl) ?_
    refine lv_iconst (v := 3) hx hb dX5_tell_17 (by decide) ?_
    refine lv_icmp_ne (tgt := 25) hx hb dX5_tell_18 (by decide) (fun c4 => ?_) (fun c4 => ?_)
    · rw [if_neg c4] at hf
      refine lv_iload_n hx hb dX5_tell_25 rfl (lv_at hl 3 rfl) ?_
      exact k_X5_tell_26 hC hk0 hk0 hf hw (lv_sub hl [0, 4] rfl)
    · rw [if_pos c4] at hf
      exact k_X5_tell_21 hC hk0 hk0 hf hw (lv_sub hl [0, 2, 4] rfl)
set_option maxRecDepth 100000 in
theorem c_X5_tell {l : Launch} {D : va_G} {cy : Nat → ClassId} {z0 : Nat} {ad : Nat → Nat} {u : Nat × Nat} {X : va_W} {z : mm_M} {k0 : Nat} {x1 : Int32} {x2 : Int32} {x3 : Int32} {x4 : Int32} {M : mm_M} (hk0 : sg_ok k0) (hf : f_X5_tell k0 x1 x2 x3 x4 M = z) : ct_v cx_T l yX5_tell (Cond.code yX5_tell cX5_tell 5 none) 0 0 D cy z0 ad u M X [.ref (ad k0), .int x1, .int x2, .int x3, .int x4] z := by
  refine bgc_v (by decide) (fun p e s m below meth c hC hw => ?_)
  refine en_t (Nat.le_of_ble_eq_true rfl) (fun ls hl => ?_)
  have hl : lv_has ls 5 [(0, .ref (ad k0)), (1, .int x1), (2, .int x2), (3, .int x3), (4, .int x4)] := hl
  exact k_X5_tell hC hk0 hf hw hl
set_option maxRecDepth 100000 in
set_option maxHeartbeats 4000000 in
theorem k_X5_put {p : Program} {l : Launch} {e : Env} {s : State} {m : MethodId} {args : Array Value} {below : List Frame} {meth : Method} {c : Code} {D : va_G} {cy : Nat → ClassId} {z0 : Nat} {ad : Nat → Nat} {X : va_W} {u : Nat × Nat} (hC : cx_C p s m args meth c cX5_put "RhymedThen$Sign" (Cond.code yX5_put cX5_put 3 none) 3 none) {z : mm_M} {k0 : Nat} {x1 : Int32} {x2 : Int32} {M : mm_M} (hk0 : sg_ok k0) (hf : f_X5_put k0 x1 x2 M = z) {H : Heap} {locs : List Loc} (hw : wd_in cx_T D cy z0 ad u M X s H locs) {ls : Array Slot} (hl : lv_has ls 3 [(0, .ref (ad k0)), (1, .int x1), (2, .int x2)]) : W p l e { frames := 0, cells := 0, slots := 0, locals := 0 } s m args below meth c H locs 0 0 (MQ below (cq_v cx_T D cy z0 ad u X z) args s 0 0 (fun q => z0 ≤ q)) (F0 m 0 ls []) := by
  have hx := hC.1
  have hb := hC.2.1
  unfold f_X5_put at hf
  refine lv_aload_n hx hb dX5_put_0 rfl (lv_at hl 0 rfl) ?_
  refine lv_iload_n hx hb dX5_put_1 rfl (lv_at hl 1 rfl) ?_
  obtain ⟨M1, eM1, hf⟩ := sq_e hf
  refine rp_i hC hw k0 (sg_lt hk0) (sg_kd hk0) fd_X5_4 wf_X5_28 fp_X5_4 rfl rfl dX5_put_2 eM1 (fun H locs hw => ?_)
  refine lv_aload_n hx hb dX5_put_5 rfl (lv_at hl 0 rfl) ?_
  refine lv_iload_n hx hb dX5_put_6 rfl (lv_at hl 2 rfl) ?_
  obtain ⟨M2, eM2, hf⟩ := sq_e hf
  refine rp_i hC hw k0 (sg_lt hk0) (sg_kd hk0) fd_X5_5 wf_X5_31 fp_X5_5 rfl rfl dX5_put_7 eM2 (fun H locs hw => ?_)
  subst hf
  exact rtc_v hC hw dX5_put_10
set_option maxRecDepth 100000 in
theorem c_X5_put {l : Launch} {D : va_G} {cy : Nat → ClassId} {z0 : Nat} {ad : Nat → Nat} {u : Nat × Nat} {X : va_W} {z : mm_M} {k0 : Nat} {x1 : Int32} {x2 : Int32} {M : mm_M} (hk0 : sg_ok k0) (hf : f_X5_put k0 x1 x2 M = z) : ct_v cx_T l yX5_put (Cond.code yX5_put cX5_put 3 none) 0 0 D cy z0 ad u M X [.ref (ad k0), .int x1, .int x2] z := by
  refine bgc_v (by decide) (fun p e s m below meth c hC hw => ?_)
  refine en_t (Nat.le_of_ble_eq_true rfl) (fun ls hl => ?_)
  have hl : lv_has ls 3 [(0, .ref (ad k0)), (1, .int x1), (2, .int x2)] := hl
  exact k_X5_put hC hk0 hf hw hl
set_option maxRecDepth 100000 in
set_option maxHeartbeats 4000000 in
theorem k_X6_addTold {p : Program} {l : Launch} {e : Env} {s : State} {m : MethodId} {args : Array Value} {below : List Frame} {meth : Method} {c : Code} {D : va_G} {cy : Nat → ClassId} {z0 : Nat} {ad : Nat → Nat} {X : va_W} {u : Nat × Nat} (hC : cx_C p s m args meth c cX6_addTold "RhymedThen$Signs" (Cond.code yX6_addTold cX6_addTold 2 (some .int)) 2 (some .int)) {z : (Int32 × mm_M)} {M : mm_M} (hf : f_X6_addTold M = z) {H : Heap} {locs : List Loc} (hw : wd_in cx_T D cy z0 ad u M X s H locs) {ls : Array Slot} (hl : lv_has ls 2 [(0, .ref (ad 19))]) : W p l e { frames := 0, cells := 0, slots := 0, locals := 0 } s m args below meth c H locs 0 0 (MQ below (cq_i cx_T D cy z0 ad u X z.1 z.2) args s 0 0 (fun q => z0 ≤ q)) (F0 m 0 ls []) := by
  have hx := hC.1
  have hb := hC.2.1
  unfold f_X6_addTold at hf
  refine lv_aload_n hx hb dX6_addTold_0 rfl (lv_at hl 0 rfl) ?_
  refine rg_i hC hw 19 (Nat.le_of_ble_eq_true rfl) rfl fd_X6_3 wf_X6_17 dX6_addTold_1 ?_
  obtain ⟨y1, ey1, hf⟩ := sq_e hf
  refine lt_i ey1 ?_
  refine lv_istore_n (lv' := [(1, .int y1), (0, .ref (ad 19))]) hx hb dX6_addTold_4 rfl hl (by decide) rfl (fun ls hl => ?_)
  refine lv_aload_n hx hb dX6_addTold_5 rfl (lv_at hl 1 rfl) ?_
  refine lv_dup hx hb dX6_addTold_6 rfl ?_
  refine rg_i hC hw 19 (Nat.le_of_ble_eq_true rfl) rfl fd_X6_3 wf_X6_17 dX6_addTold_7 ?_
  refine lv_iconst (v := 1) hx hb dX6_addTold_10 (by decide) ?_
  refine lv_iadd hx hb dX6_addTold_11 ?_
  obtain ⟨M2, eM2, hf⟩ := sq_e hf
  refine rp_i hC hw 19 (Nat.le_of_ble_eq_true rfl) rfl fd_X6_3 wf_X6_17 fp_X6_3 rfl rfl dX6_addTold_12 eM2 (fun H locs hw => ?_)
  refine lv_aload_n hx hb dX6_addTold_15 rfl (lv_at hl 1 rfl) ?_
  refine lv_dup hx hb dX6_addTold_16 rfl ?_
  refine rg_i hC hw 19 (Nat.le_of_ble_eq_true rfl) rfl fd_X6_4 wf_X6_21 dX6_addTold_17 ?_
  refine lv_iconst (v := 1) hx hb dX6_addTold_20 (by decide) ?_
  refine lv_iload_n hx hb dX6_addTold_21 rfl (lv_at hl 0 rfl) ?_
  refine lv_ishl hx hb dX6_addTold_22 ?_
  refine lv_ior hx hb dX6_addTold_23 ?_
  obtain ⟨M3, eM3, hf⟩ := sq_e hf
  refine rp_i hC hw 19 (Nat.le_of_ble_eq_true rfl) rfl fd_X6_4 wf_X6_21 fp_X6_4 rfl rfl dX6_addTold_24 eM3 (fun H locs hw => ?_)
  refine lv_aload_n hx hb dX6_addTold_27 rfl (lv_at hl 1 rfl) ?_
  refine lv_dup hx hb dX6_addTold_28 rfl ?_
  refine rg_i hC hw 19 (Nat.le_of_ble_eq_true rfl) rfl fd_X6_6 wf_X6_28 dX6_addTold_29 ?_
  refine lv_iconst (v := 1) hx hb dX6_addTold_32 (by decide) ?_
  refine lv_iload_n hx hb dX6_addTold_33 rfl (lv_at hl 0 rfl) ?_
  refine lv_ishl hx hb dX6_addTold_34 ?_
  refine lv_ior hx hb dX6_addTold_35 ?_
  obtain ⟨M4, eM4, hf⟩ := sq_e hf
  refine rp_i hC hw 19 (Nat.le_of_ble_eq_true rfl) rfl fd_X6_6 wf_X6_28 fp_X6_6 rfl rfl dX6_addTold_36 eM4 (fun H locs hw => ?_)
  refine lv_iload_n hx hb dX6_addTold_39 rfl (lv_at hl 0 rfl) ?_
  subst hf
  exact rtc_i hC hw dX6_addTold_40
set_option maxRecDepth 100000 in
theorem c_X6_addTold {l : Launch} {D : va_G} {cy : Nat → ClassId} {z0 : Nat} {ad : Nat → Nat} {u : Nat × Nat} {X : va_W} {z : (Int32 × mm_M)} {M : mm_M} (hf : f_X6_addTold M = z) : ct_i cx_T l yX6_addTold (Cond.code yX6_addTold cX6_addTold 2 (some .int)) 0 0 D cy z0 ad u M X [.ref (ad 19)] z.1 z.2 := by
  refine bgc_i (by decide) (fun p e s m below meth c hC hw => ?_)
  refine en_t (Nat.le_of_ble_eq_true rfl) (fun ls hl => ?_)
  have hl : lv_has ls 2 [(0, .ref (ad 19))] := hl
  exact k_X6_addTold hC hf hw hl
set_option maxRecDepth 100000 in
set_option maxHeartbeats 4000000 in
theorem k_X11_mark {p : Program} {l : Launch} {e : Env} {s : State} {m : MethodId} {args : Array Value} {below : List Frame} {meth : Method} {c : Code} {D : va_G} {cy : Nat → ClassId} {z0 : Nat} {ad : Nat → Nat} {X : va_W} {u : Nat × Nat} (hC : cx_C p s m args meth c cX11_mark "RhymedThen" (Cond.code yX11_mark cX11_mark 8 (some .int)) 8 (some .int)) {z : (Int32 × mm_M)} {x1 : Int32} {x2 : Int32} {x3 : Int32} {x4 : Int32} {x5 : Int32} {x6 : Int32} {M : mm_M} (hf : f_X11_mark x1 x2 x3 x4 x5 x6 M = some z) {H : Heap} {locs : List Loc} (hw : wd_in cx_T D cy z0 ad u M X s H locs) {ls : Array Slot} (hl : lv_has ls 8 [(0, .ref (ad 0)), (1, .int x1), (2, .int x2), (3, .int x3), (4, .int x4), (5, .int x5), (6, .int x6)]) : W p l e { frames := 3, cells := 0, slots := 0, locals := 66 } s m args below meth c H locs 0 0 (MQ below (cq_i cx_T D cy z0 ad u X z.1 z.2) args s 0 0 (fun q => z0 ≤ q)) (F0 m 0 ls []) := by
  have hx := hC.1
  have hb := hC.2.1
  unfold f_X11_mark at hf
  refine lv_aload_n hx hb dX11_mark_0 rfl (lv_at hl 0 rfl) ?_
  refine rg_p hC hw 0 (Nat.le_of_ble_eq_true rfl) rfl fd_X11_4 wf_X11_44 (q := 19) rfl dX11_mark_1 ?_
  refine rg_i hC hw 19 (Nat.le_of_ble_eq_true rfl) rfl fd_X6_3 wf_X11_251 dX11_mark_4 ?_
  refine lv_bipush (v := 16) hx hb dX11_mark_7 (by decide) ?_
  refine lv_icmp_ge (tgt := 40) hx hb dX11_mark_9 (by decide) (fun c1 => ?_) (fun c1 => ?_)
  · rw [if_pos c1] at hf
    refine lv_iconst (v := (-1)) hx hb dX11_mark_40 (by decide) ?_
    have hz := Option.some.inj hf
    subst hz
    exact rtc_i hC hw dX11_mark_41
  · rw [if_neg c1] at hf
    refine lv_aload_n hx hb dX11_mark_12 rfl (lv_at hl 0 rfl) ?_
    refine lv_iload_n hx hb dX11_mark_13 rfl (lv_at hl 1 rfl) ?_
    refine lv_iload_n hx hb dX11_mark_14 rfl (lv_at hl 2 rfl) ?_
    refine lv_iload_n hx hb dX11_mark_15 rfl (lv_at hl 3 rfl) ?_
    refine lv_iload hx hb dX11_mark_16 (lv_at hl 6 rfl) ?_
    obtain ⟨z2, ez2, hf⟩ := sq_e hf
    refine clc_Vi hC hw (c_X11_mayBeSign ez2.symm) hd_X11_mayBeSign cw_X11_254 (Nat.le_of_ble_eq_true rfl) rfl rfl (rest := []) hl.1 rfl (Nat.le_of_ble_eq_true rfl) ⟨Nat.le_of_ble_eq_true rfl, Nat.le_of_ble_eq_true rfl⟩ ⟨Nat.zero_le _, Nat.zero_le _⟩ rfl dX11_mark_18 (fun H locs hw => ?_)
    refine lv_if_eq (tgt := 40) hx hb dX11_mark_21 (by decide) (fun c3 => ?_) (fun c3 => ?_)
    · rw [if_pos c3] at hf
      refine lv_iconst (v := (-1)) hx hb dX11_mark_40 (by decide) ?_
      have hz := Option.some.inj hf
      subst hz
      exact rtc_i hC hw dX11_mark_41
    · rw [if_neg c3] at hf
      refine lv_iload hx hb dX11_mark_24 (lv_at hl 4 rfl) ?_
      obtain ⟨z4, ez4, hf⟩ := sq_e hf
      refine clc_Si hC hw (c_X11_isYear ez4.symm) hd_X11_isYear cw_X11_257 (rest := []) hl.1 rfl (Nat.le_of_ble_eq_true rfl) ⟨Nat.le_of_ble_eq_true rfl, Nat.le_of_ble_eq_true rfl⟩ ⟨Nat.zero_le _, Nat.zero_le _⟩ rfl dX11_mark_26 (fun H locs hw => ?_)
      refine lv_if_eq (tgt := 40) hx hb dX11_mark_29 (by decide) (fun c5 => ?_) (fun c5 => ?_)
      · rw [if_pos c5] at hf
        refine lv_iconst (v := (-1)) hx hb dX11_mark_40 (by decide) ?_
        have hz := Option.some.inj hf
        subst hz
        exact rtc_i hC hw dX11_mark_41
      · rw [if_neg c5] at hf
        refine lv_iload hx hb dX11_mark_32 (lv_at hl 5 rfl) ?_
        obtain ⟨z6, ez6, hf⟩ := sq_e hf
        refine clc_Si hC hw (c_X11_isPlace ez6.symm) hd_X11_isPlace cw_X11_163 (rest := []) hl.1 rfl (Nat.le_of_ble_eq_true rfl) ⟨Nat.le_of_ble_eq_true rfl, Nat.le_of_ble_eq_true rfl⟩ ⟨Nat.zero_le _, Nat.zero_le _⟩ rfl dX11_mark_34 (fun H locs hw => ?_)
        refine lv_if_ne (tgt := 42) hx hb dX11_mark_37 (by decide) (fun c7 => ?_) (fun c7 => ?_)
        · rw [if_neg c7] at hf
          refine lv_aload_n hx hb dX11_mark_42 rfl (lv_at hl 0 rfl) ?_
          refine rg_p hC hw 0 (Nat.le_of_ble_eq_true rfl) rfl fd_X11_4 wf_X11_44 (q := 19) rfl dX11_mark_43 ?_
          refine rg_p hC hw 19 (Nat.le_of_ble_eq_true rfl) rfl fd_X6_2 wf_X11_260 (q := 20) rfl dX11_mark_46 ?_
          refine lv_aload_n hx hb dX11_mark_49 rfl (lv_at hl 0 rfl) ?_
          refine rg_p hC hw 0 (Nat.le_of_ble_eq_true rfl) rfl fd_X11_4 wf_X11_44 (q := 19) rfl dX11_mark_50 ?_
          refine rg_i hC hw 19 (Nat.le_of_ble_eq_true rfl) rfl fd_X6_3 wf_X11_251 dX11_mark_53 ?_
          obtain ⟨h8, hf⟩ := ck_e hf
          refine ra_S hC hw 20 (Nat.le_of_ble_eq_true rfl) rfl h8 dX11_mark_56 ?_
          refine lv_astore (lv' := [(7, .ref (ad (22 + (M.1 19 3).toNatClampNeg))), (0, .ref (ad 0)), (1, .int x1), (2, .int x2), (3, .int x3), (4, .int x4), (5, .int x5), (6, .int x6)]) hx hb dX11_mark_57 hl (by decide) rfl (fun ls hl => ?_)
          refine lv_aload hx hb dX11_mark_59 (lv_at hl 0 rfl) ?_
          refine lv_iload_n hx hb dX11_mark_61 rfl (lv_at hl 2 rfl) ?_
          refine lv_iload_n hx hb dX11_mark_62 rfl (lv_at hl 3 rfl) ?_
          refine lv_iload_n hx hb dX11_mark_63 rfl (lv_at hl 4 rfl) ?_
          refine lv_iload hx hb dX11_mark_64 (lv_at hl 7 rfl) ?_
          obtain ⟨z9, ez9, hf⟩ := sq_e hf
          refine clc_Vv hC hw (c_X5_tell (sg_ix h8) ez9.symm) hd_X5_tell cw_X11_264 (sg_lt (sg_ix h8)) (sg_kd (sg_ix h8)) rfl (rest := []) hl.1 rfl (Nat.le_of_ble_eq_true rfl) ⟨Nat.le_of_ble_eq_true rfl, Nat.le_of_ble_eq_true rfl⟩ ⟨Nat.zero_le _, Nat.zero_le _⟩ rfl dX11_mark_66 (fun H locs hw => ?_)
          refine lv_aload hx hb dX11_mark_69 (lv_at hl 0 rfl) ?_
          refine lv_iload hx hb dX11_mark_71 (lv_at hl 5 rfl) ?_
          refine lv_iload hx hb dX11_mark_73 (lv_at hl 6 rfl) ?_
          obtain ⟨z10, ez10, hf⟩ := sq_e hf
          refine clc_Vv hC hw (c_X5_put (sg_ix h8) ez10.symm) hd_X5_put cw_X11_268 (sg_lt (sg_ix h8)) (sg_kd (sg_ix h8)) rfl (rest := []) hl.1 rfl (Nat.le_of_ble_eq_true rfl) ⟨Nat.le_of_ble_eq_true rfl, Nat.le_of_ble_eq_true rfl⟩ ⟨Nat.zero_le _, Nat.zero_le _⟩ rfl dX11_mark_75 (fun H locs hw => ?_)
          refine lv_aload_n hx hb dX11_mark_78 rfl (lv_at hl 1 rfl) ?_
          refine rg_p hC hw 0 (Nat.le_of_ble_eq_true rfl) rfl fd_X11_4 wf_X11_44 (q := 19) rfl dX11_mark_79 ?_
          obtain ⟨z11, ez11, hf⟩ := sq_e hf
          refine clc_Vi hC hw (c_X6_addTold ez11.symm) hd_X6_addTold cw_X11_271 (Nat.le_of_ble_eq_true rfl) rfl rfl (rest := []) hl.1 rfl (Nat.le_of_ble_eq_true rfl) ⟨Nat.le_of_ble_eq_true rfl, Nat.le_of_ble_eq_true rfl⟩ ⟨Nat.zero_le _, Nat.zero_le _⟩ rfl dX11_mark_82 (fun H locs hw => ?_)
          have hz := Option.some.inj hf
          subst hz
          exact rtc_i hC hw dX11_mark_85
        · rw [if_pos c7] at hf
          refine lv_iconst (v := (-1)) hx hb dX11_mark_40 (by decide) ?_
          have hz := Option.some.inj hf
          subst hz
          exact rtc_i hC hw dX11_mark_41
set_option maxRecDepth 100000 in
theorem c_X11_mark {l : Launch} {D : va_G} {cy : Nat → ClassId} {z0 : Nat} {ad : Nat → Nat} {u : Nat × Nat} {X : va_W} {z : (Int32 × mm_M)} {x1 : Int32} {x2 : Int32} {x3 : Int32} {x4 : Int32} {x5 : Int32} {x6 : Int32} {M : mm_M} (hf : f_X11_mark x1 x2 x3 x4 x5 x6 M = some z) : ct_i cx_T l yX11_mark (Cond.code yX11_mark cX11_mark 8 (some .int)) 3 66 D cy z0 ad u M X [.ref (ad 0), .int x1, .int x2, .int x3, .int x4, .int x5, .int x6] z.1 z.2 := by
  refine bgc_i (by decide) (fun p e s m below meth c hC hw => ?_)
  refine en_t (Nat.le_of_ble_eq_true rfl) (fun ls hl => ?_)
  have hl : lv_has ls 8 [(0, .ref (ad 0)), (1, .int x1), (2, .int x2), (3, .int x3), (4, .int x4), (5, .int x5), (6, .int x6)] := hl
  exact k_X11_mark hC hf hw hl
set_option maxRecDepth 100000 in
set_option maxHeartbeats 4000000 in
theorem k_X11_isSign {p : Program} {l : Launch} {e : Env} {s : State} {m : MethodId} {args : Array Value} {below : List Frame} {meth : Method} {c : Code} {D : va_G} {cy : Nat → ClassId} {z0 : Nat} {ad : Nat → Nat} {X : va_W} {u : Nat × Nat} (hC : cx_C p s m args meth c cX11_isSign "RhymedThen" (Cond.code yX11_isSign cX11_isSign 2 (some .boolean)) 2 (some .boolean)) {z : Int32} {x1 : Int32} {M : mm_M} (hf : f_X11_isSign x1 M = z) {H : Heap} {locs : List Loc} (hw : wd_in cx_T D cy z0 ad u M X s H locs) {ls : Array Slot} (hl : lv_has ls 2 [(0, .ref (ad 0)), (1, .int x1)]) : W p l e { frames := 1, cells := 0, slots := 0, locals := 21 } s m args below meth c H locs 0 0 (MQ below (cq_i cx_T D cy z0 ad u X z M) args s 0 0 (fun q => z0 ≤ q)) (F0 m 0 ls []) := by
  have hx := hC.1
  have hb := hC.2.1
  unfold f_X11_isSign at hf
  refine lv_iload_n hx hb dX11_isSign_0 rfl (lv_at hl 1 rfl) ?_
  refine lv_aload_n hx hb dX11_isSign_1 rfl (lv_at hl 0 rfl) ?_
  refine rg_p hC hw 0 (Nat.le_of_ble_eq_true rfl) rfl fd_X11_4 wf_X11_44 (q := 19) rfl dX11_isSign_2 ?_
  refine rg_i hC hw 19 (Nat.le_of_ble_eq_true rfl) rfl fd_X6_3 wf_X11_251 dX11_isSign_5 ?_
  obtain ⟨z1, ez1, hf⟩ := sq_e hf
  refine clc_Si hC hw (c_X11_isBelow ez1.symm) hd_X11_isBelow cw_X11_101 (rest := []) hl.1 rfl (Nat.le_of_ble_eq_true rfl) ⟨Nat.le_of_ble_eq_true rfl, Nat.le_of_ble_eq_true rfl⟩ ⟨Nat.zero_le _, Nat.zero_le _⟩ rfl dX11_isSign_8 (fun H locs hw => ?_)
  subst hf
  exact rtc_z hC hw (bz_X11_isBelow ez1.symm) dX11_isSign_11
set_option maxRecDepth 100000 in
theorem c_X11_isSign {l : Launch} {D : va_G} {cy : Nat → ClassId} {z0 : Nat} {ad : Nat → Nat} {u : Nat × Nat} {X : va_W} {z : Int32} {x1 : Int32} {M : mm_M} (hf : f_X11_isSign x1 M = z) : ct_i cx_T l yX11_isSign (Cond.code yX11_isSign cX11_isSign 2 (some .boolean)) 1 21 D cy z0 ad u M X [.ref (ad 0), .int x1] z M := by
  refine bgc_i (by decide) (fun p e s m below meth c hC hw => ?_)
  refine en_t (Nat.le_of_ble_eq_true rfl) (fun ls hl => ?_)
  have hl : lv_has ls 2 [(0, .ref (ad 0)), (1, .int x1)] := hl
  exact k_X11_isSign hC hf hw hl
set_option maxRecDepth 100000 in
set_option maxHeartbeats 4000000 in
theorem k_X11_by {p : Program} {l : Launch} {e : Env} {s : State} {m : MethodId} {args : Array Value} {below : List Frame} {meth : Method} {c : Code} {D : va_G} {cy : Nat → ClassId} {z0 : Nat} {ad : Nat → Nat} {X : va_W} {u : Nat × Nat} (hC : cx_C p s m args meth c cX11_by "RhymedThen" (Cond.code yX11_by cX11_by 4 (some .boolean)) 4 (some .boolean)) {z : (Int32 × mm_M)} {x1 : Int32} {x2 : Int32} {x3 : Int32} {M : mm_M} (hf : f_X11_by x1 x2 x3 M = some z) {H : Heap} {locs : List Loc} (hw : wd_in cx_T D cy z0 ad u M X s H locs) {ls : Array Slot} (hl : lv_has ls 4 [(0, .ref (ad 0)), (1, .int x1), (2, .int x2), (3, .int x3)]) : W p l e { frames := 2, cells := 0, slots := 0, locals := 42 } s m args below meth c H locs 0 0 (MQ below (cq_i cx_T D cy z0 ad u X z.1 z.2) args s 0 0 (fun q => z0 ≤ q)) (F0 m 0 ls []) := by
  have hx := hC.1
  have hb := hC.2.1
  unfold f_X11_by at hf
  refine lv_aload_n hx hb dX11_by_0 rfl (lv_at hl 0 rfl) ?_
  refine lv_iload_n hx hb dX11_by_1 rfl (lv_at hl 1 rfl) ?_
  obtain ⟨z1, ez1, hf⟩ := sq_e hf
  refine clc_Vi hC hw (c_X11_isSign ez1.symm) hd_X11_isSign cw_X11_274 (Nat.le_of_ble_eq_true rfl) rfl rfl (rest := []) hl.1 rfl (Nat.le_of_ble_eq_true rfl) ⟨Nat.le_of_ble_eq_true rfl, Nat.le_of_ble_eq_true rfl⟩ ⟨Nat.zero_le _, Nat.zero_le _⟩ rfl dX11_by_2 (fun H locs hw => ?_)
  refine lv_if_eq (tgt := 28) hx hb dX11_by_5 (by decide) (fun c2 => ?_) (fun c2 => ?_)
  · rw [if_pos c2] at hf
    refine lv_iconst (v := 0) hx hb dX11_by_28 (by decide) ?_
    have hz := Option.some.inj hf
    subst hz
    exact rtc_z hC hw (Or.inl rfl) dX11_by_29
  · rw [if_neg c2] at hf
    refine lv_iload_n hx hb dX11_by_8 rfl (lv_at hl 2 rfl) ?_
    refine lv_bipush (v := 6) hx hb dX11_by_9 (by decide) ?_
    obtain ⟨z3, ez3, hf⟩ := sq_e hf
    refine clc_Si hC hw (c_X11_isBelow ez3.symm) hd_X11_isBelow cw_X11_101 (rest := []) hl.1 rfl (Nat.le_of_ble_eq_true rfl) ⟨Nat.le_of_ble_eq_true rfl, Nat.le_of_ble_eq_true rfl⟩ ⟨Nat.zero_le _, Nat.zero_le _⟩ rfl dX11_by_11 (fun H locs hw => ?_)
    refine lv_if_eq (tgt := 28) hx hb dX11_by_14 (by decide) (fun c4 => ?_) (fun c4 => ?_)
    · rw [if_pos c4] at hf
      refine lv_iconst (v := 0) hx hb dX11_by_28 (by decide) ?_
      have hz := Option.some.inj hf
      subst hz
      exact rtc_z hC hw (Or.inl rfl) dX11_by_29
    · rw [if_neg c4] at hf
      refine lv_iload_n hx hb dX11_by_17 rfl (lv_at hl 3 rfl) ?_
      refine lv_iconst (v := 1) hx hb dX11_by_18 (by decide) ?_
      refine lv_icmp_lt (tgt := 28) hx hb dX11_by_19 (by decide) (fun c5 => ?_) (fun c5 => ?_)
      · rw [if_pos c5] at hf
        refine lv_iconst (v := 0) hx hb dX11_by_28 (by decide) ?_
        have hz := Option.some.inj hf
        subst hz
        exact rtc_z hC hw (Or.inl rfl) dX11_by_29
      · rw [if_neg c5] at hf
        refine lv_iload_n hx hb dX11_by_22 rfl (lv_at hl 3 rfl) ?_
        refine lv_bipush (v := 9) hx hb dX11_by_23 (by decide) ?_
        refine lv_icmp_le (tgt := 30) hx hb dX11_by_25 (by decide) (fun c6 => ?_) (fun c6 => ?_)
        · rw [if_pos c6] at hf
          refine lv_aload_n hx hb dX11_by_30 rfl (lv_at hl 0 rfl) ?_
          refine rg_p hC hw 0 (Nat.le_of_ble_eq_true rfl) rfl fd_X11_4 wf_X11_44 (q := 19) rfl dX11_by_31 ?_
          refine rg_p hC hw 19 (Nat.le_of_ble_eq_true rfl) rfl fd_X6_2 wf_X11_260 (q := 20) rfl dX11_by_34 ?_
          refine lv_iload_n hx hb dX11_by_37 rfl (lv_at hl 1 rfl) ?_
          obtain ⟨h7, hf⟩ := ck_e hf
          refine ra_S hC hw 20 (Nat.le_of_ble_eq_true rfl) rfl h7 dX11_by_38 ?_
          refine lv_iload_n hx hb dX11_by_39 rfl (lv_at hl 2 rfl) ?_
          obtain ⟨M8, eM8, hf⟩ := sq_e hf
          refine rp_i hC hw (22 + x1.toNatClampNeg) (sg_lt (sg_ix h7)) (sg_kd (sg_ix h7)) fd_X5_6 wf_X11_277 fp_X5_6 rfl rfl dX11_by_40 eM8 (fun H locs hw => ?_)
          refine lv_aload_n hx hb dX11_by_43 rfl (lv_at hl 0 rfl) ?_
          refine rg_p hC hw 0 (Nat.le_of_ble_eq_true rfl) rfl fd_X11_4 wf_X11_44 (q := 19) rfl dX11_by_44 ?_
          refine rg_p hC hw 19 (Nat.le_of_ble_eq_true rfl) rfl fd_X6_2 wf_X11_260 (q := 20) rfl dX11_by_47 ?_
          refine lv_iload_n hx hb dX11_by_50 rfl (lv_at hl 1 rfl) ?_
          obtain ⟨h9, hf⟩ := ck_e hf
          refine ra_S hC hw 20 (Nat.le_of_ble_eq_true rfl) rfl h9 dX11_by_51 ?_
          refine lv_iload_n hx hb dX11_by_52 rfl (lv_at hl 3 rfl) ?_
          obtain ⟨M10, eM10, hf⟩ := sq_e hf
          refine rp_i hC hw (22 + x1.toNatClampNeg) (sg_lt (sg_ix h9)) (sg_kd (sg_ix h9)) fd_X5_7 wf_X11_280 fp_X5_7 rfl rfl dX11_by_53 eM10 (fun H locs hw => ?_)
          refine lv_iconst (v := 1) hx hb dX11_by_56 (by decide) ?_
          have hz := Option.some.inj hf
          subst hz
          exact rtc_z hC hw (Or.inr rfl) dX11_by_57
        · rw [if_neg c6] at hf
          refine lv_iconst (v := 0) hx hb dX11_by_28 (by decide) ?_
          have hz := Option.some.inj hf
          subst hz
          exact rtc_z hC hw (Or.inl rfl) dX11_by_29
set_option maxRecDepth 100000 in
theorem c_X11_by {l : Launch} {D : va_G} {cy : Nat → ClassId} {z0 : Nat} {ad : Nat → Nat} {u : Nat × Nat} {X : va_W} {z : (Int32 × mm_M)} {x1 : Int32} {x2 : Int32} {x3 : Int32} {M : mm_M} (hf : f_X11_by x1 x2 x3 M = some z) : ct_i cx_T l yX11_by (Cond.code yX11_by cX11_by 4 (some .boolean)) 2 42 D cy z0 ad u M X [.ref (ad 0), .int x1, .int x2, .int x3] z.1 z.2 := by
  refine bgc_i (by decide) (fun p e s m below meth c hC hw => ?_)
  refine en_t (Nat.le_of_ble_eq_true rfl) (fun ls hl => ?_)
  have hl : lv_has ls 4 [(0, .ref (ad 0)), (1, .int x1), (2, .int x2), (3, .int x3)] := hl
  exact k_X11_by hC hf hw hl
set_option maxRecDepth 100000 in
set_option maxHeartbeats 4000000 in
theorem k_X11_turn_45 {p : Program} {l : Launch} {e : Env} {s : State} {m : MethodId} {args : Array Value} {below : List Frame} {meth : Method} {c : Code} {D : va_G} {cy : Nat → ClassId} {z0 : Nat} {ad : Nat → Nat} {X : va_W} {u : Nat × Nat} (hC : cx_C p s m args meth c cX11_turn "RhymedThen" (Cond.code yX11_turn cX11_turn 3 (some .boolean)) 3 (some .boolean)) {z : (Int32 × mm_M)} {t1 : Int32} {M : mm_M} (hf : f_X11_turn_45 t1 M = z) {H : Heap} {locs : List Loc} (hw : wd_in cx_T D cy z0 ad u M X s H locs) {ls : Array Slot} (hl : lv_has ls 3 []) : W p l e { frames := 2, cells := 0, slots := 0, locals := 42 } s m args below meth c H locs 0 0 (MQ below (cq_i cx_T D cy z0 ad u X z.1 z.2) args s 0 0 (fun q => z0 ≤ q)) (F0 m 45 ls [.int t1, .ref (ad 19)]) := by
  have hx := hC.1
  have hb := hC.2.1
  unfold f_X11_turn_45 at hf
  obtain ⟨M4, eM4, hf⟩ := sq_e hf
  refine rp_i hC hw 19 (Nat.le_of_ble_eq_true rfl) rfl fd_X6_4 wf_X11_283 fp_X6_4 rfl rfl dX11_turn_45 eM4 (fun H locs hw => ?_)
  refine lv_iconst (v := 1) hx hb dX11_turn_48 (by decide) ?_
  subst hf
  exact rtc_z hC hw (Or.inr rfl) dX11_turn_49
set_option maxRecDepth 100000 in
set_option maxHeartbeats 4000000 in
theorem k_X11_turn {p : Program} {l : Launch} {e : Env} {s : State} {m : MethodId} {args : Array Value} {below : List Frame} {meth : Method} {c : Code} {D : va_G} {cy : Nat → ClassId} {z0 : Nat} {ad : Nat → Nat} {X : va_W} {u : Nat × Nat} (hC : cx_C p s m args meth c cX11_turn "RhymedThen" (Cond.code yX11_turn cX11_turn 3 (some .boolean)) 3 (some .boolean)) {z : (Int32 × mm_M)} {x1 : Int32} {x2 : Int32} {M : mm_M} (hf : f_X11_turn x1 x2 M = z) {H : Heap} {locs : List Loc} (hw : wd_in cx_T D cy z0 ad u M X s H locs) {ls : Array Slot} (hl : lv_has ls 3 [(0, .ref (ad 0)), (1, .int x1), (2, .int x2)]) : W p l e { frames := 2, cells := 0, slots := 0, locals := 42 } s m args below meth c H locs 0 0 (MQ below (cq_i cx_T D cy z0 ad u X z.1 z.2) args s 0 0 (fun q => z0 ≤ q)) (F0 m 0 ls []) := by
  have hx := hC.1
  have hb := hC.2.1
  unfold f_X11_turn at hf
  refine lv_aload_n hx hb dX11_turn_0 rfl (lv_at hl 0 rfl) ?_
  refine lv_iload_n hx hb dX11_turn_1 rfl (lv_at hl 1 rfl) ?_
  obtain ⟨z1, ez1, hf⟩ := sq_e hf
  refine clc_Vi hC hw (c_X11_isSign ez1.symm) hd_X11_isSign cw_X11_274 (Nat.le_of_ble_eq_true rfl) rfl rfl (rest := []) hl.1 rfl (Nat.le_of_ble_eq_true rfl) ⟨Nat.le_of_ble_eq_true rfl, Nat.le_of_ble_eq_true rfl⟩ ⟨Nat.zero_le _, Nat.zero_le _⟩ rfl dX11_turn_2 (fun H locs hw => ?_)
  refine lv_if_ne (tgt := 10) hx hb dX11_turn_5 (by decide) (fun c2 => ?_) (fun c2 => ?_)
  · rw [if_neg c2] at hf
    refine lv_aload_n hx hb dX11_turn_10 rfl (lv_at hl 0 rfl) ?_
    refine rg_p hC hw 0 (Nat.le_of_ble_eq_true rfl) rfl fd_X11_4 wf_X11_44 (q := 19) rfl dX11_turn_11 ?_
    refine lv_iload_n hx hb dX11_turn_14 rfl (lv_at hl 2 rfl) ?_
    refine lv_if_eq (tgt := 32) hx hb dX11_turn_15 (by decide) (fun c3 => ?_) (fun c3 => ?_)
    · rw [if_pos c3] at hf
      refine lv_aload_n hx hb dX11_turn_32 rfl (lv_at hl 0 rfl) ?_
      refine rg_p hC hw 0 (Nat.le_of_ble_eq_true rfl) rfl fd_X11_4 wf_X11_44 (q := 19) rfl dX11_turn_33 ?_
      refine rg_i hC hw 19 (Nat.le_of_ble_eq_true rfl) rfl fd_X6_4 wf_X11_283 dX11_turn_36 ?_
      refine lv_iconst (v := 1) hx hb dX11_turn_39 (by decide) ?_
      refine lv_iload_n hx hb dX11_turn_40 rfl (lv_at hl 1 rfl) ?_
      refine lv_ishl hx hb dX11_turn_41 ?_
      refine lv_iconst (v := (-1)) hx hb dX11_turn_42 (by decide) ?_
      refine lv_ixor hx hb dX11_turn_43 ?_
      refine lv_iand hx hb dX11_turn_44 ?_
      exact k_X11_turn_45 hC hf hw (lv_sub hl [] rfl)
    · rw [if_neg c3] at hf
      refine lv_aload_n hx hb dX11_turn_18 rfl (lv_at hl 0 rfl) ?_
      refine rg_p hC hw 0 (Nat.le_of_ble_eq_true rfl) rfl fd_X11_4 wf_X11_44 (q := 19) rfl dX11_turn_19 ?_
      refine rg_i hC hw 19 (Nat.le_of_ble_eq_true rfl) rfl fd_X6_4 wf_X11_283 dX11_turn_22 ?_
      refine lv_iconst (v := 1) hx hb dX11_turn_25 (by decide) ?_
      refine lv_iload_n hx hb dX11_turn_26 rfl (lv_at hl 1 rfl) ?_
      refine lv_ishl hx hb dX11_turn_27 ?_
      refine lv_ior hx hb dX11_turn_28 ?_
      refine lv_goto (tgt := 45) hx hb dX11_turn_29 (by decide) ?_
      exact k_X11_turn_45 hC hf hw (lv_sub hl [] rfl)
  · rw [if_pos c2] at hf
    refine lv_iconst (v := 0) hx hb dX11_turn_8 (by decide) ?_
    subst hf
    exact rtc_z hC hw (Or.inl rfl) dX11_turn_9
set_option maxRecDepth 100000 in
theorem c_X11_turn {l : Launch} {D : va_G} {cy : Nat → ClassId} {z0 : Nat} {ad : Nat → Nat} {u : Nat × Nat} {X : va_W} {z : (Int32 × mm_M)} {x1 : Int32} {x2 : Int32} {M : mm_M} (hf : f_X11_turn x1 x2 M = z) : ct_i cx_T l yX11_turn (Cond.code yX11_turn cX11_turn 3 (some .boolean)) 2 42 D cy z0 ad u M X [.ref (ad 0), .int x1, .int x2] z.1 z.2 := by
  refine bgc_i (by decide) (fun p e s m below meth c hC hw => ?_)
  refine en_t (Nat.le_of_ble_eq_true rfl) (fun ls hl => ?_)
  have hl : lv_has ls 3 [(0, .ref (ad 0)), (1, .int x1), (2, .int x2)] := hl
  exact k_X11_turn hC hf hw hl
set_option maxRecDepth 100000 in
set_option maxHeartbeats 4000000 in
theorem k_X5_isBooked {p : Program} {l : Launch} {e : Env} {s : State} {m : MethodId} {args : Array Value} {below : List Frame} {meth : Method} {c : Code} {D : va_G} {cy : Nat → ClassId} {z0 : Nat} {ad : Nat → Nat} {X : va_W} {u : Nat × Nat} (hC : cx_C p s m args meth c cX5_isBooked "RhymedThen$Sign" (Cond.code yX5_isBooked cX5_isBooked 4 (some .boolean)) 4 (some .boolean)) {z : Int32} {k0 : Nat} {x1 : Int64} {M : mm_M} (hk0 : sg_ok k0) (hf : f_X5_isBooked k0 x1 M = z) {H : Heap} {locs : List Loc} (hw : wd_in cx_T D cy z0 ad u M X s H locs) {ls : Array Slot} (hl : lv_has ls 4 [(0, .ref (ad k0)), (1, .long x1)]) : W p l e { frames := 1, cells := 0, slots := 0, locals := 22 } s m args below meth c H locs 0 0 (MQ below (cq_i cx_T D cy z0 ad u X z M) args s 0 0 (fun q => z0 ≤ q)) (F0 m 0 ls []) := by
  have hx := hC.1
  have hb := hC.2.1
  unfold f_X5_isBooked at hf
  refine lv_aload_n hx hb dX5_isBooked_0 rfl (lv_at hl 0 rfl) ?_
  refine rg_i hC hw k0 (sg_lt hk0) (sg_kd hk0) fd_X5_3 wf_X5_25 dX5_isBooked_1 ?_
  refine lv_iconst (v := 4) hx hb dX5_isBooked_4 (by decide) ?_
  refine lv_ishr hx hb dX5_isBooked_5 ?_
  obtain ⟨y1, ey1, hf⟩ := sq_e hf
  refine lt_i ey1 ?_
  refine lv_istore_n (lv' := [(3, .int y1), (0, .ref (ad k0)), (1, .long x1)]) hx hb dX5_isBooked_6 rfl hl (by decide) rfl (fun ls hl => ?_)
  refine lv_iload_n hx hb dX5_isBooked_7 rfl (lv_at hl 0 rfl) ?_
  refine lv_lload_n hx hb dX5_isBooked_8 rfl (lv_at hl 2 rfl) ?_
  obtain ⟨z2, ez2, hf⟩ := sq_e hf
  refine clc_Si hC hw (c_X0_lengthOf ez2.symm) hd_X0_lengthOf cw_X5_66 (rest := [.int y1]) hl.1 rfl (Nat.le_of_ble_eq_true rfl) ⟨Nat.le_of_ble_eq_true rfl, Nat.le_of_ble_eq_true rfl⟩ ⟨Nat.zero_le _, Nat.zero_le _⟩ rfl dX5_isBooked_9 (fun H locs hw => ?_)
  refine lv_icmp_ge (tgt := 34) hx hb dX5_isBooked_12 (by decide) (fun c3 => ?_) (fun c3 => ?_)
  · rw [if_pos c3] at hf
    refine lv_iconst (v := 0) hx hb dX5_isBooked_34 (by decide) ?_
    subst hf
    exact rtc_z hC hw (Or.inl rfl) dX5_isBooked_35
  · rw [if_neg c3] at hf
    refine lv_lload_n hx hb dX5_isBooked_15 rfl (lv_at hl 2 rfl) ?_
    refine lv_iload_n hx hb dX5_isBooked_16 rfl (lv_at hl 0 rfl) ?_
    obtain ⟨z4, ez4, hf⟩ := sq_e hf
    refine clc_Si hC hw (c_X0_soundAt ez4.symm) hd_X0_soundAt cw_X5_70 (rest := []) hl.1 rfl (Nat.le_of_ble_eq_true rfl) ⟨Nat.le_of_ble_eq_true rfl, Nat.le_of_ble_eq_true rfl⟩ ⟨Nat.zero_le _, Nat.zero_le _⟩ rfl dX5_isBooked_17 (fun H locs hw => ?_)
    refine lv_aload_n hx hb dX5_isBooked_20 rfl (lv_at hl 1 rfl) ?_
    refine rg_i hC hw k0 (sg_lt hk0) (sg_kd hk0) fd_X5_3 wf_X5_25 dX5_isBooked_21 ?_
    refine lv_bipush (v := 15) hx hb dX5_isBooked_24 (by decide) ?_
    refine lv_iand hx hb dX5_isBooked_26 ?_
    refine lv_icmp_ne (tgt := 34) hx hb dX5_isBooked_27 (by decide) (fun c5 => ?_) (fun c5 => ?_)
    · rw [if_neg c5] at hf
      refine lv_iconst (v := 0) hx hb dX5_isBooked_34 (by decide) ?_
      subst hf
      exact rtc_z hC hw (Or.inl rfl) dX5_isBooked_35
    · rw [if_pos c5] at hf
      refine lv_iconst (v := 1) hx hb dX5_isBooked_30 (by decide) ?_
      refine lv_goto (tgt := 35) hx hb dX5_isBooked_31 (by decide) ?_
      subst hf
      exact rtc_z hC hw (Or.inr rfl) dX5_isBooked_35
set_option maxRecDepth 100000 in
theorem c_X5_isBooked {l : Launch} {D : va_G} {cy : Nat → ClassId} {z0 : Nat} {ad : Nat → Nat} {u : Nat × Nat} {X : va_W} {z : Int32} {k0 : Nat} {x1 : Int64} {M : mm_M} (hk0 : sg_ok k0) (hf : f_X5_isBooked k0 x1 M = z) : ct_i cx_T l yX5_isBooked (Cond.code yX5_isBooked cX5_isBooked 4 (some .boolean)) 1 22 D cy z0 ad u M X [.ref (ad k0), .long x1] z M := by
  refine bgc_i (by decide) (fun p e s m below meth c hC hw => ?_)
  refine en_t (Nat.le_of_ble_eq_true rfl) (fun ls hl => ?_)
  have hl : lv_has ls 4 [(0, .ref (ad k0)), (1, .long x1)] := hl
  exact k_X5_isBooked hC hk0 hf hw hl
set_option maxRecDepth 100000 in
set_option maxHeartbeats 4000000 in
theorem k_X5_areTailsSo_47 {p : Program} {l : Launch} {e : Env} {s : State} {m : MethodId} {args : Array Value} {below : List Frame} {meth : Method} {c : Code} {D : va_G} {cy : Nat → ClassId} {z0 : Nat} {ad : Nat → Nat} {X : va_W} {u : Nat × Nat} (hC : cx_C p s m args meth c cX5_areTailsSo "RhymedThen$Sign" (Cond.code yX5_areTailsSo cX5_areTailsSo 6 (some .boolean)) 6 (some .boolean)) {z : Int32} {t0 : Int32} {t1 : Int32} {M : mm_M} (hf : f_X5_areTailsSo_47 t0 t1 M = z) {H : Heap} {locs : List Loc} (hw : wd_in cx_T D cy z0 ad u M X s H locs) {ls : Array Slot} (hl : lv_has ls 6 []) : W p l e { frames := 0, cells := 0, slots := 0, locals := 0 } s m args below meth c H locs 0 0 (MQ below (cq_i cx_T D cy z0 ad u X z M) args s 0 0 (fun q => z0 ≤ q)) (F0 m 47 ls [.int t1, .int t0]) := by
  have hx := hC.1
  have hb := hC.2.1
  unfold f_X5_areTailsSo_47 at hf
  refine lv_icmp_ne (tgt := 54) hx hb dX5_areTailsSo_47 (by decide) (fun c6 => ?_) (fun c6 => ?_)
  · rw [if_neg c6] at hf
    refine lv_iconst (v := 0) hx hb dX5_areTailsSo_54 (by decide) ?_
    subst hf
    exact rtc_z hC hw (Or.inl rfl) dX5_areTailsSo_55
  · rw [if_pos c6] at hf
    refine lv_iconst (v := 1) hx hb dX5_areTailsSo_50 (by decide) ?_
    refine lv_goto (tgt := 55) hx hb dX5_areTailsSo_51 (by decide) ?_
    subst hf
    exact rtc_z hC hw (Or.inr rfl) dX5_areTailsSo_55
set_option maxRecDepth 100000 in
set_option maxHeartbeats 4000000 in
theorem k_X5_areTailsSo_35 {p : Program} {l : Launch} {e : Env} {s : State} {m : MethodId} {args : Array Value} {below : List Frame} {meth : Method} {c : Code} {D : va_G} {cy : Nat → ClassId} {z0 : Nat} {ad : Nat → Nat} {X : va_W} {u : Nat × Nat} (hC : cx_C p s m args meth c cX5_areTailsSo "RhymedThen$Sign" (Cond.code yX5_areTailsSo cX5_areTailsSo 6 (some .boolean)) 6 (some .boolean)) {z : Int32} {k0 : Nat} {t0 : Int32} {M : mm_M} (hk0 : sg_ok k0) (hf : f_X5_areTailsSo_35 k0 t0 M = z) {H : Heap} {locs : List Loc} (hw : wd_in cx_T D cy z0 ad u M X s H locs) {ls : Array Slot} (hl : lv_has ls 6 [(0, .ref (ad k0))]) : W p l e { frames := 0, cells := 0, slots := 0, locals := 0 } s m args below meth c H locs 0 0 (MQ below (cq_i cx_T D cy z0 ad u X z M) args s 0 0 (fun q => z0 ≤ q)) (F0 m 35 ls [.int t0]) := by
  have hx := hC.1
  have hb := hC.2.1
  unfold f_X5_areTailsSo_35 at hf
  refine lv_aload_n hx hb dX5_areTailsSo_35 rfl (lv_at hl 0 rfl) ?_
  refine rg_i hC hw k0 (sg_lt hk0) (sg_kd hk0) fd_X5_0 wf_X5_16 dX5_areTailsSo_36 ?_
  refine lv_if_ne (tgt := 46) hx hb dX5_areTailsSo_39 (by decide) (fun c5 => ?_) (fun c5 => ?_)
  · rw [if_neg c5] at hf
    refine lv_iconst (v := 0) hx hb dX5_areTailsSo_46 (by decide) ?_
    exact k_X5_areTailsSo_47 hC hf hw (lv_sub hl [] rfl)
  · rw [if_pos c5] at hf
    refine lv_iconst (v := 1) hx hb dX5_areTailsSo_42 (by decide) ?_
    refine lv_goto (tgt := 47) hx hb dX5_areTailsSo_43 (by decide) ?_
    exact k_X5_areTailsSo_47 hC hf hw (lv_sub hl [] rfl)
set_option maxRecDepth 100000 in
set_option maxHeartbeats 4000000 in
theorem k_X5_areTailsSo_17 {p : Program} {l : Launch} {e : Env} {s : State} {m : MethodId} {args : Array Value} {below : List Frame} {meth : Method} {c : Code} {D : va_G} {cy : Nat → ClassId} {z0 : Nat} {ad : Nat → Nat} {X : va_W} {u : Nat × Nat} (hC : cx_C p s m args meth c cX5_areTailsSo "RhymedThen$Sign" (Cond.code yX5_areTailsSo cX5_areTailsSo 6 (some .boolean)) 6 (some .boolean)) {z : Int32} {k0 : Nat} {x1 : Int64} {x3 : Int64} {t0 : Int32} {M : mm_M} (hk0 : sg_ok k0) (hf : f_X5_areTailsSo_17 k0 x1 x3 t0 M = z) {H : Heap} {locs : List Loc} (hw : wd_in cx_T D cy z0 ad u M X s H locs) {ls : Array Slot} (hl : lv_has ls 6 [(0, .ref (ad k0)), (1, .long x1), (3, .long x3)]) : W p l e { frames := 0, cells := 0, slots := 0, locals := 0 } s m args below meth c H locs 0 0 (MQ below (cq_i cx_T D cy z0 ad u X z M) args s 0 0 (fun q => z0 ≤ q)) (F0 m 17 ls [.int t0]) := by
  have hx := hC.1
  have hb := hC.2.1
  unfold f_X5_areTailsSo_17 at hf
  refine lv_istore (lv' := [(5, .int t0), (0, .ref (ad k0)), (1, .long x1), (3, .long x3)]) hx hb dX5_areTailsSo_17 hl (by decide) rfl (fun ls hl => ?_)
  refine lv_iload hx hb dX5_areTailsSo_19 (lv_at hl 0 rfl) ?_
  refine lv_if_eq (tgt := 54) hx hb dX5_areTailsSo_21 (by decide) (fun c3 => ?_) (fun c3 => ?_)
  · rw [if_pos c3] at hf
    refine lv_iconst (v := 0) hx hb dX5_areTailsSo_54 (by decide) ?_
    subst hf
    exact rtc_z hC hw (Or.inl rfl) dX5_areTailsSo_55
  · rw [if_neg c3] at hf
    refine lv_lload_n hx hb dX5_areTailsSo_24 rfl (lv_at hl 2 rfl) ?_
    refine lv_lload_n hx hb dX5_areTailsSo_25 rfl (lv_at hl 3 rfl) ?_
    refine lc_ne (tgt := 34) hx hb dX5_areTailsSo_26 dX5_areTailsSo_27 (by decide) (fun c4 => ?_) (fun c4 => ?_)
    · rw [if_neg c4] at hf
      refine lv_iconst (v := 0) hx hb dX5_areTailsSo_34 (by decide) ?_
      exact k_X5_areTailsSo_35 hC hk0 hf hw (lv_sub hl [1] rfl)
    · rw [if_pos c4] at hf
      refine lv_iconst (v := 1) hx hb dX5_areTailsSo_30 (by decide) ?_
      refine lv_goto (tgt := 35) hx hb dX5_areTailsSo_31 (by decide) ?_
      exact k_X5_areTailsSo_35 hC hk0 hf hw (lv_sub hl [1] rfl)
set_option maxRecDepth 100000 in
set_option maxHeartbeats 4000000 in
theorem k_X5_areTailsSo_16 {p : Program} {l : Launch} {e : Env} {s : State} {m : MethodId} {args : Array Value} {below : List Frame} {meth : Method} {c : Code} {D : va_G} {cy : Nat → ClassId} {z0 : Nat} {ad : Nat → Nat} {X : va_W} {u : Nat × Nat} (hC : cx_C p s m args meth c cX5_areTailsSo "RhymedThen$Sign" (Cond.code yX5_areTailsSo cX5_areTailsSo 6 (some .boolean)) 6 (some .boolean)) {z : Int32} {k0 : Nat} {x1 : Int64} {x3 : Int64} {M : mm_M} (hk0 : sg_ok k0) (hf : f_X5_areTailsSo_16 k0 x1 x3 M = z) {H : Heap} {locs : List Loc} (hw : wd_in cx_T D cy z0 ad u M X s H locs) {ls : Array Slot} (hl : lv_has ls 6 [(0, .ref (ad k0)), (1, .long x1), (3, .long x3)]) : W p l e { frames := 0, cells := 0, slots := 0, locals := 0 } s m args below meth c H locs 0 0 (MQ below (cq_i cx_T D cy z0 ad u X z M) args s 0 0 (fun q => z0 ≤ q)) (F0 m 16 ls []) := by
  have hx := hC.1
  have hb := hC.2.1
  unfold f_X5_areTailsSo_16 at hf
  refine lv_iconst (v := 0) hx hb dX5_areTailsSo_16 (by decide) ?_
  exact k_X5_areTailsSo_17 hC hk0 hf hw (lv_sub hl [0, 1, 2] rfl)
set_option maxRecDepth 100000 in
set_option maxHeartbeats 4000000 in
theorem k_X5_areTailsSo {p : Program} {l : Launch} {e : Env} {s : State} {m : MethodId} {args : Array Value} {below : List Frame} {meth : Method} {c : Code} {D : va_G} {cy : Nat → ClassId} {z0 : Nat} {ad : Nat → Nat} {X : va_W} {u : Nat × Nat} (hC : cx_C p s m args meth c cX5_areTailsSo "RhymedThen$Sign" (Cond.code yX5_areTailsSo cX5_areTailsSo 6 (some .boolean)) 6 (some .boolean)) {z : Int32} {k0 : Nat} {x1 : Int64} {x3 : Int64} {M : mm_M} (hk0 : sg_ok k0) (hf : f_X5_areTailsSo k0 x1 x3 M = z) {H : Heap} {locs : List Loc} (hw : wd_in cx_T D cy z0 ad u M X s H locs) {ls : Array Slot} (hl : lv_has ls 6 [(0, .ref (ad k0)), (1, .long x1), (3, .long x3)]) : W p l e { frames := 0, cells := 0, slots := 0, locals := 0 } s m args below meth c H locs 0 0 (MQ below (cq_i cx_T D cy z0 ad u X z M) args s 0 0 (fun q => z0 ≤ q)) (F0 m 0 ls []) := by
  have hx := hC.1
  have hb := hC.2.1
  unfold f_X5_areTailsSo at hf
  refine lv_lload_n hx hb dX5_areTailsSo_0 rfl (lv_at hl 1 rfl) ?_
  refine lv_lconst (v := 0) hx hb dX5_areTailsSo_1 (by decide) ?_
  refine lc_eq (tgt := 16) hx hb dX5_areTailsSo_2 dX5_areTailsSo_3 (by decide) (fun c1 => ?_) (fun c1 => ?_)
  · rw [if_pos c1] at hf
    exact k_X5_areTailsSo_16 hC hk0 hf hw (lv_sub hl [0, 1, 2] rfl)
  · rw [if_neg c1] at hf
    refine lv_lload_n hx hb dX5_areTailsSo_6 rfl (lv_at hl 2 rfl) ?_
    refine lv_lconst (v := 0) hx hb dX5_areTailsSo_7 (by decide) ?_
    refine lc_eq (tgt := 16) hx hb dX5_areTailsSo_8 dX5_areTailsSo_9 (by decide) (fun c2 => ?_) (fun c2 => ?_)
    · rw [if_pos c2] at hf
      exact k_X5_areTailsSo_16 hC hk0 hf hw (lv_sub hl [0, 1, 2] rfl)
    · rw [if_neg c2] at hf
      refine lv_iconst (v := 1) hx hb dX5_areTailsSo_12 (by decide) ?_
      refine lv_goto (tgt := 17) hx hb dX5_areTailsSo_13 (by decide) ?_
      exact k_X5_areTailsSo_17 hC hk0 hf hw (lv_sub hl [0, 1, 2] rfl)
set_option maxRecDepth 100000 in
theorem c_X5_areTailsSo {l : Launch} {D : va_G} {cy : Nat → ClassId} {z0 : Nat} {ad : Nat → Nat} {u : Nat × Nat} {X : va_W} {z : Int32} {k0 : Nat} {x1 : Int64} {x3 : Int64} {M : mm_M} (hk0 : sg_ok k0) (hf : f_X5_areTailsSo k0 x1 x3 M = z) : ct_i cx_T l yX5_areTailsSo (Cond.code yX5_areTailsSo cX5_areTailsSo 6 (some .boolean)) 0 0 D cy z0 ad u M X [.ref (ad k0), .long x1, .long x3] z M := by
  refine bgc_i (by decide) (fun p e s m below meth c hC hw => ?_)
  refine en_t (Nat.le_of_ble_eq_true rfl) (fun ls hl => ?_)
  have hl : lv_has ls 6 [(0, .ref (ad k0)), (1, .long x1), (3, .long x3)] := hl
  exact k_X5_areTailsSo hC hk0 hf hw hl
set_option maxRecDepth 100000 in
set_option maxHeartbeats 4000000 in
theorem k_X5_isSoOf {p : Program} {l : Launch} {e : Env} {s : State} {m : MethodId} {args : Array Value} {below : List Frame} {meth : Method} {c : Code} {D : va_G} {cy : Nat → ClassId} {z0 : Nat} {ad : Nat → Nat} {X : va_W} {u : Nat × Nat} (hC : cx_C p s m args meth c cX5_isSoOf "RhymedThen$Sign" (Cond.code yX5_isSoOf cX5_isSoOf 6 (some .boolean)) 6 (some .boolean)) {z : Int32} {k0 : Nat} {x1 : Int64} {x3 : Int64} {x5 : Int32} {M : mm_M} (hk0 : sg_ok k0) (hf : f_X5_isSoOf k0 x1 x3 x5 M = some z) {H : Heap} {locs : List Loc} (hw : wd_in cx_T D cy z0 ad u M X s H locs) {ls : Array Slot} (hl : lv_has ls 6 [(0, .ref (ad k0)), (1, .long x1), (3, .long x3), (5, .int x5)]) : W p l e { frames := 2, cells := 0, slots := 0, locals := 47 } s m args below meth c H locs 0 0 (MQ below (cq_i cx_T D cy z0 ad u X z M) args s 0 0 (fun q => z0 ≤ q)) (F0 m 0 ls []) := by
  have hx := hC.1
  have hb := hC.2.1
  unfold f_X5_isSoOf at hf
  refine lv_aload_n hx hb dX5_isSoOf_0 rfl (lv_at hl 0 rfl) ?_
  refine rg_i hC hw k0 (sg_lt hk0) (sg_kd hk0) fd_X5_0 wf_X5_16 dX5_isSoOf_1 ?_
  by_cases s8 : (M.1 k0 0) = 1
  · rw [if_pos s8] at hf
    refine lt_i s8.symm ?_
    refine lv_tableIn (tgt := 32) hx hb dX5_isSoOf_4 (by decide) (by decide) rfl (by decide) ?_
    refine lv_lload_n hx hb dX5_isSoOf_32 rfl (lv_at hl 1 rfl) ?_
    refine lv_lload_n hx hb dX5_isSoOf_33 rfl (lv_at hl 2 rfl) ?_
    refine lc_ne (tgt := 42) hx hb dX5_isSoOf_34 dX5_isSoOf_35 (by decide) (fun c1 => ?_) (fun c1 => ?_)
    · rw [if_neg c1] at hf
      refine lv_iconst (v := 0) hx hb dX5_isSoOf_42 (by decide) ?_
      have hz := Option.some.inj hf
      subst hz
      exact rtc_z hC hw (Or.inl rfl) dX5_isSoOf_43
    · rw [if_pos c1] at hf
      refine lv_iconst (v := 1) hx hb dX5_isSoOf_38 (by decide) ?_
      refine lv_goto (tgt := 43) hx hb dX5_isSoOf_39 (by decide) ?_
      have hz := Option.some.inj hf
      subst hz
      exact rtc_z hC hw (Or.inr rfl) dX5_isSoOf_43
  rw [if_neg s8] at hf
  by_cases s9 : (M.1 k0 0) = 2
  · rw [if_pos s9] at hf
    refine lt_i s9.symm ?_
    refine lv_tableIn (tgt := 44) hx hb dX5_isSoOf_4 (by decide) (by decide) rfl (by decide) ?_
    refine lv_lload_n hx hb dX5_isSoOf_44 rfl (lv_at hl 1 rfl) ?_
    refine lv_iload hx hb dX5_isSoOf_45 (lv_at hl 3 rfl) ?_
    obtain ⟨z2, ez2, hf⟩ := bd_e hf
    refine clc_Si hC hw (c_X0_beatsOf ez2) hd_X0_beatsOf cw_X5_48 (rest := []) hl.1 rfl (Nat.le_of_ble_eq_true rfl) ⟨Nat.le_of_ble_eq_true rfl, Nat.le_of_ble_eq_true rfl⟩ ⟨Nat.zero_le _, Nat.zero_le _⟩ rfl dX5_isSoOf_47 (fun H locs hw => ?_)
    refine lv_aload_n hx hb dX5_isSoOf_50 rfl (lv_at hl 0 rfl) ?_
    refine rg_i hC hw k0 (sg_lt hk0) (sg_kd hk0) fd_X5_3 wf_X5_25 dX5_isSoOf_51 ?_
    refine lv_icmp_ne (tgt := 61) hx hb dX5_isSoOf_54 (by decide) (fun c3 => ?_) (fun c3 => ?_)
    · rw [if_neg c3] at hf
      refine lv_iconst (v := 0) hx hb dX5_isSoOf_61 (by decide) ?_
      have hz := Option.some.inj hf
      subst hz
      exact rtc_z hC hw (Or.inl rfl) dX5_isSoOf_62
    · rw [if_pos c3] at hf
      refine lv_iconst (v := 1) hx hb dX5_isSoOf_57 (by decide) ?_
      refine lv_goto (tgt := 62) hx hb dX5_isSoOf_58 (by decide) ?_
      have hz := Option.some.inj hf
      subst hz
      exact rtc_z hC hw (Or.inr rfl) dX5_isSoOf_62
  rw [if_neg s9] at hf
  by_cases s10 : (M.1 k0 0) = 3
  · rw [if_pos s10] at hf
    refine lt_i s10.symm ?_
    refine lv_tableIn (tgt := 63) hx hb dX5_isSoOf_4 (by decide) (by decide) rfl (by decide) ?_
    refine lv_aload_n hx hb dX5_isSoOf_63 rfl (lv_at hl 0 rfl) ?_
    refine lv_lload_n hx hb dX5_isSoOf_64 rfl (lv_at hl 1 rfl) ?_
    obtain ⟨z4, ez4, hf⟩ := sq_e hf
    refine clc_Vi hC hw (c_X5_isBooked hk0 ez4.symm) hd_X5_isBooked cw_X5_54 (sg_lt hk0) (sg_kd hk0) rfl (rest := []) hl.1 rfl (Nat.le_of_ble_eq_true rfl) ⟨Nat.le_of_ble_eq_true rfl, Nat.le_of_ble_eq_true rfl⟩ ⟨Nat.zero_le _, Nat.zero_le _⟩ rfl dX5_isSoOf_65 (fun H locs hw => ?_)
    have hz := Option.some.inj hf
    subst hz
    exact rtc_z hC hw (bz_X5_isBooked ez4.symm) dX5_isSoOf_68
  rw [if_neg s10] at hf
  refine lv_tableOut (tgt := 69) hx hb dX5_isSoOf_4 (sw_out (M.1 k0 0) 1 3 (fun v h1 h2 => by rcases (show v = 1 ∨ v = 2 ∨ v = 3 by omega) with rfl | rfl | rfl <;> first | exact sw_ne s8 (by decide) | exact sw_ne s9 (by decide) | exact sw_ne s10 (by decide))) (by decide) ?_
  refine lv_aload_n hx hb dX5_isSoOf_69 rfl (lv_at hl 0 rfl) ?_
  refine lv_lload_n hx hb dX5_isSoOf_70 rfl (lv_at hl 1 rfl) ?_
  refine lv_iload hx hb dX5_isSoOf_71 (lv_at hl 3 rfl) ?_
  obtain ⟨z5, ez5, hf⟩ := bd_e hf
  refine clc_Sl hC hw (c_X0_tailOf ez5) hd_X0_tailOf cw_X5_58 (rest := [.ref (ad k0)]) hl.1 rfl (Nat.le_of_ble_eq_true rfl) ⟨Nat.le_of_ble_eq_true rfl, Nat.le_of_ble_eq_true rfl⟩ ⟨Nat.zero_le _, Nat.zero_le _⟩ rfl dX5_isSoOf_73 (fun H locs hw => ?_)
  refine lv_lload_n hx hb dX5_isSoOf_76 rfl (lv_at hl 2 rfl) ?_
  refine lv_iload hx hb dX5_isSoOf_77 (lv_at hl 3 rfl) ?_
  obtain ⟨z6, ez6, hf⟩ := bd_e hf
  refine clc_Sl hC hw (c_X0_tailOf ez6) hd_X0_tailOf cw_X5_58 (rest := [.long z5, .ref (ad k0)]) hl.1 rfl (Nat.le_of_ble_eq_true rfl) ⟨Nat.le_of_ble_eq_true rfl, Nat.le_of_ble_eq_true rfl⟩ ⟨Nat.zero_le _, Nat.zero_le _⟩ rfl dX5_isSoOf_79 (fun H locs hw => ?_)
  obtain ⟨z7, ez7, hf⟩ := sq_e hf
  refine clc_Vi hC hw (c_X5_areTailsSo hk0 ez7.symm) hd_X5_areTailsSo cw_X5_62 (sg_lt hk0) (sg_kd hk0) rfl (rest := []) hl.1 rfl (Nat.le_of_ble_eq_true rfl) ⟨Nat.le_of_ble_eq_true rfl, Nat.le_of_ble_eq_true rfl⟩ ⟨Nat.zero_le _, Nat.zero_le _⟩ rfl dX5_isSoOf_82 (fun H locs hw => ?_)
  have hz := Option.some.inj hf
  subst hz
  exact rtc_z hC hw (bz_X5_areTailsSo ez7.symm) dX5_isSoOf_85
set_option maxRecDepth 100000 in
theorem c_X5_isSoOf {l : Launch} {D : va_G} {cy : Nat → ClassId} {z0 : Nat} {ad : Nat → Nat} {u : Nat × Nat} {X : va_W} {z : Int32} {k0 : Nat} {x1 : Int64} {x3 : Int64} {x5 : Int32} {M : mm_M} (hk0 : sg_ok k0) (hf : f_X5_isSoOf k0 x1 x3 x5 M = some z) : ct_i cx_T l yX5_isSoOf (Cond.code yX5_isSoOf cX5_isSoOf 6 (some .boolean)) 2 47 D cy z0 ad u M X [.ref (ad k0), .long x1, .long x3, .int x5] z M := by
  refine bgc_i (by decide) (fun p e s m below meth c hC hw => ?_)
  refine en_t (Nat.le_of_ble_eq_true rfl) (fun ls hl => ?_)
  have hl : lv_has ls 6 [(0, .ref (ad k0)), (1, .long x1), (3, .long x3), (5, .int x5)] := hl
  exact k_X5_isSoOf hC hk0 hf hw hl
set_option maxRecDepth 100000 in
set_option maxHeartbeats 4000000 in
theorem k_X5_isSoOn {p : Program} {l : Launch} {e : Env} {s : State} {m : MethodId} {args : Array Value} {below : List Frame} {meth : Method} {c : Code} {D : va_G} {cy : Nat → ClassId} {z0 : Nat} {ad : Nat → Nat} {X : va_W} {u : Nat × Nat} (hC : cx_C p s m args meth c cX5_isSoOn "RhymedThen$Sign" (Cond.code yX5_isSoOn cX5_isSoOn 3 (some .boolean)) 3 (some .boolean)) {z : Int32} {k0 : Nat} {x1 : Int32} {M : mm_M} (hk0 : sg_ok k0) (hf : f_X5_isSoOn k0 x1 M = some z) {H : Heap} {locs : List Loc} (hw : wd_in cx_T D cy z0 ad u M X s H locs) {ls : Array Slot} (hl : lv_has ls 3 [(0, .ref (ad k0)), (1, .int x1), (2, .ref (ad 5))]) : W p l e { frames := 3, cells := 0, slots := 0, locals := 72 } s m args below meth c H locs 0 0 (MQ below (cq_i cx_T D cy z0 ad u X z M) args s 0 0 (fun q => z0 ≤ q)) (F0 m 0 ls []) := by
  have hx := hC.1
  have hb := hC.2.1
  unfold f_X5_isSoOn at hf
  refine lv_aload_n hx hb dX5_isSoOn_0 rfl (lv_at hl 0 rfl) ?_
  refine lv_aload_n hx hb dX5_isSoOn_1 rfl (lv_at hl 2 rfl) ?_
  refine lv_iload_n hx hb dX5_isSoOn_2 rfl (lv_at hl 1 rfl) ?_
  refine lv_aload_n hx hb dX5_isSoOn_3 rfl (lv_at hl 0 rfl) ?_
  refine rg_i hC hw k0 (sg_lt hk0) (sg_kd hk0) fd_X5_1 wf_X5_19 dX5_isSoOn_4 ?_
  obtain ⟨z1, ez1, hf⟩ := bd_e hf
  refine clc_Vl hC hw (c_X9_formOn ez1) hd_X9_formOn cw_X5_34 (Nat.le_of_ble_eq_true rfl) rfl rfl (rest := [.ref (ad k0)]) hl.1 rfl (Nat.le_of_ble_eq_true rfl) ⟨Nat.le_of_ble_eq_true rfl, Nat.le_of_ble_eq_true rfl⟩ ⟨Nat.zero_le _, Nat.zero_le _⟩ rfl dX5_isSoOn_7 (fun H locs hw => ?_)
  refine lv_aload_n hx hb dX5_isSoOn_10 rfl (lv_at hl 2 rfl) ?_
  refine lv_iload_n hx hb dX5_isSoOn_11 rfl (lv_at hl 1 rfl) ?_
  refine lv_aload_n hx hb dX5_isSoOn_12 rfl (lv_at hl 0 rfl) ?_
  refine rg_i hC hw k0 (sg_lt hk0) (sg_kd hk0) fd_X5_2 wf_X5_22 dX5_isSoOn_13 ?_
  obtain ⟨z2, ez2, hf⟩ := bd_e hf
  refine clc_Vl hC hw (c_X9_formOn ez2) hd_X9_formOn cw_X5_34 (Nat.le_of_ble_eq_true rfl) rfl rfl (rest := [.long z1, .ref (ad k0)]) hl.1 rfl (Nat.le_of_ble_eq_true rfl) ⟨Nat.le_of_ble_eq_true rfl, Nat.le_of_ble_eq_true rfl⟩ ⟨Nat.zero_le _, Nat.zero_le _⟩ rfl dX5_isSoOn_16 (fun H locs hw => ?_)
  refine lv_aload_n hx hb dX5_isSoOn_19 rfl (lv_at hl 2 rfl) ?_
  obtain ⟨z3, ez3, hf⟩ := sq_e hf
  refine clc_Vi hC hw (c_X9_vowels ez3.symm) hd_X9_vowels cw_X5_40 (Nat.le_of_ble_eq_true rfl) rfl rfl (rest := [.long z2, .long z1, .ref (ad k0)]) hl.1 rfl (Nat.le_of_ble_eq_true rfl) ⟨Nat.le_of_ble_eq_true rfl, Nat.le_of_ble_eq_true rfl⟩ ⟨Nat.zero_le _, Nat.zero_le _⟩ rfl dX5_isSoOn_20 (fun H locs hw => ?_)
  obtain ⟨z4, ez4, hf⟩ := bd_e hf
  refine clc_Vi hC hw (c_X5_isSoOf hk0 ez4) hd_X5_isSoOf cw_X5_44 (sg_lt hk0) (sg_kd hk0) rfl (rest := []) hl.1 rfl (Nat.le_of_ble_eq_true rfl) ⟨Nat.le_of_ble_eq_true rfl, Nat.le_of_ble_eq_true rfl⟩ ⟨Nat.zero_le _, Nat.zero_le _⟩ rfl dX5_isSoOn_23 (fun H locs hw => ?_)
  have hz := Option.some.inj hf
  subst hz
  exact rtc_z hC hw (bz_X5_isSoOf ez4) dX5_isSoOn_26
set_option maxRecDepth 100000 in
theorem c_X5_isSoOn {l : Launch} {D : va_G} {cy : Nat → ClassId} {z0 : Nat} {ad : Nat → Nat} {u : Nat × Nat} {X : va_W} {z : Int32} {k0 : Nat} {x1 : Int32} {M : mm_M} (hk0 : sg_ok k0) (hf : f_X5_isSoOn k0 x1 M = some z) : ct_i cx_T l yX5_isSoOn (Cond.code yX5_isSoOn cX5_isSoOn 3 (some .boolean)) 3 72 D cy z0 ad u M X [.ref (ad k0), .int x1, .ref (ad 5)] z M := by
  refine bgc_i (by decide) (fun p e s m below meth c hC hw => ?_)
  refine en_t (Nat.le_of_ble_eq_true rfl) (fun ls hl => ?_)
  have hl : lv_has ls 3 [(0, .ref (ad k0)), (1, .int x1), (2, .ref (ad 5))] := hl
  exact k_X5_isSoOn hC hk0 hf hw hl
set_option maxRecDepth 100000 in
set_option maxHeartbeats 4000000 in
theorem k_X6_lookAt_108 {p : Program} {l : Launch} {e : Env} {s : State} {m : MethodId} {args : Array Value} {below : List Frame} {meth : Method} {c : Code} {D : va_G} {cy : Nat → ClassId} {z0 : Nat} {ad : Nat → Nat} {X : va_W} {u : Nat × Nat} (hC : cx_C p s m args meth c cX6_lookAt "RhymedThen$Signs" (Cond.code yX6_lookAt cX6_lookAt 6 none) 6 none) {z : mm_M} {c0 : Nat} {x1 : Int32} {x2 : Int32} {x3 : Int32} {x4 : Int32} {t1 : Int32} {t2 : Int32} {M : mm_M} (hc0 : c0 ≤ M.2.2) {q35 : Int32 → Int32 → Int32 → Int32 → mm_M → Option mm_M} (hq35 : ∀ (x1 : Int32) (x2 : Int32) (x3 : Int32) (x4 : Int32) (M : mm_M) (u : Nat × Nat) (H : Heap) (locs : List Loc) (ls : Array Slot), c0 ≤ M.2.2 → q35 x1 x2 x3 x4 M = some z → wd_in cx_T D cy z0 ad u M X s H locs → lv_has ls 6 [(0, .ref (ad 19)), (1, .int x1), (2, .int x2), (3, .int x3), (4, .int x4)] → W p l e { frames := 6, cells := 2 * (z.2.2 - c0), slots := 52 * (z.2.2 - c0), locals := 192 } s m args below meth c H locs (2 * (M.2.2 - c0)) (52 * (M.2.2 - c0)) (MQ below (aq_v cx_T D cy z0 ad X z) args s (2 * (z.2.2 - c0)) (52 * (z.2.2 - c0)) (fun q => z0 ≤ q)) (F0 m 35 ls [])) (hm35 : ∀ (x1 : Int32) (x2 : Int32) (x3 : Int32) (x4 : Int32) (M : mm_M), q35 x1 x2 x3 x4 M = some z → M.2.2 ≤ z.2.2) (hf : f_X6_lookAt_108 q35 x1 x2 x3 x4 t1 t2 M = some z) {H : Heap} {locs : List Loc} (hw : wd_in cx_T D cy z0 ad u M X s H locs) {ls : Array Slot} (hl : lv_has ls 6 [(0, .ref (ad 19)), (1, .int x1), (2, .int x2), (3, .int x3), (4, .int x4)]) : W p l e { frames := 6, cells := 2 * (z.2.2 - c0), slots := 52 * (z.2.2 - c0), locals := 192 } s m args below meth c H locs (2 * (M.2.2 - c0)) (52 * (M.2.2 - c0)) (MQ below (aq_v cx_T D cy z0 ad X z) args s (2 * (z.2.2 - c0)) (52 * (z.2.2 - c0)) (fun q => z0 ≤ q)) (F0 m 108 ls [.int t2, .int t1, .ref (ad 21)]) := by
  have hx := hC.1
  have hb := hC.2.1
  have hmz : M.2.2 ≤ z.2.2 := mo_X6_lookAt_108 hm35 hf
  unfold f_X6_lookAt_108 at hf
  obtain ⟨h13, hf⟩ := ck_e hf
  obtain ⟨M14, eM14, hf⟩ := sq_e hf
  have mM14 : M.2.2 ≤ M14.2.2 := by rw [eM14]; exact Nat.le_refl _
  refine rs_i hC hw 21 (Nat.le_of_ble_eq_true rfl) rfl h13 dX6_lookAt_108 eM14 (fun H locs hw => ?_)
  obtain ⟨y15, ey15, hf⟩ := sq_e hf
  refine lv_iinc (v := y15) (lv' := [(4, .int y15), (0, .ref (ad 19)), (1, .int x1), (2, .int x2), (3, .int x3)]) hx hb dX6_lookAt_109 hl (k := 4) rfl (by rw [ey15]; rfl) (by decide) rfl (fun ls hl => ?_)
  refine lv_goto (tgt := 35) hx hb dX6_lookAt_112 (by decide) ?_
  refine W.widen (k := 2 * (M14.2.2 - c0)) (n := 52 * (M14.2.2 - c0)) (by omega) (by omega) ?_
  exact hq35 _ _ _ _ _ _ _ _ _ (by omega) hf hw (lv_sub hl [1, 2, 3, 4, 0] rfl)
set_option maxRecDepth 100000 in
set_option maxHeartbeats 4000000 in
theorem k_X6_lookAt_65 {p : Program} {l : Launch} {e : Env} {s : State} {m : MethodId} {args : Array Value} {below : List Frame} {meth : Method} {c : Code} {D : va_G} {cy : Nat → ClassId} {z0 : Nat} {ad : Nat → Nat} {X : va_W} {u : Nat × Nat} (hC : cx_C p s m args meth c cX6_lookAt "RhymedThen$Signs" (Cond.code yX6_lookAt cX6_lookAt 6 none) 6 none) {z : mm_M} {c0 : Nat} {x1 : Int32} {x2 : Int32} {x3 : Int32} {x4 : Int32} {ks0 : Nat} {t1 : Int32} {M : mm_M} (hks0 : sg_ok ks0) (hc0 : c0 ≤ M.2.2) {q35 : Int32 → Int32 → Int32 → Int32 → mm_M → Option mm_M} (hq35 : ∀ (x1 : Int32) (x2 : Int32) (x3 : Int32) (x4 : Int32) (M : mm_M) (u : Nat × Nat) (H : Heap) (locs : List Loc) (ls : Array Slot), c0 ≤ M.2.2 → q35 x1 x2 x3 x4 M = some z → wd_in cx_T D cy z0 ad u M X s H locs → lv_has ls 6 [(0, .ref (ad 19)), (1, .int x1), (2, .int x2), (3, .int x3), (4, .int x4)] → W p l e { frames := 6, cells := 2 * (z.2.2 - c0), slots := 52 * (z.2.2 - c0), locals := 192 } s m args below meth c H locs (2 * (M.2.2 - c0)) (52 * (M.2.2 - c0)) (MQ below (aq_v cx_T D cy z0 ad X z) args s (2 * (z.2.2 - c0)) (52 * (z.2.2 - c0)) (fun q => z0 ≤ q)) (F0 m 35 ls [])) (hm35 : ∀ (x1 : Int32) (x2 : Int32) (x3 : Int32) (x4 : Int32) (M : mm_M), q35 x1 x2 x3 x4 M = some z → M.2.2 ≤ z.2.2) (hf : f_X6_lookAt_65 q35 x1 x2 x3 x4 ks0 t1 M = some z) {H : Heap} {locs : List Loc} (hw : wd_in cx_T D cy z0 ad u M X s H locs) {ls : Array Slot} (hl : lv_has ls 6 [(0, .ref (ad 19)), (1, .int x1), (2, .int x2), (3, .int x3), (4, .int x4)]) : W p l e { frames := 6, cells := 2 * (z.2.2 - c0), slots := 52 * (z.2.2 - c0), locals := 192 } s m args below meth c H locs (2 * (M.2.2 - c0)) (52 * (M.2.2 - c0)) (MQ below (aq_v cx_T D cy z0 ad X z) args s (2 * (z.2.2 - c0)) (52 * (z.2.2 - c0)) (fun q => z0 ≤ q)) (F0 m 65 ls [.int t1, .ref (ad ks0)]) := by
  have hx := hC.1
  have hb := hC.2.1
  have hmz : M.2.2 ≤ z.2.2 := mo_X6_lookAt_65 hm35 hf
  unfold f_X6_lookAt_65 at hf
  refine lv_aload_n hx hb dX6_lookAt_65 rfl (lv_at hl 0 rfl) ?_
  refine rg_p hC hw 19 (Nat.le_of_ble_eq_true rfl) rfl fd_X6_0 wf_X6_31 (q := 5) rfl dX6_lookAt_66 ?_
  obtain ⟨z9, ez9, hf⟩ := bd_e hf
  refine clc_Vi hC hw (c_X5_isSoOn hks0 ez9) hd_X5_isSoOn cw_X6_66 (sg_lt hks0) (sg_kd hks0) rfl (rest := []) hl.1 rfl (Nat.le_of_ble_eq_true rfl) ⟨Nat.le_of_ble_eq_true rfl, Nat.le_of_ble_eq_true rfl⟩ ⟨(show 2 * (M.2.2 - c0) ≤ 2 * (z.2.2 - c0) by omega), (show 52 * (M.2.2 - c0) ≤ 52 * (z.2.2 - c0) by omega)⟩ rfl dX6_lookAt_69 (fun H locs hw => ?_)
  refine lv_istore (lv' := [(5, .int z9), (0, .ref (ad 19)), (1, .int x1), (2, .int x2), (3, .int x3), (4, .int x4)]) hx hb dX6_lookAt_72 hl (by decide) rfl (fun ls hl => ?_)
  refine lv_aload_n hx hb dX6_lookAt_74 rfl (lv_at hl 1 rfl) ?_
  refine rg_p hC hw 19 (Nat.le_of_ble_eq_true rfl) rfl fd_X6_5 wf_X6_24 (q := 21) rfl dX6_lookAt_75 ?_
  refine lv_iload hx hb dX6_lookAt_78 (lv_at hl 5 rfl) ?_
  refine lv_iload hx hb dX6_lookAt_80 (lv_at hl 0 rfl) ?_
  refine lv_if_eq (tgt := 97) hx hb dX6_lookAt_82 (by decide) (fun c10 => ?_) (fun c10 => ?_)
  · rw [if_pos c10] at hf
    refine lv_aload_n hx hb dX6_lookAt_97 rfl (lv_at hl 1 rfl) ?_
    refine rg_p hC hw 19 (Nat.le_of_ble_eq_true rfl) rfl fd_X6_5 wf_X6_24 (q := 21) rfl dX6_lookAt_98 ?_
    refine lv_iload hx hb dX6_lookAt_101 (lv_at hl 5 rfl) ?_
    obtain ⟨h11, hf⟩ := ck_e hf
    refine ra_i hC hw 21 (Nat.le_of_ble_eq_true rfl) rfl h11 dX6_lookAt_103 ?_
    refine lv_iload_n hx hb dX6_lookAt_104 rfl (lv_at hl 3 rfl) ?_
    refine lv_iconst (v := (-1)) hx hb dX6_lookAt_105 (by decide) ?_
    refine lv_ixor hx hb dX6_lookAt_106 ?_
    refine lv_iand hx hb dX6_lookAt_107 ?_
    refine W.widen (k := 2 * (M.2.2 - c0)) (n := 52 * (M.2.2 - c0)) (by omega) (by omega) ?_
    exact k_X6_lookAt_108 hC (by omega) hq35 hm35 hf hw (lv_sub hl [1, 2, 3, 4, 5] rfl)
  · rw [if_neg c10] at hf
    refine lv_aload_n hx hb dX6_lookAt_85 rfl (lv_at hl 1 rfl) ?_
    refine rg_p hC hw 19 (Nat.le_of_ble_eq_true rfl) rfl fd_X6_5 wf_X6_24 (q := 21) rfl dX6_lookAt_86 ?_
    refine lv_iload hx hb dX6_lookAt_89 (lv_at hl 5 rfl) ?_
    obtain ⟨h12, hf⟩ := ck_e hf
    refine ra_i hC hw 21 (Nat.le_of_ble_eq_true rfl) rfl h12 dX6_lookAt_91 ?_
    refine lv_iload_n hx hb dX6_lookAt_92 rfl (lv_at hl 3 rfl) ?_
    refine lv_ior hx hb dX6_lookAt_93 ?_
    refine lv_goto (tgt := 108) hx hb dX6_lookAt_94 (by decide) ?_
    refine W.widen (k := 2 * (M.2.2 - c0)) (n := 52 * (M.2.2 - c0)) (by omega) (by omega) ?_
    exact k_X6_lookAt_108 hC (by omega) hq35 hm35 hf hw (lv_sub hl [1, 2, 3, 4, 5] rfl)
set_option maxRecDepth 100000 in
set_option maxHeartbeats 4000000 in
theorem k_X6_lookAt_35 {p : Program} {l : Launch} {e : Env} {s : State} {m : MethodId} {args : Array Value} {below : List Frame} {meth : Method} {c : Code} {D : va_G} {cy : Nat → ClassId} {z0 : Nat} {ad : Nat → Nat} {X : va_W} {u : Nat × Nat} (hC : cx_C p s m args meth c cX6_lookAt "RhymedThen$Signs" (Cond.code yX6_lookAt cX6_lookAt 6 none) 6 none) {z : mm_M} {c0 : Nat} {x1 : Int32} {x2 : Int32} {x3 : Int32} {x4 : Int32} {M : mm_M} (hc0 : c0 ≤ M.2.2) {q35 : Int32 → Int32 → Int32 → Int32 → mm_M → Option mm_M} (hq35 : ∀ (x1 : Int32) (x2 : Int32) (x3 : Int32) (x4 : Int32) (M : mm_M) (u : Nat × Nat) (H : Heap) (locs : List Loc) (ls : Array Slot), c0 ≤ M.2.2 → q35 x1 x2 x3 x4 M = some z → wd_in cx_T D cy z0 ad u M X s H locs → lv_has ls 6 [(0, .ref (ad 19)), (1, .int x1), (2, .int x2), (3, .int x3), (4, .int x4)] → W p l e { frames := 6, cells := 2 * (z.2.2 - c0), slots := 52 * (z.2.2 - c0), locals := 192 } s m args below meth c H locs (2 * (M.2.2 - c0)) (52 * (M.2.2 - c0)) (MQ below (aq_v cx_T D cy z0 ad X z) args s (2 * (z.2.2 - c0)) (52 * (z.2.2 - c0)) (fun q => z0 ≤ q)) (F0 m 35 ls [])) (hm35 : ∀ (x1 : Int32) (x2 : Int32) (x3 : Int32) (x4 : Int32) (M : mm_M), q35 x1 x2 x3 x4 M = some z → M.2.2 ≤ z.2.2) (hf : f_X6_lookAt_35 q35 x1 x2 x3 x4 M = some z) {H : Heap} {locs : List Loc} (hw : wd_in cx_T D cy z0 ad u M X s H locs) {ls : Array Slot} (hl : lv_has ls 6 [(0, .ref (ad 19)), (1, .int x1), (2, .int x2), (3, .int x3), (4, .int x4)]) : W p l e { frames := 6, cells := 2 * (z.2.2 - c0), slots := 52 * (z.2.2 - c0), locals := 192 } s m args below meth c H locs (2 * (M.2.2 - c0)) (52 * (M.2.2 - c0)) (MQ below (aq_v cx_T D cy z0 ad X z) args s (2 * (z.2.2 - c0)) (52 * (z.2.2 - c0)) (fun q => z0 ≤ q)) (F0 m 35 ls []) := by
  have hx := hC.1
  have hb := hC.2.1
  have hmz : M.2.2 ≤ z.2.2 := mo_X6_lookAt_35 hm35 hf
  unfold f_X6_lookAt_35 at hf
  refine lv_iload hx hb dX6_lookAt_35 (lv_at hl 4 rfl) ?_
  refine lv_aload_n hx hb dX6_lookAt_37 rfl (lv_at hl 0 rfl) ?_
  refine rg_p hC hw 19 (Nat.le_of_ble_eq_true rfl) rfl fd_X6_1 wf_X6_35 (q := 14) rfl dX6_lookAt_38 ?_
  refine rg_i hC hw 14 (Nat.le_of_ble_eq_true rfl) rfl fd_X3_2 wf_X6_59 dX6_lookAt_41 ?_
  refine lv_icmp_ge (tgt := 115) hx hb dX6_lookAt_44 (by decide) (fun c6 => ?_) (fun c6 => ?_)
  · rw [if_pos c6] at hf
    refine W.widen (k := 2 * (z.2.2 - c0)) (n := 52 * (z.2.2 - c0)) (by omega) (by omega) ?_
    have hz := Option.some.inj hf
    subst hz
    exact rta_v hC hw dX6_lookAt_115
  · rw [if_neg c6] at hf
    refine lv_aload_n hx hb dX6_lookAt_47 rfl (lv_at hl 0 rfl) ?_
    refine rg_p hC hw 19 (Nat.le_of_ble_eq_true rfl) rfl fd_X6_2 wf_X6_11 (q := 20) rfl dX6_lookAt_48 ?_
    refine lv_iload_n hx hb dX6_lookAt_51 rfl (lv_at hl 1 rfl) ?_
    obtain ⟨h7, hf⟩ := ck_e hf
    refine ra_S hC hw 20 (Nat.le_of_ble_eq_true rfl) rfl h7 dX6_lookAt_52 ?_
    refine lv_aload_n hx hb dX6_lookAt_53 rfl (lv_at hl 0 rfl) ?_
    refine rg_p hC hw 19 (Nat.le_of_ble_eq_true rfl) rfl fd_X6_1 wf_X6_35 (q := 14) rfl dX6_lookAt_54 ?_
    refine lv_iload hx hb dX6_lookAt_57 (lv_at hl 4 rfl) ?_
    refine lv_iload_n hx hb dX6_lookAt_59 rfl (lv_at hl 3 rfl) ?_
    refine lv_bipush (v := 63) hx hb dX6_lookAt_60 (by decide) ?_
    obtain ⟨z8, ez8, hf⟩ := bd_e hf
    have mz8 : M.2.2 ≤ z8.2.2.2 := mo_X3_courseAmong ez8
    have hnz : z8.2.2.2 ≤ z.2.2 := mo_X6_lookAt_65 hm35 hf
    refine cla_Vi hC hw (c_X3_courseAmong ez8) hd_X3_courseAmong cw_X6_62 (Nat.le_of_ble_eq_true rfl) rfl rfl (rest := [.ref (ad (22 + x1.toNatClampNeg))]) hl.1 rfl (Nat.le_of_ble_eq_true rfl) ⟨Nat.le_of_ble_eq_true rfl, Nat.le_of_ble_eq_true rfl⟩ ⟨(show 2 * (M.2.2 - c0) + 2 * (z8.2.2.2 - M.2.2) ≤ 2 * (z.2.2 - c0) by omega), (show 52 * (M.2.2 - c0) + 52 * (z8.2.2.2 - M.2.2) ≤ 52 * (z.2.2 - c0) by omega)⟩ rfl dX6_lookAt_62 (fun u H locs hw => ?_)
    refine W.widen (k := 2 * (z8.2.2.2 - c0)) (n := 52 * (z8.2.2.2 - c0)) (by omega) (by omega) ?_
    exact k_X6_lookAt_65 hC (sg_ix h7) (by omega) hq35 hm35 hf hw (lv_sub hl [0, 1, 2, 3, 4] rfl)
set_option maxRecDepth 100000 in
set_option maxHeartbeats 4000000 in
theorem k_X6_lookAt_35l {p : Program} {l : Launch} {e : Env} {s : State} {m : MethodId} {args : Array Value} {below : List Frame} {meth : Method} {c : Code} {D : va_G} {cy : Nat → ClassId} {z0 : Nat} {ad : Nat → Nat} {X : va_W} (hC : cx_C p s m args meth c cX6_lookAt "RhymedThen$Signs" (Cond.code yX6_lookAt cX6_lookAt 6 none) 6 none) {z : mm_M} {c0 : Nat} : ∀ (n : Nat) (x1 : Int32) (x2 : Int32) (x3 : Int32) (x4 : Int32) (M : mm_M) (u : Nat × Nat) (H : Heap) (locs : List Loc) (ls : Array Slot), c0 ≤ M.2.2 → f_X6_lookAt_35l n x1 x2 x3 x4 M = some z → wd_in cx_T D cy z0 ad u M X s H locs → lv_has ls 6 [(0, .ref (ad 19)), (1, .int x1), (2, .int x2), (3, .int x3), (4, .int x4)] → W p l e { frames := 6, cells := 2 * (z.2.2 - c0), slots := 52 * (z.2.2 - c0), locals := 192 } s m args below meth c H locs (2 * (M.2.2 - c0)) (52 * (M.2.2 - c0)) (MQ below (aq_v cx_T D cy z0 ad X z) args s (2 * (z.2.2 - c0)) (52 * (z.2.2 - c0)) (fun q => z0 ≤ q)) (F0 m 35 ls []) := by
  intro n
  induction n with
  | zero => intro x1 x2 x3 x4 M u H locs ls hc0 hf; exact absurd hf (by simp [f_X6_lookAt_35l])
  | succ n ih => intro x1 x2 x3 x4 M u H locs ls hc0 hf hw hl; exact k_X6_lookAt_35 hC hc0 ih (mo_X6_lookAt_35l n) hf hw hl
set_option maxRecDepth 100000 in
set_option maxHeartbeats 4000000 in
theorem k_X6_lookAt {p : Program} {l : Launch} {e : Env} {s : State} {m : MethodId} {args : Array Value} {below : List Frame} {meth : Method} {c : Code} {D : va_G} {cy : Nat → ClassId} {z0 : Nat} {ad : Nat → Nat} {X : va_W} {u : Nat × Nat} (hC : cx_C p s m args meth c cX6_lookAt "RhymedThen$Signs" (Cond.code yX6_lookAt cX6_lookAt 6 none) 6 none) {z : mm_M} {c0 : Nat} {x1 : Int32} {M : mm_M} (hc0 : c0 ≤ M.2.2) (hf : f_X6_lookAt x1 M = some z) {H : Heap} {locs : List Loc} (hw : wd_in cx_T D cy z0 ad u M X s H locs) {ls : Array Slot} (hl : lv_has ls 6 [(0, .ref (ad 19)), (1, .int x1)]) : W p l e { frames := 6, cells := 2 * (z.2.2 - c0), slots := 52 * (z.2.2 - c0), locals := 192 } s m args below meth c H locs (2 * (M.2.2 - c0)) (52 * (M.2.2 - c0)) (MQ below (aq_v cx_T D cy z0 ad X z) args s (2 * (z.2.2 - c0)) (52 * (z.2.2 - c0)) (fun q => z0 ≤ q)) (F0 m 0 ls []) := by
  have hx := hC.1
  have hb := hC.2.1
  have hmz : M.2.2 ≤ z.2.2 := mo_X6_lookAt hf
  unfold f_X6_lookAt at hf
  refine lv_iconst (v := 1) hx hb dX6_lookAt_0 (by decide) ?_
  refine lv_iload_n hx hb dX6_lookAt_1 rfl (lv_at hl 1 rfl) ?_
  refine lv_ishl hx hb dX6_lookAt_2 ?_
  obtain ⟨y1, ey1, hf⟩ := sq_e hf
  refine lt_i ey1 ?_
  refine lv_istore_n (lv' := [(2, .int y1), (0, .ref (ad 19)), (1, .int x1)]) hx hb dX6_lookAt_3 rfl hl (by decide) rfl (fun ls hl => ?_)
  refine lv_aload_n hx hb dX6_lookAt_4 rfl (lv_at hl 1 rfl) ?_
  refine rg_p hC hw 19 (Nat.le_of_ble_eq_true rfl) rfl fd_X6_2 wf_X6_11 (q := 20) rfl dX6_lookAt_5 ?_
  refine lv_iload_n hx hb dX6_lookAt_8 rfl (lv_at hl 2 rfl) ?_
  obtain ⟨h2, hf⟩ := ck_e hf
  refine ra_S hC hw 20 (Nat.le_of_ble_eq_true rfl) rfl h2 dX6_lookAt_9 ?_
  refine rg_i hC hw (22 + x1.toNatClampNeg) (sg_lt (sg_ix h2)) (sg_kd (sg_ix h2)) fd_X5_4 wf_X6_51 dX6_lookAt_10 ?_
  refine lv_aload_n hx hb dX6_lookAt_13 rfl (lv_at hl 1 rfl) ?_
  refine rg_p hC hw 19 (Nat.le_of_ble_eq_true rfl) rfl fd_X6_1 wf_X6_35 (q := 14) rfl dX6_lookAt_14 ?_
  refine rg_p hC hw 14 (Nat.le_of_ble_eq_true rfl) rfl fd_X3_1 wf_X6_54 (q := 15) rfl dX6_lookAt_17 ?_
  refine lv_aload_n hx hb dX6_lookAt_20 rfl (lv_at hl 1 rfl) ?_
  refine rg_p hC hw 19 (Nat.le_of_ble_eq_true rfl) rfl fd_X6_2 wf_X6_11 (q := 20) rfl dX6_lookAt_21 ?_
  refine lv_iload_n hx hb dX6_lookAt_24 rfl (lv_at hl 2 rfl) ?_
  obtain ⟨h3, hf⟩ := ck_e hf
  refine ra_S hC hw 20 (Nat.le_of_ble_eq_true rfl) rfl h3 dX6_lookAt_25 ?_
  refine rg_i hC hw (22 + x1.toNatClampNeg) (sg_lt (sg_ix h3)) (sg_kd (sg_ix h3)) fd_X5_5 wf_X6_44 dX6_lookAt_26 ?_
  obtain ⟨h4, hf⟩ := ck_e hf
  refine ra_i hC hw 15 (Nat.le_of_ble_eq_true rfl) rfl h4 dX6_lookAt_29 ?_
  refine lv_isub hx hb dX6_lookAt_30 ?_
  obtain ⟨y5, ey5, hf⟩ := sq_e hf
  refine lt_i ey5 ?_
  refine lv_istore_n (lv' := [(3, .int y5), (2, .int y1), (0, .ref (ad 19)), (1, .int x1)]) hx hb dX6_lookAt_31 rfl hl (by decide) rfl (fun ls hl => ?_)
  refine lv_iconst (v := 0) hx hb dX6_lookAt_32 (by decide) ?_
  refine lv_istore (lv' := [(4, .int 0), (3, .int y5), (2, .int y1), (0, .ref (ad 19)), (1, .int x1)]) hx hb dX6_lookAt_33 hl (by decide) rfl (fun ls hl => ?_)
  refine W.widen (k := 2 * (M.2.2 - c0)) (n := 52 * (M.2.2 - c0)) (by omega) (by omega) ?_
  exact k_X6_lookAt_35l hC fu_ _ _ _ _ _ _ _ _ _ (by omega) hf hw (lv_sub hl [3, 4, 2, 1, 0] rfl)
set_option maxRecDepth 100000 in
theorem c_X6_lookAt {l : Launch} {D : va_G} {cy : Nat → ClassId} {z0 : Nat} {ad : Nat → Nat} {u : Nat × Nat} {X : va_W} {z : mm_M} {x1 : Int32} {M : mm_M} (hf : f_X6_lookAt x1 M = some z) : ca_v cx_T l yX6_lookAt (Cond.code yX6_lookAt cX6_lookAt 6 none) 6 192 D cy z0 ad u M X [.ref (ad 19), .int x1] z := by
  refine bga_v (by decide) (fun p e s m below meth c hC hw => ?_)
  refine en_t (Nat.le_of_ble_eq_true rfl) (fun ls hl => ?_)
  have hl : lv_has ls 6 [(0, .ref (ad 19)), (1, .int x1)] := hl
  refine W.widen (k := 2 * (M.2.2 - M.2.2)) (n := 52 * (M.2.2 - M.2.2)) (by omega) (by omega) ?_
  exact k_X6_lookAt hC (Nat.le_refl _) hf hw hl
set_option maxRecDepth 100000 in
set_option maxHeartbeats 4000000 in
theorem k_X6_lookAnew_26 {p : Program} {l : Launch} {e : Env} {s : State} {m : MethodId} {args : Array Value} {below : List Frame} {meth : Method} {c : Code} {D : va_G} {cy : Nat → ClassId} {z0 : Nat} {ad : Nat → Nat} {X : va_W} {u : Nat × Nat} (hC : cx_C p s m args meth c cX6_lookAnew "RhymedThen$Signs" (Cond.code yX6_lookAnew cX6_lookAnew 2 none) 2 none) {z : mm_M} {c0 : Nat} {x1 : Int32} {M : mm_M} (hc0 : c0 ≤ M.2.2) {q2 : Int32 → mm_M → Option mm_M} (hq2 : ∀ (x1 : Int32) (M : mm_M) (u : Nat × Nat) (H : Heap) (locs : List Loc) (ls : Array Slot), c0 ≤ M.2.2 → q2 x1 M = some z → wd_in cx_T D cy z0 ad u M X s H locs → lv_has ls 2 [(0, .ref (ad 19)), (1, .int x1)] → W p l e { frames := 7, cells := 2 * (z.2.2 - c0), slots := 52 * (z.2.2 - c0), locals := 217 } s m args below meth c H locs (2 * (M.2.2 - c0)) (52 * (M.2.2 - c0)) (MQ below (aq_v cx_T D cy z0 ad X z) args s (2 * (z.2.2 - c0)) (52 * (z.2.2 - c0)) (fun q => z0 ≤ q)) (F0 m 2 ls [])) (hm2 : ∀ (x1 : Int32) (M : mm_M), q2 x1 M = some z → M.2.2 ≤ z.2.2) (hf : f_X6_lookAnew_26 q2 x1 M = some z) {H : Heap} {locs : List Loc} (hw : wd_in cx_T D cy z0 ad u M X s H locs) {ls : Array Slot} (hl : lv_has ls 2 [(0, .ref (ad 19)), (1, .int x1)]) : W p l e { frames := 7, cells := 2 * (z.2.2 - c0), slots := 52 * (z.2.2 - c0), locals := 217 } s m args below meth c H locs (2 * (M.2.2 - c0)) (52 * (M.2.2 - c0)) (MQ below (aq_v cx_T D cy z0 ad X z) args s (2 * (z.2.2 - c0)) (52 * (z.2.2 - c0)) (fun q => z0 ≤ q)) (F0 m 26 ls []) := by
  have hx := hC.1
  have hb := hC.2.1
  have hmz : M.2.2 ≤ z.2.2 := mo_X6_lookAnew_26 hm2 hf
  unfold f_X6_lookAnew_26 at hf
  obtain ⟨y5, ey5, hf⟩ := sq_e hf
  refine lv_iinc (v := y5) (lv' := [(1, .int y5), (0, .ref (ad 19))]) hx hb dX6_lookAnew_26 hl (k := 1) rfl (by rw [ey5]; rfl) (by decide) rfl (fun ls hl => ?_)
  refine lv_goto (tgt := 2) hx hb dX6_lookAnew_29 (by decide) ?_
  refine W.widen (k := 2 * (M.2.2 - c0)) (n := 52 * (M.2.2 - c0)) (by omega) (by omega) ?_
  exact hq2 _ _ _ _ _ _ (by omega) hf hw (lv_sub hl [1, 0] rfl)
set_option maxRecDepth 100000 in
set_option maxHeartbeats 4000000 in
theorem k_X6_lookAnew_32 {p : Program} {l : Launch} {e : Env} {s : State} {m : MethodId} {args : Array Value} {below : List Frame} {meth : Method} {c : Code} {D : va_G} {cy : Nat → ClassId} {z0 : Nat} {ad : Nat → Nat} {X : va_W} {u : Nat × Nat} (hC : cx_C p s m args meth c cX6_lookAnew "RhymedThen$Signs" (Cond.code yX6_lookAnew cX6_lookAnew 2 none) 2 none) {z : mm_M} {c0 : Nat} {M : mm_M} (hc0 : c0 ≤ M.2.2) (hf : f_X6_lookAnew_32 M = some z) {H : Heap} {locs : List Loc} (hw : wd_in cx_T D cy z0 ad u M X s H locs) {ls : Array Slot} (hl : lv_has ls 2 [(0, .ref (ad 19))]) : W p l e { frames := 7, cells := 2 * (z.2.2 - c0), slots := 52 * (z.2.2 - c0), locals := 217 } s m args below meth c H locs (2 * (M.2.2 - c0)) (52 * (M.2.2 - c0)) (MQ below (aq_v cx_T D cy z0 ad X z) args s (2 * (z.2.2 - c0)) (52 * (z.2.2 - c0)) (fun q => z0 ≤ q)) (F0 m 32 ls []) := by
  have hx := hC.1
  have hb := hC.2.1
  have hmz : M.2.2 ≤ z.2.2 := mo_X6_lookAnew_32 hf
  unfold f_X6_lookAnew_32 at hf
  refine lv_aload_n hx hb dX6_lookAnew_32 rfl (lv_at hl 0 rfl) ?_
  refine lv_iconst (v := 0) hx hb dX6_lookAnew_33 (by decide) ?_
  obtain ⟨M4, eM4, hf⟩ := sq_e hf
  have mM4 : M.2.2 ≤ M4.2.2 := by rw [eM4]; exact Nat.le_refl _
  refine rp_i hC hw 19 (Nat.le_of_ble_eq_true rfl) rfl fd_X6_6 wf_X6_28 fp_X6_6 rfl rfl dX6_lookAnew_34 eM4 (fun H locs hw => ?_)
  refine W.widen (k := 2 * (z.2.2 - c0)) (n := 52 * (z.2.2 - c0)) (by omega) (by omega) ?_
  have hz := Option.some.inj hf
  subst hz
  exact rta_v hC hw dX6_lookAnew_37
set_option maxRecDepth 100000 in
set_option maxHeartbeats 4000000 in
theorem k_X6_lookAnew_2 {p : Program} {l : Launch} {e : Env} {s : State} {m : MethodId} {args : Array Value} {below : List Frame} {meth : Method} {c : Code} {D : va_G} {cy : Nat → ClassId} {z0 : Nat} {ad : Nat → Nat} {X : va_W} {u : Nat × Nat} (hC : cx_C p s m args meth c cX6_lookAnew "RhymedThen$Signs" (Cond.code yX6_lookAnew cX6_lookAnew 2 none) 2 none) {z : mm_M} {c0 : Nat} {x1 : Int32} {M : mm_M} (hc0 : c0 ≤ M.2.2) {q2 : Int32 → mm_M → Option mm_M} (hq2 : ∀ (x1 : Int32) (M : mm_M) (u : Nat × Nat) (H : Heap) (locs : List Loc) (ls : Array Slot), c0 ≤ M.2.2 → q2 x1 M = some z → wd_in cx_T D cy z0 ad u M X s H locs → lv_has ls 2 [(0, .ref (ad 19)), (1, .int x1)] → W p l e { frames := 7, cells := 2 * (z.2.2 - c0), slots := 52 * (z.2.2 - c0), locals := 217 } s m args below meth c H locs (2 * (M.2.2 - c0)) (52 * (M.2.2 - c0)) (MQ below (aq_v cx_T D cy z0 ad X z) args s (2 * (z.2.2 - c0)) (52 * (z.2.2 - c0)) (fun q => z0 ≤ q)) (F0 m 2 ls [])) (hm2 : ∀ (x1 : Int32) (M : mm_M), q2 x1 M = some z → M.2.2 ≤ z.2.2) (hf : f_X6_lookAnew_2 q2 x1 M = some z) {H : Heap} {locs : List Loc} (hw : wd_in cx_T D cy z0 ad u M X s H locs) {ls : Array Slot} (hl : lv_has ls 2 [(0, .ref (ad 19)), (1, .int x1)]) : W p l e { frames := 7, cells := 2 * (z.2.2 - c0), slots := 52 * (z.2.2 - c0), locals := 217 } s m args below meth c H locs (2 * (M.2.2 - c0)) (52 * (M.2.2 - c0)) (MQ below (aq_v cx_T D cy z0 ad X z) args s (2 * (z.2.2 - c0)) (52 * (z.2.2 - c0)) (fun q => z0 ≤ q)) (F0 m 2 ls []) := by
  have hx := hC.1
  have hb := hC.2.1
  have hmz : M.2.2 ≤ z.2.2 := mo_X6_lookAnew_2 hm2 hf
  unfold f_X6_lookAnew_2 at hf
  refine lv_iload_n hx hb dX6_lookAnew_2 rfl (lv_at hl 1 rfl) ?_
  refine lv_aload_n hx hb dX6_lookAnew_3 rfl (lv_at hl 0 rfl) ?_
  refine rg_i hC hw 19 (Nat.le_of_ble_eq_true rfl) rfl fd_X6_3 wf_X6_17 dX6_lookAnew_4 ?_
  refine lv_icmp_ge (tgt := 32) hx hb dX6_lookAnew_7 (by decide) (fun c1 => ?_) (fun c1 => ?_)
  · rw [if_pos c1] at hf
    refine W.widen (k := 2 * (M.2.2 - c0)) (n := 52 * (M.2.2 - c0)) (by omega) (by omega) ?_
    exact k_X6_lookAnew_32 hC (by omega) hf hw (lv_sub hl [0] rfl)
  · rw [if_neg c1] at hf
    refine lv_aload_n hx hb dX6_lookAnew_10 rfl (lv_at hl 0 rfl) ?_
    refine rg_i hC hw 19 (Nat.le_of_ble_eq_true rfl) rfl fd_X6_6 wf_X6_28 dX6_lookAnew_11 ?_
    refine lv_iload_n hx hb dX6_lookAnew_14 rfl (lv_at hl 1 rfl) ?_
    refine lv_ishr hx hb dX6_lookAnew_15 ?_
    refine lv_iconst (v := 1) hx hb dX6_lookAnew_16 (by decide) ?_
    refine lv_iand hx hb dX6_lookAnew_17 ?_
    refine lv_if_eq (tgt := 26) hx hb dX6_lookAnew_18 (by decide) (fun c2 => ?_) (fun c2 => ?_)
    · rw [if_pos c2] at hf
      refine W.widen (k := 2 * (M.2.2 - c0)) (n := 52 * (M.2.2 - c0)) (by omega) (by omega) ?_
      exact k_X6_lookAnew_26 hC (by omega) hq2 hm2 hf hw (lv_sub hl [0, 1] rfl)
    · rw [if_neg c2] at hf
      refine lv_aload_n hx hb dX6_lookAnew_21 rfl (lv_at hl 0 rfl) ?_
      refine lv_iload_n hx hb dX6_lookAnew_22 rfl (lv_at hl 1 rfl) ?_
      obtain ⟨z3, ez3, hf⟩ := bd_e hf
      have mz3 : M.2.2 ≤ z3.2.2 := mo_X6_lookAt ez3
      have hnz : z3.2.2 ≤ z.2.2 := mo_X6_lookAnew_26 hm2 hf
      refine cla_Vv hC hw (c_X6_lookAt ez3) hd_X6_lookAt cw_X6_47 (Nat.le_of_ble_eq_true rfl) rfl rfl (rest := []) hl.1 rfl (Nat.le_of_ble_eq_true rfl) ⟨Nat.le_of_ble_eq_true rfl, Nat.le_of_ble_eq_true rfl⟩ ⟨(show 2 * (M.2.2 - c0) + 2 * (z3.2.2 - M.2.2) ≤ 2 * (z.2.2 - c0) by omega), (show 52 * (M.2.2 - c0) + 52 * (z3.2.2 - M.2.2) ≤ 52 * (z.2.2 - c0) by omega)⟩ rfl dX6_lookAnew_23 (fun u H locs hw => ?_)
      refine W.widen (k := 2 * (z3.2.2 - c0)) (n := 52 * (z3.2.2 - c0)) (by omega) (by omega) ?_
      exact k_X6_lookAnew_26 hC (by omega) hq2 hm2 hf hw (lv_sub hl [0, 1] rfl)
set_option maxRecDepth 100000 in
set_option maxHeartbeats 4000000 in
theorem k_X6_lookAnew_2l {p : Program} {l : Launch} {e : Env} {s : State} {m : MethodId} {args : Array Value} {below : List Frame} {meth : Method} {c : Code} {D : va_G} {cy : Nat → ClassId} {z0 : Nat} {ad : Nat → Nat} {X : va_W} (hC : cx_C p s m args meth c cX6_lookAnew "RhymedThen$Signs" (Cond.code yX6_lookAnew cX6_lookAnew 2 none) 2 none) {z : mm_M} {c0 : Nat} : ∀ (n : Nat) (x1 : Int32) (M : mm_M) (u : Nat × Nat) (H : Heap) (locs : List Loc) (ls : Array Slot), c0 ≤ M.2.2 → f_X6_lookAnew_2l n x1 M = some z → wd_in cx_T D cy z0 ad u M X s H locs → lv_has ls 2 [(0, .ref (ad 19)), (1, .int x1)] → W p l e { frames := 7, cells := 2 * (z.2.2 - c0), slots := 52 * (z.2.2 - c0), locals := 217 } s m args below meth c H locs (2 * (M.2.2 - c0)) (52 * (M.2.2 - c0)) (MQ below (aq_v cx_T D cy z0 ad X z) args s (2 * (z.2.2 - c0)) (52 * (z.2.2 - c0)) (fun q => z0 ≤ q)) (F0 m 2 ls []) := by
  intro n
  induction n with
  | zero => intro x1 M u H locs ls hc0 hf; exact absurd hf (by simp [f_X6_lookAnew_2l])
  | succ n ih => intro x1 M u H locs ls hc0 hf hw hl; exact k_X6_lookAnew_2 hC hc0 ih (mo_X6_lookAnew_2l n) hf hw hl
set_option maxRecDepth 100000 in
set_option maxHeartbeats 4000000 in
theorem k_X6_lookAnew {p : Program} {l : Launch} {e : Env} {s : State} {m : MethodId} {args : Array Value} {below : List Frame} {meth : Method} {c : Code} {D : va_G} {cy : Nat → ClassId} {z0 : Nat} {ad : Nat → Nat} {X : va_W} {u : Nat × Nat} (hC : cx_C p s m args meth c cX6_lookAnew "RhymedThen$Signs" (Cond.code yX6_lookAnew cX6_lookAnew 2 none) 2 none) {z : mm_M} {c0 : Nat} {M : mm_M} (hc0 : c0 ≤ M.2.2) (hf : f_X6_lookAnew M = some z) {H : Heap} {locs : List Loc} (hw : wd_in cx_T D cy z0 ad u M X s H locs) {ls : Array Slot} (hl : lv_has ls 2 [(0, .ref (ad 19))]) : W p l e { frames := 7, cells := 2 * (z.2.2 - c0), slots := 52 * (z.2.2 - c0), locals := 217 } s m args below meth c H locs (2 * (M.2.2 - c0)) (52 * (M.2.2 - c0)) (MQ below (aq_v cx_T D cy z0 ad X z) args s (2 * (z.2.2 - c0)) (52 * (z.2.2 - c0)) (fun q => z0 ≤ q)) (F0 m 0 ls []) := by
  have hx := hC.1
  have hb := hC.2.1
  have hmz : M.2.2 ≤ z.2.2 := mo_X6_lookAnew hf
  unfold f_X6_lookAnew at hf
  refine lv_iconst (v := 0) hx hb dX6_lookAnew_0 (by decide) ?_
  refine lv_istore_n (lv' := [(1, .int 0), (0, .ref (ad 19))]) hx hb dX6_lookAnew_1 rfl hl (by decide) rfl (fun ls hl => ?_)
  refine W.widen (k := 2 * (M.2.2 - c0)) (n := 52 * (M.2.2 - c0)) (by omega) (by omega) ?_
  exact k_X6_lookAnew_2l hC fu_ _ _ _ _ _ _ (by omega) hf hw (lv_sub hl [1, 0] rfl)
set_option maxRecDepth 100000 in
theorem c_X6_lookAnew {l : Launch} {D : va_G} {cy : Nat → ClassId} {z0 : Nat} {ad : Nat → Nat} {u : Nat × Nat} {X : va_W} {z : mm_M} {M : mm_M} (hf : f_X6_lookAnew M = some z) : ca_v cx_T l yX6_lookAnew (Cond.code yX6_lookAnew cX6_lookAnew 2 none) 7 217 D cy z0 ad u M X [.ref (ad 19)] z := by
  refine bga_v (by decide) (fun p e s m below meth c hC hw => ?_)
  refine en_t (Nat.le_of_ble_eq_true rfl) (fun ls hl => ?_)
  have hl : lv_has ls 2 [(0, .ref (ad 19))] := hl
  refine W.widen (k := 2 * (M.2.2 - M.2.2)) (n := 52 * (M.2.2 - M.2.2)) (by omega) (by omega) ?_
  exact k_X6_lookAnew hC (Nat.le_refl _) hf hw hl
set_option maxRecDepth 100000 in
set_option maxHeartbeats 4000000 in
theorem k_X6_heldBy {p : Program} {l : Launch} {e : Env} {s : State} {m : MethodId} {args : Array Value} {below : List Frame} {meth : Method} {c : Code} {D : va_G} {cy : Nat → ClassId} {z0 : Nat} {ad : Nat → Nat} {X : va_W} {u : Nat × Nat} (hC : cx_C p s m args meth c cX6_heldBy "RhymedThen$Signs" (Cond.code yX6_heldBy cX6_heldBy 2 (some .int)) 2 (some .int)) {z : Int32} {x1 : Int32} {M : mm_M} (hf : f_X6_heldBy x1 M = some z) {H : Heap} {locs : List Loc} (hw : wd_in cx_T D cy z0 ad u M X s H locs) {ls : Array Slot} (hl : lv_has ls 2 [(0, .ref (ad 19)), (1, .int x1)]) : W p l e { frames := 0, cells := 0, slots := 0, locals := 0 } s m args below meth c H locs 0 0 (MQ below (cq_i cx_T D cy z0 ad u X z M) args s 0 0 (fun q => z0 ≤ q)) (F0 m 0 ls []) := by
  have hx := hC.1
  have hb := hC.2.1
  unfold f_X6_heldBy at hf
  refine lv_aload_n hx hb dX6_heldBy_0 rfl (lv_at hl 0 rfl) ?_
  refine rg_p hC hw 19 (Nat.le_of_ble_eq_true rfl) rfl fd_X6_5 wf_X6_24 (q := 21) rfl dX6_heldBy_1 ?_
  refine lv_iload_n hx hb dX6_heldBy_4 rfl (lv_at hl 1 rfl) ?_
  obtain ⟨h1, hf⟩ := ck_e hf
  refine ra_i hC hw 21 (Nat.le_of_ble_eq_true rfl) rfl h1 dX6_heldBy_5 ?_
  have hz := Option.some.inj hf
  subst hz
  exact rtc_i hC hw dX6_heldBy_6
set_option maxRecDepth 100000 in
theorem c_X6_heldBy {l : Launch} {D : va_G} {cy : Nat → ClassId} {z0 : Nat} {ad : Nat → Nat} {u : Nat × Nat} {X : va_W} {z : Int32} {x1 : Int32} {M : mm_M} (hf : f_X6_heldBy x1 M = some z) : ct_i cx_T l yX6_heldBy (Cond.code yX6_heldBy cX6_heldBy 2 (some .int)) 0 0 D cy z0 ad u M X [.ref (ad 19), .int x1] z M := by
  refine bgc_i (by decide) (fun p e s m below meth c hC hw => ?_)
  refine en_t (Nat.le_of_ble_eq_true rfl) (fun ls hl => ?_)
  have hl : lv_has ls 2 [(0, .ref (ad 19)), (1, .int x1)] := hl
  exact k_X6_heldBy hC hf hw hl
set_option maxRecDepth 100000 in
set_option maxHeartbeats 4000000 in
theorem k_X11_holds_25 {p : Program} {l : Launch} {e : Env} {s : State} {m : MethodId} {args : Array Value} {below : List Frame} {meth : Method} {c : Code} {D : va_G} {cy : Nat → ClassId} {z0 : Nat} {ad : Nat → Nat} {X : va_W} {u : Nat × Nat} (hC : cx_C p s m args meth c cX11_holds "RhymedThen" (Cond.code yX11_holds cX11_holds 3 (some .int)) 3 (some .int)) {z : (Int32 × mm_M)} {c0 : Nat} {x1 : Int32} {x2 : Int32} {M : mm_M} (hc0 : c0 ≤ M.2.2) (hf : f_X11_holds_25 x1 x2 M = some z) {H : Heap} {locs : List Loc} (hw : wd_in cx_T D cy z0 ad u M X s H locs) {ls : Array Slot} (hl : lv_has ls 3 [(0, .ref (ad 0)), (1, .int x1), (2, .int x2)]) : W p l e { frames := 8, cells := 2 * (z.2.2.2 - c0), slots := 52 * (z.2.2.2 - c0), locals := 238 } s m args below meth c H locs (2 * (M.2.2 - c0)) (52 * (M.2.2 - c0)) (MQ below (aq_i cx_T D cy z0 ad X z.1 z.2) args s (2 * (z.2.2.2 - c0)) (52 * (z.2.2.2 - c0)) (fun q => z0 ≤ q)) (F0 m 25 ls []) := by
  have hx := hC.1
  have hb := hC.2.1
  have hmz : M.2.2 ≤ z.2.2.2 := mo_X11_holds_25 hf
  unfold f_X11_holds_25 at hf
  refine lv_aload_n hx hb dX11_holds_25 rfl (lv_at hl 0 rfl) ?_
  refine rg_p hC hw 0 (Nat.le_of_ble_eq_true rfl) rfl fd_X11_4 wf_X11_44 (q := 19) rfl dX11_holds_26 ?_
  refine lv_iload_n hx hb dX11_holds_29 rfl (lv_at hl 2 rfl) ?_
  obtain ⟨z6, ez6, hf⟩ := bd_e hf
  refine clc_Vi hC hw (c_X6_heldBy ez6) hd_X6_heldBy cw_X11_289 (Nat.le_of_ble_eq_true rfl) rfl rfl (rest := []) hl.1 rfl (Nat.le_of_ble_eq_true rfl) ⟨Nat.le_of_ble_eq_true rfl, Nat.le_of_ble_eq_true rfl⟩ ⟨(show 2 * (M.2.2 - c0) ≤ 2 * (z.2.2.2 - c0) by omega), (show 52 * (M.2.2 - c0) ≤ 52 * (z.2.2.2 - c0) by omega)⟩ rfl dX11_holds_30 (fun H locs hw => ?_)
  refine lv_iload_n hx hb dX11_holds_33 rfl (lv_at hl 1 rfl) ?_
  refine lv_ishr hx hb dX11_holds_34 ?_
  refine lv_iconst (v := 1) hx hb dX11_holds_35 (by decide) ?_
  refine lv_iand hx hb dX11_holds_36 ?_
  refine W.widen (k := 2 * (z.2.2.2 - c0)) (n := 52 * (z.2.2.2 - c0)) (by omega) (by omega) ?_
  have hz := Option.some.inj hf
  subst hz
  exact rta_i hC hw dX11_holds_37
set_option maxRecDepth 100000 in
set_option maxHeartbeats 4000000 in
theorem k_X11_holds {p : Program} {l : Launch} {e : Env} {s : State} {m : MethodId} {args : Array Value} {below : List Frame} {meth : Method} {c : Code} {D : va_G} {cy : Nat → ClassId} {z0 : Nat} {ad : Nat → Nat} {X : va_W} {u : Nat × Nat} (hC : cx_C p s m args meth c cX11_holds "RhymedThen" (Cond.code yX11_holds cX11_holds 3 (some .int)) 3 (some .int)) {z : (Int32 × mm_M)} {c0 : Nat} {x1 : Int32} {x2 : Int32} {M : mm_M} (hc0 : c0 ≤ M.2.2) (hf : f_X11_holds x1 x2 M = some z) {H : Heap} {locs : List Loc} (hw : wd_in cx_T D cy z0 ad u M X s H locs) {ls : Array Slot} (hl : lv_has ls 3 [(0, .ref (ad 0)), (1, .int x1), (2, .int x2)]) : W p l e { frames := 8, cells := 2 * (z.2.2.2 - c0), slots := 52 * (z.2.2.2 - c0), locals := 238 } s m args below meth c H locs (2 * (M.2.2 - c0)) (52 * (M.2.2 - c0)) (MQ below (aq_i cx_T D cy z0 ad X z.1 z.2) args s (2 * (z.2.2.2 - c0)) (52 * (z.2.2.2 - c0)) (fun q => z0 ≤ q)) (F0 m 0 ls []) := by
  have hx := hC.1
  have hb := hC.2.1
  have hmz : M.2.2 ≤ z.2.2.2 := mo_X11_holds hf
  unfold f_X11_holds at hf
  refine lv_aload_n hx hb dX11_holds_0 rfl (lv_at hl 0 rfl) ?_
  refine lv_iload_n hx hb dX11_holds_1 rfl (lv_at hl 1 rfl) ?_
  obtain ⟨z1, ez1, hf⟩ := sq_e hf
  refine clc_Vi hC hw (c_X11_isSign ez1.symm) hd_X11_isSign cw_X11_274 (Nat.le_of_ble_eq_true rfl) rfl rfl (rest := []) hl.1 rfl (Nat.le_of_ble_eq_true rfl) ⟨Nat.le_of_ble_eq_true rfl, Nat.le_of_ble_eq_true rfl⟩ ⟨(show 2 * (M.2.2 - c0) ≤ 2 * (z.2.2.2 - c0) by omega), (show 52 * (M.2.2 - c0) ≤ 52 * (z.2.2.2 - c0) by omega)⟩ rfl dX11_holds_2 (fun H locs hw => ?_)
  refine lv_if_eq (tgt := 16) hx hb dX11_holds_5 (by decide) (fun c2 => ?_) (fun c2 => ?_)
  · rw [if_pos c2] at hf
    refine lv_iconst (v := (-1)) hx hb dX11_holds_16 (by decide) ?_
    refine W.widen (k := 2 * (z.2.2.2 - c0)) (n := 52 * (z.2.2.2 - c0)) (by omega) (by omega) ?_
    have hz := Option.some.inj hf
    subst hz
    exact rta_i hC hw dX11_holds_17
  · rw [if_neg c2] at hf
    refine lv_aload_n hx hb dX11_holds_8 rfl (lv_at hl 0 rfl) ?_
    refine lv_iload_n hx hb dX11_holds_9 rfl (lv_at hl 2 rfl) ?_
    obtain ⟨z3, ez3, hf⟩ := sq_e hf
    refine clc_Vi hC hw (c_X11_isHistory ez3.symm) hd_X11_isHistory cw_X11_218 (Nat.le_of_ble_eq_true rfl) rfl rfl (rest := []) hl.1 rfl (Nat.le_of_ble_eq_true rfl) ⟨Nat.le_of_ble_eq_true rfl, Nat.le_of_ble_eq_true rfl⟩ ⟨(show 2 * (M.2.2 - c0) ≤ 2 * (z.2.2.2 - c0) by omega), (show 52 * (M.2.2 - c0) ≤ 52 * (z.2.2.2 - c0) by omega)⟩ rfl dX11_holds_10 (fun H locs hw => ?_)
    refine lv_if_ne (tgt := 18) hx hb dX11_holds_13 (by decide) (fun c4 => ?_) (fun c4 => ?_)
    · rw [if_neg c4] at hf
      refine lv_aload_n hx hb dX11_holds_18 rfl (lv_at hl 0 rfl) ?_
      refine rg_p hC hw 0 (Nat.le_of_ble_eq_true rfl) rfl fd_X11_4 wf_X11_44 (q := 19) rfl dX11_holds_19 ?_
      obtain ⟨z5, ez5, hf⟩ := bd_e hf
      have mz5 : M.2.2 ≤ z5.2.2 := mo_X6_lookAnew ez5
      have hnz : z5.2.2 ≤ z.2.2.2 := mo_X11_holds_25 hf
      refine cla_Vv hC hw (c_X6_lookAnew ez5) hd_X6_lookAnew cw_X11_286 (Nat.le_of_ble_eq_true rfl) rfl rfl (rest := []) hl.1 rfl (Nat.le_of_ble_eq_true rfl) ⟨Nat.le_of_ble_eq_true rfl, Nat.le_of_ble_eq_true rfl⟩ ⟨(show 2 * (M.2.2 - c0) + 2 * (z5.2.2 - M.2.2) ≤ 2 * (z.2.2.2 - c0) by omega), (show 52 * (M.2.2 - c0) + 52 * (z5.2.2 - M.2.2) ≤ 52 * (z.2.2.2 - c0) by omega)⟩ rfl dX11_holds_22 (fun u H locs hw => ?_)
      refine W.widen (k := 2 * (z5.2.2 - c0)) (n := 52 * (z5.2.2 - c0)) (by omega) (by omega) ?_
      exact k_X11_holds_25 hC (by omega) hf hw (lv_sub hl [0, 1, 2] rfl)
    · rw [if_pos c4] at hf
      refine lv_iconst (v := (-1)) hx hb dX11_holds_16 (by decide) ?_
      refine W.widen (k := 2 * (z.2.2.2 - c0)) (n := 52 * (z.2.2.2 - c0)) (by omega) (by omega) ?_
      have hz := Option.some.inj hf
      subst hz
      exact rta_i hC hw dX11_holds_17
set_option maxRecDepth 100000 in
theorem c_X11_holds {l : Launch} {D : va_G} {cy : Nat → ClassId} {z0 : Nat} {ad : Nat → Nat} {u : Nat × Nat} {X : va_W} {z : (Int32 × mm_M)} {x1 : Int32} {x2 : Int32} {M : mm_M} (hf : f_X11_holds x1 x2 M = some z) : ca_i cx_T l yX11_holds (Cond.code yX11_holds cX11_holds 3 (some .int)) 8 238 D cy z0 ad u M X [.ref (ad 0), .int x1, .int x2] z.1 z.2 := by
  refine bga_i (by decide) (fun p e s m below meth c hC hw => ?_)
  refine en_t (Nat.le_of_ble_eq_true rfl) (fun ls hl => ?_)
  have hl : lv_has ls 3 [(0, .ref (ad 0)), (1, .int x1), (2, .int x2)] := hl
  refine W.widen (k := 2 * (M.2.2 - M.2.2)) (n := 52 * (M.2.2 - M.2.2)) (by omega) (by omega) ?_
  exact k_X11_holds hC (Nat.le_refl _) hf hw hl
set_option maxRecDepth 100000 in
set_option maxHeartbeats 4000000 in
theorem k_X6_fitsTo {p : Program} {l : Launch} {e : Env} {s : State} {m : MethodId} {args : Array Value} {below : List Frame} {meth : Method} {c : Code} {D : va_G} {cy : Nat → ClassId} {z0 : Nat} {ad : Nat → Nat} {X : va_W} {u : Nat × Nat} (hC : cx_C p s m args meth c cX6_fitsTo "RhymedThen$Signs" (Cond.code yX6_fitsTo cX6_fitsTo 2 (some .boolean)) 2 (some .boolean)) {z : Int32} {x1 : Int32} {M : mm_M} (hf : f_X6_fitsTo x1 M = some z) {H : Heap} {locs : List Loc} (hw : wd_in cx_T D cy z0 ad u M X s H locs) {ls : Array Slot} (hl : lv_has ls 2 [(0, .ref (ad 19)), (1, .int x1)]) : W p l e { frames := 0, cells := 0, slots := 0, locals := 0 } s m args below meth c H locs 0 0 (MQ below (cq_i cx_T D cy z0 ad u X z M) args s 0 0 (fun q => z0 ≤ q)) (F0 m 0 ls []) := by
  have hx := hC.1
  have hb := hC.2.1
  unfold f_X6_fitsTo at hf
  refine lv_aload_n hx hb dX6_fitsTo_0 rfl (lv_at hl 0 rfl) ?_
  refine rg_i hC hw 19 (Nat.le_of_ble_eq_true rfl) rfl fd_X6_4 wf_X6_21 dX6_fitsTo_1 ?_
  refine lv_aload_n hx hb dX6_fitsTo_4 rfl (lv_at hl 0 rfl) ?_
  refine rg_p hC hw 19 (Nat.le_of_ble_eq_true rfl) rfl fd_X6_5 wf_X6_24 (q := 21) rfl dX6_fitsTo_5 ?_
  refine lv_iload_n hx hb dX6_fitsTo_8 rfl (lv_at hl 1 rfl) ?_
  obtain ⟨h1, hf⟩ := ck_e hf
  refine ra_i hC hw 21 (Nat.le_of_ble_eq_true rfl) rfl h1 dX6_fitsTo_9 ?_
  refine lv_iconst (v := (-1)) hx hb dX6_fitsTo_10 (by decide) ?_
  refine lv_ixor hx hb dX6_fitsTo_11 ?_
  refine lv_iand hx hb dX6_fitsTo_12 ?_
  refine lv_if_ne (tgt := 20) hx hb dX6_fitsTo_13 (by decide) (fun c2 => ?_) (fun c2 => ?_)
  · rw [if_neg c2] at hf
    refine lv_iconst (v := 0) hx hb dX6_fitsTo_20 (by decide) ?_
    have hz := Option.some.inj hf
    subst hz
    exact rtc_z hC hw (Or.inl rfl) dX6_fitsTo_21
  · rw [if_pos c2] at hf
    refine lv_iconst (v := 1) hx hb dX6_fitsTo_16 (by decide) ?_
    refine lv_goto (tgt := 21) hx hb dX6_fitsTo_17 (by decide) ?_
    have hz := Option.some.inj hf
    subst hz
    exact rtc_z hC hw (Or.inr rfl) dX6_fitsTo_21
set_option maxRecDepth 100000 in
theorem c_X6_fitsTo {l : Launch} {D : va_G} {cy : Nat → ClassId} {z0 : Nat} {ad : Nat → Nat} {u : Nat × Nat} {X : va_W} {z : Int32} {x1 : Int32} {M : mm_M} (hf : f_X6_fitsTo x1 M = some z) : ct_i cx_T l yX6_fitsTo (Cond.code yX6_fitsTo cX6_fitsTo 2 (some .boolean)) 0 0 D cy z0 ad u M X [.ref (ad 19), .int x1] z M := by
  refine bgc_i (by decide) (fun p e s m below meth c hC hw => ?_)
  refine en_t (Nat.le_of_ble_eq_true rfl) (fun ls hl => ?_)
  have hl : lv_has ls 2 [(0, .ref (ad 19)), (1, .int x1)] := hl
  exact k_X6_fitsTo hC hf hw hl
set_option maxRecDepth 100000 in
set_option maxHeartbeats 4000000 in
theorem k_X11_fits_56 {p : Program} {l : Launch} {e : Env} {s : State} {m : MethodId} {args : Array Value} {below : List Frame} {meth : Method} {c : Code} {D : va_G} {cy : Nat → ClassId} {z0 : Nat} {ad : Nat → Nat} {X : va_W} {u : Nat × Nat} (hC : cx_C p s m args meth c cX11_fits "RhymedThen" (Cond.code yX11_fits cX11_fits 3 (some .int)) 3 (some .int)) {z : (Int32 × mm_M)} {c0 : Nat} {x1 : Int32} {x2 : Int32} {M : mm_M} (hc0 : c0 ≤ M.2.2) {q18 : Int32 → Int32 → mm_M → Option (Int32 × mm_M)} (hq18 : ∀ (x1 : Int32) (x2 : Int32) (M : mm_M) (u : Nat × Nat) (H : Heap) (locs : List Loc) (ls : Array Slot), c0 ≤ M.2.2 → q18 x1 x2 M = some z → wd_in cx_T D cy z0 ad u M X s H locs → lv_has ls 3 [(0, .ref (ad 0)), (1, .int x1), (2, .int x2)] → W p l e { frames := 8, cells := 2 * (z.2.2.2 - c0), slots := 52 * (z.2.2.2 - c0), locals := 238 } s m args below meth c H locs (2 * (M.2.2 - c0)) (52 * (M.2.2 - c0)) (MQ below (aq_i cx_T D cy z0 ad X z.1 z.2) args s (2 * (z.2.2.2 - c0)) (52 * (z.2.2.2 - c0)) (fun q => z0 ≤ q)) (F0 m 18 ls [])) (hm18 : ∀ (x1 : Int32) (x2 : Int32) (M : mm_M), q18 x1 x2 M = some z → M.2.2 ≤ z.2.2.2) (hf : f_X11_fits_56 q18 x1 x2 M = some z) {H : Heap} {locs : List Loc} (hw : wd_in cx_T D cy z0 ad u M X s H locs) {ls : Array Slot} (hl : lv_has ls 3 [(0, .ref (ad 0)), (1, .int x1), (2, .int x2)]) : W p l e { frames := 8, cells := 2 * (z.2.2.2 - c0), slots := 52 * (z.2.2.2 - c0), locals := 238 } s m args below meth c H locs (2 * (M.2.2 - c0)) (52 * (M.2.2 - c0)) (MQ below (aq_i cx_T D cy z0 ad X z.1 z.2) args s (2 * (z.2.2.2 - c0)) (52 * (z.2.2.2 - c0)) (fun q => z0 ≤ q)) (F0 m 56 ls []) := by
  have hx := hC.1
  have hb := hC.2.1
  have hmz : M.2.2 ≤ z.2.2.2 := mo_X11_fits_56 hm18 hf
  unfold f_X11_fits_56 at hf
  obtain ⟨y8, ey8, hf⟩ := sq_e hf
  refine lv_iinc (v := y8) (lv' := [(2, .int y8), (0, .ref (ad 0)), (1, .int x1)]) hx hb dX11_fits_56 hl (k := 2) rfl (by rw [ey8]; rfl) (by decide) rfl (fun ls hl => ?_)
  refine lv_goto (tgt := 18) hx hb dX11_fits_59 (by decide) ?_
  refine W.widen (k := 2 * (M.2.2 - c0)) (n := 52 * (M.2.2 - c0)) (by omega) (by omega) ?_
  exact hq18 _ _ _ _ _ _ _ (by omega) hf hw (lv_sub hl [1, 2, 0] rfl)
set_option maxRecDepth 100000 in
set_option maxHeartbeats 4000000 in
theorem k_X11_fits_53 {p : Program} {l : Launch} {e : Env} {s : State} {m : MethodId} {args : Array Value} {below : List Frame} {meth : Method} {c : Code} {D : va_G} {cy : Nat → ClassId} {z0 : Nat} {ad : Nat → Nat} {X : va_W} {u : Nat × Nat} (hC : cx_C p s m args meth c cX11_fits "RhymedThen" (Cond.code yX11_fits cX11_fits 3 (some .int)) 3 (some .int)) {z : (Int32 × mm_M)} {c0 : Nat} {x1 : Int32} {x2 : Int32} {M : mm_M} (hc0 : c0 ≤ M.2.2) {q18 : Int32 → Int32 → mm_M → Option (Int32 × mm_M)} (hq18 : ∀ (x1 : Int32) (x2 : Int32) (M : mm_M) (u : Nat × Nat) (H : Heap) (locs : List Loc) (ls : Array Slot), c0 ≤ M.2.2 → q18 x1 x2 M = some z → wd_in cx_T D cy z0 ad u M X s H locs → lv_has ls 3 [(0, .ref (ad 0)), (1, .int x1), (2, .int x2)] → W p l e { frames := 8, cells := 2 * (z.2.2.2 - c0), slots := 52 * (z.2.2.2 - c0), locals := 238 } s m args below meth c H locs (2 * (M.2.2 - c0)) (52 * (M.2.2 - c0)) (MQ below (aq_i cx_T D cy z0 ad X z.1 z.2) args s (2 * (z.2.2.2 - c0)) (52 * (z.2.2.2 - c0)) (fun q => z0 ≤ q)) (F0 m 18 ls [])) (hm18 : ∀ (x1 : Int32) (x2 : Int32) (M : mm_M), q18 x1 x2 M = some z → M.2.2 ≤ z.2.2.2) (hf : f_X11_fits_53 q18 x1 x2 M = some z) {H : Heap} {locs : List Loc} (hw : wd_in cx_T D cy z0 ad u M X s H locs) {ls : Array Slot} (hl : lv_has ls 3 [(0, .ref (ad 0)), (1, .int x1), (2, .int x2)]) : W p l e { frames := 8, cells := 2 * (z.2.2.2 - c0), slots := 52 * (z.2.2.2 - c0), locals := 238 } s m args below meth c H locs (2 * (M.2.2 - c0)) (52 * (M.2.2 - c0)) (MQ below (aq_i cx_T D cy z0 ad X z.1 z.2) args s (2 * (z.2.2.2 - c0)) (52 * (z.2.2.2 - c0)) (fun q => z0 ≤ q)) (F0 m 53 ls []) := by
  have hx := hC.1
  have hb := hC.2.1
  have hmz : M.2.2 ≤ z.2.2.2 := mo_X11_fits_53 hm18 hf
  unfold f_X11_fits_53 at hf
  obtain ⟨y9, ey9, hf⟩ := sq_e hf
  refine lv_iinc (v := y9) (lv' := [(1, .int y9), (0, .ref (ad 0)), (2, .int x2)]) hx hb dX11_fits_53 hl (k := 1) rfl (by rw [ey9]; rfl) (by decide) rfl (fun ls hl => ?_)
  refine W.widen (k := 2 * (M.2.2 - c0)) (n := 52 * (M.2.2 - c0)) (by omega) (by omega) ?_
  exact k_X11_fits_56 hC (by omega) hq18 hm18 hf hw (lv_sub hl [1, 0, 2] rfl)
set_option maxRecDepth 100000 in
set_option maxHeartbeats 4000000 in
theorem k_X11_fits_18 {p : Program} {l : Launch} {e : Env} {s : State} {m : MethodId} {args : Array Value} {below : List Frame} {meth : Method} {c : Code} {D : va_G} {cy : Nat → ClassId} {z0 : Nat} {ad : Nat → Nat} {X : va_W} {u : Nat × Nat} (hC : cx_C p s m args meth c cX11_fits "RhymedThen" (Cond.code yX11_fits cX11_fits 3 (some .int)) 3 (some .int)) {z : (Int32 × mm_M)} {c0 : Nat} {x1 : Int32} {x2 : Int32} {M : mm_M} (hc0 : c0 ≤ M.2.2) {q18 : Int32 → Int32 → mm_M → Option (Int32 × mm_M)} (hq18 : ∀ (x1 : Int32) (x2 : Int32) (M : mm_M) (u : Nat × Nat) (H : Heap) (locs : List Loc) (ls : Array Slot), c0 ≤ M.2.2 → q18 x1 x2 M = some z → wd_in cx_T D cy z0 ad u M X s H locs → lv_has ls 3 [(0, .ref (ad 0)), (1, .int x1), (2, .int x2)] → W p l e { frames := 8, cells := 2 * (z.2.2.2 - c0), slots := 52 * (z.2.2.2 - c0), locals := 238 } s m args below meth c H locs (2 * (M.2.2 - c0)) (52 * (M.2.2 - c0)) (MQ below (aq_i cx_T D cy z0 ad X z.1 z.2) args s (2 * (z.2.2.2 - c0)) (52 * (z.2.2.2 - c0)) (fun q => z0 ≤ q)) (F0 m 18 ls [])) (hm18 : ∀ (x1 : Int32) (x2 : Int32) (M : mm_M), q18 x1 x2 M = some z → M.2.2 ≤ z.2.2.2) (hf : f_X11_fits_18 q18 x1 x2 M = some z) {H : Heap} {locs : List Loc} (hw : wd_in cx_T D cy z0 ad u M X s H locs) {ls : Array Slot} (hl : lv_has ls 3 [(0, .ref (ad 0)), (1, .int x1), (2, .int x2)]) : W p l e { frames := 8, cells := 2 * (z.2.2.2 - c0), slots := 52 * (z.2.2.2 - c0), locals := 238 } s m args below meth c H locs (2 * (M.2.2 - c0)) (52 * (M.2.2 - c0)) (MQ below (aq_i cx_T D cy z0 ad X z.1 z.2) args s (2 * (z.2.2.2 - c0)) (52 * (z.2.2.2 - c0)) (fun q => z0 ≤ q)) (F0 m 18 ls []) := by
  have hx := hC.1
  have hb := hC.2.1
  have hmz : M.2.2 ≤ z.2.2.2 := mo_X11_fits_18 hm18 hf
  unfold f_X11_fits_18 at hf
  refine lv_iload_n hx hb dX11_fits_18 rfl (lv_at hl 2 rfl) ?_
  refine lv_aload_n hx hb dX11_fits_19 rfl (lv_at hl 0 rfl) ?_
  refine rg_p hC hw 0 (Nat.le_of_ble_eq_true rfl) rfl fd_X11_3 wf_X11_35 (q := 14) rfl dX11_fits_20 ?_
  refine rg_i hC hw 14 (Nat.le_of_ble_eq_true rfl) rfl fd_X3_2 wf_X11_144 dX11_fits_23 ?_
  refine lv_icmp_ge (tgt := 62) hx hb dX11_fits_26 (by decide) (fun c3 => ?_) (fun c3 => ?_)
  · rw [if_pos c3] at hf
    refine lv_iload_n hx hb dX11_fits_62 rfl (lv_at hl 1 rfl) ?_
    refine W.widen (k := 2 * (z.2.2.2 - c0)) (n := 52 * (z.2.2.2 - c0)) (by omega) (by omega) ?_
    have hz := Option.some.inj hf
    subst hz
    exact rta_i hC hw dX11_fits_63
  · rw [if_neg c3] at hf
    refine lv_aload_n hx hb dX11_fits_29 rfl (lv_at hl 0 rfl) ?_
    refine rg_p hC hw 0 (Nat.le_of_ble_eq_true rfl) rfl fd_X11_4 wf_X11_44 (q := 19) rfl dX11_fits_30 ?_
    refine lv_iload_n hx hb dX11_fits_33 rfl (lv_at hl 2 rfl) ?_
    obtain ⟨z4, ez4, hf⟩ := bd_e hf
    refine clc_Vi hC hw (c_X6_fitsTo ez4) hd_X6_fitsTo cw_X11_293 (Nat.le_of_ble_eq_true rfl) rfl rfl (rest := []) hl.1 rfl (Nat.le_of_ble_eq_true rfl) ⟨Nat.le_of_ble_eq_true rfl, Nat.le_of_ble_eq_true rfl⟩ ⟨(show 2 * (M.2.2 - c0) ≤ 2 * (z.2.2.2 - c0) by omega), (show 52 * (M.2.2 - c0) ≤ 52 * (z.2.2.2 - c0) by omega)⟩ rfl dX11_fits_34 (fun H locs hw => ?_)
    refine lv_if_eq (tgt := 56) hx hb dX11_fits_37 (by decide) (fun c5 => ?_) (fun c5 => ?_)
    · rw [if_pos c5] at hf
      refine W.widen (k := 2 * (M.2.2 - c0)) (n := 52 * (M.2.2 - c0)) (by omega) (by omega) ?_
      exact k_X11_fits_56 hC (by omega) hq18 hm18 hf hw (lv_sub hl [0, 1, 2] rfl)
    · rw [if_neg c5] at hf
      refine lv_iload_n hx hb dX11_fits_40 rfl (lv_at hl 1 rfl) ?_
      refine lv_if_ne (tgt := 53) hx hb dX11_fits_41 (by decide) (fun c6 => ?_) (fun c6 => ?_)
      · rw [if_neg c6] at hf
        refine W.widen (k := 2 * (M.2.2 - c0)) (n := 52 * (M.2.2 - c0)) (by omega) (by omega) ?_
        exact k_X11_fits_53 hC (by omega) hq18 hm18 hf hw (lv_sub hl [0, 1, 2] rfl)
      · rw [if_pos c6] at hf
        refine lv_aload_n hx hb dX11_fits_44 rfl (lv_at hl 0 rfl) ?_
        refine rg_p hC hw 0 (Nat.le_of_ble_eq_true rfl) rfl fd_X11_1 wf_X11_19 (q := 3) rfl dX11_fits_45 ?_
        refine lv_iload_n hx hb dX11_fits_48 rfl (lv_at hl 2 rfl) ?_
        refine lv_i2l hx hb dX11_fits_49 rfl ?_
        obtain ⟨z7, ez7, hf⟩ := bd_e hf
        have mz7 : M.2.2 ≤ z7.2.2 := mo_X4_add ez7
        refine clc_Vv hC hw (c_X4_add ez7) hd_X4_add cw_X11_214 (Nat.le_of_ble_eq_true rfl) rfl rfl (rest := []) hl.1 rfl (Nat.le_of_ble_eq_true rfl) ⟨Nat.le_of_ble_eq_true rfl, Nat.le_of_ble_eq_true rfl⟩ ⟨(show 2 * (M.2.2 - c0) ≤ 2 * (z.2.2.2 - c0) by omega), (show 52 * (M.2.2 - c0) ≤ 52 * (z.2.2.2 - c0) by omega)⟩ rfl dX11_fits_50 (fun H locs hw => ?_)
        refine W.widen (k := 2 * (z7.2.2 - c0)) (n := 52 * (z7.2.2 - c0)) (by omega) (by omega) ?_
        exact k_X11_fits_53 hC (by omega) hq18 hm18 hf hw (lv_sub hl [0, 1, 2] rfl)
set_option maxRecDepth 100000 in
set_option maxHeartbeats 4000000 in
theorem k_X11_fits_18l {p : Program} {l : Launch} {e : Env} {s : State} {m : MethodId} {args : Array Value} {below : List Frame} {meth : Method} {c : Code} {D : va_G} {cy : Nat → ClassId} {z0 : Nat} {ad : Nat → Nat} {X : va_W} (hC : cx_C p s m args meth c cX11_fits "RhymedThen" (Cond.code yX11_fits cX11_fits 3 (some .int)) 3 (some .int)) {z : (Int32 × mm_M)} {c0 : Nat} : ∀ (n : Nat) (x1 : Int32) (x2 : Int32) (M : mm_M) (u : Nat × Nat) (H : Heap) (locs : List Loc) (ls : Array Slot), c0 ≤ M.2.2 → f_X11_fits_18l n x1 x2 M = some z → wd_in cx_T D cy z0 ad u M X s H locs → lv_has ls 3 [(0, .ref (ad 0)), (1, .int x1), (2, .int x2)] → W p l e { frames := 8, cells := 2 * (z.2.2.2 - c0), slots := 52 * (z.2.2.2 - c0), locals := 238 } s m args below meth c H locs (2 * (M.2.2 - c0)) (52 * (M.2.2 - c0)) (MQ below (aq_i cx_T D cy z0 ad X z.1 z.2) args s (2 * (z.2.2.2 - c0)) (52 * (z.2.2.2 - c0)) (fun q => z0 ≤ q)) (F0 m 18 ls []) := by
  intro n
  induction n with
  | zero => intro x1 x2 M u H locs ls hc0 hf; exact absurd hf (by simp [f_X11_fits_18l])
  | succ n ih => intro x1 x2 M u H locs ls hc0 hf hw hl; exact k_X11_fits_18 hC hc0 ih (mo_X11_fits_18l n) hf hw hl
set_option maxRecDepth 100000 in
set_option maxHeartbeats 4000000 in
theorem k_X11_fits_7 {p : Program} {l : Launch} {e : Env} {s : State} {m : MethodId} {args : Array Value} {below : List Frame} {meth : Method} {c : Code} {D : va_G} {cy : Nat → ClassId} {z0 : Nat} {ad : Nat → Nat} {X : va_W} {u : Nat × Nat} (hC : cx_C p s m args meth c cX11_fits "RhymedThen" (Cond.code yX11_fits cX11_fits 3 (some .int)) 3 (some .int)) {z : (Int32 × mm_M)} {c0 : Nat} {M : mm_M} (hc0 : c0 ≤ M.2.2) (hf : f_X11_fits_7 M = some z) {H : Heap} {locs : List Loc} (hw : wd_in cx_T D cy z0 ad u M X s H locs) {ls : Array Slot} (hl : lv_has ls 3 [(0, .ref (ad 0))]) : W p l e { frames := 8, cells := 2 * (z.2.2.2 - c0), slots := 52 * (z.2.2.2 - c0), locals := 238 } s m args below meth c H locs (2 * (M.2.2 - c0)) (52 * (M.2.2 - c0)) (MQ below (aq_i cx_T D cy z0 ad X z.1 z.2) args s (2 * (z.2.2.2 - c0)) (52 * (z.2.2.2 - c0)) (fun q => z0 ≤ q)) (F0 m 7 ls []) := by
  have hx := hC.1
  have hb := hC.2.1
  have hmz : M.2.2 ≤ z.2.2.2 := mo_X11_fits_7 hf
  unfold f_X11_fits_7 at hf
  refine lv_iconst (v := 0) hx hb dX11_fits_7 (by decide) ?_
  refine lv_istore_n (lv' := [(1, .int 0), (0, .ref (ad 0))]) hx hb dX11_fits_8 rfl hl (by decide) rfl (fun ls hl => ?_)
  refine lv_aload_n hx hb dX11_fits_9 rfl (lv_at hl 1 rfl) ?_
  refine rg_p hC hw 0 (Nat.le_of_ble_eq_true rfl) rfl fd_X11_1 wf_X11_19 (q := 3) rfl dX11_fits_10 ?_
  obtain ⟨z2, ez2, hf⟩ := sq_e hf
  have mz2 : M.2.2 ≤ z2.2.2 := mo_X4_clear ez2.symm
  refine clc_Vv hC hw (c_X4_clear ez2.symm) hd_X4_clear cw_X11_192 (Nat.le_of_ble_eq_true rfl) rfl rfl (rest := []) hl.1 rfl (Nat.le_of_ble_eq_true rfl) ⟨Nat.le_of_ble_eq_true rfl, Nat.le_of_ble_eq_true rfl⟩ ⟨(show 2 * (M.2.2 - c0) ≤ 2 * (z.2.2.2 - c0) by omega), (show 52 * (M.2.2 - c0) ≤ 52 * (z.2.2.2 - c0) by omega)⟩ rfl dX11_fits_13 (fun H locs hw => ?_)
  refine lv_iconst (v := 0) hx hb dX11_fits_16 (by decide) ?_
  refine lv_istore_n (lv' := [(2, .int 0), (1, .int 0), (0, .ref (ad 0))]) hx hb dX11_fits_17 rfl hl (by decide) rfl (fun ls hl => ?_)
  refine W.widen (k := 2 * (z2.2.2 - c0)) (n := 52 * (z2.2.2 - c0)) (by omega) (by omega) ?_
  exact k_X11_fits_18l hC fu_ _ _ _ _ _ _ _ (by omega) hf hw (lv_sub hl [2, 1, 0] rfl)
set_option maxRecDepth 100000 in
set_option maxHeartbeats 4000000 in
theorem k_X11_fits {p : Program} {l : Launch} {e : Env} {s : State} {m : MethodId} {args : Array Value} {below : List Frame} {meth : Method} {c : Code} {D : va_G} {cy : Nat → ClassId} {z0 : Nat} {ad : Nat → Nat} {X : va_W} {u : Nat × Nat} (hC : cx_C p s m args meth c cX11_fits "RhymedThen" (Cond.code yX11_fits cX11_fits 3 (some .int)) 3 (some .int)) {z : (Int32 × mm_M)} {c0 : Nat} {M : mm_M} (hc0 : c0 ≤ M.2.2) (hf : f_X11_fits M = some z) {H : Heap} {locs : List Loc} (hw : wd_in cx_T D cy z0 ad u M X s H locs) {ls : Array Slot} (hl : lv_has ls 3 [(0, .ref (ad 0))]) : W p l e { frames := 8, cells := 2 * (z.2.2.2 - c0), slots := 52 * (z.2.2.2 - c0), locals := 238 } s m args below meth c H locs (2 * (M.2.2 - c0)) (52 * (M.2.2 - c0)) (MQ below (aq_i cx_T D cy z0 ad X z.1 z.2) args s (2 * (z.2.2.2 - c0)) (52 * (z.2.2.2 - c0)) (fun q => z0 ≤ q)) (F0 m 0 ls []) := by
  have hx := hC.1
  have hb := hC.2.1
  have hmz : M.2.2 ≤ z.2.2.2 := mo_X11_fits hf
  unfold f_X11_fits at hf
  refine lv_aload_n hx hb dX11_fits_0 rfl (lv_at hl 0 rfl) ?_
  refine rg_p hC hw 0 (Nat.le_of_ble_eq_true rfl) rfl fd_X11_4 wf_X11_44 (q := 19) rfl dX11_fits_1 ?_
  obtain ⟨z1, ez1, hf⟩ := bd_e hf
  have mz1 : M.2.2 ≤ z1.2.2 := mo_X6_lookAnew ez1
  have hnz : z1.2.2 ≤ z.2.2.2 := mo_X11_fits_7 hf
  refine cla_Vv hC hw (c_X6_lookAnew ez1) hd_X6_lookAnew cw_X11_286 (Nat.le_of_ble_eq_true rfl) rfl rfl (rest := []) hl.1 rfl (Nat.le_of_ble_eq_true rfl) ⟨Nat.le_of_ble_eq_true rfl, Nat.le_of_ble_eq_true rfl⟩ ⟨(show 2 * (M.2.2 - c0) + 2 * (z1.2.2 - M.2.2) ≤ 2 * (z.2.2.2 - c0) by omega), (show 52 * (M.2.2 - c0) + 52 * (z1.2.2 - M.2.2) ≤ 52 * (z.2.2.2 - c0) by omega)⟩ rfl dX11_fits_4 (fun u H locs hw => ?_)
  refine W.widen (k := 2 * (z1.2.2 - c0)) (n := 52 * (z1.2.2 - c0)) (by omega) (by omega) ?_
  exact k_X11_fits_7 hC (by omega) hf hw (lv_sub hl [0] rfl)
set_option maxRecDepth 100000 in
theorem c_X11_fits {l : Launch} {D : va_G} {cy : Nat → ClassId} {z0 : Nat} {ad : Nat → Nat} {u : Nat × Nat} {X : va_W} {z : (Int32 × mm_M)} {M : mm_M} (hf : f_X11_fits M = some z) : ca_i cx_T l yX11_fits (Cond.code yX11_fits cX11_fits 3 (some .int)) 8 238 D cy z0 ad u M X [.ref (ad 0)] z.1 z.2 := by
  refine bga_i (by decide) (fun p e s m below meth c hC hw => ?_)
  refine en_t (Nat.le_of_ble_eq_true rfl) (fun ls hl => ?_)
  have hl : lv_has ls 3 [(0, .ref (ad 0))] := hl
  refine W.widen (k := 2 * (M.2.2 - M.2.2)) (n := 52 * (M.2.2 - M.2.2)) (by omega) (by omega) ?_
  exact k_X11_fits hC (Nat.le_refl _) hf hw hl
set_option maxRecDepth 100000 in
set_option maxHeartbeats 4000000 in
theorem k_X11_further {p : Program} {l : Launch} {e : Env} {s : State} {m : MethodId} {args : Array Value} {below : List Frame} {meth : Method} {c : Code} {T : wd_T} {D : va_G} {cy : Nat → ClassId} {z0 : Nat} {ad : Nat → Nat} {X : va_W} {M : mm_M} {u : Nat × Nat} (hC : cx_C p s m args meth c cX11_further "RhymedThen" (Cond.code yX11_further cX11_further 3 (some .int)) 3 (some .int)) {z : Int32} {x0 : Int32} {x1 : Int32} {x2 : Int32} (hf : f_X11_further x0 x1 x2 = z) {H : Heap} {locs : List Loc} (hw : wd_in T D cy z0 ad u M X s H locs) {ls : Array Slot} (hl : lv_has ls 3 [(0, .int x0), (1, .int x1), (2, .int x2)]) : W p l e { frames := 1, cells := 0, slots := 0, locals := 21 } s m args below meth c H locs 0 0 (MQ below (cq_i T D cy z0 ad u X z M) args s 0 0 (fun q => z0 ≤ q)) (F0 m 0 ls []) := by
  have hx := hC.1
  have hb := hC.2.1
  unfold f_X11_further at hf
  refine lv_iload_n hx hb dX11_further_0 rfl (lv_at hl 0 rfl) ?_
  refine lv_bipush (v := (-2)) hx hb dX11_further_1 (by decide) ?_
  refine lv_icmp_ne (tgt := 8) hx hb dX11_further_3 (by decide) (fun c1 => ?_) (fun c1 => ?_)
  · rw [if_neg c1] at hf
    refine lv_iload_n hx hb dX11_further_8 rfl (lv_at hl 2 rfl) ?_
    refine lv_if_ne (tgt := 20) hx hb dX11_further_9 (by decide) (fun c2 => ?_) (fun c2 => ?_)
    · rw [if_neg c2] at hf
      refine lv_iload_n hx hb dX11_further_20 rfl (lv_at hl 0 rfl) ?_
      refine lv_iload_n hx hb dX11_further_21 rfl (lv_at hl 1 rfl) ?_
      refine mx_max hC (rest := []) wm_X11_182 hl.1 ⟨Nat.le_of_ble_eq_true rfl, Nat.le_of_ble_eq_true rfl⟩ ⟨Nat.zero_le _, Nat.zero_le _⟩ dX11_further_22 ?_
      subst hf
      exact rtc_i hC hw dX11_further_25
    · rw [if_pos c2] at hf
      refine lv_iload_n hx hb dX11_further_12 rfl (lv_at hl 0 rfl) ?_
      refine lv_iload_n hx hb dX11_further_13 rfl (lv_at hl 1 rfl) ?_
      refine mx_min hC (rest := []) wm_X11_177 hl.1 ⟨Nat.le_of_ble_eq_true rfl, Nat.le_of_ble_eq_true rfl⟩ ⟨Nat.zero_le _, Nat.zero_le _⟩ dX11_further_14 ?_
      refine lv_goto (tgt := 25) hx hb dX11_further_17 (by decide) ?_
      subst hf
      exact rtc_i hC hw dX11_further_25
  · rw [if_pos c1] at hf
    refine lv_iload_n hx hb dX11_further_6 rfl (lv_at hl 1 rfl) ?_
    subst hf
    exact rtc_i hC hw dX11_further_7
set_option maxRecDepth 100000 in
theorem c_X11_further {l : Launch} {T : wd_T} {D : va_G} {cy : Nat → ClassId} {z0 : Nat} {ad : Nat → Nat} {u : Nat × Nat} {X : va_W} {z : Int32} {x0 : Int32} {x1 : Int32} {x2 : Int32} {M : mm_M} (hf : f_X11_further x0 x1 x2 = z) : ct_i T l yX11_further (Cond.code yX11_further cX11_further 3 (some .int)) 1 21 D cy z0 ad u M X [.int x0, .int x1, .int x2] z M := by
  refine bgc_i (by decide) (fun p e s m below meth c hC hw => ?_)
  refine en_t (Nat.le_of_ble_eq_true rfl) (fun ls hl => ?_)
  have hl : lv_has ls 3 [(0, .int x0), (1, .int x1), (2, .int x2)] := hl
  exact k_X11_further hC hf hw hl
set_option maxRecDepth 100000 in
set_option maxHeartbeats 4000000 in
theorem k_X11_span_71 {p : Program} {l : Launch} {e : Env} {s : State} {m : MethodId} {args : Array Value} {below : List Frame} {meth : Method} {c : Code} {D : va_G} {cy : Nat → ClassId} {z0 : Nat} {ad : Nat → Nat} {X : va_W} {u : Nat × Nat} (hC : cx_C p s m args meth c cX11_span "RhymedThen" (Cond.code yX11_span cX11_span 5 (some .int)) 5 (some .int)) {z : (Int32 × mm_M)} {c0 : Nat} {x1 : Int32} {x2 : Int32} {x3 : Int32} {x4 : Int32} {M : mm_M} (hc0 : c0 ≤ M.2.2) {q31 : Int32 → Int32 → Int32 → Int32 → mm_M → Option (Int32 × mm_M)} (hq31 : ∀ (x1 : Int32) (x2 : Int32) (x3 : Int32) (x4 : Int32) (M : mm_M) (u : Nat × Nat) (H : Heap) (locs : List Loc) (ls : Array Slot), c0 ≤ M.2.2 → q31 x1 x2 x3 x4 M = some z → wd_in cx_T D cy z0 ad u M X s H locs → lv_has ls 5 [(0, .ref (ad 0)), (1, .int x1), (2, .int x2), (3, .int x3), (4, .int x4)] → W p l e { frames := 8, cells := 2 * (z.2.2.2 - c0), slots := 52 * (z.2.2.2 - c0), locals := 238 } s m args below meth c H locs (2 * (M.2.2 - c0)) (52 * (M.2.2 - c0)) (MQ below (aq_i cx_T D cy z0 ad X z.1 z.2) args s (2 * (z.2.2.2 - c0)) (52 * (z.2.2.2 - c0)) (fun q => z0 ≤ q)) (F0 m 31 ls [])) (hm31 : ∀ (x1 : Int32) (x2 : Int32) (x3 : Int32) (x4 : Int32) (M : mm_M), q31 x1 x2 x3 x4 M = some z → M.2.2 ≤ z.2.2.2) (hf : f_X11_span_71 q31 x1 x2 x3 x4 M = some z) {H : Heap} {locs : List Loc} (hw : wd_in cx_T D cy z0 ad u M X s H locs) {ls : Array Slot} (hl : lv_has ls 5 [(0, .ref (ad 0)), (1, .int x1), (2, .int x2), (3, .int x3), (4, .int x4)]) : W p l e { frames := 8, cells := 2 * (z.2.2.2 - c0), slots := 52 * (z.2.2.2 - c0), locals := 238 } s m args below meth c H locs (2 * (M.2.2 - c0)) (52 * (M.2.2 - c0)) (MQ below (aq_i cx_T D cy z0 ad X z.1 z.2) args s (2 * (z.2.2.2 - c0)) (52 * (z.2.2.2 - c0)) (fun q => z0 ≤ q)) (F0 m 71 ls []) := by
  have hx := hC.1
  have hb := hC.2.1
  have hmz : M.2.2 ≤ z.2.2.2 := mo_X11_span_71 hm31 hf
  unfold f_X11_span_71 at hf
  obtain ⟨y11, ey11, hf⟩ := sq_e hf
  refine lv_iinc (v := y11) (lv' := [(4, .int y11), (0, .ref (ad 0)), (1, .int x1), (2, .int x2), (3, .int x3)]) hx hb dX11_span_71 hl (k := 4) rfl (by rw [ey11]; rfl) (by decide) rfl (fun ls hl => ?_)
  refine lv_goto (tgt := 31) hx hb dX11_span_74 (by decide) ?_
  refine W.widen (k := 2 * (M.2.2 - c0)) (n := 52 * (M.2.2 - c0)) (by omega) (by omega) ?_
  exact hq31 _ _ _ _ _ _ _ _ _ (by omega) hf hw (lv_sub hl [1, 2, 3, 4, 0] rfl)
set_option maxRecDepth 100000 in
set_option maxHeartbeats 4000000 in
theorem k_X11_span_31 {p : Program} {l : Launch} {e : Env} {s : State} {m : MethodId} {args : Array Value} {below : List Frame} {meth : Method} {c : Code} {D : va_G} {cy : Nat → ClassId} {z0 : Nat} {ad : Nat → Nat} {X : va_W} {u : Nat × Nat} (hC : cx_C p s m args meth c cX11_span "RhymedThen" (Cond.code yX11_span cX11_span 5 (some .int)) 5 (some .int)) {z : (Int32 × mm_M)} {c0 : Nat} {x1 : Int32} {x2 : Int32} {x3 : Int32} {x4 : Int32} {M : mm_M} (hc0 : c0 ≤ M.2.2) {q31 : Int32 → Int32 → Int32 → Int32 → mm_M → Option (Int32 × mm_M)} (hq31 : ∀ (x1 : Int32) (x2 : Int32) (x3 : Int32) (x4 : Int32) (M : mm_M) (u : Nat × Nat) (H : Heap) (locs : List Loc) (ls : Array Slot), c0 ≤ M.2.2 → q31 x1 x2 x3 x4 M = some z → wd_in cx_T D cy z0 ad u M X s H locs → lv_has ls 5 [(0, .ref (ad 0)), (1, .int x1), (2, .int x2), (3, .int x3), (4, .int x4)] → W p l e { frames := 8, cells := 2 * (z.2.2.2 - c0), slots := 52 * (z.2.2.2 - c0), locals := 238 } s m args below meth c H locs (2 * (M.2.2 - c0)) (52 * (M.2.2 - c0)) (MQ below (aq_i cx_T D cy z0 ad X z.1 z.2) args s (2 * (z.2.2.2 - c0)) (52 * (z.2.2.2 - c0)) (fun q => z0 ≤ q)) (F0 m 31 ls [])) (hm31 : ∀ (x1 : Int32) (x2 : Int32) (x3 : Int32) (x4 : Int32) (M : mm_M), q31 x1 x2 x3 x4 M = some z → M.2.2 ≤ z.2.2.2) (hf : f_X11_span_31 q31 x1 x2 x3 x4 M = some z) {H : Heap} {locs : List Loc} (hw : wd_in cx_T D cy z0 ad u M X s H locs) {ls : Array Slot} (hl : lv_has ls 5 [(0, .ref (ad 0)), (1, .int x1), (2, .int x2), (3, .int x3), (4, .int x4)]) : W p l e { frames := 8, cells := 2 * (z.2.2.2 - c0), slots := 52 * (z.2.2.2 - c0), locals := 238 } s m args below meth c H locs (2 * (M.2.2 - c0)) (52 * (M.2.2 - c0)) (MQ below (aq_i cx_T D cy z0 ad X z.1 z.2) args s (2 * (z.2.2.2 - c0)) (52 * (z.2.2.2 - c0)) (fun q => z0 ≤ q)) (F0 m 31 ls []) := by
  have hx := hC.1
  have hb := hC.2.1
  have hmz : M.2.2 ≤ z.2.2.2 := mo_X11_span_31 hm31 hf
  unfold f_X11_span_31 at hf
  refine lv_iload hx hb dX11_span_31 (lv_at hl 4 rfl) ?_
  refine lv_aload_n hx hb dX11_span_33 rfl (lv_at hl 0 rfl) ?_
  refine rg_p hC hw 0 (Nat.le_of_ble_eq_true rfl) rfl fd_X11_3 wf_X11_35 (q := 14) rfl dX11_span_34 ?_
  refine rg_i hC hw 14 (Nat.le_of_ble_eq_true rfl) rfl fd_X3_2 wf_X11_144 dX11_span_37 ?_
  refine lv_icmp_ge (tgt := 77) hx hb dX11_span_40 (by decide) (fun c6 => ?_) (fun c6 => ?_)
  · rw [if_pos c6] at hf
    refine lv_iload_n hx hb dX11_span_77 rfl (lv_at hl 3 rfl) ?_
    refine W.widen (k := 2 * (z.2.2.2 - c0)) (n := 52 * (z.2.2.2 - c0)) (by omega) (by omega) ?_
    have hz := Option.some.inj hf
    subst hz
    exact rta_i hC hw dX11_span_78
  · rw [if_neg c6] at hf
    refine lv_aload_n hx hb dX11_span_43 rfl (lv_at hl 0 rfl) ?_
    refine rg_p hC hw 0 (Nat.le_of_ble_eq_true rfl) rfl fd_X11_4 wf_X11_44 (q := 19) rfl dX11_span_44 ?_
    refine lv_iload hx hb dX11_span_47 (lv_at hl 4 rfl) ?_
    obtain ⟨z7, ez7, hf⟩ := bd_e hf
    refine clc_Vi hC hw (c_X6_fitsTo ez7) hd_X6_fitsTo cw_X11_293 (Nat.le_of_ble_eq_true rfl) rfl rfl (rest := []) hl.1 rfl (Nat.le_of_ble_eq_true rfl) ⟨Nat.le_of_ble_eq_true rfl, Nat.le_of_ble_eq_true rfl⟩ ⟨(show 2 * (M.2.2 - c0) ≤ 2 * (z.2.2.2 - c0) by omega), (show 52 * (M.2.2 - c0) ≤ 52 * (z.2.2.2 - c0) by omega)⟩ rfl dX11_span_49 (fun H locs hw => ?_)
    refine lv_if_eq (tgt := 71) hx hb dX11_span_52 (by decide) (fun c8 => ?_) (fun c8 => ?_)
    · rw [if_pos c8] at hf
      refine W.widen (k := 2 * (M.2.2 - c0)) (n := 52 * (M.2.2 - c0)) (by omega) (by omega) ?_
      exact k_X11_span_71 hC (by omega) hq31 hm31 hf hw (lv_sub hl [0, 1, 2, 3, 4] rfl)
    · rw [if_neg c8] at hf
      refine lv_iload_n hx hb dX11_span_55 rfl (lv_at hl 3 rfl) ?_
      refine lv_aload_n hx hb dX11_span_56 rfl (lv_at hl 0 rfl) ?_
      refine rg_p hC hw 0 (Nat.le_of_ble_eq_true rfl) rfl fd_X11_3 wf_X11_35 (q := 14) rfl dX11_span_57 ?_
      refine lv_iload hx hb dX11_span_60 (lv_at hl 4 rfl) ?_
      refine lv_iload_n hx hb dX11_span_62 rfl (lv_at hl 1 rfl) ?_
      obtain ⟨z9, ez9, hf⟩ := bd_e hf
      refine clc_Vi hC hw (c_X3_yearOf ez9) hd_X3_yearOf cw_X11_296 (Nat.le_of_ble_eq_true rfl) rfl rfl (rest := [.int x3]) hl.1 rfl (Nat.le_of_ble_eq_true rfl) ⟨Nat.le_of_ble_eq_true rfl, Nat.le_of_ble_eq_true rfl⟩ ⟨(show 2 * (M.2.2 - c0) ≤ 2 * (z.2.2.2 - c0) by omega), (show 52 * (M.2.2 - c0) ≤ 52 * (z.2.2.2 - c0) by omega)⟩ rfl dX11_span_63 (fun H locs hw => ?_)
      refine lv_iload_n hx hb dX11_span_66 rfl (lv_at hl 2 rfl) ?_
      obtain ⟨z10, ez10, hf⟩ := sq_e hf
      refine clc_Si hC hw (c_X11_further ez10.symm) hd_X11_further cw_X11_299 (rest := []) hl.1 rfl (Nat.le_of_ble_eq_true rfl) ⟨Nat.le_of_ble_eq_true rfl, Nat.le_of_ble_eq_true rfl⟩ ⟨(show 2 * (M.2.2 - c0) ≤ 2 * (z.2.2.2 - c0) by omega), (show 52 * (M.2.2 - c0) ≤ 52 * (z.2.2.2 - c0) by omega)⟩ rfl dX11_span_67 (fun H locs hw => ?_)
      refine lv_istore_n (lv' := [(3, .int z10), (0, .ref (ad 0)), (1, .int x1), (2, .int x2), (4, .int x4)]) hx hb dX11_span_70 rfl hl (by decide) rfl (fun ls hl => ?_)
      refine W.widen (k := 2 * (M.2.2 - c0)) (n := 52 * (M.2.2 - c0)) (by omega) (by omega) ?_
      exact k_X11_span_71 hC (by omega) hq31 hm31 hf hw (lv_sub hl [1, 2, 3, 0, 4] rfl)
set_option maxRecDepth 100000 in
set_option maxHeartbeats 4000000 in
theorem k_X11_span_31l {p : Program} {l : Launch} {e : Env} {s : State} {m : MethodId} {args : Array Value} {below : List Frame} {meth : Method} {c : Code} {D : va_G} {cy : Nat → ClassId} {z0 : Nat} {ad : Nat → Nat} {X : va_W} (hC : cx_C p s m args meth c cX11_span "RhymedThen" (Cond.code yX11_span cX11_span 5 (some .int)) 5 (some .int)) {z : (Int32 × mm_M)} {c0 : Nat} : ∀ (n : Nat) (x1 : Int32) (x2 : Int32) (x3 : Int32) (x4 : Int32) (M : mm_M) (u : Nat × Nat) (H : Heap) (locs : List Loc) (ls : Array Slot), c0 ≤ M.2.2 → f_X11_span_31l n x1 x2 x3 x4 M = some z → wd_in cx_T D cy z0 ad u M X s H locs → lv_has ls 5 [(0, .ref (ad 0)), (1, .int x1), (2, .int x2), (3, .int x3), (4, .int x4)] → W p l e { frames := 8, cells := 2 * (z.2.2.2 - c0), slots := 52 * (z.2.2.2 - c0), locals := 238 } s m args below meth c H locs (2 * (M.2.2 - c0)) (52 * (M.2.2 - c0)) (MQ below (aq_i cx_T D cy z0 ad X z.1 z.2) args s (2 * (z.2.2.2 - c0)) (52 * (z.2.2.2 - c0)) (fun q => z0 ≤ q)) (F0 m 31 ls []) := by
  intro n
  induction n with
  | zero => intro x1 x2 x3 x4 M u H locs ls hc0 hf; exact absurd hf (by simp [f_X11_span_31l])
  | succ n ih => intro x1 x2 x3 x4 M u H locs ls hc0 hf hw hl; exact k_X11_span_31 hC hc0 ih (mo_X11_span_31l n) hf hw hl
set_option maxRecDepth 100000 in
set_option maxHeartbeats 4000000 in
theorem k_X11_span_25 {p : Program} {l : Launch} {e : Env} {s : State} {m : MethodId} {args : Array Value} {below : List Frame} {meth : Method} {c : Code} {D : va_G} {cy : Nat → ClassId} {z0 : Nat} {ad : Nat → Nat} {X : va_W} {u : Nat × Nat} (hC : cx_C p s m args meth c cX11_span "RhymedThen" (Cond.code yX11_span cX11_span 5 (some .int)) 5 (some .int)) {z : (Int32 × mm_M)} {c0 : Nat} {x1 : Int32} {x2 : Int32} {M : mm_M} (hc0 : c0 ≤ M.2.2) (hf : f_X11_span_25 x1 x2 M = some z) {H : Heap} {locs : List Loc} (hw : wd_in cx_T D cy z0 ad u M X s H locs) {ls : Array Slot} (hl : lv_has ls 5 [(0, .ref (ad 0)), (1, .int x1), (2, .int x2)]) : W p l e { frames := 8, cells := 2 * (z.2.2.2 - c0), slots := 52 * (z.2.2.2 - c0), locals := 238 } s m args below meth c H locs (2 * (M.2.2 - c0)) (52 * (M.2.2 - c0)) (MQ below (aq_i cx_T D cy z0 ad X z.1 z.2) args s (2 * (z.2.2.2 - c0)) (52 * (z.2.2.2 - c0)) (fun q => z0 ≤ q)) (F0 m 25 ls []) := by
  have hx := hC.1
  have hb := hC.2.1
  have hmz : M.2.2 ≤ z.2.2.2 := mo_X11_span_25 hf
  unfold f_X11_span_25 at hf
  refine lv_bipush (v := (-2)) hx hb dX11_span_25 (by decide) ?_
  refine lv_istore_n (lv' := [(3, .int (-2)), (0, .ref (ad 0)), (1, .int x1), (2, .int x2)]) hx hb dX11_span_27 rfl hl (by decide) rfl (fun ls hl => ?_)
  refine lv_iconst (v := 0) hx hb dX11_span_28 (by decide) ?_
  refine lv_istore (lv' := [(4, .int 0), (3, .int (-2)), (0, .ref (ad 0)), (1, .int x1), (2, .int x2)]) hx hb dX11_span_29 hl (by decide) rfl (fun ls hl => ?_)
  refine W.widen (k := 2 * (M.2.2 - c0)) (n := 52 * (M.2.2 - c0)) (by omega) (by omega) ?_
  exact k_X11_span_31l hC fu_ _ _ _ _ _ _ _ _ _ (by omega) hf hw (lv_sub hl [2, 3, 4, 1, 0] rfl)
set_option maxRecDepth 100000 in
set_option maxHeartbeats 4000000 in
theorem k_X11_span {p : Program} {l : Launch} {e : Env} {s : State} {m : MethodId} {args : Array Value} {below : List Frame} {meth : Method} {c : Code} {D : va_G} {cy : Nat → ClassId} {z0 : Nat} {ad : Nat → Nat} {X : va_W} {u : Nat × Nat} (hC : cx_C p s m args meth c cX11_span "RhymedThen" (Cond.code yX11_span cX11_span 5 (some .int)) 5 (some .int)) {z : (Int32 × mm_M)} {c0 : Nat} {x1 : Int32} {x2 : Int32} {M : mm_M} (hc0 : c0 ≤ M.2.2) (hf : f_X11_span x1 x2 M = some z) {H : Heap} {locs : List Loc} (hw : wd_in cx_T D cy z0 ad u M X s H locs) {ls : Array Slot} (hl : lv_has ls 5 [(0, .ref (ad 0)), (1, .int x1), (2, .int x2)]) : W p l e { frames := 8, cells := 2 * (z.2.2.2 - c0), slots := 52 * (z.2.2.2 - c0), locals := 238 } s m args below meth c H locs (2 * (M.2.2 - c0)) (52 * (M.2.2 - c0)) (MQ below (aq_i cx_T D cy z0 ad X z.1 z.2) args s (2 * (z.2.2.2 - c0)) (52 * (z.2.2.2 - c0)) (fun q => z0 ≤ q)) (F0 m 0 ls []) := by
  have hx := hC.1
  have hb := hC.2.1
  have hmz : M.2.2 ≤ z.2.2.2 := mo_X11_span hf
  unfold f_X11_span at hf
  refine lv_aload_n hx hb dX11_span_0 rfl (lv_at hl 0 rfl) ?_
  refine lv_iload_n hx hb dX11_span_1 rfl (lv_at hl 1 rfl) ?_
  obtain ⟨z1, ez1, hf⟩ := sq_e hf
  refine clc_Vi hC hw (c_X11_isLaw ez1.symm) hd_X11_isLaw cw_X11_235 (Nat.le_of_ble_eq_true rfl) rfl rfl (rest := []) hl.1 rfl (Nat.le_of_ble_eq_true rfl) ⟨Nat.le_of_ble_eq_true rfl, Nat.le_of_ble_eq_true rfl⟩ ⟨(show 2 * (M.2.2 - c0) ≤ 2 * (z.2.2.2 - c0) by omega), (show 52 * (M.2.2 - c0) ≤ 52 * (z.2.2.2 - c0) by omega)⟩ rfl dX11_span_2 (fun H locs hw => ?_)
  refine lv_if_eq (tgt := 16) hx hb dX11_span_5 (by decide) (fun c2 => ?_) (fun c2 => ?_)
  · rw [if_pos c2] at hf
    refine lv_iconst (v := (-1)) hx hb dX11_span_16 (by decide) ?_
    refine W.widen (k := 2 * (z.2.2.2 - c0)) (n := 52 * (z.2.2.2 - c0)) (by omega) (by omega) ?_
    have hz := Option.some.inj hf
    subst hz
    exact rta_i hC hw dX11_span_17
  · rw [if_neg c2] at hf
    refine lv_iload_n hx hb dX11_span_8 rfl (lv_at hl 2 rfl) ?_
    refine lv_iconst (v := 2) hx hb dX11_span_9 (by decide) ?_
    obtain ⟨z3, ez3, hf⟩ := sq_e hf
    refine clc_Si hC hw (c_X11_isBelow ez3.symm) hd_X11_isBelow cw_X11_101 (rest := []) hl.1 rfl (Nat.le_of_ble_eq_true rfl) ⟨Nat.le_of_ble_eq_true rfl, Nat.le_of_ble_eq_true rfl⟩ ⟨(show 2 * (M.2.2 - c0) ≤ 2 * (z.2.2.2 - c0) by omega), (show 52 * (M.2.2 - c0) ≤ 52 * (z.2.2.2 - c0) by omega)⟩ rfl dX11_span_10 (fun H locs hw => ?_)
    refine lv_if_ne (tgt := 18) hx hb dX11_span_13 (by decide) (fun c4 => ?_) (fun c4 => ?_)
    · rw [if_neg c4] at hf
      refine lv_aload_n hx hb dX11_span_18 rfl (lv_at hl 0 rfl) ?_
      refine rg_p hC hw 0 (Nat.le_of_ble_eq_true rfl) rfl fd_X11_4 wf_X11_44 (q := 19) rfl dX11_span_19 ?_
      obtain ⟨z5, ez5, hf⟩ := bd_e hf
      have mz5 : M.2.2 ≤ z5.2.2 := mo_X6_lookAnew ez5
      have hnz : z5.2.2 ≤ z.2.2.2 := mo_X11_span_25 hf
      refine cla_Vv hC hw (c_X6_lookAnew ez5) hd_X6_lookAnew cw_X11_286 (Nat.le_of_ble_eq_true rfl) rfl rfl (rest := []) hl.1 rfl (Nat.le_of_ble_eq_true rfl) ⟨Nat.le_of_ble_eq_true rfl, Nat.le_of_ble_eq_true rfl⟩ ⟨(show 2 * (M.2.2 - c0) + 2 * (z5.2.2 - M.2.2) ≤ 2 * (z.2.2.2 - c0) by omega), (show 52 * (M.2.2 - c0) + 52 * (z5.2.2 - M.2.2) ≤ 52 * (z.2.2.2 - c0) by omega)⟩ rfl dX11_span_22 (fun u H locs hw => ?_)
      refine W.widen (k := 2 * (z5.2.2 - c0)) (n := 52 * (z5.2.2 - c0)) (by omega) (by omega) ?_
      exact k_X11_span_25 hC (by omega) hf hw (lv_sub hl [0, 1, 2] rfl)
    · rw [if_pos c4] at hf
      refine lv_iconst (v := (-1)) hx hb dX11_span_16 (by decide) ?_
      refine W.widen (k := 2 * (z.2.2.2 - c0)) (n := 52 * (z.2.2.2 - c0)) (by omega) (by omega) ?_
      have hz := Option.some.inj hf
      subst hz
      exact rta_i hC hw dX11_span_17
set_option maxRecDepth 100000 in
theorem c_X11_span {l : Launch} {D : va_G} {cy : Nat → ClassId} {z0 : Nat} {ad : Nat → Nat} {u : Nat × Nat} {X : va_W} {z : (Int32 × mm_M)} {x1 : Int32} {x2 : Int32} {M : mm_M} (hf : f_X11_span x1 x2 M = some z) : ca_i cx_T l yX11_span (Cond.code yX11_span cX11_span 5 (some .int)) 8 238 D cy z0 ad u M X [.ref (ad 0), .int x1, .int x2] z.1 z.2 := by
  refine bga_i (by decide) (fun p e s m below meth c hC hw => ?_)
  refine en_t (Nat.le_of_ble_eq_true rfl) (fun ls hl => ?_)
  have hl : lv_has ls 5 [(0, .ref (ad 0)), (1, .int x1), (2, .int x2)] := hl
  refine W.widen (k := 2 * (M.2.2 - M.2.2)) (n := 52 * (M.2.2 - M.2.2)) (by omega) (by omega) ?_
  exact k_X11_span hC (Nat.le_refl _) hf hw hl
set_option maxRecDepth 100000 in
set_option maxHeartbeats 4000000 in
theorem k_X11_order_98 {p : Program} {l : Launch} {e : Env} {s : State} {m : MethodId} {args : Array Value} {below : List Frame} {meth : Method} {c : Code} {D : va_G} {cy : Nat → ClassId} {z0 : Nat} {ad : Nat → Nat} {X : va_W} {u : Nat × Nat} (hC : cx_C p s m args meth c cX11_order "RhymedThen" (Cond.code yX11_order cX11_order 6 (some .int)) 6 (some .int)) {z : (Int32 × mm_M)} {c0 : Nat} {x1 : Int32} {x2 : Int32} {x3 : Int32} {x4 : Int32} {x5 : Int32} {M : mm_M} (hc0 : c0 ≤ M.2.2) {q38 : Int32 → Int32 → Int32 → Int32 → Int32 → mm_M → Option (Int32 × mm_M)} (hq38 : ∀ (x1 : Int32) (x2 : Int32) (x3 : Int32) (x4 : Int32) (x5 : Int32) (M : mm_M) (u : Nat × Nat) (H : Heap) (locs : List Loc) (ls : Array Slot), c0 ≤ M.2.2 → q38 x1 x2 x3 x4 x5 M = some z → wd_in cx_T D cy z0 ad u M X s H locs → lv_has ls 6 [(0, .ref (ad 0)), (1, .int x1), (2, .int x2), (3, .int x3), (4, .int x4), (5, .int x5)] → W p l e { frames := 8, cells := 2 * (z.2.2.2 - c0), slots := 52 * (z.2.2.2 - c0), locals := 238 } s m args below meth c H locs (2 * (M.2.2 - c0)) (52 * (M.2.2 - c0)) (MQ below (aq_i cx_T D cy z0 ad X z.1 z.2) args s (2 * (z.2.2.2 - c0)) (52 * (z.2.2.2 - c0)) (fun q => z0 ≤ q)) (F0 m 38 ls [])) (hm38 : ∀ (x1 : Int32) (x2 : Int32) (x3 : Int32) (x4 : Int32) (x5 : Int32) (M : mm_M), q38 x1 x2 x3 x4 x5 M = some z → M.2.2 ≤ z.2.2.2) (hf : f_X11_order_98 q38 x1 x2 x3 x4 x5 M = some z) {H : Heap} {locs : List Loc} (hw : wd_in cx_T D cy z0 ad u M X s H locs) {ls : Array Slot} (hl : lv_has ls 6 [(0, .ref (ad 0)), (1, .int x1), (2, .int x2), (3, .int x3), (4, .int x4), (5, .int x5)]) : W p l e { frames := 8, cells := 2 * (z.2.2.2 - c0), slots := 52 * (z.2.2.2 - c0), locals := 238 } s m args below meth c H locs (2 * (M.2.2 - c0)) (52 * (M.2.2 - c0)) (MQ below (aq_i cx_T D cy z0 ad X z.1 z.2) args s (2 * (z.2.2.2 - c0)) (52 * (z.2.2.2 - c0)) (fun q => z0 ≤ q)) (F0 m 98 ls []) := by
  have hx := hC.1
  have hb := hC.2.1
  have hmz : M.2.2 ≤ z.2.2.2 := mo_X11_order_98 hm38 hf
  unfold f_X11_order_98 at hf
  obtain ⟨y17, ey17, hf⟩ := sq_e hf
  refine lv_iinc (v := y17) (lv' := [(5, .int y17), (0, .ref (ad 0)), (1, .int x1), (2, .int x2), (3, .int x3), (4, .int x4)]) hx hb dX11_order_98 hl (k := 5) rfl (by rw [ey17]; rfl) (by decide) rfl (fun ls hl => ?_)
  refine lv_goto (tgt := 38) hx hb dX11_order_101 (by decide) ?_
  refine W.widen (k := 2 * (M.2.2 - c0)) (n := 52 * (M.2.2 - c0)) (by omega) (by omega) ?_
  exact hq38 _ _ _ _ _ _ _ _ _ _ (by omega) hf hw (lv_sub hl [1, 2, 3, 4, 5, 0] rfl)
set_option maxRecDepth 100000 in
set_option maxHeartbeats 4000000 in
theorem k_X11_order_95 {p : Program} {l : Launch} {e : Env} {s : State} {m : MethodId} {args : Array Value} {below : List Frame} {meth : Method} {c : Code} {D : va_G} {cy : Nat → ClassId} {z0 : Nat} {ad : Nat → Nat} {X : va_W} {u : Nat × Nat} (hC : cx_C p s m args meth c cX11_order "RhymedThen" (Cond.code yX11_order cX11_order 6 (some .int)) 6 (some .int)) {z : (Int32 × mm_M)} {c0 : Nat} {x1 : Int32} {x2 : Int32} {x3 : Int32} {x5 : Int32} {t0 : Int32} {t1 : Int32} {M : mm_M} (hc0 : c0 ≤ M.2.2) {q38 : Int32 → Int32 → Int32 → Int32 → Int32 → mm_M → Option (Int32 × mm_M)} (hq38 : ∀ (x1 : Int32) (x2 : Int32) (x3 : Int32) (x4 : Int32) (x5 : Int32) (M : mm_M) (u : Nat × Nat) (H : Heap) (locs : List Loc) (ls : Array Slot), c0 ≤ M.2.2 → q38 x1 x2 x3 x4 x5 M = some z → wd_in cx_T D cy z0 ad u M X s H locs → lv_has ls 6 [(0, .ref (ad 0)), (1, .int x1), (2, .int x2), (3, .int x3), (4, .int x4), (5, .int x5)] → W p l e { frames := 8, cells := 2 * (z.2.2.2 - c0), slots := 52 * (z.2.2.2 - c0), locals := 238 } s m args below meth c H locs (2 * (M.2.2 - c0)) (52 * (M.2.2 - c0)) (MQ below (aq_i cx_T D cy z0 ad X z.1 z.2) args s (2 * (z.2.2.2 - c0)) (52 * (z.2.2.2 - c0)) (fun q => z0 ≤ q)) (F0 m 38 ls [])) (hm38 : ∀ (x1 : Int32) (x2 : Int32) (x3 : Int32) (x4 : Int32) (x5 : Int32) (M : mm_M), q38 x1 x2 x3 x4 x5 M = some z → M.2.2 ≤ z.2.2.2) (hf : f_X11_order_95 q38 x1 x2 x3 x5 t0 t1 M = some z) {H : Heap} {locs : List Loc} (hw : wd_in cx_T D cy z0 ad u M X s H locs) {ls : Array Slot} (hl : lv_has ls 6 [(0, .ref (ad 0)), (1, .int x1), (2, .int x2), (3, .int x3), (5, .int x5)]) : W p l e { frames := 8, cells := 2 * (z.2.2.2 - c0), slots := 52 * (z.2.2.2 - c0), locals := 238 } s m args below meth c H locs (2 * (M.2.2 - c0)) (52 * (M.2.2 - c0)) (MQ below (aq_i cx_T D cy z0 ad X z.1 z.2) args s (2 * (z.2.2.2 - c0)) (52 * (z.2.2.2 - c0)) (fun q => z0 ≤ q)) (F0 m 95 ls [.int t1, .int t0]) := by
  have hx := hC.1
  have hb := hC.2.1
  have hmz : M.2.2 ≤ z.2.2.2 := mo_X11_order_95 hm38 hf
  unfold f_X11_order_95 at hf
  refine lv_iadd hx hb dX11_order_95 ?_
  obtain ⟨y18, ey18, hf⟩ := sq_e hf
  refine lt_i ey18 ?_
  refine lv_istore (lv' := [(4, .int y18), (0, .ref (ad 0)), (1, .int x1), (2, .int x2), (3, .int x3), (5, .int x5)]) hx hb dX11_order_96 hl (by decide) rfl (fun ls hl => ?_)
  refine W.widen (k := 2 * (M.2.2 - c0)) (n := 52 * (M.2.2 - c0)) (by omega) (by omega) ?_
  exact k_X11_order_98 hC (by omega) hq38 hm38 hf hw (lv_sub hl [1, 2, 3, 4, 0, 5] rfl)
set_option maxRecDepth 100000 in
set_option maxHeartbeats 4000000 in
theorem k_X11_order_104 {p : Program} {l : Launch} {e : Env} {s : State} {m : MethodId} {args : Array Value} {below : List Frame} {meth : Method} {c : Code} {D : va_G} {cy : Nat → ClassId} {z0 : Nat} {ad : Nat → Nat} {X : va_W} {u : Nat × Nat} (hC : cx_C p s m args meth c cX11_order "RhymedThen" (Cond.code yX11_order cX11_order 6 (some .int)) 6 (some .int)) {z : (Int32 × mm_M)} {c0 : Nat} {x3 : Int32} {x4 : Int32} {M : mm_M} (hc0 : c0 ≤ M.2.2) (hf : f_X11_order_104 x3 x4 M = some z) {H : Heap} {locs : List Loc} (hw : wd_in cx_T D cy z0 ad u M X s H locs) {ls : Array Slot} (hl : lv_has ls 6 [(3, .int x3), (4, .int x4)]) : W p l e { frames := 8, cells := 2 * (z.2.2.2 - c0), slots := 52 * (z.2.2.2 - c0), locals := 238 } s m args below meth c H locs (2 * (M.2.2 - c0)) (52 * (M.2.2 - c0)) (MQ below (aq_i cx_T D cy z0 ad X z.1 z.2) args s (2 * (z.2.2.2 - c0)) (52 * (z.2.2.2 - c0)) (fun q => z0 ≤ q)) (F0 m 104 ls []) := by
  have hx := hC.1
  have hb := hC.2.1
  have hmz : M.2.2 ≤ z.2.2.2 := mo_X11_order_104 hf
  unfold f_X11_order_104 at hf
  refine lv_iload_n hx hb dX11_order_104 rfl (lv_at hl 0 rfl) ?_
  refine lv_if_ne (tgt := 111) hx hb dX11_order_105 (by decide) (fun c14 => ?_) (fun c14 => ?_)
  · rw [if_neg c14] at hf
    refine lv_iload hx hb dX11_order_111 (lv_at hl 1 rfl) ?_
    refine lv_iload_n hx hb dX11_order_113 rfl (lv_at hl 0 rfl) ?_
    refine lv_icmp_ne (tgt := 121) hx hb dX11_order_114 (by decide) (fun c15 => ?_) (fun c15 => ?_)
    · rw [if_neg c15] at hf
      refine lv_iload hx hb dX11_order_121 (lv_at hl 1 rfl) ?_
      refine lv_if_ne (tgt := 130) hx hb dX11_order_123 (by decide) (fun c16 => ?_) (fun c16 => ?_)
      · rw [if_neg c16] at hf
        refine lv_iconst (v := 0) hx hb dX11_order_130 (by decide) ?_
        refine W.widen (k := 2 * (z.2.2.2 - c0)) (n := 52 * (z.2.2.2 - c0)) (by omega) (by omega) ?_
        have hz := Option.some.inj hf
        subst hz
        exact rta_i hC hw dX11_order_131
      · rw [if_pos c16] at hf
        refine lv_iconst (v := 2) hx hb dX11_order_126 (by decide) ?_
        refine lv_goto (tgt := 131) hx hb dX11_order_127 (by decide) ?_
        refine W.widen (k := 2 * (z.2.2.2 - c0)) (n := 52 * (z.2.2.2 - c0)) (by omega) (by omega) ?_
        have hz := Option.some.inj hf
        subst hz
        exact rta_i hC hw dX11_order_131
    · rw [if_pos c15] at hf
      refine lv_iconst (v := 1) hx hb dX11_order_117 (by decide) ?_
      refine lv_goto (tgt := 131) hx hb dX11_order_118 (by decide) ?_
      refine W.widen (k := 2 * (z.2.2.2 - c0)) (n := 52 * (z.2.2.2 - c0)) (by omega) (by omega) ?_
      have hz := Option.some.inj hf
      subst hz
      exact rta_i hC hw dX11_order_131
  · rw [if_pos c14] at hf
    refine lv_bipush (v := (-2)) hx hb dX11_order_108 (by decide) ?_
    refine W.widen (k := 2 * (z.2.2.2 - c0)) (n := 52 * (z.2.2.2 - c0)) (by omega) (by omega) ?_
    have hz := Option.some.inj hf
    subst hz
    exact rta_i hC hw dX11_order_110
set_option maxRecDepth 100000 in
set_option maxHeartbeats 4000000 in
theorem k_X11_order_38 {p : Program} {l : Launch} {e : Env} {s : State} {m : MethodId} {args : Array Value} {below : List Frame} {meth : Method} {c : Code} {D : va_G} {cy : Nat → ClassId} {z0 : Nat} {ad : Nat → Nat} {X : va_W} {u : Nat × Nat} (hC : cx_C p s m args meth c cX11_order "RhymedThen" (Cond.code yX11_order cX11_order 6 (some .int)) 6 (some .int)) {z : (Int32 × mm_M)} {c0 : Nat} {x1 : Int32} {x2 : Int32} {x3 : Int32} {x4 : Int32} {x5 : Int32} {M : mm_M} (hc0 : c0 ≤ M.2.2) {q38 : Int32 → Int32 → Int32 → Int32 → Int32 → mm_M → Option (Int32 × mm_M)} (hq38 : ∀ (x1 : Int32) (x2 : Int32) (x3 : Int32) (x4 : Int32) (x5 : Int32) (M : mm_M) (u : Nat × Nat) (H : Heap) (locs : List Loc) (ls : Array Slot), c0 ≤ M.2.2 → q38 x1 x2 x3 x4 x5 M = some z → wd_in cx_T D cy z0 ad u M X s H locs → lv_has ls 6 [(0, .ref (ad 0)), (1, .int x1), (2, .int x2), (3, .int x3), (4, .int x4), (5, .int x5)] → W p l e { frames := 8, cells := 2 * (z.2.2.2 - c0), slots := 52 * (z.2.2.2 - c0), locals := 238 } s m args below meth c H locs (2 * (M.2.2 - c0)) (52 * (M.2.2 - c0)) (MQ below (aq_i cx_T D cy z0 ad X z.1 z.2) args s (2 * (z.2.2.2 - c0)) (52 * (z.2.2.2 - c0)) (fun q => z0 ≤ q)) (F0 m 38 ls [])) (hm38 : ∀ (x1 : Int32) (x2 : Int32) (x3 : Int32) (x4 : Int32) (x5 : Int32) (M : mm_M), q38 x1 x2 x3 x4 x5 M = some z → M.2.2 ≤ z.2.2.2) (hf : f_X11_order_38 q38 x1 x2 x3 x4 x5 M = some z) {H : Heap} {locs : List Loc} (hw : wd_in cx_T D cy z0 ad u M X s H locs) {ls : Array Slot} (hl : lv_has ls 6 [(0, .ref (ad 0)), (1, .int x1), (2, .int x2), (3, .int x3), (4, .int x4), (5, .int x5)]) : W p l e { frames := 8, cells := 2 * (z.2.2.2 - c0), slots := 52 * (z.2.2.2 - c0), locals := 238 } s m args below meth c H locs (2 * (M.2.2 - c0)) (52 * (M.2.2 - c0)) (MQ below (aq_i cx_T D cy z0 ad X z.1 z.2) args s (2 * (z.2.2.2 - c0)) (52 * (z.2.2.2 - c0)) (fun q => z0 ≤ q)) (F0 m 38 ls []) := by
  have hx := hC.1
  have hb := hC.2.1
  have hmz : M.2.2 ≤ z.2.2.2 := mo_X11_order_38 hm38 hf
  unfold f_X11_order_38 at hf
  refine lv_iload hx hb dX11_order_38 (lv_at hl 5 rfl) ?_
  refine lv_aload_n hx hb dX11_order_40 rfl (lv_at hl 0 rfl) ?_
  refine rg_p hC hw 0 (Nat.le_of_ble_eq_true rfl) rfl fd_X11_3 wf_X11_35 (q := 14) rfl dX11_order_41 ?_
  refine rg_i hC hw 14 (Nat.le_of_ble_eq_true rfl) rfl fd_X3_2 wf_X11_144 dX11_order_44 ?_
  refine lv_icmp_ge (tgt := 104) hx hb dX11_order_47 (by decide) (fun c7 => ?_) (fun c7 => ?_)
  · rw [if_pos c7] at hf
    refine W.widen (k := 2 * (M.2.2 - c0)) (n := 52 * (M.2.2 - c0)) (by omega) (by omega) ?_
    exact k_X11_order_104 hC (by omega) hf hw (lv_sub hl [3, 4] rfl)
  · rw [if_neg c7] at hf
    refine lv_aload_n hx hb dX11_order_50 rfl (lv_at hl 0 rfl) ?_
    refine rg_p hC hw 0 (Nat.le_of_ble_eq_true rfl) rfl fd_X11_4 wf_X11_44 (q := 19) rfl dX11_order_51 ?_
    refine lv_iload hx hb dX11_order_54 (lv_at hl 5 rfl) ?_
    obtain ⟨z8, ez8, hf⟩ := bd_e hf
    refine clc_Vi hC hw (c_X6_fitsTo ez8) hd_X6_fitsTo cw_X11_293 (Nat.le_of_ble_eq_true rfl) rfl rfl (rest := []) hl.1 rfl (Nat.le_of_ble_eq_true rfl) ⟨Nat.le_of_ble_eq_true rfl, Nat.le_of_ble_eq_true rfl⟩ ⟨(show 2 * (M.2.2 - c0) ≤ 2 * (z.2.2.2 - c0) by omega), (show 52 * (M.2.2 - c0) ≤ 52 * (z.2.2.2 - c0) by omega)⟩ rfl dX11_order_56 (fun H locs hw => ?_)
    refine lv_if_eq (tgt := 98) hx hb dX11_order_59 (by decide) (fun c9 => ?_) (fun c9 => ?_)
    · rw [if_pos c9] at hf
      refine W.widen (k := 2 * (M.2.2 - c0)) (n := 52 * (M.2.2 - c0)) (by omega) (by omega) ?_
      exact k_X11_order_98 hC (by omega) hq38 hm38 hf hw (lv_sub hl [0, 1, 2, 3, 4, 5] rfl)
    · rw [if_neg c9] at hf
      obtain ⟨y10, ey10, hf⟩ := sq_e hf
      refine lv_iinc (v := y10) (lv' := [(3, .int y10), (0, .ref (ad 0)), (1, .int x1), (2, .int x2), (4, .int x4), (5, .int x5)]) hx hb dX11_order_62 hl (k := 3) rfl (by rw [ey10]; rfl) (by decide) rfl (fun ls hl => ?_)
      refine lv_iload hx hb dX11_order_65 (lv_at hl 4 rfl) ?_
      refine lv_aload_n hx hb dX11_order_67 rfl (lv_at hl 1 rfl) ?_
      refine rg_p hC hw 0 (Nat.le_of_ble_eq_true rfl) rfl fd_X11_3 wf_X11_35 (q := 14) rfl dX11_order_68 ?_
      refine lv_iload hx hb dX11_order_71 (lv_at hl 5 rfl) ?_
      refine lv_iload_n hx hb dX11_order_73 rfl (lv_at hl 2 rfl) ?_
      obtain ⟨z11, ez11, hf⟩ := bd_e hf
      refine clc_Vi hC hw (c_X3_turnOf ez11) hd_X3_turnOf cw_X11_302 (Nat.le_of_ble_eq_true rfl) rfl rfl (rest := [.int x4]) hl.1 rfl (Nat.le_of_ble_eq_true rfl) ⟨Nat.le_of_ble_eq_true rfl, Nat.le_of_ble_eq_true rfl⟩ ⟨(show 2 * (M.2.2 - c0) ≤ 2 * (z.2.2.2 - c0) by omega), (show 52 * (M.2.2 - c0) ≤ 52 * (z.2.2.2 - c0) by omega)⟩ rfl dX11_order_74 (fun H locs hw => ?_)
      refine lv_aload_n hx hb dX11_order_77 rfl (lv_at hl 1 rfl) ?_
      refine rg_p hC hw 0 (Nat.le_of_ble_eq_true rfl) rfl fd_X11_3 wf_X11_35 (q := 14) rfl dX11_order_78 ?_
      refine lv_iload hx hb dX11_order_81 (lv_at hl 5 rfl) ?_
      refine lv_iload_n hx hb dX11_order_83 rfl (lv_at hl 3 rfl) ?_
      obtain ⟨z12, ez12, hf⟩ := bd_e hf
      refine clc_Vi hC hw (c_X3_turnOf ez12) hd_X3_turnOf cw_X11_302 (Nat.le_of_ble_eq_true rfl) rfl rfl (rest := [.int z11, .int x4]) hl.1 rfl (Nat.le_of_ble_eq_true rfl) ⟨Nat.le_of_ble_eq_true rfl, Nat.le_of_ble_eq_true rfl⟩ ⟨(show 2 * (M.2.2 - c0) ≤ 2 * (z.2.2.2 - c0) by omega), (show 52 * (M.2.2 - c0) ≤ 52 * (z.2.2.2 - c0) by omega)⟩ rfl dX11_order_84 (fun H locs hw => ?_)
      refine lv_icmp_ge (tgt := 94) hx hb dX11_order_87 (by decide) (fun c13 => ?_) (fun c13 => ?_)
      · rw [if_pos c13] at hf
        refine lv_iconst (v := 0) hx hb dX11_order_94 (by decide) ?_
        refine W.widen (k := 2 * (M.2.2 - c0)) (n := 52 * (M.2.2 - c0)) (by omega) (by omega) ?_
        exact k_X11_order_95 hC (by omega) hq38 hm38 hf hw (lv_sub hl [1, 2, 3, 0, 5] rfl)
      · rw [if_neg c13] at hf
        refine lv_iconst (v := 1) hx hb dX11_order_90 (by decide) ?_
        refine lv_goto (tgt := 95) hx hb dX11_order_91 (by decide) ?_
        refine W.widen (k := 2 * (M.2.2 - c0)) (n := 52 * (M.2.2 - c0)) (by omega) (by omega) ?_
        exact k_X11_order_95 hC (by omega) hq38 hm38 hf hw (lv_sub hl [1, 2, 3, 0, 5] rfl)
set_option maxRecDepth 100000 in
set_option maxHeartbeats 4000000 in
theorem k_X11_order_38l {p : Program} {l : Launch} {e : Env} {s : State} {m : MethodId} {args : Array Value} {below : List Frame} {meth : Method} {c : Code} {D : va_G} {cy : Nat → ClassId} {z0 : Nat} {ad : Nat → Nat} {X : va_W} (hC : cx_C p s m args meth c cX11_order "RhymedThen" (Cond.code yX11_order cX11_order 6 (some .int)) 6 (some .int)) {z : (Int32 × mm_M)} {c0 : Nat} : ∀ (n : Nat) (x1 : Int32) (x2 : Int32) (x3 : Int32) (x4 : Int32) (x5 : Int32) (M : mm_M) (u : Nat × Nat) (H : Heap) (locs : List Loc) (ls : Array Slot), c0 ≤ M.2.2 → f_X11_order_38l n x1 x2 x3 x4 x5 M = some z → wd_in cx_T D cy z0 ad u M X s H locs → lv_has ls 6 [(0, .ref (ad 0)), (1, .int x1), (2, .int x2), (3, .int x3), (4, .int x4), (5, .int x5)] → W p l e { frames := 8, cells := 2 * (z.2.2.2 - c0), slots := 52 * (z.2.2.2 - c0), locals := 238 } s m args below meth c H locs (2 * (M.2.2 - c0)) (52 * (M.2.2 - c0)) (MQ below (aq_i cx_T D cy z0 ad X z.1 z.2) args s (2 * (z.2.2.2 - c0)) (52 * (z.2.2.2 - c0)) (fun q => z0 ≤ q)) (F0 m 38 ls []) := by
  intro n
  induction n with
  | zero => intro x1 x2 x3 x4 x5 M u H locs ls hc0 hf; exact absurd hf (by simp [f_X11_order_38l])
  | succ n ih => intro x1 x2 x3 x4 x5 M u H locs ls hc0 hf hw hl; exact k_X11_order_38 hC hc0 ih (mo_X11_order_38l n) hf hw hl
set_option maxRecDepth 100000 in
set_option maxHeartbeats 4000000 in
theorem k_X11_order_30 {p : Program} {l : Launch} {e : Env} {s : State} {m : MethodId} {args : Array Value} {below : List Frame} {meth : Method} {c : Code} {D : va_G} {cy : Nat → ClassId} {z0 : Nat} {ad : Nat → Nat} {X : va_W} {u : Nat × Nat} (hC : cx_C p s m args meth c cX11_order "RhymedThen" (Cond.code yX11_order cX11_order 6 (some .int)) 6 (some .int)) {z : (Int32 × mm_M)} {c0 : Nat} {x1 : Int32} {x2 : Int32} {M : mm_M} (hc0 : c0 ≤ M.2.2) (hf : f_X11_order_30 x1 x2 M = some z) {H : Heap} {locs : List Loc} (hw : wd_in cx_T D cy z0 ad u M X s H locs) {ls : Array Slot} (hl : lv_has ls 6 [(0, .ref (ad 0)), (1, .int x1), (2, .int x2)]) : W p l e { frames := 8, cells := 2 * (z.2.2.2 - c0), slots := 52 * (z.2.2.2 - c0), locals := 238 } s m args below meth c H locs (2 * (M.2.2 - c0)) (52 * (M.2.2 - c0)) (MQ below (aq_i cx_T D cy z0 ad X z.1 z.2) args s (2 * (z.2.2.2 - c0)) (52 * (z.2.2.2 - c0)) (fun q => z0 ≤ q)) (F0 m 30 ls []) := by
  have hx := hC.1
  have hb := hC.2.1
  have hmz : M.2.2 ≤ z.2.2.2 := mo_X11_order_30 hf
  unfold f_X11_order_30 at hf
  refine lv_iconst (v := 0) hx hb dX11_order_30 (by decide) ?_
  refine lv_istore_n (lv' := [(3, .int 0), (0, .ref (ad 0)), (1, .int x1), (2, .int x2)]) hx hb dX11_order_31 rfl hl (by decide) rfl (fun ls hl => ?_)
  refine lv_iconst (v := 0) hx hb dX11_order_32 (by decide) ?_
  refine lv_istore (lv' := [(4, .int 0), (3, .int 0), (0, .ref (ad 0)), (1, .int x1), (2, .int x2)]) hx hb dX11_order_33 hl (by decide) rfl (fun ls hl => ?_)
  refine lv_iconst (v := 0) hx hb dX11_order_35 (by decide) ?_
  refine lv_istore (lv' := [(5, .int 0), (4, .int 0), (3, .int 0), (0, .ref (ad 0)), (1, .int x1), (2, .int x2)]) hx hb dX11_order_36 hl (by decide) rfl (fun ls hl => ?_)
  refine W.widen (k := 2 * (M.2.2 - c0)) (n := 52 * (M.2.2 - c0)) (by omega) (by omega) ?_
  exact k_X11_order_38l hC fu_ _ _ _ _ _ _ _ _ _ _ (by omega) hf hw (lv_sub hl [3, 4, 5, 2, 1, 0] rfl)
set_option maxRecDepth 100000 in
set_option maxHeartbeats 4000000 in
theorem k_X11_order {p : Program} {l : Launch} {e : Env} {s : State} {m : MethodId} {args : Array Value} {below : List Frame} {meth : Method} {c : Code} {D : va_G} {cy : Nat → ClassId} {z0 : Nat} {ad : Nat → Nat} {X : va_W} {u : Nat × Nat} (hC : cx_C p s m args meth c cX11_order "RhymedThen" (Cond.code yX11_order cX11_order 6 (some .int)) 6 (some .int)) {z : (Int32 × mm_M)} {c0 : Nat} {x1 : Int32} {x2 : Int32} {M : mm_M} (hc0 : c0 ≤ M.2.2) (hf : f_X11_order x1 x2 M = some z) {H : Heap} {locs : List Loc} (hw : wd_in cx_T D cy z0 ad u M X s H locs) {ls : Array Slot} (hl : lv_has ls 6 [(0, .ref (ad 0)), (1, .int x1), (2, .int x2)]) : W p l e { frames := 8, cells := 2 * (z.2.2.2 - c0), slots := 52 * (z.2.2.2 - c0), locals := 238 } s m args below meth c H locs (2 * (M.2.2 - c0)) (52 * (M.2.2 - c0)) (MQ below (aq_i cx_T D cy z0 ad X z.1 z.2) args s (2 * (z.2.2.2 - c0)) (52 * (z.2.2.2 - c0)) (fun q => z0 ≤ q)) (F0 m 0 ls []) := by
  have hx := hC.1
  have hb := hC.2.1
  have hmz : M.2.2 ≤ z.2.2.2 := mo_X11_order hf
  unfold f_X11_order at hf
  refine lv_aload_n hx hb dX11_order_0 rfl (lv_at hl 0 rfl) ?_
  refine lv_iload_n hx hb dX11_order_1 rfl (lv_at hl 1 rfl) ?_
  obtain ⟨z1, ez1, hf⟩ := sq_e hf
  refine clc_Vi hC hw (c_X11_isLaw ez1.symm) hd_X11_isLaw cw_X11_235 (Nat.le_of_ble_eq_true rfl) rfl rfl (rest := []) hl.1 rfl (Nat.le_of_ble_eq_true rfl) ⟨Nat.le_of_ble_eq_true rfl, Nat.le_of_ble_eq_true rfl⟩ ⟨(show 2 * (M.2.2 - c0) ≤ 2 * (z.2.2.2 - c0) by omega), (show 52 * (M.2.2 - c0) ≤ 52 * (z.2.2.2 - c0) by omega)⟩ rfl dX11_order_2 (fun H locs hw => ?_)
  refine lv_if_eq (tgt := 21) hx hb dX11_order_5 (by decide) (fun c2 => ?_) (fun c2 => ?_)
  · rw [if_pos c2] at hf
    refine lv_iconst (v := (-1)) hx hb dX11_order_21 (by decide) ?_
    refine W.widen (k := 2 * (z.2.2.2 - c0)) (n := 52 * (z.2.2.2 - c0)) (by omega) (by omega) ?_
    have hz := Option.some.inj hf
    subst hz
    exact rta_i hC hw dX11_order_22
  · rw [if_neg c2] at hf
    refine lv_aload_n hx hb dX11_order_8 rfl (lv_at hl 0 rfl) ?_
    refine lv_iload_n hx hb dX11_order_9 rfl (lv_at hl 2 rfl) ?_
    obtain ⟨z3, ez3, hf⟩ := sq_e hf
    refine clc_Vi hC hw (c_X11_isLaw ez3.symm) hd_X11_isLaw cw_X11_235 (Nat.le_of_ble_eq_true rfl) rfl rfl (rest := []) hl.1 rfl (Nat.le_of_ble_eq_true rfl) ⟨Nat.le_of_ble_eq_true rfl, Nat.le_of_ble_eq_true rfl⟩ ⟨(show 2 * (M.2.2 - c0) ≤ 2 * (z.2.2.2 - c0) by omega), (show 52 * (M.2.2 - c0) ≤ 52 * (z.2.2.2 - c0) by omega)⟩ rfl dX11_order_10 (fun H locs hw => ?_)
    refine lv_if_eq (tgt := 21) hx hb dX11_order_13 (by decide) (fun c4 => ?_) (fun c4 => ?_)
    · rw [if_pos c4] at hf
      refine lv_iconst (v := (-1)) hx hb dX11_order_21 (by decide) ?_
      refine W.widen (k := 2 * (z.2.2.2 - c0)) (n := 52 * (z.2.2.2 - c0)) (by omega) (by omega) ?_
      have hz := Option.some.inj hf
      subst hz
      exact rta_i hC hw dX11_order_22
    · rw [if_neg c4] at hf
      refine lv_iload_n hx hb dX11_order_16 rfl (lv_at hl 1 rfl) ?_
      refine lv_iload_n hx hb dX11_order_17 rfl (lv_at hl 2 rfl) ?_
      refine lv_icmp_ne (tgt := 23) hx hb dX11_order_18 (by decide) (fun c5 => ?_) (fun c5 => ?_)
      · rw [if_neg c5] at hf
        refine lv_aload_n hx hb dX11_order_23 rfl (lv_at hl 0 rfl) ?_
        refine rg_p hC hw 0 (Nat.le_of_ble_eq_true rfl) rfl fd_X11_4 wf_X11_44 (q := 19) rfl dX11_order_24 ?_
        obtain ⟨z6, ez6, hf⟩ := bd_e hf
        have mz6 : M.2.2 ≤ z6.2.2 := mo_X6_lookAnew ez6
        have hnz : z6.2.2 ≤ z.2.2.2 := mo_X11_order_30 hf
        refine cla_Vv hC hw (c_X6_lookAnew ez6) hd_X6_lookAnew cw_X11_286 (Nat.le_of_ble_eq_true rfl) rfl rfl (rest := []) hl.1 rfl (Nat.le_of_ble_eq_true rfl) ⟨Nat.le_of_ble_eq_true rfl, Nat.le_of_ble_eq_true rfl⟩ ⟨(show 2 * (M.2.2 - c0) + 2 * (z6.2.2 - M.2.2) ≤ 2 * (z.2.2.2 - c0) by omega), (show 52 * (M.2.2 - c0) + 52 * (z6.2.2 - M.2.2) ≤ 52 * (z.2.2.2 - c0) by omega)⟩ rfl dX11_order_27 (fun u H locs hw => ?_)
        refine W.widen (k := 2 * (z6.2.2 - c0)) (n := 52 * (z6.2.2 - c0)) (by omega) (by omega) ?_
        exact k_X11_order_30 hC (by omega) hf hw (lv_sub hl [0, 1, 2] rfl)
      · rw [if_pos c5] at hf
        refine lv_iconst (v := (-1)) hx hb dX11_order_21 (by decide) ?_
        refine W.widen (k := 2 * (z.2.2.2 - c0)) (n := 52 * (z.2.2.2 - c0)) (by omega) (by omega) ?_
        have hz := Option.some.inj hf
        subst hz
        exact rta_i hC hw dX11_order_22
set_option maxRecDepth 100000 in
theorem c_X11_order {l : Launch} {D : va_G} {cy : Nat → ClassId} {z0 : Nat} {ad : Nat → Nat} {u : Nat × Nat} {X : va_W} {z : (Int32 × mm_M)} {x1 : Int32} {x2 : Int32} {M : mm_M} (hf : f_X11_order x1 x2 M = some z) : ca_i cx_T l yX11_order (Cond.code yX11_order cX11_order 6 (some .int)) 8 238 D cy z0 ad u M X [.ref (ad 0), .int x1, .int x2] z.1 z.2 := by
  refine bga_i (by decide) (fun p e s m below meth c hC hw => ?_)
  refine en_t (Nat.le_of_ble_eq_true rfl) (fun ls hl => ?_)
  have hl : lv_has ls 6 [(0, .ref (ad 0)), (1, .int x1), (2, .int x2)] := hl
  refine W.widen (k := 2 * (M.2.2 - M.2.2)) (n := 52 * (M.2.2 - M.2.2)) (by omega) (by omega) ?_
  exact k_X11_order hC (Nat.le_refl _) hf hw hl
set_option maxRecDepth 100000 in
set_option maxHeartbeats 4000000 in
theorem k_X6_failingBy {p : Program} {l : Launch} {e : Env} {s : State} {m : MethodId} {args : Array Value} {below : List Frame} {meth : Method} {c : Code} {D : va_G} {cy : Nat → ClassId} {z0 : Nat} {ad : Nat → Nat} {X : va_W} {u : Nat × Nat} (hC : cx_C p s m args meth c cX6_failingBy "RhymedThen$Signs" (Cond.code yX6_failingBy cX6_failingBy 2 (some .int)) 2 (some .int)) {z : Int32} {x1 : Int32} {M : mm_M} (hf : f_X6_failingBy x1 M = some z) {H : Heap} {locs : List Loc} (hw : wd_in cx_T D cy z0 ad u M X s H locs) {ls : Array Slot} (hl : lv_has ls 2 [(0, .ref (ad 19)), (1, .int x1)]) : W p l e { frames := 0, cells := 0, slots := 0, locals := 0 } s m args below meth c H locs 0 0 (MQ below (cq_i cx_T D cy z0 ad u X z M) args s 0 0 (fun q => z0 ≤ q)) (F0 m 0 ls []) := by
  have hx := hC.1
  have hb := hC.2.1
  unfold f_X6_failingBy at hf
  refine lv_aload_n hx hb dX6_failingBy_0 rfl (lv_at hl 0 rfl) ?_
  refine rg_i hC hw 19 (Nat.le_of_ble_eq_true rfl) rfl fd_X6_4 wf_X6_21 dX6_failingBy_1 ?_
  refine lv_aload_n hx hb dX6_failingBy_4 rfl (lv_at hl 0 rfl) ?_
  refine rg_p hC hw 19 (Nat.le_of_ble_eq_true rfl) rfl fd_X6_5 wf_X6_24 (q := 21) rfl dX6_failingBy_5 ?_
  refine lv_iload_n hx hb dX6_failingBy_8 rfl (lv_at hl 1 rfl) ?_
  obtain ⟨h1, hf⟩ := ck_e hf
  refine ra_i hC hw 21 (Nat.le_of_ble_eq_true rfl) rfl h1 dX6_failingBy_9 ?_
  refine lv_iconst (v := (-1)) hx hb dX6_failingBy_10 (by decide) ?_
  refine lv_ixor hx hb dX6_failingBy_11 ?_
  refine lv_iand hx hb dX6_failingBy_12 ?_
  have hz := Option.some.inj hf
  subst hz
  exact rtc_i hC hw dX6_failingBy_13
set_option maxRecDepth 100000 in
theorem c_X6_failingBy {l : Launch} {D : va_G} {cy : Nat → ClassId} {z0 : Nat} {ad : Nat → Nat} {u : Nat × Nat} {X : va_W} {z : Int32} {x1 : Int32} {M : mm_M} (hf : f_X6_failingBy x1 M = some z) : ct_i cx_T l yX6_failingBy (Cond.code yX6_failingBy cX6_failingBy 2 (some .int)) 0 0 D cy z0 ad u M X [.ref (ad 19), .int x1] z M := by
  refine bgc_i (by decide) (fun p e s m below meth c hC hw => ?_)
  refine en_t (Nat.le_of_ble_eq_true rfl) (fun ls hl => ?_)
  have hl : lv_has ls 2 [(0, .ref (ad 19)), (1, .int x1)] := hl
  exact k_X6_failingBy hC hf hw hl
set_option maxRecDepth 100000 in
set_option maxHeartbeats 4000000 in
theorem k_X11_wrong_49 {p : Program} {l : Launch} {e : Env} {s : State} {m : MethodId} {args : Array Value} {below : List Frame} {meth : Method} {c : Code} {D : va_G} {cy : Nat → ClassId} {z0 : Nat} {ad : Nat → Nat} {X : va_W} {u : Nat × Nat} (hC : cx_C p s m args meth c cX11_wrong "RhymedThen" (Cond.code yX11_wrong cX11_wrong 3 (some .int)) 3 (some .int)) {z : (Int32 × mm_M)} {c0 : Nat} {x1 : Int32} {x2 : Int32} {M : mm_M} (hc0 : c0 ≤ M.2.2) {q11 : Int32 → Int32 → mm_M → Option (Int32 × mm_M)} (hq11 : ∀ (x1 : Int32) (x2 : Int32) (M : mm_M) (u : Nat × Nat) (H : Heap) (locs : List Loc) (ls : Array Slot), c0 ≤ M.2.2 → q11 x1 x2 M = some z → wd_in cx_T D cy z0 ad u M X s H locs → lv_has ls 3 [(0, .ref (ad 0)), (1, .int x1), (2, .int x2)] → W p l e { frames := 8, cells := 2 * (z.2.2.2 - c0), slots := 52 * (z.2.2.2 - c0), locals := 238 } s m args below meth c H locs (2 * (M.2.2 - c0)) (52 * (M.2.2 - c0)) (MQ below (aq_i cx_T D cy z0 ad X z.1 z.2) args s (2 * (z.2.2.2 - c0)) (52 * (z.2.2.2 - c0)) (fun q => z0 ≤ q)) (F0 m 11 ls [])) (hm11 : ∀ (x1 : Int32) (x2 : Int32) (M : mm_M), q11 x1 x2 M = some z → M.2.2 ≤ z.2.2.2) (hf : f_X11_wrong_49 q11 x1 x2 M = some z) {H : Heap} {locs : List Loc} (hw : wd_in cx_T D cy z0 ad u M X s H locs) {ls : Array Slot} (hl : lv_has ls 3 [(0, .ref (ad 0)), (1, .int x1), (2, .int x2)]) : W p l e { frames := 8, cells := 2 * (z.2.2.2 - c0), slots := 52 * (z.2.2.2 - c0), locals := 238 } s m args below meth c H locs (2 * (M.2.2 - c0)) (52 * (M.2.2 - c0)) (MQ below (aq_i cx_T D cy z0 ad X z.1 z.2) args s (2 * (z.2.2.2 - c0)) (52 * (z.2.2.2 - c0)) (fun q => z0 ≤ q)) (F0 m 49 ls []) := by
  have hx := hC.1
  have hb := hC.2.1
  have hmz : M.2.2 ≤ z.2.2.2 := mo_X11_wrong_49 hm11 hf
  unfold f_X11_wrong_49 at hf
  obtain ⟨y13, ey13, hf⟩ := sq_e hf
  refine lv_iinc (v := y13) (lv' := [(2, .int y13), (0, .ref (ad 0)), (1, .int x1)]) hx hb dX11_wrong_49 hl (k := 2) rfl (by rw [ey13]; rfl) (by decide) rfl (fun ls hl => ?_)
  refine lv_goto (tgt := 11) hx hb dX11_wrong_52 (by decide) ?_
  refine W.widen (k := 2 * (M.2.2 - c0)) (n := 52 * (M.2.2 - c0)) (by omega) (by omega) ?_
  exact hq11 _ _ _ _ _ _ _ (by omega) hf hw (lv_sub hl [1, 2, 0] rfl)
set_option maxRecDepth 100000 in
set_option maxHeartbeats 4000000 in
theorem k_X11_wrong_55 {p : Program} {l : Launch} {e : Env} {s : State} {m : MethodId} {args : Array Value} {below : List Frame} {meth : Method} {c : Code} {D : va_G} {cy : Nat → ClassId} {z0 : Nat} {ad : Nat → Nat} {X : va_W} {u : Nat × Nat} (hC : cx_C p s m args meth c cX11_wrong "RhymedThen" (Cond.code yX11_wrong cX11_wrong 3 (some .int)) 3 (some .int)) {z : (Int32 × mm_M)} {c0 : Nat} {x1 : Int32} {M : mm_M} (hc0 : c0 ≤ M.2.2) (hf : f_X11_wrong_55 x1 M = some z) {H : Heap} {locs : List Loc} (hw : wd_in cx_T D cy z0 ad u M X s H locs) {ls : Array Slot} (hl : lv_has ls 3 [(0, .ref (ad 0)), (1, .int x1)]) : W p l e { frames := 8, cells := 2 * (z.2.2.2 - c0), slots := 52 * (z.2.2.2 - c0), locals := 238 } s m args below meth c H locs (2 * (M.2.2 - c0)) (52 * (M.2.2 - c0)) (MQ below (aq_i cx_T D cy z0 ad X z.1 z.2) args s (2 * (z.2.2.2 - c0)) (52 * (z.2.2.2 - c0)) (fun q => z0 ≤ q)) (F0 m 55 ls []) := by
  have hx := hC.1
  have hb := hC.2.1
  have hmz : M.2.2 ≤ z.2.2.2 := mo_X11_wrong_55 hf
  unfold f_X11_wrong_55 at hf
  refine lv_aload_n hx hb dX11_wrong_55 rfl (lv_at hl 0 rfl) ?_
  refine rg_p hC hw 0 (Nat.le_of_ble_eq_true rfl) rfl fd_X11_4 wf_X11_44 (q := 19) rfl dX11_wrong_56 ?_
  refine lv_iload_n hx hb dX11_wrong_59 rfl (lv_at hl 1 rfl) ?_
  obtain ⟨z8, ez8, hf⟩ := bd_e hf
  refine clc_Vi hC hw (c_X6_failingBy ez8) hd_X6_failingBy cw_X11_305 (Nat.le_of_ble_eq_true rfl) rfl rfl (rest := []) hl.1 rfl (Nat.le_of_ble_eq_true rfl) ⟨Nat.le_of_ble_eq_true rfl, Nat.le_of_ble_eq_true rfl⟩ ⟨(show 2 * (M.2.2 - c0) ≤ 2 * (z.2.2.2 - c0) by omega), (show 52 * (M.2.2 - c0) ≤ 52 * (z.2.2.2 - c0) by omega)⟩ rfl dX11_wrong_60 (fun H locs hw => ?_)
  refine lv_istore_n (lv' := [(2, .int z8), (0, .ref (ad 0)), (1, .int x1)]) hx hb dX11_wrong_63 rfl hl (by decide) rfl (fun ls hl => ?_)
  refine lv_aload_n hx hb dX11_wrong_64 rfl (lv_at hl 1 rfl) ?_
  refine rg_p hC hw 0 (Nat.le_of_ble_eq_true rfl) rfl fd_X11_1 wf_X11_19 (q := 3) rfl dX11_wrong_65 ?_
  obtain ⟨z9, ez9, hf⟩ := sq_e hf
  have mz9 : M.2.2 ≤ z9.2.2 := mo_X4_clear ez9.symm
  refine clc_Vv hC hw (c_X4_clear ez9.symm) hd_X4_clear cw_X11_192 (Nat.le_of_ble_eq_true rfl) rfl rfl (rest := []) hl.1 rfl (Nat.le_of_ble_eq_true rfl) ⟨Nat.le_of_ble_eq_true rfl, Nat.le_of_ble_eq_true rfl⟩ ⟨(show 2 * (M.2.2 - c0) ≤ 2 * (z.2.2.2 - c0) by omega), (show 52 * (M.2.2 - c0) ≤ 52 * (z.2.2.2 - c0) by omega)⟩ rfl dX11_wrong_68 (fun H locs hw => ?_)
  refine lv_aload_n hx hb dX11_wrong_71 rfl (lv_at hl 1 rfl) ?_
  refine rg_p hC hw 0 (Nat.le_of_ble_eq_true rfl) rfl fd_X11_1 wf_X11_19 (q := 3) rfl dX11_wrong_72 ?_
  refine lv_iload_n hx hb dX11_wrong_75 rfl (lv_at hl 2 rfl) ?_
  refine lv_i2l hx hb dX11_wrong_76 rfl ?_
  obtain ⟨z10, ez10, hf⟩ := bd_e hf
  have mz10 : z9.2.2 ≤ z10.2.2 := mo_X4_add ez10
  refine clc_Vv hC hw (c_X4_add ez10) hd_X4_add cw_X11_214 (Nat.le_of_ble_eq_true rfl) rfl rfl (rest := []) hl.1 rfl (Nat.le_of_ble_eq_true rfl) ⟨Nat.le_of_ble_eq_true rfl, Nat.le_of_ble_eq_true rfl⟩ ⟨(show 2 * (M.2.2 - c0) ≤ 2 * (z.2.2.2 - c0) by omega), (show 52 * (M.2.2 - c0) ≤ 52 * (z.2.2.2 - c0) by omega)⟩ rfl dX11_wrong_77 (fun H locs hw => ?_)
  refine lv_aload_n hx hb dX11_wrong_80 rfl (lv_at hl 1 rfl) ?_
  refine rg_p hC hw 0 (Nat.le_of_ble_eq_true rfl) rfl fd_X11_1 wf_X11_19 (q := 3) rfl dX11_wrong_81 ?_
  refine lv_iload_n hx hb dX11_wrong_84 rfl (lv_at hl 0 rfl) ?_
  refine lv_i2l hx hb dX11_wrong_85 rfl ?_
  obtain ⟨z11, ez11, hf⟩ := bd_e hf
  have mz11 : z10.2.2 ≤ z11.2.2 := mo_X4_add ez11
  refine clc_Vv hC hw (c_X4_add ez11) hd_X4_add cw_X11_214 (Nat.le_of_ble_eq_true rfl) rfl rfl (rest := []) hl.1 rfl (Nat.le_of_ble_eq_true rfl) ⟨Nat.le_of_ble_eq_true rfl, Nat.le_of_ble_eq_true rfl⟩ ⟨(show 2 * (M.2.2 - c0) ≤ 2 * (z.2.2.2 - c0) by omega), (show 52 * (M.2.2 - c0) ≤ 52 * (z.2.2.2 - c0) by omega)⟩ rfl dX11_wrong_86 (fun H locs hw => ?_)
  refine lv_iload_n hx hb dX11_wrong_89 rfl (lv_at hl 0 rfl) ?_
  obtain ⟨z12, ez12, hf⟩ := sq_e hf
  refine clc_Si hC hw (c_J6_bitCount_0f7a4 ez12.symm) hd_J6_bitCount_0f7a4 cw_X11_308 (rest := []) hl.1 rfl (Nat.le_of_ble_eq_true rfl) ⟨Nat.le_of_ble_eq_true rfl, Nat.le_of_ble_eq_true rfl⟩ ⟨(show 2 * (M.2.2 - c0) ≤ 2 * (z.2.2.2 - c0) by omega), (show 52 * (M.2.2 - c0) ≤ 52 * (z.2.2.2 - c0) by omega)⟩ rfl dX11_wrong_90 (fun H locs hw => ?_)
  refine W.widen (k := 2 * (z.2.2.2 - c0)) (n := 52 * (z.2.2.2 - c0)) (by omega) (by omega) ?_
  have hz := Option.some.inj hf
  subst hz
  exact rta_i hC hw dX11_wrong_93
set_option maxRecDepth 100000 in
set_option maxHeartbeats 4000000 in
theorem k_X11_wrong_11 {p : Program} {l : Launch} {e : Env} {s : State} {m : MethodId} {args : Array Value} {below : List Frame} {meth : Method} {c : Code} {D : va_G} {cy : Nat → ClassId} {z0 : Nat} {ad : Nat → Nat} {X : va_W} {u : Nat × Nat} (hC : cx_C p s m args meth c cX11_wrong "RhymedThen" (Cond.code yX11_wrong cX11_wrong 3 (some .int)) 3 (some .int)) {z : (Int32 × mm_M)} {c0 : Nat} {x1 : Int32} {x2 : Int32} {M : mm_M} (hc0 : c0 ≤ M.2.2) {q11 : Int32 → Int32 → mm_M → Option (Int32 × mm_M)} (hq11 : ∀ (x1 : Int32) (x2 : Int32) (M : mm_M) (u : Nat × Nat) (H : Heap) (locs : List Loc) (ls : Array Slot), c0 ≤ M.2.2 → q11 x1 x2 M = some z → wd_in cx_T D cy z0 ad u M X s H locs → lv_has ls 3 [(0, .ref (ad 0)), (1, .int x1), (2, .int x2)] → W p l e { frames := 8, cells := 2 * (z.2.2.2 - c0), slots := 52 * (z.2.2.2 - c0), locals := 238 } s m args below meth c H locs (2 * (M.2.2 - c0)) (52 * (M.2.2 - c0)) (MQ below (aq_i cx_T D cy z0 ad X z.1 z.2) args s (2 * (z.2.2.2 - c0)) (52 * (z.2.2.2 - c0)) (fun q => z0 ≤ q)) (F0 m 11 ls [])) (hm11 : ∀ (x1 : Int32) (x2 : Int32) (M : mm_M), q11 x1 x2 M = some z → M.2.2 ≤ z.2.2.2) (hf : f_X11_wrong_11 q11 x1 x2 M = some z) {H : Heap} {locs : List Loc} (hw : wd_in cx_T D cy z0 ad u M X s H locs) {ls : Array Slot} (hl : lv_has ls 3 [(0, .ref (ad 0)), (1, .int x1), (2, .int x2)]) : W p l e { frames := 8, cells := 2 * (z.2.2.2 - c0), slots := 52 * (z.2.2.2 - c0), locals := 238 } s m args below meth c H locs (2 * (M.2.2 - c0)) (52 * (M.2.2 - c0)) (MQ below (aq_i cx_T D cy z0 ad X z.1 z.2) args s (2 * (z.2.2.2 - c0)) (52 * (z.2.2.2 - c0)) (fun q => z0 ≤ q)) (F0 m 11 ls []) := by
  have hx := hC.1
  have hb := hC.2.1
  have hmz : M.2.2 ≤ z.2.2.2 := mo_X11_wrong_11 hm11 hf
  unfold f_X11_wrong_11 at hf
  refine lv_iload_n hx hb dX11_wrong_11 rfl (lv_at hl 2 rfl) ?_
  refine lv_aload_n hx hb dX11_wrong_12 rfl (lv_at hl 0 rfl) ?_
  refine rg_p hC hw 0 (Nat.le_of_ble_eq_true rfl) rfl fd_X11_3 wf_X11_35 (q := 14) rfl dX11_wrong_13 ?_
  refine rg_i hC hw 14 (Nat.le_of_ble_eq_true rfl) rfl fd_X3_2 wf_X11_144 dX11_wrong_16 ?_
  refine lv_icmp_ge (tgt := 55) hx hb dX11_wrong_19 (by decide) (fun c2 => ?_) (fun c2 => ?_)
  · rw [if_pos c2] at hf
    refine W.widen (k := 2 * (M.2.2 - c0)) (n := 52 * (M.2.2 - c0)) (by omega) (by omega) ?_
    exact k_X11_wrong_55 hC (by omega) hf hw (lv_sub hl [0, 1] rfl)
  · rw [if_neg c2] at hf
    refine lv_aload_n hx hb dX11_wrong_22 rfl (lv_at hl 0 rfl) ?_
    refine rg_p hC hw 0 (Nat.le_of_ble_eq_true rfl) rfl fd_X11_4 wf_X11_44 (q := 19) rfl dX11_wrong_23 ?_
    refine lv_iload_n hx hb dX11_wrong_26 rfl (lv_at hl 2 rfl) ?_
    obtain ⟨z3, ez3, hf⟩ := bd_e hf
    refine clc_Vi hC hw (c_X6_failingBy ez3) hd_X6_failingBy cw_X11_305 (Nat.le_of_ble_eq_true rfl) rfl rfl (rest := []) hl.1 rfl (Nat.le_of_ble_eq_true rfl) ⟨Nat.le_of_ble_eq_true rfl, Nat.le_of_ble_eq_true rfl⟩ ⟨(show 2 * (M.2.2 - c0) ≤ 2 * (z.2.2.2 - c0) by omega), (show 52 * (M.2.2 - c0) ≤ 52 * (z.2.2.2 - c0) by omega)⟩ rfl dX11_wrong_27 (fun H locs hw => ?_)
    obtain ⟨z4, ez4, hf⟩ := sq_e hf
    refine clc_Si hC hw (c_J6_bitCount_0f7a4 ez4.symm) hd_J6_bitCount_0f7a4 cw_X11_308 (rest := []) hl.1 rfl (Nat.le_of_ble_eq_true rfl) ⟨Nat.le_of_ble_eq_true rfl, Nat.le_of_ble_eq_true rfl⟩ ⟨(show 2 * (M.2.2 - c0) ≤ 2 * (z.2.2.2 - c0) by omega), (show 52 * (M.2.2 - c0) ≤ 52 * (z.2.2.2 - c0) by omega)⟩ rfl dX11_wrong_30 (fun H locs hw => ?_)
    refine lv_aload_n hx hb dX11_wrong_33 rfl (lv_at hl 0 rfl) ?_
    refine rg_p hC hw 0 (Nat.le_of_ble_eq_true rfl) rfl fd_X11_4 wf_X11_44 (q := 19) rfl dX11_wrong_34 ?_
    refine lv_iload_n hx hb dX11_wrong_37 rfl (lv_at hl 1 rfl) ?_
    obtain ⟨z5, ez5, hf⟩ := bd_e hf
    refine clc_Vi hC hw (c_X6_failingBy ez5) hd_X6_failingBy cw_X11_305 (Nat.le_of_ble_eq_true rfl) rfl rfl (rest := [.int z4]) hl.1 rfl (Nat.le_of_ble_eq_true rfl) ⟨Nat.le_of_ble_eq_true rfl, Nat.le_of_ble_eq_true rfl⟩ ⟨(show 2 * (M.2.2 - c0) ≤ 2 * (z.2.2.2 - c0) by omega), (show 52 * (M.2.2 - c0) ≤ 52 * (z.2.2.2 - c0) by omega)⟩ rfl dX11_wrong_38 (fun H locs hw => ?_)
    obtain ⟨z6, ez6, hf⟩ := sq_e hf
    refine clc_Si hC hw (c_J6_bitCount_0f7a4 ez6.symm) hd_J6_bitCount_0f7a4 cw_X11_308 (rest := [.int z4]) hl.1 rfl (Nat.le_of_ble_eq_true rfl) ⟨Nat.le_of_ble_eq_true rfl, Nat.le_of_ble_eq_true rfl⟩ ⟨(show 2 * (M.2.2 - c0) ≤ 2 * (z.2.2.2 - c0) by omega), (show 52 * (M.2.2 - c0) ≤ 52 * (z.2.2.2 - c0) by omega)⟩ rfl dX11_wrong_41 (fun H locs hw => ?_)
    refine lv_icmp_ge (tgt := 49) hx hb dX11_wrong_44 (by decide) (fun c7 => ?_) (fun c7 => ?_)
    · rw [if_pos c7] at hf
      refine W.widen (k := 2 * (M.2.2 - c0)) (n := 52 * (M.2.2 - c0)) (by omega) (by omega) ?_
      exact k_X11_wrong_49 hC (by omega) hq11 hm11 hf hw (lv_sub hl [0, 1, 2] rfl)
    · rw [if_neg c7] at hf
      refine lv_iload_n hx hb dX11_wrong_47 rfl (lv_at hl 2 rfl) ?_
      refine lv_istore_n (lv' := [(1, .int x2), (0, .ref (ad 0)), (2, .int x2)]) hx hb dX11_wrong_48 rfl hl (by decide) rfl (fun ls hl => ?_)
      refine W.widen (k := 2 * (M.2.2 - c0)) (n := 52 * (M.2.2 - c0)) (by omega) (by omega) ?_
      exact k_X11_wrong_49 hC (by omega) hq11 hm11 hf hw (lv_sub hl [1, 0, 2] rfl)
set_option maxRecDepth 100000 in
set_option maxHeartbeats 4000000 in
theorem k_X11_wrong_11l {p : Program} {l : Launch} {e : Env} {s : State} {m : MethodId} {args : Array Value} {below : List Frame} {meth : Method} {c : Code} {D : va_G} {cy : Nat → ClassId} {z0 : Nat} {ad : Nat → Nat} {X : va_W} (hC : cx_C p s m args meth c cX11_wrong "RhymedThen" (Cond.code yX11_wrong cX11_wrong 3 (some .int)) 3 (some .int)) {z : (Int32 × mm_M)} {c0 : Nat} : ∀ (n : Nat) (x1 : Int32) (x2 : Int32) (M : mm_M) (u : Nat × Nat) (H : Heap) (locs : List Loc) (ls : Array Slot), c0 ≤ M.2.2 → f_X11_wrong_11l n x1 x2 M = some z → wd_in cx_T D cy z0 ad u M X s H locs → lv_has ls 3 [(0, .ref (ad 0)), (1, .int x1), (2, .int x2)] → W p l e { frames := 8, cells := 2 * (z.2.2.2 - c0), slots := 52 * (z.2.2.2 - c0), locals := 238 } s m args below meth c H locs (2 * (M.2.2 - c0)) (52 * (M.2.2 - c0)) (MQ below (aq_i cx_T D cy z0 ad X z.1 z.2) args s (2 * (z.2.2.2 - c0)) (52 * (z.2.2.2 - c0)) (fun q => z0 ≤ q)) (F0 m 11 ls []) := by
  intro n
  induction n with
  | zero => intro x1 x2 M u H locs ls hc0 hf; exact absurd hf (by simp [f_X11_wrong_11l])
  | succ n ih => intro x1 x2 M u H locs ls hc0 hf hw hl; exact k_X11_wrong_11 hC hc0 ih (mo_X11_wrong_11l n) hf hw hl
set_option maxRecDepth 100000 in
set_option maxHeartbeats 4000000 in
theorem k_X11_wrong_7 {p : Program} {l : Launch} {e : Env} {s : State} {m : MethodId} {args : Array Value} {below : List Frame} {meth : Method} {c : Code} {D : va_G} {cy : Nat → ClassId} {z0 : Nat} {ad : Nat → Nat} {X : va_W} {u : Nat × Nat} (hC : cx_C p s m args meth c cX11_wrong "RhymedThen" (Cond.code yX11_wrong cX11_wrong 3 (some .int)) 3 (some .int)) {z : (Int32 × mm_M)} {c0 : Nat} {M : mm_M} (hc0 : c0 ≤ M.2.2) (hf : f_X11_wrong_7 M = some z) {H : Heap} {locs : List Loc} (hw : wd_in cx_T D cy z0 ad u M X s H locs) {ls : Array Slot} (hl : lv_has ls 3 [(0, .ref (ad 0))]) : W p l e { frames := 8, cells := 2 * (z.2.2.2 - c0), slots := 52 * (z.2.2.2 - c0), locals := 238 } s m args below meth c H locs (2 * (M.2.2 - c0)) (52 * (M.2.2 - c0)) (MQ below (aq_i cx_T D cy z0 ad X z.1 z.2) args s (2 * (z.2.2.2 - c0)) (52 * (z.2.2.2 - c0)) (fun q => z0 ≤ q)) (F0 m 7 ls []) := by
  have hx := hC.1
  have hb := hC.2.1
  have hmz : M.2.2 ≤ z.2.2.2 := mo_X11_wrong_7 hf
  unfold f_X11_wrong_7 at hf
  refine lv_iconst (v := 0) hx hb dX11_wrong_7 (by decide) ?_
  refine lv_istore_n (lv' := [(1, .int 0), (0, .ref (ad 0))]) hx hb dX11_wrong_8 rfl hl (by decide) rfl (fun ls hl => ?_)
  refine lv_iconst (v := 1) hx hb dX11_wrong_9 (by decide) ?_
  refine lv_istore_n (lv' := [(2, .int 1), (1, .int 0), (0, .ref (ad 0))]) hx hb dX11_wrong_10 rfl hl (by decide) rfl (fun ls hl => ?_)
  refine W.widen (k := 2 * (M.2.2 - c0)) (n := 52 * (M.2.2 - c0)) (by omega) (by omega) ?_
  exact k_X11_wrong_11l hC fu_ _ _ _ _ _ _ _ (by omega) hf hw (lv_sub hl [2, 1, 0] rfl)
set_option maxRecDepth 100000 in
set_option maxHeartbeats 4000000 in
theorem k_X11_wrong {p : Program} {l : Launch} {e : Env} {s : State} {m : MethodId} {args : Array Value} {below : List Frame} {meth : Method} {c : Code} {D : va_G} {cy : Nat → ClassId} {z0 : Nat} {ad : Nat → Nat} {X : va_W} {u : Nat × Nat} (hC : cx_C p s m args meth c cX11_wrong "RhymedThen" (Cond.code yX11_wrong cX11_wrong 3 (some .int)) 3 (some .int)) {z : (Int32 × mm_M)} {c0 : Nat} {M : mm_M} (hc0 : c0 ≤ M.2.2) (hf : f_X11_wrong M = some z) {H : Heap} {locs : List Loc} (hw : wd_in cx_T D cy z0 ad u M X s H locs) {ls : Array Slot} (hl : lv_has ls 3 [(0, .ref (ad 0))]) : W p l e { frames := 8, cells := 2 * (z.2.2.2 - c0), slots := 52 * (z.2.2.2 - c0), locals := 238 } s m args below meth c H locs (2 * (M.2.2 - c0)) (52 * (M.2.2 - c0)) (MQ below (aq_i cx_T D cy z0 ad X z.1 z.2) args s (2 * (z.2.2.2 - c0)) (52 * (z.2.2.2 - c0)) (fun q => z0 ≤ q)) (F0 m 0 ls []) := by
  have hx := hC.1
  have hb := hC.2.1
  have hmz : M.2.2 ≤ z.2.2.2 := mo_X11_wrong hf
  unfold f_X11_wrong at hf
  refine lv_aload_n hx hb dX11_wrong_0 rfl (lv_at hl 0 rfl) ?_
  refine rg_p hC hw 0 (Nat.le_of_ble_eq_true rfl) rfl fd_X11_4 wf_X11_44 (q := 19) rfl dX11_wrong_1 ?_
  obtain ⟨z1, ez1, hf⟩ := bd_e hf
  have mz1 : M.2.2 ≤ z1.2.2 := mo_X6_lookAnew ez1
  have hnz : z1.2.2 ≤ z.2.2.2 := mo_X11_wrong_7 hf
  refine cla_Vv hC hw (c_X6_lookAnew ez1) hd_X6_lookAnew cw_X11_286 (Nat.le_of_ble_eq_true rfl) rfl rfl (rest := []) hl.1 rfl (Nat.le_of_ble_eq_true rfl) ⟨Nat.le_of_ble_eq_true rfl, Nat.le_of_ble_eq_true rfl⟩ ⟨(show 2 * (M.2.2 - c0) + 2 * (z1.2.2 - M.2.2) ≤ 2 * (z.2.2.2 - c0) by omega), (show 52 * (M.2.2 - c0) + 52 * (z1.2.2 - M.2.2) ≤ 52 * (z.2.2.2 - c0) by omega)⟩ rfl dX11_wrong_4 (fun u H locs hw => ?_)
  refine W.widen (k := 2 * (z1.2.2 - c0)) (n := 52 * (z1.2.2 - c0)) (by omega) (by omega) ?_
  exact k_X11_wrong_7 hC (by omega) hf hw (lv_sub hl [0] rfl)
set_option maxRecDepth 100000 in
theorem c_X11_wrong {l : Launch} {D : va_G} {cy : Nat → ClassId} {z0 : Nat} {ad : Nat → Nat} {u : Nat × Nat} {X : va_W} {z : (Int32 × mm_M)} {M : mm_M} (hf : f_X11_wrong M = some z) : ca_i cx_T l yX11_wrong (Cond.code yX11_wrong cX11_wrong 3 (some .int)) 8 238 D cy z0 ad u M X [.ref (ad 0)] z.1 z.2 := by
  refine bga_i (by decide) (fun p e s m below meth c hC hw => ?_)
  refine en_t (Nat.le_of_ble_eq_true rfl) (fun ls hl => ?_)
  have hl : lv_has ls 3 [(0, .ref (ad 0))] := hl
  refine W.widen (k := 2 * (M.2.2 - M.2.2)) (n := 52 * (M.2.2 - M.2.2)) (by omega) (by omega) ?_
  exact k_X11_wrong hC (Nat.le_refl _) hf hw hl
