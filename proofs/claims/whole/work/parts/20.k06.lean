set_option maxRecDepth 100000 in
set_option maxHeartbeats 4000000 in
theorem k_X12_lag {p : Program} {l : Launch} {e : Env} {s : State} {m : MethodId} {args : Array Value} {below : List Frame} {meth : Method} {c : Code} {D : va_G} {cy : Nat → ClassId} {z0 : Nat} {ad : Nat → Nat} {X : va_W} {u : Nat × Nat} (hC : cx_C p s m args meth c cX12_lag "RhymedThenModel" (Cond.code yX12_lag cX12_lag 4 (some .int)) 4 (some .int)) {z : (Int32 × mm_M)} {x1 : Int32} {x2 : Int32} {M : mm_M} (hf : f_X12_lag x1 x2 M = some z) {H : Heap} {locs : List Loc} (hw : wd_in rf_T D cy z0 ad u M X s H locs) {ls : Array Slot} (hl : lv_has ls 4 [(0, .ref (ad 0)), (1, .int x1), (2, .int x2)]) : W p l e { frames := 1, cells := 0, slots := 0, locals := 25 } s m args below meth c H locs 0 0 (MQ below (cq_i rf_T D cy z0 ad u X z.1 z.2) args s 0 0 (fun q => z0 ≤ q)) (F0 m 0 ls []) := by
  have hx := hC.1
  have hb := hC.2.1
  unfold f_X12_lag at hf
  refine lv_aload_n hx hb dX12_lag_0 rfl (lv_at hl 0 rfl) ?_
  refine lv_iconst (v := 0) hx hb dX12_lag_1 (by decide) ?_
  obtain ⟨M1, eM1, hf⟩ := sq_e hf
  refine rp_i hC hw 0 (Nat.le_of_ble_eq_true rfl) rfl fd_X12_0 wf_X12_1 fp_X12_0 rfl rfl dX12_lag_2 eM1 (fun H locs hw => ?_)
  refine lv_iload_n hx hb dX12_lag_5 rfl (lv_at hl 1 rfl) ?_
  refine lv_i2l hx hb dX12_lag_6 rfl ?_
  refine lv_lconst (v := 0) hx hb dX12_lag_7 (by decide) ?_
  refine lv_ldc2 (v := 5) hx hb hC.2.2.2.1 (hC.t wk_X12_62) dX12_lag_8 ?_
  obtain ⟨z2, ez2, hf⟩ := sq_e hf
  refine clc_Si hC hw (c_X12_in ez2.symm) hd_X12_in cw_X12_29 (rest := []) hl.1 rfl (Nat.le_of_ble_eq_true rfl) ⟨Nat.le_of_ble_eq_true rfl, Nat.le_of_ble_eq_true rfl⟩ ⟨Nat.zero_le _, Nat.zero_le _⟩ rfl dX12_lag_11 (fun H locs hw => ?_)
  refine lv_if_eq (tgt := 29) hx hb dX12_lag_14 (by decide) (fun c3 => ?_) (fun c3 => ?_)
  · rw [if_pos c3] at hf
    refine lv_iconst (v := (-1)) hx hb dX12_lag_29 (by decide) ?_
    have hz := Option.some.inj hf
    subst hz
    exact rtc_i hC hw dX12_lag_30
  · rw [if_neg c3] at hf
    refine lv_iload_n hx hb dX12_lag_17 rfl (lv_at hl 2 rfl) ?_
    refine lv_i2l hx hb dX12_lag_18 rfl ?_
    refine lv_lconst (v := 0) hx hb dX12_lag_19 (by decide) ?_
    refine lv_ldc2 (v := 200) hx hb hC.2.2.2.1 (hC.t wk_X12_120) dX12_lag_20 ?_
    obtain ⟨z4, ez4, hf⟩ := sq_e hf
    refine clc_Si hC hw (c_X12_in ez4.symm) hd_X12_in cw_X12_29 (rest := []) hl.1 rfl (Nat.le_of_ble_eq_true rfl) ⟨Nat.le_of_ble_eq_true rfl, Nat.le_of_ble_eq_true rfl⟩ ⟨Nat.zero_le _, Nat.zero_le _⟩ rfl dX12_lag_23 (fun H locs hw => ?_)
    refine lv_if_ne (tgt := 31) hx hb dX12_lag_26 (by decide) (fun c5 => ?_) (fun c5 => ?_)
    · rw [if_neg c5] at hf
      refine lv_aload_n hx hb dX12_lag_31 rfl (lv_at hl 0 rfl) ?_
      refine rg_p hC hw 0 (Nat.le_of_ble_eq_true rfl) rfl fd_X12_19 wf_X12_122 (q := 13) rfl dX12_lag_32 ?_
      refine lv_iload_n hx hb dX12_lag_35 rfl (lv_at hl 1 rfl) ?_
      obtain ⟨h6, hf⟩ := ck_e hf
      refine ra_i hC hw 13 (Nat.le_of_ble_eq_true rfl) rfl h6 dX12_lag_36 ?_
      obtain ⟨y7, ey7, hf⟩ := sq_e hf
      refine lt_i ey7 ?_
      refine lv_istore_n (lv' := [(3, .int y7), (0, .ref (ad 0)), (1, .int x1), (2, .int x2)]) hx hb dX12_lag_37 rfl hl (by decide) rfl (fun ls hl => ?_)
      refine lv_aload_n hx hb dX12_lag_38 rfl (lv_at hl 1 rfl) ?_
      refine rg_p hC hw 0 (Nat.le_of_ble_eq_true rfl) rfl fd_X12_19 wf_X12_122 (q := 13) rfl dX12_lag_39 ?_
      refine lv_iload_n hx hb dX12_lag_42 rfl (lv_at hl 2 rfl) ?_
      refine lv_iload_n hx hb dX12_lag_43 rfl (lv_at hl 3 rfl) ?_
      obtain ⟨h8, hf⟩ := ck_e hf
      obtain ⟨M9, eM9, hf⟩ := sq_e hf
      refine rs_i hC hw 13 (Nat.le_of_ble_eq_true rfl) rfl h8 dX12_lag_44 eM9 (fun H locs hw => ?_)
      refine lv_iload_n hx hb dX12_lag_45 rfl (lv_at hl 0 rfl) ?_
      have hz := Option.some.inj hf
      subst hz
      exact rtc_i hC hw dX12_lag_46
    · rw [if_pos c5] at hf
      refine lv_iconst (v := (-1)) hx hb dX12_lag_29 (by decide) ?_
      have hz := Option.some.inj hf
      subst hz
      exact rtc_i hC hw dX12_lag_30
set_option maxRecDepth 100000 in
theorem c_X12_lag {l : Launch} {D : va_G} {cy : Nat → ClassId} {z0 : Nat} {ad : Nat → Nat} {u : Nat × Nat} {X : va_W} {z : (Int32 × mm_M)} {x1 : Int32} {x2 : Int32} {M : mm_M} (hf : f_X12_lag x1 x2 M = some z) : ct_i rf_T l yX12_lag (Cond.code yX12_lag cX12_lag 4 (some .int)) 1 25 D cy z0 ad u M X [.ref (ad 0), .int x1, .int x2] z.1 z.2 := by
  refine bgc_i (by decide) (fun p e s m below meth c hC hw => ?_)
  refine en_t (Nat.le_of_ble_eq_true rfl) (fun ls hl => ?_)
  have hl : lv_has ls 4 [(0, .ref (ad 0)), (1, .int x1), (2, .int x2)] := hl
  exact k_X12_lag hC hf hw hl
set_option maxRecDepth 100000 in
set_option maxHeartbeats 4000000 in
theorem k_X12_lags_111 {p : Program} {l : Launch} {e : Env} {s : State} {m : MethodId} {args : Array Value} {below : List Frame} {meth : Method} {c : Code} {D : va_G} {cy : Nat → ClassId} {z0 : Nat} {ad : Nat → Nat} {X : va_W} {u : Nat × Nat} (hC : cx_C p s m args meth c cX12_lags "RhymedThenModel" (Cond.code yX12_lags cX12_lags 9 (some .int)) 9 (some .int)) {z : (Int32 × mm_M)} {x1 : Int32} {x2 : Int32} {x4 : Int32} {x5 : Int32} {x6 : Int32} {x7 : Int32} {t1 : Int32} {t2 : Int32} {M : mm_M} {q46 : Int32 → Int32 → Int32 → Int32 → Int32 → Int32 → mm_M → Option (Int32 × mm_M)} (hq46 : ∀ (x1 : Int32) (x2 : Int32) (x4 : Int32) (x5 : Int32) (x6 : Int32) (x7 : Int32) (M : mm_M) (H : Heap) (locs : List Loc) (ls : Array Slot), q46 x1 x2 x4 x5 x6 x7 M = some z → wd_in rf_T D cy z0 ad u M X s H locs → lv_has ls 9 [(0, .ref (ad 0)), (1, .int x1), (2, .int x2), (4, .int x4), (5, .int x5), (6, .int x6), (7, .int x7)] → W p l e { frames := 1, cells := 0, slots := 0, locals := 25 } s m args below meth c H locs 0 0 (MQ below (cq_i rf_T D cy z0 ad u X z.1 z.2) args s 0 0 (fun q => z0 ≤ q)) (F0 m 46 ls [])) (hf : f_X12_lags_111 q46 x1 x2 x4 x5 x6 x7 t1 t2 M = some z) {H : Heap} {locs : List Loc} (hw : wd_in rf_T D cy z0 ad u M X s H locs) {ls : Array Slot} (hl : lv_has ls 9 [(0, .ref (ad 0)), (1, .int x1), (2, .int x2), (4, .int x4), (5, .int x5), (6, .int x6), (7, .int x7)]) : W p l e { frames := 1, cells := 0, slots := 0, locals := 25 } s m args below meth c H locs 0 0 (MQ below (cq_i rf_T D cy z0 ad u X z.1 z.2) args s 0 0 (fun q => z0 ≤ q)) (F0 m 111 ls [.int t2, .int t1, .ref (ad 13)]) := by
  have hx := hC.1
  have hb := hC.2.1
  unfold f_X12_lags_111 at hf
  obtain ⟨h13, hf⟩ := ck_e hf
  obtain ⟨M14, eM14, hf⟩ := sq_e hf
  refine rs_i hC hw 13 (Nat.le_of_ble_eq_true rfl) rfl h13 dX12_lags_111 eM14 (fun H locs hw => ?_)
  refine lv_iload hx hb dX12_lags_112 (lv_at hl 5 rfl) ?_
  refine lv_aload_n hx hb dX12_lags_114 rfl (lv_at hl 0 rfl) ?_
  refine rg_p hC hw 0 (Nat.le_of_ble_eq_true rfl) rfl fd_X12_19 wf_X12_122 (q := 13) rfl dX12_lags_115 ?_
  refine lv_iload hx hb dX12_lags_118 (lv_at hl 6 rfl) ?_
  obtain ⟨h15, hf⟩ := ck_e hf
  refine ra_i hC hw 13 (Nat.le_of_ble_eq_true rfl) rfl h15 dX12_lags_120 ?_
  refine lv_iadd hx hb dX12_lags_121 ?_
  obtain ⟨y16, ey16, hf⟩ := sq_e hf
  refine lt_i ey16 ?_
  refine lv_istore (lv' := [(6, .int y16), (0, .ref (ad 0)), (1, .int x1), (2, .int x2), (4, .int x4), (5, .int x5), (7, .int x7)]) hx hb dX12_lags_122 hl (by decide) rfl (fun ls hl => ?_)
  refine lv_iload hx hb dX12_lags_124 (lv_at hl 5 rfl) ?_
  refine lv_iload hx hb dX12_lags_126 (lv_at hl 4 rfl) ?_
  refine lv_iadd hx hb dX12_lags_128 ?_
  obtain ⟨y17, ey17, hf⟩ := sq_e hf
  refine lt_i ey17 ?_
  refine lv_istore (lv' := [(5, .int y17), (6, .int y16), (0, .ref (ad 0)), (1, .int x1), (2, .int x2), (4, .int x4), (7, .int x7)]) hx hb dX12_lags_129 hl (by decide) rfl (fun ls hl => ?_)
  obtain ⟨y18, ey18, hf⟩ := sq_e hf
  refine lv_iinc (v := y18) (lv' := [(7, .int y18), (5, .int y17), (6, .int y16), (0, .ref (ad 0)), (1, .int x1), (2, .int x2), (4, .int x4)]) hx hb dX12_lags_131 hl (k := 6) rfl (by rw [ey18]; rfl) (by decide) rfl (fun ls hl => ?_)
  refine lv_goto (tgt := 46) hx hb dX12_lags_134 (by decide) ?_
  exact hq46 _ _ _ _ _ _ _ _ _ _ hf hw (lv_sub hl [3, 4, 5, 6, 1, 2, 0] rfl)
set_option maxRecDepth 100000 in
set_option maxHeartbeats 4000000 in
theorem k_X12_lags_95 {p : Program} {l : Launch} {e : Env} {s : State} {m : MethodId} {args : Array Value} {below : List Frame} {meth : Method} {c : Code} {D : va_G} {cy : Nat → ClassId} {z0 : Nat} {ad : Nat → Nat} {X : va_W} {u : Nat × Nat} (hC : cx_C p s m args meth c cX12_lags "RhymedThenModel" (Cond.code yX12_lags cX12_lags 9 (some .int)) 9 (some .int)) {z : (Int32 × mm_M)} {x1 : Int32} {x2 : Int32} {x4 : Int32} {x5 : Int32} {x6 : Int32} {x7 : Int32} {t1 : Int32} {M : mm_M} {q46 : Int32 → Int32 → Int32 → Int32 → Int32 → Int32 → mm_M → Option (Int32 × mm_M)} (hq46 : ∀ (x1 : Int32) (x2 : Int32) (x4 : Int32) (x5 : Int32) (x6 : Int32) (x7 : Int32) (M : mm_M) (H : Heap) (locs : List Loc) (ls : Array Slot), q46 x1 x2 x4 x5 x6 x7 M = some z → wd_in rf_T D cy z0 ad u M X s H locs → lv_has ls 9 [(0, .ref (ad 0)), (1, .int x1), (2, .int x2), (4, .int x4), (5, .int x5), (6, .int x6), (7, .int x7)] → W p l e { frames := 1, cells := 0, slots := 0, locals := 25 } s m args below meth c H locs 0 0 (MQ below (cq_i rf_T D cy z0 ad u X z.1 z.2) args s 0 0 (fun q => z0 ≤ q)) (F0 m 46 ls [])) (hf : f_X12_lags_95 q46 x1 x2 x4 x5 x6 x7 t1 M = some z) {H : Heap} {locs : List Loc} (hw : wd_in rf_T D cy z0 ad u M X s H locs) {ls : Array Slot} (hl : lv_has ls 9 [(0, .ref (ad 0)), (1, .int x1), (2, .int x2), (4, .int x4), (5, .int x5), (6, .int x6), (7, .int x7)]) : W p l e { frames := 1, cells := 0, slots := 0, locals := 25 } s m args below meth c H locs 0 0 (MQ below (cq_i rf_T D cy z0 ad u X z.1 z.2) args s 0 0 (fun q => z0 ≤ q)) (F0 m 95 ls [.int t1, .ref (ad 13)]) := by
  have hx := hC.1
  have hb := hC.2.1
  unfold f_X12_lags_95 at hf
  refine lv_iconst (v := 0) hx hb dX12_lags_95 (by decide) ?_
  refine lv_goto (tgt := 111) hx hb dX12_lags_96 (by decide) ?_
  exact k_X12_lags_111 hC hq46 hf hw (lv_sub hl [0, 1, 2, 3, 4, 5, 6] rfl)
set_option maxRecDepth 100000 in
set_option maxHeartbeats 4000000 in
theorem k_X12_lags_76 {p : Program} {l : Launch} {e : Env} {s : State} {m : MethodId} {args : Array Value} {below : List Frame} {meth : Method} {c : Code} {D : va_G} {cy : Nat → ClassId} {z0 : Nat} {ad : Nat → Nat} {X : va_W} {u : Nat × Nat} (hC : cx_C p s m args meth c cX12_lags "RhymedThenModel" (Cond.code yX12_lags cX12_lags 9 (some .int)) 9 (some .int)) {z : (Int32 × mm_M)} {x1 : Int32} {x2 : Int32} {x4 : Int32} {x5 : Int32} {x6 : Int32} {x7 : Int32} {t0 : Int32} {M : mm_M} {q46 : Int32 → Int32 → Int32 → Int32 → Int32 → Int32 → mm_M → Option (Int32 × mm_M)} (hq46 : ∀ (x1 : Int32) (x2 : Int32) (x4 : Int32) (x5 : Int32) (x6 : Int32) (x7 : Int32) (M : mm_M) (H : Heap) (locs : List Loc) (ls : Array Slot), q46 x1 x2 x4 x5 x6 x7 M = some z → wd_in rf_T D cy z0 ad u M X s H locs → lv_has ls 9 [(0, .ref (ad 0)), (1, .int x1), (2, .int x2), (4, .int x4), (5, .int x5), (6, .int x6), (7, .int x7)] → W p l e { frames := 1, cells := 0, slots := 0, locals := 25 } s m args below meth c H locs 0 0 (MQ below (cq_i rf_T D cy z0 ad u X z.1 z.2) args s 0 0 (fun q => z0 ≤ q)) (F0 m 46 ls [])) (hf : f_X12_lags_76 q46 x1 x2 x4 x5 x6 x7 t0 M = some z) {H : Heap} {locs : List Loc} (hw : wd_in rf_T D cy z0 ad u M X s H locs) {ls : Array Slot} (hl : lv_has ls 9 [(0, .ref (ad 0)), (1, .int x1), (2, .int x2), (4, .int x4), (5, .int x5), (6, .int x6), (7, .int x7)]) : W p l e { frames := 1, cells := 0, slots := 0, locals := 25 } s m args below meth c H locs 0 0 (MQ below (cq_i rf_T D cy z0 ad u X z.1 z.2) args s 0 0 (fun q => z0 ≤ q)) (F0 m 76 ls [.int t0]) := by
  have hx := hC.1
  have hb := hC.2.1
  unfold f_X12_lags_76 at hf
  refine lv_istore (lv' := [(8, .int t0), (0, .ref (ad 0)), (1, .int x1), (2, .int x2), (4, .int x4), (5, .int x5), (6, .int x6), (7, .int x7)]) hx hb dX12_lags_76 hl (by decide) rfl (fun ls hl => ?_)
  refine lv_aload_n hx hb dX12_lags_78 rfl (lv_at hl 1 rfl) ?_
  refine rg_p hC hw 0 (Nat.le_of_ble_eq_true rfl) rfl fd_X12_19 wf_X12_122 (q := 13) rfl dX12_lags_79 ?_
  refine lv_iload hx hb dX12_lags_82 (lv_at hl 7 rfl) ?_
  refine lv_iload_n hx hb dX12_lags_84 rfl (lv_at hl 2 rfl) ?_
  refine lv_iconst (v := 3) hx hb dX12_lags_85 (by decide) ?_
  refine lv_icmp_eq (tgt := 95) hx hb dX12_lags_86 (by decide) (fun c11 => ?_) (fun c11 => ?_)
  · rw [if_pos c11] at hf
    exact k_X12_lags_95 hC hq46 hf hw (lv_sub hl [1, 2, 3, 4, 5, 6, 7] rfl)
  · rw [if_neg c11] at hf
    refine lv_iload hx hb dX12_lags_89 (lv_at hl 7 rfl) ?_
    refine lv_iload_n hx hb dX12_lags_91 rfl (lv_at hl 3 rfl) ?_
    refine lv_icmp_lt (tgt := 99) hx hb dX12_lags_92 (by decide) (fun c12 => ?_) (fun c12 => ?_)
    · rw [if_pos c12] at hf
      refine lv_iconst (v := 0) hx hb dX12_lags_99 (by decide) ?_
      refine lv_sipush (v := 200) hx hb dX12_lags_100 (by decide) ?_
      refine lv_iload hx hb dX12_lags_103 (lv_at hl 0 rfl) ?_
      refine mx_min hC (rest := [.int 0, .int x7, .ref (ad 13)]) wm_X12_69 hl.1 ⟨Nat.le_of_ble_eq_true rfl, Nat.le_of_ble_eq_true rfl⟩ ⟨Nat.zero_le _, Nat.zero_le _⟩ dX12_lags_105 ?_
      refine mx_max hC (rest := [.int x7, .ref (ad 13)]) wm_X12_127 hl.1 ⟨Nat.le_of_ble_eq_true rfl, Nat.le_of_ble_eq_true rfl⟩ ⟨Nat.zero_le _, Nat.zero_le _⟩ dX12_lags_108 ?_
      exact k_X12_lags_111 hC hq46 hf hw (lv_sub hl [1, 2, 3, 4, 5, 6, 7] rfl)
    · rw [if_neg c12] at hf
      exact k_X12_lags_95 hC hq46 hf hw (lv_sub hl [1, 2, 3, 4, 5, 6, 7] rfl)
set_option maxRecDepth 100000 in
set_option maxHeartbeats 4000000 in
theorem k_X12_lags_137 {p : Program} {l : Launch} {e : Env} {s : State} {m : MethodId} {args : Array Value} {below : List Frame} {meth : Method} {c : Code} {D : va_G} {cy : Nat → ClassId} {z0 : Nat} {ad : Nat → Nat} {X : va_W} {u : Nat × Nat} (hC : cx_C p s m args meth c cX12_lags "RhymedThenModel" (Cond.code yX12_lags cX12_lags 9 (some .int)) 9 (some .int)) {z : (Int32 × mm_M)} {x1 : Int32} {x6 : Int32} {M : mm_M} (hf : f_X12_lags_137 x1 x6 M = some z) {H : Heap} {locs : List Loc} (hw : wd_in rf_T D cy z0 ad u M X s H locs) {ls : Array Slot} (hl : lv_has ls 9 [(1, .int x1), (6, .int x6)]) : W p l e { frames := 1, cells := 0, slots := 0, locals := 25 } s m args below meth c H locs 0 0 (MQ below (cq_i rf_T D cy z0 ad u X z.1 z.2) args s 0 0 (fun q => z0 ≤ q)) (F0 m 137 ls []) := by
  have hx := hC.1
  have hb := hC.2.1
  unfold f_X12_lags_137 at hf
  refine lv_iload_n hx hb dX12_lags_137 rfl (lv_at hl 0 rfl) ?_
  refine lv_iconst (v := 3) hx hb dX12_lags_138 (by decide) ?_
  refine lv_icmp_ne (tgt := 147) hx hb dX12_lags_139 (by decide) (fun c10 => ?_) (fun c10 => ?_)
  · rw [if_neg c10] at hf
    refine lv_iload hx hb dX12_lags_147 (lv_at hl 1 rfl) ?_
    have hz := Option.some.inj hf
    subst hz
    exact rtc_i hC hw dX12_lags_149
  · rw [if_pos c10] at hf
    refine lv_bipush (v := (-3)) hx hb dX12_lags_142 (by decide) ?_
    refine lv_goto (tgt := 149) hx hb dX12_lags_144 (by decide) ?_
    have hz := Option.some.inj hf
    subst hz
    exact rtc_i hC hw dX12_lags_149
set_option maxRecDepth 100000 in
set_option maxHeartbeats 4000000 in
theorem k_X12_lags_46 {p : Program} {l : Launch} {e : Env} {s : State} {m : MethodId} {args : Array Value} {below : List Frame} {meth : Method} {c : Code} {D : va_G} {cy : Nat → ClassId} {z0 : Nat} {ad : Nat → Nat} {X : va_W} {u : Nat × Nat} (hC : cx_C p s m args meth c cX12_lags "RhymedThenModel" (Cond.code yX12_lags cX12_lags 9 (some .int)) 9 (some .int)) {z : (Int32 × mm_M)} {x1 : Int32} {x2 : Int32} {x4 : Int32} {x5 : Int32} {x6 : Int32} {x7 : Int32} {M : mm_M} {q46 : Int32 → Int32 → Int32 → Int32 → Int32 → Int32 → mm_M → Option (Int32 × mm_M)} (hq46 : ∀ (x1 : Int32) (x2 : Int32) (x4 : Int32) (x5 : Int32) (x6 : Int32) (x7 : Int32) (M : mm_M) (H : Heap) (locs : List Loc) (ls : Array Slot), q46 x1 x2 x4 x5 x6 x7 M = some z → wd_in rf_T D cy z0 ad u M X s H locs → lv_has ls 9 [(0, .ref (ad 0)), (1, .int x1), (2, .int x2), (4, .int x4), (5, .int x5), (6, .int x6), (7, .int x7)] → W p l e { frames := 1, cells := 0, slots := 0, locals := 25 } s m args below meth c H locs 0 0 (MQ below (cq_i rf_T D cy z0 ad u X z.1 z.2) args s 0 0 (fun q => z0 ≤ q)) (F0 m 46 ls [])) (hf : f_X12_lags_46 q46 x1 x2 x4 x5 x6 x7 M = some z) {H : Heap} {locs : List Loc} (hw : wd_in rf_T D cy z0 ad u M X s H locs) {ls : Array Slot} (hl : lv_has ls 9 [(0, .ref (ad 0)), (1, .int x1), (2, .int x2), (4, .int x4), (5, .int x5), (6, .int x6), (7, .int x7)]) : W p l e { frames := 1, cells := 0, slots := 0, locals := 25 } s m args below meth c H locs 0 0 (MQ below (cq_i rf_T D cy z0 ad u X z.1 z.2) args s 0 0 (fun q => z0 ≤ q)) (F0 m 46 ls []) := by
  have hx := hC.1
  have hb := hC.2.1
  unfold f_X12_lags_46 at hf
  refine lv_iload hx hb dX12_lags_46 (lv_at hl 6 rfl) ?_
  refine lv_bipush (v := 6) hx hb dX12_lags_48 (by decide) ?_
  refine lv_icmp_ge (tgt := 137) hx hb dX12_lags_50 (by decide) (fun c7 => ?_) (fun c7 => ?_)
  · rw [if_pos c7] at hf
    exact k_X12_lags_137 hC hf hw (lv_sub hl [1, 5] rfl)
  · rw [if_neg c7] at hf
    refine lv_iload_n hx hb dX12_lags_53 rfl (lv_at hl 1 rfl) ?_
    refine lv_if_ne (tgt := 63) hx hb dX12_lags_54 (by decide) (fun c8 => ?_) (fun c8 => ?_)
    · rw [if_neg c8] at hf
      refine lv_iload_n hx hb dX12_lags_63 rfl (lv_at hl 1 rfl) ?_
      refine lv_iconst (v := 1) hx hb dX12_lags_64 (by decide) ?_
      refine lv_icmp_ne (tgt := 74) hx hb dX12_lags_65 (by decide) (fun c9 => ?_) (fun c9 => ?_)
      · rw [if_neg c9] at hf
        refine lv_iload hx hb dX12_lags_74 (lv_at hl 4 rfl) ?_
        exact k_X12_lags_76 hC hq46 hf hw (lv_sub hl [0, 1, 2, 3, 4, 5, 6] rfl)
      · rw [if_pos c9] at hf
        refine lv_iload hx hb dX12_lags_68 (lv_at hl 4 rfl) ?_
        refine lv_i2s hx hb dX12_lags_70 rfl ?_
        refine lv_goto (tgt := 76) hx hb dX12_lags_71 (by decide) ?_
        exact k_X12_lags_76 hC hq46 hf hw (lv_sub hl [0, 1, 2, 3, 4, 5, 6] rfl)
    · rw [if_pos c8] at hf
      refine lv_iload hx hb dX12_lags_57 (lv_at hl 4 rfl) ?_
      refine lv_i2b hx hb dX12_lags_59 rfl ?_
      refine lv_goto (tgt := 76) hx hb dX12_lags_60 (by decide) ?_
      exact k_X12_lags_76 hC hq46 hf hw (lv_sub hl [0, 1, 2, 3, 4, 5, 6] rfl)
set_option maxRecDepth 100000 in
set_option maxHeartbeats 4000000 in
theorem k_X12_lags_46l {p : Program} {l : Launch} {e : Env} {s : State} {m : MethodId} {args : Array Value} {below : List Frame} {meth : Method} {c : Code} {D : va_G} {cy : Nat → ClassId} {z0 : Nat} {ad : Nat → Nat} {X : va_W} {u : Nat × Nat} (hC : cx_C p s m args meth c cX12_lags "RhymedThenModel" (Cond.code yX12_lags cX12_lags 9 (some .int)) 9 (some .int)) {z : (Int32 × mm_M)} : ∀ (n : Nat) (x1 : Int32) (x2 : Int32) (x4 : Int32) (x5 : Int32) (x6 : Int32) (x7 : Int32) (M : mm_M) (H : Heap) (locs : List Loc) (ls : Array Slot), f_X12_lags_46l n x1 x2 x4 x5 x6 x7 M = some z → wd_in rf_T D cy z0 ad u M X s H locs → lv_has ls 9 [(0, .ref (ad 0)), (1, .int x1), (2, .int x2), (4, .int x4), (5, .int x5), (6, .int x6), (7, .int x7)] → W p l e { frames := 1, cells := 0, slots := 0, locals := 25 } s m args below meth c H locs 0 0 (MQ below (cq_i rf_T D cy z0 ad u X z.1 z.2) args s 0 0 (fun q => z0 ≤ q)) (F0 m 46 ls []) := by
  intro n
  induction n with
  | zero => intro x1 x2 x4 x5 x6 x7 M H locs ls hf; exact absurd hf (by simp [f_X12_lags_46l])
  | succ n ih => intro x1 x2 x4 x5 x6 x7 M H locs ls hf hw hl; exact k_X12_lags_46 hC ih hf hw hl
set_option maxRecDepth 100000 in
set_option maxHeartbeats 4000000 in
theorem k_X12_lags_37 {p : Program} {l : Launch} {e : Env} {s : State} {m : MethodId} {args : Array Value} {below : List Frame} {meth : Method} {c : Code} {D : va_G} {cy : Nat → ClassId} {z0 : Nat} {ad : Nat → Nat} {X : va_W} {u : Nat × Nat} (hC : cx_C p s m args meth c cX12_lags "RhymedThenModel" (Cond.code yX12_lags cX12_lags 9 (some .int)) 9 (some .int)) {z : (Int32 × mm_M)} {x1 : Int32} {x2 : Int32} {x3 : Int32} {x4 : Int32} {M : mm_M} (hf : f_X12_lags_37 x1 x2 x3 x4 M = some z) {H : Heap} {locs : List Loc} (hw : wd_in rf_T D cy z0 ad u M X s H locs) {ls : Array Slot} (hl : lv_has ls 9 [(0, .ref (ad 0)), (1, .int x1), (2, .int x2), (3, .int x3), (4, .int x4)]) : W p l e { frames := 1, cells := 0, slots := 0, locals := 25 } s m args below meth c H locs 0 0 (MQ below (cq_i rf_T D cy z0 ad u X z.1 z.2) args s 0 0 (fun q => z0 ≤ q)) (F0 m 37 ls []) := by
  have hx := hC.1
  have hb := hC.2.1
  unfold f_X12_lags_37 at hf
  refine lv_iload_n hx hb dX12_lags_37 rfl (lv_at hl 3 rfl) ?_
  refine lv_istore (lv' := [(5, .int x3), (0, .ref (ad 0)), (1, .int x1), (2, .int x2), (3, .int x3), (4, .int x4)]) hx hb dX12_lags_38 hl (by decide) rfl (fun ls hl => ?_)
  refine lv_iconst (v := 0) hx hb dX12_lags_40 (by decide) ?_
  refine lv_istore (lv' := [(6, .int 0), (5, .int x3), (0, .ref (ad 0)), (1, .int x1), (2, .int x2), (3, .int x3), (4, .int x4)]) hx hb dX12_lags_41 hl (by decide) rfl (fun ls hl => ?_)
  refine lv_iconst (v := 0) hx hb dX12_lags_43 (by decide) ?_
  refine lv_istore (lv' := [(7, .int 0), (6, .int 0), (5, .int x3), (0, .ref (ad 0)), (1, .int x1), (2, .int x2), (3, .int x3), (4, .int x4)]) hx hb dX12_lags_44 hl (by decide) rfl (fun ls hl => ?_)
  exact k_X12_lags_46l hC fu_ _ _ _ _ _ _ _ _ _ _ hf hw (lv_sub hl [3, 4, 5, 7, 2, 1, 0] rfl)
set_option maxRecDepth 100000 in
set_option maxHeartbeats 4000000 in
theorem k_X12_lags {p : Program} {l : Launch} {e : Env} {s : State} {m : MethodId} {args : Array Value} {below : List Frame} {meth : Method} {c : Code} {D : va_G} {cy : Nat → ClassId} {z0 : Nat} {ad : Nat → Nat} {X : va_W} {u : Nat × Nat} (hC : cx_C p s m args meth c cX12_lags "RhymedThenModel" (Cond.code yX12_lags cX12_lags 9 (some .int)) 9 (some .int)) {z : (Int32 × mm_M)} {x1 : Int32} {x2 : Int32} {x3 : Int32} {x4 : Int32} {M : mm_M} (hf : f_X12_lags x1 x2 x3 x4 M = some z) {H : Heap} {locs : List Loc} (hw : wd_in rf_T D cy z0 ad u M X s H locs) {ls : Array Slot} (hl : lv_has ls 9 [(0, .ref (ad 0)), (1, .int x1), (2, .int x2), (3, .int x3), (4, .int x4)]) : W p l e { frames := 1, cells := 0, slots := 0, locals := 25 } s m args below meth c H locs 0 0 (MQ below (cq_i rf_T D cy z0 ad u X z.1 z.2) args s 0 0 (fun q => z0 ≤ q)) (F0 m 0 ls []) := by
  have hx := hC.1
  have hb := hC.2.1
  unfold f_X12_lags at hf
  refine lv_aload_n hx hb dX12_lags_0 rfl (lv_at hl 0 rfl) ?_
  refine lv_iconst (v := 0) hx hb dX12_lags_1 (by decide) ?_
  obtain ⟨M1, eM1, hf⟩ := sq_e hf
  refine rp_i hC hw 0 (Nat.le_of_ble_eq_true rfl) rfl fd_X12_0 wf_X12_1 fp_X12_0 rfl rfl dX12_lags_2 eM1 (fun H locs hw => ?_)
  refine lv_iload_n hx hb dX12_lags_5 rfl (lv_at hl 1 rfl) ?_
  refine lv_i2l hx hb dX12_lags_6 rfl ?_
  refine lv_lconst (v := 0) hx hb dX12_lags_7 (by decide) ?_
  refine lv_ldc2 (v := 3) hx hb hC.2.2.2.1 (hC.t wk_X12_125) dX12_lags_8 ?_
  obtain ⟨z2, ez2, hf⟩ := sq_e hf
  refine clc_Si hC hw (c_X12_in ez2.symm) hd_X12_in cw_X12_29 (rest := []) hl.1 rfl (Nat.le_of_ble_eq_true rfl) ⟨Nat.le_of_ble_eq_true rfl, Nat.le_of_ble_eq_true rfl⟩ ⟨Nat.zero_le _, Nat.zero_le _⟩ rfl dX12_lags_11 (fun H locs hw => ?_)
  refine lv_if_eq (tgt := 23) hx hb dX12_lags_14 (by decide) (fun c3 => ?_) (fun c3 => ?_)
  · rw [if_pos c3] at hf
    refine lv_iconst (v := (-1)) hx hb dX12_lags_23 (by decide) ?_
    have hz := Option.some.inj hf
    subst hz
    exact rtc_i hC hw dX12_lags_24
  · rw [if_neg c3] at hf
    refine lv_iload_n hx hb dX12_lags_17 rfl (lv_at hl 2 rfl) ?_
    refine lv_bipush (v := 6) hx hb dX12_lags_18 (by decide) ?_
    refine lv_icmp_le (tgt := 25) hx hb dX12_lags_20 (by decide) (fun c4 => ?_) (fun c4 => ?_)
    · rw [if_pos c4] at hf
      refine lv_iload_n hx hb dX12_lags_25 rfl (lv_at hl 1 rfl) ?_
      refine lv_iconst (v := 3) hx hb dX12_lags_26 (by decide) ?_
      refine lv_icmp_eq (tgt := 37) hx hb dX12_lags_27 (by decide) (fun c5 => ?_) (fun c5 => ?_)
      · rw [if_pos c5] at hf
        exact k_X12_lags_37 hC hf hw (lv_sub hl [0, 1, 2, 3, 4] rfl)
      · rw [if_neg c5] at hf
        refine lv_iload_n hx hb dX12_lags_30 rfl (lv_at hl 2 rfl) ?_
        refine lv_if_ge (tgt := 37) hx hb dX12_lags_31 (by decide) (fun c6 => ?_) (fun c6 => ?_)
        · rw [if_pos c6] at hf
          exact k_X12_lags_37 hC hf hw (lv_sub hl [0, 1, 2, 3, 4] rfl)
        · rw [if_neg c6] at hf
          refine lv_bipush (v := (-2)) hx hb dX12_lags_34 (by decide) ?_
          have hz := Option.some.inj hf
          subst hz
          exact rtc_i hC hw dX12_lags_36
    · rw [if_neg c4] at hf
      refine lv_iconst (v := (-1)) hx hb dX12_lags_23 (by decide) ?_
      have hz := Option.some.inj hf
      subst hz
      exact rtc_i hC hw dX12_lags_24
set_option maxRecDepth 100000 in
theorem c_X12_lags {l : Launch} {D : va_G} {cy : Nat → ClassId} {z0 : Nat} {ad : Nat → Nat} {u : Nat × Nat} {X : va_W} {z : (Int32 × mm_M)} {x1 : Int32} {x2 : Int32} {x3 : Int32} {x4 : Int32} {M : mm_M} (hf : f_X12_lags x1 x2 x3 x4 M = some z) : ct_i rf_T l yX12_lags (Cond.code yX12_lags cX12_lags 9 (some .int)) 1 25 D cy z0 ad u M X [.ref (ad 0), .int x1, .int x2, .int x3, .int x4] z.1 z.2 := by
  refine bgc_i (by decide) (fun p e s m below meth c hC hw => ?_)
  refine en_t (Nat.le_of_ble_eq_true rfl) (fun ls hl => ?_)
  have hl : lv_has ls 9 [(0, .ref (ad 0)), (1, .int x1), (2, .int x2), (3, .int x3), (4, .int x4)] := hl
  exact k_X12_lags hC hf hw hl
set_option maxRecDepth 100000 in
set_option maxHeartbeats 4000000 in
theorem k_X12_yearOf_32 {p : Program} {l : Launch} {e : Env} {s : State} {m : MethodId} {args : Array Value} {below : List Frame} {meth : Method} {c : Code} {D : va_G} {cy : Nat → ClassId} {z0 : Nat} {ad : Nat → Nat} {X : va_W} {u : Nat × Nat} (hC : cx_C p s m args meth c cX12_yearOf "RhymedThenModel" (Cond.code yX12_yearOf cX12_yearOf 5 (some .int)) 5 (some .int)) {z : Int32} {x1 : Int32} {x3 : Int32} {M : mm_M} (hf : f_X12_yearOf_32 x1 x3 M = some z) {H : Heap} {locs : List Loc} (hw : wd_in rf_T D cy z0 ad u M X s H locs) {ls : Array Slot} (hl : lv_has ls 5 [(0, .ref (ad 0)), (1, .int x1), (3, .int x3)]) : W p l e { frames := 0, cells := 0, slots := 0, locals := 0 } s m args below meth c H locs 0 0 (MQ below (cq_i rf_T D cy z0 ad u X z M) args s 0 0 (fun q => z0 ≤ q)) (F0 m 32 ls []) := by
  have hx := hC.1
  have hb := hC.2.1
  unfold f_X12_yearOf_32 at hf
  refine lv_aload_n hx hb dX12_yearOf_32 rfl (lv_at hl 0 rfl) ?_
  refine rg_p hC hw 0 (Nat.le_of_ble_eq_true rfl) rfl fd_X12_16 wf_X12_114 (q := 10) rfl dX12_yearOf_33 ?_
  refine lv_iload_n hx hb dX12_yearOf_36 rfl (lv_at hl 1 rfl) ?_
  obtain ⟨h7, hf⟩ := ck_e hf
  refine ra_i hC hw 10 (Nat.le_of_ble_eq_true rfl) rfl h7 dX12_yearOf_37 ?_
  refine lv_aload_n hx hb dX12_yearOf_38 rfl (lv_at hl 0 rfl) ?_
  refine rg_p hC hw 0 (Nat.le_of_ble_eq_true rfl) rfl fd_X12_17 wf_X12_117 (q := 11) rfl dX12_yearOf_39 ?_
  refine lv_iload_n hx hb dX12_yearOf_42 rfl (lv_at hl 1 rfl) ?_
  obtain ⟨h8, hf⟩ := ck_e hf
  refine ra_i hC hw 11 (Nat.le_of_ble_eq_true rfl) rfl h8 dX12_yearOf_43 ?_
  refine lv_iload_n hx hb dX12_yearOf_44 rfl (lv_at hl 2 rfl) ?_
  refine lv_aload_n hx hb dX12_yearOf_45 rfl (lv_at hl 0 rfl) ?_
  refine rg_p hC hw 0 (Nat.le_of_ble_eq_true rfl) rfl fd_X12_18 wf_X12_102 (q := 12) rfl dX12_yearOf_46 ?_
  refine lv_iload_n hx hb dX12_yearOf_49 rfl (lv_at hl 1 rfl) ?_
  obtain ⟨h9, hf⟩ := ck_e hf
  refine ra_i hC hw 12 (Nat.le_of_ble_eq_true rfl) rfl h9 dX12_yearOf_50 ?_
  obtain ⟨h10, hf⟩ := ck_e hf
  refine lv_irem hx hb dX12_yearOf_51 h10 ?_
  refine lv_imul hx hb dX12_yearOf_52 ?_
  refine lv_iadd hx hb dX12_yearOf_53 ?_
  have hz := Option.some.inj hf
  subst hz
  exact rtc_i hC hw dX12_yearOf_54
set_option maxRecDepth 100000 in
set_option maxHeartbeats 4000000 in
theorem k_X12_yearOf_10 {p : Program} {l : Launch} {e : Env} {s : State} {m : MethodId} {args : Array Value} {below : List Frame} {meth : Method} {c : Code} {D : va_G} {cy : Nat → ClassId} {z0 : Nat} {ad : Nat → Nat} {X : va_W} {u : Nat × Nat} (hC : cx_C p s m args meth c cX12_yearOf "RhymedThenModel" (Cond.code yX12_yearOf cX12_yearOf 5 (some .int)) 5 (some .int)) {z : Int32} {x1 : Int32} {x3 : Int32} {x4 : Int32} {M : mm_M} {q10 : Int32 → Int32 → Int32 → Option Int32} (hq10 : ∀ (x1 : Int32) (x3 : Int32) (x4 : Int32) (H : Heap) (locs : List Loc) (ls : Array Slot), q10 x1 x3 x4 = some z → wd_in rf_T D cy z0 ad u M X s H locs → lv_has ls 5 [(0, .ref (ad 0)), (1, .int x1), (3, .int x3), (4, .int x4)] → W p l e { frames := 0, cells := 0, slots := 0, locals := 0 } s m args below meth c H locs 0 0 (MQ below (cq_i rf_T D cy z0 ad u X z M) args s 0 0 (fun q => z0 ≤ q)) (F0 m 10 ls [])) (hf : f_X12_yearOf_10 q10 x1 x3 x4 M = some z) {H : Heap} {locs : List Loc} (hw : wd_in rf_T D cy z0 ad u M X s H locs) {ls : Array Slot} (hl : lv_has ls 5 [(0, .ref (ad 0)), (1, .int x1), (3, .int x3), (4, .int x4)]) : W p l e { frames := 0, cells := 0, slots := 0, locals := 0 } s m args below meth c H locs 0 0 (MQ below (cq_i rf_T D cy z0 ad u X z M) args s 0 0 (fun q => z0 ≤ q)) (F0 m 10 ls []) := by
  have hx := hC.1
  have hb := hC.2.1
  unfold f_X12_yearOf_10 at hf
  refine lv_iload hx hb dX12_yearOf_10 (lv_at hl 3 rfl) ?_
  refine lv_iload_n hx hb dX12_yearOf_12 rfl (lv_at hl 1 rfl) ?_
  refine lv_icmp_le (tgt := 32) hx hb dX12_yearOf_13 (by decide) (fun c2 => ?_) (fun c2 => ?_)
  · rw [if_pos c2] at hf
    exact k_X12_yearOf_32 hC hf hw (lv_sub hl [0, 1, 2] rfl)
  · rw [if_neg c2] at hf
    refine lv_iload_n hx hb dX12_yearOf_16 rfl (lv_at hl 2 rfl) ?_
    refine lv_aload_n hx hb dX12_yearOf_17 rfl (lv_at hl 0 rfl) ?_
    refine rg_p hC hw 0 (Nat.le_of_ble_eq_true rfl) rfl fd_X12_18 wf_X12_102 (q := 12) rfl dX12_yearOf_18 ?_
    refine lv_iload hx hb dX12_yearOf_21 (lv_at hl 3 rfl) ?_
    obtain ⟨h3, hf⟩ := ck_e hf
    refine ra_i hC hw 12 (Nat.le_of_ble_eq_true rfl) rfl h3 dX12_yearOf_23 ?_
    obtain ⟨h4, hf⟩ := ck_e hf
    refine lv_idiv hx hb dX12_yearOf_24 h4 ?_
    obtain ⟨y5, ey5, hf⟩ := sq_e hf
    refine lt_i ey5 ?_
    refine lv_istore_n (lv' := [(3, .int y5), (0, .ref (ad 0)), (1, .int x1), (4, .int x4)]) hx hb dX12_yearOf_25 rfl hl (by decide) rfl (fun ls hl => ?_)
    obtain ⟨y6, ey6, hf⟩ := sq_e hf
    refine lv_iinc (v := y6) (lv' := [(4, .int y6), (3, .int y5), (0, .ref (ad 0)), (1, .int x1)]) hx hb dX12_yearOf_26 hl (k := 3) rfl (by rw [ey6]; rfl) (by decide) rfl (fun ls hl => ?_)
    refine lv_goto (tgt := 10) hx hb dX12_yearOf_29 (by decide) ?_
    exact hq10 _ _ _ _ _ _ hf hw (lv_sub hl [2, 3, 1, 0] rfl)
set_option maxRecDepth 100000 in
set_option maxHeartbeats 4000000 in
theorem k_X12_yearOf_10l {p : Program} {l : Launch} {e : Env} {s : State} {m : MethodId} {args : Array Value} {below : List Frame} {meth : Method} {c : Code} {D : va_G} {cy : Nat → ClassId} {z0 : Nat} {ad : Nat → Nat} {X : va_W} {u : Nat × Nat} (hC : cx_C p s m args meth c cX12_yearOf "RhymedThenModel" (Cond.code yX12_yearOf cX12_yearOf 5 (some .int)) 5 (some .int)) {z : Int32} {M : mm_M} : ∀ (n : Nat) (x1 : Int32) (x3 : Int32) (x4 : Int32) (H : Heap) (locs : List Loc) (ls : Array Slot), f_X12_yearOf_10l M n x1 x3 x4 = some z → wd_in rf_T D cy z0 ad u M X s H locs → lv_has ls 5 [(0, .ref (ad 0)), (1, .int x1), (3, .int x3), (4, .int x4)] → W p l e { frames := 0, cells := 0, slots := 0, locals := 0 } s m args below meth c H locs 0 0 (MQ below (cq_i rf_T D cy z0 ad u X z M) args s 0 0 (fun q => z0 ≤ q)) (F0 m 10 ls []) := by
  intro n
  induction n with
  | zero => intro x1 x3 x4 H locs ls hf; exact absurd hf (by simp [f_X12_yearOf_10l])
  | succ n ih => intro x1 x3 x4 H locs ls hf hw hl; exact k_X12_yearOf_10 hC ih hf hw hl
set_option maxRecDepth 100000 in
set_option maxHeartbeats 4000000 in
theorem k_X12_yearOf {p : Program} {l : Launch} {e : Env} {s : State} {m : MethodId} {args : Array Value} {below : List Frame} {meth : Method} {c : Code} {D : va_G} {cy : Nat → ClassId} {z0 : Nat} {ad : Nat → Nat} {X : va_W} {u : Nat × Nat} (hC : cx_C p s m args meth c cX12_yearOf "RhymedThenModel" (Cond.code yX12_yearOf cX12_yearOf 5 (some .int)) 5 (some .int)) {z : Int32} {x1 : Int32} {x2 : Int32} {M : mm_M} (hf : f_X12_yearOf x1 x2 M = some z) {H : Heap} {locs : List Loc} (hw : wd_in rf_T D cy z0 ad u M X s H locs) {ls : Array Slot} (hl : lv_has ls 5 [(0, .ref (ad 0)), (1, .int x1), (2, .int x2)]) : W p l e { frames := 0, cells := 0, slots := 0, locals := 0 } s m args below meth c H locs 0 0 (MQ below (cq_i rf_T D cy z0 ad u X z M) args s 0 0 (fun q => z0 ≤ q)) (F0 m 0 ls []) := by
  have hx := hC.1
  have hb := hC.2.1
  unfold f_X12_yearOf at hf
  refine lv_iload_n hx hb dX12_yearOf_0 rfl (lv_at hl 2 rfl) ?_
  refine lv_istore_n (lv' := [(3, .int x2), (0, .ref (ad 0)), (1, .int x1), (2, .int x2)]) hx hb dX12_yearOf_1 rfl hl (by decide) rfl (fun ls hl => ?_)
  refine lv_aload_n hx hb dX12_yearOf_2 rfl (lv_at hl 1 rfl) ?_
  refine rg_i hC hw 0 (Nat.le_of_ble_eq_true rfl) rfl fd_X12_11 wf_X12_99 dX12_yearOf_3 ?_
  refine lv_iconst (v := 1) hx hb dX12_yearOf_6 (by decide) ?_
  refine lv_isub hx hb dX12_yearOf_7 ?_
  obtain ⟨y1, ey1, hf⟩ := sq_e hf
  refine lt_i ey1 ?_
  refine lv_istore (lv' := [(4, .int y1), (3, .int x2), (0, .ref (ad 0)), (1, .int x1), (2, .int x2)]) hx hb dX12_yearOf_8 hl (by decide) rfl (fun ls hl => ?_)
  exact k_X12_yearOf_10l hC fu_ _ _ _ _ _ _ hf hw (lv_sub hl [2, 3, 1, 0] rfl)
set_option maxRecDepth 100000 in
theorem c_X12_yearOf {l : Launch} {D : va_G} {cy : Nat → ClassId} {z0 : Nat} {ad : Nat → Nat} {u : Nat × Nat} {X : va_W} {z : Int32} {x1 : Int32} {x2 : Int32} {M : mm_M} (hf : f_X12_yearOf x1 x2 M = some z) : ct_i rf_T l yX12_yearOf (Cond.code yX12_yearOf cX12_yearOf 5 (some .int)) 0 0 D cy z0 ad u M X [.ref (ad 0), .int x1, .int x2] z M := by
  refine bgc_i (by decide) (fun p e s m below meth c hC hw => ?_)
  refine en_t (Nat.le_of_ble_eq_true rfl) (fun ls hl => ?_)
  have hl : lv_has ls 5 [(0, .ref (ad 0)), (1, .int x1), (2, .int x2)] := hl
  exact k_X12_yearOf hC hf hw hl
set_option maxRecDepth 100000 in
set_option maxHeartbeats 4000000 in
theorem k_X12_lines_126 {p : Program} {l : Launch} {e : Env} {s : State} {m : MethodId} {args : Array Value} {below : List Frame} {meth : Method} {c : Code} {D : va_G} {cy : Nat → ClassId} {z0 : Nat} {ad : Nat → Nat} {X : va_W} {u : Nat × Nat} (hC : cx_C p s m args meth c cX12_lines "RhymedThenModel" (Cond.code yX12_lines cX12_lines 6 none) 6 none) {z : mm_M} {x1 : Int32} {x2 : Int32} {x3 : Int32} {x4 : Int32} {M : mm_M} {q8 : Int32 → Int32 → Int32 → Int32 → mm_M → Option mm_M} (hq8 : ∀ (x1 : Int32) (x2 : Int32) (x3 : Int32) (x4 : Int32) (M : mm_M) (H : Heap) (locs : List Loc) (ls : Array Slot), q8 x1 x2 x3 x4 M = some z → wd_in rf_T D cy z0 ad u M X s H locs → lv_has ls 6 [(0, .ref (ad 0)), (1, .int x1), (2, .int x2), (3, .int x3), (4, .int x4)] → W p l e { frames := 1, cells := 0, slots := 0, locals := 24 } s m args below meth c H locs 0 0 (MQ below (cq_v rf_T D cy z0 ad u X z) args s 0 0 (fun q => z0 ≤ q)) (F0 m 8 ls [])) (hf : f_X12_lines_126 q8 x1 x2 x3 x4 M = some z) {H : Heap} {locs : List Loc} (hw : wd_in rf_T D cy z0 ad u M X s H locs) {ls : Array Slot} (hl : lv_has ls 6 [(0, .ref (ad 0)), (1, .int x1), (2, .int x2), (3, .int x3), (4, .int x4)]) : W p l e { frames := 1, cells := 0, slots := 0, locals := 24 } s m args below meth c H locs 0 0 (MQ below (cq_v rf_T D cy z0 ad u X z) args s 0 0 (fun q => z0 ≤ q)) (F0 m 126 ls []) := by
  have hx := hC.1
  have hb := hC.2.1
  unfold f_X12_lines_126 at hf
  obtain ⟨y9, ey9, hf⟩ := sq_e hf
  refine lv_iinc (v := y9) (lv' := [(4, .int y9), (0, .ref (ad 0)), (1, .int x1), (2, .int x2), (3, .int x3)]) hx hb dX12_lines_126 hl (k := 4) rfl (by rw [ey9]; rfl) (by decide) rfl (fun ls hl => ?_)
  refine lv_goto (tgt := 8) hx hb dX12_lines_129 (by decide) ?_
  exact hq8 _ _ _ _ _ _ _ _ hf hw (lv_sub hl [1, 2, 3, 4, 0] rfl)
set_option maxRecDepth 100000 in
set_option maxHeartbeats 4000000 in
theorem k_X12_lines_107 {p : Program} {l : Launch} {e : Env} {s : State} {m : MethodId} {args : Array Value} {below : List Frame} {meth : Method} {c : Code} {D : va_G} {cy : Nat → ClassId} {z0 : Nat} {ad : Nat → Nat} {X : va_W} {u : Nat × Nat} (hC : cx_C p s m args meth c cX12_lines "RhymedThenModel" (Cond.code yX12_lines cX12_lines 6 none) 6 none) {z : mm_M} {x1 : Int32} {x2 : Int32} {x3 : Int32} {x4 : Int32} {x5 : Int32} {M : mm_M} {q8 : Int32 → Int32 → Int32 → Int32 → mm_M → Option mm_M} (hq8 : ∀ (x1 : Int32) (x2 : Int32) (x3 : Int32) (x4 : Int32) (M : mm_M) (H : Heap) (locs : List Loc) (ls : Array Slot), q8 x1 x2 x3 x4 M = some z → wd_in rf_T D cy z0 ad u M X s H locs → lv_has ls 6 [(0, .ref (ad 0)), (1, .int x1), (2, .int x2), (3, .int x3), (4, .int x4)] → W p l e { frames := 1, cells := 0, slots := 0, locals := 24 } s m args below meth c H locs 0 0 (MQ below (cq_v rf_T D cy z0 ad u X z) args s 0 0 (fun q => z0 ≤ q)) (F0 m 8 ls [])) (hf : f_X12_lines_107 q8 x1 x2 x3 x4 x5 M = some z) {H : Heap} {locs : List Loc} (hw : wd_in rf_T D cy z0 ad u M X s H locs) {ls : Array Slot} (hl : lv_has ls 6 [(0, .ref (ad 0)), (1, .int x1), (2, .int x2), (3, .int x3), (4, .int x4), (5, .int x5)]) : W p l e { frames := 1, cells := 0, slots := 0, locals := 24 } s m args below meth c H locs 0 0 (MQ below (cq_v rf_T D cy z0 ad u X z) args s 0 0 (fun q => z0 ≤ q)) (F0 m 107 ls []) := by
  have hx := hC.1
  have hb := hC.2.1
  unfold f_X12_lines_107 at hf
  refine lv_aload_n hx hb dX12_lines_107 rfl (lv_at hl 0 rfl) ?_
  refine rg_p hC hw 0 (Nat.le_of_ble_eq_true rfl) rfl fd_X12_23 wf_X12_143 (q := 17) rfl dX12_lines_108 ?_
  refine lv_iload hx hb dX12_lines_111 (lv_at hl 5 rfl) ?_
  refine lv_iload hx hb dX12_lines_113 (lv_at hl 4 rfl) ?_
  obtain ⟨h26, hf⟩ := ck_e hf
  obtain ⟨M27, eM27, hf⟩ := sq_e hf
  refine rs_i hC hw 17 (Nat.le_of_ble_eq_true rfl) rfl h26 dX12_lines_115 eM27 (fun H locs hw => ?_)
  refine lv_aload_n hx hb dX12_lines_116 rfl (lv_at hl 0 rfl) ?_
  refine lv_dup hx hb dX12_lines_117 rfl ?_
  refine rg_i hC hw 0 (Nat.le_of_ble_eq_true rfl) rfl fd_X12_24 wf_X12_130 dX12_lines_118 ?_
  refine lv_iconst (v := 1) hx hb dX12_lines_121 (by decide) ?_
  refine lv_iadd hx hb dX12_lines_122 ?_
  obtain ⟨M28, eM28, hf⟩ := sq_e hf
  refine rp_i hC hw 0 (Nat.le_of_ble_eq_true rfl) rfl fd_X12_24 wf_X12_130 fp_X12_24 rfl rfl dX12_lines_123 eM28 (fun H locs hw => ?_)
  exact k_X12_lines_126 hC hq8 hf hw (lv_sub hl [0, 1, 2, 3, 4] rfl)
set_option maxRecDepth 100000 in
set_option maxHeartbeats 4000000 in
theorem k_X12_lines_56 {p : Program} {l : Launch} {e : Env} {s : State} {m : MethodId} {args : Array Value} {below : List Frame} {meth : Method} {c : Code} {D : va_G} {cy : Nat → ClassId} {z0 : Nat} {ad : Nat → Nat} {X : va_W} {u : Nat × Nat} (hC : cx_C p s m args meth c cX12_lines "RhymedThenModel" (Cond.code yX12_lines cX12_lines 6 none) 6 none) {z : mm_M} {x1 : Int32} {x2 : Int32} {x3 : Int32} {x4 : Int32} {x5 : Int32} {M : mm_M} {q8 : Int32 → Int32 → Int32 → Int32 → mm_M → Option mm_M} (hq8 : ∀ (x1 : Int32) (x2 : Int32) (x3 : Int32) (x4 : Int32) (M : mm_M) (H : Heap) (locs : List Loc) (ls : Array Slot), q8 x1 x2 x3 x4 M = some z → wd_in rf_T D cy z0 ad u M X s H locs → lv_has ls 6 [(0, .ref (ad 0)), (1, .int x1), (2, .int x2), (3, .int x3), (4, .int x4)] → W p l e { frames := 1, cells := 0, slots := 0, locals := 24 } s m args below meth c H locs 0 0 (MQ below (cq_v rf_T D cy z0 ad u X z) args s 0 0 (fun q => z0 ≤ q)) (F0 m 8 ls [])) {q56 : Int32 → Int32 → Int32 → Int32 → Int32 → mm_M → Option mm_M} (hq56 : ∀ (x1 : Int32) (x2 : Int32) (x3 : Int32) (x4 : Int32) (x5 : Int32) (M : mm_M) (H : Heap) (locs : List Loc) (ls : Array Slot), q56 x1 x2 x3 x4 x5 M = some z → wd_in rf_T D cy z0 ad u M X s H locs → lv_has ls 6 [(0, .ref (ad 0)), (1, .int x1), (2, .int x2), (3, .int x3), (4, .int x4), (5, .int x5)] → W p l e { frames := 1, cells := 0, slots := 0, locals := 24 } s m args below meth c H locs 0 0 (MQ below (cq_v rf_T D cy z0 ad u X z) args s 0 0 (fun q => z0 ≤ q)) (F0 m 56 ls [])) (hf : f_X12_lines_56 q8 q56 x1 x2 x3 x4 x5 M = some z) {H : Heap} {locs : List Loc} (hw : wd_in rf_T D cy z0 ad u M X s H locs) {ls : Array Slot} (hl : lv_has ls 6 [(0, .ref (ad 0)), (1, .int x1), (2, .int x2), (3, .int x3), (4, .int x4), (5, .int x5)]) : W p l e { frames := 1, cells := 0, slots := 0, locals := 24 } s m args below meth c H locs 0 0 (MQ below (cq_v rf_T D cy z0 ad u X z) args s 0 0 (fun q => z0 ≤ q)) (F0 m 56 ls []) := by
  have hx := hC.1
  have hb := hC.2.1
  unfold f_X12_lines_56 at hf
  refine lv_iload hx hb dX12_lines_56 (lv_at hl 5 rfl) ?_
  refine lv_if_le (tgt := 107) hx hb dX12_lines_58 (by decide) (fun c10 => ?_) (fun c10 => ?_)
  · rw [if_pos c10] at hf
    exact k_X12_lines_107 hC hq8 hf hw (lv_sub hl [0, 1, 2, 3, 4, 5] rfl)
  · rw [if_neg c10] at hf
    refine lv_aload_n hx hb dX12_lines_61 rfl (lv_at hl 0 rfl) ?_
    refine lv_aload_n hx hb dX12_lines_62 rfl (lv_at hl 0 rfl) ?_
    refine rg_p hC hw 0 (Nat.le_of_ble_eq_true rfl) rfl fd_X12_23 wf_X12_143 (q := 17) rfl dX12_lines_63 ?_
    refine lv_iload hx hb dX12_lines_66 (lv_at hl 5 rfl) ?_
    refine lv_iconst (v := 1) hx hb dX12_lines_68 (by decide) ?_
    refine lv_isub hx hb dX12_lines_69 ?_
    obtain ⟨h11, hf⟩ := ck_e hf
    refine ra_i hC hw 17 (Nat.le_of_ble_eq_true rfl) rfl h11 dX12_lines_70 ?_
    refine lv_iload_n hx hb dX12_lines_71 rfl (lv_at hl 1 rfl) ?_
    obtain ⟨z12, ez12, hf⟩ := bd_e hf
    refine clc_Vi hC hw (c_X12_yearOf ez12) hd_X12_yearOf cw_X12_140 (Nat.le_of_ble_eq_true rfl) rfl rfl (rest := []) hl.1 rfl (Nat.le_of_ble_eq_true rfl) ⟨Nat.le_of_ble_eq_true rfl, Nat.le_of_ble_eq_true rfl⟩ ⟨Nat.zero_le _, Nat.zero_le _⟩ rfl dX12_lines_72 (fun H locs hw => ?_)
    refine lv_aload_n hx hb dX12_lines_75 rfl (lv_at hl 0 rfl) ?_
    refine lv_iload hx hb dX12_lines_76 (lv_at hl 4 rfl) ?_
    refine lv_iload_n hx hb dX12_lines_78 rfl (lv_at hl 1 rfl) ?_
    obtain ⟨z13, ez13, hf⟩ := bd_e hf
    refine clc_Vi hC hw (c_X12_yearOf ez13) hd_X12_yearOf cw_X12_140 (Nat.le_of_ble_eq_true rfl) rfl rfl (rest := [.int z12]) hl.1 rfl (Nat.le_of_ble_eq_true rfl) ⟨Nat.le_of_ble_eq_true rfl, Nat.le_of_ble_eq_true rfl⟩ ⟨Nat.zero_le _, Nat.zero_le _⟩ rfl dX12_lines_79 (fun H locs hw => ?_)
    refine lv_icmp_le (tgt := 107) hx hb dX12_lines_82 (by decide) (fun c14 => ?_) (fun c14 => ?_)
    · rw [if_pos c14] at hf
      exact k_X12_lines_107 hC hq8 hf hw (lv_sub hl [0, 1, 2, 3, 4, 5] rfl)
    · rw [if_neg c14] at hf
      refine lv_aload_n hx hb dX12_lines_85 rfl (lv_at hl 0 rfl) ?_
      refine rg_p hC hw 0 (Nat.le_of_ble_eq_true rfl) rfl fd_X12_23 wf_X12_143 (q := 17) rfl dX12_lines_86 ?_
      refine lv_iload hx hb dX12_lines_89 (lv_at hl 5 rfl) ?_
      refine lv_aload_n hx hb dX12_lines_91 rfl (lv_at hl 0 rfl) ?_
      refine rg_p hC hw 0 (Nat.le_of_ble_eq_true rfl) rfl fd_X12_23 wf_X12_143 (q := 17) rfl dX12_lines_92 ?_
      refine lv_iload hx hb dX12_lines_95 (lv_at hl 5 rfl) ?_
      refine lv_iconst (v := 1) hx hb dX12_lines_97 (by decide) ?_
      refine lv_isub hx hb dX12_lines_98 ?_
      obtain ⟨h15, hf⟩ := ck_e hf
      refine ra_i hC hw 17 (Nat.le_of_ble_eq_true rfl) rfl h15 dX12_lines_99 ?_
      obtain ⟨h16, hf⟩ := ck_e hf
      obtain ⟨M17, eM17, hf⟩ := sq_e hf
      refine rs_i hC hw 17 (Nat.le_of_ble_eq_true rfl) rfl h16 dX12_lines_100 eM17 (fun H locs hw => ?_)
      obtain ⟨y18, ey18, hf⟩ := sq_e hf
      refine lv_iinc (v := y18) (lv' := [(5, .int y18), (0, .ref (ad 0)), (1, .int x1), (2, .int x2), (3, .int x3), (4, .int x4)]) hx hb dX12_lines_101 hl (k := 5) rfl (by rw [ey18]; rfl) (by decide) rfl (fun ls hl => ?_)
      refine lv_goto (tgt := 56) hx hb dX12_lines_104 (by decide) ?_
      exact hq56 _ _ _ _ _ _ _ _ _ hf hw (lv_sub hl [1, 2, 3, 4, 5, 0] rfl)
set_option maxRecDepth 100000 in
set_option maxHeartbeats 4000000 in
theorem k_X12_lines_56l {p : Program} {l : Launch} {e : Env} {s : State} {m : MethodId} {args : Array Value} {below : List Frame} {meth : Method} {c : Code} {D : va_G} {cy : Nat → ClassId} {z0 : Nat} {ad : Nat → Nat} {X : va_W} {u : Nat × Nat} (hC : cx_C p s m args meth c cX12_lines "RhymedThenModel" (Cond.code yX12_lines cX12_lines 6 none) 6 none) {z : mm_M} {q8 : Int32 → Int32 → Int32 → Int32 → mm_M → Option mm_M} (hq8 : ∀ (x1 : Int32) (x2 : Int32) (x3 : Int32) (x4 : Int32) (M : mm_M) (H : Heap) (locs : List Loc) (ls : Array Slot), q8 x1 x2 x3 x4 M = some z → wd_in rf_T D cy z0 ad u M X s H locs → lv_has ls 6 [(0, .ref (ad 0)), (1, .int x1), (2, .int x2), (3, .int x3), (4, .int x4)] → W p l e { frames := 1, cells := 0, slots := 0, locals := 24 } s m args below meth c H locs 0 0 (MQ below (cq_v rf_T D cy z0 ad u X z) args s 0 0 (fun q => z0 ≤ q)) (F0 m 8 ls [])) : ∀ (n : Nat) (x1 : Int32) (x2 : Int32) (x3 : Int32) (x4 : Int32) (x5 : Int32) (M : mm_M) (H : Heap) (locs : List Loc) (ls : Array Slot), f_X12_lines_56l q8 n x1 x2 x3 x4 x5 M = some z → wd_in rf_T D cy z0 ad u M X s H locs → lv_has ls 6 [(0, .ref (ad 0)), (1, .int x1), (2, .int x2), (3, .int x3), (4, .int x4), (5, .int x5)] → W p l e { frames := 1, cells := 0, slots := 0, locals := 24 } s m args below meth c H locs 0 0 (MQ below (cq_v rf_T D cy z0 ad u X z) args s 0 0 (fun q => z0 ≤ q)) (F0 m 56 ls []) := by
  intro n
  induction n with
  | zero => intro x1 x2 x3 x4 x5 M H locs ls hf; exact absurd hf (by simp [f_X12_lines_56l])
  | succ n ih => intro x1 x2 x3 x4 x5 M H locs ls hf hw hl; exact k_X12_lines_56 hC hq8 ih hf hw hl
set_option maxRecDepth 100000 in
set_option maxHeartbeats 4000000 in
theorem k_X12_lines_206 {p : Program} {l : Launch} {e : Env} {s : State} {m : MethodId} {args : Array Value} {below : List Frame} {meth : Method} {c : Code} {D : va_G} {cy : Nat → ClassId} {z0 : Nat} {ad : Nat → Nat} {X : va_W} {u : Nat × Nat} (hC : cx_C p s m args meth c cX12_lines "RhymedThenModel" (Cond.code yX12_lines cX12_lines 6 none) 6 none) {z : mm_M} {x4 : Int32} {t1 : Int32} {t2 : Int32} {M : mm_M} {q135 : Int32 → mm_M → Option mm_M} (hq135 : ∀ (x4 : Int32) (M : mm_M) (H : Heap) (locs : List Loc) (ls : Array Slot), q135 x4 M = some z → wd_in rf_T D cy z0 ad u M X s H locs → lv_has ls 6 [(0, .ref (ad 0)), (4, .int x4)] → W p l e { frames := 1, cells := 0, slots := 0, locals := 24 } s m args below meth c H locs 0 0 (MQ below (cq_v rf_T D cy z0 ad u X z) args s 0 0 (fun q => z0 ≤ q)) (F0 m 135 ls [])) (hf : f_X12_lines_206 q135 x4 t1 t2 M = some z) {H : Heap} {locs : List Loc} (hw : wd_in rf_T D cy z0 ad u M X s H locs) {ls : Array Slot} (hl : lv_has ls 6 [(0, .ref (ad 0)), (4, .int x4)]) : W p l e { frames := 1, cells := 0, slots := 0, locals := 24 } s m args below meth c H locs 0 0 (MQ below (cq_v rf_T D cy z0 ad u X z) args s 0 0 (fun q => z0 ≤ q)) (F0 m 206 ls [.int t2, .int t1, .ref (ad 17)]) := by
  have hx := hC.1
  have hb := hC.2.1
  unfold f_X12_lines_206 at hf
  obtain ⟨h29, hf⟩ := ck_e hf
  obtain ⟨M30, eM30, hf⟩ := sq_e hf
  refine rs_i hC hw 17 (Nat.le_of_ble_eq_true rfl) rfl h29 dX12_lines_206 eM30 (fun H locs hw => ?_)
  obtain ⟨y31, ey31, hf⟩ := sq_e hf
  refine lv_iinc (v := y31) (lv' := [(4, .int y31), (0, .ref (ad 0))]) hx hb dX12_lines_207 hl (k := 1) rfl (by rw [ey31]; rfl) (by decide) rfl (fun ls hl => ?_)
  refine lv_goto (tgt := 135) hx hb dX12_lines_210 (by decide) ?_
  exact hq135 _ _ _ _ _ hf hw (lv_sub hl [1, 0] rfl)
set_option maxRecDepth 100000 in
set_option maxHeartbeats 4000000 in
theorem k_X12_lines_135 {p : Program} {l : Launch} {e : Env} {s : State} {m : MethodId} {args : Array Value} {below : List Frame} {meth : Method} {c : Code} {D : va_G} {cy : Nat → ClassId} {z0 : Nat} {ad : Nat → Nat} {X : va_W} {u : Nat × Nat} (hC : cx_C p s m args meth c cX12_lines "RhymedThenModel" (Cond.code yX12_lines cX12_lines 6 none) 6 none) {z : mm_M} {x4 : Int32} {M : mm_M} {q135 : Int32 → mm_M → Option mm_M} (hq135 : ∀ (x4 : Int32) (M : mm_M) (H : Heap) (locs : List Loc) (ls : Array Slot), q135 x4 M = some z → wd_in rf_T D cy z0 ad u M X s H locs → lv_has ls 6 [(0, .ref (ad 0)), (4, .int x4)] → W p l e { frames := 1, cells := 0, slots := 0, locals := 24 } s m args below meth c H locs 0 0 (MQ below (cq_v rf_T D cy z0 ad u X z) args s 0 0 (fun q => z0 ≤ q)) (F0 m 135 ls [])) (hf : f_X12_lines_135 q135 x4 M = some z) {H : Heap} {locs : List Loc} (hw : wd_in rf_T D cy z0 ad u M X s H locs) {ls : Array Slot} (hl : lv_has ls 6 [(0, .ref (ad 0)), (4, .int x4)]) : W p l e { frames := 1, cells := 0, slots := 0, locals := 24 } s m args below meth c H locs 0 0 (MQ below (cq_v rf_T D cy z0 ad u X z) args s 0 0 (fun q => z0 ≤ q)) (F0 m 135 ls []) := by
  have hx := hC.1
  have hb := hC.2.1
  unfold f_X12_lines_135 at hf
  refine lv_iload hx hb dX12_lines_135 (lv_at hl 1 rfl) ?_
  refine lv_aload_n hx hb dX12_lines_137 rfl (lv_at hl 0 rfl) ?_
  refine rg_i hC hw 0 (Nat.le_of_ble_eq_true rfl) rfl fd_X12_24 wf_X12_130 dX12_lines_138 ?_
  refine lv_icmp_ge (tgt := 213) hx hb dX12_lines_141 (by decide) (fun c19 => ?_) (fun c19 => ?_)
  · rw [if_pos c19] at hf
    have hz := Option.some.inj hf
    subst hz
    exact rtc_v hC hw dX12_lines_213
  · rw [if_neg c19] at hf
    refine lv_aload_n hx hb dX12_lines_144 rfl (lv_at hl 0 rfl) ?_
    refine rg_i hC hw 0 (Nat.le_of_ble_eq_true rfl) rfl fd_X12_26 wf_X12_146 dX12_lines_145 ?_
    refine lv_if_lt (tgt := 213) hx hb dX12_lines_148 (by decide) (fun c20 => ?_) (fun c20 => ?_)
    · rw [if_pos c20] at hf
      have hz := Option.some.inj hf
      subst hz
      exact rtc_v hC hw dX12_lines_213
    · rw [if_neg c20] at hf
      refine lv_aload_n hx hb dX12_lines_151 rfl (lv_at hl 0 rfl) ?_
      refine rg_p hC hw 0 (Nat.le_of_ble_eq_true rfl) rfl fd_X12_23 wf_X12_143 (q := 17) rfl dX12_lines_152 ?_
      refine lv_iload hx hb dX12_lines_155 (lv_at hl 1 rfl) ?_
      refine lv_aload_n hx hb dX12_lines_157 rfl (lv_at hl 0 rfl) ?_
      refine rg_p hC hw 0 (Nat.le_of_ble_eq_true rfl) rfl fd_X12_23 wf_X12_143 (q := 17) rfl dX12_lines_158 ?_
      refine lv_iload hx hb dX12_lines_161 (lv_at hl 1 rfl) ?_
      obtain ⟨h21, hf⟩ := ck_e hf
      refine ra_i hC hw 17 (Nat.le_of_ble_eq_true rfl) rfl h21 dX12_lines_163 ?_
      refine lv_aload_n hx hb dX12_lines_164 rfl (lv_at hl 0 rfl) ?_
      refine rg_i hC hw 0 (Nat.le_of_ble_eq_true rfl) rfl fd_X12_26 wf_X12_146 dX12_lines_165 ?_
      refine lv_icmp_ne (tgt := 178) hx hb dX12_lines_168 (by decide) (fun c22 => ?_) (fun c22 => ?_)
      · rw [if_neg c22] at hf
        refine lv_aload_n hx hb dX12_lines_178 rfl (lv_at hl 0 rfl) ?_
        refine rg_p hC hw 0 (Nat.le_of_ble_eq_true rfl) rfl fd_X12_23 wf_X12_143 (q := 17) rfl dX12_lines_179 ?_
        refine lv_iload hx hb dX12_lines_182 (lv_at hl 1 rfl) ?_
        obtain ⟨h23, hf⟩ := ck_e hf
        refine ra_i hC hw 17 (Nat.le_of_ble_eq_true rfl) rfl h23 dX12_lines_184 ?_
        refine lv_aload_n hx hb dX12_lines_185 rfl (lv_at hl 0 rfl) ?_
        refine rg_i hC hw 0 (Nat.le_of_ble_eq_true rfl) rfl fd_X12_27 wf_X12_149 dX12_lines_186 ?_
        refine lv_icmp_ne (tgt := 199) hx hb dX12_lines_189 (by decide) (fun c24 => ?_) (fun c24 => ?_)
        · rw [if_neg c24] at hf
          refine lv_aload_n hx hb dX12_lines_199 rfl (lv_at hl 0 rfl) ?_
          refine rg_p hC hw 0 (Nat.le_of_ble_eq_true rfl) rfl fd_X12_23 wf_X12_143 (q := 17) rfl dX12_lines_200 ?_
          refine lv_iload hx hb dX12_lines_203 (lv_at hl 1 rfl) ?_
          obtain ⟨h25, hf⟩ := ck_e hf
          refine ra_i hC hw 17 (Nat.le_of_ble_eq_true rfl) rfl h25 dX12_lines_205 ?_
          exact k_X12_lines_206 hC hq135 hf hw (lv_sub hl [0, 1] rfl)
        · rw [if_pos c24] at hf
          refine lv_aload_n hx hb dX12_lines_192 rfl (lv_at hl 0 rfl) ?_
          refine rg_i hC hw 0 (Nat.le_of_ble_eq_true rfl) rfl fd_X12_26 wf_X12_146 dX12_lines_193 ?_
          refine lv_goto (tgt := 206) hx hb dX12_lines_196 (by decide) ?_
          exact k_X12_lines_206 hC hq135 hf hw (lv_sub hl [0, 1] rfl)
      · rw [if_pos c22] at hf
        refine lv_aload_n hx hb dX12_lines_171 rfl (lv_at hl 0 rfl) ?_
        refine rg_i hC hw 0 (Nat.le_of_ble_eq_true rfl) rfl fd_X12_27 wf_X12_149 dX12_lines_172 ?_
        refine lv_goto (tgt := 206) hx hb dX12_lines_175 (by decide) ?_
        exact k_X12_lines_206 hC hq135 hf hw (lv_sub hl [0, 1] rfl)
set_option maxRecDepth 100000 in
set_option maxHeartbeats 4000000 in
theorem k_X12_lines_135l {p : Program} {l : Launch} {e : Env} {s : State} {m : MethodId} {args : Array Value} {below : List Frame} {meth : Method} {c : Code} {D : va_G} {cy : Nat → ClassId} {z0 : Nat} {ad : Nat → Nat} {X : va_W} {u : Nat × Nat} (hC : cx_C p s m args meth c cX12_lines "RhymedThenModel" (Cond.code yX12_lines cX12_lines 6 none) 6 none) {z : mm_M} : ∀ (n : Nat) (x4 : Int32) (M : mm_M) (H : Heap) (locs : List Loc) (ls : Array Slot), f_X12_lines_135l n x4 M = some z → wd_in rf_T D cy z0 ad u M X s H locs → lv_has ls 6 [(0, .ref (ad 0)), (4, .int x4)] → W p l e { frames := 1, cells := 0, slots := 0, locals := 24 } s m args below meth c H locs 0 0 (MQ below (cq_v rf_T D cy z0 ad u X z) args s 0 0 (fun q => z0 ≤ q)) (F0 m 135 ls []) := by
  intro n
  induction n with
  | zero => intro x4 M H locs ls hf; exact absurd hf (by simp [f_X12_lines_135l])
  | succ n ih => intro x4 M H locs ls hf hw hl; exact k_X12_lines_135 hC ih hf hw hl
set_option maxRecDepth 100000 in
set_option maxHeartbeats 4000000 in
theorem k_X12_lines_132 {p : Program} {l : Launch} {e : Env} {s : State} {m : MethodId} {args : Array Value} {below : List Frame} {meth : Method} {c : Code} {D : va_G} {cy : Nat → ClassId} {z0 : Nat} {ad : Nat → Nat} {X : va_W} {u : Nat × Nat} (hC : cx_C p s m args meth c cX12_lines "RhymedThenModel" (Cond.code yX12_lines cX12_lines 6 none) 6 none) {z : mm_M} {M : mm_M} (hf : f_X12_lines_132 M = some z) {H : Heap} {locs : List Loc} (hw : wd_in rf_T D cy z0 ad u M X s H locs) {ls : Array Slot} (hl : lv_has ls 6 [(0, .ref (ad 0))]) : W p l e { frames := 1, cells := 0, slots := 0, locals := 24 } s m args below meth c H locs 0 0 (MQ below (cq_v rf_T D cy z0 ad u X z) args s 0 0 (fun q => z0 ≤ q)) (F0 m 132 ls []) := by
  have hx := hC.1
  have hb := hC.2.1
  unfold f_X12_lines_132 at hf
  refine lv_iconst (v := 0) hx hb dX12_lines_132 (by decide) ?_
  refine lv_istore (lv' := [(4, .int 0), (0, .ref (ad 0))]) hx hb dX12_lines_133 hl (by decide) rfl (fun ls hl => ?_)
  exact k_X12_lines_135l hC fu_ _ _ _ _ _ hf hw (lv_sub hl [1, 0] rfl)
set_option maxRecDepth 100000 in
set_option maxHeartbeats 4000000 in
theorem k_X12_lines_8 {p : Program} {l : Launch} {e : Env} {s : State} {m : MethodId} {args : Array Value} {below : List Frame} {meth : Method} {c : Code} {D : va_G} {cy : Nat → ClassId} {z0 : Nat} {ad : Nat → Nat} {X : va_W} {u : Nat × Nat} (hC : cx_C p s m args meth c cX12_lines "RhymedThenModel" (Cond.code yX12_lines cX12_lines 6 none) 6 none) {z : mm_M} {x1 : Int32} {x2 : Int32} {x3 : Int32} {x4 : Int32} {M : mm_M} {q8 : Int32 → Int32 → Int32 → Int32 → mm_M → Option mm_M} (hq8 : ∀ (x1 : Int32) (x2 : Int32) (x3 : Int32) (x4 : Int32) (M : mm_M) (H : Heap) (locs : List Loc) (ls : Array Slot), q8 x1 x2 x3 x4 M = some z → wd_in rf_T D cy z0 ad u M X s H locs → lv_has ls 6 [(0, .ref (ad 0)), (1, .int x1), (2, .int x2), (3, .int x3), (4, .int x4)] → W p l e { frames := 1, cells := 0, slots := 0, locals := 24 } s m args below meth c H locs 0 0 (MQ below (cq_v rf_T D cy z0 ad u X z) args s 0 0 (fun q => z0 ≤ q)) (F0 m 8 ls [])) (hf : f_X12_lines_8 q8 x1 x2 x3 x4 M = some z) {H : Heap} {locs : List Loc} (hw : wd_in rf_T D cy z0 ad u M X s H locs) {ls : Array Slot} (hl : lv_has ls 6 [(0, .ref (ad 0)), (1, .int x1), (2, .int x2), (3, .int x3), (4, .int x4)]) : W p l e { frames := 1, cells := 0, slots := 0, locals := 24 } s m args below meth c H locs 0 0 (MQ below (cq_v rf_T D cy z0 ad u X z) args s 0 0 (fun q => z0 ≤ q)) (F0 m 8 ls []) := by
  have hx := hC.1
  have hb := hC.2.1
  unfold f_X12_lines_8 at hf
  refine lv_iload hx hb dX12_lines_8 (lv_at hl 4 rfl) ?_
  refine lv_aload_n hx hb dX12_lines_10 rfl (lv_at hl 0 rfl) ?_
  refine rg_i hC hw 0 (Nat.le_of_ble_eq_true rfl) rfl fd_X12_11 wf_X12_99 dX12_lines_11 ?_
  refine lv_icmp_ge (tgt := 132) hx hb dX12_lines_14 (by decide) (fun c2 => ?_) (fun c2 => ?_)
  · rw [if_pos c2] at hf
    exact k_X12_lines_132 hC hf hw (lv_sub hl [0] rfl)
  · rw [if_neg c2] at hf
    refine lv_aload_n hx hb dX12_lines_17 rfl (lv_at hl 0 rfl) ?_
    refine rg_i hC hw 0 (Nat.le_of_ble_eq_true rfl) rfl fd_X12_25 wf_X12_133 dX12_lines_18 ?_
    refine lv_iload hx hb dX12_lines_21 (lv_at hl 4 rfl) ?_
    obtain ⟨z3, ez3, hf⟩ := sq_e hf
    refine clc_Si hC hw (c_X12_has ez3.symm) hd_X12_has cw_X12_136 (rest := []) hl.1 rfl (Nat.le_of_ble_eq_true rfl) ⟨Nat.le_of_ble_eq_true rfl, Nat.le_of_ble_eq_true rfl⟩ ⟨Nat.zero_le _, Nat.zero_le _⟩ rfl dX12_lines_23 (fun H locs hw => ?_)
    refine lv_if_ne (tgt := 126) hx hb dX12_lines_26 (by decide) (fun c4 => ?_) (fun c4 => ?_)
    · rw [if_neg c4] at hf
      exact k_X12_lines_126 hC hq8 hf hw (lv_sub hl [0, 1, 2, 3, 4] rfl)
    · rw [if_pos c4] at hf
      refine lv_aload_n hx hb dX12_lines_29 rfl (lv_at hl 0 rfl) ?_
      refine lv_iload hx hb dX12_lines_30 (lv_at hl 4 rfl) ?_
      refine lv_iload_n hx hb dX12_lines_32 rfl (lv_at hl 1 rfl) ?_
      obtain ⟨z5, ez5, hf⟩ := bd_e hf
      refine clc_Vi hC hw (c_X12_yearOf ez5) hd_X12_yearOf cw_X12_140 (Nat.le_of_ble_eq_true rfl) rfl rfl (rest := []) hl.1 rfl (Nat.le_of_ble_eq_true rfl) ⟨Nat.le_of_ble_eq_true rfl, Nat.le_of_ble_eq_true rfl⟩ ⟨Nat.zero_le _, Nat.zero_le _⟩ rfl dX12_lines_33 (fun H locs hw => ?_)
      refine lv_aload_n hx hb dX12_lines_36 rfl (lv_at hl 0 rfl) ?_
      refine rg_p hC hw 0 (Nat.le_of_ble_eq_true rfl) rfl fd_X12_19 wf_X12_122 (q := 13) rfl dX12_lines_37 ?_
      refine lv_iload_n hx hb dX12_lines_40 rfl (lv_at hl 3 rfl) ?_
      obtain ⟨h6, hf⟩ := ck_e hf
      refine ra_i hC hw 13 (Nat.le_of_ble_eq_true rfl) rfl h6 dX12_lines_41 ?_
      refine lv_iadd hx hb dX12_lines_42 ?_
      refine lv_iload_n hx hb dX12_lines_43 rfl (lv_at hl 2 rfl) ?_
      refine lv_icmp_le (tgt := 50) hx hb dX12_lines_44 (by decide) (fun c7 => ?_) (fun c7 => ?_)
      · rw [if_pos c7] at hf
        refine lv_aload_n hx hb dX12_lines_50 rfl (lv_at hl 0 rfl) ?_
        refine rg_i hC hw 0 (Nat.le_of_ble_eq_true rfl) rfl fd_X12_24 wf_X12_130 dX12_lines_51 ?_
        obtain ⟨y8, ey8, hf⟩ := sq_e hf
        refine lt_i ey8 ?_
        refine lv_istore (lv' := [(5, .int y8), (0, .ref (ad 0)), (1, .int x1), (2, .int x2), (3, .int x3), (4, .int x4)]) hx hb dX12_lines_54 hl (by decide) rfl (fun ls hl => ?_)
        exact k_X12_lines_56l hC hq8 fu_ _ _ _ _ _ _ _ _ _ hf hw (lv_sub hl [1, 2, 3, 4, 5, 0] rfl)
      · rw [if_neg c7] at hf
        refine lv_goto (tgt := 126) hx hb dX12_lines_47 (by decide) ?_
        exact k_X12_lines_126 hC hq8 hf hw (lv_sub hl [0, 1, 2, 3, 4] rfl)
set_option maxRecDepth 100000 in
set_option maxHeartbeats 4000000 in
theorem k_X12_lines_8l {p : Program} {l : Launch} {e : Env} {s : State} {m : MethodId} {args : Array Value} {below : List Frame} {meth : Method} {c : Code} {D : va_G} {cy : Nat → ClassId} {z0 : Nat} {ad : Nat → Nat} {X : va_W} {u : Nat × Nat} (hC : cx_C p s m args meth c cX12_lines "RhymedThenModel" (Cond.code yX12_lines cX12_lines 6 none) 6 none) {z : mm_M} : ∀ (n : Nat) (x1 : Int32) (x2 : Int32) (x3 : Int32) (x4 : Int32) (M : mm_M) (H : Heap) (locs : List Loc) (ls : Array Slot), f_X12_lines_8l n x1 x2 x3 x4 M = some z → wd_in rf_T D cy z0 ad u M X s H locs → lv_has ls 6 [(0, .ref (ad 0)), (1, .int x1), (2, .int x2), (3, .int x3), (4, .int x4)] → W p l e { frames := 1, cells := 0, slots := 0, locals := 24 } s m args below meth c H locs 0 0 (MQ below (cq_v rf_T D cy z0 ad u X z) args s 0 0 (fun q => z0 ≤ q)) (F0 m 8 ls []) := by
  intro n
  induction n with
  | zero => intro x1 x2 x3 x4 M H locs ls hf; exact absurd hf (by simp [f_X12_lines_8l])
  | succ n ih => intro x1 x2 x3 x4 M H locs ls hf hw hl; exact k_X12_lines_8 hC ih hf hw hl
set_option maxRecDepth 100000 in
set_option maxHeartbeats 4000000 in
theorem k_X12_lines {p : Program} {l : Launch} {e : Env} {s : State} {m : MethodId} {args : Array Value} {below : List Frame} {meth : Method} {c : Code} {D : va_G} {cy : Nat → ClassId} {z0 : Nat} {ad : Nat → Nat} {X : va_W} {u : Nat × Nat} (hC : cx_C p s m args meth c cX12_lines "RhymedThenModel" (Cond.code yX12_lines cX12_lines 6 none) 6 none) {z : mm_M} {x1 : Int32} {x2 : Int32} {x3 : Int32} {M : mm_M} (hf : f_X12_lines x1 x2 x3 M = some z) {H : Heap} {locs : List Loc} (hw : wd_in rf_T D cy z0 ad u M X s H locs) {ls : Array Slot} (hl : lv_has ls 6 [(0, .ref (ad 0)), (1, .int x1), (2, .int x2), (3, .int x3)]) : W p l e { frames := 1, cells := 0, slots := 0, locals := 24 } s m args below meth c H locs 0 0 (MQ below (cq_v rf_T D cy z0 ad u X z) args s 0 0 (fun q => z0 ≤ q)) (F0 m 0 ls []) := by
  have hx := hC.1
  have hb := hC.2.1
  unfold f_X12_lines at hf
  refine lv_aload_n hx hb dX12_lines_0 rfl (lv_at hl 0 rfl) ?_
  refine lv_iconst (v := 0) hx hb dX12_lines_1 (by decide) ?_
  obtain ⟨M1, eM1, hf⟩ := sq_e hf
  refine rp_i hC hw 0 (Nat.le_of_ble_eq_true rfl) rfl fd_X12_24 wf_X12_130 fp_X12_24 rfl rfl dX12_lines_2 eM1 (fun H locs hw => ?_)
  refine lv_iconst (v := 0) hx hb dX12_lines_5 (by decide) ?_
  refine lv_istore (lv' := [(4, .int 0), (0, .ref (ad 0)), (1, .int x1), (2, .int x2), (3, .int x3)]) hx hb dX12_lines_6 hl (by decide) rfl (fun ls hl => ?_)
  exact k_X12_lines_8l hC fu_ _ _ _ _ _ _ _ _ hf hw (lv_sub hl [1, 2, 3, 4, 0] rfl)
set_option maxRecDepth 100000 in
theorem c_X12_lines {l : Launch} {D : va_G} {cy : Nat → ClassId} {z0 : Nat} {ad : Nat → Nat} {u : Nat × Nat} {X : va_W} {z : mm_M} {x1 : Int32} {x2 : Int32} {x3 : Int32} {M : mm_M} (hf : f_X12_lines x1 x2 x3 M = some z) : ct_v rf_T l yX12_lines (Cond.code yX12_lines cX12_lines 6 none) 1 24 D cy z0 ad u M X [.ref (ad 0), .int x1, .int x2, .int x3] z := by
  refine bgc_v (by decide) (fun p e s m below meth c hC hw => ?_)
  refine en_t (Nat.le_of_ble_eq_true rfl) (fun ls hl => ?_)
  have hl : lv_has ls 6 [(0, .ref (ad 0)), (1, .int x1), (2, .int x2), (3, .int x3)] := hl
  exact k_X12_lines hC hf hw hl
set_option maxRecDepth 100000 in
set_option maxHeartbeats 4000000 in
theorem k_X12_isOf {p : Program} {l : Launch} {e : Env} {s : State} {m : MethodId} {args : Array Value} {below : List Frame} {meth : Method} {c : Code} {D : va_G} {cy : Nat → ClassId} {z0 : Nat} {ad : Nat → Nat} {X : va_W} {u : Nat × Nat} (hC : cx_C p s m args meth c cX12_isOf "RhymedThenModel" (Cond.code yX12_isOf cX12_isOf 3 (some .boolean)) 3 (some .boolean)) {z : Int32} {x1 : Int32} {x2 : Int32} {M : mm_M} (hf : f_X12_isOf x1 x2 M = some z) {H : Heap} {locs : List Loc} (hw : wd_in rf_T D cy z0 ad u M X s H locs) {ls : Array Slot} (hl : lv_has ls 3 [(0, .ref (ad 0)), (1, .int x1), (2, .int x2)]) : W p l e { frames := 1, cells := 0, slots := 0, locals := 21 } s m args below meth c H locs 0 0 (MQ below (cq_i rf_T D cy z0 ad u X z M) args s 0 0 (fun q => z0 ≤ q)) (F0 m 0 ls []) := by
  have hx := hC.1
  have hb := hC.2.1
  unfold f_X12_isOf at hf
  refine lv_iload_n hx hb dX12_isOf_0 rfl (lv_at hl 1 rfl) ?_
  refine lv_bipush (v := 16) hx hb dX12_isOf_1 (by decide) ?_
  refine lv_icmp_ge (tgt := 19) hx hb dX12_isOf_3 (by decide) (fun c1 => ?_) (fun c1 => ?_)
  · rw [if_pos c1] at hf
    refine lv_iload_n hx hb dX12_isOf_19 rfl (lv_at hl 2 rfl) ?_
    refine lv_if_lt (tgt := 43) hx hb dX12_isOf_20 (by decide) (fun c2 => ?_) (fun c2 => ?_)
    · rw [if_pos c2] at hf
      refine lv_iconst (v := 0) hx hb dX12_isOf_43 (by decide) ?_
      have hz := Option.some.inj hf
      subst hz
      exact rtc_z hC hw (Or.inl rfl) dX12_isOf_44
    · rw [if_neg c2] at hf
      refine lv_aload_n hx hb dX12_isOf_23 rfl (lv_at hl 0 rfl) ?_
      refine rg_p hC hw 0 (Nat.le_of_ble_eq_true rfl) rfl fd_X12_7 wf_X12_66 (q := 3) rfl dX12_isOf_24 ?_
      refine lv_iload_n hx hb dX12_isOf_27 rfl (lv_at hl 1 rfl) ?_
      refine lv_bipush (v := 16) hx hb dX12_isOf_28 (by decide) ?_
      refine lv_isub hx hb dX12_isOf_30 ?_
      obtain ⟨h3, hf⟩ := ck_e hf
      refine ra_i hC hw 3 (Nat.le_of_ble_eq_true rfl) rfl h3 dX12_isOf_31 ?_
      refine lv_iload_n hx hb dX12_isOf_32 rfl (lv_at hl 2 rfl) ?_
      obtain ⟨z4, ez4, hf⟩ := sq_e hf
      refine clc_Si hC hw (c_X12_has ez4.symm) hd_X12_has cw_X12_136 (rest := []) hl.1 rfl (Nat.le_of_ble_eq_true rfl) ⟨Nat.le_of_ble_eq_true rfl, Nat.le_of_ble_eq_true rfl⟩ ⟨Nat.zero_le _, Nat.zero_le _⟩ rfl dX12_isOf_33 (fun H locs hw => ?_)
      refine lv_if_eq (tgt := 43) hx hb dX12_isOf_36 (by decide) (fun c5 => ?_) (fun c5 => ?_)
      · rw [if_pos c5] at hf
        refine lv_iconst (v := 0) hx hb dX12_isOf_43 (by decide) ?_
        have hz := Option.some.inj hf
        subst hz
        exact rtc_z hC hw (Or.inl rfl) dX12_isOf_44
      · rw [if_neg c5] at hf
        refine lv_iconst (v := 1) hx hb dX12_isOf_39 (by decide) ?_
        refine lv_goto (tgt := 44) hx hb dX12_isOf_40 (by decide) ?_
        have hz := Option.some.inj hf
        subst hz
        exact rtc_z hC hw (Or.inr rfl) dX12_isOf_44
  · rw [if_neg c1] at hf
    refine lv_iload_n hx hb dX12_isOf_6 rfl (lv_at hl 2 rfl) ?_
    refine lv_iload_n hx hb dX12_isOf_7 rfl (lv_at hl 1 rfl) ?_
    refine lv_icmp_ne (tgt := 15) hx hb dX12_isOf_8 (by decide) (fun c6 => ?_) (fun c6 => ?_)
    · rw [if_neg c6] at hf
      refine lv_iconst (v := 0) hx hb dX12_isOf_15 (by decide) ?_
      refine lv_goto (tgt := 44) hx hb dX12_isOf_16 (by decide) ?_
      have hz := Option.some.inj hf
      subst hz
      exact rtc_z hC hw (Or.inl rfl) dX12_isOf_44
    · rw [if_pos c6] at hf
      refine lv_iconst (v := 1) hx hb dX12_isOf_11 (by decide) ?_
      refine lv_goto (tgt := 44) hx hb dX12_isOf_12 (by decide) ?_
      have hz := Option.some.inj hf
      subst hz
      exact rtc_z hC hw (Or.inr rfl) dX12_isOf_44
set_option maxRecDepth 100000 in
theorem c_X12_isOf {l : Launch} {D : va_G} {cy : Nat → ClassId} {z0 : Nat} {ad : Nat → Nat} {u : Nat × Nat} {X : va_W} {z : Int32} {x1 : Int32} {x2 : Int32} {M : mm_M} (hf : f_X12_isOf x1 x2 M = some z) : ct_i rf_T l yX12_isOf (Cond.code yX12_isOf cX12_isOf 3 (some .boolean)) 1 21 D cy z0 ad u M X [.ref (ad 0), .int x1, .int x2] z M := by
  refine bgc_i (by decide) (fun p e s m below meth c hC hw => ?_)
  refine en_t (Nat.le_of_ble_eq_true rfl) (fun ls hl => ?_)
  have hl : lv_has ls 3 [(0, .ref (ad 0)), (1, .int x1), (2, .int x2)] := hl
  exact k_X12_isOf hC hf hw hl
set_option maxRecDepth 100000 in
set_option maxHeartbeats 4000000 in
theorem k_X12_isBeside_28 {p : Program} {l : Launch} {e : Env} {s : State} {m : MethodId} {args : Array Value} {below : List Frame} {meth : Method} {c : Code} {D : va_G} {cy : Nat → ClassId} {z0 : Nat} {ad : Nat → Nat} {X : va_W} {u : Nat × Nat} (hC : cx_C p s m args meth c cX12_isBeside "RhymedThenModel" (Cond.code yX12_isBeside cX12_isBeside 3 (some .boolean)) 3 (some .boolean)) {z : Int32} {M : mm_M} (hf : f_X12_isBeside_28 M = some z) {H : Heap} {locs : List Loc} (hw : wd_in rf_T D cy z0 ad u M X s H locs) {ls : Array Slot} (hl : lv_has ls 3 []) : W p l e { frames := 2, cells := 0, slots := 0, locals := 43 } s m args below meth c H locs 0 0 (MQ below (cq_i rf_T D cy z0 ad u X z M) args s 0 0 (fun q => z0 ≤ q)) (F0 m 28 ls []) := by
  have hx := hC.1
  have hb := hC.2.1
  unfold f_X12_isBeside_28 at hf
  refine lv_iconst (v := 1) hx hb dX12_isBeside_28 (by decide) ?_
  refine lv_goto (tgt := 33) hx hb dX12_isBeside_29 (by decide) ?_
  have hz := Option.some.inj hf
  subst hz
  exact rtc_z hC hw (Or.inr rfl) dX12_isBeside_33
set_option maxRecDepth 100000 in
set_option maxHeartbeats 4000000 in
theorem k_X12_isBeside {p : Program} {l : Launch} {e : Env} {s : State} {m : MethodId} {args : Array Value} {below : List Frame} {meth : Method} {c : Code} {D : va_G} {cy : Nat → ClassId} {z0 : Nat} {ad : Nat → Nat} {X : va_W} {u : Nat × Nat} (hC : cx_C p s m args meth c cX12_isBeside "RhymedThenModel" (Cond.code yX12_isBeside cX12_isBeside 3 (some .boolean)) 3 (some .boolean)) {z : Int32} {x1 : Int32} {x2 : Int32} {M : mm_M} (hf : f_X12_isBeside x1 x2 M = some z) {H : Heap} {locs : List Loc} (hw : wd_in rf_T D cy z0 ad u M X s H locs) {ls : Array Slot} (hl : lv_has ls 3 [(0, .ref (ad 0)), (1, .int x1), (2, .int x2)]) : W p l e { frames := 2, cells := 0, slots := 0, locals := 43 } s m args below meth c H locs 0 0 (MQ below (cq_i rf_T D cy z0 ad u X z M) args s 0 0 (fun q => z0 ≤ q)) (F0 m 0 ls []) := by
  have hx := hC.1
  have hb := hC.2.1
  unfold f_X12_isBeside at hf
  refine lv_iload_n hx hb dX12_isBeside_0 rfl (lv_at hl 1 rfl) ?_
  refine lv_bipush (v := 23) hx hb dX12_isBeside_1 (by decide) ?_
  refine lv_icmp_eq (tgt := 28) hx hb dX12_isBeside_3 (by decide) (fun c1 => ?_) (fun c1 => ?_)
  · rw [if_pos c1] at hf
    exact k_X12_isBeside_28 hC hf hw (lv_sub hl [] rfl)
  · rw [if_neg c1] at hf
    refine lv_iload_n hx hb dX12_isBeside_6 rfl (lv_at hl 1 rfl) ?_
    refine lv_bipush (v := 22) hx hb dX12_isBeside_7 (by decide) ?_
    refine lv_icmp_ne (tgt := 19) hx hb dX12_isBeside_9 (by decide) (fun c2 => ?_) (fun c2 => ?_)
    · rw [if_neg c2] at hf
      refine lv_aload_n hx hb dX12_isBeside_19 rfl (lv_at hl 0 rfl) ?_
      refine lv_iload_n hx hb dX12_isBeside_20 rfl (lv_at hl 1 rfl) ?_
      refine lv_iload_n hx hb dX12_isBeside_21 rfl (lv_at hl 2 rfl) ?_
      obtain ⟨z3, ez3, hf⟩ := bd_e hf
      refine clc_Vi hC hw (c_X12_isOf ez3) hd_X12_isOf cw_X12_152 (Nat.le_of_ble_eq_true rfl) rfl rfl (rest := []) hl.1 rfl (Nat.le_of_ble_eq_true rfl) ⟨Nat.le_of_ble_eq_true rfl, Nat.le_of_ble_eq_true rfl⟩ ⟨Nat.zero_le _, Nat.zero_le _⟩ rfl dX12_isBeside_22 (fun H locs hw => ?_)
      refine lv_if_eq (tgt := 32) hx hb dX12_isBeside_25 (by decide) (fun c4 => ?_) (fun c4 => ?_)
      · rw [if_pos c4] at hf
        refine lv_iconst (v := 0) hx hb dX12_isBeside_32 (by decide) ?_
        have hz := Option.some.inj hf
        subst hz
        exact rtc_z hC hw (Or.inl rfl) dX12_isBeside_33
      · rw [if_neg c4] at hf
        exact k_X12_isBeside_28 hC hf hw (lv_sub hl [] rfl)
    · rw [if_pos c2] at hf
      refine lv_iload_n hx hb dX12_isBeside_12 rfl (lv_at hl 2 rfl) ?_
      refine lv_if_ge (tgt := 32) hx hb dX12_isBeside_13 (by decide) (fun c5 => ?_) (fun c5 => ?_)
      · rw [if_pos c5] at hf
        refine lv_iconst (v := 0) hx hb dX12_isBeside_32 (by decide) ?_
        have hz := Option.some.inj hf
        subst hz
        exact rtc_z hC hw (Or.inl rfl) dX12_isBeside_33
      · rw [if_neg c5] at hf
        refine lv_goto (tgt := 28) hx hb dX12_isBeside_16 (by decide) ?_
        exact k_X12_isBeside_28 hC hf hw (lv_sub hl [] rfl)
set_option maxRecDepth 100000 in
theorem c_X12_isBeside {l : Launch} {D : va_G} {cy : Nat → ClassId} {z0 : Nat} {ad : Nat → Nat} {u : Nat × Nat} {X : va_W} {z : Int32} {x1 : Int32} {x2 : Int32} {M : mm_M} (hf : f_X12_isBeside x1 x2 M = some z) : ct_i rf_T l yX12_isBeside (Cond.code yX12_isBeside cX12_isBeside 3 (some .boolean)) 2 43 D cy z0 ad u M X [.ref (ad 0), .int x1, .int x2] z M := by
  refine bgc_i (by decide) (fun p e s m below meth c hC hw => ?_)
  refine en_t (Nat.le_of_ble_eq_true rfl) (fun ls hl => ?_)
  have hl : lv_has ls 3 [(0, .ref (ad 0)), (1, .int x1), (2, .int x2)] := hl
  exact k_X12_isBeside hC hf hw hl
set_option maxRecDepth 100000 in
set_option maxHeartbeats 4000000 in
theorem k_X12_worksOn_211 {p : Program} {l : Launch} {e : Env} {s : State} {m : MethodId} {args : Array Value} {below : List Frame} {meth : Method} {c : Code} {D : va_G} {cy : Nat → ClassId} {z0 : Nat} {ad : Nat → Nat} {X : va_W} {u : Nat × Nat} (hC : cx_C p s m args meth c cX12_worksOn "RhymedThenModel" (Cond.code yX12_worksOn cX12_worksOn 11 (some .boolean)) 11 (some .boolean)) {z : (Int32 × mm_M)} {x1 : Int32} {x2 : Int32} {x3 : Int32} {x4 : Int32} {x5 : Int32} {x6 : Int32} {M : mm_M} {q16 : Int32 → Int32 → Int32 → Int32 → Int32 → Int32 → mm_M → Option (Int32 × mm_M)} (hq16 : ∀ (x1 : Int32) (x2 : Int32) (x3 : Int32) (x4 : Int32) (x5 : Int32) (x6 : Int32) (M : mm_M) (H : Heap) (locs : List Loc) (ls : Array Slot), q16 x1 x2 x3 x4 x5 x6 M = some z → wd_in rf_T D cy z0 ad u M X s H locs → lv_has ls 11 [(0, .ref (ad 0)), (1, .int x1), (2, .int x2), (3, .int x3), (4, .int x4), (5, .int x5), (6, .int x6)] → W p l e { frames := 3, cells := 0, slots := 0, locals := 65 } s m args below meth c H locs 0 0 (MQ below (cq_i rf_T D cy z0 ad u X z.1 z.2) args s 0 0 (fun q => z0 ≤ q)) (F0 m 16 ls [])) (hf : f_X12_worksOn_211 q16 x1 x2 x3 x4 x5 x6 M = some z) {H : Heap} {locs : List Loc} (hw : wd_in rf_T D cy z0 ad u M X s H locs) {ls : Array Slot} (hl : lv_has ls 11 [(0, .ref (ad 0)), (1, .int x1), (2, .int x2), (3, .int x3), (4, .int x4), (5, .int x5), (6, .int x6)]) : W p l e { frames := 3, cells := 0, slots := 0, locals := 65 } s m args below meth c H locs 0 0 (MQ below (cq_i rf_T D cy z0 ad u X z.1 z.2) args s 0 0 (fun q => z0 ≤ q)) (F0 m 211 ls []) := by
  have hx := hC.1
  have hb := hC.2.1
  unfold f_X12_worksOn_211 at hf
  obtain ⟨y36, ey36, hf⟩ := sq_e hf
  refine lv_iinc (v := y36) (lv' := [(6, .int y36), (0, .ref (ad 0)), (1, .int x1), (2, .int x2), (3, .int x3), (4, .int x4), (5, .int x5)]) hx hb dX12_worksOn_211 hl (k := 6) rfl (by rw [ey36]; rfl) (by decide) rfl (fun ls hl => ?_)
  refine lv_goto (tgt := 16) hx hb dX12_worksOn_214 (by decide) ?_
  exact hq16 _ _ _ _ _ _ _ _ _ _ hf hw (lv_sub hl [1, 2, 3, 4, 5, 6, 0] rfl)
set_option maxRecDepth 100000 in
set_option maxHeartbeats 4000000 in
theorem k_X12_worksOn_207 {p : Program} {l : Launch} {e : Env} {s : State} {m : MethodId} {args : Array Value} {below : List Frame} {meth : Method} {c : Code} {D : va_G} {cy : Nat → ClassId} {z0 : Nat} {ad : Nat → Nat} {X : va_W} {u : Nat × Nat} (hC : cx_C p s m args meth c cX12_worksOn "RhymedThenModel" (Cond.code yX12_worksOn cX12_worksOn 11 (some .boolean)) 11 (some .boolean)) {z : (Int32 × mm_M)} {x1 : Int32} {x2 : Int32} {x3 : Int32} {x4 : Int32} {x5 : Int32} {x6 : Int32} {t1 : Int32} {t2 : Int32} {M : mm_M} {q16 : Int32 → Int32 → Int32 → Int32 → Int32 → Int32 → mm_M → Option (Int32 × mm_M)} (hq16 : ∀ (x1 : Int32) (x2 : Int32) (x3 : Int32) (x4 : Int32) (x5 : Int32) (x6 : Int32) (M : mm_M) (H : Heap) (locs : List Loc) (ls : Array Slot), q16 x1 x2 x3 x4 x5 x6 M = some z → wd_in rf_T D cy z0 ad u M X s H locs → lv_has ls 11 [(0, .ref (ad 0)), (1, .int x1), (2, .int x2), (3, .int x3), (4, .int x4), (5, .int x5), (6, .int x6)] → W p l e { frames := 3, cells := 0, slots := 0, locals := 65 } s m args below meth c H locs 0 0 (MQ below (cq_i rf_T D cy z0 ad u X z.1 z.2) args s 0 0 (fun q => z0 ≤ q)) (F0 m 16 ls [])) (hf : f_X12_worksOn_207 q16 x1 x2 x3 x4 x5 x6 t1 t2 M = some z) {H : Heap} {locs : List Loc} (hw : wd_in rf_T D cy z0 ad u M X s H locs) {ls : Array Slot} (hl : lv_has ls 11 [(0, .ref (ad 0)), (1, .int x1), (2, .int x2), (3, .int x3), (4, .int x4), (5, .int x5), (6, .int x6)]) : W p l e { frames := 3, cells := 0, slots := 0, locals := 65 } s m args below meth c H locs 0 0 (MQ below (cq_i rf_T D cy z0 ad u X z.1 z.2) args s 0 0 (fun q => z0 ≤ q)) (F0 m 207 ls [.int t2, .int t1, .ref (ad 16)]) := by
  have hx := hC.1
  have hb := hC.2.1
  unfold f_X12_worksOn_207 at hf
  obtain ⟨h37, hf⟩ := ck_e hf
  obtain ⟨M38, eM38, hf⟩ := sq_e hf
  refine rs_i hC hw 16 (Nat.le_of_ble_eq_true rfl) rfl h37 dX12_worksOn_207 eM38 (fun H locs hw => ?_)
  obtain ⟨y39, ey39, hf⟩ := sq_e hf
  refine lv_iinc (v := y39) (lv' := [(4, .int y39), (0, .ref (ad 0)), (1, .int x1), (2, .int x2), (3, .int x3), (5, .int x5), (6, .int x6)]) hx hb dX12_worksOn_208 hl (k := 4) rfl (by rw [ey39]; rfl) (by decide) rfl (fun ls hl => ?_)
  exact k_X12_worksOn_211 hC hq16 hf hw (lv_sub hl [1, 2, 3, 4, 0, 5, 6] rfl)
set_option maxRecDepth 100000 in
set_option maxHeartbeats 4000000 in
theorem k_X12_worksOn_185 {p : Program} {l : Launch} {e : Env} {s : State} {m : MethodId} {args : Array Value} {below : List Frame} {meth : Method} {c : Code} {D : va_G} {cy : Nat → ClassId} {z0 : Nat} {ad : Nat → Nat} {X : va_W} {u : Nat × Nat} (hC : cx_C p s m args meth c cX12_worksOn "RhymedThenModel" (Cond.code yX12_worksOn cX12_worksOn 11 (some .boolean)) 11 (some .boolean)) {z : (Int32 × mm_M)} {x1 : Int32} {x2 : Int32} {x3 : Int32} {x4 : Int32} {x5 : Int32} {x6 : Int32} {x7 : Int32} {x10 : Int32} {M : mm_M} {q16 : Int32 → Int32 → Int32 → Int32 → Int32 → Int32 → mm_M → Option (Int32 × mm_M)} (hq16 : ∀ (x1 : Int32) (x2 : Int32) (x3 : Int32) (x4 : Int32) (x5 : Int32) (x6 : Int32) (M : mm_M) (H : Heap) (locs : List Loc) (ls : Array Slot), q16 x1 x2 x3 x4 x5 x6 M = some z → wd_in rf_T D cy z0 ad u M X s H locs → lv_has ls 11 [(0, .ref (ad 0)), (1, .int x1), (2, .int x2), (3, .int x3), (4, .int x4), (5, .int x5), (6, .int x6)] → W p l e { frames := 3, cells := 0, slots := 0, locals := 65 } s m args below meth c H locs 0 0 (MQ below (cq_i rf_T D cy z0 ad u X z.1 z.2) args s 0 0 (fun q => z0 ≤ q)) (F0 m 16 ls [])) (hf : f_X12_worksOn_185 q16 x1 x2 x3 x4 x5 x6 x7 x10 M = some z) {H : Heap} {locs : List Loc} (hw : wd_in rf_T D cy z0 ad u M X s H locs) {ls : Array Slot} (hl : lv_has ls 11 [(0, .ref (ad 0)), (1, .int x1), (2, .int x2), (3, .int x3), (4, .int x4), (5, .int x5), (6, .int x6), (7, .int x7), (10, .int x10)]) : W p l e { frames := 3, cells := 0, slots := 0, locals := 65 } s m args below meth c H locs 0 0 (MQ below (cq_i rf_T D cy z0 ad u X z.1 z.2) args s 0 0 (fun q => z0 ≤ q)) (F0 m 185 ls []) := by
  have hx := hC.1
  have hb := hC.2.1
  unfold f_X12_worksOn_185 at hf
  refine lv_aload_n hx hb dX12_worksOn_185 rfl (lv_at hl 0 rfl) ?_
  refine rg_p hC hw 0 (Nat.le_of_ble_eq_true rfl) rfl fd_X12_22 wf_X12_164 (q := 16) rfl dX12_worksOn_186 ?_
  refine lv_iload hx hb dX12_worksOn_189 (lv_at hl 4 rfl) ?_
  refine lv_iload hx hb dX12_worksOn_191 (lv_at hl 8 rfl) ?_
  refine lv_if_eq (tgt := 205) hx hb dX12_worksOn_193 (by decide) (fun c34 => ?_) (fun c34 => ?_)
  · rw [if_pos c34] at hf
    refine lv_iload hx hb dX12_worksOn_205 (lv_at hl 7 rfl) ?_
    exact k_X12_worksOn_207 hC hq16 hf hw (lv_sub hl [0, 1, 2, 3, 4, 5, 6] rfl)
  · rw [if_neg c34] at hf
    refine lv_aload_n hx hb dX12_worksOn_196 rfl (lv_at hl 0 rfl) ?_
    refine rg_p hC hw 0 (Nat.le_of_ble_eq_true rfl) rfl fd_X12_13 wf_X12_87 (q := 7) rfl dX12_worksOn_197 ?_
    refine lv_iload_n hx hb dX12_worksOn_200 rfl (lv_at hl 2 rfl) ?_
    obtain ⟨h35, hf⟩ := ck_e hf
    refine ra_i hC hw 7 (Nat.le_of_ble_eq_true rfl) rfl h35 dX12_worksOn_201 ?_
    refine lv_goto (tgt := 207) hx hb dX12_worksOn_202 (by decide) ?_
    exact k_X12_worksOn_207 hC hq16 hf hw (lv_sub hl [0, 1, 2, 3, 4, 5, 6] rfl)
set_option maxRecDepth 100000 in
set_option maxHeartbeats 4000000 in
theorem k_X12_worksOn_167 {p : Program} {l : Launch} {e : Env} {s : State} {m : MethodId} {args : Array Value} {below : List Frame} {meth : Method} {c : Code} {D : va_G} {cy : Nat → ClassId} {z0 : Nat} {ad : Nat → Nat} {X : va_W} {u : Nat × Nat} (hC : cx_C p s m args meth c cX12_worksOn "RhymedThenModel" (Cond.code yX12_worksOn cX12_worksOn 11 (some .boolean)) 11 (some .boolean)) {z : (Int32 × mm_M)} {x1 : Int32} {x2 : Int32} {x3 : Int32} {x4 : Int32} {x6 : Int32} {x7 : Int32} {x10 : Int32} {t0 : Int32} {M : mm_M} {q16 : Int32 → Int32 → Int32 → Int32 → Int32 → Int32 → mm_M → Option (Int32 × mm_M)} (hq16 : ∀ (x1 : Int32) (x2 : Int32) (x3 : Int32) (x4 : Int32) (x5 : Int32) (x6 : Int32) (M : mm_M) (H : Heap) (locs : List Loc) (ls : Array Slot), q16 x1 x2 x3 x4 x5 x6 M = some z → wd_in rf_T D cy z0 ad u M X s H locs → lv_has ls 11 [(0, .ref (ad 0)), (1, .int x1), (2, .int x2), (3, .int x3), (4, .int x4), (5, .int x5), (6, .int x6)] → W p l e { frames := 3, cells := 0, slots := 0, locals := 65 } s m args below meth c H locs 0 0 (MQ below (cq_i rf_T D cy z0 ad u X z.1 z.2) args s 0 0 (fun q => z0 ≤ q)) (F0 m 16 ls [])) (hf : f_X12_worksOn_167 q16 x1 x2 x3 x4 x6 x7 x10 t0 M = some z) {H : Heap} {locs : List Loc} (hw : wd_in rf_T D cy z0 ad u M X s H locs) {ls : Array Slot} (hl : lv_has ls 11 [(0, .ref (ad 0)), (1, .int x1), (2, .int x2), (3, .int x3), (4, .int x4), (6, .int x6), (7, .int x7), (10, .int x10)]) : W p l e { frames := 3, cells := 0, slots := 0, locals := 65 } s m args below meth c H locs 0 0 (MQ below (cq_i rf_T D cy z0 ad u X z.1 z.2) args s 0 0 (fun q => z0 ≤ q)) (F0 m 167 ls [.int t0]) := by
  have hx := hC.1
  have hb := hC.2.1
  unfold f_X12_worksOn_167 at hf
  refine lv_istore (lv' := [(5, .int t0), (0, .ref (ad 0)), (1, .int x1), (2, .int x2), (3, .int x3), (4, .int x4), (6, .int x6), (7, .int x7), (10, .int x10)]) hx hb dX12_worksOn_167 hl (by decide) rfl (fun ls hl => ?_)
  refine lv_iload hx hb dX12_worksOn_169 (lv_at hl 8 rfl) ?_
  refine lv_if_eq (tgt := 185) hx hb dX12_worksOn_171 (by decide) (fun c31 => ?_) (fun c31 => ?_)
  · rw [if_pos c31] at hf
    exact k_X12_worksOn_185 hC hq16 hf hw (lv_sub hl [1, 2, 3, 4, 5, 0, 6, 7, 8] rfl)
  · rw [if_neg c31] at hf
    refine lv_aload_n hx hb dX12_worksOn_174 rfl (lv_at hl 1 rfl) ?_
    refine rg_p hC hw 0 (Nat.le_of_ble_eq_true rfl) rfl fd_X12_13 wf_X12_87 (q := 7) rfl dX12_worksOn_175 ?_
    refine lv_iload_n hx hb dX12_worksOn_178 rfl (lv_at hl 3 rfl) ?_
    obtain ⟨h32, hf⟩ := ck_e hf
    refine ra_i hC hw 7 (Nat.le_of_ble_eq_true rfl) rfl h32 dX12_worksOn_179 ?_
    refine lv_bipush (v := 24) hx hb dX12_worksOn_180 (by decide) ?_
    refine lv_icmp_eq (tgt := 211) hx hb dX12_worksOn_182 (by decide) (fun c33 => ?_) (fun c33 => ?_)
    · rw [if_pos c33] at hf
      exact k_X12_worksOn_211 hC hq16 hf hw (lv_sub hl [1, 2, 3, 4, 5, 0, 6] rfl)
    · rw [if_neg c33] at hf
      exact k_X12_worksOn_185 hC hq16 hf hw (lv_sub hl [1, 2, 3, 4, 5, 0, 6, 7, 8] rfl)
set_option maxRecDepth 100000 in
set_option maxHeartbeats 4000000 in
theorem k_X12_worksOn_162 {p : Program} {l : Launch} {e : Env} {s : State} {m : MethodId} {args : Array Value} {below : List Frame} {meth : Method} {c : Code} {D : va_G} {cy : Nat → ClassId} {z0 : Nat} {ad : Nat → Nat} {X : va_W} {u : Nat × Nat} (hC : cx_C p s m args meth c cX12_worksOn "RhymedThenModel" (Cond.code yX12_worksOn cX12_worksOn 11 (some .boolean)) 11 (some .boolean)) {z : (Int32 × mm_M)} {x1 : Int32} {x2 : Int32} {x3 : Int32} {x4 : Int32} {x6 : Int32} {x7 : Int32} {x10 : Int32} {M : mm_M} {q16 : Int32 → Int32 → Int32 → Int32 → Int32 → Int32 → mm_M → Option (Int32 × mm_M)} (hq16 : ∀ (x1 : Int32) (x2 : Int32) (x3 : Int32) (x4 : Int32) (x5 : Int32) (x6 : Int32) (M : mm_M) (H : Heap) (locs : List Loc) (ls : Array Slot), q16 x1 x2 x3 x4 x5 x6 M = some z → wd_in rf_T D cy z0 ad u M X s H locs → lv_has ls 11 [(0, .ref (ad 0)), (1, .int x1), (2, .int x2), (3, .int x3), (4, .int x4), (5, .int x5), (6, .int x6)] → W p l e { frames := 3, cells := 0, slots := 0, locals := 65 } s m args below meth c H locs 0 0 (MQ below (cq_i rf_T D cy z0 ad u X z.1 z.2) args s 0 0 (fun q => z0 ≤ q)) (F0 m 16 ls [])) (hf : f_X12_worksOn_162 q16 x1 x2 x3 x4 x6 x7 x10 M = some z) {H : Heap} {locs : List Loc} (hw : wd_in rf_T D cy z0 ad u M X s H locs) {ls : Array Slot} (hl : lv_has ls 11 [(0, .ref (ad 0)), (1, .int x1), (2, .int x2), (3, .int x3), (4, .int x4), (6, .int x6), (7, .int x7), (10, .int x10)]) : W p l e { frames := 3, cells := 0, slots := 0, locals := 65 } s m args below meth c H locs 0 0 (MQ below (cq_i rf_T D cy z0 ad u X z.1 z.2) args s 0 0 (fun q => z0 ≤ q)) (F0 m 162 ls []) := by
  have hx := hC.1
  have hb := hC.2.1
  unfold f_X12_worksOn_162 at hf
  refine lv_iconst (v := 1) hx hb dX12_worksOn_162 (by decide) ?_
  refine lv_goto (tgt := 167) hx hb dX12_worksOn_163 (by decide) ?_
  exact k_X12_worksOn_167 hC hq16 hf hw (lv_sub hl [0, 1, 2, 3, 4, 5, 6, 7] rfl)
set_option maxRecDepth 100000 in
set_option maxHeartbeats 4000000 in
theorem k_X12_worksOn_166 {p : Program} {l : Launch} {e : Env} {s : State} {m : MethodId} {args : Array Value} {below : List Frame} {meth : Method} {c : Code} {D : va_G} {cy : Nat → ClassId} {z0 : Nat} {ad : Nat → Nat} {X : va_W} {u : Nat × Nat} (hC : cx_C p s m args meth c cX12_worksOn "RhymedThenModel" (Cond.code yX12_worksOn cX12_worksOn 11 (some .boolean)) 11 (some .boolean)) {z : (Int32 × mm_M)} {x1 : Int32} {x2 : Int32} {x3 : Int32} {x4 : Int32} {x6 : Int32} {x7 : Int32} {x10 : Int32} {M : mm_M} {q16 : Int32 → Int32 → Int32 → Int32 → Int32 → Int32 → mm_M → Option (Int32 × mm_M)} (hq16 : ∀ (x1 : Int32) (x2 : Int32) (x3 : Int32) (x4 : Int32) (x5 : Int32) (x6 : Int32) (M : mm_M) (H : Heap) (locs : List Loc) (ls : Array Slot), q16 x1 x2 x3 x4 x5 x6 M = some z → wd_in rf_T D cy z0 ad u M X s H locs → lv_has ls 11 [(0, .ref (ad 0)), (1, .int x1), (2, .int x2), (3, .int x3), (4, .int x4), (5, .int x5), (6, .int x6)] → W p l e { frames := 3, cells := 0, slots := 0, locals := 65 } s m args below meth c H locs 0 0 (MQ below (cq_i rf_T D cy z0 ad u X z.1 z.2) args s 0 0 (fun q => z0 ≤ q)) (F0 m 16 ls [])) (hf : f_X12_worksOn_166 q16 x1 x2 x3 x4 x6 x7 x10 M = some z) {H : Heap} {locs : List Loc} (hw : wd_in rf_T D cy z0 ad u M X s H locs) {ls : Array Slot} (hl : lv_has ls 11 [(0, .ref (ad 0)), (1, .int x1), (2, .int x2), (3, .int x3), (4, .int x4), (6, .int x6), (7, .int x7), (10, .int x10)]) : W p l e { frames := 3, cells := 0, slots := 0, locals := 65 } s m args below meth c H locs 0 0 (MQ below (cq_i rf_T D cy z0 ad u X z.1 z.2) args s 0 0 (fun q => z0 ≤ q)) (F0 m 166 ls []) := by
  have hx := hC.1
  have hb := hC.2.1
  unfold f_X12_worksOn_166 at hf
  refine lv_iconst (v := 0) hx hb dX12_worksOn_166 (by decide) ?_
  exact k_X12_worksOn_167 hC hq16 hf hw (lv_sub hl [0, 1, 2, 3, 4, 5, 6, 7] rfl)
set_option maxRecDepth 100000 in
set_option maxHeartbeats 4000000 in
theorem k_X12_worksOn_139 {p : Program} {l : Launch} {e : Env} {s : State} {m : MethodId} {args : Array Value} {below : List Frame} {meth : Method} {c : Code} {D : va_G} {cy : Nat → ClassId} {z0 : Nat} {ad : Nat → Nat} {X : va_W} {u : Nat × Nat} (hC : cx_C p s m args meth c cX12_worksOn "RhymedThenModel" (Cond.code yX12_worksOn cX12_worksOn 11 (some .boolean)) 11 (some .boolean)) {z : (Int32 × mm_M)} {x1 : Int32} {x2 : Int32} {x3 : Int32} {x4 : Int32} {x5 : Int32} {x6 : Int32} {x7 : Int32} {t0 : Int32} {M : mm_M} {q16 : Int32 → Int32 → Int32 → Int32 → Int32 → Int32 → mm_M → Option (Int32 × mm_M)} (hq16 : ∀ (x1 : Int32) (x2 : Int32) (x3 : Int32) (x4 : Int32) (x5 : Int32) (x6 : Int32) (M : mm_M) (H : Heap) (locs : List Loc) (ls : Array Slot), q16 x1 x2 x3 x4 x5 x6 M = some z → wd_in rf_T D cy z0 ad u M X s H locs → lv_has ls 11 [(0, .ref (ad 0)), (1, .int x1), (2, .int x2), (3, .int x3), (4, .int x4), (5, .int x5), (6, .int x6)] → W p l e { frames := 3, cells := 0, slots := 0, locals := 65 } s m args below meth c H locs 0 0 (MQ below (cq_i rf_T D cy z0 ad u X z.1 z.2) args s 0 0 (fun q => z0 ≤ q)) (F0 m 16 ls [])) (hf : f_X12_worksOn_139 q16 x1 x2 x3 x4 x5 x6 x7 t0 M = some z) {H : Heap} {locs : List Loc} (hw : wd_in rf_T D cy z0 ad u M X s H locs) {ls : Array Slot} (hl : lv_has ls 11 [(0, .ref (ad 0)), (1, .int x1), (2, .int x2), (3, .int x3), (4, .int x4), (5, .int x5), (6, .int x6), (7, .int x7)]) : W p l e { frames := 3, cells := 0, slots := 0, locals := 65 } s m args below meth c H locs 0 0 (MQ below (cq_i rf_T D cy z0 ad u X z.1 z.2) args s 0 0 (fun q => z0 ≤ q)) (F0 m 139 ls [.int t0]) := by
  have hx := hC.1
  have hb := hC.2.1
  unfold f_X12_worksOn_139 at hf
  refine lv_istore (lv' := [(10, .int t0), (0, .ref (ad 0)), (1, .int x1), (2, .int x2), (3, .int x3), (4, .int x4), (5, .int x5), (6, .int x6), (7, .int x7)]) hx hb dX12_worksOn_139 hl (by decide) rfl (fun ls hl => ?_)
  refine lv_iload hx hb dX12_worksOn_141 (lv_at hl 6 rfl) ?_
  refine lv_if_ne (tgt := 162) hx hb dX12_worksOn_143 (by decide) (fun c27 => ?_) (fun c27 => ?_)
  · rw [if_neg c27] at hf
    exact k_X12_worksOn_162 hC hq16 hf hw (lv_sub hl [1, 2, 3, 4, 5, 7, 8, 0] rfl)
  · rw [if_pos c27] at hf
    refine lv_iload hx hb dX12_worksOn_146 (lv_at hl 0 rfl) ?_
    refine lv_if_eq (tgt := 166) hx hb dX12_worksOn_148 (by decide) (fun c28 => ?_) (fun c28 => ?_)
    · rw [if_pos c28] at hf
      exact k_X12_worksOn_166 hC hq16 hf hw (lv_sub hl [1, 2, 3, 4, 5, 7, 8, 0] rfl)
    · rw [if_neg c28] at hf
      refine lv_aload_n hx hb dX12_worksOn_151 rfl (lv_at hl 1 rfl) ?_
      refine rg_p hC hw 0 (Nat.le_of_ble_eq_true rfl) rfl fd_X12_13 wf_X12_87 (q := 7) rfl dX12_worksOn_152 ?_
      refine lv_iload_n hx hb dX12_worksOn_155 rfl (lv_at hl 3 rfl) ?_
      obtain ⟨h29, hf⟩ := ck_e hf
      refine ra_i hC hw 7 (Nat.le_of_ble_eq_true rfl) rfl h29 dX12_worksOn_156 ?_
      refine lv_iload hx hb dX12_worksOn_157 (lv_at hl 8 rfl) ?_
      refine lv_icmp_eq (tgt := 166) hx hb dX12_worksOn_159 (by decide) (fun c30 => ?_) (fun c30 => ?_)
      · rw [if_pos c30] at hf
        exact k_X12_worksOn_166 hC hq16 hf hw (lv_sub hl [1, 2, 3, 4, 5, 7, 8, 0] rfl)
      · rw [if_neg c30] at hf
        exact k_X12_worksOn_162 hC hq16 hf hw (lv_sub hl [1, 2, 3, 4, 5, 7, 8, 0] rfl)
set_option maxRecDepth 100000 in
set_option maxHeartbeats 4000000 in
theorem k_X12_worksOn_138 {p : Program} {l : Launch} {e : Env} {s : State} {m : MethodId} {args : Array Value} {below : List Frame} {meth : Method} {c : Code} {D : va_G} {cy : Nat → ClassId} {z0 : Nat} {ad : Nat → Nat} {X : va_W} {u : Nat × Nat} (hC : cx_C p s m args meth c cX12_worksOn "RhymedThenModel" (Cond.code yX12_worksOn cX12_worksOn 11 (some .boolean)) 11 (some .boolean)) {z : (Int32 × mm_M)} {x1 : Int32} {x2 : Int32} {x3 : Int32} {x4 : Int32} {x5 : Int32} {x6 : Int32} {x7 : Int32} {M : mm_M} {q16 : Int32 → Int32 → Int32 → Int32 → Int32 → Int32 → mm_M → Option (Int32 × mm_M)} (hq16 : ∀ (x1 : Int32) (x2 : Int32) (x3 : Int32) (x4 : Int32) (x5 : Int32) (x6 : Int32) (M : mm_M) (H : Heap) (locs : List Loc) (ls : Array Slot), q16 x1 x2 x3 x4 x5 x6 M = some z → wd_in rf_T D cy z0 ad u M X s H locs → lv_has ls 11 [(0, .ref (ad 0)), (1, .int x1), (2, .int x2), (3, .int x3), (4, .int x4), (5, .int x5), (6, .int x6)] → W p l e { frames := 3, cells := 0, slots := 0, locals := 65 } s m args below meth c H locs 0 0 (MQ below (cq_i rf_T D cy z0 ad u X z.1 z.2) args s 0 0 (fun q => z0 ≤ q)) (F0 m 16 ls [])) (hf : f_X12_worksOn_138 q16 x1 x2 x3 x4 x5 x6 x7 M = some z) {H : Heap} {locs : List Loc} (hw : wd_in rf_T D cy z0 ad u M X s H locs) {ls : Array Slot} (hl : lv_has ls 11 [(0, .ref (ad 0)), (1, .int x1), (2, .int x2), (3, .int x3), (4, .int x4), (5, .int x5), (6, .int x6), (7, .int x7)]) : W p l e { frames := 3, cells := 0, slots := 0, locals := 65 } s m args below meth c H locs 0 0 (MQ below (cq_i rf_T D cy z0 ad u X z.1 z.2) args s 0 0 (fun q => z0 ≤ q)) (F0 m 138 ls []) := by
  have hx := hC.1
  have hb := hC.2.1
  unfold f_X12_worksOn_138 at hf
  refine lv_iconst (v := 0) hx hb dX12_worksOn_138 (by decide) ?_
  exact k_X12_worksOn_139 hC hq16 hf hw (lv_sub hl [0, 1, 2, 3, 4, 5, 6, 7] rfl)
set_option maxRecDepth 100000 in
set_option maxHeartbeats 4000000 in
theorem k_X12_worksOn_87 {p : Program} {l : Launch} {e : Env} {s : State} {m : MethodId} {args : Array Value} {below : List Frame} {meth : Method} {c : Code} {D : va_G} {cy : Nat → ClassId} {z0 : Nat} {ad : Nat → Nat} {X : va_W} {u : Nat × Nat} (hC : cx_C p s m args meth c cX12_worksOn "RhymedThenModel" (Cond.code yX12_worksOn cX12_worksOn 11 (some .boolean)) 11 (some .boolean)) {z : (Int32 × mm_M)} {x1 : Int32} {x2 : Int32} {x3 : Int32} {x4 : Int32} {x5 : Int32} {x6 : Int32} {x7 : Int32} {x8 : Int32} {t0 : Int32} {M : mm_M} {q16 : Int32 → Int32 → Int32 → Int32 → Int32 → Int32 → mm_M → Option (Int32 × mm_M)} (hq16 : ∀ (x1 : Int32) (x2 : Int32) (x3 : Int32) (x4 : Int32) (x5 : Int32) (x6 : Int32) (M : mm_M) (H : Heap) (locs : List Loc) (ls : Array Slot), q16 x1 x2 x3 x4 x5 x6 M = some z → wd_in rf_T D cy z0 ad u M X s H locs → lv_has ls 11 [(0, .ref (ad 0)), (1, .int x1), (2, .int x2), (3, .int x3), (4, .int x4), (5, .int x5), (6, .int x6)] → W p l e { frames := 3, cells := 0, slots := 0, locals := 65 } s m args below meth c H locs 0 0 (MQ below (cq_i rf_T D cy z0 ad u X z.1 z.2) args s 0 0 (fun q => z0 ≤ q)) (F0 m 16 ls [])) (hf : f_X12_worksOn_87 q16 x1 x2 x3 x4 x5 x6 x7 x8 t0 M = some z) {H : Heap} {locs : List Loc} (hw : wd_in rf_T D cy z0 ad u M X s H locs) {ls : Array Slot} (hl : lv_has ls 11 [(0, .ref (ad 0)), (1, .int x1), (2, .int x2), (3, .int x3), (4, .int x4), (5, .int x5), (6, .int x6), (7, .int x7), (8, .int x8)]) : W p l e { frames := 3, cells := 0, slots := 0, locals := 65 } s m args below meth c H locs 0 0 (MQ below (cq_i rf_T D cy z0 ad u X z.1 z.2) args s 0 0 (fun q => z0 ≤ q)) (F0 m 87 ls [.int t0]) := by
  have hx := hC.1
  have hb := hC.2.1
  unfold f_X12_worksOn_87 at hf
  refine lv_istore (lv' := [(9, .int t0), (0, .ref (ad 0)), (1, .int x1), (2, .int x2), (3, .int x3), (4, .int x4), (5, .int x5), (6, .int x6), (7, .int x7), (8, .int x8)]) hx hb dX12_worksOn_87 hl (by decide) rfl (fun ls hl => ?_)
  refine lv_aload_n hx hb dX12_worksOn_89 rfl (lv_at hl 1 rfl) ?_
  refine lv_aload_n hx hb dX12_worksOn_90 rfl (lv_at hl 1 rfl) ?_
  refine rg_p hC hw 0 (Nat.le_of_ble_eq_true rfl) rfl fd_X12_12 wf_X12_84 (q := 6) rfl dX12_worksOn_91 ?_
  refine lv_iload_n hx hb dX12_worksOn_94 rfl (lv_at hl 3 rfl) ?_
  obtain ⟨h15, hf⟩ := ck_e hf
  refine ra_i hC hw 6 (Nat.le_of_ble_eq_true rfl) rfl h15 dX12_worksOn_95 ?_
  refine lv_iload hx hb dX12_worksOn_96 (lv_at hl 8 rfl) ?_
  obtain ⟨z16, ez16, hf⟩ := bd_e hf
  refine clc_Vi hC hw (c_X12_isOf ez16) hd_X12_isOf cw_X12_152 (Nat.le_of_ble_eq_true rfl) rfl rfl (rest := []) hl.1 rfl (Nat.le_of_ble_eq_true rfl) ⟨Nat.le_of_ble_eq_true rfl, Nat.le_of_ble_eq_true rfl⟩ ⟨Nat.zero_le _, Nat.zero_le _⟩ rfl dX12_worksOn_98 (fun H locs hw => ?_)
  refine lv_if_eq (tgt := 138) hx hb dX12_worksOn_101 (by decide) (fun c17 => ?_) (fun c17 => ?_)
  · rw [if_pos c17] at hf
    exact k_X12_worksOn_138 hC hq16 hf hw (lv_sub hl [1, 2, 3, 4, 5, 6, 7, 8] rfl)
  · rw [if_neg c17] at hf
    refine lv_aload_n hx hb dX12_worksOn_104 rfl (lv_at hl 1 rfl) ?_
    refine lv_aload_n hx hb dX12_worksOn_105 rfl (lv_at hl 1 rfl) ?_
    refine rg_p hC hw 0 (Nat.le_of_ble_eq_true rfl) rfl fd_X12_14 wf_X12_90 (q := 8) rfl dX12_worksOn_106 ?_
    refine lv_iload_n hx hb dX12_worksOn_109 rfl (lv_at hl 3 rfl) ?_
    obtain ⟨h18, hf⟩ := ck_e hf
    refine ra_i hC hw 8 (Nat.le_of_ble_eq_true rfl) rfl h18 dX12_worksOn_110 ?_
    refine lv_iload hx hb dX12_worksOn_111 (lv_at hl 9 rfl) ?_
    obtain ⟨z19, ez19, hf⟩ := bd_e hf
    refine clc_Vi hC hw (c_X12_isBeside ez19) hd_X12_isBeside cw_X12_161 (Nat.le_of_ble_eq_true rfl) rfl rfl (rest := []) hl.1 rfl (Nat.le_of_ble_eq_true rfl) ⟨Nat.le_of_ble_eq_true rfl, Nat.le_of_ble_eq_true rfl⟩ ⟨Nat.zero_le _, Nat.zero_le _⟩ rfl dX12_worksOn_113 (fun H locs hw => ?_)
    refine lv_if_eq (tgt := 138) hx hb dX12_worksOn_116 (by decide) (fun c20 => ?_) (fun c20 => ?_)
    · rw [if_pos c20] at hf
      exact k_X12_worksOn_138 hC hq16 hf hw (lv_sub hl [1, 2, 3, 4, 5, 6, 7, 8] rfl)
    · rw [if_neg c20] at hf
      refine lv_aload_n hx hb dX12_worksOn_119 rfl (lv_at hl 1 rfl) ?_
      refine lv_aload_n hx hb dX12_worksOn_120 rfl (lv_at hl 1 rfl) ?_
      refine rg_p hC hw 0 (Nat.le_of_ble_eq_true rfl) rfl fd_X12_15 wf_X12_93 (q := 9) rfl dX12_worksOn_121 ?_
      refine lv_iload_n hx hb dX12_worksOn_124 rfl (lv_at hl 3 rfl) ?_
      obtain ⟨h21, hf⟩ := ck_e hf
      refine ra_i hC hw 9 (Nat.le_of_ble_eq_true rfl) rfl h21 dX12_worksOn_125 ?_
      refine lv_iload hx hb dX12_worksOn_126 (lv_at hl 0 rfl) ?_
      obtain ⟨z22, ez22, hf⟩ := bd_e hf
      refine clc_Vi hC hw (c_X12_isBeside ez22) hd_X12_isBeside cw_X12_161 (Nat.le_of_ble_eq_true rfl) rfl rfl (rest := []) hl.1 rfl (Nat.le_of_ble_eq_true rfl) ⟨Nat.le_of_ble_eq_true rfl, Nat.le_of_ble_eq_true rfl⟩ ⟨Nat.zero_le _, Nat.zero_le _⟩ rfl dX12_worksOn_128 (fun H locs hw => ?_)
      refine lv_if_eq (tgt := 138) hx hb dX12_worksOn_131 (by decide) (fun c23 => ?_) (fun c23 => ?_)
      · rw [if_pos c23] at hf
        exact k_X12_worksOn_138 hC hq16 hf hw (lv_sub hl [1, 2, 3, 4, 5, 6, 7, 8] rfl)
      · rw [if_neg c23] at hf
        refine lv_iconst (v := 1) hx hb dX12_worksOn_134 (by decide) ?_
        refine lv_goto (tgt := 139) hx hb dX12_worksOn_135 (by decide) ?_
        exact k_X12_worksOn_139 hC hq16 hf hw (lv_sub hl [1, 2, 3, 4, 5, 6, 7, 8] rfl)
set_option maxRecDepth 100000 in
set_option maxHeartbeats 4000000 in
theorem k_X12_worksOn_59 {p : Program} {l : Launch} {e : Env} {s : State} {m : MethodId} {args : Array Value} {below : List Frame} {meth : Method} {c : Code} {D : va_G} {cy : Nat → ClassId} {z0 : Nat} {ad : Nat → Nat} {X : va_W} {u : Nat × Nat} (hC : cx_C p s m args meth c cX12_worksOn "RhymedThenModel" (Cond.code yX12_worksOn cX12_worksOn 11 (some .boolean)) 11 (some .boolean)) {z : (Int32 × mm_M)} {x1 : Int32} {x2 : Int32} {x3 : Int32} {x4 : Int32} {x5 : Int32} {x6 : Int32} {x7 : Int32} {t0 : Int32} {M : mm_M} {q16 : Int32 → Int32 → Int32 → Int32 → Int32 → Int32 → mm_M → Option (Int32 × mm_M)} (hq16 : ∀ (x1 : Int32) (x2 : Int32) (x3 : Int32) (x4 : Int32) (x5 : Int32) (x6 : Int32) (M : mm_M) (H : Heap) (locs : List Loc) (ls : Array Slot), q16 x1 x2 x3 x4 x5 x6 M = some z → wd_in rf_T D cy z0 ad u M X s H locs → lv_has ls 11 [(0, .ref (ad 0)), (1, .int x1), (2, .int x2), (3, .int x3), (4, .int x4), (5, .int x5), (6, .int x6)] → W p l e { frames := 3, cells := 0, slots := 0, locals := 65 } s m args below meth c H locs 0 0 (MQ below (cq_i rf_T D cy z0 ad u X z.1 z.2) args s 0 0 (fun q => z0 ≤ q)) (F0 m 16 ls [])) (hf : f_X12_worksOn_59 q16 x1 x2 x3 x4 x5 x6 x7 t0 M = some z) {H : Heap} {locs : List Loc} (hw : wd_in rf_T D cy z0 ad u M X s H locs) {ls : Array Slot} (hl : lv_has ls 11 [(0, .ref (ad 0)), (1, .int x1), (2, .int x2), (3, .int x3), (4, .int x4), (5, .int x5), (6, .int x6), (7, .int x7)]) : W p l e { frames := 3, cells := 0, slots := 0, locals := 65 } s m args below meth c H locs 0 0 (MQ below (cq_i rf_T D cy z0 ad u X z.1 z.2) args s 0 0 (fun q => z0 ≤ q)) (F0 m 59 ls [.int t0]) := by
  have hx := hC.1
  have hb := hC.2.1
  unfold f_X12_worksOn_59 at hf
  refine lv_istore (lv' := [(8, .int t0), (0, .ref (ad 0)), (1, .int x1), (2, .int x2), (3, .int x3), (4, .int x4), (5, .int x5), (6, .int x6), (7, .int x7)]) hx hb dX12_worksOn_59 hl (by decide) rfl (fun ls hl => ?_)
  refine lv_iload hx hb dX12_worksOn_61 (lv_at hl 7 rfl) ?_
  refine lv_iload_n hx hb dX12_worksOn_63 rfl (lv_at hl 4 rfl) ?_
  refine lv_iconst (v := 1) hx hb dX12_worksOn_64 (by decide) ?_
  refine lv_isub hx hb dX12_worksOn_65 ?_
  refine lv_icmp_ne (tgt := 73) hx hb dX12_worksOn_66 (by decide) (fun c8 => ?_) (fun c8 => ?_)
  · rw [if_neg c8] at hf
    refine lv_aload_n hx hb dX12_worksOn_73 rfl (lv_at hl 1 rfl) ?_
    refine rg_p hC hw 0 (Nat.le_of_ble_eq_true rfl) rfl fd_X12_20 wf_X12_158 (q := 14) rfl dX12_worksOn_74 ?_
    refine lv_bipush (v := 8) hx hb dX12_worksOn_77 (by decide) ?_
    refine lv_iload_n hx hb dX12_worksOn_79 rfl (lv_at hl 2 rfl) ?_
    refine lv_imul hx hb dX12_worksOn_80 ?_
    refine lv_iload hx hb dX12_worksOn_81 (lv_at hl 7 rfl) ?_
    refine lv_iadd hx hb dX12_worksOn_83 ?_
    refine lv_iconst (v := 1) hx hb dX12_worksOn_84 (by decide) ?_
    refine lv_iadd hx hb dX12_worksOn_85 ?_
    obtain ⟨h9, hf⟩ := ck_e hf
    refine ra_i hC hw 14 (Nat.le_of_ble_eq_true rfl) rfl h9 dX12_worksOn_86 ?_
    exact k_X12_worksOn_87 hC hq16 hf hw (lv_sub hl [1, 2, 3, 4, 5, 6, 7, 8, 0] rfl)
  · rw [if_pos c8] at hf
    refine lv_iconst (v := (-1)) hx hb dX12_worksOn_69 (by decide) ?_
    refine lv_goto (tgt := 87) hx hb dX12_worksOn_70 (by decide) ?_
    exact k_X12_worksOn_87 hC hq16 hf hw (lv_sub hl [1, 2, 3, 4, 5, 6, 7, 8, 0] rfl)
set_option maxRecDepth 100000 in
set_option maxHeartbeats 4000000 in
theorem k_X12_worksOn_252 {p : Program} {l : Launch} {e : Env} {s : State} {m : MethodId} {args : Array Value} {below : List Frame} {meth : Method} {c : Code} {D : va_G} {cy : Nat → ClassId} {z0 : Nat} {ad : Nat → Nat} {X : va_W} {u : Nat × Nat} (hC : cx_C p s m args meth c cX12_worksOn "RhymedThenModel" (Cond.code yX12_worksOn cX12_worksOn 11 (some .boolean)) 11 (some .boolean)) {z : (Int32 × mm_M)} {x1 : Int32} {x4 : Int32} {x5 : Int32} {M : mm_M} (hf : f_X12_worksOn_252 x1 x4 x5 M = some z) {H : Heap} {locs : List Loc} (hw : wd_in rf_T D cy z0 ad u M X s H locs) {ls : Array Slot} (hl : lv_has ls 11 [(0, .ref (ad 0)), (1, .int x1), (4, .int x4), (5, .int x5)]) : W p l e { frames := 3, cells := 0, slots := 0, locals := 65 } s m args below meth c H locs 0 0 (MQ below (cq_i rf_T D cy z0 ad u X z.1 z.2) args s 0 0 (fun q => z0 ≤ q)) (F0 m 252 ls []) := by
  have hx := hC.1
  have hb := hC.2.1
  unfold f_X12_worksOn_252 at hf
  refine lv_aload_n hx hb dX12_worksOn_252 rfl (lv_at hl 0 rfl) ?_
  refine rg_p hC hw 0 (Nat.le_of_ble_eq_true rfl) rfl fd_X12_21 wf_X12_155 (q := 15) rfl dX12_worksOn_253 ?_
  refine lv_iload_n hx hb dX12_worksOn_256 rfl (lv_at hl 1 rfl) ?_
  refine lv_iload hx hb dX12_worksOn_257 (lv_at hl 2 rfl) ?_
  obtain ⟨h24, hf⟩ := ck_e hf
  obtain ⟨M25, eM25, hf⟩ := sq_e hf
  refine rs_i hC hw 15 (Nat.le_of_ble_eq_true rfl) rfl h24 dX12_worksOn_259 eM25 (fun H locs hw => ?_)
  refine lv_iload hx hb dX12_worksOn_260 (lv_at hl 3 rfl) ?_
  obtain ⟨h26, hf⟩ := ck_e hf
  have hz := Option.some.inj hf
  subst hz
  exact rtc_z hC hw h26 dX12_worksOn_262
set_option maxRecDepth 100000 in
set_option maxHeartbeats 4000000 in
theorem k_X12_worksOn_220 {p : Program} {l : Launch} {e : Env} {s : State} {m : MethodId} {args : Array Value} {below : List Frame} {meth : Method} {c : Code} {D : va_G} {cy : Nat → ClassId} {z0 : Nat} {ad : Nat → Nat} {X : va_W} {u : Nat × Nat} (hC : cx_C p s m args meth c cX12_worksOn "RhymedThenModel" (Cond.code yX12_worksOn cX12_worksOn 11 (some .boolean)) 11 (some .boolean)) {z : (Int32 × mm_M)} {x1 : Int32} {x4 : Int32} {x5 : Int32} {x6 : Int32} {M : mm_M} {q220 : Int32 → Int32 → Int32 → Int32 → mm_M → Option (Int32 × mm_M)} (hq220 : ∀ (x1 : Int32) (x4 : Int32) (x5 : Int32) (x6 : Int32) (M : mm_M) (H : Heap) (locs : List Loc) (ls : Array Slot), q220 x1 x4 x5 x6 M = some z → wd_in rf_T D cy z0 ad u M X s H locs → lv_has ls 11 [(0, .ref (ad 0)), (1, .int x1), (4, .int x4), (5, .int x5), (6, .int x6)] → W p l e { frames := 3, cells := 0, slots := 0, locals := 65 } s m args below meth c H locs 0 0 (MQ below (cq_i rf_T D cy z0 ad u X z.1 z.2) args s 0 0 (fun q => z0 ≤ q)) (F0 m 220 ls [])) (hf : f_X12_worksOn_220 q220 x1 x4 x5 x6 M = some z) {H : Heap} {locs : List Loc} (hw : wd_in rf_T D cy z0 ad u M X s H locs) {ls : Array Slot} (hl : lv_has ls 11 [(0, .ref (ad 0)), (1, .int x1), (4, .int x4), (5, .int x5), (6, .int x6)]) : W p l e { frames := 3, cells := 0, slots := 0, locals := 65 } s m args below meth c H locs 0 0 (MQ below (cq_i rf_T D cy z0 ad u X z.1 z.2) args s 0 0 (fun q => z0 ≤ q)) (F0 m 220 ls []) := by
  have hx := hC.1
  have hb := hC.2.1
  unfold f_X12_worksOn_220 at hf
  refine lv_iload hx hb dX12_worksOn_220 (lv_at hl 4 rfl) ?_
  refine lv_iload hx hb dX12_worksOn_222 (lv_at hl 2 rfl) ?_
  refine lv_icmp_ge (tgt := 252) hx hb dX12_worksOn_224 (by decide) (fun c10 => ?_) (fun c10 => ?_)
  · rw [if_pos c10] at hf
    exact k_X12_worksOn_252 hC hf hw (lv_sub hl [0, 1, 2, 3] rfl)
  · rw [if_neg c10] at hf
    refine lv_aload_n hx hb dX12_worksOn_227 rfl (lv_at hl 0 rfl) ?_
    refine rg_p hC hw 0 (Nat.le_of_ble_eq_true rfl) rfl fd_X12_20 wf_X12_158 (q := 14) rfl dX12_worksOn_228 ?_
    refine lv_bipush (v := 8) hx hb dX12_worksOn_231 (by decide) ?_
    refine lv_iload_n hx hb dX12_worksOn_233 rfl (lv_at hl 1 rfl) ?_
    refine lv_imul hx hb dX12_worksOn_234 ?_
    refine lv_iload hx hb dX12_worksOn_235 (lv_at hl 4 rfl) ?_
    refine lv_iadd hx hb dX12_worksOn_237 ?_
    refine lv_aload_n hx hb dX12_worksOn_238 rfl (lv_at hl 0 rfl) ?_
    refine rg_p hC hw 0 (Nat.le_of_ble_eq_true rfl) rfl fd_X12_22 wf_X12_164 (q := 16) rfl dX12_worksOn_239 ?_
    refine lv_iload hx hb dX12_worksOn_242 (lv_at hl 4 rfl) ?_
    obtain ⟨h11, hf⟩ := ck_e hf
    refine ra_i hC hw 16 (Nat.le_of_ble_eq_true rfl) rfl h11 dX12_worksOn_244 ?_
    obtain ⟨h12, hf⟩ := ck_e hf
    obtain ⟨M13, eM13, hf⟩ := sq_e hf
    refine rs_i hC hw 14 (Nat.le_of_ble_eq_true rfl) rfl h12 dX12_worksOn_245 eM13 (fun H locs hw => ?_)
    obtain ⟨y14, ey14, hf⟩ := sq_e hf
    refine lv_iinc (v := y14) (lv' := [(6, .int y14), (0, .ref (ad 0)), (1, .int x1), (4, .int x4), (5, .int x5)]) hx hb dX12_worksOn_246 hl (k := 4) rfl (by rw [ey14]; rfl) (by decide) rfl (fun ls hl => ?_)
    refine lv_goto (tgt := 220) hx hb dX12_worksOn_249 (by decide) ?_
    exact hq220 _ _ _ _ _ _ _ _ hf hw (lv_sub hl [1, 2, 3, 4, 0] rfl)
set_option maxRecDepth 100000 in
set_option maxHeartbeats 4000000 in
theorem k_X12_worksOn_220l {p : Program} {l : Launch} {e : Env} {s : State} {m : MethodId} {args : Array Value} {below : List Frame} {meth : Method} {c : Code} {D : va_G} {cy : Nat → ClassId} {z0 : Nat} {ad : Nat → Nat} {X : va_W} {u : Nat × Nat} (hC : cx_C p s m args meth c cX12_worksOn "RhymedThenModel" (Cond.code yX12_worksOn cX12_worksOn 11 (some .boolean)) 11 (some .boolean)) {z : (Int32 × mm_M)} : ∀ (n : Nat) (x1 : Int32) (x4 : Int32) (x5 : Int32) (x6 : Int32) (M : mm_M) (H : Heap) (locs : List Loc) (ls : Array Slot), f_X12_worksOn_220l n x1 x4 x5 x6 M = some z → wd_in rf_T D cy z0 ad u M X s H locs → lv_has ls 11 [(0, .ref (ad 0)), (1, .int x1), (4, .int x4), (5, .int x5), (6, .int x6)] → W p l e { frames := 3, cells := 0, slots := 0, locals := 65 } s m args below meth c H locs 0 0 (MQ below (cq_i rf_T D cy z0 ad u X z.1 z.2) args s 0 0 (fun q => z0 ≤ q)) (F0 m 220 ls []) := by
  intro n
  induction n with
  | zero => intro x1 x4 x5 x6 M H locs ls hf; exact absurd hf (by simp [f_X12_worksOn_220l])
  | succ n ih => intro x1 x4 x5 x6 M H locs ls hf hw hl; exact k_X12_worksOn_220 hC ih hf hw hl
set_option maxRecDepth 100000 in
set_option maxHeartbeats 4000000 in
theorem k_X12_worksOn_217 {p : Program} {l : Launch} {e : Env} {s : State} {m : MethodId} {args : Array Value} {below : List Frame} {meth : Method} {c : Code} {D : va_G} {cy : Nat → ClassId} {z0 : Nat} {ad : Nat → Nat} {X : va_W} {u : Nat × Nat} (hC : cx_C p s m args meth c cX12_worksOn "RhymedThenModel" (Cond.code yX12_worksOn cX12_worksOn 11 (some .boolean)) 11 (some .boolean)) {z : (Int32 × mm_M)} {x1 : Int32} {x4 : Int32} {x5 : Int32} {M : mm_M} (hf : f_X12_worksOn_217 x1 x4 x5 M = some z) {H : Heap} {locs : List Loc} (hw : wd_in rf_T D cy z0 ad u M X s H locs) {ls : Array Slot} (hl : lv_has ls 11 [(0, .ref (ad 0)), (1, .int x1), (4, .int x4), (5, .int x5)]) : W p l e { frames := 3, cells := 0, slots := 0, locals := 65 } s m args below meth c H locs 0 0 (MQ below (cq_i rf_T D cy z0 ad u X z.1 z.2) args s 0 0 (fun q => z0 ≤ q)) (F0 m 217 ls []) := by
  have hx := hC.1
  have hb := hC.2.1
  unfold f_X12_worksOn_217 at hf
  refine lv_iconst (v := 0) hx hb dX12_worksOn_217 (by decide) ?_
  refine lv_istore (lv' := [(6, .int 0), (0, .ref (ad 0)), (1, .int x1), (4, .int x4), (5, .int x5)]) hx hb dX12_worksOn_218 hl (by decide) rfl (fun ls hl => ?_)
  exact k_X12_worksOn_220l hC fu_ _ _ _ _ _ _ _ _ hf hw (lv_sub hl [1, 2, 3, 4, 0] rfl)
set_option maxRecDepth 100000 in
set_option maxHeartbeats 4000000 in
theorem k_X12_worksOn_16 {p : Program} {l : Launch} {e : Env} {s : State} {m : MethodId} {args : Array Value} {below : List Frame} {meth : Method} {c : Code} {D : va_G} {cy : Nat → ClassId} {z0 : Nat} {ad : Nat → Nat} {X : va_W} {u : Nat × Nat} (hC : cx_C p s m args meth c cX12_worksOn "RhymedThenModel" (Cond.code yX12_worksOn cX12_worksOn 11 (some .boolean)) 11 (some .boolean)) {z : (Int32 × mm_M)} {x1 : Int32} {x2 : Int32} {x3 : Int32} {x4 : Int32} {x5 : Int32} {x6 : Int32} {M : mm_M} {q16 : Int32 → Int32 → Int32 → Int32 → Int32 → Int32 → mm_M → Option (Int32 × mm_M)} (hq16 : ∀ (x1 : Int32) (x2 : Int32) (x3 : Int32) (x4 : Int32) (x5 : Int32) (x6 : Int32) (M : mm_M) (H : Heap) (locs : List Loc) (ls : Array Slot), q16 x1 x2 x3 x4 x5 x6 M = some z → wd_in rf_T D cy z0 ad u M X s H locs → lv_has ls 11 [(0, .ref (ad 0)), (1, .int x1), (2, .int x2), (3, .int x3), (4, .int x4), (5, .int x5), (6, .int x6)] → W p l e { frames := 3, cells := 0, slots := 0, locals := 65 } s m args below meth c H locs 0 0 (MQ below (cq_i rf_T D cy z0 ad u X z.1 z.2) args s 0 0 (fun q => z0 ≤ q)) (F0 m 16 ls [])) (hf : f_X12_worksOn_16 q16 x1 x2 x3 x4 x5 x6 M = some z) {H : Heap} {locs : List Loc} (hw : wd_in rf_T D cy z0 ad u M X s H locs) {ls : Array Slot} (hl : lv_has ls 11 [(0, .ref (ad 0)), (1, .int x1), (2, .int x2), (3, .int x3), (4, .int x4), (5, .int x5), (6, .int x6)]) : W p l e { frames := 3, cells := 0, slots := 0, locals := 65 } s m args below meth c H locs 0 0 (MQ below (cq_i rf_T D cy z0 ad u X z.1 z.2) args s 0 0 (fun q => z0 ≤ q)) (F0 m 16 ls []) := by
  have hx := hC.1
  have hb := hC.2.1
  unfold f_X12_worksOn_16 at hf
  refine lv_iload hx hb dX12_worksOn_16 (lv_at hl 6 rfl) ?_
  refine lv_iload_n hx hb dX12_worksOn_18 rfl (lv_at hl 3 rfl) ?_
  refine lv_icmp_ge (tgt := 217) hx hb dX12_worksOn_19 (by decide) (fun c3 => ?_) (fun c3 => ?_)
  · rw [if_pos c3] at hf
    exact k_X12_worksOn_217 hC hf hw (lv_sub hl [0, 1, 4, 5] rfl)
  · rw [if_neg c3] at hf
    refine lv_aload_n hx hb dX12_worksOn_22 rfl (lv_at hl 0 rfl) ?_
    refine rg_p hC hw 0 (Nat.le_of_ble_eq_true rfl) rfl fd_X12_20 wf_X12_158 (q := 14) rfl dX12_worksOn_23 ?_
    refine lv_bipush (v := 8) hx hb dX12_worksOn_26 (by decide) ?_
    refine lv_iload_n hx hb dX12_worksOn_28 rfl (lv_at hl 1 rfl) ?_
    refine lv_imul hx hb dX12_worksOn_29 ?_
    refine lv_iload hx hb dX12_worksOn_30 (lv_at hl 6 rfl) ?_
    refine lv_iadd hx hb dX12_worksOn_32 ?_
    obtain ⟨h4, hf⟩ := ck_e hf
    refine ra_i hC hw 14 (Nat.le_of_ble_eq_true rfl) rfl h4 dX12_worksOn_33 ?_
    obtain ⟨y5, ey5, hf⟩ := sq_e hf
    refine lt_i ey5 ?_
    refine lv_istore (lv' := [(7, .int y5), (0, .ref (ad 0)), (1, .int x1), (2, .int x2), (3, .int x3), (4, .int x4), (5, .int x5), (6, .int x6)]) hx hb dX12_worksOn_34 hl (by decide) rfl (fun ls hl => ?_)
    refine lv_iload hx hb dX12_worksOn_36 (lv_at hl 7 rfl) ?_
    refine lv_if_ne (tgt := 45) hx hb dX12_worksOn_38 (by decide) (fun c6 => ?_) (fun c6 => ?_)
    · rw [if_neg c6] at hf
      refine lv_aload_n hx hb dX12_worksOn_45 rfl (lv_at hl 1 rfl) ?_
      refine rg_p hC hw 0 (Nat.le_of_ble_eq_true rfl) rfl fd_X12_20 wf_X12_158 (q := 14) rfl dX12_worksOn_46 ?_
      refine lv_bipush (v := 8) hx hb dX12_worksOn_49 (by decide) ?_
      refine lv_iload_n hx hb dX12_worksOn_51 rfl (lv_at hl 2 rfl) ?_
      refine lv_imul hx hb dX12_worksOn_52 ?_
      refine lv_iload hx hb dX12_worksOn_53 (lv_at hl 7 rfl) ?_
      refine lv_iadd hx hb dX12_worksOn_55 ?_
      refine lv_iconst (v := 1) hx hb dX12_worksOn_56 (by decide) ?_
      refine lv_isub hx hb dX12_worksOn_57 ?_
      obtain ⟨h7, hf⟩ := ck_e hf
      refine ra_i hC hw 14 (Nat.le_of_ble_eq_true rfl) rfl h7 dX12_worksOn_58 ?_
      exact k_X12_worksOn_59 hC hq16 hf hw (lv_sub hl [1, 2, 3, 4, 5, 6, 7, 0] rfl)
    · rw [if_pos c6] at hf
      refine lv_iconst (v := (-1)) hx hb dX12_worksOn_41 (by decide) ?_
      refine lv_goto (tgt := 59) hx hb dX12_worksOn_42 (by decide) ?_
      exact k_X12_worksOn_59 hC hq16 hf hw (lv_sub hl [1, 2, 3, 4, 5, 6, 7, 0] rfl)
set_option maxRecDepth 100000 in
set_option maxHeartbeats 4000000 in
theorem k_X12_worksOn_16l {p : Program} {l : Launch} {e : Env} {s : State} {m : MethodId} {args : Array Value} {below : List Frame} {meth : Method} {c : Code} {D : va_G} {cy : Nat → ClassId} {z0 : Nat} {ad : Nat → Nat} {X : va_W} {u : Nat × Nat} (hC : cx_C p s m args meth c cX12_worksOn "RhymedThenModel" (Cond.code yX12_worksOn cX12_worksOn 11 (some .boolean)) 11 (some .boolean)) {z : (Int32 × mm_M)} : ∀ (n : Nat) (x1 : Int32) (x2 : Int32) (x3 : Int32) (x4 : Int32) (x5 : Int32) (x6 : Int32) (M : mm_M) (H : Heap) (locs : List Loc) (ls : Array Slot), f_X12_worksOn_16l n x1 x2 x3 x4 x5 x6 M = some z → wd_in rf_T D cy z0 ad u M X s H locs → lv_has ls 11 [(0, .ref (ad 0)), (1, .int x1), (2, .int x2), (3, .int x3), (4, .int x4), (5, .int x5), (6, .int x6)] → W p l e { frames := 3, cells := 0, slots := 0, locals := 65 } s m args below meth c H locs 0 0 (MQ below (cq_i rf_T D cy z0 ad u X z.1 z.2) args s 0 0 (fun q => z0 ≤ q)) (F0 m 16 ls []) := by
  intro n
  induction n with
  | zero => intro x1 x2 x3 x4 x5 x6 M H locs ls hf; exact absurd hf (by simp [f_X12_worksOn_16l])
  | succ n ih => intro x1 x2 x3 x4 x5 x6 M H locs ls hf hw hl; exact k_X12_worksOn_16 hC ih hf hw hl
set_option maxRecDepth 100000 in
set_option maxHeartbeats 4000000 in
theorem k_X12_worksOn {p : Program} {l : Launch} {e : Env} {s : State} {m : MethodId} {args : Array Value} {below : List Frame} {meth : Method} {c : Code} {D : va_G} {cy : Nat → ClassId} {z0 : Nat} {ad : Nat → Nat} {X : va_W} {u : Nat × Nat} (hC : cx_C p s m args meth c cX12_worksOn "RhymedThenModel" (Cond.code yX12_worksOn cX12_worksOn 11 (some .boolean)) 11 (some .boolean)) {z : (Int32 × mm_M)} {x1 : Int32} {x2 : Int32} {M : mm_M} (hf : f_X12_worksOn x1 x2 M = some z) {H : Heap} {locs : List Loc} (hw : wd_in rf_T D cy z0 ad u M X s H locs) {ls : Array Slot} (hl : lv_has ls 11 [(0, .ref (ad 0)), (1, .int x1), (2, .int x2)]) : W p l e { frames := 3, cells := 0, slots := 0, locals := 65 } s m args below meth c H locs 0 0 (MQ below (cq_i rf_T D cy z0 ad u X z.1 z.2) args s 0 0 (fun q => z0 ≤ q)) (F0 m 0 ls []) := by
  have hx := hC.1
  have hb := hC.2.1
  unfold f_X12_worksOn at hf
  refine lv_aload_n hx hb dX12_worksOn_0 rfl (lv_at hl 0 rfl) ?_
  refine rg_p hC hw 0 (Nat.le_of_ble_eq_true rfl) rfl fd_X12_21 wf_X12_155 (q := 15) rfl dX12_worksOn_1 ?_
  refine lv_iload_n hx hb dX12_worksOn_4 rfl (lv_at hl 1 rfl) ?_
  obtain ⟨h1, hf⟩ := ck_e hf
  refine ra_i hC hw 15 (Nat.le_of_ble_eq_true rfl) rfl h1 dX12_worksOn_5 ?_
  obtain ⟨y2, ey2, hf⟩ := sq_e hf
  refine lt_i ey2 ?_
  refine lv_istore_n (lv' := [(3, .int y2), (0, .ref (ad 0)), (1, .int x1), (2, .int x2)]) hx hb dX12_worksOn_6 rfl hl (by decide) rfl (fun ls hl => ?_)
  refine lv_iconst (v := 0) hx hb dX12_worksOn_7 (by decide) ?_
  refine lv_istore (lv' := [(4, .int 0), (3, .int y2), (0, .ref (ad 0)), (1, .int x1), (2, .int x2)]) hx hb dX12_worksOn_8 hl (by decide) rfl (fun ls hl => ?_)
  refine lv_iconst (v := 0) hx hb dX12_worksOn_10 (by decide) ?_
  refine lv_istore (lv' := [(5, .int 0), (4, .int 0), (3, .int y2), (0, .ref (ad 0)), (1, .int x1), (2, .int x2)]) hx hb dX12_worksOn_11 hl (by decide) rfl (fun ls hl => ?_)
  refine lv_iconst (v := 0) hx hb dX12_worksOn_13 (by decide) ?_
  refine lv_istore (lv' := [(6, .int 0), (5, .int 0), (4, .int 0), (3, .int y2), (0, .ref (ad 0)), (1, .int x1), (2, .int x2)]) hx hb dX12_worksOn_14 hl (by decide) rfl (fun ls hl => ?_)
  exact k_X12_worksOn_16l hC fu_ _ _ _ _ _ _ _ _ _ _ hf hw (lv_sub hl [4, 5, 6, 3, 2, 1, 0] rfl)
set_option maxRecDepth 100000 in
theorem c_X12_worksOn {l : Launch} {D : va_G} {cy : Nat → ClassId} {z0 : Nat} {ad : Nat → Nat} {u : Nat × Nat} {X : va_W} {z : (Int32 × mm_M)} {x1 : Int32} {x2 : Int32} {M : mm_M} (hf : f_X12_worksOn x1 x2 M = some z) : ct_i rf_T l yX12_worksOn (Cond.code yX12_worksOn cX12_worksOn 11 (some .boolean)) 3 65 D cy z0 ad u M X [.ref (ad 0), .int x1, .int x2] z.1 z.2 := by
  refine bgc_i (by decide) (fun p e s m below meth c hC hw => ?_)
  refine en_t (Nat.le_of_ble_eq_true rfl) (fun ls hl => ?_)
  have hl : lv_has ls 11 [(0, .ref (ad 0)), (1, .int x1), (2, .int x2)] := hl
  exact k_X12_worksOn hC hf hw hl
set_option maxRecDepth 100000 in
set_option maxHeartbeats 4000000 in
theorem k_X12_spells_14 {p : Program} {l : Launch} {e : Env} {s : State} {m : MethodId} {args : Array Value} {below : List Frame} {meth : Method} {c : Code} {D : va_G} {cy : Nat → ClassId} {z0 : Nat} {ad : Nat → Nat} {X : va_W} {u : Nat × Nat} (hC : cx_C p s m args meth c cX12_spells "RhymedThenModel" (Cond.code yX12_spells cX12_spells 4 none) 4 none) {z : mm_M} {x1 : Int32} {x2 : Int32} {x3 : Int32} {M : mm_M} {q14 : Int32 → Int32 → Int32 → mm_M → Option mm_M} (hq14 : ∀ (x1 : Int32) (x2 : Int32) (x3 : Int32) (M : mm_M) (H : Heap) (locs : List Loc) (ls : Array Slot), q14 x1 x2 x3 M = some z → wd_in rf_T D cy z0 ad u M X s H locs → lv_has ls 4 [(0, .ref (ad 0)), (1, .int x1), (2, .int x2), (3, .int x3)] → W p l e { frames := 0, cells := 0, slots := 0, locals := 0 } s m args below meth c H locs 0 0 (MQ below (cq_v rf_T D cy z0 ad u X z) args s 0 0 (fun q => z0 ≤ q)) (F0 m 14 ls [])) (hf : f_X12_spells_14 q14 x1 x2 x3 M = some z) {H : Heap} {locs : List Loc} (hw : wd_in rf_T D cy z0 ad u M X s H locs) {ls : Array Slot} (hl : lv_has ls 4 [(0, .ref (ad 0)), (1, .int x1), (2, .int x2), (3, .int x3)]) : W p l e { frames := 0, cells := 0, slots := 0, locals := 0 } s m args below meth c H locs 0 0 (MQ below (cq_v rf_T D cy z0 ad u X z) args s 0 0 (fun q => z0 ≤ q)) (F0 m 14 ls []) := by
  have hx := hC.1
  have hb := hC.2.1
  unfold f_X12_spells_14 at hf
  refine lv_iload_n hx hb dX12_spells_14 rfl (lv_at hl 3 rfl) ?_
  refine lv_aload_n hx hb dX12_spells_15 rfl (lv_at hl 0 rfl) ?_
  refine rg_p hC hw 0 (Nat.le_of_ble_eq_true rfl) rfl fd_X12_10 wf_X12_81 (q := 5) rfl dX12_spells_16 ?_
  refine lv_iload_n hx hb dX12_spells_19 rfl (lv_at hl 2 rfl) ?_
  obtain ⟨h4, hf⟩ := ck_e hf
  refine ra_i hC hw 5 (Nat.le_of_ble_eq_true rfl) rfl h4 dX12_spells_20 ?_
  refine lv_icmp_ge (tgt := 52) hx hb dX12_spells_21 (by decide) (fun c5 => ?_) (fun c5 => ?_)
  · rw [if_pos c5] at hf
    have hz := Option.some.inj hf
    subst hz
    exact rtc_v hC hw dX12_spells_52
  · rw [if_neg c5] at hf
    refine lv_aload_n hx hb dX12_spells_24 rfl (lv_at hl 0 rfl) ?_
    refine rg_p hC hw 0 (Nat.le_of_ble_eq_true rfl) rfl fd_X12_20 wf_X12_158 (q := 14) rfl dX12_spells_25 ?_
    refine lv_bipush (v := 8) hx hb dX12_spells_28 (by decide) ?_
    refine lv_iload_n hx hb dX12_spells_30 rfl (lv_at hl 1 rfl) ?_
    refine lv_imul hx hb dX12_spells_31 ?_
    refine lv_iload_n hx hb dX12_spells_32 rfl (lv_at hl 3 rfl) ?_
    refine lv_iadd hx hb dX12_spells_33 ?_
    refine lv_aload_n hx hb dX12_spells_34 rfl (lv_at hl 0 rfl) ?_
    refine rg_p hC hw 0 (Nat.le_of_ble_eq_true rfl) rfl fd_X12_9 wf_X12_78 (q := 4) rfl dX12_spells_35 ?_
    refine lv_bipush (v := 8) hx hb dX12_spells_38 (by decide) ?_
    refine lv_iload_n hx hb dX12_spells_40 rfl (lv_at hl 2 rfl) ?_
    refine lv_imul hx hb dX12_spells_41 ?_
    refine lv_iload_n hx hb dX12_spells_42 rfl (lv_at hl 3 rfl) ?_
    refine lv_iadd hx hb dX12_spells_43 ?_
    obtain ⟨h6, hf⟩ := ck_e hf
    refine ra_i hC hw 4 (Nat.le_of_ble_eq_true rfl) rfl h6 dX12_spells_44 ?_
    obtain ⟨h7, hf⟩ := ck_e hf
    obtain ⟨M8, eM8, hf⟩ := sq_e hf
    refine rs_i hC hw 14 (Nat.le_of_ble_eq_true rfl) rfl h7 dX12_spells_45 eM8 (fun H locs hw => ?_)
    obtain ⟨y9, ey9, hf⟩ := sq_e hf
    refine lv_iinc (v := y9) (lv' := [(3, .int y9), (0, .ref (ad 0)), (1, .int x1), (2, .int x2)]) hx hb dX12_spells_46 hl (k := 3) rfl (by rw [ey9]; rfl) (by decide) rfl (fun ls hl => ?_)
    refine lv_goto (tgt := 14) hx hb dX12_spells_49 (by decide) ?_
    exact hq14 _ _ _ _ _ _ _ hf hw (lv_sub hl [1, 2, 3, 0] rfl)
set_option maxRecDepth 100000 in
set_option maxHeartbeats 4000000 in
theorem k_X12_spells_14l {p : Program} {l : Launch} {e : Env} {s : State} {m : MethodId} {args : Array Value} {below : List Frame} {meth : Method} {c : Code} {D : va_G} {cy : Nat → ClassId} {z0 : Nat} {ad : Nat → Nat} {X : va_W} {u : Nat × Nat} (hC : cx_C p s m args meth c cX12_spells "RhymedThenModel" (Cond.code yX12_spells cX12_spells 4 none) 4 none) {z : mm_M} : ∀ (n : Nat) (x1 : Int32) (x2 : Int32) (x3 : Int32) (M : mm_M) (H : Heap) (locs : List Loc) (ls : Array Slot), f_X12_spells_14l n x1 x2 x3 M = some z → wd_in rf_T D cy z0 ad u M X s H locs → lv_has ls 4 [(0, .ref (ad 0)), (1, .int x1), (2, .int x2), (3, .int x3)] → W p l e { frames := 0, cells := 0, slots := 0, locals := 0 } s m args below meth c H locs 0 0 (MQ below (cq_v rf_T D cy z0 ad u X z) args s 0 0 (fun q => z0 ≤ q)) (F0 m 14 ls []) := by
  intro n
  induction n with
  | zero => intro x1 x2 x3 M H locs ls hf; exact absurd hf (by simp [f_X12_spells_14l])
  | succ n ih => intro x1 x2 x3 M H locs ls hf hw hl; exact k_X12_spells_14 hC ih hf hw hl
set_option maxRecDepth 100000 in
set_option maxHeartbeats 4000000 in
theorem k_X12_spells {p : Program} {l : Launch} {e : Env} {s : State} {m : MethodId} {args : Array Value} {below : List Frame} {meth : Method} {c : Code} {D : va_G} {cy : Nat → ClassId} {z0 : Nat} {ad : Nat → Nat} {X : va_W} {u : Nat × Nat} (hC : cx_C p s m args meth c cX12_spells "RhymedThenModel" (Cond.code yX12_spells cX12_spells 4 none) 4 none) {z : mm_M} {x1 : Int32} {x2 : Int32} {M : mm_M} (hf : f_X12_spells x1 x2 M = some z) {H : Heap} {locs : List Loc} (hw : wd_in rf_T D cy z0 ad u M X s H locs) {ls : Array Slot} (hl : lv_has ls 4 [(0, .ref (ad 0)), (1, .int x1), (2, .int x2)]) : W p l e { frames := 0, cells := 0, slots := 0, locals := 0 } s m args below meth c H locs 0 0 (MQ below (cq_v rf_T D cy z0 ad u X z) args s 0 0 (fun q => z0 ≤ q)) (F0 m 0 ls []) := by
  have hx := hC.1
  have hb := hC.2.1
  unfold f_X12_spells at hf
  refine lv_aload_n hx hb dX12_spells_0 rfl (lv_at hl 0 rfl) ?_
  refine rg_p hC hw 0 (Nat.le_of_ble_eq_true rfl) rfl fd_X12_21 wf_X12_155 (q := 15) rfl dX12_spells_1 ?_
  refine lv_iload_n hx hb dX12_spells_4 rfl (lv_at hl 1 rfl) ?_
  refine lv_aload_n hx hb dX12_spells_5 rfl (lv_at hl 0 rfl) ?_
  refine rg_p hC hw 0 (Nat.le_of_ble_eq_true rfl) rfl fd_X12_10 wf_X12_81 (q := 5) rfl dX12_spells_6 ?_
  refine lv_iload_n hx hb dX12_spells_9 rfl (lv_at hl 2 rfl) ?_
  obtain ⟨h1, hf⟩ := ck_e hf
  refine ra_i hC hw 5 (Nat.le_of_ble_eq_true rfl) rfl h1 dX12_spells_10 ?_
  obtain ⟨h2, hf⟩ := ck_e hf
  obtain ⟨M3, eM3, hf⟩ := sq_e hf
  refine rs_i hC hw 15 (Nat.le_of_ble_eq_true rfl) rfl h2 dX12_spells_11 eM3 (fun H locs hw => ?_)
  refine lv_iconst (v := 0) hx hb dX12_spells_12 (by decide) ?_
  refine lv_istore_n (lv' := [(3, .int 0), (0, .ref (ad 0)), (1, .int x1), (2, .int x2)]) hx hb dX12_spells_13 rfl hl (by decide) rfl (fun ls hl => ?_)
  exact k_X12_spells_14l hC fu_ _ _ _ _ _ _ _ hf hw (lv_sub hl [1, 2, 3, 0] rfl)
set_option maxRecDepth 100000 in
theorem c_X12_spells {l : Launch} {D : va_G} {cy : Nat → ClassId} {z0 : Nat} {ad : Nat → Nat} {u : Nat × Nat} {X : va_W} {z : mm_M} {x1 : Int32} {x2 : Int32} {M : mm_M} (hf : f_X12_spells x1 x2 M = some z) : ct_v rf_T l yX12_spells (Cond.code yX12_spells cX12_spells 4 none) 0 0 D cy z0 ad u M X [.ref (ad 0), .int x1, .int x2] z := by
  refine bgc_v (by decide) (fun p e s m below meth c hC hw => ?_)
  refine en_t (Nat.le_of_ble_eq_true rfl) (fun ls hl => ?_)
  have hl : lv_has ls 4 [(0, .ref (ad 0)), (1, .int x1), (2, .int x2)] := hl
  exact k_X12_spells hC hf hw hl
set_option maxRecDepth 100000 in
set_option maxHeartbeats 4000000 in
theorem k_X12_says_18 {p : Program} {l : Launch} {e : Env} {s : State} {m : MethodId} {args : Array Value} {below : List Frame} {meth : Method} {c : Code} {D : va_G} {cy : Nat → ClassId} {z0 : Nat} {ad : Nat → Nat} {X : va_W} {u : Nat × Nat} (hC : cx_C p s m args meth c cX12_says "RhymedThenModel" (Cond.code yX12_says cX12_says 7 none) 7 none) {z : mm_M} {x1 : Int32} {x6 : Int32} {M : mm_M} {q18 : Int32 → Int32 → mm_M → Option mm_M} (hq18 : ∀ (x1 : Int32) (x6 : Int32) (M : mm_M) (H : Heap) (locs : List Loc) (ls : Array Slot), q18 x1 x6 M = some z → wd_in rf_T D cy z0 ad u M X s H locs → lv_has ls 7 [(0, .ref (ad 0)), (1, .int x1), (6, .int x6)] → W p l e { frames := 4, cells := 0, slots := 0, locals := 95 } s m args below meth c H locs 0 0 (MQ below (cq_v rf_T D cy z0 ad u X z) args s 0 0 (fun q => z0 ≤ q)) (F0 m 18 ls [])) (hf : f_X12_says_18 q18 x1 x6 M = some z) {H : Heap} {locs : List Loc} (hw : wd_in rf_T D cy z0 ad u M X s H locs) {ls : Array Slot} (hl : lv_has ls 7 [(0, .ref (ad 0)), (1, .int x1), (6, .int x6)]) : W p l e { frames := 4, cells := 0, slots := 0, locals := 95 } s m args below meth c H locs 0 0 (MQ below (cq_v rf_T D cy z0 ad u X z) args s 0 0 (fun q => z0 ≤ q)) (F0 m 18 ls []) := by
  have hx := hC.1
  have hb := hC.2.1
  unfold f_X12_says_18 at hf
  refine lv_iload hx hb dX12_says_18 (lv_at hl 2 rfl) ?_
  refine lv_aload_n hx hb dX12_says_20 rfl (lv_at hl 0 rfl) ?_
  refine rg_i hC hw 0 (Nat.le_of_ble_eq_true rfl) rfl fd_X12_24 wf_X12_130 dX12_says_21 ?_
  refine lv_icmp_ge (tgt := 46) hx hb dX12_says_24 (by decide) (fun c3 => ?_) (fun c3 => ?_)
  · rw [if_pos c3] at hf
    have hz := Option.some.inj hf
    subst hz
    exact rtc_v hC hw dX12_says_46
  · rw [if_neg c3] at hf
    refine lv_aload_n hx hb dX12_says_27 rfl (lv_at hl 0 rfl) ?_
    refine lv_iload_n hx hb dX12_says_28 rfl (lv_at hl 1 rfl) ?_
    refine lv_aload_n hx hb dX12_says_29 rfl (lv_at hl 0 rfl) ?_
    refine rg_p hC hw 0 (Nat.le_of_ble_eq_true rfl) rfl fd_X12_23 wf_X12_143 (q := 17) rfl dX12_says_30 ?_
    refine lv_iload hx hb dX12_says_33 (lv_at hl 2 rfl) ?_
    obtain ⟨h4, hf⟩ := ck_e hf
    refine ra_i hC hw 17 (Nat.le_of_ble_eq_true rfl) rfl h4 dX12_says_35 ?_
    obtain ⟨z5, ez5, hf⟩ := bd_e hf
    refine clc_Vi hC hw (c_X12_worksOn ez5) hd_X12_worksOn cw_X12_175 (Nat.le_of_ble_eq_true rfl) rfl rfl (rest := []) hl.1 rfl (Nat.le_of_ble_eq_true rfl) ⟨Nat.le_of_ble_eq_true rfl, Nat.le_of_ble_eq_true rfl⟩ ⟨Nat.zero_le _, Nat.zero_le _⟩ rfl dX12_says_36 (fun H locs hw => ?_)
    refine lv_pop hx hb dX12_says_39 rfl ?_
    obtain ⟨y6, ey6, hf⟩ := sq_e hf
    refine lv_iinc (v := y6) (lv' := [(6, .int y6), (0, .ref (ad 0)), (1, .int x1)]) hx hb dX12_says_40 hl (k := 2) rfl (by rw [ey6]; rfl) (by decide) rfl (fun ls hl => ?_)
    refine lv_goto (tgt := 18) hx hb dX12_says_43 (by decide) ?_
    exact hq18 _ _ _ _ _ _ hf hw (lv_sub hl [1, 2, 0] rfl)
set_option maxRecDepth 100000 in
set_option maxHeartbeats 4000000 in
theorem k_X12_says_18l {p : Program} {l : Launch} {e : Env} {s : State} {m : MethodId} {args : Array Value} {below : List Frame} {meth : Method} {c : Code} {D : va_G} {cy : Nat → ClassId} {z0 : Nat} {ad : Nat → Nat} {X : va_W} {u : Nat × Nat} (hC : cx_C p s m args meth c cX12_says "RhymedThenModel" (Cond.code yX12_says cX12_says 7 none) 7 none) {z : mm_M} : ∀ (n : Nat) (x1 : Int32) (x6 : Int32) (M : mm_M) (H : Heap) (locs : List Loc) (ls : Array Slot), f_X12_says_18l n x1 x6 M = some z → wd_in rf_T D cy z0 ad u M X s H locs → lv_has ls 7 [(0, .ref (ad 0)), (1, .int x1), (6, .int x6)] → W p l e { frames := 4, cells := 0, slots := 0, locals := 95 } s m args below meth c H locs 0 0 (MQ below (cq_v rf_T D cy z0 ad u X z) args s 0 0 (fun q => z0 ≤ q)) (F0 m 18 ls []) := by
  intro n
  induction n with
  | zero => intro x1 x6 M H locs ls hf; exact absurd hf (by simp [f_X12_says_18l])
  | succ n ih => intro x1 x6 M H locs ls hf hw hl; exact k_X12_says_18 hC ih hf hw hl
set_option maxRecDepth 100000 in
set_option maxHeartbeats 4000000 in
theorem k_X12_says {p : Program} {l : Launch} {e : Env} {s : State} {m : MethodId} {args : Array Value} {below : List Frame} {meth : Method} {c : Code} {D : va_G} {cy : Nat → ClassId} {z0 : Nat} {ad : Nat → Nat} {X : va_W} {u : Nat × Nat} (hC : cx_C p s m args meth c cX12_says "RhymedThenModel" (Cond.code yX12_says cX12_says 7 none) 7 none) {z : mm_M} {x1 : Int32} {x2 : Int32} {x3 : Int32} {x4 : Int32} {x5 : Int32} {M : mm_M} (hf : f_X12_says x1 x2 x3 x4 x5 M = some z) {H : Heap} {locs : List Loc} (hw : wd_in rf_T D cy z0 ad u M X s H locs) {ls : Array Slot} (hl : lv_has ls 7 [(0, .ref (ad 0)), (1, .int x1), (2, .int x2), (3, .int x3), (4, .int x4), (5, .int x5)]) : W p l e { frames := 4, cells := 0, slots := 0, locals := 95 } s m args below meth c H locs 0 0 (MQ below (cq_v rf_T D cy z0 ad u X z) args s 0 0 (fun q => z0 ≤ q)) (F0 m 0 ls []) := by
  have hx := hC.1
  have hb := hC.2.1
  unfold f_X12_says at hf
  refine lv_aload_n hx hb dX12_says_0 rfl (lv_at hl 0 rfl) ?_
  refine lv_iload_n hx hb dX12_says_1 rfl (lv_at hl 1 rfl) ?_
  refine lv_iload_n hx hb dX12_says_2 rfl (lv_at hl 2 rfl) ?_
  obtain ⟨z1, ez1, hf⟩ := bd_e hf
  refine clc_Vv hC hw (c_X12_spells ez1) hd_X12_spells cw_X12_167 (Nat.le_of_ble_eq_true rfl) rfl rfl (rest := []) hl.1 rfl (Nat.le_of_ble_eq_true rfl) ⟨Nat.le_of_ble_eq_true rfl, Nat.le_of_ble_eq_true rfl⟩ ⟨Nat.zero_le _, Nat.zero_le _⟩ rfl dX12_says_3 (fun H locs hw => ?_)
  refine lv_aload_n hx hb dX12_says_6 rfl (lv_at hl 0 rfl) ?_
  refine lv_iload_n hx hb dX12_says_7 rfl (lv_at hl 3 rfl) ?_
  refine lv_iload hx hb dX12_says_8 (lv_at hl 4 rfl) ?_
  refine lv_iload hx hb dX12_says_10 (lv_at hl 5 rfl) ?_
  obtain ⟨z2, ez2, hf⟩ := bd_e hf
  refine clc_Vv hC hw (c_X12_lines ez2) hd_X12_lines cw_X12_171 (Nat.le_of_ble_eq_true rfl) rfl rfl (rest := []) hl.1 rfl (Nat.le_of_ble_eq_true rfl) ⟨Nat.le_of_ble_eq_true rfl, Nat.le_of_ble_eq_true rfl⟩ ⟨Nat.zero_le _, Nat.zero_le _⟩ rfl dX12_says_12 (fun H locs hw => ?_)
  refine lv_iconst (v := 0) hx hb dX12_says_15 (by decide) ?_
  refine lv_istore (lv' := [(6, .int 0), (0, .ref (ad 0)), (1, .int x1), (2, .int x2), (3, .int x3), (4, .int x4), (5, .int x5)]) hx hb dX12_says_16 hl (by decide) rfl (fun ls hl => ?_)
  exact k_X12_says_18l hC fu_ _ _ _ _ _ _ hf hw (lv_sub hl [1, 2, 0] rfl)
set_option maxRecDepth 100000 in
theorem c_X12_says {l : Launch} {D : va_G} {cy : Nat → ClassId} {z0 : Nat} {ad : Nat → Nat} {u : Nat × Nat} {X : va_W} {z : mm_M} {x1 : Int32} {x2 : Int32} {x3 : Int32} {x4 : Int32} {x5 : Int32} {M : mm_M} (hf : f_X12_says x1 x2 x3 x4 x5 M = some z) : ct_v rf_T l yX12_says (Cond.code yX12_says cX12_says 7 none) 4 95 D cy z0 ad u M X [.ref (ad 0), .int x1, .int x2, .int x3, .int x4, .int x5] z := by
  refine bgc_v (by decide) (fun p e s m below meth c hC hw => ?_)
  refine en_t (Nat.le_of_ble_eq_true rfl) (fun ls hl => ?_)
  have hl : lv_has ls 7 [(0, .ref (ad 0)), (1, .int x1), (2, .int x2), (3, .int x3), (4, .int x4), (5, .int x5)] := hl
  exact k_X12_says hC hf hw hl
set_option maxRecDepth 100000 in
set_option maxHeartbeats 4000000 in
theorem k_X12_areAlike_60 {p : Program} {l : Launch} {e : Env} {s : State} {m : MethodId} {args : Array Value} {below : List Frame} {meth : Method} {c : Code} {D : va_G} {cy : Nat → ClassId} {z0 : Nat} {ad : Nat → Nat} {X : va_W} {u : Nat × Nat} (hC : cx_C p s m args meth c cX12_areAlike "RhymedThenModel" (Cond.code yX12_areAlike cX12_areAlike 3 (some .boolean)) 3 (some .boolean)) {z : Int32} {x2 : Int32} {t0 : Int32} {M : mm_M} {q23 : Int32 → Int32 → Option Int32} (hq23 : ∀ (x1 : Int32) (x2 : Int32) (H : Heap) (locs : List Loc) (ls : Array Slot), q23 x1 x2 = some z → wd_in rf_T D cy z0 ad u M X s H locs → lv_has ls 3 [(0, .ref (ad 0)), (1, .int x1), (2, .int x2)] → W p l e { frames := 0, cells := 0, slots := 0, locals := 0 } s m args below meth c H locs 0 0 (MQ below (cq_i rf_T D cy z0 ad u X z M) args s 0 0 (fun q => z0 ≤ q)) (F0 m 23 ls [])) (hf : f_X12_areAlike_60 q23 x2 t0 M = some z) {H : Heap} {locs : List Loc} (hw : wd_in rf_T D cy z0 ad u M X s H locs) {ls : Array Slot} (hl : lv_has ls 3 [(0, .ref (ad 0)), (2, .int x2)]) : W p l e { frames := 0, cells := 0, slots := 0, locals := 0 } s m args below meth c H locs 0 0 (MQ below (cq_i rf_T D cy z0 ad u X z M) args s 0 0 (fun q => z0 ≤ q)) (F0 m 60 ls [.int t0]) := by
  have hx := hC.1
  have hb := hC.2.1
  unfold f_X12_areAlike_60 at hf
  refine lv_istore_n (lv' := [(1, .int t0), (0, .ref (ad 0)), (2, .int x2)]) hx hb dX12_areAlike_60 rfl hl (by decide) rfl (fun ls hl => ?_)
  obtain ⟨y9, ey9, hf⟩ := sq_e hf
  refine lv_iinc (v := y9) (lv' := [(2, .int y9), (1, .int t0), (0, .ref (ad 0))]) hx hb dX12_areAlike_61 hl (k := 2) rfl (by rw [ey9]; rfl) (by decide) rfl (fun ls hl => ?_)
  refine lv_goto (tgt := 23) hx hb dX12_areAlike_64 (by decide) ?_
  exact hq23 _ _ _ _ _ hf hw (lv_sub hl [2, 1, 0] rfl)
set_option maxRecDepth 100000 in
set_option maxHeartbeats 4000000 in
theorem k_X12_areAlike_23 {p : Program} {l : Launch} {e : Env} {s : State} {m : MethodId} {args : Array Value} {below : List Frame} {meth : Method} {c : Code} {D : va_G} {cy : Nat → ClassId} {z0 : Nat} {ad : Nat → Nat} {X : va_W} {u : Nat × Nat} (hC : cx_C p s m args meth c cX12_areAlike "RhymedThenModel" (Cond.code yX12_areAlike cX12_areAlike 3 (some .boolean)) 3 (some .boolean)) {z : Int32} {x1 : Int32} {x2 : Int32} {M : mm_M} {q23 : Int32 → Int32 → Option Int32} (hq23 : ∀ (x1 : Int32) (x2 : Int32) (H : Heap) (locs : List Loc) (ls : Array Slot), q23 x1 x2 = some z → wd_in rf_T D cy z0 ad u M X s H locs → lv_has ls 3 [(0, .ref (ad 0)), (1, .int x1), (2, .int x2)] → W p l e { frames := 0, cells := 0, slots := 0, locals := 0 } s m args below meth c H locs 0 0 (MQ below (cq_i rf_T D cy z0 ad u X z M) args s 0 0 (fun q => z0 ≤ q)) (F0 m 23 ls [])) (hf : f_X12_areAlike_23 q23 x1 x2 M = some z) {H : Heap} {locs : List Loc} (hw : wd_in rf_T D cy z0 ad u M X s H locs) {ls : Array Slot} (hl : lv_has ls 3 [(0, .ref (ad 0)), (1, .int x1), (2, .int x2)]) : W p l e { frames := 0, cells := 0, slots := 0, locals := 0 } s m args below meth c H locs 0 0 (MQ below (cq_i rf_T D cy z0 ad u X z M) args s 0 0 (fun q => z0 ≤ q)) (F0 m 23 ls []) := by
  have hx := hC.1
  have hb := hC.2.1
  unfold f_X12_areAlike_23 at hf
  refine lv_iload_n hx hb dX12_areAlike_23 rfl (lv_at hl 2 rfl) ?_
  refine lv_aload_n hx hb dX12_areAlike_24 rfl (lv_at hl 0 rfl) ?_
  refine rg_p hC hw 0 (Nat.le_of_ble_eq_true rfl) rfl fd_X12_21 wf_X12_155 (q := 15) rfl dX12_areAlike_25 ?_
  refine lv_iconst (v := 0) hx hb dX12_areAlike_28 (by decide) ?_
  refine ra_i hC hw 15 (Nat.le_of_ble_eq_true rfl) rfl (by decide) dX12_areAlike_29 ?_
  refine lv_icmp_ge (tgt := 67) hx hb dX12_areAlike_30 (by decide) (fun c2 => ?_) (fun c2 => ?_)
  · rw [if_pos c2] at hf
    refine lv_iload_n hx hb dX12_areAlike_67 rfl (lv_at hl 1 rfl) ?_
    obtain ⟨h3, hf⟩ := ck_e hf
    have hz := Option.some.inj hf
    subst hz
    exact rtc_z hC hw h3 dX12_areAlike_68
  · rw [if_neg c2] at hf
    refine lv_iload_n hx hb dX12_areAlike_33 rfl (lv_at hl 1 rfl) ?_
    refine lv_if_eq (tgt := 67) hx hb dX12_areAlike_34 (by decide) (fun c4 => ?_) (fun c4 => ?_)
    · rw [if_pos c4] at hf
      refine lv_iload_n hx hb dX12_areAlike_67 rfl (lv_at hl 1 rfl) ?_
      obtain ⟨h5, hf⟩ := ck_e hf
      have hz := Option.some.inj hf
      subst hz
      exact rtc_z hC hw h5 dX12_areAlike_68
    · rw [if_neg c4] at hf
      refine lv_aload_n hx hb dX12_areAlike_37 rfl (lv_at hl 0 rfl) ?_
      refine rg_p hC hw 0 (Nat.le_of_ble_eq_true rfl) rfl fd_X12_20 wf_X12_158 (q := 14) rfl dX12_areAlike_38 ?_
      refine lv_iload_n hx hb dX12_areAlike_41 rfl (lv_at hl 2 rfl) ?_
      obtain ⟨h6, hf⟩ := ck_e hf
      refine ra_i hC hw 14 (Nat.le_of_ble_eq_true rfl) rfl h6 dX12_areAlike_42 ?_
      refine lv_aload_n hx hb dX12_areAlike_43 rfl (lv_at hl 0 rfl) ?_
      refine rg_p hC hw 0 (Nat.le_of_ble_eq_true rfl) rfl fd_X12_20 wf_X12_158 (q := 14) rfl dX12_areAlike_44 ?_
      refine lv_bipush (v := 8) hx hb dX12_areAlike_47 (by decide) ?_
      refine lv_iload_n hx hb dX12_areAlike_49 rfl (lv_at hl 2 rfl) ?_
      refine lv_iadd hx hb dX12_areAlike_50 ?_
      obtain ⟨h7, hf⟩ := ck_e hf
      refine ra_i hC hw 14 (Nat.le_of_ble_eq_true rfl) rfl h7 dX12_areAlike_51 ?_
      refine lv_icmp_ne (tgt := 59) hx hb dX12_areAlike_52 (by decide) (fun c8 => ?_) (fun c8 => ?_)
      · rw [if_neg c8] at hf
        refine lv_iconst (v := 0) hx hb dX12_areAlike_59 (by decide) ?_
        exact k_X12_areAlike_60 hC hq23 hf hw (lv_sub hl [0, 2] rfl)
      · rw [if_pos c8] at hf
        refine lv_iconst (v := 1) hx hb dX12_areAlike_55 (by decide) ?_
        refine lv_goto (tgt := 60) hx hb dX12_areAlike_56 (by decide) ?_
        exact k_X12_areAlike_60 hC hq23 hf hw (lv_sub hl [0, 2] rfl)
set_option maxRecDepth 100000 in
set_option maxHeartbeats 4000000 in
theorem k_X12_areAlike_23l {p : Program} {l : Launch} {e : Env} {s : State} {m : MethodId} {args : Array Value} {below : List Frame} {meth : Method} {c : Code} {D : va_G} {cy : Nat → ClassId} {z0 : Nat} {ad : Nat → Nat} {X : va_W} {u : Nat × Nat} (hC : cx_C p s m args meth c cX12_areAlike "RhymedThenModel" (Cond.code yX12_areAlike cX12_areAlike 3 (some .boolean)) 3 (some .boolean)) {z : Int32} {M : mm_M} : ∀ (n : Nat) (x1 : Int32) (x2 : Int32) (H : Heap) (locs : List Loc) (ls : Array Slot), f_X12_areAlike_23l M n x1 x2 = some z → wd_in rf_T D cy z0 ad u M X s H locs → lv_has ls 3 [(0, .ref (ad 0)), (1, .int x1), (2, .int x2)] → W p l e { frames := 0, cells := 0, slots := 0, locals := 0 } s m args below meth c H locs 0 0 (MQ below (cq_i rf_T D cy z0 ad u X z M) args s 0 0 (fun q => z0 ≤ q)) (F0 m 23 ls []) := by
  intro n
  induction n with
  | zero => intro x1 x2 H locs ls hf; exact absurd hf (by simp [f_X12_areAlike_23l])
  | succ n ih => intro x1 x2 H locs ls hf hw hl; exact k_X12_areAlike_23 hC ih hf hw hl
set_option maxRecDepth 100000 in
set_option maxHeartbeats 4000000 in
theorem k_X12_areAlike_20 {p : Program} {l : Launch} {e : Env} {s : State} {m : MethodId} {args : Array Value} {below : List Frame} {meth : Method} {c : Code} {D : va_G} {cy : Nat → ClassId} {z0 : Nat} {ad : Nat → Nat} {X : va_W} {u : Nat × Nat} (hC : cx_C p s m args meth c cX12_areAlike "RhymedThenModel" (Cond.code yX12_areAlike cX12_areAlike 3 (some .boolean)) 3 (some .boolean)) {z : Int32} {t0 : Int32} {M : mm_M} (hf : f_X12_areAlike_20 t0 M = some z) {H : Heap} {locs : List Loc} (hw : wd_in rf_T D cy z0 ad u M X s H locs) {ls : Array Slot} (hl : lv_has ls 3 [(0, .ref (ad 0))]) : W p l e { frames := 0, cells := 0, slots := 0, locals := 0 } s m args below meth c H locs 0 0 (MQ below (cq_i rf_T D cy z0 ad u X z M) args s 0 0 (fun q => z0 ≤ q)) (F0 m 20 ls [.int t0]) := by
  have hx := hC.1
  have hb := hC.2.1
  unfold f_X12_areAlike_20 at hf
  refine lv_istore_n (lv' := [(1, .int t0), (0, .ref (ad 0))]) hx hb dX12_areAlike_20 rfl hl (by decide) rfl (fun ls hl => ?_)
  refine lv_iconst (v := 0) hx hb dX12_areAlike_21 (by decide) ?_
  refine lv_istore_n (lv' := [(2, .int 0), (1, .int t0), (0, .ref (ad 0))]) hx hb dX12_areAlike_22 rfl hl (by decide) rfl (fun ls hl => ?_)
  exact k_X12_areAlike_23l hC fu_ _ _ _ _ _ hf hw (lv_sub hl [2, 1, 0] rfl)
set_option maxRecDepth 100000 in
set_option maxHeartbeats 4000000 in
theorem k_X12_areAlike {p : Program} {l : Launch} {e : Env} {s : State} {m : MethodId} {args : Array Value} {below : List Frame} {meth : Method} {c : Code} {D : va_G} {cy : Nat → ClassId} {z0 : Nat} {ad : Nat → Nat} {X : va_W} {u : Nat × Nat} (hC : cx_C p s m args meth c cX12_areAlike "RhymedThenModel" (Cond.code yX12_areAlike cX12_areAlike 3 (some .boolean)) 3 (some .boolean)) {z : Int32} {M : mm_M} (hf : f_X12_areAlike M = some z) {H : Heap} {locs : List Loc} (hw : wd_in rf_T D cy z0 ad u M X s H locs) {ls : Array Slot} (hl : lv_has ls 3 [(0, .ref (ad 0))]) : W p l e { frames := 0, cells := 0, slots := 0, locals := 0 } s m args below meth c H locs 0 0 (MQ below (cq_i rf_T D cy z0 ad u X z M) args s 0 0 (fun q => z0 ≤ q)) (F0 m 0 ls []) := by
  have hx := hC.1
  have hb := hC.2.1
  unfold f_X12_areAlike at hf
  refine lv_aload_n hx hb dX12_areAlike_0 rfl (lv_at hl 0 rfl) ?_
  refine rg_p hC hw 0 (Nat.le_of_ble_eq_true rfl) rfl fd_X12_21 wf_X12_155 (q := 15) rfl dX12_areAlike_1 ?_
  refine lv_iconst (v := 0) hx hb dX12_areAlike_4 (by decide) ?_
  refine ra_i hC hw 15 (Nat.le_of_ble_eq_true rfl) rfl (by decide) dX12_areAlike_5 ?_
  refine lv_aload_n hx hb dX12_areAlike_6 rfl (lv_at hl 0 rfl) ?_
  refine rg_p hC hw 0 (Nat.le_of_ble_eq_true rfl) rfl fd_X12_21 wf_X12_155 (q := 15) rfl dX12_areAlike_7 ?_
  refine lv_iconst (v := 1) hx hb dX12_areAlike_10 (by decide) ?_
  refine ra_i hC hw 15 (Nat.le_of_ble_eq_true rfl) rfl (by decide) dX12_areAlike_11 ?_
  refine lv_icmp_ne (tgt := 19) hx hb dX12_areAlike_12 (by decide) (fun c1 => ?_) (fun c1 => ?_)
  · rw [if_neg c1] at hf
    refine lv_iconst (v := 0) hx hb dX12_areAlike_19 (by decide) ?_
    exact k_X12_areAlike_20 hC hf hw (lv_sub hl [0] rfl)
  · rw [if_pos c1] at hf
    refine lv_iconst (v := 1) hx hb dX12_areAlike_15 (by decide) ?_
    refine lv_goto (tgt := 20) hx hb dX12_areAlike_16 (by decide) ?_
    exact k_X12_areAlike_20 hC hf hw (lv_sub hl [0] rfl)
set_option maxRecDepth 100000 in
theorem c_X12_areAlike {l : Launch} {D : va_G} {cy : Nat → ClassId} {z0 : Nat} {ad : Nat → Nat} {u : Nat × Nat} {X : va_W} {z : Int32} {M : mm_M} (hf : f_X12_areAlike M = some z) : ct_i rf_T l yX12_areAlike (Cond.code yX12_areAlike cX12_areAlike 3 (some .boolean)) 0 0 D cy z0 ad u M X [.ref (ad 0)] z M := by
  refine bgc_i (by decide) (fun p e s m below meth c hC hw => ?_)
  refine en_t (Nat.le_of_ble_eq_true rfl) (fun ls hl => ?_)
  have hl : lv_has ls 3 [(0, .ref (ad 0))] := hl
  exact k_X12_areAlike hC hf hw hl
set_option maxRecDepth 100000 in
set_option maxHeartbeats 4000000 in
theorem k_X12_tailAt_42 {p : Program} {l : Launch} {e : Env} {s : State} {m : MethodId} {args : Array Value} {below : List Frame} {meth : Method} {c : Code} {D : va_G} {cy : Nat → ClassId} {z0 : Nat} {ad : Nat → Nat} {X : va_W} {u : Nat × Nat} (hC : cx_C p s m args meth c cX12_tailAt "RhymedThenModel" (Cond.code yX12_tailAt cX12_tailAt 4 (some .int)) 4 (some .int)) {z : Int32} {x1 : Int32} {x3 : Int32} {t0 : Int32} {M : mm_M} {q4 : Int32 → Int32 → Int32 → Option Int32} (hq4 : ∀ (x1 : Int32) (x2 : Int32) (x3 : Int32) (H : Heap) (locs : List Loc) (ls : Array Slot), q4 x1 x2 x3 = some z → wd_in rf_T D cy z0 ad u M X s H locs → lv_has ls 4 [(0, .ref (ad 0)), (1, .int x1), (2, .int x2), (3, .int x3)] → W p l e { frames := 1, cells := 0, slots := 0, locals := 21 } s m args below meth c H locs 0 0 (MQ below (cq_i rf_T D cy z0 ad u X z M) args s 0 0 (fun q => z0 ≤ q)) (F0 m 4 ls [])) (hf : f_X12_tailAt_42 q4 x1 x3 t0 M = some z) {H : Heap} {locs : List Loc} (hw : wd_in rf_T D cy z0 ad u M X s H locs) {ls : Array Slot} (hl : lv_has ls 4 [(0, .ref (ad 0)), (1, .int x1), (3, .int x3)]) : W p l e { frames := 1, cells := 0, slots := 0, locals := 21 } s m args below meth c H locs 0 0 (MQ below (cq_i rf_T D cy z0 ad u X z M) args s 0 0 (fun q => z0 ≤ q)) (F0 m 42 ls [.int t0]) := by
  have hx := hC.1
  have hb := hC.2.1
  unfold f_X12_tailAt_42 at hf
  refine lv_istore_n (lv' := [(2, .int t0), (0, .ref (ad 0)), (1, .int x1), (3, .int x3)]) hx hb dX12_tailAt_42 rfl hl (by decide) rfl (fun ls hl => ?_)
  obtain ⟨y6, ey6, hf⟩ := sq_e hf
  refine lv_iinc (v := y6) (lv' := [(3, .int y6), (2, .int t0), (0, .ref (ad 0)), (1, .int x1)]) hx hb dX12_tailAt_43 hl (k := 3) rfl (by rw [ey6]; rfl) (by decide) rfl (fun ls hl => ?_)
  refine lv_goto (tgt := 4) hx hb dX12_tailAt_46 (by decide) ?_
  exact hq4 _ _ _ _ _ _ hf hw (lv_sub hl [2, 3, 1, 0] rfl)
set_option maxRecDepth 100000 in
set_option maxHeartbeats 4000000 in
theorem k_X12_tailAt_4 {p : Program} {l : Launch} {e : Env} {s : State} {m : MethodId} {args : Array Value} {below : List Frame} {meth : Method} {c : Code} {D : va_G} {cy : Nat → ClassId} {z0 : Nat} {ad : Nat → Nat} {X : va_W} {u : Nat × Nat} (hC : cx_C p s m args meth c cX12_tailAt "RhymedThenModel" (Cond.code yX12_tailAt cX12_tailAt 4 (some .int)) 4 (some .int)) {z : Int32} {x1 : Int32} {x2 : Int32} {x3 : Int32} {M : mm_M} {q4 : Int32 → Int32 → Int32 → Option Int32} (hq4 : ∀ (x1 : Int32) (x2 : Int32) (x3 : Int32) (H : Heap) (locs : List Loc) (ls : Array Slot), q4 x1 x2 x3 = some z → wd_in rf_T D cy z0 ad u M X s H locs → lv_has ls 4 [(0, .ref (ad 0)), (1, .int x1), (2, .int x2), (3, .int x3)] → W p l e { frames := 1, cells := 0, slots := 0, locals := 21 } s m args below meth c H locs 0 0 (MQ below (cq_i rf_T D cy z0 ad u X z M) args s 0 0 (fun q => z0 ≤ q)) (F0 m 4 ls [])) (hf : f_X12_tailAt_4 q4 x1 x2 x3 M = some z) {H : Heap} {locs : List Loc} (hw : wd_in rf_T D cy z0 ad u M X s H locs) {ls : Array Slot} (hl : lv_has ls 4 [(0, .ref (ad 0)), (1, .int x1), (2, .int x2), (3, .int x3)]) : W p l e { frames := 1, cells := 0, slots := 0, locals := 21 } s m args below meth c H locs 0 0 (MQ below (cq_i rf_T D cy z0 ad u X z M) args s 0 0 (fun q => z0 ≤ q)) (F0 m 4 ls []) := by
  have hx := hC.1
  have hb := hC.2.1
  unfold f_X12_tailAt_4 at hf
  refine lv_iload_n hx hb dX12_tailAt_4 rfl (lv_at hl 3 rfl) ?_
  refine lv_aload_n hx hb dX12_tailAt_5 rfl (lv_at hl 0 rfl) ?_
  refine rg_p hC hw 0 (Nat.le_of_ble_eq_true rfl) rfl fd_X12_21 wf_X12_155 (q := 15) rfl dX12_tailAt_6 ?_
  refine lv_iload_n hx hb dX12_tailAt_9 rfl (lv_at hl 1 rfl) ?_
  obtain ⟨h1, hf⟩ := ck_e hf
  refine ra_i hC hw 15 (Nat.le_of_ble_eq_true rfl) rfl h1 dX12_tailAt_10 ?_
  refine lv_icmp_ge (tgt := 49) hx hb dX12_tailAt_11 (by decide) (fun c2 => ?_) (fun c2 => ?_)
  · rw [if_pos c2] at hf
    refine lv_iload_n hx hb dX12_tailAt_49 rfl (lv_at hl 2 rfl) ?_
    have hz := Option.some.inj hf
    subst hz
    exact rtc_i hC hw dX12_tailAt_50
  · rw [if_neg c2] at hf
    refine lv_aload_n hx hb dX12_tailAt_14 rfl (lv_at hl 0 rfl) ?_
    refine rg_p hC hw 0 (Nat.le_of_ble_eq_true rfl) rfl fd_X12_7 wf_X12_66 (q := 3) rfl dX12_tailAt_15 ?_
    refine lv_iconst (v := 0) hx hb dX12_tailAt_18 (by decide) ?_
    refine ra_i hC hw 3 (Nat.le_of_ble_eq_true rfl) rfl (by decide) dX12_tailAt_19 ?_
    refine lv_aload_n hx hb dX12_tailAt_20 rfl (lv_at hl 0 rfl) ?_
    refine rg_p hC hw 0 (Nat.le_of_ble_eq_true rfl) rfl fd_X12_20 wf_X12_158 (q := 14) rfl dX12_tailAt_21 ?_
    refine lv_bipush (v := 8) hx hb dX12_tailAt_24 (by decide) ?_
    refine lv_iload_n hx hb dX12_tailAt_26 rfl (lv_at hl 1 rfl) ?_
    refine lv_imul hx hb dX12_tailAt_27 ?_
    refine lv_iload_n hx hb dX12_tailAt_28 rfl (lv_at hl 3 rfl) ?_
    refine lv_iadd hx hb dX12_tailAt_29 ?_
    obtain ⟨h3, hf⟩ := ck_e hf
    refine ra_i hC hw 14 (Nat.le_of_ble_eq_true rfl) rfl h3 dX12_tailAt_30 ?_
    obtain ⟨z4, ez4, hf⟩ := sq_e hf
    refine clc_Si hC hw (c_X12_has ez4.symm) hd_X12_has cw_X12_136 (rest := []) hl.1 rfl (Nat.le_of_ble_eq_true rfl) ⟨Nat.le_of_ble_eq_true rfl, Nat.le_of_ble_eq_true rfl⟩ ⟨Nat.zero_le _, Nat.zero_le _⟩ rfl dX12_tailAt_31 (fun H locs hw => ?_)
    refine lv_if_eq (tgt := 41) hx hb dX12_tailAt_34 (by decide) (fun c5 => ?_) (fun c5 => ?_)
    · rw [if_pos c5] at hf
      refine lv_iload_n hx hb dX12_tailAt_41 rfl (lv_at hl 2 rfl) ?_
      exact k_X12_tailAt_42 hC hq4 hf hw (lv_sub hl [0, 1, 3] rfl)
    · rw [if_neg c5] at hf
      refine lv_iload_n hx hb dX12_tailAt_37 rfl (lv_at hl 3 rfl) ?_
      refine lv_goto (tgt := 42) hx hb dX12_tailAt_38 (by decide) ?_
      exact k_X12_tailAt_42 hC hq4 hf hw (lv_sub hl [0, 1, 3] rfl)
set_option maxRecDepth 100000 in
set_option maxHeartbeats 4000000 in
theorem k_X12_tailAt_4l {p : Program} {l : Launch} {e : Env} {s : State} {m : MethodId} {args : Array Value} {below : List Frame} {meth : Method} {c : Code} {D : va_G} {cy : Nat → ClassId} {z0 : Nat} {ad : Nat → Nat} {X : va_W} {u : Nat × Nat} (hC : cx_C p s m args meth c cX12_tailAt "RhymedThenModel" (Cond.code yX12_tailAt cX12_tailAt 4 (some .int)) 4 (some .int)) {z : Int32} {M : mm_M} : ∀ (n : Nat) (x1 : Int32) (x2 : Int32) (x3 : Int32) (H : Heap) (locs : List Loc) (ls : Array Slot), f_X12_tailAt_4l M n x1 x2 x3 = some z → wd_in rf_T D cy z0 ad u M X s H locs → lv_has ls 4 [(0, .ref (ad 0)), (1, .int x1), (2, .int x2), (3, .int x3)] → W p l e { frames := 1, cells := 0, slots := 0, locals := 21 } s m args below meth c H locs 0 0 (MQ below (cq_i rf_T D cy z0 ad u X z M) args s 0 0 (fun q => z0 ≤ q)) (F0 m 4 ls []) := by
  intro n
  induction n with
  | zero => intro x1 x2 x3 H locs ls hf; exact absurd hf (by simp [f_X12_tailAt_4l])
  | succ n ih => intro x1 x2 x3 H locs ls hf hw hl; exact k_X12_tailAt_4 hC ih hf hw hl
set_option maxRecDepth 100000 in
set_option maxHeartbeats 4000000 in
theorem k_X12_tailAt {p : Program} {l : Launch} {e : Env} {s : State} {m : MethodId} {args : Array Value} {below : List Frame} {meth : Method} {c : Code} {D : va_G} {cy : Nat → ClassId} {z0 : Nat} {ad : Nat → Nat} {X : va_W} {u : Nat × Nat} (hC : cx_C p s m args meth c cX12_tailAt "RhymedThenModel" (Cond.code yX12_tailAt cX12_tailAt 4 (some .int)) 4 (some .int)) {z : Int32} {x1 : Int32} {M : mm_M} (hf : f_X12_tailAt x1 M = some z) {H : Heap} {locs : List Loc} (hw : wd_in rf_T D cy z0 ad u M X s H locs) {ls : Array Slot} (hl : lv_has ls 4 [(0, .ref (ad 0)), (1, .int x1)]) : W p l e { frames := 1, cells := 0, slots := 0, locals := 21 } s m args below meth c H locs 0 0 (MQ below (cq_i rf_T D cy z0 ad u X z M) args s 0 0 (fun q => z0 ≤ q)) (F0 m 0 ls []) := by
  have hx := hC.1
  have hb := hC.2.1
  unfold f_X12_tailAt at hf
  refine lv_iconst (v := (-1)) hx hb dX12_tailAt_0 (by decide) ?_
  refine lv_istore_n (lv' := [(2, .int (-1)), (0, .ref (ad 0)), (1, .int x1)]) hx hb dX12_tailAt_1 rfl hl (by decide) rfl (fun ls hl => ?_)
  refine lv_iconst (v := 0) hx hb dX12_tailAt_2 (by decide) ?_
  refine lv_istore_n (lv' := [(3, .int 0), (2, .int (-1)), (0, .ref (ad 0)), (1, .int x1)]) hx hb dX12_tailAt_3 rfl hl (by decide) rfl (fun ls hl => ?_)
  exact k_X12_tailAt_4l hC fu_ _ _ _ _ _ _ hf hw (lv_sub hl [2, 3, 1, 0] rfl)
set_option maxRecDepth 100000 in
theorem c_X12_tailAt {l : Launch} {D : va_G} {cy : Nat → ClassId} {z0 : Nat} {ad : Nat → Nat} {u : Nat × Nat} {X : va_W} {z : Int32} {x1 : Int32} {M : mm_M} (hf : f_X12_tailAt x1 M = some z) : ct_i rf_T l yX12_tailAt (Cond.code yX12_tailAt cX12_tailAt 4 (some .int)) 1 21 D cy z0 ad u M X [.ref (ad 0), .int x1] z M := by
  refine bgc_i (by decide) (fun p e s m below meth c hC hw => ?_)
  refine en_t (Nat.le_of_ble_eq_true rfl) (fun ls hl => ?_)
  have hl : lv_has ls 4 [(0, .ref (ad 0)), (1, .int x1)] := hl
  exact k_X12_tailAt hC hf hw hl
set_option maxRecDepth 100000 in
set_option maxHeartbeats 4000000 in
theorem k_X12_haveTails {p : Program} {l : Launch} {e : Env} {s : State} {m : MethodId} {args : Array Value} {below : List Frame} {meth : Method} {c : Code} {D : va_G} {cy : Nat → ClassId} {z0 : Nat} {ad : Nat → Nat} {X : va_W} {u : Nat × Nat} (hC : cx_C p s m args meth c cX12_haveTails "RhymedThenModel" (Cond.code yX12_haveTails cX12_haveTails 1 (some .boolean)) 1 (some .boolean)) {z : Int32} {M : mm_M} (hf : f_X12_haveTails M = some z) {H : Heap} {locs : List Loc} (hw : wd_in rf_T D cy z0 ad u M X s H locs) {ls : Array Slot} (hl : lv_has ls 1 [(0, .ref (ad 0))]) : W p l e { frames := 2, cells := 0, slots := 0, locals := 44 } s m args below meth c H locs 0 0 (MQ below (cq_i rf_T D cy z0 ad u X z M) args s 0 0 (fun q => z0 ≤ q)) (F0 m 0 ls []) := by
  have hx := hC.1
  have hb := hC.2.1
  unfold f_X12_haveTails at hf
  refine lv_aload_n hx hb dX12_haveTails_0 rfl (lv_at hl 0 rfl) ?_
  refine lv_iconst (v := 0) hx hb dX12_haveTails_1 (by decide) ?_
  obtain ⟨z1, ez1, hf⟩ := bd_e hf
  refine clc_Vi hC hw (c_X12_tailAt ez1) hd_X12_tailAt cw_X12_178 (Nat.le_of_ble_eq_true rfl) rfl rfl (rest := []) hl.1 rfl (Nat.le_of_ble_eq_true rfl) ⟨Nat.le_of_ble_eq_true rfl, Nat.le_of_ble_eq_true rfl⟩ ⟨Nat.zero_le _, Nat.zero_le _⟩ rfl dX12_haveTails_2 (fun H locs hw => ?_)
  refine lv_if_lt (tgt := 20) hx hb dX12_haveTails_5 (by decide) (fun c2 => ?_) (fun c2 => ?_)
  · rw [if_pos c2] at hf
    refine lv_iconst (v := 0) hx hb dX12_haveTails_20 (by decide) ?_
    have hz := Option.some.inj hf
    subst hz
    exact rtc_z hC hw (Or.inl rfl) dX12_haveTails_21
  · rw [if_neg c2] at hf
    refine lv_aload_n hx hb dX12_haveTails_8 rfl (lv_at hl 0 rfl) ?_
    refine lv_iconst (v := 1) hx hb dX12_haveTails_9 (by decide) ?_
    obtain ⟨z3, ez3, hf⟩ := bd_e hf
    refine clc_Vi hC hw (c_X12_tailAt ez3) hd_X12_tailAt cw_X12_178 (Nat.le_of_ble_eq_true rfl) rfl rfl (rest := []) hl.1 rfl (Nat.le_of_ble_eq_true rfl) ⟨Nat.le_of_ble_eq_true rfl, Nat.le_of_ble_eq_true rfl⟩ ⟨Nat.zero_le _, Nat.zero_le _⟩ rfl dX12_haveTails_10 (fun H locs hw => ?_)
    refine lv_if_lt (tgt := 20) hx hb dX12_haveTails_13 (by decide) (fun c4 => ?_) (fun c4 => ?_)
    · rw [if_pos c4] at hf
      refine lv_iconst (v := 0) hx hb dX12_haveTails_20 (by decide) ?_
      have hz := Option.some.inj hf
      subst hz
      exact rtc_z hC hw (Or.inl rfl) dX12_haveTails_21
    · rw [if_neg c4] at hf
      refine lv_iconst (v := 1) hx hb dX12_haveTails_16 (by decide) ?_
      refine lv_goto (tgt := 21) hx hb dX12_haveTails_17 (by decide) ?_
      have hz := Option.some.inj hf
      subst hz
      exact rtc_z hC hw (Or.inr rfl) dX12_haveTails_21
set_option maxRecDepth 100000 in
theorem c_X12_haveTails {l : Launch} {D : va_G} {cy : Nat → ClassId} {z0 : Nat} {ad : Nat → Nat} {u : Nat × Nat} {X : va_W} {z : Int32} {M : mm_M} (hf : f_X12_haveTails M = some z) : ct_i rf_T l yX12_haveTails (Cond.code yX12_haveTails cX12_haveTails 1 (some .boolean)) 2 44 D cy z0 ad u M X [.ref (ad 0)] z M := by
  refine bgc_i (by decide) (fun p e s m below meth c hC hw => ?_)
  refine en_t (Nat.le_of_ble_eq_true rfl) (fun ls hl => ?_)
  have hl : lv_has ls 1 [(0, .ref (ad 0))] := hl
  exact k_X12_haveTails hC hf hw hl
set_option maxRecDepth 100000 in
set_option maxHeartbeats 4000000 in
theorem k_X12_areTailsAlike_86 {p : Program} {l : Launch} {e : Env} {s : State} {m : MethodId} {args : Array Value} {below : List Frame} {meth : Method} {c : Code} {D : va_G} {cy : Nat → ClassId} {z0 : Nat} {ad : Nat → Nat} {X : va_W} {u : Nat × Nat} (hC : cx_C p s m args meth c cX12_areTailsAlike "RhymedThenModel" (Cond.code yX12_areTailsAlike cX12_areTailsAlike 5 (some .boolean)) 5 (some .boolean)) {z : Int32} {x1 : Int32} {x2 : Int32} {x4 : Int32} {t0 : Int32} {M : mm_M} {q40 : Int32 → Int32 → Int32 → Int32 → Option Int32} (hq40 : ∀ (x1 : Int32) (x2 : Int32) (x3 : Int32) (x4 : Int32) (H : Heap) (locs : List Loc) (ls : Array Slot), q40 x1 x2 x3 x4 = some z → wd_in rf_T D cy z0 ad u M X s H locs → lv_has ls 5 [(0, .ref (ad 0)), (1, .int x1), (2, .int x2), (3, .int x3), (4, .int x4)] → W p l e { frames := 2, cells := 0, slots := 0, locals := 44 } s m args below meth c H locs 0 0 (MQ below (cq_i rf_T D cy z0 ad u X z M) args s 0 0 (fun q => z0 ≤ q)) (F0 m 40 ls [])) (hf : f_X12_areTailsAlike_86 q40 x1 x2 x4 t0 M = some z) {H : Heap} {locs : List Loc} (hw : wd_in rf_T D cy z0 ad u M X s H locs) {ls : Array Slot} (hl : lv_has ls 5 [(0, .ref (ad 0)), (1, .int x1), (2, .int x2), (4, .int x4)]) : W p l e { frames := 2, cells := 0, slots := 0, locals := 44 } s m args below meth c H locs 0 0 (MQ below (cq_i rf_T D cy z0 ad u X z M) args s 0 0 (fun q => z0 ≤ q)) (F0 m 86 ls [.int t0]) := by
  have hx := hC.1
  have hb := hC.2.1
  unfold f_X12_areTailsAlike_86 at hf
  refine lv_istore_n (lv' := [(3, .int t0), (0, .ref (ad 0)), (1, .int x1), (2, .int x2), (4, .int x4)]) hx hb dX12_areTailsAlike_86 rfl hl (by decide) rfl (fun ls hl => ?_)
  obtain ⟨y11, ey11, hf⟩ := sq_e hf
  refine lv_iinc (v := y11) (lv' := [(4, .int y11), (3, .int t0), (0, .ref (ad 0)), (1, .int x1), (2, .int x2)]) hx hb dX12_areTailsAlike_87 hl (k := 4) rfl (by rw [ey11]; rfl) (by decide) rfl (fun ls hl => ?_)
  refine lv_goto (tgt := 40) hx hb dX12_areTailsAlike_90 (by decide) ?_
  exact hq40 _ _ _ _ _ _ _ hf hw (lv_sub hl [2, 3, 4, 1, 0] rfl)
set_option maxRecDepth 100000 in
set_option maxHeartbeats 4000000 in
theorem k_X12_areTailsAlike_40 {p : Program} {l : Launch} {e : Env} {s : State} {m : MethodId} {args : Array Value} {below : List Frame} {meth : Method} {c : Code} {D : va_G} {cy : Nat → ClassId} {z0 : Nat} {ad : Nat → Nat} {X : va_W} {u : Nat × Nat} (hC : cx_C p s m args meth c cX12_areTailsAlike "RhymedThenModel" (Cond.code yX12_areTailsAlike cX12_areTailsAlike 5 (some .boolean)) 5 (some .boolean)) {z : Int32} {x1 : Int32} {x2 : Int32} {x3 : Int32} {x4 : Int32} {M : mm_M} {q40 : Int32 → Int32 → Int32 → Int32 → Option Int32} (hq40 : ∀ (x1 : Int32) (x2 : Int32) (x3 : Int32) (x4 : Int32) (H : Heap) (locs : List Loc) (ls : Array Slot), q40 x1 x2 x3 x4 = some z → wd_in rf_T D cy z0 ad u M X s H locs → lv_has ls 5 [(0, .ref (ad 0)), (1, .int x1), (2, .int x2), (3, .int x3), (4, .int x4)] → W p l e { frames := 2, cells := 0, slots := 0, locals := 44 } s m args below meth c H locs 0 0 (MQ below (cq_i rf_T D cy z0 ad u X z M) args s 0 0 (fun q => z0 ≤ q)) (F0 m 40 ls [])) (hf : f_X12_areTailsAlike_40 q40 x1 x2 x3 x4 M = some z) {H : Heap} {locs : List Loc} (hw : wd_in rf_T D cy z0 ad u M X s H locs) {ls : Array Slot} (hl : lv_has ls 5 [(0, .ref (ad 0)), (1, .int x1), (2, .int x2), (3, .int x3), (4, .int x4)]) : W p l e { frames := 2, cells := 0, slots := 0, locals := 44 } s m args below meth c H locs 0 0 (MQ below (cq_i rf_T D cy z0 ad u X z M) args s 0 0 (fun q => z0 ≤ q)) (F0 m 40 ls []) := by
  have hx := hC.1
  have hb := hC.2.1
  unfold f_X12_areTailsAlike_40 at hf
  refine lv_iload_n hx hb dX12_areTailsAlike_40 rfl (lv_at hl 1 rfl) ?_
  refine lv_iload hx hb dX12_areTailsAlike_41 (lv_at hl 4 rfl) ?_
  refine lv_iadd hx hb dX12_areTailsAlike_43 ?_
  refine lv_aload_n hx hb dX12_areTailsAlike_44 rfl (lv_at hl 0 rfl) ?_
  refine rg_p hC hw 0 (Nat.le_of_ble_eq_true rfl) rfl fd_X12_21 wf_X12_155 (q := 15) rfl dX12_areTailsAlike_45 ?_
  refine lv_iconst (v := 0) hx hb dX12_areTailsAlike_48 (by decide) ?_
  refine ra_i hC hw 15 (Nat.le_of_ble_eq_true rfl) rfl (by decide) dX12_areTailsAlike_49 ?_
  refine lv_icmp_ge (tgt := 93) hx hb dX12_areTailsAlike_50 (by decide) (fun c4 => ?_) (fun c4 => ?_)
  · rw [if_pos c4] at hf
    refine lv_iload_n hx hb dX12_areTailsAlike_93 rfl (lv_at hl 3 rfl) ?_
    obtain ⟨h5, hf⟩ := ck_e hf
    have hz := Option.some.inj hf
    subst hz
    exact rtc_z hC hw h5 dX12_areTailsAlike_94
  · rw [if_neg c4] at hf
    refine lv_iload_n hx hb dX12_areTailsAlike_53 rfl (lv_at hl 3 rfl) ?_
    refine lv_if_eq (tgt := 93) hx hb dX12_areTailsAlike_54 (by decide) (fun c6 => ?_) (fun c6 => ?_)
    · rw [if_pos c6] at hf
      refine lv_iload_n hx hb dX12_areTailsAlike_93 rfl (lv_at hl 3 rfl) ?_
      obtain ⟨h7, hf⟩ := ck_e hf
      have hz := Option.some.inj hf
      subst hz
      exact rtc_z hC hw h7 dX12_areTailsAlike_94
    · rw [if_neg c6] at hf
      refine lv_aload_n hx hb dX12_areTailsAlike_57 rfl (lv_at hl 0 rfl) ?_
      refine rg_p hC hw 0 (Nat.le_of_ble_eq_true rfl) rfl fd_X12_20 wf_X12_158 (q := 14) rfl dX12_areTailsAlike_58 ?_
      refine lv_iload_n hx hb dX12_areTailsAlike_61 rfl (lv_at hl 1 rfl) ?_
      refine lv_iload hx hb dX12_areTailsAlike_62 (lv_at hl 4 rfl) ?_
      refine lv_iadd hx hb dX12_areTailsAlike_64 ?_
      obtain ⟨h8, hf⟩ := ck_e hf
      refine ra_i hC hw 14 (Nat.le_of_ble_eq_true rfl) rfl h8 dX12_areTailsAlike_65 ?_
      refine lv_aload_n hx hb dX12_areTailsAlike_66 rfl (lv_at hl 0 rfl) ?_
      refine rg_p hC hw 0 (Nat.le_of_ble_eq_true rfl) rfl fd_X12_20 wf_X12_158 (q := 14) rfl dX12_areTailsAlike_67 ?_
      refine lv_bipush (v := 8) hx hb dX12_areTailsAlike_70 (by decide) ?_
      refine lv_iload_n hx hb dX12_areTailsAlike_72 rfl (lv_at hl 2 rfl) ?_
      refine lv_iadd hx hb dX12_areTailsAlike_73 ?_
      refine lv_iload hx hb dX12_areTailsAlike_74 (lv_at hl 4 rfl) ?_
      refine lv_iadd hx hb dX12_areTailsAlike_76 ?_
      obtain ⟨h9, hf⟩ := ck_e hf
      refine ra_i hC hw 14 (Nat.le_of_ble_eq_true rfl) rfl h9 dX12_areTailsAlike_77 ?_
      refine lv_icmp_ne (tgt := 85) hx hb dX12_areTailsAlike_78 (by decide) (fun c10 => ?_) (fun c10 => ?_)
      · rw [if_neg c10] at hf
        refine lv_iconst (v := 0) hx hb dX12_areTailsAlike_85 (by decide) ?_
        exact k_X12_areTailsAlike_86 hC hq40 hf hw (lv_sub hl [0, 1, 2, 4] rfl)
      · rw [if_pos c10] at hf
        refine lv_iconst (v := 1) hx hb dX12_areTailsAlike_81 (by decide) ?_
        refine lv_goto (tgt := 86) hx hb dX12_areTailsAlike_82 (by decide) ?_
        exact k_X12_areTailsAlike_86 hC hq40 hf hw (lv_sub hl [0, 1, 2, 4] rfl)
set_option maxRecDepth 100000 in
set_option maxHeartbeats 4000000 in
theorem k_X12_areTailsAlike_40l {p : Program} {l : Launch} {e : Env} {s : State} {m : MethodId} {args : Array Value} {below : List Frame} {meth : Method} {c : Code} {D : va_G} {cy : Nat → ClassId} {z0 : Nat} {ad : Nat → Nat} {X : va_W} {u : Nat × Nat} (hC : cx_C p s m args meth c cX12_areTailsAlike "RhymedThenModel" (Cond.code yX12_areTailsAlike cX12_areTailsAlike 5 (some .boolean)) 5 (some .boolean)) {z : Int32} {M : mm_M} : ∀ (n : Nat) (x1 : Int32) (x2 : Int32) (x3 : Int32) (x4 : Int32) (H : Heap) (locs : List Loc) (ls : Array Slot), f_X12_areTailsAlike_40l M n x1 x2 x3 x4 = some z → wd_in rf_T D cy z0 ad u M X s H locs → lv_has ls 5 [(0, .ref (ad 0)), (1, .int x1), (2, .int x2), (3, .int x3), (4, .int x4)] → W p l e { frames := 2, cells := 0, slots := 0, locals := 44 } s m args below meth c H locs 0 0 (MQ below (cq_i rf_T D cy z0 ad u X z M) args s 0 0 (fun q => z0 ≤ q)) (F0 m 40 ls []) := by
  intro n
  induction n with
  | zero => intro x1 x2 x3 x4 H locs ls hf; exact absurd hf (by simp [f_X12_areTailsAlike_40l])
  | succ n ih => intro x1 x2 x3 x4 H locs ls hf hw hl; exact k_X12_areTailsAlike_40 hC ih hf hw hl
set_option maxRecDepth 100000 in
set_option maxHeartbeats 4000000 in
theorem k_X12_areTailsAlike_36 {p : Program} {l : Launch} {e : Env} {s : State} {m : MethodId} {args : Array Value} {below : List Frame} {meth : Method} {c : Code} {D : va_G} {cy : Nat → ClassId} {z0 : Nat} {ad : Nat → Nat} {X : va_W} {u : Nat × Nat} (hC : cx_C p s m args meth c cX12_areTailsAlike "RhymedThenModel" (Cond.code yX12_areTailsAlike cX12_areTailsAlike 5 (some .boolean)) 5 (some .boolean)) {z : Int32} {x1 : Int32} {x2 : Int32} {t0 : Int32} {M : mm_M} (hf : f_X12_areTailsAlike_36 x1 x2 t0 M = some z) {H : Heap} {locs : List Loc} (hw : wd_in rf_T D cy z0 ad u M X s H locs) {ls : Array Slot} (hl : lv_has ls 5 [(0, .ref (ad 0)), (1, .int x1), (2, .int x2)]) : W p l e { frames := 2, cells := 0, slots := 0, locals := 44 } s m args below meth c H locs 0 0 (MQ below (cq_i rf_T D cy z0 ad u X z M) args s 0 0 (fun q => z0 ≤ q)) (F0 m 36 ls [.int t0]) := by
  have hx := hC.1
  have hb := hC.2.1
  unfold f_X12_areTailsAlike_36 at hf
  refine lv_istore_n (lv' := [(3, .int t0), (0, .ref (ad 0)), (1, .int x1), (2, .int x2)]) hx hb dX12_areTailsAlike_36 rfl hl (by decide) rfl (fun ls hl => ?_)
  refine lv_iconst (v := 0) hx hb dX12_areTailsAlike_37 (by decide) ?_
  refine lv_istore (lv' := [(4, .int 0), (3, .int t0), (0, .ref (ad 0)), (1, .int x1), (2, .int x2)]) hx hb dX12_areTailsAlike_38 hl (by decide) rfl (fun ls hl => ?_)
  exact k_X12_areTailsAlike_40l hC fu_ _ _ _ _ _ _ _ hf hw (lv_sub hl [2, 3, 4, 1, 0] rfl)
set_option maxRecDepth 100000 in
set_option maxHeartbeats 4000000 in
theorem k_X12_areTailsAlike {p : Program} {l : Launch} {e : Env} {s : State} {m : MethodId} {args : Array Value} {below : List Frame} {meth : Method} {c : Code} {D : va_G} {cy : Nat → ClassId} {z0 : Nat} {ad : Nat → Nat} {X : va_W} {u : Nat × Nat} (hC : cx_C p s m args meth c cX12_areTailsAlike "RhymedThenModel" (Cond.code yX12_areTailsAlike cX12_areTailsAlike 5 (some .boolean)) 5 (some .boolean)) {z : Int32} {M : mm_M} (hf : f_X12_areTailsAlike M = some z) {H : Heap} {locs : List Loc} (hw : wd_in rf_T D cy z0 ad u M X s H locs) {ls : Array Slot} (hl : lv_has ls 5 [(0, .ref (ad 0))]) : W p l e { frames := 2, cells := 0, slots := 0, locals := 44 } s m args below meth c H locs 0 0 (MQ below (cq_i rf_T D cy z0 ad u X z M) args s 0 0 (fun q => z0 ≤ q)) (F0 m 0 ls []) := by
  have hx := hC.1
  have hb := hC.2.1
  unfold f_X12_areTailsAlike at hf
  refine lv_aload_n hx hb dX12_areTailsAlike_0 rfl (lv_at hl 0 rfl) ?_
  refine lv_iconst (v := 0) hx hb dX12_areTailsAlike_1 (by decide) ?_
  obtain ⟨z1, ez1, hf⟩ := bd_e hf
  refine clc_Vi hC hw (c_X12_tailAt ez1) hd_X12_tailAt cw_X12_178 (Nat.le_of_ble_eq_true rfl) rfl rfl (rest := []) hl.1 rfl (Nat.le_of_ble_eq_true rfl) ⟨Nat.le_of_ble_eq_true rfl, Nat.le_of_ble_eq_true rfl⟩ ⟨Nat.zero_le _, Nat.zero_le _⟩ rfl dX12_areTailsAlike_2 (fun H locs hw => ?_)
  refine lv_istore_n (lv' := [(1, .int z1), (0, .ref (ad 0))]) hx hb dX12_areTailsAlike_5 rfl hl (by decide) rfl (fun ls hl => ?_)
  refine lv_aload_n hx hb dX12_areTailsAlike_6 rfl (lv_at hl 1 rfl) ?_
  refine lv_iconst (v := 1) hx hb dX12_areTailsAlike_7 (by decide) ?_
  obtain ⟨z2, ez2, hf⟩ := bd_e hf
  refine clc_Vi hC hw (c_X12_tailAt ez2) hd_X12_tailAt cw_X12_178 (Nat.le_of_ble_eq_true rfl) rfl rfl (rest := []) hl.1 rfl (Nat.le_of_ble_eq_true rfl) ⟨Nat.le_of_ble_eq_true rfl, Nat.le_of_ble_eq_true rfl⟩ ⟨Nat.zero_le _, Nat.zero_le _⟩ rfl dX12_areTailsAlike_8 (fun H locs hw => ?_)
  refine lv_istore_n (lv' := [(2, .int z2), (1, .int z1), (0, .ref (ad 0))]) hx hb dX12_areTailsAlike_11 rfl hl (by decide) rfl (fun ls hl => ?_)
  refine lv_aload_n hx hb dX12_areTailsAlike_12 rfl (lv_at hl 2 rfl) ?_
  refine rg_p hC hw 0 (Nat.le_of_ble_eq_true rfl) rfl fd_X12_21 wf_X12_155 (q := 15) rfl dX12_areTailsAlike_13 ?_
  refine lv_iconst (v := 0) hx hb dX12_areTailsAlike_16 (by decide) ?_
  refine ra_i hC hw 15 (Nat.le_of_ble_eq_true rfl) rfl (by decide) dX12_areTailsAlike_17 ?_
  refine lv_iload_n hx hb dX12_areTailsAlike_18 rfl (lv_at hl 1 rfl) ?_
  refine lv_isub hx hb dX12_areTailsAlike_19 ?_
  refine lv_aload_n hx hb dX12_areTailsAlike_20 rfl (lv_at hl 2 rfl) ?_
  refine rg_p hC hw 0 (Nat.le_of_ble_eq_true rfl) rfl fd_X12_21 wf_X12_155 (q := 15) rfl dX12_areTailsAlike_21 ?_
  refine lv_iconst (v := 1) hx hb dX12_areTailsAlike_24 (by decide) ?_
  refine ra_i hC hw 15 (Nat.le_of_ble_eq_true rfl) rfl (by decide) dX12_areTailsAlike_25 ?_
  refine lv_iload_n hx hb dX12_areTailsAlike_26 rfl (lv_at hl 0 rfl) ?_
  refine lv_isub hx hb dX12_areTailsAlike_27 ?_
  refine lv_icmp_ne (tgt := 35) hx hb dX12_areTailsAlike_28 (by decide) (fun c3 => ?_) (fun c3 => ?_)
  · rw [if_neg c3] at hf
    refine lv_iconst (v := 0) hx hb dX12_areTailsAlike_35 (by decide) ?_
    exact k_X12_areTailsAlike_36 hC hf hw (lv_sub hl [2, 1, 0] rfl)
  · rw [if_pos c3] at hf
    refine lv_iconst (v := 1) hx hb dX12_areTailsAlike_31 (by decide) ?_
    refine lv_goto (tgt := 36) hx hb dX12_areTailsAlike_32 (by decide) ?_
    exact k_X12_areTailsAlike_36 hC hf hw (lv_sub hl [2, 1, 0] rfl)
set_option maxRecDepth 100000 in
theorem c_X12_areTailsAlike {l : Launch} {D : va_G} {cy : Nat → ClassId} {z0 : Nat} {ad : Nat → Nat} {u : Nat × Nat} {X : va_W} {z : Int32} {M : mm_M} (hf : f_X12_areTailsAlike M = some z) : ct_i rf_T l yX12_areTailsAlike (Cond.code yX12_areTailsAlike cX12_areTailsAlike 5 (some .boolean)) 2 44 D cy z0 ad u M X [.ref (ad 0)] z M := by
  refine bgc_i (by decide) (fun p e s m below meth c hC hw => ?_)
  refine en_t (Nat.le_of_ble_eq_true rfl) (fun ls hl => ?_)
  have hl : lv_has ls 5 [(0, .ref (ad 0))] := hl
  exact k_X12_areTailsAlike hC hf hw hl
set_option maxRecDepth 100000 in
set_option maxHeartbeats 4000000 in
theorem k_X12_areRhymes {p : Program} {l : Launch} {e : Env} {s : State} {m : MethodId} {args : Array Value} {below : List Frame} {meth : Method} {c : Code} {D : va_G} {cy : Nat → ClassId} {z0 : Nat} {ad : Nat → Nat} {X : va_W} {u : Nat × Nat} (hC : cx_C p s m args meth c cX12_areRhymes "RhymedThenModel" (Cond.code yX12_areRhymes cX12_areRhymes 1 (some .boolean)) 1 (some .boolean)) {z : Int32} {M : mm_M} (hf : f_X12_areRhymes M = some z) {H : Heap} {locs : List Loc} (hw : wd_in rf_T D cy z0 ad u M X s H locs) {ls : Array Slot} (hl : lv_has ls 1 [(0, .ref (ad 0))]) : W p l e { frames := 3, cells := 0, slots := 0, locals := 68 } s m args below meth c H locs 0 0 (MQ below (cq_i rf_T D cy z0 ad u X z M) args s 0 0 (fun q => z0 ≤ q)) (F0 m 0 ls []) := by
  have hx := hC.1
  have hb := hC.2.1
  unfold f_X12_areRhymes at hf
  refine lv_aload_n hx hb dX12_areRhymes_0 rfl (lv_at hl 0 rfl) ?_
  obtain ⟨z1, ez1, hf⟩ := bd_e hf
  refine clc_Vi hC hw (c_X12_haveTails ez1) hd_X12_haveTails cw_X12_182 (Nat.le_of_ble_eq_true rfl) rfl rfl (rest := []) hl.1 rfl (Nat.le_of_ble_eq_true rfl) ⟨Nat.le_of_ble_eq_true rfl, Nat.le_of_ble_eq_true rfl⟩ ⟨Nat.zero_le _, Nat.zero_le _⟩ rfl dX12_areRhymes_1 (fun H locs hw => ?_)
  refine lv_if_eq (tgt := 18) hx hb dX12_areRhymes_4 (by decide) (fun c2 => ?_) (fun c2 => ?_)
  · rw [if_pos c2] at hf
    refine lv_iconst (v := 0) hx hb dX12_areRhymes_18 (by decide) ?_
    have hz := Option.some.inj hf
    subst hz
    exact rtc_z hC hw (Or.inl rfl) dX12_areRhymes_19
  · rw [if_neg c2] at hf
    refine lv_aload_n hx hb dX12_areRhymes_7 rfl (lv_at hl 0 rfl) ?_
    obtain ⟨z3, ez3, hf⟩ := bd_e hf
    refine clc_Vi hC hw (c_X12_areTailsAlike ez3) hd_X12_areTailsAlike cw_X12_186 (Nat.le_of_ble_eq_true rfl) rfl rfl (rest := []) hl.1 rfl (Nat.le_of_ble_eq_true rfl) ⟨Nat.le_of_ble_eq_true rfl, Nat.le_of_ble_eq_true rfl⟩ ⟨Nat.zero_le _, Nat.zero_le _⟩ rfl dX12_areRhymes_8 (fun H locs hw => ?_)
    refine lv_if_eq (tgt := 18) hx hb dX12_areRhymes_11 (by decide) (fun c4 => ?_) (fun c4 => ?_)
    · rw [if_pos c4] at hf
      refine lv_iconst (v := 0) hx hb dX12_areRhymes_18 (by decide) ?_
      have hz := Option.some.inj hf
      subst hz
      exact rtc_z hC hw (Or.inl rfl) dX12_areRhymes_19
    · rw [if_neg c4] at hf
      refine lv_iconst (v := 1) hx hb dX12_areRhymes_14 (by decide) ?_
      refine lv_goto (tgt := 19) hx hb dX12_areRhymes_15 (by decide) ?_
      have hz := Option.some.inj hf
      subst hz
      exact rtc_z hC hw (Or.inr rfl) dX12_areRhymes_19
set_option maxRecDepth 100000 in
theorem c_X12_areRhymes {l : Launch} {D : va_G} {cy : Nat → ClassId} {z0 : Nat} {ad : Nat → Nat} {u : Nat × Nat} {X : va_W} {z : Int32} {M : mm_M} (hf : f_X12_areRhymes M = some z) : ct_i rf_T l yX12_areRhymes (Cond.code yX12_areRhymes cX12_areRhymes 1 (some .boolean)) 3 68 D cy z0 ad u M X [.ref (ad 0)] z M := by
  refine bgc_i (by decide) (fun p e s m below meth c hC hw => ?_)
  refine en_t (Nat.le_of_ble_eq_true rfl) (fun ls hl => ?_)
  have hl : lv_has ls 1 [(0, .ref (ad 0))] := hl
  exact k_X12_areRhymes hC hf hw hl
set_option maxRecDepth 100000 in
set_option maxHeartbeats 4000000 in
theorem k_X12_isWord {p : Program} {l : Launch} {e : Env} {s : State} {m : MethodId} {args : Array Value} {below : List Frame} {meth : Method} {c : Code} {D : va_G} {cy : Nat → ClassId} {z0 : Nat} {ad : Nat → Nat} {X : va_W} {u : Nat × Nat} (hC : cx_C p s m args meth c cX12_isWord "RhymedThenModel" (Cond.code yX12_isWord cX12_isWord 2 (some .boolean)) 2 (some .boolean)) {z : Int32} {x1 : Int32} {M : mm_M} (hf : f_X12_isWord x1 M = z) {H : Heap} {locs : List Loc} (hw : wd_in rf_T D cy z0 ad u M X s H locs) {ls : Array Slot} (hl : lv_has ls 2 [(0, .ref (ad 0)), (1, .int x1)]) : W p l e { frames := 1, cells := 0, slots := 0, locals := 25 } s m args below meth c H locs 0 0 (MQ below (cq_i rf_T D cy z0 ad u X z M) args s 0 0 (fun q => z0 ≤ q)) (F0 m 0 ls []) := by
  have hx := hC.1
  have hb := hC.2.1
  unfold f_X12_isWord at hf
  refine lv_iload_n hx hb dX12_isWord_0 rfl (lv_at hl 1 rfl) ?_
  refine lv_i2l hx hb dX12_isWord_1 rfl ?_
  refine lv_lconst (v := 0) hx hb dX12_isWord_2 (by decide) ?_
  refine lv_aload_n hx hb dX12_isWord_3 rfl (lv_at hl 0 rfl) ?_
  refine rg_i hC hw 0 (Nat.le_of_ble_eq_true rfl) rfl fd_X12_8 wf_X12_75 dX12_isWord_4 ?_
  refine lv_iconst (v := 1) hx hb dX12_isWord_7 (by decide) ?_
  refine lv_isub hx hb dX12_isWord_8 ?_
  refine lv_i2l hx hb dX12_isWord_9 rfl ?_
  obtain ⟨z1, ez1, hf⟩ := sq_e hf
  refine clc_Si hC hw (c_X12_in ez1.symm) hd_X12_in cw_X12_29 (rest := []) hl.1 rfl (Nat.le_of_ble_eq_true rfl) ⟨Nat.le_of_ble_eq_true rfl, Nat.le_of_ble_eq_true rfl⟩ ⟨Nat.zero_le _, Nat.zero_le _⟩ rfl dX12_isWord_10 (fun H locs hw => ?_)
  subst hf
  exact rtc_z hC hw (bz_X12_in ez1.symm) dX12_isWord_13
set_option maxRecDepth 100000 in
theorem c_X12_isWord {l : Launch} {D : va_G} {cy : Nat → ClassId} {z0 : Nat} {ad : Nat → Nat} {u : Nat × Nat} {X : va_W} {z : Int32} {x1 : Int32} {M : mm_M} (hf : f_X12_isWord x1 M = z) : ct_i rf_T l yX12_isWord (Cond.code yX12_isWord cX12_isWord 2 (some .boolean)) 1 25 D cy z0 ad u M X [.ref (ad 0), .int x1] z M := by
  refine bgc_i (by decide) (fun p e s m below meth c hC hw => ?_)
  refine en_t (Nat.le_of_ble_eq_true rfl) (fun ls hl => ?_)
  have hl : lv_has ls 2 [(0, .ref (ad 0)), (1, .int x1)] := hl
  exact k_X12_isWord hC hf hw hl
set_option maxRecDepth 100000 in
set_option maxHeartbeats 4000000 in
theorem k_X12_isLaw {p : Program} {l : Launch} {e : Env} {s : State} {m : MethodId} {args : Array Value} {below : List Frame} {meth : Method} {c : Code} {D : va_G} {cy : Nat → ClassId} {z0 : Nat} {ad : Nat → Nat} {X : va_W} {u : Nat × Nat} (hC : cx_C p s m args meth c cX12_isLaw "RhymedThenModel" (Cond.code yX12_isLaw cX12_isLaw 2 (some .boolean)) 2 (some .boolean)) {z : Int32} {x1 : Int32} {M : mm_M} (hf : f_X12_isLaw x1 M = z) {H : Heap} {locs : List Loc} (hw : wd_in rf_T D cy z0 ad u M X s H locs) {ls : Array Slot} (hl : lv_has ls 2 [(0, .ref (ad 0)), (1, .int x1)]) : W p l e { frames := 1, cells := 0, slots := 0, locals := 25 } s m args below meth c H locs 0 0 (MQ below (cq_i rf_T D cy z0 ad u X z M) args s 0 0 (fun q => z0 ≤ q)) (F0 m 0 ls []) := by
  have hx := hC.1
  have hb := hC.2.1
  unfold f_X12_isLaw at hf
  refine lv_iload_n hx hb dX12_isLaw_0 rfl (lv_at hl 1 rfl) ?_
  refine lv_i2l hx hb dX12_isLaw_1 rfl ?_
  refine lv_lconst (v := 0) hx hb dX12_isLaw_2 (by decide) ?_
  refine lv_aload_n hx hb dX12_isLaw_3 rfl (lv_at hl 0 rfl) ?_
  refine rg_i hC hw 0 (Nat.le_of_ble_eq_true rfl) rfl fd_X12_11 wf_X12_99 dX12_isLaw_4 ?_
  refine lv_iconst (v := 1) hx hb dX12_isLaw_7 (by decide) ?_
  refine lv_isub hx hb dX12_isLaw_8 ?_
  refine lv_i2l hx hb dX12_isLaw_9 rfl ?_
  obtain ⟨z1, ez1, hf⟩ := sq_e hf
  refine clc_Si hC hw (c_X12_in ez1.symm) hd_X12_in cw_X12_29 (rest := []) hl.1 rfl (Nat.le_of_ble_eq_true rfl) ⟨Nat.le_of_ble_eq_true rfl, Nat.le_of_ble_eq_true rfl⟩ ⟨Nat.zero_le _, Nat.zero_le _⟩ rfl dX12_isLaw_10 (fun H locs hw => ?_)
  subst hf
  exact rtc_z hC hw (bz_X12_in ez1.symm) dX12_isLaw_13
set_option maxRecDepth 100000 in
theorem c_X12_isLaw {l : Launch} {D : va_G} {cy : Nat → ClassId} {z0 : Nat} {ad : Nat → Nat} {u : Nat × Nat} {X : va_W} {z : Int32} {x1 : Int32} {M : mm_M} (hf : f_X12_isLaw x1 M = z) : ct_i rf_T l yX12_isLaw (Cond.code yX12_isLaw cX12_isLaw 2 (some .boolean)) 1 25 D cy z0 ad u M X [.ref (ad 0), .int x1] z M := by
  refine bgc_i (by decide) (fun p e s m below meth c hC hw => ?_)
  refine en_t (Nat.le_of_ble_eq_true rfl) (fun ls hl => ?_)
  have hl : lv_has ls 2 [(0, .ref (ad 0)), (1, .int x1)] := hl
  exact k_X12_isLaw hC hf hw hl
set_option maxRecDepth 100000 in
set_option maxHeartbeats 4000000 in
theorem k_X12_isHistory {p : Program} {l : Launch} {e : Env} {s : State} {m : MethodId} {args : Array Value} {below : List Frame} {meth : Method} {c : Code} {D : va_G} {cy : Nat → ClassId} {z0 : Nat} {ad : Nat → Nat} {X : va_W} {u : Nat × Nat} (hC : cx_C p s m args meth c cX12_isHistory "RhymedThenModel" (Cond.code yX12_isHistory cX12_isHistory 2 (some .boolean)) 2 (some .boolean)) {z : Int32} {x1 : Int32} {M : mm_M} (hf : f_X12_isHistory x1 M = some z) {H : Heap} {locs : List Loc} (hw : wd_in rf_T D cy z0 ad u M X s H locs) {ls : Array Slot} (hl : lv_has ls 2 [(0, .ref (ad 0)), (1, .int x1)]) : W p l e { frames := 1, cells := 0, slots := 0, locals := 25 } s m args below meth c H locs 0 0 (MQ below (cq_i rf_T D cy z0 ad u X z M) args s 0 0 (fun q => z0 ≤ q)) (F0 m 0 ls []) := by
  have hx := hC.1
  have hb := hC.2.1
  unfold f_X12_isHistory at hf
  refine lv_iload_n hx hb dX12_isHistory_0 rfl (lv_at hl 1 rfl) ?_
  refine lv_i2l hx hb dX12_isHistory_1 rfl ?_
  refine lv_lconst (v := 0) hx hb dX12_isHistory_2 (by decide) ?_
  refine lv_aload_n hx hb dX12_isHistory_3 rfl (lv_at hl 0 rfl) ?_
  obtain ⟨z1, ez1, hf⟩ := bd_e hf
  refine clc_Vi hC hw (c_X12_histories ez1) hd_X12_histories cw_X12_107 (Nat.le_of_ble_eq_true rfl) rfl rfl (rest := [.long 0, .long (x1.toInt64)]) hl.1 rfl (Nat.le_of_ble_eq_true rfl) ⟨Nat.le_of_ble_eq_true rfl, Nat.le_of_ble_eq_true rfl⟩ ⟨Nat.zero_le _, Nat.zero_le _⟩ rfl dX12_isHistory_4 (fun H locs hw => ?_)
  refine lv_iconst (v := 1) hx hb dX12_isHistory_7 (by decide) ?_
  refine lv_isub hx hb dX12_isHistory_8 ?_
  refine lv_i2l hx hb dX12_isHistory_9 rfl ?_
  obtain ⟨z2, ez2, hf⟩ := sq_e hf
  refine clc_Si hC hw (c_X12_in ez2.symm) hd_X12_in cw_X12_29 (rest := []) hl.1 rfl (Nat.le_of_ble_eq_true rfl) ⟨Nat.le_of_ble_eq_true rfl, Nat.le_of_ble_eq_true rfl⟩ ⟨Nat.zero_le _, Nat.zero_le _⟩ rfl dX12_isHistory_10 (fun H locs hw => ?_)
  have hz := Option.some.inj hf
  subst hz
  exact rtc_z hC hw (bz_X12_in ez2.symm) dX12_isHistory_13
set_option maxRecDepth 100000 in
theorem c_X12_isHistory {l : Launch} {D : va_G} {cy : Nat → ClassId} {z0 : Nat} {ad : Nat → Nat} {u : Nat × Nat} {X : va_W} {z : Int32} {x1 : Int32} {M : mm_M} (hf : f_X12_isHistory x1 M = some z) : ct_i rf_T l yX12_isHistory (Cond.code yX12_isHistory cX12_isHistory 2 (some .boolean)) 1 25 D cy z0 ad u M X [.ref (ad 0), .int x1] z M := by
  refine bgc_i (by decide) (fun p e s m below meth c hC hw => ?_)
  refine en_t (Nat.le_of_ble_eq_true rfl) (fun ls hl => ?_)
  have hl : lv_has ls 2 [(0, .ref (ad 0)), (1, .int x1)] := hl
  exact k_X12_isHistory hC hf hw hl
set_option maxRecDepth 100000 in
set_option maxHeartbeats 4000000 in
theorem k_X12_isThen {p : Program} {l : Launch} {e : Env} {s : State} {m : MethodId} {args : Array Value} {below : List Frame} {meth : Method} {c : Code} {T : wd_T} {D : va_G} {cy : Nat → ClassId} {z0 : Nat} {ad : Nat → Nat} {X : va_W} {M : mm_M} {u : Nat × Nat} (hC : cx_C p s m args meth c cX12_isThen "RhymedThenModel" (Cond.code yX12_isThen cX12_isThen 2 (some .boolean)) 2 (some .boolean)) {z : Int32} {x0 : Int32} {x1 : Int32} (hf : f_X12_isThen x0 x1 = z) {H : Heap} {locs : List Loc} (hw : wd_in T D cy z0 ad u M X s H locs) {ls : Array Slot} (hl : lv_has ls 2 [(0, .int x0), (1, .int x1)]) : W p l e { frames := 1, cells := 0, slots := 0, locals := 25 } s m args below meth c H locs 0 0 (MQ below (cq_i T D cy z0 ad u X z M) args s 0 0 (fun q => z0 ≤ q)) (F0 m 0 ls []) := by
  have hx := hC.1
  have hb := hC.2.1
  unfold f_X12_isThen at hf
  refine lv_iload_n hx hb dX12_isThen_0 rfl (lv_at hl 0 rfl) ?_
  refine lv_i2l hx hb dX12_isThen_1 rfl ?_
  refine lv_lconst (v := 0) hx hb dX12_isThen_2 (by decide) ?_
  refine lv_ldc2 (v := 600) hx hb hC.2.2.2.1 (hC.t wk_X12_189) dX12_isThen_3 ?_
  obtain ⟨z1, ez1, hf⟩ := sq_e hf
  refine clc_Si hC hw (c_X12_in ez1.symm) hd_X12_in cw_X12_29 (rest := []) hl.1 rfl (Nat.le_of_ble_eq_true rfl) ⟨Nat.le_of_ble_eq_true rfl, Nat.le_of_ble_eq_true rfl⟩ ⟨Nat.zero_le _, Nat.zero_le _⟩ rfl dX12_isThen_6 (fun H locs hw => ?_)
  refine lv_if_eq (tgt := 28) hx hb dX12_isThen_9 (by decide) (fun c2 => ?_) (fun c2 => ?_)
  · rw [if_pos c2] at hf
    refine lv_iconst (v := 0) hx hb dX12_isThen_28 (by decide) ?_
    subst hf
    exact rtc_z hC hw (Or.inl rfl) dX12_isThen_29
  · rw [if_neg c2] at hf
    refine lv_iload_n hx hb dX12_isThen_12 rfl (lv_at hl 1 rfl) ?_
    refine lv_i2l hx hb dX12_isThen_13 rfl ?_
    refine lv_lconst (v := 0) hx hb dX12_isThen_14 (by decide) ?_
    refine lv_ldc2 (v := 5) hx hb hC.2.2.2.1 (hC.t wk_X12_62) dX12_isThen_15 ?_
    obtain ⟨z3, ez3, hf⟩ := sq_e hf
    refine clc_Si hC hw (c_X12_in ez3.symm) hd_X12_in cw_X12_29 (rest := []) hl.1 rfl (Nat.le_of_ble_eq_true rfl) ⟨Nat.le_of_ble_eq_true rfl, Nat.le_of_ble_eq_true rfl⟩ ⟨Nat.zero_le _, Nat.zero_le _⟩ rfl dX12_isThen_18 (fun H locs hw => ?_)
    refine lv_if_eq (tgt := 28) hx hb dX12_isThen_21 (by decide) (fun c4 => ?_) (fun c4 => ?_)
    · rw [if_pos c4] at hf
      refine lv_iconst (v := 0) hx hb dX12_isThen_28 (by decide) ?_
      subst hf
      exact rtc_z hC hw (Or.inl rfl) dX12_isThen_29
    · rw [if_neg c4] at hf
      refine lv_iconst (v := 1) hx hb dX12_isThen_24 (by decide) ?_
      refine lv_goto (tgt := 29) hx hb dX12_isThen_25 (by decide) ?_
      subst hf
      exact rtc_z hC hw (Or.inr rfl) dX12_isThen_29
set_option maxRecDepth 100000 in
theorem c_X12_isThen {l : Launch} {T : wd_T} {D : va_G} {cy : Nat → ClassId} {z0 : Nat} {ad : Nat → Nat} {u : Nat × Nat} {X : va_W} {z : Int32} {x0 : Int32} {x1 : Int32} {M : mm_M} (hf : f_X12_isThen x0 x1 = z) : ct_i T l yX12_isThen (Cond.code yX12_isThen cX12_isThen 2 (some .boolean)) 1 25 D cy z0 ad u M X [.int x0, .int x1] z M := by
  refine bgc_i (by decide) (fun p e s m below meth c hC hw => ?_)
  refine en_t (Nat.le_of_ble_eq_true rfl) (fun ls hl => ?_)
  have hl : lv_has ls 2 [(0, .int x0), (1, .int x1)] := hl
  exact k_X12_isThen hC hf hw hl
set_option maxRecDepth 100000 in
set_option maxHeartbeats 4000000 in
theorem k_X12_said_79 {p : Program} {l : Launch} {e : Env} {s : State} {m : MethodId} {args : Array Value} {below : List Frame} {meth : Method} {c : Code} {D : va_G} {cy : Nat → ClassId} {z0 : Nat} {ad : Nat → Nat} {X : va_W} {u : Nat × Nat} (hC : cx_C p s m args meth c cX12_said "RhymedThenModel" (Cond.code yX12_said cX12_said 6 (some .int)) 6 (some .int)) {z : (Int32 × mm_M)} {M : mm_M} (hf : f_X12_said_79 M = some z) {H : Heap} {locs : List Loc} (hw : wd_in rf_T D cy z0 ad u M X s H locs) {ls : Array Slot} (hl : lv_has ls 6 [(0, .ref (ad 0))]) : W p l e { frames := 5, cells := 0, slots := 0, locals := 121 } s m args below meth c H locs 0 0 (MQ below (cq_i rf_T D cy z0 ad u X z.1 z.2) args s 0 0 (fun q => z0 ≤ q)) (F0 m 79 ls []) := by
  have hx := hC.1
  have hb := hC.2.1
  unfold f_X12_said_79 at hf
  refine lv_aload_n hx hb dX12_said_79 rfl (lv_at hl 0 rfl) ?_
  refine rg_p hC hw 0 (Nat.le_of_ble_eq_true rfl) rfl fd_X12_21 wf_X12_155 (q := 15) rfl dX12_said_80 ?_
  refine lv_iconst (v := 0) hx hb dX12_said_83 (by decide) ?_
  refine ra_i hC hw 15 (Nat.le_of_ble_eq_true rfl) rfl (by decide) dX12_said_84 ?_
  have hz := Option.some.inj hf
  subst hz
  exact rtc_i hC hw dX12_said_85
set_option maxRecDepth 100000 in
set_option maxHeartbeats 4000000 in
theorem k_X12_said_50 {p : Program} {l : Launch} {e : Env} {s : State} {m : MethodId} {args : Array Value} {below : List Frame} {meth : Method} {c : Code} {D : va_G} {cy : Nat → ClassId} {z0 : Nat} {ad : Nat → Nat} {X : va_W} {u : Nat × Nat} (hC : cx_C p s m args meth c cX12_said "RhymedThenModel" (Cond.code yX12_said cX12_said 6 (some .int)) 6 (some .int)) {z : (Int32 × mm_M)} {x5 : Int32} {M : mm_M} {q50 : Int32 → mm_M → Option (Int32 × mm_M)} (hq50 : ∀ (x5 : Int32) (M : mm_M) (H : Heap) (locs : List Loc) (ls : Array Slot), q50 x5 M = some z → wd_in rf_T D cy z0 ad u M X s H locs → lv_has ls 6 [(0, .ref (ad 0)), (5, .int x5)] → W p l e { frames := 5, cells := 0, slots := 0, locals := 121 } s m args below meth c H locs 0 0 (MQ below (cq_i rf_T D cy z0 ad u X z.1 z.2) args s 0 0 (fun q => z0 ≤ q)) (F0 m 50 ls [])) (hf : f_X12_said_50 q50 x5 M = some z) {H : Heap} {locs : List Loc} (hw : wd_in rf_T D cy z0 ad u M X s H locs) {ls : Array Slot} (hl : lv_has ls 6 [(0, .ref (ad 0)), (5, .int x5)]) : W p l e { frames := 5, cells := 0, slots := 0, locals := 121 } s m args below meth c H locs 0 0 (MQ below (cq_i rf_T D cy z0 ad u X z.1 z.2) args s 0 0 (fun q => z0 ≤ q)) (F0 m 50 ls []) := by
  have hx := hC.1
  have hb := hC.2.1
  unfold f_X12_said_50 at hf
  refine lv_iload hx hb dX12_said_50 (lv_at hl 1 rfl) ?_
  refine lv_aload_n hx hb dX12_said_52 rfl (lv_at hl 0 rfl) ?_
  refine rg_p hC hw 0 (Nat.le_of_ble_eq_true rfl) rfl fd_X12_21 wf_X12_155 (q := 15) rfl dX12_said_53 ?_
  refine lv_iconst (v := 0) hx hb dX12_said_56 (by decide) ?_
  refine ra_i hC hw 15 (Nat.le_of_ble_eq_true rfl) rfl (by decide) dX12_said_57 ?_
  refine lv_icmp_ge (tgt := 79) hx hb dX12_said_58 (by decide) (fun c10 => ?_) (fun c10 => ?_)
  · rw [if_pos c10] at hf
    exact k_X12_said_79 hC hf hw (lv_sub hl [0] rfl)
  · rw [if_neg c10] at hf
    refine lv_aload_n hx hb dX12_said_61 rfl (lv_at hl 0 rfl) ?_
    refine lv_aload_n hx hb dX12_said_62 rfl (lv_at hl 0 rfl) ?_
    refine rg_p hC hw 0 (Nat.le_of_ble_eq_true rfl) rfl fd_X12_20 wf_X12_158 (q := 14) rfl dX12_said_63 ?_
    refine lv_iload hx hb dX12_said_66 (lv_at hl 1 rfl) ?_
    obtain ⟨h11, hf⟩ := ck_e hf
    refine ra_i hC hw 14 (Nat.le_of_ble_eq_true rfl) rfl h11 dX12_said_68 ?_
    refine lv_i2l hx hb dX12_said_69 rfl ?_
    obtain ⟨z12, ez12, hf⟩ := bd_e hf
    refine clc_Vv hC hw (c_X12_enters ez12) hd_X12_enters cw_X12_18 (Nat.le_of_ble_eq_true rfl) rfl rfl (rest := []) hl.1 rfl (Nat.le_of_ble_eq_true rfl) ⟨Nat.le_of_ble_eq_true rfl, Nat.le_of_ble_eq_true rfl⟩ ⟨Nat.zero_le _, Nat.zero_le _⟩ rfl dX12_said_70 (fun H locs hw => ?_)
    obtain ⟨y13, ey13, hf⟩ := sq_e hf
    refine lv_iinc (v := y13) (lv' := [(5, .int y13), (0, .ref (ad 0))]) hx hb dX12_said_73 hl (k := 1) rfl (by rw [ey13]; rfl) (by decide) rfl (fun ls hl => ?_)
    refine lv_goto (tgt := 50) hx hb dX12_said_76 (by decide) ?_
    exact hq50 _ _ _ _ _ hf hw (lv_sub hl [1, 0] rfl)
set_option maxRecDepth 100000 in
set_option maxHeartbeats 4000000 in
theorem k_X12_said_50l {p : Program} {l : Launch} {e : Env} {s : State} {m : MethodId} {args : Array Value} {below : List Frame} {meth : Method} {c : Code} {D : va_G} {cy : Nat → ClassId} {z0 : Nat} {ad : Nat → Nat} {X : va_W} {u : Nat × Nat} (hC : cx_C p s m args meth c cX12_said "RhymedThenModel" (Cond.code yX12_said cX12_said 6 (some .int)) 6 (some .int)) {z : (Int32 × mm_M)} : ∀ (n : Nat) (x5 : Int32) (M : mm_M) (H : Heap) (locs : List Loc) (ls : Array Slot), f_X12_said_50l n x5 M = some z → wd_in rf_T D cy z0 ad u M X s H locs → lv_has ls 6 [(0, .ref (ad 0)), (5, .int x5)] → W p l e { frames := 5, cells := 0, slots := 0, locals := 121 } s m args below meth c H locs 0 0 (MQ below (cq_i rf_T D cy z0 ad u X z.1 z.2) args s 0 0 (fun q => z0 ≤ q)) (F0 m 50 ls []) := by
  intro n
  induction n with
  | zero => intro x5 M H locs ls hf; exact absurd hf (by simp [f_X12_said_50l])
  | succ n ih => intro x5 M H locs ls hf hw hl; exact k_X12_said_50 hC ih hf hw hl
set_option maxRecDepth 100000 in
set_option maxHeartbeats 4000000 in
theorem k_X12_said {p : Program} {l : Launch} {e : Env} {s : State} {m : MethodId} {args : Array Value} {below : List Frame} {meth : Method} {c : Code} {D : va_G} {cy : Nat → ClassId} {z0 : Nat} {ad : Nat → Nat} {X : va_W} {u : Nat × Nat} (hC : cx_C p s m args meth c cX12_said "RhymedThenModel" (Cond.code yX12_said cX12_said 6 (some .int)) 6 (some .int)) {z : (Int32 × mm_M)} {x1 : Int32} {x2 : Int32} {x3 : Int32} {x4 : Int32} {M : mm_M} (hf : f_X12_said x1 x2 x3 x4 M = some z) {H : Heap} {locs : List Loc} (hw : wd_in rf_T D cy z0 ad u M X s H locs) {ls : Array Slot} (hl : lv_has ls 6 [(0, .ref (ad 0)), (1, .int x1), (2, .int x2), (3, .int x3), (4, .int x4)]) : W p l e { frames := 5, cells := 0, slots := 0, locals := 121 } s m args below meth c H locs 0 0 (MQ below (cq_i rf_T D cy z0 ad u X z.1 z.2) args s 0 0 (fun q => z0 ≤ q)) (F0 m 0 ls []) := by
  have hx := hC.1
  have hb := hC.2.1
  unfold f_X12_said at hf
  refine lv_aload_n hx hb dX12_said_0 rfl (lv_at hl 0 rfl) ?_
  refine lv_iconst (v := 0) hx hb dX12_said_1 (by decide) ?_
  obtain ⟨M1, eM1, hf⟩ := sq_e hf
  refine rp_i hC hw 0 (Nat.le_of_ble_eq_true rfl) rfl fd_X12_0 wf_X12_1 fp_X12_0 rfl rfl dX12_said_2 eM1 (fun H locs hw => ?_)
  refine lv_aload_n hx hb dX12_said_5 rfl (lv_at hl 0 rfl) ?_
  refine lv_iload_n hx hb dX12_said_6 rfl (lv_at hl 1 rfl) ?_
  obtain ⟨z2, ez2, hf⟩ := sq_e hf
  refine clc_Vi hC hw (c_X12_isWord ez2.symm) hd_X12_isWord cw_X12_191 (Nat.le_of_ble_eq_true rfl) rfl rfl (rest := []) hl.1 rfl (Nat.le_of_ble_eq_true rfl) ⟨Nat.le_of_ble_eq_true rfl, Nat.le_of_ble_eq_true rfl⟩ ⟨Nat.zero_le _, Nat.zero_le _⟩ rfl dX12_said_7 (fun H locs hw => ?_)
  refine lv_if_eq (tgt := 30) hx hb dX12_said_10 (by decide) (fun c3 => ?_) (fun c3 => ?_)
  · rw [if_pos c3] at hf
    refine lv_iconst (v := (-1)) hx hb dX12_said_30 (by decide) ?_
    have hz := Option.some.inj hf
    subst hz
    exact rtc_i hC hw dX12_said_31
  · rw [if_neg c3] at hf
    refine lv_aload_n hx hb dX12_said_13 rfl (lv_at hl 0 rfl) ?_
    refine lv_iload_n hx hb dX12_said_14 rfl (lv_at hl 2 rfl) ?_
    obtain ⟨z4, ez4, hf⟩ := bd_e hf
    refine clc_Vi hC hw (c_X12_isHistory ez4) hd_X12_isHistory cw_X12_194 (Nat.le_of_ble_eq_true rfl) rfl rfl (rest := []) hl.1 rfl (Nat.le_of_ble_eq_true rfl) ⟨Nat.le_of_ble_eq_true rfl, Nat.le_of_ble_eq_true rfl⟩ ⟨Nat.zero_le _, Nat.zero_le _⟩ rfl dX12_said_15 (fun H locs hw => ?_)
    refine lv_if_eq (tgt := 30) hx hb dX12_said_18 (by decide) (fun c5 => ?_) (fun c5 => ?_)
    · rw [if_pos c5] at hf
      refine lv_iconst (v := (-1)) hx hb dX12_said_30 (by decide) ?_
      have hz := Option.some.inj hf
      subst hz
      exact rtc_i hC hw dX12_said_31
    · rw [if_neg c5] at hf
      refine lv_iload_n hx hb dX12_said_21 rfl (lv_at hl 3 rfl) ?_
      refine lv_iload hx hb dX12_said_22 (lv_at hl 4 rfl) ?_
      obtain ⟨z6, ez6, hf⟩ := sq_e hf
      refine clc_Si hC hw (c_X12_isThen ez6.symm) hd_X12_isThen cw_X12_197 (rest := []) hl.1 rfl (Nat.le_of_ble_eq_true rfl) ⟨Nat.le_of_ble_eq_true rfl, Nat.le_of_ble_eq_true rfl⟩ ⟨Nat.zero_le _, Nat.zero_le _⟩ rfl dX12_said_24 (fun H locs hw => ?_)
      refine lv_if_ne (tgt := 32) hx hb dX12_said_27 (by decide) (fun c7 => ?_) (fun c7 => ?_)
      · rw [if_neg c7] at hf
        refine lv_aload_n hx hb dX12_said_32 rfl (lv_at hl 0 rfl) ?_
        refine lv_iconst (v := 0) hx hb dX12_said_33 (by decide) ?_
        refine lv_iload_n hx hb dX12_said_34 rfl (lv_at hl 1 rfl) ?_
        refine lv_iload_n hx hb dX12_said_35 rfl (lv_at hl 2 rfl) ?_
        refine lv_iload_n hx hb dX12_said_36 rfl (lv_at hl 3 rfl) ?_
        refine lv_iload hx hb dX12_said_37 (lv_at hl 4 rfl) ?_
        obtain ⟨z8, ez8, hf⟩ := bd_e hf
        refine clc_Vv hC hw (c_X12_says ez8) hd_X12_says cw_X12_200 (Nat.le_of_ble_eq_true rfl) rfl rfl (rest := []) hl.1 rfl (Nat.le_of_ble_eq_true rfl) ⟨Nat.le_of_ble_eq_true rfl, Nat.le_of_ble_eq_true rfl⟩ ⟨Nat.zero_le _, Nat.zero_le _⟩ rfl dX12_said_39 (fun H locs hw => ?_)
        refine lv_aload_n hx hb dX12_said_42 rfl (lv_at hl 0 rfl) ?_
        refine lv_iconst (v := 0) hx hb dX12_said_43 (by decide) ?_
        obtain ⟨M9, eM9, hf⟩ := sq_e hf
        refine rp_i hC hw 0 (Nat.le_of_ble_eq_true rfl) rfl fd_X12_1 wf_X12_11 fp_X12_1 rfl rfl dX12_said_44 eM9 (fun H locs hw => ?_)
        refine lv_iconst (v := 0) hx hb dX12_said_47 (by decide) ?_
        refine lv_istore (lv' := [(5, .int 0), (0, .ref (ad 0)), (1, .int x1), (2, .int x2), (3, .int x3), (4, .int x4)]) hx hb dX12_said_48 hl (by decide) rfl (fun ls hl => ?_)
        exact k_X12_said_50l hC fu_ _ _ _ _ _ hf hw (lv_sub hl [1, 0] rfl)
      · rw [if_pos c7] at hf
        refine lv_iconst (v := (-1)) hx hb dX12_said_30 (by decide) ?_
        have hz := Option.some.inj hf
        subst hz
        exact rtc_i hC hw dX12_said_31
set_option maxRecDepth 100000 in
theorem c_X12_said {l : Launch} {D : va_G} {cy : Nat → ClassId} {z0 : Nat} {ad : Nat → Nat} {u : Nat × Nat} {X : va_W} {z : (Int32 × mm_M)} {x1 : Int32} {x2 : Int32} {x3 : Int32} {x4 : Int32} {M : mm_M} (hf : f_X12_said x1 x2 x3 x4 M = some z) : ct_i rf_T l yX12_said (Cond.code yX12_said cX12_said 6 (some .int)) 5 121 D cy z0 ad u M X [.ref (ad 0), .int x1, .int x2, .int x3, .int x4] z.1 z.2 := by
  refine bgc_i (by decide) (fun p e s m below meth c hC hw => ?_)
  refine en_t (Nat.le_of_ble_eq_true rfl) (fun ls hl => ?_)
  have hl : lv_has ls 6 [(0, .ref (ad 0)), (1, .int x1), (2, .int x2), (3, .int x3), (4, .int x4)] := hl
  exact k_X12_said hC hf hw hl
set_option maxRecDepth 100000 in
set_option maxHeartbeats 4000000 in
theorem k_X12_changes_97 {p : Program} {l : Launch} {e : Env} {s : State} {m : MethodId} {args : Array Value} {below : List Frame} {meth : Method} {c : Code} {D : va_G} {cy : Nat → ClassId} {z0 : Nat} {ad : Nat → Nat} {X : va_W} {u : Nat × Nat} (hC : cx_C p s m args meth c cX12_changes "RhymedThenModel" (Cond.code yX12_changes cX12_changes 5 (some .int)) 5 (some .int)) {z : (Int32 × mm_M)} {x1 : Int32} {x2 : Int32} {x3 : Int32} {x4 : Int32} {M : mm_M} {q39 : Int32 → Int32 → Int32 → Int32 → mm_M → Option (Int32 × mm_M)} (hq39 : ∀ (x1 : Int32) (x2 : Int32) (x3 : Int32) (x4 : Int32) (M : mm_M) (H : Heap) (locs : List Loc) (ls : Array Slot), q39 x1 x2 x3 x4 M = some z → wd_in rf_T D cy z0 ad u M X s H locs → lv_has ls 5 [(0, .ref (ad 0)), (1, .int x1), (2, .int x2), (3, .int x3), (4, .int x4)] → W p l e { frames := 5, cells := 0, slots := 0, locals := 121 } s m args below meth c H locs 0 0 (MQ below (cq_i rf_T D cy z0 ad u X z.1 z.2) args s 0 0 (fun q => z0 ≤ q)) (F0 m 39 ls [])) (hf : f_X12_changes_97 q39 x1 x2 x3 x4 M = some z) {H : Heap} {locs : List Loc} (hw : wd_in rf_T D cy z0 ad u M X s H locs) {ls : Array Slot} (hl : lv_has ls 5 [(0, .ref (ad 0)), (1, .int x1), (2, .int x2), (3, .int x3), (4, .int x4)]) : W p l e { frames := 5, cells := 0, slots := 0, locals := 121 } s m args below meth c H locs 0 0 (MQ below (cq_i rf_T D cy z0 ad u X z.1 z.2) args s 0 0 (fun q => z0 ≤ q)) (F0 m 97 ls []) := by
  have hx := hC.1
  have hb := hC.2.1
  unfold f_X12_changes_97 at hf
  obtain ⟨y17, ey17, hf⟩ := sq_e hf
  refine lv_iinc (v := y17) (lv' := [(4, .int y17), (0, .ref (ad 0)), (1, .int x1), (2, .int x2), (3, .int x3)]) hx hb dX12_changes_97 hl (k := 4) rfl (by rw [ey17]; rfl) (by decide) rfl (fun ls hl => ?_)
  refine lv_goto (tgt := 39) hx hb dX12_changes_100 (by decide) ?_
  exact hq39 _ _ _ _ _ _ _ _ hf hw (lv_sub hl [1, 2, 3, 4, 0] rfl)
set_option maxRecDepth 100000 in
set_option maxHeartbeats 4000000 in
theorem k_X12_changes_83 {p : Program} {l : Launch} {e : Env} {s : State} {m : MethodId} {args : Array Value} {below : List Frame} {meth : Method} {c : Code} {D : va_G} {cy : Nat → ClassId} {z0 : Nat} {ad : Nat → Nat} {X : va_W} {u : Nat × Nat} (hC : cx_C p s m args meth c cX12_changes "RhymedThenModel" (Cond.code yX12_changes cX12_changes 5 (some .int)) 5 (some .int)) {z : (Int32 × mm_M)} {x1 : Int32} {x2 : Int32} {x3 : Int32} {x4 : Int32} {M : mm_M} {q39 : Int32 → Int32 → Int32 → Int32 → mm_M → Option (Int32 × mm_M)} (hq39 : ∀ (x1 : Int32) (x2 : Int32) (x3 : Int32) (x4 : Int32) (M : mm_M) (H : Heap) (locs : List Loc) (ls : Array Slot), q39 x1 x2 x3 x4 M = some z → wd_in rf_T D cy z0 ad u M X s H locs → lv_has ls 5 [(0, .ref (ad 0)), (1, .int x1), (2, .int x2), (3, .int x3), (4, .int x4)] → W p l e { frames := 5, cells := 0, slots := 0, locals := 121 } s m args below meth c H locs 0 0 (MQ below (cq_i rf_T D cy z0 ad u X z.1 z.2) args s 0 0 (fun q => z0 ≤ q)) (F0 m 39 ls [])) (hf : f_X12_changes_83 q39 x1 x2 x3 x4 M = some z) {H : Heap} {locs : List Loc} (hw : wd_in rf_T D cy z0 ad u M X s H locs) {ls : Array Slot} (hl : lv_has ls 5 [(0, .ref (ad 0)), (1, .int x1), (2, .int x2), (3, .int x3), (4, .int x4)]) : W p l e { frames := 5, cells := 0, slots := 0, locals := 121 } s m args below meth c H locs 0 0 (MQ below (cq_i rf_T D cy z0 ad u X z.1 z.2) args s 0 0 (fun q => z0 ≤ q)) (F0 m 83 ls []) := by
  have hx := hC.1
  have hb := hC.2.1
  unfold f_X12_changes_83 at hf
  refine lv_aload_n hx hb dX12_changes_83 rfl (lv_at hl 0 rfl) ?_
  obtain ⟨z14, ez14, hf⟩ := bd_e hf
  refine clc_Vi hC hw (c_X12_areAlike ez14) hd_X12_areAlike cw_X12_204 (Nat.le_of_ble_eq_true rfl) rfl rfl (rest := []) hl.1 rfl (Nat.le_of_ble_eq_true rfl) ⟨Nat.le_of_ble_eq_true rfl, Nat.le_of_ble_eq_true rfl⟩ ⟨Nat.zero_le _, Nat.zero_le _⟩ rfl dX12_changes_84 (fun H locs hw => ?_)
  refine lv_if_ne (tgt := 97) hx hb dX12_changes_87 (by decide) (fun c15 => ?_) (fun c15 => ?_)
  · rw [if_neg c15] at hf
    exact k_X12_changes_97 hC hq39 hf hw (lv_sub hl [0, 1, 2, 3, 4] rfl)
  · rw [if_pos c15] at hf
    refine lv_aload_n hx hb dX12_changes_90 rfl (lv_at hl 0 rfl) ?_
    refine lv_iload hx hb dX12_changes_91 (lv_at hl 4 rfl) ?_
    refine lv_i2l hx hb dX12_changes_93 rfl ?_
    obtain ⟨z16, ez16, hf⟩ := bd_e hf
    refine clc_Vv hC hw (c_X12_enters ez16) hd_X12_enters cw_X12_18 (Nat.le_of_ble_eq_true rfl) rfl rfl (rest := []) hl.1 rfl (Nat.le_of_ble_eq_true rfl) ⟨Nat.le_of_ble_eq_true rfl, Nat.le_of_ble_eq_true rfl⟩ ⟨Nat.zero_le _, Nat.zero_le _⟩ rfl dX12_changes_94 (fun H locs hw => ?_)
    exact k_X12_changes_97 hC hq39 hf hw (lv_sub hl [0, 1, 2, 3, 4] rfl)
set_option maxRecDepth 100000 in
set_option maxHeartbeats 4000000 in
theorem k_X12_changes_103 {p : Program} {l : Launch} {e : Env} {s : State} {m : MethodId} {args : Array Value} {below : List Frame} {meth : Method} {c : Code} {D : va_G} {cy : Nat → ClassId} {z0 : Nat} {ad : Nat → Nat} {X : va_W} {u : Nat × Nat} (hC : cx_C p s m args meth c cX12_changes "RhymedThenModel" (Cond.code yX12_changes cX12_changes 5 (some .int)) 5 (some .int)) {z : (Int32 × mm_M)} {M : mm_M} (hf : f_X12_changes_103 M = some z) {H : Heap} {locs : List Loc} (hw : wd_in rf_T D cy z0 ad u M X s H locs) {ls : Array Slot} (hl : lv_has ls 5 [(0, .ref (ad 0))]) : W p l e { frames := 5, cells := 0, slots := 0, locals := 121 } s m args below meth c H locs 0 0 (MQ below (cq_i rf_T D cy z0 ad u X z.1 z.2) args s 0 0 (fun q => z0 ≤ q)) (F0 m 103 ls []) := by
  have hx := hC.1
  have hb := hC.2.1
  unfold f_X12_changes_103 at hf
  refine lv_aload_n hx hb dX12_changes_103 rfl (lv_at hl 0 rfl) ?_
  refine rg_i hC hw 0 (Nat.le_of_ble_eq_true rfl) rfl fd_X12_1 wf_X12_11 dX12_changes_104 ?_
  have hz := Option.some.inj hf
  subst hz
  exact rtc_i hC hw dX12_changes_107
set_option maxRecDepth 100000 in
set_option maxHeartbeats 4000000 in
theorem k_X12_changes_39 {p : Program} {l : Launch} {e : Env} {s : State} {m : MethodId} {args : Array Value} {below : List Frame} {meth : Method} {c : Code} {D : va_G} {cy : Nat → ClassId} {z0 : Nat} {ad : Nat → Nat} {X : va_W} {u : Nat × Nat} (hC : cx_C p s m args meth c cX12_changes "RhymedThenModel" (Cond.code yX12_changes cX12_changes 5 (some .int)) 5 (some .int)) {z : (Int32 × mm_M)} {x1 : Int32} {x2 : Int32} {x3 : Int32} {x4 : Int32} {M : mm_M} {q39 : Int32 → Int32 → Int32 → Int32 → mm_M → Option (Int32 × mm_M)} (hq39 : ∀ (x1 : Int32) (x2 : Int32) (x3 : Int32) (x4 : Int32) (M : mm_M) (H : Heap) (locs : List Loc) (ls : Array Slot), q39 x1 x2 x3 x4 M = some z → wd_in rf_T D cy z0 ad u M X s H locs → lv_has ls 5 [(0, .ref (ad 0)), (1, .int x1), (2, .int x2), (3, .int x3), (4, .int x4)] → W p l e { frames := 5, cells := 0, slots := 0, locals := 121 } s m args below meth c H locs 0 0 (MQ below (cq_i rf_T D cy z0 ad u X z.1 z.2) args s 0 0 (fun q => z0 ≤ q)) (F0 m 39 ls [])) (hf : f_X12_changes_39 q39 x1 x2 x3 x4 M = some z) {H : Heap} {locs : List Loc} (hw : wd_in rf_T D cy z0 ad u M X s H locs) {ls : Array Slot} (hl : lv_has ls 5 [(0, .ref (ad 0)), (1, .int x1), (2, .int x2), (3, .int x3), (4, .int x4)]) : W p l e { frames := 5, cells := 0, slots := 0, locals := 121 } s m args below meth c H locs 0 0 (MQ below (cq_i rf_T D cy z0 ad u X z.1 z.2) args s 0 0 (fun q => z0 ≤ q)) (F0 m 39 ls []) := by
  have hx := hC.1
  have hb := hC.2.1
  unfold f_X12_changes_39 at hf
  refine lv_iload hx hb dX12_changes_39 (lv_at hl 4 rfl) ?_
  refine lv_sipush (v := 600) hx hb dX12_changes_41 (by decide) ?_
  refine lv_icmp_gt (tgt := 103) hx hb dX12_changes_44 (by decide) (fun c9 => ?_) (fun c9 => ?_)
  · rw [if_pos c9] at hf
    exact k_X12_changes_103 hC hf hw (lv_sub hl [0] rfl)
  · rw [if_neg c9] at hf
    refine lv_aload_n hx hb dX12_changes_47 rfl (lv_at hl 0 rfl) ?_
    refine lv_iconst (v := 0) hx hb dX12_changes_48 (by decide) ?_
    refine lv_iload_n hx hb dX12_changes_49 rfl (lv_at hl 1 rfl) ?_
    refine lv_iload_n hx hb dX12_changes_50 rfl (lv_at hl 2 rfl) ?_
    refine lv_iload hx hb dX12_changes_51 (lv_at hl 4 rfl) ?_
    refine lv_iload_n hx hb dX12_changes_53 rfl (lv_at hl 3 rfl) ?_
    obtain ⟨z10, ez10, hf⟩ := bd_e hf
    refine clc_Vv hC hw (c_X12_says ez10) hd_X12_says cw_X12_200 (Nat.le_of_ble_eq_true rfl) rfl rfl (rest := []) hl.1 rfl (Nat.le_of_ble_eq_true rfl) ⟨Nat.le_of_ble_eq_true rfl, Nat.le_of_ble_eq_true rfl⟩ ⟨Nat.zero_le _, Nat.zero_le _⟩ rfl dX12_changes_54 (fun H locs hw => ?_)
    refine lv_iload hx hb dX12_changes_57 (lv_at hl 4 rfl) ?_
    refine lv_if_ne (tgt := 71) hx hb dX12_changes_59 (by decide) (fun c11 => ?_) (fun c11 => ?_)
    · rw [if_neg c11] at hf
      refine lv_aload_n hx hb dX12_changes_71 rfl (lv_at hl 0 rfl) ?_
      refine lv_iconst (v := 1) hx hb dX12_changes_72 (by decide) ?_
      refine lv_iload_n hx hb dX12_changes_73 rfl (lv_at hl 1 rfl) ?_
      refine lv_iload_n hx hb dX12_changes_74 rfl (lv_at hl 2 rfl) ?_
      refine lv_iload hx hb dX12_changes_75 (lv_at hl 4 rfl) ?_
      refine lv_iconst (v := 1) hx hb dX12_changes_77 (by decide) ?_
      refine lv_isub hx hb dX12_changes_78 ?_
      refine lv_iload_n hx hb dX12_changes_79 rfl (lv_at hl 3 rfl) ?_
      obtain ⟨z12, ez12, hf⟩ := bd_e hf
      refine clc_Vv hC hw (c_X12_says ez12) hd_X12_says cw_X12_200 (Nat.le_of_ble_eq_true rfl) rfl rfl (rest := []) hl.1 rfl (Nat.le_of_ble_eq_true rfl) ⟨Nat.le_of_ble_eq_true rfl, Nat.le_of_ble_eq_true rfl⟩ ⟨Nat.zero_le _, Nat.zero_le _⟩ rfl dX12_changes_80 (fun H locs hw => ?_)
      exact k_X12_changes_83 hC hq39 hf hw (lv_sub hl [0, 1, 2, 3, 4] rfl)
    · rw [if_pos c11] at hf
      refine lv_aload_n hx hb dX12_changes_62 rfl (lv_at hl 0 rfl) ?_
      refine lv_iconst (v := 1) hx hb dX12_changes_63 (by decide) ?_
      refine lv_iload_n hx hb dX12_changes_64 rfl (lv_at hl 1 rfl) ?_
      obtain ⟨z13, ez13, hf⟩ := bd_e hf
      refine clc_Vv hC hw (c_X12_spells ez13) hd_X12_spells cw_X12_167 (Nat.le_of_ble_eq_true rfl) rfl rfl (rest := []) hl.1 rfl (Nat.le_of_ble_eq_true rfl) ⟨Nat.le_of_ble_eq_true rfl, Nat.le_of_ble_eq_true rfl⟩ ⟨Nat.zero_le _, Nat.zero_le _⟩ rfl dX12_changes_65 (fun H locs hw => ?_)
      refine lv_goto (tgt := 83) hx hb dX12_changes_68 (by decide) ?_
      exact k_X12_changes_83 hC hq39 hf hw (lv_sub hl [0, 1, 2, 3, 4] rfl)
set_option maxRecDepth 100000 in
set_option maxHeartbeats 4000000 in
theorem k_X12_changes_39l {p : Program} {l : Launch} {e : Env} {s : State} {m : MethodId} {args : Array Value} {below : List Frame} {meth : Method} {c : Code} {D : va_G} {cy : Nat → ClassId} {z0 : Nat} {ad : Nat → Nat} {X : va_W} {u : Nat × Nat} (hC : cx_C p s m args meth c cX12_changes "RhymedThenModel" (Cond.code yX12_changes cX12_changes 5 (some .int)) 5 (some .int)) {z : (Int32 × mm_M)} : ∀ (n : Nat) (x1 : Int32) (x2 : Int32) (x3 : Int32) (x4 : Int32) (M : mm_M) (H : Heap) (locs : List Loc) (ls : Array Slot), f_X12_changes_39l n x1 x2 x3 x4 M = some z → wd_in rf_T D cy z0 ad u M X s H locs → lv_has ls 5 [(0, .ref (ad 0)), (1, .int x1), (2, .int x2), (3, .int x3), (4, .int x4)] → W p l e { frames := 5, cells := 0, slots := 0, locals := 121 } s m args below meth c H locs 0 0 (MQ below (cq_i rf_T D cy z0 ad u X z.1 z.2) args s 0 0 (fun q => z0 ≤ q)) (F0 m 39 ls []) := by
  intro n
  induction n with
  | zero => intro x1 x2 x3 x4 M H locs ls hf; exact absurd hf (by simp [f_X12_changes_39l])
  | succ n ih => intro x1 x2 x3 x4 M H locs ls hf hw hl; exact k_X12_changes_39 hC ih hf hw hl
set_option maxRecDepth 100000 in
set_option maxHeartbeats 4000000 in
theorem k_X12_changes {p : Program} {l : Launch} {e : Env} {s : State} {m : MethodId} {args : Array Value} {below : List Frame} {meth : Method} {c : Code} {D : va_G} {cy : Nat → ClassId} {z0 : Nat} {ad : Nat → Nat} {X : va_W} {u : Nat × Nat} (hC : cx_C p s m args meth c cX12_changes "RhymedThenModel" (Cond.code yX12_changes cX12_changes 5 (some .int)) 5 (some .int)) {z : (Int32 × mm_M)} {x1 : Int32} {x2 : Int32} {x3 : Int32} {M : mm_M} (hf : f_X12_changes x1 x2 x3 M = some z) {H : Heap} {locs : List Loc} (hw : wd_in rf_T D cy z0 ad u M X s H locs) {ls : Array Slot} (hl : lv_has ls 5 [(0, .ref (ad 0)), (1, .int x1), (2, .int x2), (3, .int x3)]) : W p l e { frames := 5, cells := 0, slots := 0, locals := 121 } s m args below meth c H locs 0 0 (MQ below (cq_i rf_T D cy z0 ad u X z.1 z.2) args s 0 0 (fun q => z0 ≤ q)) (F0 m 0 ls []) := by
  have hx := hC.1
  have hb := hC.2.1
  unfold f_X12_changes at hf
  refine lv_aload_n hx hb dX12_changes_0 rfl (lv_at hl 0 rfl) ?_
  refine lv_iconst (v := 0) hx hb dX12_changes_1 (by decide) ?_
  obtain ⟨M1, eM1, hf⟩ := sq_e hf
  refine rp_i hC hw 0 (Nat.le_of_ble_eq_true rfl) rfl fd_X12_0 wf_X12_1 fp_X12_0 rfl rfl dX12_changes_2 eM1 (fun H locs hw => ?_)
  refine lv_aload_n hx hb dX12_changes_5 rfl (lv_at hl 0 rfl) ?_
  refine lv_iload_n hx hb dX12_changes_6 rfl (lv_at hl 1 rfl) ?_
  obtain ⟨z2, ez2, hf⟩ := sq_e hf
  refine clc_Vi hC hw (c_X12_isWord ez2.symm) hd_X12_isWord cw_X12_191 (Nat.le_of_ble_eq_true rfl) rfl rfl (rest := []) hl.1 rfl (Nat.le_of_ble_eq_true rfl) ⟨Nat.le_of_ble_eq_true rfl, Nat.le_of_ble_eq_true rfl⟩ ⟨Nat.zero_le _, Nat.zero_le _⟩ rfl dX12_changes_7 (fun H locs hw => ?_)
  refine lv_if_eq (tgt := 29) hx hb dX12_changes_10 (by decide) (fun c3 => ?_) (fun c3 => ?_)
  · rw [if_pos c3] at hf
    refine lv_iconst (v := (-1)) hx hb dX12_changes_29 (by decide) ?_
    have hz := Option.some.inj hf
    subst hz
    exact rtc_i hC hw dX12_changes_30
  · rw [if_neg c3] at hf
    refine lv_aload_n hx hb dX12_changes_13 rfl (lv_at hl 0 rfl) ?_
    refine lv_iload_n hx hb dX12_changes_14 rfl (lv_at hl 2 rfl) ?_
    obtain ⟨z4, ez4, hf⟩ := bd_e hf
    refine clc_Vi hC hw (c_X12_isHistory ez4) hd_X12_isHistory cw_X12_194 (Nat.le_of_ble_eq_true rfl) rfl rfl (rest := []) hl.1 rfl (Nat.le_of_ble_eq_true rfl) ⟨Nat.le_of_ble_eq_true rfl, Nat.le_of_ble_eq_true rfl⟩ ⟨Nat.zero_le _, Nat.zero_le _⟩ rfl dX12_changes_15 (fun H locs hw => ?_)
    refine lv_if_eq (tgt := 29) hx hb dX12_changes_18 (by decide) (fun c5 => ?_) (fun c5 => ?_)
    · rw [if_pos c5] at hf
      refine lv_iconst (v := (-1)) hx hb dX12_changes_29 (by decide) ?_
      have hz := Option.some.inj hf
      subst hz
      exact rtc_i hC hw dX12_changes_30
    · rw [if_neg c5] at hf
      refine lv_iconst (v := 0) hx hb dX12_changes_21 (by decide) ?_
      refine lv_iload_n hx hb dX12_changes_22 rfl (lv_at hl 3 rfl) ?_
      obtain ⟨z6, ez6, hf⟩ := sq_e hf
      refine clc_Si hC hw (c_X12_isThen ez6.symm) hd_X12_isThen cw_X12_197 (rest := []) hl.1 rfl (Nat.le_of_ble_eq_true rfl) ⟨Nat.le_of_ble_eq_true rfl, Nat.le_of_ble_eq_true rfl⟩ ⟨Nat.zero_le _, Nat.zero_le _⟩ rfl dX12_changes_23 (fun H locs hw => ?_)
      refine lv_if_ne (tgt := 31) hx hb dX12_changes_26 (by decide) (fun c7 => ?_) (fun c7 => ?_)
      · rw [if_neg c7] at hf
        refine lv_aload_n hx hb dX12_changes_31 rfl (lv_at hl 0 rfl) ?_
        refine lv_iconst (v := 0) hx hb dX12_changes_32 (by decide) ?_
        obtain ⟨M8, eM8, hf⟩ := sq_e hf
        refine rp_i hC hw 0 (Nat.le_of_ble_eq_true rfl) rfl fd_X12_1 wf_X12_11 fp_X12_1 rfl rfl dX12_changes_33 eM8 (fun H locs hw => ?_)
        refine lv_iconst (v := 0) hx hb dX12_changes_36 (by decide) ?_
        refine lv_istore (lv' := [(4, .int 0), (0, .ref (ad 0)), (1, .int x1), (2, .int x2), (3, .int x3)]) hx hb dX12_changes_37 hl (by decide) rfl (fun ls hl => ?_)
        exact k_X12_changes_39l hC fu_ _ _ _ _ _ _ _ _ hf hw (lv_sub hl [1, 2, 3, 4, 0] rfl)
      · rw [if_pos c7] at hf
        refine lv_iconst (v := (-1)) hx hb dX12_changes_29 (by decide) ?_
        have hz := Option.some.inj hf
        subst hz
        exact rtc_i hC hw dX12_changes_30
set_option maxRecDepth 100000 in
theorem c_X12_changes {l : Launch} {D : va_G} {cy : Nat → ClassId} {z0 : Nat} {ad : Nat → Nat} {u : Nat × Nat} {X : va_W} {z : (Int32 × mm_M)} {x1 : Int32} {x2 : Int32} {x3 : Int32} {M : mm_M} (hf : f_X12_changes x1 x2 x3 M = some z) : ct_i rf_T l yX12_changes (Cond.code yX12_changes cX12_changes 5 (some .int)) 5 121 D cy z0 ad u M X [.ref (ad 0), .int x1, .int x2, .int x3] z.1 z.2 := by
  refine bgc_i (by decide) (fun p e s m below meth c hC hw => ?_)
  refine en_t (Nat.le_of_ble_eq_true rfl) (fun ls hl => ?_)
  have hl : lv_has ls 5 [(0, .ref (ad 0)), (1, .int x1), (2, .int x2), (3, .int x3)] := hl
  exact k_X12_changes hC hf hw hl
set_option maxRecDepth 100000 in
set_option maxHeartbeats 4000000 in
theorem k_X12_saysBoth {p : Program} {l : Launch} {e : Env} {s : State} {m : MethodId} {args : Array Value} {below : List Frame} {meth : Method} {c : Code} {D : va_G} {cy : Nat → ClassId} {z0 : Nat} {ad : Nat → Nat} {X : va_W} {u : Nat × Nat} (hC : cx_C p s m args meth c cX12_saysBoth "RhymedThenModel" (Cond.code yX12_saysBoth cX12_saysBoth 6 none) 6 none) {z : mm_M} {x1 : Int32} {x2 : Int32} {x3 : Int32} {x4 : Int32} {x5 : Int32} {M : mm_M} (hf : f_X12_saysBoth x1 x2 x3 x4 x5 M = some z) {H : Heap} {locs : List Loc} (hw : wd_in rf_T D cy z0 ad u M X s H locs) {ls : Array Slot} (hl : lv_has ls 6 [(0, .ref (ad 0)), (1, .int x1), (2, .int x2), (3, .int x3), (4, .int x4), (5, .int x5)]) : W p l e { frames := 5, cells := 0, slots := 0, locals := 121 } s m args below meth c H locs 0 0 (MQ below (cq_v rf_T D cy z0 ad u X z) args s 0 0 (fun q => z0 ≤ q)) (F0 m 0 ls []) := by
  have hx := hC.1
  have hb := hC.2.1
  unfold f_X12_saysBoth at hf
  refine lv_aload_n hx hb dX12_saysBoth_0 rfl (lv_at hl 0 rfl) ?_
  refine lv_iconst (v := 0) hx hb dX12_saysBoth_1 (by decide) ?_
  refine lv_iload_n hx hb dX12_saysBoth_2 rfl (lv_at hl 1 rfl) ?_
  refine lv_iload_n hx hb dX12_saysBoth_3 rfl (lv_at hl 3 rfl) ?_
  refine lv_iload hx hb dX12_saysBoth_4 (lv_at hl 4 rfl) ?_
  refine lv_iload hx hb dX12_saysBoth_6 (lv_at hl 5 rfl) ?_
  obtain ⟨z1, ez1, hf⟩ := bd_e hf
  refine clc_Vv hC hw (c_X12_says ez1) hd_X12_says cw_X12_200 (Nat.le_of_ble_eq_true rfl) rfl rfl (rest := []) hl.1 rfl (Nat.le_of_ble_eq_true rfl) ⟨Nat.le_of_ble_eq_true rfl, Nat.le_of_ble_eq_true rfl⟩ ⟨Nat.zero_le _, Nat.zero_le _⟩ rfl dX12_saysBoth_8 (fun H locs hw => ?_)
  refine lv_aload_n hx hb dX12_saysBoth_11 rfl (lv_at hl 0 rfl) ?_
  refine lv_iconst (v := 1) hx hb dX12_saysBoth_12 (by decide) ?_
  refine lv_iload_n hx hb dX12_saysBoth_13 rfl (lv_at hl 2 rfl) ?_
  refine lv_iload_n hx hb dX12_saysBoth_14 rfl (lv_at hl 3 rfl) ?_
  refine lv_iload hx hb dX12_saysBoth_15 (lv_at hl 4 rfl) ?_
  refine lv_iload hx hb dX12_saysBoth_17 (lv_at hl 5 rfl) ?_
  obtain ⟨z2, ez2, hf⟩ := bd_e hf
  refine clc_Vv hC hw (c_X12_says ez2) hd_X12_says cw_X12_200 (Nat.le_of_ble_eq_true rfl) rfl rfl (rest := []) hl.1 rfl (Nat.le_of_ble_eq_true rfl) ⟨Nat.le_of_ble_eq_true rfl, Nat.le_of_ble_eq_true rfl⟩ ⟨Nat.zero_le _, Nat.zero_le _⟩ rfl dX12_saysBoth_19 (fun H locs hw => ?_)
  have hz := Option.some.inj hf
  subst hz
  exact rtc_v hC hw dX12_saysBoth_22
set_option maxRecDepth 100000 in
theorem c_X12_saysBoth {l : Launch} {D : va_G} {cy : Nat → ClassId} {z0 : Nat} {ad : Nat → Nat} {u : Nat × Nat} {X : va_W} {z : mm_M} {x1 : Int32} {x2 : Int32} {x3 : Int32} {x4 : Int32} {x5 : Int32} {M : mm_M} (hf : f_X12_saysBoth x1 x2 x3 x4 x5 M = some z) : ct_v rf_T l yX12_saysBoth (Cond.code yX12_saysBoth cX12_saysBoth 6 none) 5 121 D cy z0 ad u M X [.ref (ad 0), .int x1, .int x2, .int x3, .int x4, .int x5] z := by
  refine bgc_v (by decide) (fun p e s m below meth c hC hw => ?_)
  refine en_t (Nat.le_of_ble_eq_true rfl) (fun ls hl => ?_)
  have hl : lv_has ls 6 [(0, .ref (ad 0)), (1, .int x1), (2, .int x2), (3, .int x3), (4, .int x4), (5, .int x5)] := hl
  exact k_X12_saysBoth hC hf hw hl
set_option maxRecDepth 100000 in
set_option maxHeartbeats 4000000 in
theorem k_X12_alike {p : Program} {l : Launch} {e : Env} {s : State} {m : MethodId} {args : Array Value} {below : List Frame} {meth : Method} {c : Code} {D : va_G} {cy : Nat → ClassId} {z0 : Nat} {ad : Nat → Nat} {X : va_W} {u : Nat × Nat} (hC : cx_C p s m args meth c cX12_alike "RhymedThenModel" (Cond.code yX12_alike cX12_alike 6 (some .int)) 6 (some .int)) {z : (Int32 × mm_M)} {x1 : Int32} {x2 : Int32} {x3 : Int32} {x4 : Int32} {x5 : Int32} {M : mm_M} (hf : f_X12_alike x1 x2 x3 x4 x5 M = some z) {H : Heap} {locs : List Loc} (hw : wd_in rf_T D cy z0 ad u M X s H locs) {ls : Array Slot} (hl : lv_has ls 6 [(0, .ref (ad 0)), (1, .int x1), (2, .int x2), (3, .int x3), (4, .int x4), (5, .int x5)]) : W p l e { frames := 6, cells := 0, slots := 0, locals := 146 } s m args below meth c H locs 0 0 (MQ below (cq_i rf_T D cy z0 ad u X z.1 z.2) args s 0 0 (fun q => z0 ≤ q)) (F0 m 0 ls []) := by
  have hx := hC.1
  have hb := hC.2.1
  unfold f_X12_alike at hf
  refine lv_aload_n hx hb dX12_alike_0 rfl (lv_at hl 0 rfl) ?_
  refine lv_iconst (v := 0) hx hb dX12_alike_1 (by decide) ?_
  obtain ⟨M1, eM1, hf⟩ := sq_e hf
  refine rp_i hC hw 0 (Nat.le_of_ble_eq_true rfl) rfl fd_X12_0 wf_X12_1 fp_X12_0 rfl rfl dX12_alike_2 eM1 (fun H locs hw => ?_)
  refine lv_aload_n hx hb dX12_alike_5 rfl (lv_at hl 0 rfl) ?_
  refine lv_iload_n hx hb dX12_alike_6 rfl (lv_at hl 1 rfl) ?_
  obtain ⟨z2, ez2, hf⟩ := sq_e hf
  refine clc_Vi hC hw (c_X12_isWord ez2.symm) hd_X12_isWord cw_X12_191 (Nat.le_of_ble_eq_true rfl) rfl rfl (rest := []) hl.1 rfl (Nat.le_of_ble_eq_true rfl) ⟨Nat.le_of_ble_eq_true rfl, Nat.le_of_ble_eq_true rfl⟩ ⟨Nat.zero_le _, Nat.zero_le _⟩ rfl dX12_alike_7 (fun H locs hw => ?_)
  refine lv_if_eq (tgt := 39) hx hb dX12_alike_10 (by decide) (fun c3 => ?_) (fun c3 => ?_)
  · rw [if_pos c3] at hf
    refine lv_iconst (v := (-1)) hx hb dX12_alike_39 (by decide) ?_
    have hz := Option.some.inj hf
    subst hz
    exact rtc_i hC hw dX12_alike_40
  · rw [if_neg c3] at hf
    refine lv_aload_n hx hb dX12_alike_13 rfl (lv_at hl 0 rfl) ?_
    refine lv_iload_n hx hb dX12_alike_14 rfl (lv_at hl 2 rfl) ?_
    obtain ⟨z4, ez4, hf⟩ := sq_e hf
    refine clc_Vi hC hw (c_X12_isWord ez4.symm) hd_X12_isWord cw_X12_191 (Nat.le_of_ble_eq_true rfl) rfl rfl (rest := []) hl.1 rfl (Nat.le_of_ble_eq_true rfl) ⟨Nat.le_of_ble_eq_true rfl, Nat.le_of_ble_eq_true rfl⟩ ⟨Nat.zero_le _, Nat.zero_le _⟩ rfl dX12_alike_15 (fun H locs hw => ?_)
    refine lv_if_eq (tgt := 39) hx hb dX12_alike_18 (by decide) (fun c5 => ?_) (fun c5 => ?_)
    · rw [if_pos c5] at hf
      refine lv_iconst (v := (-1)) hx hb dX12_alike_39 (by decide) ?_
      have hz := Option.some.inj hf
      subst hz
      exact rtc_i hC hw dX12_alike_40
    · rw [if_neg c5] at hf
      refine lv_aload_n hx hb dX12_alike_21 rfl (lv_at hl 0 rfl) ?_
      refine lv_iload_n hx hb dX12_alike_22 rfl (lv_at hl 3 rfl) ?_
      obtain ⟨z6, ez6, hf⟩ := bd_e hf
      refine clc_Vi hC hw (c_X12_isHistory ez6) hd_X12_isHistory cw_X12_194 (Nat.le_of_ble_eq_true rfl) rfl rfl (rest := []) hl.1 rfl (Nat.le_of_ble_eq_true rfl) ⟨Nat.le_of_ble_eq_true rfl, Nat.le_of_ble_eq_true rfl⟩ ⟨Nat.zero_le _, Nat.zero_le _⟩ rfl dX12_alike_23 (fun H locs hw => ?_)
      refine lv_if_eq (tgt := 39) hx hb dX12_alike_26 (by decide) (fun c7 => ?_) (fun c7 => ?_)
      · rw [if_pos c7] at hf
        refine lv_iconst (v := (-1)) hx hb dX12_alike_39 (by decide) ?_
        have hz := Option.some.inj hf
        subst hz
        exact rtc_i hC hw dX12_alike_40
      · rw [if_neg c7] at hf
        refine lv_iload hx hb dX12_alike_29 (lv_at hl 4 rfl) ?_
        refine lv_iload hx hb dX12_alike_31 (lv_at hl 5 rfl) ?_
        obtain ⟨z8, ez8, hf⟩ := sq_e hf
        refine clc_Si hC hw (c_X12_isThen ez8.symm) hd_X12_isThen cw_X12_197 (rest := []) hl.1 rfl (Nat.le_of_ble_eq_true rfl) ⟨Nat.le_of_ble_eq_true rfl, Nat.le_of_ble_eq_true rfl⟩ ⟨Nat.zero_le _, Nat.zero_le _⟩ rfl dX12_alike_33 (fun H locs hw => ?_)
        refine lv_if_ne (tgt := 41) hx hb dX12_alike_36 (by decide) (fun c9 => ?_) (fun c9 => ?_)
        · rw [if_neg c9] at hf
          refine lv_aload_n hx hb dX12_alike_41 rfl (lv_at hl 0 rfl) ?_
          refine lv_iload_n hx hb dX12_alike_42 rfl (lv_at hl 1 rfl) ?_
          refine lv_iload_n hx hb dX12_alike_43 rfl (lv_at hl 2 rfl) ?_
          refine lv_iload_n hx hb dX12_alike_44 rfl (lv_at hl 3 rfl) ?_
          refine lv_iload hx hb dX12_alike_45 (lv_at hl 4 rfl) ?_
          refine lv_iload hx hb dX12_alike_47 (lv_at hl 5 rfl) ?_
          obtain ⟨z10, ez10, hf⟩ := bd_e hf
          refine clc_Vv hC hw (c_X12_saysBoth ez10) hd_X12_saysBoth cw_X12_207 (Nat.le_of_ble_eq_true rfl) rfl rfl (rest := []) hl.1 rfl (Nat.le_of_ble_eq_true rfl) ⟨Nat.le_of_ble_eq_true rfl, Nat.le_of_ble_eq_true rfl⟩ ⟨Nat.zero_le _, Nat.zero_le _⟩ rfl dX12_alike_49 (fun H locs hw => ?_)
          refine lv_aload_n hx hb dX12_alike_52 rfl (lv_at hl 0 rfl) ?_
          obtain ⟨z11, ez11, hf⟩ := bd_e hf
          refine clc_Vi hC hw (c_X12_areAlike ez11) hd_X12_areAlike cw_X12_204 (Nat.le_of_ble_eq_true rfl) rfl rfl (rest := []) hl.1 rfl (Nat.le_of_ble_eq_true rfl) ⟨Nat.le_of_ble_eq_true rfl, Nat.le_of_ble_eq_true rfl⟩ ⟨Nat.zero_le _, Nat.zero_le _⟩ rfl dX12_alike_53 (fun H locs hw => ?_)
          refine lv_if_eq (tgt := 63) hx hb dX12_alike_56 (by decide) (fun c12 => ?_) (fun c12 => ?_)
          · rw [if_pos c12] at hf
            refine lv_aload_n hx hb dX12_alike_63 rfl (lv_at hl 0 rfl) ?_
            obtain ⟨z13, ez13, hf⟩ := bd_e hf
            refine clc_Vi hC hw (c_X12_areRhymes ez13) hd_X12_areRhymes cw_X12_210 (Nat.le_of_ble_eq_true rfl) rfl rfl (rest := []) hl.1 rfl (Nat.le_of_ble_eq_true rfl) ⟨Nat.le_of_ble_eq_true rfl, Nat.le_of_ble_eq_true rfl⟩ ⟨Nat.zero_le _, Nat.zero_le _⟩ rfl dX12_alike_64 (fun H locs hw => ?_)
            obtain ⟨z14, ez14, hf⟩ := sq_e hf
            refine clc_Si hC hw (c_X12_truth ez14.symm) hd_X12_truth cw_X12_39 (rest := []) hl.1 rfl (Nat.le_of_ble_eq_true rfl) ⟨Nat.le_of_ble_eq_true rfl, Nat.le_of_ble_eq_true rfl⟩ ⟨Nat.zero_le _, Nat.zero_le _⟩ rfl dX12_alike_67 (fun H locs hw => ?_)
            have hz := Option.some.inj hf
            subst hz
            exact rtc_i hC hw dX12_alike_70
          · rw [if_neg c12] at hf
            refine lv_iconst (v := 2) hx hb dX12_alike_59 (by decide) ?_
            refine lv_goto (tgt := 70) hx hb dX12_alike_60 (by decide) ?_
            have hz := Option.some.inj hf
            subst hz
            exact rtc_i hC hw dX12_alike_70
        · rw [if_pos c9] at hf
          refine lv_iconst (v := (-1)) hx hb dX12_alike_39 (by decide) ?_
          have hz := Option.some.inj hf
          subst hz
          exact rtc_i hC hw dX12_alike_40
set_option maxRecDepth 100000 in
theorem c_X12_alike {l : Launch} {D : va_G} {cy : Nat → ClassId} {z0 : Nat} {ad : Nat → Nat} {u : Nat × Nat} {X : va_W} {z : (Int32 × mm_M)} {x1 : Int32} {x2 : Int32} {x3 : Int32} {x4 : Int32} {x5 : Int32} {M : mm_M} (hf : f_X12_alike x1 x2 x3 x4 x5 M = some z) : ct_i rf_T l yX12_alike (Cond.code yX12_alike cX12_alike 6 (some .int)) 6 146 D cy z0 ad u M X [.ref (ad 0), .int x1, .int x2, .int x3, .int x4, .int x5] z.1 z.2 := by
  refine bgc_i (by decide) (fun p e s m below meth c hC hw => ?_)
  refine en_t (Nat.le_of_ble_eq_true rfl) (fun ls hl => ?_)
  have hl : lv_has ls 6 [(0, .ref (ad 0)), (1, .int x1), (2, .int x2), (3, .int x3), (4, .int x4), (5, .int x5)] := hl
  exact k_X12_alike hC hf hw hl
set_option maxRecDepth 100000 in
set_option maxHeartbeats 4000000 in
theorem k_X12_one_147 {p : Program} {l : Launch} {e : Env} {s : State} {m : MethodId} {args : Array Value} {below : List Frame} {meth : Method} {c : Code} {D : va_G} {cy : Nat → ClassId} {z0 : Nat} {ad : Nat → Nat} {X : va_W} {u : Nat × Nat} (hC : cx_C p s m args meth c cX12_one "RhymedThenModel" (Cond.code yX12_one cX12_one 9 (some .int)) 9 (some .int)) {z : (Int32 × mm_M)} {x1 : Int32} {x2 : Int32} {x3 : Int32} {x4 : Int32} {x5 : Int32} {x7 : Int32} {x8 : Int32} {M : mm_M} {q54 : Int32 → Int32 → Int32 → Int32 → Int32 → Int32 → Int32 → mm_M → Option (Int32 × mm_M)} (hq54 : ∀ (x1 : Int32) (x2 : Int32) (x3 : Int32) (x4 : Int32) (x5 : Int32) (x6 : Int32) (x7 : Int32) (M : mm_M) (H : Heap) (locs : List Loc) (ls : Array Slot), q54 x1 x2 x3 x4 x5 x6 x7 M = some z → wd_in rf_T D cy z0 ad u M X s H locs → lv_has ls 9 [(0, .ref (ad 0)), (1, .int x1), (2, .int x2), (3, .int x3), (4, .int x4), (5, .int x5), (6, .int x6), (7, .int x7)] → W p l e { frames := 6, cells := 0, slots := 0, locals := 146 } s m args below meth c H locs 0 0 (MQ below (cq_i rf_T D cy z0 ad u X z.1 z.2) args s 0 0 (fun q => z0 ≤ q)) (F0 m 54 ls [])) (hf : f_X12_one_147 q54 x1 x2 x3 x4 x5 x7 x8 M = some z) {H : Heap} {locs : List Loc} (hw : wd_in rf_T D cy z0 ad u M X s H locs) {ls : Array Slot} (hl : lv_has ls 9 [(0, .ref (ad 0)), (1, .int x1), (2, .int x2), (3, .int x3), (4, .int x4), (5, .int x5), (7, .int x7), (8, .int x8)]) : W p l e { frames := 6, cells := 0, slots := 0, locals := 146 } s m args below meth c H locs 0 0 (MQ below (cq_i rf_T D cy z0 ad u X z.1 z.2) args s 0 0 (fun q => z0 ≤ q)) (F0 m 147 ls []) := by
  have hx := hC.1
  have hb := hC.2.1
  unfold f_X12_one_147 at hf
  refine lv_iload hx hb dX12_one_147 (lv_at hl 7 rfl) ?_
  refine lv_istore (lv' := [(6, .int x8), (0, .ref (ad 0)), (1, .int x1), (2, .int x2), (3, .int x3), (4, .int x4), (5, .int x5), (7, .int x7), (8, .int x8)]) hx hb dX12_one_149 hl (by decide) rfl (fun ls hl => ?_)
  obtain ⟨y22, ey22, hf⟩ := sq_e hf
  refine lv_iinc (v := y22) (lv' := [(7, .int y22), (6, .int x8), (0, .ref (ad 0)), (1, .int x1), (2, .int x2), (3, .int x3), (4, .int x4), (5, .int x5), (8, .int x8)]) hx hb dX12_one_151 hl (k := 7) rfl (by rw [ey22]; rfl) (by decide) rfl (fun ls hl => ?_)
  refine lv_goto (tgt := 54) hx hb dX12_one_154 (by decide) ?_
  exact hq54 _ _ _ _ _ _ _ _ _ _ _ hf hw (lv_sub hl [2, 3, 4, 5, 6, 7, 1, 0] rfl)
set_option maxRecDepth 100000 in
set_option maxHeartbeats 4000000 in
theorem k_X12_one_144 {p : Program} {l : Launch} {e : Env} {s : State} {m : MethodId} {args : Array Value} {below : List Frame} {meth : Method} {c : Code} {D : va_G} {cy : Nat → ClassId} {z0 : Nat} {ad : Nat → Nat} {X : va_W} {u : Nat × Nat} (hC : cx_C p s m args meth c cX12_one "RhymedThenModel" (Cond.code yX12_one cX12_one 9 (some .int)) 9 (some .int)) {z : (Int32 × mm_M)} {x1 : Int32} {x2 : Int32} {x3 : Int32} {x4 : Int32} {x5 : Int32} {x7 : Int32} {x8 : Int32} {t1 : Int64} {M : mm_M} {q54 : Int32 → Int32 → Int32 → Int32 → Int32 → Int32 → Int32 → mm_M → Option (Int32 × mm_M)} (hq54 : ∀ (x1 : Int32) (x2 : Int32) (x3 : Int32) (x4 : Int32) (x5 : Int32) (x6 : Int32) (x7 : Int32) (M : mm_M) (H : Heap) (locs : List Loc) (ls : Array Slot), q54 x1 x2 x3 x4 x5 x6 x7 M = some z → wd_in rf_T D cy z0 ad u M X s H locs → lv_has ls 9 [(0, .ref (ad 0)), (1, .int x1), (2, .int x2), (3, .int x3), (4, .int x4), (5, .int x5), (6, .int x6), (7, .int x7)] → W p l e { frames := 6, cells := 0, slots := 0, locals := 146 } s m args below meth c H locs 0 0 (MQ below (cq_i rf_T D cy z0 ad u X z.1 z.2) args s 0 0 (fun q => z0 ≤ q)) (F0 m 54 ls [])) (hf : f_X12_one_144 q54 x1 x2 x3 x4 x5 x7 x8 t1 M = some z) {H : Heap} {locs : List Loc} (hw : wd_in rf_T D cy z0 ad u M X s H locs) {ls : Array Slot} (hl : lv_has ls 9 [(0, .ref (ad 0)), (1, .int x1), (2, .int x2), (3, .int x3), (4, .int x4), (5, .int x5), (7, .int x7), (8, .int x8)]) : W p l e { frames := 6, cells := 0, slots := 0, locals := 146 } s m args below meth c H locs 0 0 (MQ below (cq_i rf_T D cy z0 ad u X z.1 z.2) args s 0 0 (fun q => z0 ≤ q)) (F0 m 144 ls [.long t1, .ref (ad 0)]) := by
  have hx := hC.1
  have hb := hC.2.1
  unfold f_X12_one_144 at hf
  obtain ⟨z23, ez23, hf⟩ := bd_e hf
  refine clc_Vv hC hw (c_X12_enters ez23) hd_X12_enters cw_X12_18 (Nat.le_of_ble_eq_true rfl) rfl rfl (rest := []) hl.1 rfl (Nat.le_of_ble_eq_true rfl) ⟨Nat.le_of_ble_eq_true rfl, Nat.le_of_ble_eq_true rfl⟩ ⟨Nat.zero_le _, Nat.zero_le _⟩ rfl dX12_one_144 (fun H locs hw => ?_)
  exact k_X12_one_147 hC hq54 hf hw (lv_sub hl [0, 1, 2, 3, 4, 5, 6, 7] rfl)
set_option maxRecDepth 100000 in
set_option maxHeartbeats 4000000 in
theorem k_X12_one_107 {p : Program} {l : Launch} {e : Env} {s : State} {m : MethodId} {args : Array Value} {below : List Frame} {meth : Method} {c : Code} {D : va_G} {cy : Nat → ClassId} {z0 : Nat} {ad : Nat → Nat} {X : va_W} {u : Nat × Nat} (hC : cx_C p s m args meth c cX12_one "RhymedThenModel" (Cond.code yX12_one cX12_one 9 (some .int)) 9 (some .int)) {z : (Int32 × mm_M)} {x1 : Int32} {x2 : Int32} {x3 : Int32} {x4 : Int32} {x6 : Int32} {x7 : Int32} {x8 : Int32} {t0 : Int32} {t1 : Int32} {M : mm_M} {q54 : Int32 → Int32 → Int32 → Int32 → Int32 → Int32 → Int32 → mm_M → Option (Int32 × mm_M)} (hq54 : ∀ (x1 : Int32) (x2 : Int32) (x3 : Int32) (x4 : Int32) (x5 : Int32) (x6 : Int32) (x7 : Int32) (M : mm_M) (H : Heap) (locs : List Loc) (ls : Array Slot), q54 x1 x2 x3 x4 x5 x6 x7 M = some z → wd_in rf_T D cy z0 ad u M X s H locs → lv_has ls 9 [(0, .ref (ad 0)), (1, .int x1), (2, .int x2), (3, .int x3), (4, .int x4), (5, .int x5), (6, .int x6), (7, .int x7)] → W p l e { frames := 6, cells := 0, slots := 0, locals := 146 } s m args below meth c H locs 0 0 (MQ below (cq_i rf_T D cy z0 ad u X z.1 z.2) args s 0 0 (fun q => z0 ≤ q)) (F0 m 54 ls [])) (hf : f_X12_one_107 q54 x1 x2 x3 x4 x6 x7 x8 t0 t1 M = some z) {H : Heap} {locs : List Loc} (hw : wd_in rf_T D cy z0 ad u M X s H locs) {ls : Array Slot} (hl : lv_has ls 9 [(0, .ref (ad 0)), (1, .int x1), (2, .int x2), (3, .int x3), (4, .int x4), (6, .int x6), (7, .int x7), (8, .int x8)]) : W p l e { frames := 6, cells := 0, slots := 0, locals := 146 } s m args below meth c H locs 0 0 (MQ below (cq_i rf_T D cy z0 ad u X z.1 z.2) args s 0 0 (fun q => z0 ≤ q)) (F0 m 107 ls [.int t1, .int t0]) := by
  have hx := hC.1
  have hb := hC.2.1
  unfold f_X12_one_107 at hf
  obtain ⟨z17, ez17, hf⟩ := sq_e hf
  refine clc_Si hC hw (c_X12_truth ez17.symm) hd_X12_truth cw_X12_39 (rest := [.int t0]) hl.1 rfl (Nat.le_of_ble_eq_true rfl) ⟨Nat.le_of_ble_eq_true rfl, Nat.le_of_ble_eq_true rfl⟩ ⟨Nat.zero_le _, Nat.zero_le _⟩ rfl dX12_one_107 (fun H locs hw => ?_)
  refine lv_iadd hx hb dX12_one_110 ?_
  obtain ⟨y18, ey18, hf⟩ := sq_e hf
  refine lt_i ey18 ?_
  refine lv_istore (lv' := [(5, .int y18), (0, .ref (ad 0)), (1, .int x1), (2, .int x2), (3, .int x3), (4, .int x4), (6, .int x6), (7, .int x7), (8, .int x8)]) hx hb dX12_one_111 hl (by decide) rfl (fun ls hl => ?_)
  refine lv_iload hx hb dX12_one_113 (lv_at hl 8 rfl) ?_
  refine lv_iload hx hb dX12_one_115 (lv_at hl 6 rfl) ?_
  refine lv_icmp_eq (tgt := 147) hx hb dX12_one_117 (by decide) (fun c19 => ?_) (fun c19 => ?_)
  · rw [if_pos c19] at hf
    exact k_X12_one_147 hC hq54 hf hw (lv_sub hl [1, 2, 3, 4, 5, 0, 7, 8] rfl)
  · rw [if_neg c19] at hf
    refine lv_iload hx hb dX12_one_120 (lv_at hl 0 rfl) ?_
    refine lv_bipush (v := 12) hx hb dX12_one_122 (by decide) ?_
    refine lv_icmp_gt (tgt := 147) hx hb dX12_one_124 (by decide) (fun c20 => ?_) (fun c20 => ?_)
    · rw [if_pos c20] at hf
      exact k_X12_one_147 hC hq54 hf hw (lv_sub hl [1, 2, 3, 4, 5, 0, 7, 8] rfl)
    · rw [if_neg c20] at hf
      refine lv_aload_n hx hb dX12_one_127 rfl (lv_at hl 1 rfl) ?_
      refine lv_iload hx hb dX12_one_128 (lv_at hl 8 rfl) ?_
      refine lv_if_eq (tgt := 139) hx hb dX12_one_130 (by decide) (fun c21 => ?_) (fun c21 => ?_)
      · rw [if_pos c21] at hf
        refine lv_iload hx hb dX12_one_139 (lv_at hl 7 rfl) ?_
        refine lv_iconst (v := 1) hx hb dX12_one_141 (by decide) ?_
        refine lv_isub hx hb dX12_one_142 ?_
        refine lv_i2l hx hb dX12_one_143 rfl ?_
        exact k_X12_one_144 hC hq54 hf hw (lv_sub hl [1, 2, 3, 4, 5, 0, 7, 8] rfl)
      · rw [if_neg c21] at hf
        refine lv_iload hx hb dX12_one_133 (lv_at hl 7 rfl) ?_
        refine lv_i2l hx hb dX12_one_135 rfl ?_
        refine lv_goto (tgt := 144) hx hb dX12_one_136 (by decide) ?_
        exact k_X12_one_144 hC hq54 hf hw (lv_sub hl [1, 2, 3, 4, 5, 0, 7, 8] rfl)
set_option maxRecDepth 100000 in
set_option maxHeartbeats 4000000 in
theorem k_X12_one_106 {p : Program} {l : Launch} {e : Env} {s : State} {m : MethodId} {args : Array Value} {below : List Frame} {meth : Method} {c : Code} {D : va_G} {cy : Nat → ClassId} {z0 : Nat} {ad : Nat → Nat} {X : va_W} {u : Nat × Nat} (hC : cx_C p s m args meth c cX12_one "RhymedThenModel" (Cond.code yX12_one cX12_one 9 (some .int)) 9 (some .int)) {z : (Int32 × mm_M)} {x1 : Int32} {x2 : Int32} {x3 : Int32} {x4 : Int32} {x6 : Int32} {x7 : Int32} {x8 : Int32} {t0 : Int32} {M : mm_M} {q54 : Int32 → Int32 → Int32 → Int32 → Int32 → Int32 → Int32 → mm_M → Option (Int32 × mm_M)} (hq54 : ∀ (x1 : Int32) (x2 : Int32) (x3 : Int32) (x4 : Int32) (x5 : Int32) (x6 : Int32) (x7 : Int32) (M : mm_M) (H : Heap) (locs : List Loc) (ls : Array Slot), q54 x1 x2 x3 x4 x5 x6 x7 M = some z → wd_in rf_T D cy z0 ad u M X s H locs → lv_has ls 9 [(0, .ref (ad 0)), (1, .int x1), (2, .int x2), (3, .int x3), (4, .int x4), (5, .int x5), (6, .int x6), (7, .int x7)] → W p l e { frames := 6, cells := 0, slots := 0, locals := 146 } s m args below meth c H locs 0 0 (MQ below (cq_i rf_T D cy z0 ad u X z.1 z.2) args s 0 0 (fun q => z0 ≤ q)) (F0 m 54 ls [])) (hf : f_X12_one_106 q54 x1 x2 x3 x4 x6 x7 x8 t0 M = some z) {H : Heap} {locs : List Loc} (hw : wd_in rf_T D cy z0 ad u M X s H locs) {ls : Array Slot} (hl : lv_has ls 9 [(0, .ref (ad 0)), (1, .int x1), (2, .int x2), (3, .int x3), (4, .int x4), (6, .int x6), (7, .int x7), (8, .int x8)]) : W p l e { frames := 6, cells := 0, slots := 0, locals := 146 } s m args below meth c H locs 0 0 (MQ below (cq_i rf_T D cy z0 ad u X z.1 z.2) args s 0 0 (fun q => z0 ≤ q)) (F0 m 106 ls [.int t0]) := by
  have hx := hC.1
  have hb := hC.2.1
  unfold f_X12_one_106 at hf
  refine lv_iconst (v := 0) hx hb dX12_one_106 (by decide) ?_
  exact k_X12_one_107 hC hq54 hf hw (lv_sub hl [0, 1, 2, 3, 4, 5, 6, 7] rfl)
set_option maxRecDepth 100000 in
set_option maxHeartbeats 4000000 in
theorem k_X12_one_90 {p : Program} {l : Launch} {e : Env} {s : State} {m : MethodId} {args : Array Value} {below : List Frame} {meth : Method} {c : Code} {D : va_G} {cy : Nat → ClassId} {z0 : Nat} {ad : Nat → Nat} {X : va_W} {u : Nat × Nat} (hC : cx_C p s m args meth c cX12_one "RhymedThenModel" (Cond.code yX12_one cX12_one 9 (some .int)) 9 (some .int)) {z : (Int32 × mm_M)} {x1 : Int32} {x2 : Int32} {x3 : Int32} {x4 : Int32} {x5 : Int32} {x6 : Int32} {x7 : Int32} {x8 : Int32} {M : mm_M} {q54 : Int32 → Int32 → Int32 → Int32 → Int32 → Int32 → Int32 → mm_M → Option (Int32 × mm_M)} (hq54 : ∀ (x1 : Int32) (x2 : Int32) (x3 : Int32) (x4 : Int32) (x5 : Int32) (x6 : Int32) (x7 : Int32) (M : mm_M) (H : Heap) (locs : List Loc) (ls : Array Slot), q54 x1 x2 x3 x4 x5 x6 x7 M = some z → wd_in rf_T D cy z0 ad u M X s H locs → lv_has ls 9 [(0, .ref (ad 0)), (1, .int x1), (2, .int x2), (3, .int x3), (4, .int x4), (5, .int x5), (6, .int x6), (7, .int x7)] → W p l e { frames := 6, cells := 0, slots := 0, locals := 146 } s m args below meth c H locs 0 0 (MQ below (cq_i rf_T D cy z0 ad u X z.1 z.2) args s 0 0 (fun q => z0 ≤ q)) (F0 m 54 ls [])) (hf : f_X12_one_90 q54 x1 x2 x3 x4 x5 x6 x7 x8 M = some z) {H : Heap} {locs : List Loc} (hw : wd_in rf_T D cy z0 ad u M X s H locs) {ls : Array Slot} (hl : lv_has ls 9 [(0, .ref (ad 0)), (1, .int x1), (2, .int x2), (3, .int x3), (4, .int x4), (5, .int x5), (6, .int x6), (7, .int x7), (8, .int x8)]) : W p l e { frames := 6, cells := 0, slots := 0, locals := 146 } s m args below meth c H locs 0 0 (MQ below (cq_i rf_T D cy z0 ad u X z.1 z.2) args s 0 0 (fun q => z0 ≤ q)) (F0 m 90 ls []) := by
  have hx := hC.1
  have hb := hC.2.1
  unfold f_X12_one_90 at hf
  refine lv_iload hx hb dX12_one_90 (lv_at hl 5 rfl) ?_
  refine lv_iload hx hb dX12_one_92 (lv_at hl 8 rfl) ?_
  refine lv_if_eq (tgt := 106) hx hb dX12_one_94 (by decide) (fun c15 => ?_) (fun c15 => ?_)
  · rw [if_pos c15] at hf
    exact k_X12_one_106 hC hq54 hf hw (lv_sub hl [0, 1, 2, 3, 4, 6, 7, 8] rfl)
  · rw [if_neg c15] at hf
    refine lv_iload hx hb dX12_one_97 (lv_at hl 6 rfl) ?_
    refine lv_if_ne (tgt := 106) hx hb dX12_one_99 (by decide) (fun c16 => ?_) (fun c16 => ?_)
    · rw [if_neg c16] at hf
      exact k_X12_one_106 hC hq54 hf hw (lv_sub hl [0, 1, 2, 3, 4, 6, 7, 8] rfl)
    · rw [if_pos c16] at hf
      refine lv_iconst (v := 1) hx hb dX12_one_102 (by decide) ?_
      refine lv_goto (tgt := 107) hx hb dX12_one_103 (by decide) ?_
      exact k_X12_one_107 hC hq54 hf hw (lv_sub hl [0, 1, 2, 3, 4, 6, 7, 8] rfl)
set_option maxRecDepth 100000 in
set_option maxHeartbeats 4000000 in
theorem k_X12_one_54 {p : Program} {l : Launch} {e : Env} {s : State} {m : MethodId} {args : Array Value} {below : List Frame} {meth : Method} {c : Code} {D : va_G} {cy : Nat → ClassId} {z0 : Nat} {ad : Nat → Nat} {X : va_W} {u : Nat × Nat} (hC : cx_C p s m args meth c cX12_one "RhymedThenModel" (Cond.code yX12_one cX12_one 9 (some .int)) 9 (some .int)) {z : (Int32 × mm_M)} {x1 : Int32} {x2 : Int32} {x3 : Int32} {x4 : Int32} {x5 : Int32} {x6 : Int32} {x7 : Int32} {M : mm_M} {q54 : Int32 → Int32 → Int32 → Int32 → Int32 → Int32 → Int32 → mm_M → Option (Int32 × mm_M)} (hq54 : ∀ (x1 : Int32) (x2 : Int32) (x3 : Int32) (x4 : Int32) (x5 : Int32) (x6 : Int32) (x7 : Int32) (M : mm_M) (H : Heap) (locs : List Loc) (ls : Array Slot), q54 x1 x2 x3 x4 x5 x6 x7 M = some z → wd_in rf_T D cy z0 ad u M X s H locs → lv_has ls 9 [(0, .ref (ad 0)), (1, .int x1), (2, .int x2), (3, .int x3), (4, .int x4), (5, .int x5), (6, .int x6), (7, .int x7)] → W p l e { frames := 6, cells := 0, slots := 0, locals := 146 } s m args below meth c H locs 0 0 (MQ below (cq_i rf_T D cy z0 ad u X z.1 z.2) args s 0 0 (fun q => z0 ≤ q)) (F0 m 54 ls [])) (hf : f_X12_one_54 q54 x1 x2 x3 x4 x5 x6 x7 M = some z) {H : Heap} {locs : List Loc} (hw : wd_in rf_T D cy z0 ad u M X s H locs) {ls : Array Slot} (hl : lv_has ls 9 [(0, .ref (ad 0)), (1, .int x1), (2, .int x2), (3, .int x3), (4, .int x4), (5, .int x5), (6, .int x6), (7, .int x7)]) : W p l e { frames := 6, cells := 0, slots := 0, locals := 146 } s m args below meth c H locs 0 0 (MQ below (cq_i rf_T D cy z0 ad u X z.1 z.2) args s 0 0 (fun q => z0 ≤ q)) (F0 m 54 ls []) := by
  have hx := hC.1
  have hb := hC.2.1
  unfold f_X12_one_54 at hf
  refine lv_iload hx hb dX12_one_54 (lv_at hl 7 rfl) ?_
  refine lv_sipush (v := 601) hx hb dX12_one_56 (by decide) ?_
  refine lv_icmp_gt (tgt := 157) hx hb dX12_one_59 (by decide) (fun c11 => ?_) (fun c11 => ?_)
  · rw [if_pos c11] at hf
    refine lv_iload hx hb dX12_one_157 (lv_at hl 5 rfl) ?_
    have hz := Option.some.inj hf
    subst hz
    exact rtc_i hC hw dX12_one_159
  · rw [if_neg c11] at hf
    refine lv_iconst (v := 0) hx hb dX12_one_62 (by decide) ?_
    refine lv_istore (lv' := [(8, .int 0), (0, .ref (ad 0)), (1, .int x1), (2, .int x2), (3, .int x3), (4, .int x4), (5, .int x5), (6, .int x6), (7, .int x7)]) hx hb dX12_one_63 hl (by decide) rfl (fun ls hl => ?_)
    refine lv_iload hx hb dX12_one_65 (lv_at hl 8 rfl) ?_
    refine lv_sipush (v := 600) hx hb dX12_one_67 (by decide) ?_
    refine lv_icmp_gt (tgt := 90) hx hb dX12_one_70 (by decide) (fun c12 => ?_) (fun c12 => ?_)
    · rw [if_pos c12] at hf
      exact k_X12_one_90 hC hq54 hf hw (lv_sub hl [1, 2, 3, 4, 5, 6, 7, 8, 0] rfl)
    · rw [if_neg c12] at hf
      refine lv_aload_n hx hb dX12_one_73 rfl (lv_at hl 1 rfl) ?_
      refine lv_iload_n hx hb dX12_one_74 rfl (lv_at hl 2 rfl) ?_
      refine lv_iload_n hx hb dX12_one_75 rfl (lv_at hl 3 rfl) ?_
      refine lv_iload_n hx hb dX12_one_76 rfl (lv_at hl 4 rfl) ?_
      refine lv_iload hx hb dX12_one_77 (lv_at hl 8 rfl) ?_
      refine lv_iload hx hb dX12_one_79 (lv_at hl 5 rfl) ?_
      obtain ⟨z13, ez13, hf⟩ := bd_e hf
      refine clc_Vv hC hw (c_X12_saysBoth ez13) hd_X12_saysBoth cw_X12_207 (Nat.le_of_ble_eq_true rfl) rfl rfl (rest := []) hl.1 rfl (Nat.le_of_ble_eq_true rfl) ⟨Nat.le_of_ble_eq_true rfl, Nat.le_of_ble_eq_true rfl⟩ ⟨Nat.zero_le _, Nat.zero_le _⟩ rfl dX12_one_81 (fun H locs hw => ?_)
      refine lv_aload_n hx hb dX12_one_84 rfl (lv_at hl 1 rfl) ?_
      obtain ⟨z14, ez14, hf⟩ := bd_e hf
      refine clc_Vi hC hw (c_X12_areAlike ez14) hd_X12_areAlike cw_X12_204 (Nat.le_of_ble_eq_true rfl) rfl rfl (rest := []) hl.1 rfl (Nat.le_of_ble_eq_true rfl) ⟨Nat.le_of_ble_eq_true rfl, Nat.le_of_ble_eq_true rfl⟩ ⟨Nat.zero_le _, Nat.zero_le _⟩ rfl dX12_one_85 (fun H locs hw => ?_)
      refine lv_istore (lv' := [(8, .int z14), (0, .ref (ad 0)), (1, .int x1), (2, .int x2), (3, .int x3), (4, .int x4), (5, .int x5), (6, .int x6), (7, .int x7)]) hx hb dX12_one_88 hl (by decide) rfl (fun ls hl => ?_)
      exact k_X12_one_90 hC hq54 hf hw (lv_sub hl [1, 2, 3, 4, 5, 6, 7, 8, 0] rfl)
set_option maxRecDepth 100000 in
set_option maxHeartbeats 4000000 in
theorem k_X12_one_54l {p : Program} {l : Launch} {e : Env} {s : State} {m : MethodId} {args : Array Value} {below : List Frame} {meth : Method} {c : Code} {D : va_G} {cy : Nat → ClassId} {z0 : Nat} {ad : Nat → Nat} {X : va_W} {u : Nat × Nat} (hC : cx_C p s m args meth c cX12_one "RhymedThenModel" (Cond.code yX12_one cX12_one 9 (some .int)) 9 (some .int)) {z : (Int32 × mm_M)} : ∀ (n : Nat) (x1 : Int32) (x2 : Int32) (x3 : Int32) (x4 : Int32) (x5 : Int32) (x6 : Int32) (x7 : Int32) (M : mm_M) (H : Heap) (locs : List Loc) (ls : Array Slot), f_X12_one_54l n x1 x2 x3 x4 x5 x6 x7 M = some z → wd_in rf_T D cy z0 ad u M X s H locs → lv_has ls 9 [(0, .ref (ad 0)), (1, .int x1), (2, .int x2), (3, .int x3), (4, .int x4), (5, .int x5), (6, .int x6), (7, .int x7)] → W p l e { frames := 6, cells := 0, slots := 0, locals := 146 } s m args below meth c H locs 0 0 (MQ below (cq_i rf_T D cy z0 ad u X z.1 z.2) args s 0 0 (fun q => z0 ≤ q)) (F0 m 54 ls []) := by
  intro n
  induction n with
  | zero => intro x1 x2 x3 x4 x5 x6 x7 M H locs ls hf; exact absurd hf (by simp [f_X12_one_54l])
  | succ n ih => intro x1 x2 x3 x4 x5 x6 x7 M H locs ls hf hw hl; exact k_X12_one_54 hC ih hf hw hl
set_option maxRecDepth 100000 in
set_option maxHeartbeats 4000000 in
theorem k_X12_one {p : Program} {l : Launch} {e : Env} {s : State} {m : MethodId} {args : Array Value} {below : List Frame} {meth : Method} {c : Code} {D : va_G} {cy : Nat → ClassId} {z0 : Nat} {ad : Nat → Nat} {X : va_W} {u : Nat × Nat} (hC : cx_C p s m args meth c cX12_one "RhymedThenModel" (Cond.code yX12_one cX12_one 9 (some .int)) 9 (some .int)) {z : (Int32 × mm_M)} {x1 : Int32} {x2 : Int32} {x3 : Int32} {x4 : Int32} {M : mm_M} (hf : f_X12_one x1 x2 x3 x4 M = some z) {H : Heap} {locs : List Loc} (hw : wd_in rf_T D cy z0 ad u M X s H locs) {ls : Array Slot} (hl : lv_has ls 9 [(0, .ref (ad 0)), (1, .int x1), (2, .int x2), (3, .int x3), (4, .int x4)]) : W p l e { frames := 6, cells := 0, slots := 0, locals := 146 } s m args below meth c H locs 0 0 (MQ below (cq_i rf_T D cy z0 ad u X z.1 z.2) args s 0 0 (fun q => z0 ≤ q)) (F0 m 0 ls []) := by
  have hx := hC.1
  have hb := hC.2.1
  unfold f_X12_one at hf
  refine lv_aload_n hx hb dX12_one_0 rfl (lv_at hl 0 rfl) ?_
  refine lv_iconst (v := 0) hx hb dX12_one_1 (by decide) ?_
  obtain ⟨M1, eM1, hf⟩ := sq_e hf
  refine rp_i hC hw 0 (Nat.le_of_ble_eq_true rfl) rfl fd_X12_0 wf_X12_1 fp_X12_0 rfl rfl dX12_one_2 eM1 (fun H locs hw => ?_)
  refine lv_aload_n hx hb dX12_one_5 rfl (lv_at hl 0 rfl) ?_
  refine lv_iload_n hx hb dX12_one_6 rfl (lv_at hl 1 rfl) ?_
  obtain ⟨z2, ez2, hf⟩ := sq_e hf
  refine clc_Vi hC hw (c_X12_isWord ez2.symm) hd_X12_isWord cw_X12_191 (Nat.le_of_ble_eq_true rfl) rfl rfl (rest := []) hl.1 rfl (Nat.le_of_ble_eq_true rfl) ⟨Nat.le_of_ble_eq_true rfl, Nat.le_of_ble_eq_true rfl⟩ ⟨Nat.zero_le _, Nat.zero_le _⟩ rfl dX12_one_7 (fun H locs hw => ?_)
  refine lv_if_eq (tgt := 38) hx hb dX12_one_10 (by decide) (fun c3 => ?_) (fun c3 => ?_)
  · rw [if_pos c3] at hf
    refine lv_iconst (v := (-1)) hx hb dX12_one_38 (by decide) ?_
    have hz := Option.some.inj hf
    subst hz
    exact rtc_i hC hw dX12_one_39
  · rw [if_neg c3] at hf
    refine lv_aload_n hx hb dX12_one_13 rfl (lv_at hl 0 rfl) ?_
    refine lv_iload_n hx hb dX12_one_14 rfl (lv_at hl 2 rfl) ?_
    obtain ⟨z4, ez4, hf⟩ := sq_e hf
    refine clc_Vi hC hw (c_X12_isWord ez4.symm) hd_X12_isWord cw_X12_191 (Nat.le_of_ble_eq_true rfl) rfl rfl (rest := []) hl.1 rfl (Nat.le_of_ble_eq_true rfl) ⟨Nat.le_of_ble_eq_true rfl, Nat.le_of_ble_eq_true rfl⟩ ⟨Nat.zero_le _, Nat.zero_le _⟩ rfl dX12_one_15 (fun H locs hw => ?_)
    refine lv_if_eq (tgt := 38) hx hb dX12_one_18 (by decide) (fun c5 => ?_) (fun c5 => ?_)
    · rw [if_pos c5] at hf
      refine lv_iconst (v := (-1)) hx hb dX12_one_38 (by decide) ?_
      have hz := Option.some.inj hf
      subst hz
      exact rtc_i hC hw dX12_one_39
    · rw [if_neg c5] at hf
      refine lv_aload_n hx hb dX12_one_21 rfl (lv_at hl 0 rfl) ?_
      refine lv_iload_n hx hb dX12_one_22 rfl (lv_at hl 3 rfl) ?_
      obtain ⟨z6, ez6, hf⟩ := bd_e hf
      refine clc_Vi hC hw (c_X12_isHistory ez6) hd_X12_isHistory cw_X12_194 (Nat.le_of_ble_eq_true rfl) rfl rfl (rest := []) hl.1 rfl (Nat.le_of_ble_eq_true rfl) ⟨Nat.le_of_ble_eq_true rfl, Nat.le_of_ble_eq_true rfl⟩ ⟨Nat.zero_le _, Nat.zero_le _⟩ rfl dX12_one_23 (fun H locs hw => ?_)
      refine lv_if_eq (tgt := 38) hx hb dX12_one_26 (by decide) (fun c7 => ?_) (fun c7 => ?_)
      · rw [if_pos c7] at hf
        refine lv_iconst (v := (-1)) hx hb dX12_one_38 (by decide) ?_
        have hz := Option.some.inj hf
        subst hz
        exact rtc_i hC hw dX12_one_39
      · rw [if_neg c7] at hf
        refine lv_iconst (v := 0) hx hb dX12_one_29 (by decide) ?_
        refine lv_iload hx hb dX12_one_30 (lv_at hl 4 rfl) ?_
        obtain ⟨z8, ez8, hf⟩ := sq_e hf
        refine clc_Si hC hw (c_X12_isThen ez8.symm) hd_X12_isThen cw_X12_197 (rest := []) hl.1 rfl (Nat.le_of_ble_eq_true rfl) ⟨Nat.le_of_ble_eq_true rfl, Nat.le_of_ble_eq_true rfl⟩ ⟨Nat.zero_le _, Nat.zero_le _⟩ rfl dX12_one_32 (fun H locs hw => ?_)
        refine lv_if_ne (tgt := 40) hx hb dX12_one_35 (by decide) (fun c9 => ?_) (fun c9 => ?_)
        · rw [if_neg c9] at hf
          refine lv_aload_n hx hb dX12_one_40 rfl (lv_at hl 0 rfl) ?_
          refine lv_iconst (v := 0) hx hb dX12_one_41 (by decide) ?_
          obtain ⟨M10, eM10, hf⟩ := sq_e hf
          refine rp_i hC hw 0 (Nat.le_of_ble_eq_true rfl) rfl fd_X12_1 wf_X12_11 fp_X12_1 rfl rfl dX12_one_42 eM10 (fun H locs hw => ?_)
          refine lv_iconst (v := 0) hx hb dX12_one_45 (by decide) ?_
          refine lv_istore (lv' := [(5, .int 0), (0, .ref (ad 0)), (1, .int x1), (2, .int x2), (3, .int x3), (4, .int x4)]) hx hb dX12_one_46 hl (by decide) rfl (fun ls hl => ?_)
          refine lv_iconst (v := 0) hx hb dX12_one_48 (by decide) ?_
          refine lv_istore (lv' := [(6, .int 0), (5, .int 0), (0, .ref (ad 0)), (1, .int x1), (2, .int x2), (3, .int x3), (4, .int x4)]) hx hb dX12_one_49 hl (by decide) rfl (fun ls hl => ?_)
          refine lv_iconst (v := 0) hx hb dX12_one_51 (by decide) ?_
          refine lv_istore (lv' := [(7, .int 0), (6, .int 0), (5, .int 0), (0, .ref (ad 0)), (1, .int x1), (2, .int x2), (3, .int x3), (4, .int x4)]) hx hb dX12_one_52 hl (by decide) rfl (fun ls hl => ?_)
          exact k_X12_one_54l hC fu_ _ _ _ _ _ _ _ _ _ _ _ hf hw (lv_sub hl [3, 4, 5, 6, 7, 2, 1, 0] rfl)
        · rw [if_pos c9] at hf
          refine lv_iconst (v := (-1)) hx hb dX12_one_38 (by decide) ?_
          have hz := Option.some.inj hf
          subst hz
          exact rtc_i hC hw dX12_one_39
set_option maxRecDepth 100000 in
theorem c_X12_one {l : Launch} {D : va_G} {cy : Nat → ClassId} {z0 : Nat} {ad : Nat → Nat} {u : Nat × Nat} {X : va_W} {z : (Int32 × mm_M)} {x1 : Int32} {x2 : Int32} {x3 : Int32} {x4 : Int32} {M : mm_M} (hf : f_X12_one x1 x2 x3 x4 M = some z) : ct_i rf_T l yX12_one (Cond.code yX12_one cX12_one 9 (some .int)) 6 146 D cy z0 ad u M X [.ref (ad 0), .int x1, .int x2, .int x3, .int x4] z.1 z.2 := by
  refine bgc_i (by decide) (fun p e s m below meth c hC hw => ?_)
  refine en_t (Nat.le_of_ble_eq_true rfl) (fun ls hl => ?_)
  have hl : lv_has ls 9 [(0, .ref (ad 0)), (1, .int x1), (2, .int x2), (3, .int x3), (4, .int x4)] := hl
  exact k_X12_one hC hf hw hl
