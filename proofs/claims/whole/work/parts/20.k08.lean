set_option maxRecDepth 100000 in
set_option maxHeartbeats 4000000 in
theorem k_X12_notes_65 {p : Program} {l : Launch} {e : Env} {s : State} {m : MethodId} {args : Array Value} {below : List Frame} {meth : Method} {c : Code} {D : va_G} {cy : Nat → ClassId} {z0 : Nat} {ad : Nat → Nat} {X : va_W} {u : Nat × Nat} (hC : cx_C p s m args meth c cX12_notes "RhymedThenModel" (Cond.code yX12_notes cX12_notes 6 none) 6 none) {z : mm_M} {x3 : Int64} {x5 : Int32} {M : mm_M} (hf : f_X12_notes_65 x3 x5 M = some z) {H : Heap} {locs : List Loc} (hw : wd_in rf_T D cy z0 ad u M X s H locs) {ls : Array Slot} (hl : lv_has ls 6 [(0, .ref (ad 0)), (3, .long x3), (5, .int x5)]) : W p l e { frames := 0, cells := 0, slots := 0, locals := 0 } s m args below meth c H locs 0 0 (MQ below (cq_v rf_T D cy z0 ad u X z) args s 0 0 (fun q => z0 ≤ q)) (F0 m 65 ls []) := by
  have hx := hC.1
  have hb := hC.2.1
  unfold f_X12_notes_65 at hf
  refine lv_aload_n hx hb dX12_notes_65 rfl (lv_at hl 0 rfl) ?_
  refine rg_p hC hw 0 (Nat.le_of_ble_eq_true rfl) rfl fd_X12_41 wf_X12_300 (q := 29) rfl dX12_notes_66 ?_
  refine lv_iload hx hb dX12_notes_69 (lv_at hl 2 rfl) ?_
  refine lv_dup2_11 hx hb dX12_notes_71 rfl rfl ?_
  obtain ⟨h11, hf⟩ := ck_e hf
  refine ra_l hC hw 29 (Nat.le_of_ble_eq_true rfl) rfl h11 dX12_notes_72 ?_
  refine lv_lload_n hx hb dX12_notes_73 rfl (lv_at hl 1 rfl) ?_
  refine lv_ladd hx hb dX12_notes_74 ?_
  obtain ⟨h12, hf⟩ := ck_e hf
  obtain ⟨M13, eM13, hf⟩ := sq_e hf
  refine rs_l hC hw 29 (Nat.le_of_ble_eq_true rfl) rfl h12 dX12_notes_75 eM13 (fun H locs hw => ?_)
  have hz := Option.some.inj hf
  subst hz
  exact rtc_v hC hw dX12_notes_76
set_option maxRecDepth 100000 in
set_option maxHeartbeats 4000000 in
theorem k_X12_notes_30 {p : Program} {l : Launch} {e : Env} {s : State} {m : MethodId} {args : Array Value} {below : List Frame} {meth : Method} {c : Code} {D : va_G} {cy : Nat → ClassId} {z0 : Nat} {ad : Nat → Nat} {X : va_W} {u : Nat × Nat} (hC : cx_C p s m args meth c cX12_notes "RhymedThenModel" (Cond.code yX12_notes cX12_notes 6 none) 6 none) {z : mm_M} {x1 : Int64} {x3 : Int64} {x5 : Int32} {M : mm_M} (hf : f_X12_notes_30 x1 x3 x5 M = some z) {H : Heap} {locs : List Loc} (hw : wd_in rf_T D cy z0 ad u M X s H locs) {ls : Array Slot} (hl : lv_has ls 6 [(0, .ref (ad 0)), (1, .long x1), (3, .long x3), (5, .int x5)]) : W p l e { frames := 0, cells := 0, slots := 0, locals := 0 } s m args below meth c H locs 0 0 (MQ below (cq_v rf_T D cy z0 ad u X z) args s 0 0 (fun q => z0 ≤ q)) (F0 m 30 ls []) := by
  have hx := hC.1
  have hb := hC.2.1
  unfold f_X12_notes_30 at hf
  refine lv_iload hx hb dX12_notes_30 (lv_at hl 3 rfl) ?_
  refine lv_aload_n hx hb dX12_notes_32 rfl (lv_at hl 0 rfl) ?_
  refine rg_i hC hw 0 (Nat.le_of_ble_eq_true rfl) rfl fd_X12_42 wf_X12_294 dX12_notes_33 ?_
  refine lv_icmp_ne (tgt := 65) hx hb dX12_notes_36 (by decide) (fun c5 => ?_) (fun c5 => ?_)
  · rw [if_neg c5] at hf
    exact k_X12_notes_65 hC hf hw (lv_sub hl [0, 2, 3] rfl)
  · rw [if_pos c5] at hf
    refine lv_aload_n hx hb dX12_notes_39 rfl (lv_at hl 0 rfl) ?_
    refine rg_p hC hw 0 (Nat.le_of_ble_eq_true rfl) rfl fd_X12_40 wf_X12_297 (q := 28) rfl dX12_notes_40 ?_
    refine lv_iload hx hb dX12_notes_43 (lv_at hl 3 rfl) ?_
    refine lv_lload_n hx hb dX12_notes_45 rfl (lv_at hl 1 rfl) ?_
    obtain ⟨h6, hf⟩ := ck_e hf
    obtain ⟨M7, eM7, hf⟩ := sq_e hf
    refine rs_l hC hw 28 (Nat.le_of_ble_eq_true rfl) rfl h6 dX12_notes_46 eM7 (fun H locs hw => ?_)
    refine lv_aload_n hx hb dX12_notes_47 rfl (lv_at hl 0 rfl) ?_
    refine rg_p hC hw 0 (Nat.le_of_ble_eq_true rfl) rfl fd_X12_41 wf_X12_300 (q := 29) rfl dX12_notes_48 ?_
    refine lv_iload hx hb dX12_notes_51 (lv_at hl 3 rfl) ?_
    refine lv_lconst (v := 0) hx hb dX12_notes_53 (by decide) ?_
    obtain ⟨h8, hf⟩ := ck_e hf
    obtain ⟨M9, eM9, hf⟩ := sq_e hf
    refine rs_l hC hw 29 (Nat.le_of_ble_eq_true rfl) rfl h8 dX12_notes_54 eM9 (fun H locs hw => ?_)
    refine lv_aload_n hx hb dX12_notes_55 rfl (lv_at hl 0 rfl) ?_
    refine lv_dup hx hb dX12_notes_56 rfl ?_
    refine rg_i hC hw 0 (Nat.le_of_ble_eq_true rfl) rfl fd_X12_42 wf_X12_294 dX12_notes_57 ?_
    refine lv_iconst (v := 1) hx hb dX12_notes_60 (by decide) ?_
    refine lv_iadd hx hb dX12_notes_61 ?_
    obtain ⟨M10, eM10, hf⟩ := sq_e hf
    refine rp_i hC hw 0 (Nat.le_of_ble_eq_true rfl) rfl fd_X12_42 wf_X12_294 fp_X12_42 rfl rfl dX12_notes_62 eM10 (fun H locs hw => ?_)
    exact k_X12_notes_65 hC hf hw (lv_sub hl [0, 2, 3] rfl)
set_option maxRecDepth 100000 in
set_option maxHeartbeats 4000000 in
theorem k_X12_notes_3 {p : Program} {l : Launch} {e : Env} {s : State} {m : MethodId} {args : Array Value} {below : List Frame} {meth : Method} {c : Code} {D : va_G} {cy : Nat → ClassId} {z0 : Nat} {ad : Nat → Nat} {X : va_W} {u : Nat × Nat} (hC : cx_C p s m args meth c cX12_notes "RhymedThenModel" (Cond.code yX12_notes cX12_notes 6 none) 6 none) {z : mm_M} {x1 : Int64} {x3 : Int64} {x5 : Int32} {M : mm_M} {q3 : Int64 → Int64 → Int32 → mm_M → Option mm_M} (hq3 : ∀ (x1 : Int64) (x3 : Int64) (x5 : Int32) (M : mm_M) (H : Heap) (locs : List Loc) (ls : Array Slot), q3 x1 x3 x5 M = some z → wd_in rf_T D cy z0 ad u M X s H locs → lv_has ls 6 [(0, .ref (ad 0)), (1, .long x1), (3, .long x3), (5, .int x5)] → W p l e { frames := 0, cells := 0, slots := 0, locals := 0 } s m args below meth c H locs 0 0 (MQ below (cq_v rf_T D cy z0 ad u X z) args s 0 0 (fun q => z0 ≤ q)) (F0 m 3 ls [])) (hf : f_X12_notes_3 q3 x1 x3 x5 M = some z) {H : Heap} {locs : List Loc} (hw : wd_in rf_T D cy z0 ad u M X s H locs) {ls : Array Slot} (hl : lv_has ls 6 [(0, .ref (ad 0)), (1, .long x1), (3, .long x3), (5, .int x5)]) : W p l e { frames := 0, cells := 0, slots := 0, locals := 0 } s m args below meth c H locs 0 0 (MQ below (cq_v rf_T D cy z0 ad u X z) args s 0 0 (fun q => z0 ≤ q)) (F0 m 3 ls []) := by
  have hx := hC.1
  have hb := hC.2.1
  unfold f_X12_notes_3 at hf
  refine lv_iload hx hb dX12_notes_3 (lv_at hl 3 rfl) ?_
  refine lv_aload_n hx hb dX12_notes_5 rfl (lv_at hl 0 rfl) ?_
  refine rg_i hC hw 0 (Nat.le_of_ble_eq_true rfl) rfl fd_X12_42 wf_X12_294 dX12_notes_6 ?_
  refine lv_icmp_ge (tgt := 30) hx hb dX12_notes_9 (by decide) (fun c1 => ?_) (fun c1 => ?_)
  · rw [if_pos c1] at hf
    exact k_X12_notes_30 hC hf hw (lv_sub hl [0, 1, 2, 3] rfl)
  · rw [if_neg c1] at hf
    refine lv_aload_n hx hb dX12_notes_12 rfl (lv_at hl 0 rfl) ?_
    refine rg_p hC hw 0 (Nat.le_of_ble_eq_true rfl) rfl fd_X12_40 wf_X12_297 (q := 28) rfl dX12_notes_13 ?_
    refine lv_iload hx hb dX12_notes_16 (lv_at hl 3 rfl) ?_
    obtain ⟨h2, hf⟩ := ck_e hf
    refine ra_l hC hw 28 (Nat.le_of_ble_eq_true rfl) rfl h2 dX12_notes_18 ?_
    refine lv_lload_n hx hb dX12_notes_19 rfl (lv_at hl 1 rfl) ?_
    refine lc_eq (tgt := 30) hx hb dX12_notes_20 dX12_notes_21 (by decide) (fun c3 => ?_) (fun c3 => ?_)
    · rw [if_pos c3] at hf
      exact k_X12_notes_30 hC hf hw (lv_sub hl [0, 1, 2, 3] rfl)
    · rw [if_neg c3] at hf
      obtain ⟨y4, ey4, hf⟩ := sq_e hf
      refine lv_iinc (v := y4) (lv' := [(5, .int y4), (0, .ref (ad 0)), (1, .long x1), (3, .long x3)]) hx hb dX12_notes_24 hl (k := 3) rfl (by rw [ey4]; rfl) (by decide) rfl (fun ls hl => ?_)
      refine lv_goto (tgt := 3) hx hb dX12_notes_27 (by decide) ?_
      exact hq3 _ _ _ _ _ _ _ hf hw (lv_sub hl [1, 2, 3, 0] rfl)
set_option maxRecDepth 100000 in
set_option maxHeartbeats 4000000 in
theorem k_X12_notes_3l {p : Program} {l : Launch} {e : Env} {s : State} {m : MethodId} {args : Array Value} {below : List Frame} {meth : Method} {c : Code} {D : va_G} {cy : Nat → ClassId} {z0 : Nat} {ad : Nat → Nat} {X : va_W} {u : Nat × Nat} (hC : cx_C p s m args meth c cX12_notes "RhymedThenModel" (Cond.code yX12_notes cX12_notes 6 none) 6 none) {z : mm_M} : ∀ (n : Nat) (x1 : Int64) (x3 : Int64) (x5 : Int32) (M : mm_M) (H : Heap) (locs : List Loc) (ls : Array Slot), f_X12_notes_3l n x1 x3 x5 M = some z → wd_in rf_T D cy z0 ad u M X s H locs → lv_has ls 6 [(0, .ref (ad 0)), (1, .long x1), (3, .long x3), (5, .int x5)] → W p l e { frames := 0, cells := 0, slots := 0, locals := 0 } s m args below meth c H locs 0 0 (MQ below (cq_v rf_T D cy z0 ad u X z) args s 0 0 (fun q => z0 ≤ q)) (F0 m 3 ls []) := by
  intro n
  induction n with
  | zero => intro x1 x3 x5 M H locs ls hf; exact absurd hf (by simp [f_X12_notes_3l])
  | succ n ih => intro x1 x3 x5 M H locs ls hf hw hl; exact k_X12_notes_3 hC ih hf hw hl
set_option maxRecDepth 100000 in
set_option maxHeartbeats 4000000 in
theorem k_X12_notes {p : Program} {l : Launch} {e : Env} {s : State} {m : MethodId} {args : Array Value} {below : List Frame} {meth : Method} {c : Code} {D : va_G} {cy : Nat → ClassId} {z0 : Nat} {ad : Nat → Nat} {X : va_W} {u : Nat × Nat} (hC : cx_C p s m args meth c cX12_notes "RhymedThenModel" (Cond.code yX12_notes cX12_notes 6 none) 6 none) {z : mm_M} {x1 : Int64} {x3 : Int64} {M : mm_M} (hf : f_X12_notes x1 x3 M = some z) {H : Heap} {locs : List Loc} (hw : wd_in rf_T D cy z0 ad u M X s H locs) {ls : Array Slot} (hl : lv_has ls 6 [(0, .ref (ad 0)), (1, .long x1), (3, .long x3)]) : W p l e { frames := 0, cells := 0, slots := 0, locals := 0 } s m args below meth c H locs 0 0 (MQ below (cq_v rf_T D cy z0 ad u X z) args s 0 0 (fun q => z0 ≤ q)) (F0 m 0 ls []) := by
  have hx := hC.1
  have hb := hC.2.1
  unfold f_X12_notes at hf
  refine lv_iconst (v := 0) hx hb dX12_notes_0 (by decide) ?_
  refine lv_istore (lv' := [(5, .int 0), (0, .ref (ad 0)), (1, .long x1), (3, .long x3)]) hx hb dX12_notes_1 hl (by decide) rfl (fun ls hl => ?_)
  exact k_X12_notes_3l hC fu_ _ _ _ _ _ _ _ hf hw (lv_sub hl [1, 2, 3, 0] rfl)
set_option maxRecDepth 100000 in
theorem c_X12_notes {l : Launch} {D : va_G} {cy : Nat → ClassId} {z0 : Nat} {ad : Nat → Nat} {u : Nat × Nat} {X : va_W} {z : mm_M} {x1 : Int64} {x3 : Int64} {M : mm_M} (hf : f_X12_notes x1 x3 M = some z) : ct_v rf_T l yX12_notes (Cond.code yX12_notes cX12_notes 6 none) 0 0 D cy z0 ad u M X [.ref (ad 0), .long x1, .long x3] z := by
  refine bgc_v (by decide) (fun p e s m below meth c hC hw => ?_)
  refine en_t (Nat.le_of_ble_eq_true rfl) (fun ls hl => ?_)
  have hl : lv_has ls 6 [(0, .ref (ad 0)), (1, .long x1), (3, .long x3)] := hl
  exact k_X12_notes hC hf hw hl
set_option maxRecDepth 100000 in
set_option maxHeartbeats 4000000 in
theorem k_X12_sure_118 {p : Program} {l : Launch} {e : Env} {s : State} {m : MethodId} {args : Array Value} {below : List Frame} {meth : Method} {c : Code} {D : va_G} {cy : Nat → ClassId} {z0 : Nat} {ad : Nat → Nat} {X : va_W} {u : Nat × Nat} (hC : cx_C p s m args meth c cX12_sure "RhymedThenModel" (Cond.code yX12_sure cX12_sure 7 (some .int)) 7 (some .int)) {z : (Int32 × mm_M)} {x4 : Int32} {x5 : Int32} {M : mm_M} (hf : f_X12_sure_118 x4 x5 M = some z) {H : Heap} {locs : List Loc} (hw : wd_in rf_T D cy z0 ad u M X s H locs) {ls : Array Slot} (hl : lv_has ls 7 [(0, .ref (ad 0)), (4, .int x4), (5, .int x5)]) : W p l e { frames := 8, cells := 0, slots := 0, locals := 189 } s m args below meth c H locs 0 0 (MQ below (cq_i rf_T D cy z0 ad u X z.1 z.2) args s 0 0 (fun q => z0 ≤ q)) (F0 m 118 ls []) := by
  have hx := hC.1
  have hb := hC.2.1
  unfold f_X12_sure_118 at hf
  refine lv_aload_n hx hb dX12_sure_118 rfl (lv_at hl 0 rfl) ?_
  refine lv_iconst (v := 0) hx hb dX12_sure_119 (by decide) ?_
  obtain ⟨M17, eM17, hf⟩ := sq_e hf
  refine rp_i hC hw 0 (Nat.le_of_ble_eq_true rfl) rfl fd_X12_1 wf_X12_11 fp_X12_1 rfl rfl dX12_sure_120 eM17 (fun H locs hw => ?_)
  refine lv_aload_n hx hb dX12_sure_123 rfl (lv_at hl 0 rfl) ?_
  refine lv_iload hx hb dX12_sure_124 (lv_at hl 1 rfl) ?_
  refine lv_i2l hx hb dX12_sure_126 rfl ?_
  obtain ⟨z18, ez18, hf⟩ := bd_e hf
  refine clc_Vv hC hw (c_X12_enters ez18) hd_X12_enters cw_X12_18 (Nat.le_of_ble_eq_true rfl) rfl rfl (rest := []) hl.1 rfl (Nat.le_of_ble_eq_true rfl) ⟨Nat.le_of_ble_eq_true rfl, Nat.le_of_ble_eq_true rfl⟩ ⟨Nat.zero_le _, Nat.zero_le _⟩ rfl dX12_sure_127 (fun H locs hw => ?_)
  refine lv_aload_n hx hb dX12_sure_130 rfl (lv_at hl 0 rfl) ?_
  refine lv_iload hx hb dX12_sure_131 (lv_at hl 2 rfl) ?_
  refine lv_i2l hx hb dX12_sure_133 rfl ?_
  obtain ⟨z19, ez19, hf⟩ := bd_e hf
  refine clc_Vv hC hw (c_X12_enters ez19) hd_X12_enters cw_X12_18 (Nat.le_of_ble_eq_true rfl) rfl rfl (rest := []) hl.1 rfl (Nat.le_of_ble_eq_true rfl) ⟨Nat.le_of_ble_eq_true rfl, Nat.le_of_ble_eq_true rfl⟩ ⟨Nat.zero_le _, Nat.zero_le _⟩ rfl dX12_sure_134 (fun H locs hw => ?_)
  refine lv_aload_n hx hb dX12_sure_137 rfl (lv_at hl 0 rfl) ?_
  refine rg_i hC hw 0 (Nat.le_of_ble_eq_true rfl) rfl fd_X12_42 wf_X12_294 dX12_sure_138 ?_
  have hz := Option.some.inj hf
  subst hz
  exact rtc_i hC hw dX12_sure_141
set_option maxRecDepth 100000 in
set_option maxHeartbeats 4000000 in
theorem k_X12_sure_52 {p : Program} {l : Launch} {e : Env} {s : State} {m : MethodId} {args : Array Value} {below : List Frame} {meth : Method} {c : Code} {D : va_G} {cy : Nat → ClassId} {z0 : Nat} {ad : Nat → Nat} {X : va_W} {u : Nat × Nat} (hC : cx_C p s m args meth c cX12_sure "RhymedThenModel" (Cond.code yX12_sure cX12_sure 7 (some .int)) 7 (some .int)) {z : (Int32 × mm_M)} {x1 : Int32} {x2 : Int32} {x3 : Int32} {x4 : Int32} {x5 : Int32} {x6 : Int32} {M : mm_M} {q52 : Int32 → Int32 → Int32 → Int32 → Int32 → Int32 → mm_M → Option (Int32 × mm_M)} (hq52 : ∀ (x1 : Int32) (x2 : Int32) (x3 : Int32) (x4 : Int32) (x5 : Int32) (x6 : Int32) (M : mm_M) (H : Heap) (locs : List Loc) (ls : Array Slot), q52 x1 x2 x3 x4 x5 x6 M = some z → wd_in rf_T D cy z0 ad u M X s H locs → lv_has ls 7 [(0, .ref (ad 0)), (1, .int x1), (2, .int x2), (3, .int x3), (4, .int x4), (5, .int x5), (6, .int x6)] → W p l e { frames := 8, cells := 0, slots := 0, locals := 189 } s m args below meth c H locs 0 0 (MQ below (cq_i rf_T D cy z0 ad u X z.1 z.2) args s 0 0 (fun q => z0 ≤ q)) (F0 m 52 ls [])) (hf : f_X12_sure_52 q52 x1 x2 x3 x4 x5 x6 M = some z) {H : Heap} {locs : List Loc} (hw : wd_in rf_T D cy z0 ad u M X s H locs) {ls : Array Slot} (hl : lv_has ls 7 [(0, .ref (ad 0)), (1, .int x1), (2, .int x2), (3, .int x3), (4, .int x4), (5, .int x5), (6, .int x6)]) : W p l e { frames := 8, cells := 0, slots := 0, locals := 189 } s m args below meth c H locs 0 0 (MQ below (cq_i rf_T D cy z0 ad u X z.1 z.2) args s 0 0 (fun q => z0 ≤ q)) (F0 m 52 ls []) := by
  have hx := hC.1
  have hb := hC.2.1
  unfold f_X12_sure_52 at hf
  refine lv_iload hx hb dX12_sure_52 (lv_at hl 6 rfl) ?_
  refine lv_aload_n hx hb dX12_sure_54 rfl (lv_at hl 0 rfl) ?_
  refine rg_i hC hw 0 (Nat.le_of_ble_eq_true rfl) rfl fd_X12_39 wf_X12_273 dX12_sure_55 ?_
  refine lv_icmp_ge (tgt := 118) hx hb dX12_sure_58 (by decide) (fun c9 => ?_) (fun c9 => ?_)
  · rw [if_pos c9] at hf
    exact k_X12_sure_118 hC hf hw (lv_sub hl [0, 4, 5] rfl)
  · rw [if_neg c9] at hf
    refine lv_aload_n hx hb dX12_sure_61 rfl (lv_at hl 0 rfl) ?_
    refine lv_iconst (v := 0) hx hb dX12_sure_62 (by decide) ?_
    refine lv_iload_n hx hb dX12_sure_63 rfl (lv_at hl 1 rfl) ?_
    refine lv_aload_n hx hb dX12_sure_64 rfl (lv_at hl 0 rfl) ?_
    refine rg_p hC hw 0 (Nat.le_of_ble_eq_true rfl) rfl fd_X12_38 wf_X12_279 (q := 27) rfl dX12_sure_65 ?_
    refine lv_iload hx hb dX12_sure_68 (lv_at hl 6 rfl) ?_
    obtain ⟨h10, hf⟩ := ck_e hf
    refine ra_i hC hw 27 (Nat.le_of_ble_eq_true rfl) rfl h10 dX12_sure_70 ?_
    refine lv_iload_n hx hb dX12_sure_71 rfl (lv_at hl 2 rfl) ?_
    refine lv_iload_n hx hb dX12_sure_72 rfl (lv_at hl 3 rfl) ?_
    obtain ⟨z11, ez11, hf⟩ := bd_e hf
    refine clc_Vv hC hw (c_X12_says ez11) hd_X12_says cw_X12_200 (Nat.le_of_ble_eq_true rfl) rfl rfl (rest := []) hl.1 rfl (Nat.le_of_ble_eq_true rfl) ⟨Nat.le_of_ble_eq_true rfl, Nat.le_of_ble_eq_true rfl⟩ ⟨Nat.zero_le _, Nat.zero_le _⟩ rfl dX12_sure_73 (fun H locs hw => ?_)
    refine lv_aload_n hx hb dX12_sure_76 rfl (lv_at hl 0 rfl) ?_
    refine lv_aload_n hx hb dX12_sure_77 rfl (lv_at hl 0 rfl) ?_
    refine lv_iconst (v := 0) hx hb dX12_sure_78 (by decide) ?_
    obtain ⟨z12, ez12, hf⟩ := bd_e hf
    refine clc_Vl hC hw (c_X12_packs ez12) hd_X12_packs cw_X12_303 (Nat.le_of_ble_eq_true rfl) rfl rfl (rest := [.ref (ad 0)]) hl.1 rfl (Nat.le_of_ble_eq_true rfl) ⟨Nat.le_of_ble_eq_true rfl, Nat.le_of_ble_eq_true rfl⟩ ⟨Nat.zero_le _, Nat.zero_le _⟩ rfl dX12_sure_79 (fun H locs hw => ?_)
    refine lv_lconst (v := 1) hx hb dX12_sure_82 (by decide) ?_
    obtain ⟨z13, ez13, hf⟩ := bd_e hf
    refine clc_Vv hC hw (c_X12_notes ez13) hd_X12_notes cw_X12_307 (Nat.le_of_ble_eq_true rfl) rfl rfl (rest := []) hl.1 rfl (Nat.le_of_ble_eq_true rfl) ⟨Nat.le_of_ble_eq_true rfl, Nat.le_of_ble_eq_true rfl⟩ ⟨Nat.zero_le _, Nat.zero_le _⟩ rfl dX12_sure_83 (fun H locs hw => ?_)
    refine lv_iload hx hb dX12_sure_86 (lv_at hl 4 rfl) ?_
    refine lv_aload_n hx hb dX12_sure_88 rfl (lv_at hl 0 rfl) ?_
    refine rg_p hC hw 0 (Nat.le_of_ble_eq_true rfl) rfl fd_X12_21 wf_X12_155 (q := 15) rfl dX12_sure_89 ?_
    refine lv_iconst (v := 0) hx hb dX12_sure_92 (by decide) ?_
    refine ra_i hC hw 15 (Nat.le_of_ble_eq_true rfl) rfl (by decide) dX12_sure_93 ?_
    refine mx_min hC (rest := []) wm_X12_69 hl.1 ⟨Nat.le_of_ble_eq_true rfl, Nat.le_of_ble_eq_true rfl⟩ ⟨Nat.zero_le _, Nat.zero_le _⟩ dX12_sure_94 ?_
    obtain ⟨y14, ey14, hf⟩ := sq_e hf
    refine lt_i ey14 ?_
    refine lv_istore (lv' := [(4, .int y14), (0, .ref (ad 0)), (1, .int x1), (2, .int x2), (3, .int x3), (5, .int x5), (6, .int x6)]) hx hb dX12_sure_97 hl (by decide) rfl (fun ls hl => ?_)
    refine lv_iload hx hb dX12_sure_99 (lv_at hl 5 rfl) ?_
    refine lv_aload_n hx hb dX12_sure_101 rfl (lv_at hl 1 rfl) ?_
    refine rg_p hC hw 0 (Nat.le_of_ble_eq_true rfl) rfl fd_X12_21 wf_X12_155 (q := 15) rfl dX12_sure_102 ?_
    refine lv_iconst (v := 0) hx hb dX12_sure_105 (by decide) ?_
    refine ra_i hC hw 15 (Nat.le_of_ble_eq_true rfl) rfl (by decide) dX12_sure_106 ?_
    refine mx_max hC (rest := []) wm_X12_127 hl.1 ⟨Nat.le_of_ble_eq_true rfl, Nat.le_of_ble_eq_true rfl⟩ ⟨Nat.zero_le _, Nat.zero_le _⟩ dX12_sure_107 ?_
    obtain ⟨y15, ey15, hf⟩ := sq_e hf
    refine lt_i ey15 ?_
    refine lv_istore (lv' := [(5, .int y15), (4, .int y14), (0, .ref (ad 0)), (1, .int x1), (2, .int x2), (3, .int x3), (6, .int x6)]) hx hb dX12_sure_110 hl (by decide) rfl (fun ls hl => ?_)
    obtain ⟨y16, ey16, hf⟩ := sq_e hf
    refine lv_iinc (v := y16) (lv' := [(6, .int y16), (5, .int y15), (4, .int y14), (0, .ref (ad 0)), (1, .int x1), (2, .int x2), (3, .int x3)]) hx hb dX12_sure_112 hl (k := 6) rfl (by rw [ey16]; rfl) (by decide) rfl (fun ls hl => ?_)
    refine lv_goto (tgt := 52) hx hb dX12_sure_115 (by decide) ?_
    exact hq52 _ _ _ _ _ _ _ _ _ _ hf hw (lv_sub hl [3, 4, 5, 6, 2, 1, 0] rfl)
set_option maxRecDepth 100000 in
set_option maxHeartbeats 4000000 in
theorem k_X12_sure_52l {p : Program} {l : Launch} {e : Env} {s : State} {m : MethodId} {args : Array Value} {below : List Frame} {meth : Method} {c : Code} {D : va_G} {cy : Nat → ClassId} {z0 : Nat} {ad : Nat → Nat} {X : va_W} {u : Nat × Nat} (hC : cx_C p s m args meth c cX12_sure "RhymedThenModel" (Cond.code yX12_sure cX12_sure 7 (some .int)) 7 (some .int)) {z : (Int32 × mm_M)} : ∀ (n : Nat) (x1 : Int32) (x2 : Int32) (x3 : Int32) (x4 : Int32) (x5 : Int32) (x6 : Int32) (M : mm_M) (H : Heap) (locs : List Loc) (ls : Array Slot), f_X12_sure_52l n x1 x2 x3 x4 x5 x6 M = some z → wd_in rf_T D cy z0 ad u M X s H locs → lv_has ls 7 [(0, .ref (ad 0)), (1, .int x1), (2, .int x2), (3, .int x3), (4, .int x4), (5, .int x5), (6, .int x6)] → W p l e { frames := 8, cells := 0, slots := 0, locals := 189 } s m args below meth c H locs 0 0 (MQ below (cq_i rf_T D cy z0 ad u X z.1 z.2) args s 0 0 (fun q => z0 ≤ q)) (F0 m 52 ls []) := by
  intro n
  induction n with
  | zero => intro x1 x2 x3 x4 x5 x6 M H locs ls hf; exact absurd hf (by simp [f_X12_sure_52l])
  | succ n ih => intro x1 x2 x3 x4 x5 x6 M H locs ls hf hw hl; exact k_X12_sure_52 hC ih hf hw hl
set_option maxRecDepth 100000 in
set_option maxHeartbeats 4000000 in
theorem k_X12_sure {p : Program} {l : Launch} {e : Env} {s : State} {m : MethodId} {args : Array Value} {below : List Frame} {meth : Method} {c : Code} {D : va_G} {cy : Nat → ClassId} {z0 : Nat} {ad : Nat → Nat} {X : va_W} {u : Nat × Nat} (hC : cx_C p s m args meth c cX12_sure "RhymedThenModel" (Cond.code yX12_sure cX12_sure 7 (some .int)) 7 (some .int)) {z : (Int32 × mm_M)} {x1 : Int32} {x2 : Int32} {x3 : Int32} {M : mm_M} (hf : f_X12_sure x1 x2 x3 M = some z) {H : Heap} {locs : List Loc} (hw : wd_in rf_T D cy z0 ad u M X s H locs) {ls : Array Slot} (hl : lv_has ls 7 [(0, .ref (ad 0)), (1, .int x1), (2, .int x2), (3, .int x3)]) : W p l e { frames := 8, cells := 0, slots := 0, locals := 189 } s m args below meth c H locs 0 0 (MQ below (cq_i rf_T D cy z0 ad u X z.1 z.2) args s 0 0 (fun q => z0 ≤ q)) (F0 m 0 ls []) := by
  have hx := hC.1
  have hb := hC.2.1
  unfold f_X12_sure at hf
  refine lv_aload_n hx hb dX12_sure_0 rfl (lv_at hl 0 rfl) ?_
  refine lv_iconst (v := 0) hx hb dX12_sure_1 (by decide) ?_
  obtain ⟨M1, eM1, hf⟩ := sq_e hf
  refine rp_i hC hw 0 (Nat.le_of_ble_eq_true rfl) rfl fd_X12_0 wf_X12_1 fp_X12_0 rfl rfl dX12_sure_2 eM1 (fun H locs hw => ?_)
  refine lv_aload_n hx hb dX12_sure_5 rfl (lv_at hl 0 rfl) ?_
  refine lv_iload_n hx hb dX12_sure_6 rfl (lv_at hl 1 rfl) ?_
  obtain ⟨z2, ez2, hf⟩ := sq_e hf
  refine clc_Vi hC hw (c_X12_isWord ez2.symm) hd_X12_isWord cw_X12_191 (Nat.le_of_ble_eq_true rfl) rfl rfl (rest := []) hl.1 rfl (Nat.le_of_ble_eq_true rfl) ⟨Nat.le_of_ble_eq_true rfl, Nat.le_of_ble_eq_true rfl⟩ ⟨Nat.zero_le _, Nat.zero_le _⟩ rfl dX12_sure_7 (fun H locs hw => ?_)
  refine lv_if_eq (tgt := 21) hx hb dX12_sure_10 (by decide) (fun c3 => ?_) (fun c3 => ?_)
  · rw [if_pos c3] at hf
    refine lv_iconst (v := (-1)) hx hb dX12_sure_21 (by decide) ?_
    have hz := Option.some.inj hf
    subst hz
    exact rtc_i hC hw dX12_sure_22
  · rw [if_neg c3] at hf
    refine lv_iload_n hx hb dX12_sure_13 rfl (lv_at hl 2 rfl) ?_
    refine lv_iload_n hx hb dX12_sure_14 rfl (lv_at hl 3 rfl) ?_
    obtain ⟨z4, ez4, hf⟩ := sq_e hf
    refine clc_Si hC hw (c_X12_isThen ez4.symm) hd_X12_isThen cw_X12_197 (rest := []) hl.1 rfl (Nat.le_of_ble_eq_true rfl) ⟨Nat.le_of_ble_eq_true rfl, Nat.le_of_ble_eq_true rfl⟩ ⟨Nat.zero_le _, Nat.zero_le _⟩ rfl dX12_sure_15 (fun H locs hw => ?_)
    refine lv_if_ne (tgt := 23) hx hb dX12_sure_18 (by decide) (fun c5 => ?_) (fun c5 => ?_)
    · rw [if_neg c5] at hf
      refine lv_aload_n hx hb dX12_sure_23 rfl (lv_at hl 0 rfl) ?_
      obtain ⟨z6, ez6, hf⟩ := bd_e hf
      refine clc_Vv hC hw (c_X12_gathers ez6) hd_X12_gathers cw_X12_282 (Nat.le_of_ble_eq_true rfl) rfl rfl (rest := []) hl.1 rfl (Nat.le_of_ble_eq_true rfl) ⟨Nat.le_of_ble_eq_true rfl, Nat.le_of_ble_eq_true rfl⟩ ⟨Nat.zero_le _, Nat.zero_le _⟩ rfl dX12_sure_24 (fun H locs hw => ?_)
      refine lv_aload_n hx hb dX12_sure_27 rfl (lv_at hl 0 rfl) ?_
      refine rg_i hC hw 0 (Nat.le_of_ble_eq_true rfl) rfl fd_X12_39 wf_X12_273 dX12_sure_28 ?_
      refine lv_if_ne (tgt := 37) hx hb dX12_sure_31 (by decide) (fun c7 => ?_) (fun c7 => ?_)
      · rw [if_neg c7] at hf
        refine lv_aload_n hx hb dX12_sure_37 rfl (lv_at hl 0 rfl) ?_
        refine lv_iconst (v := 0) hx hb dX12_sure_38 (by decide) ?_
        obtain ⟨M8, eM8, hf⟩ := sq_e hf
        refine rp_i hC hw 0 (Nat.le_of_ble_eq_true rfl) rfl fd_X12_42 wf_X12_294 fp_X12_42 rfl rfl dX12_sure_39 eM8 (fun H locs hw => ?_)
        refine lv_bipush (v := 8) hx hb dX12_sure_42 (by decide) ?_
        refine lv_istore (lv' := [(4, .int 8), (0, .ref (ad 0)), (1, .int x1), (2, .int x2), (3, .int x3)]) hx hb dX12_sure_44 hl (by decide) rfl (fun ls hl => ?_)
        refine lv_iconst (v := 0) hx hb dX12_sure_46 (by decide) ?_
        refine lv_istore (lv' := [(5, .int 0), (4, .int 8), (0, .ref (ad 0)), (1, .int x1), (2, .int x2), (3, .int x3)]) hx hb dX12_sure_47 hl (by decide) rfl (fun ls hl => ?_)
        refine lv_iconst (v := 0) hx hb dX12_sure_49 (by decide) ?_
        refine lv_istore (lv' := [(6, .int 0), (5, .int 0), (4, .int 8), (0, .ref (ad 0)), (1, .int x1), (2, .int x2), (3, .int x3)]) hx hb dX12_sure_50 hl (by decide) rfl (fun ls hl => ?_)
        exact k_X12_sure_52l hC fu_ _ _ _ _ _ _ _ _ _ _ hf hw (lv_sub hl [3, 4, 5, 6, 2, 1, 0] rfl)
      · rw [if_pos c7] at hf
        refine lv_bipush (v := (-2)) hx hb dX12_sure_34 (by decide) ?_
        have hz := Option.some.inj hf
        subst hz
        exact rtc_i hC hw dX12_sure_36
    · rw [if_pos c5] at hf
      refine lv_iconst (v := (-1)) hx hb dX12_sure_21 (by decide) ?_
      have hz := Option.some.inj hf
      subst hz
      exact rtc_i hC hw dX12_sure_22
set_option maxRecDepth 100000 in
theorem c_X12_sure {l : Launch} {D : va_G} {cy : Nat → ClassId} {z0 : Nat} {ad : Nat → Nat} {u : Nat × Nat} {X : va_W} {z : (Int32 × mm_M)} {x1 : Int32} {x2 : Int32} {x3 : Int32} {M : mm_M} (hf : f_X12_sure x1 x2 x3 M = some z) : ct_i rf_T l yX12_sure (Cond.code yX12_sure cX12_sure 7 (some .int)) 8 189 D cy z0 ad u M X [.ref (ad 0), .int x1, .int x2, .int x3] z.1 z.2 := by
  refine bgc_i (by decide) (fun p e s m below meth c hC hw => ?_)
  refine en_t (Nat.le_of_ble_eq_true rfl) (fun ls hl => ?_)
  have hl : lv_has ls 7 [(0, .ref (ad 0)), (1, .int x1), (2, .int x2), (3, .int x3)] := hl
  exact k_X12_sure hC hf hw hl
set_option maxRecDepth 100000 in
set_option maxHeartbeats 4000000 in
theorem k_X12_shows {p : Program} {l : Launch} {e : Env} {s : State} {m : MethodId} {args : Array Value} {below : List Frame} {meth : Method} {c : Code} {D : va_G} {cy : Nat → ClassId} {z0 : Nat} {ad : Nat → Nat} {X : va_W} {u : Nat × Nat} (hC : cx_C p s m args meth c cX12_shows "RhymedThenModel" (Cond.code yX12_shows cX12_shows 5 (some .int)) 5 (some .int)) {z : (Int32 × mm_M)} {x1 : Int32} {x2 : Int32} {M : mm_M} (hf : f_X12_shows x1 x2 M = some z) {H : Heap} {locs : List Loc} (hw : wd_in rf_T D cy z0 ad u M X s H locs) {ls : Array Slot} (hl : lv_has ls 5 [(0, .ref (ad 0)), (1, .int x1), (2, .int x2)]) : W p l e { frames := 7, cells := 0, slots := 0, locals := 168 } s m args below meth c H locs 0 0 (MQ below (cq_i rf_T D cy z0 ad u X z.1 z.2) args s 0 0 (fun q => z0 ≤ q)) (F0 m 0 ls []) := by
  have hx := hC.1
  have hb := hC.2.1
  unfold f_X12_shows at hf
  refine lv_aload_n hx hb dX12_shows_0 rfl (lv_at hl 0 rfl) ?_
  refine lv_iconst (v := 0) hx hb dX12_shows_1 (by decide) ?_
  obtain ⟨M1, eM1, hf⟩ := sq_e hf
  refine rp_i hC hw 0 (Nat.le_of_ble_eq_true rfl) rfl fd_X12_0 wf_X12_1 fp_X12_0 rfl rfl dX12_shows_2 eM1 (fun H locs hw => ?_)
  refine lv_aload_n hx hb dX12_shows_5 rfl (lv_at hl 0 rfl) ?_
  refine lv_iload_n hx hb dX12_shows_6 rfl (lv_at hl 1 rfl) ?_
  obtain ⟨z2, ez2, hf⟩ := sq_e hf
  refine clc_Vi hC hw (c_X12_isLaw ez2.symm) hd_X12_isLaw cw_X12_217 (Nat.le_of_ble_eq_true rfl) rfl rfl (rest := []) hl.1 rfl (Nat.le_of_ble_eq_true rfl) ⟨Nat.le_of_ble_eq_true rfl, Nat.le_of_ble_eq_true rfl⟩ ⟨Nat.zero_le _, Nat.zero_le _⟩ rfl dX12_shows_7 (fun H locs hw => ?_)
  refine lv_if_eq (tgt := 21) hx hb dX12_shows_10 (by decide) (fun c3 => ?_) (fun c3 => ?_)
  · rw [if_pos c3] at hf
    refine lv_iconst (v := (-1)) hx hb dX12_shows_21 (by decide) ?_
    have hz := Option.some.inj hf
    subst hz
    exact rtc_i hC hw dX12_shows_22
  · rw [if_neg c3] at hf
    refine lv_aload_n hx hb dX12_shows_13 rfl (lv_at hl 0 rfl) ?_
    refine lv_iload_n hx hb dX12_shows_14 rfl (lv_at hl 2 rfl) ?_
    obtain ⟨z4, ez4, hf⟩ := bd_e hf
    refine clc_Vi hC hw (c_X12_isHistory ez4) hd_X12_isHistory cw_X12_194 (Nat.le_of_ble_eq_true rfl) rfl rfl (rest := []) hl.1 rfl (Nat.le_of_ble_eq_true rfl) ⟨Nat.le_of_ble_eq_true rfl, Nat.le_of_ble_eq_true rfl⟩ ⟨Nat.zero_le _, Nat.zero_le _⟩ rfl dX12_shows_15 (fun H locs hw => ?_)
    refine lv_if_ne (tgt := 23) hx hb dX12_shows_18 (by decide) (fun c5 => ?_) (fun c5 => ?_)
    · rw [if_neg c5] at hf
      refine lv_aload_n hx hb dX12_shows_23 rfl (lv_at hl 0 rfl) ?_
      refine lv_iload_n hx hb dX12_shows_24 rfl (lv_at hl 2 rfl) ?_
      obtain ⟨z6, ez6, hf⟩ := bd_e hf
      refine clc_Vi hC hw (c_X12_wrongs ez6) hd_X12_wrongs cw_X12_286 (Nat.le_of_ble_eq_true rfl) rfl rfl (rest := []) hl.1 rfl (Nat.le_of_ble_eq_true rfl) ⟨Nat.le_of_ble_eq_true rfl, Nat.le_of_ble_eq_true rfl⟩ ⟨Nat.zero_le _, Nat.zero_le _⟩ rfl dX12_shows_25 (fun H locs hw => ?_)
      refine lv_istore_n (lv' := [(3, .int z6.1), (0, .ref (ad 0)), (1, .int x1), (2, .int x2)]) hx hb dX12_shows_28 rfl hl (by decide) rfl (fun ls hl => ?_)
      refine lv_aload_n hx hb dX12_shows_29 rfl (lv_at hl 1 rfl) ?_
      refine lv_iconst (v := 1) hx hb dX12_shows_30 (by decide) ?_
      refine lv_iload_n hx hb dX12_shows_31 rfl (lv_at hl 2 rfl) ?_
      refine lv_ishl hx hb dX12_shows_32 ?_
      obtain ⟨M7, eM7, hf⟩ := sq_e hf
      refine rp_i hC hw 0 (Nat.le_of_ble_eq_true rfl) rfl fd_X12_25 wf_X12_133 fp_X12_25 rfl rfl dX12_shows_33 eM7 (fun H locs hw => ?_)
      refine lv_aload_n hx hb dX12_shows_36 rfl (lv_at hl 1 rfl) ?_
      refine lv_iload_n hx hb dX12_shows_37 rfl (lv_at hl 3 rfl) ?_
      obtain ⟨z8, ez8, hf⟩ := bd_e hf
      refine clc_Vi hC hw (c_X12_wrongs ez8) hd_X12_wrongs cw_X12_286 (Nat.le_of_ble_eq_true rfl) rfl rfl (rest := []) hl.1 rfl (Nat.le_of_ble_eq_true rfl) ⟨Nat.le_of_ble_eq_true rfl, Nat.le_of_ble_eq_true rfl⟩ ⟨Nat.zero_le _, Nat.zero_le _⟩ rfl dX12_shows_38 (fun H locs hw => ?_)
      refine lv_istore (lv' := [(4, .int z8.1), (3, .int z6.1), (0, .ref (ad 0)), (1, .int x1), (2, .int x2)]) hx hb dX12_shows_41 hl (by decide) rfl (fun ls hl => ?_)
      refine lv_aload_n hx hb dX12_shows_43 rfl (lv_at hl 2 rfl) ?_
      refine lv_iconst (v := 0) hx hb dX12_shows_44 (by decide) ?_
      obtain ⟨M9, eM9, hf⟩ := sq_e hf
      refine rp_i hC hw 0 (Nat.le_of_ble_eq_true rfl) rfl fd_X12_25 wf_X12_133 fp_X12_25 rfl rfl dX12_shows_45 eM9 (fun H locs hw => ?_)
      refine lv_iload hx hb dX12_shows_48 (lv_at hl 0 rfl) ?_
      refine lv_iload_n hx hb dX12_shows_50 rfl (lv_at hl 1 rfl) ?_
      refine lv_iconst (v := (-1)) hx hb dX12_shows_51 (by decide) ?_
      refine lv_ixor hx hb dX12_shows_52 ?_
      refine lv_iand hx hb dX12_shows_53 ?_
      have hz := Option.some.inj hf
      subst hz
      exact rtc_i hC hw dX12_shows_54
    · rw [if_pos c5] at hf
      refine lv_iconst (v := (-1)) hx hb dX12_shows_21 (by decide) ?_
      have hz := Option.some.inj hf
      subst hz
      exact rtc_i hC hw dX12_shows_22
set_option maxRecDepth 100000 in
theorem c_X12_shows {l : Launch} {D : va_G} {cy : Nat → ClassId} {z0 : Nat} {ad : Nat → Nat} {u : Nat × Nat} {X : va_W} {z : (Int32 × mm_M)} {x1 : Int32} {x2 : Int32} {M : mm_M} (hf : f_X12_shows x1 x2 M = some z) : ct_i rf_T l yX12_shows (Cond.code yX12_shows cX12_shows 5 (some .int)) 7 168 D cy z0 ad u M X [.ref (ad 0), .int x1, .int x2] z.1 z.2 := by
  refine bgc_i (by decide) (fun p e s m below meth c hC hw => ?_)
  refine en_t (Nat.le_of_ble_eq_true rfl) (fun ls hl => ?_)
  have hl : lv_has ls 5 [(0, .ref (ad 0)), (1, .int x1), (2, .int x2)] := hl
  exact k_X12_shows hC hf hw hl
set_option maxRecDepth 100000 in
set_option maxHeartbeats 4000000 in
theorem k_X12_least_88 {p : Program} {l : Launch} {e : Env} {s : State} {m : MethodId} {args : Array Value} {below : List Frame} {meth : Method} {c : Code} {D : va_G} {cy : Nat → ClassId} {z0 : Nat} {ad : Nat → Nat} {X : va_W} {u : Nat × Nat} (hC : cx_C p s m args meth c cX12_least "RhymedThenModel" (Cond.code yX12_least cX12_least 6 (some .int)) 6 (some .int)) {z : (Int32 × mm_M)} {x1 : Int32} {x2 : Int32} {x3 : Int32} {x4 : Int32} {M : mm_M} {q17 : Int32 → Int32 → Int32 → Int32 → mm_M → Option (Int32 × mm_M)} (hq17 : ∀ (x1 : Int32) (x2 : Int32) (x3 : Int32) (x4 : Int32) (M : mm_M) (H : Heap) (locs : List Loc) (ls : Array Slot), q17 x1 x2 x3 x4 M = some z → wd_in rf_T D cy z0 ad u M X s H locs → lv_has ls 6 [(0, .ref (ad 0)), (1, .int x1), (2, .int x2), (3, .int x3), (4, .int x4)] → W p l e { frames := 7, cells := 0, slots := 0, locals := 167 } s m args below meth c H locs 0 0 (MQ below (cq_i rf_T D cy z0 ad u X z.1 z.2) args s 0 0 (fun q => z0 ≤ q)) (F0 m 17 ls [])) (hf : f_X12_least_88 q17 x1 x2 x3 x4 M = some z) {H : Heap} {locs : List Loc} (hw : wd_in rf_T D cy z0 ad u M X s H locs) {ls : Array Slot} (hl : lv_has ls 6 [(0, .ref (ad 0)), (1, .int x1), (2, .int x2), (3, .int x3), (4, .int x4)]) : W p l e { frames := 7, cells := 0, slots := 0, locals := 167 } s m args below meth c H locs 0 0 (MQ below (cq_i rf_T D cy z0 ad u X z.1 z.2) args s 0 0 (fun q => z0 ≤ q)) (F0 m 88 ls []) := by
  have hx := hC.1
  have hb := hC.2.1
  unfold f_X12_least_88 at hf
  obtain ⟨y15, ey15, hf⟩ := sq_e hf
  refine lv_iinc (v := y15) (lv' := [(4, .int y15), (0, .ref (ad 0)), (1, .int x1), (2, .int x2), (3, .int x3)]) hx hb dX12_least_88 hl (k := 4) rfl (by rw [ey15]; rfl) (by decide) rfl (fun ls hl => ?_)
  refine lv_goto (tgt := 17) hx hb dX12_least_91 (by decide) ?_
  exact hq17 _ _ _ _ _ _ _ _ hf hw (lv_sub hl [1, 2, 3, 4, 0] rfl)
set_option maxRecDepth 100000 in
set_option maxHeartbeats 4000000 in
theorem k_X12_least_73 {p : Program} {l : Launch} {e : Env} {s : State} {m : MethodId} {args : Array Value} {below : List Frame} {meth : Method} {c : Code} {D : va_G} {cy : Nat → ClassId} {z0 : Nat} {ad : Nat → Nat} {X : va_W} {u : Nat × Nat} (hC : cx_C p s m args meth c cX12_least "RhymedThenModel" (Cond.code yX12_least cX12_least 6 (some .int)) 6 (some .int)) {z : (Int32 × mm_M)} {x3 : Int32} {x4 : Int32} {x5 : Int32} {M : mm_M} {q17 : Int32 → Int32 → Int32 → Int32 → mm_M → Option (Int32 × mm_M)} (hq17 : ∀ (x1 : Int32) (x2 : Int32) (x3 : Int32) (x4 : Int32) (M : mm_M) (H : Heap) (locs : List Loc) (ls : Array Slot), q17 x1 x2 x3 x4 M = some z → wd_in rf_T D cy z0 ad u M X s H locs → lv_has ls 6 [(0, .ref (ad 0)), (1, .int x1), (2, .int x2), (3, .int x3), (4, .int x4)] → W p l e { frames := 7, cells := 0, slots := 0, locals := 167 } s m args below meth c H locs 0 0 (MQ below (cq_i rf_T D cy z0 ad u X z.1 z.2) args s 0 0 (fun q => z0 ≤ q)) (F0 m 17 ls [])) (hf : f_X12_least_73 q17 x3 x4 x5 M = some z) {H : Heap} {locs : List Loc} (hw : wd_in rf_T D cy z0 ad u M X s H locs) {ls : Array Slot} (hl : lv_has ls 6 [(0, .ref (ad 0)), (3, .int x3), (4, .int x4), (5, .int x5)]) : W p l e { frames := 7, cells := 0, slots := 0, locals := 167 } s m args below meth c H locs 0 0 (MQ below (cq_i rf_T D cy z0 ad u X z.1 z.2) args s 0 0 (fun q => z0 ≤ q)) (F0 m 73 ls []) := by
  have hx := hC.1
  have hb := hC.2.1
  unfold f_X12_least_73 at hf
  refine lv_iload hx hb dX12_least_73 (lv_at hl 2 rfl) ?_
  refine lv_istore_n (lv' := [(1, .int x4), (0, .ref (ad 0)), (3, .int x3), (4, .int x4), (5, .int x5)]) hx hb dX12_least_75 rfl hl (by decide) rfl (fun ls hl => ?_)
  refine lv_iload hx hb dX12_least_76 (lv_at hl 4 rfl) ?_
  refine lv_istore_n (lv' := [(2, .int x5), (1, .int x4), (0, .ref (ad 0)), (3, .int x3), (4, .int x4), (5, .int x5)]) hx hb dX12_least_78 rfl hl (by decide) rfl (fun ls hl => ?_)
  refine lv_goto (tgt := 88) hx hb dX12_least_79 (by decide) ?_
  exact k_X12_least_88 hC hq17 hf hw (lv_sub hl [2, 1, 0, 3, 4] rfl)
set_option maxRecDepth 100000 in
set_option maxHeartbeats 4000000 in
theorem k_X12_least_58 {p : Program} {l : Launch} {e : Env} {s : State} {m : MethodId} {args : Array Value} {below : List Frame} {meth : Method} {c : Code} {D : va_G} {cy : Nat → ClassId} {z0 : Nat} {ad : Nat → Nat} {X : va_W} {u : Nat × Nat} (hC : cx_C p s m args meth c cX12_least "RhymedThenModel" (Cond.code yX12_least cX12_least 6 (some .int)) 6 (some .int)) {z : (Int32 × mm_M)} {x1 : Int32} {x2 : Int32} {x3 : Int32} {x4 : Int32} {x5 : Int32} {M : mm_M} {q17 : Int32 → Int32 → Int32 → Int32 → mm_M → Option (Int32 × mm_M)} (hq17 : ∀ (x1 : Int32) (x2 : Int32) (x3 : Int32) (x4 : Int32) (M : mm_M) (H : Heap) (locs : List Loc) (ls : Array Slot), q17 x1 x2 x3 x4 M = some z → wd_in rf_T D cy z0 ad u M X s H locs → lv_has ls 6 [(0, .ref (ad 0)), (1, .int x1), (2, .int x2), (3, .int x3), (4, .int x4)] → W p l e { frames := 7, cells := 0, slots := 0, locals := 167 } s m args below meth c H locs 0 0 (MQ below (cq_i rf_T D cy z0 ad u X z.1 z.2) args s 0 0 (fun q => z0 ≤ q)) (F0 m 17 ls [])) {q58 : Int32 → Int32 → Int32 → Int32 → Int32 → mm_M → Option (Int32 × mm_M)} (hq58 : ∀ (x1 : Int32) (x2 : Int32) (x3 : Int32) (x4 : Int32) (x5 : Int32) (M : mm_M) (H : Heap) (locs : List Loc) (ls : Array Slot), q58 x1 x2 x3 x4 x5 M = some z → wd_in rf_T D cy z0 ad u M X s H locs → lv_has ls 6 [(0, .ref (ad 0)), (1, .int x1), (2, .int x2), (3, .int x3), (4, .int x4), (5, .int x5)] → W p l e { frames := 7, cells := 0, slots := 0, locals := 167 } s m args below meth c H locs 0 0 (MQ below (cq_i rf_T D cy z0 ad u X z.1 z.2) args s 0 0 (fun q => z0 ≤ q)) (F0 m 58 ls [])) (hf : f_X12_least_58 q17 q58 x1 x2 x3 x4 x5 M = some z) {H : Heap} {locs : List Loc} (hw : wd_in rf_T D cy z0 ad u M X s H locs) {ls : Array Slot} (hl : lv_has ls 6 [(0, .ref (ad 0)), (1, .int x1), (2, .int x2), (3, .int x3), (4, .int x4), (5, .int x5)]) : W p l e { frames := 7, cells := 0, slots := 0, locals := 167 } s m args below meth c H locs 0 0 (MQ below (cq_i rf_T D cy z0 ad u X z.1 z.2) args s 0 0 (fun q => z0 ≤ q)) (F0 m 58 ls []) := by
  have hx := hC.1
  have hb := hC.2.1
  unfold f_X12_least_58 at hf
  refine lv_iload hx hb dX12_least_58 (lv_at hl 5 rfl) ?_
  refine lv_iload_n hx hb dX12_least_60 rfl (lv_at hl 3 rfl) ?_
  refine lv_icmp_ge (tgt := 88) hx hb dX12_least_61 (by decide) (fun c16 => ?_) (fun c16 => ?_)
  · rw [if_pos c16] at hf
    exact k_X12_least_88 hC hq17 hf hw (lv_sub hl [0, 1, 2, 3, 4] rfl)
  · rw [if_neg c16] at hf
    refine lv_aload_n hx hb dX12_least_64 rfl (lv_at hl 0 rfl) ?_
    refine lv_iload hx hb dX12_least_65 (lv_at hl 5 rfl) ?_
    obtain ⟨z17, ez17, hf⟩ := bd_e hf
    refine clc_Vi hC hw (c_X12_isFit ez17) hd_X12_isFit cw_X12_276 (Nat.le_of_ble_eq_true rfl) rfl rfl (rest := []) hl.1 rfl (Nat.le_of_ble_eq_true rfl) ⟨Nat.le_of_ble_eq_true rfl, Nat.le_of_ble_eq_true rfl⟩ ⟨Nat.zero_le _, Nat.zero_le _⟩ rfl dX12_least_67 (fun H locs hw => ?_)
    refine lv_if_eq (tgt := 82) hx hb dX12_least_70 (by decide) (fun c18 => ?_) (fun c18 => ?_)
    · rw [if_pos c18] at hf
      obtain ⟨y19, ey19, hf⟩ := sq_e hf
      refine lv_iinc (v := y19) (lv' := [(5, .int y19), (0, .ref (ad 0)), (1, .int x1), (2, .int x2), (3, .int x3), (4, .int x4)]) hx hb dX12_least_82 hl (k := 5) rfl (by rw [ey19]; rfl) (by decide) rfl (fun ls hl => ?_)
      refine lv_goto (tgt := 58) hx hb dX12_least_85 (by decide) ?_
      exact hq58 _ _ _ _ _ _ _ _ _ hf hw (lv_sub hl [1, 2, 3, 4, 5, 0] rfl)
    · rw [if_neg c18] at hf
      exact k_X12_least_73 hC hq17 hf hw (lv_sub hl [0, 3, 4, 5] rfl)
set_option maxRecDepth 100000 in
set_option maxHeartbeats 4000000 in
theorem k_X12_least_58l {p : Program} {l : Launch} {e : Env} {s : State} {m : MethodId} {args : Array Value} {below : List Frame} {meth : Method} {c : Code} {D : va_G} {cy : Nat → ClassId} {z0 : Nat} {ad : Nat → Nat} {X : va_W} {u : Nat × Nat} (hC : cx_C p s m args meth c cX12_least "RhymedThenModel" (Cond.code yX12_least cX12_least 6 (some .int)) 6 (some .int)) {z : (Int32 × mm_M)} {q17 : Int32 → Int32 → Int32 → Int32 → mm_M → Option (Int32 × mm_M)} (hq17 : ∀ (x1 : Int32) (x2 : Int32) (x3 : Int32) (x4 : Int32) (M : mm_M) (H : Heap) (locs : List Loc) (ls : Array Slot), q17 x1 x2 x3 x4 M = some z → wd_in rf_T D cy z0 ad u M X s H locs → lv_has ls 6 [(0, .ref (ad 0)), (1, .int x1), (2, .int x2), (3, .int x3), (4, .int x4)] → W p l e { frames := 7, cells := 0, slots := 0, locals := 167 } s m args below meth c H locs 0 0 (MQ below (cq_i rf_T D cy z0 ad u X z.1 z.2) args s 0 0 (fun q => z0 ≤ q)) (F0 m 17 ls [])) : ∀ (n : Nat) (x1 : Int32) (x2 : Int32) (x3 : Int32) (x4 : Int32) (x5 : Int32) (M : mm_M) (H : Heap) (locs : List Loc) (ls : Array Slot), f_X12_least_58l q17 n x1 x2 x3 x4 x5 M = some z → wd_in rf_T D cy z0 ad u M X s H locs → lv_has ls 6 [(0, .ref (ad 0)), (1, .int x1), (2, .int x2), (3, .int x3), (4, .int x4), (5, .int x5)] → W p l e { frames := 7, cells := 0, slots := 0, locals := 167 } s m args below meth c H locs 0 0 (MQ below (cq_i rf_T D cy z0 ad u X z.1 z.2) args s 0 0 (fun q => z0 ≤ q)) (F0 m 58 ls []) := by
  intro n
  induction n with
  | zero => intro x1 x2 x3 x4 x5 M H locs ls hf; exact absurd hf (by simp [f_X12_least_58l])
  | succ n ih => intro x1 x2 x3 x4 x5 M H locs ls hf hw hl; exact k_X12_least_58 hC hq17 ih hf hw hl
set_option maxRecDepth 100000 in
set_option maxHeartbeats 4000000 in
theorem k_X12_least_47 {p : Program} {l : Launch} {e : Env} {s : State} {m : MethodId} {args : Array Value} {below : List Frame} {meth : Method} {c : Code} {D : va_G} {cy : Nat → ClassId} {z0 : Nat} {ad : Nat → Nat} {X : va_W} {u : Nat × Nat} (hC : cx_C p s m args meth c cX12_least "RhymedThenModel" (Cond.code yX12_least cX12_least 6 (some .int)) 6 (some .int)) {z : (Int32 × mm_M)} {x1 : Int32} {x2 : Int32} {x3 : Int32} {x4 : Int32} {M : mm_M} {q17 : Int32 → Int32 → Int32 → Int32 → mm_M → Option (Int32 × mm_M)} (hq17 : ∀ (x1 : Int32) (x2 : Int32) (x3 : Int32) (x4 : Int32) (M : mm_M) (H : Heap) (locs : List Loc) (ls : Array Slot), q17 x1 x2 x3 x4 M = some z → wd_in rf_T D cy z0 ad u M X s H locs → lv_has ls 6 [(0, .ref (ad 0)), (1, .int x1), (2, .int x2), (3, .int x3), (4, .int x4)] → W p l e { frames := 7, cells := 0, slots := 0, locals := 167 } s m args below meth c H locs 0 0 (MQ below (cq_i rf_T D cy z0 ad u X z.1 z.2) args s 0 0 (fun q => z0 ≤ q)) (F0 m 17 ls [])) (hf : f_X12_least_47 q17 x1 x2 x3 x4 M = some z) {H : Heap} {locs : List Loc} (hw : wd_in rf_T D cy z0 ad u M X s H locs) {ls : Array Slot} (hl : lv_has ls 6 [(0, .ref (ad 0)), (1, .int x1), (2, .int x2), (3, .int x3), (4, .int x4)]) : W p l e { frames := 7, cells := 0, slots := 0, locals := 167 } s m args below meth c H locs 0 0 (MQ below (cq_i rf_T D cy z0 ad u X z.1 z.2) args s 0 0 (fun q => z0 ≤ q)) (F0 m 47 ls []) := by
  have hx := hC.1
  have hb := hC.2.1
  unfold f_X12_least_47 at hf
  refine lv_aload_n hx hb dX12_least_47 rfl (lv_at hl 0 rfl) ?_
  refine lv_iload hx hb dX12_least_48 (lv_at hl 4 rfl) ?_
  refine lv_iconst (v := (-1)) hx hb dX12_least_50 (by decide) ?_
  refine lv_ixor hx hb dX12_least_51 ?_
  obtain ⟨M14, eM14, hf⟩ := sq_e hf
  refine rp_i hC hw 0 (Nat.le_of_ble_eq_true rfl) rfl fd_X12_25 wf_X12_133 fp_X12_25 rfl rfl dX12_least_52 eM14 (fun H locs hw => ?_)
  refine lv_iconst (v := 0) hx hb dX12_least_55 (by decide) ?_
  refine lv_istore (lv' := [(5, .int 0), (0, .ref (ad 0)), (1, .int x1), (2, .int x2), (3, .int x3), (4, .int x4)]) hx hb dX12_least_56 hl (by decide) rfl (fun ls hl => ?_)
  exact k_X12_least_58l hC hq17 fu_ _ _ _ _ _ _ _ _ _ hf hw (lv_sub hl [1, 2, 3, 4, 5, 0] rfl)
set_option maxRecDepth 100000 in
set_option maxHeartbeats 4000000 in
theorem k_X12_least_94 {p : Program} {l : Launch} {e : Env} {s : State} {m : MethodId} {args : Array Value} {below : List Frame} {meth : Method} {c : Code} {D : va_G} {cy : Nat → ClassId} {z0 : Nat} {ad : Nat → Nat} {X : va_W} {u : Nat × Nat} (hC : cx_C p s m args meth c cX12_least "RhymedThenModel" (Cond.code yX12_least cX12_least 6 (some .int)) 6 (some .int)) {z : (Int32 × mm_M)} {x1 : Int32} {x2 : Int32} {M : mm_M} (hf : f_X12_least_94 x1 x2 M = some z) {H : Heap} {locs : List Loc} (hw : wd_in rf_T D cy z0 ad u M X s H locs) {ls : Array Slot} (hl : lv_has ls 6 [(0, .ref (ad 0)), (1, .int x1), (2, .int x2)]) : W p l e { frames := 7, cells := 0, slots := 0, locals := 167 } s m args below meth c H locs 0 0 (MQ below (cq_i rf_T D cy z0 ad u X z.1 z.2) args s 0 0 (fun q => z0 ≤ q)) (F0 m 94 ls []) := by
  have hx := hC.1
  have hb := hC.2.1
  unfold f_X12_least_94 at hf
  refine lv_aload_n hx hb dX12_least_94 rfl (lv_at hl 0 rfl) ?_
  refine lv_iconst (v := 0) hx hb dX12_least_95 (by decide) ?_
  obtain ⟨M8, eM8, hf⟩ := sq_e hf
  refine rp_i hC hw 0 (Nat.le_of_ble_eq_true rfl) rfl fd_X12_25 wf_X12_133 fp_X12_25 rfl rfl dX12_least_96 eM8 (fun H locs hw => ?_)
  refine lv_iload_n hx hb dX12_least_99 rfl (lv_at hl 1 rfl) ?_
  refine lv_if_ge (tgt := 106) hx hb dX12_least_100 (by decide) (fun c9 => ?_) (fun c9 => ?_)
  · rw [if_pos c9] at hf
    refine lv_aload_n hx hb dX12_least_106 rfl (lv_at hl 0 rfl) ?_
    refine lv_iconst (v := 0) hx hb dX12_least_107 (by decide) ?_
    obtain ⟨M10, eM10, hf⟩ := sq_e hf
    refine rp_i hC hw 0 (Nat.le_of_ble_eq_true rfl) rfl fd_X12_1 wf_X12_11 fp_X12_1 rfl rfl dX12_least_108 eM10 (fun H locs hw => ?_)
    refine lv_aload_n hx hb dX12_least_111 rfl (lv_at hl 0 rfl) ?_
    refine lv_iload_n hx hb dX12_least_112 rfl (lv_at hl 1 rfl) ?_
    refine lv_i2l hx hb dX12_least_113 rfl ?_
    obtain ⟨z11, ez11, hf⟩ := bd_e hf
    refine clc_Vv hC hw (c_X12_enters ez11) hd_X12_enters cw_X12_18 (Nat.le_of_ble_eq_true rfl) rfl rfl (rest := []) hl.1 rfl (Nat.le_of_ble_eq_true rfl) ⟨Nat.le_of_ble_eq_true rfl, Nat.le_of_ble_eq_true rfl⟩ ⟨Nat.zero_le _, Nat.zero_le _⟩ rfl dX12_least_114 (fun H locs hw => ?_)
    refine lv_aload_n hx hb dX12_least_117 rfl (lv_at hl 0 rfl) ?_
    refine lv_iload_n hx hb dX12_least_118 rfl (lv_at hl 2 rfl) ?_
    refine lv_i2l hx hb dX12_least_119 rfl ?_
    obtain ⟨z12, ez12, hf⟩ := bd_e hf
    refine clc_Vv hC hw (c_X12_enters ez12) hd_X12_enters cw_X12_18 (Nat.le_of_ble_eq_true rfl) rfl rfl (rest := []) hl.1 rfl (Nat.le_of_ble_eq_true rfl) ⟨Nat.le_of_ble_eq_true rfl, Nat.le_of_ble_eq_true rfl⟩ ⟨Nat.zero_le _, Nat.zero_le _⟩ rfl dX12_least_120 (fun H locs hw => ?_)
    refine lv_iload_n hx hb dX12_least_123 rfl (lv_at hl 1 rfl) ?_
    obtain ⟨z13, ez13, hf⟩ := sq_e hf
    refine clc_Si hC hw (c_J6_bitCount_0f7a4 ez13.symm) hd_J6_bitCount_0f7a4 cw_X12_289 (rest := []) hl.1 rfl (Nat.le_of_ble_eq_true rfl) ⟨Nat.le_of_ble_eq_true rfl, Nat.le_of_ble_eq_true rfl⟩ ⟨Nat.zero_le _, Nat.zero_le _⟩ rfl dX12_least_124 (fun H locs hw => ?_)
    have hz := Option.some.inj hf
    subst hz
    exact rtc_i hC hw dX12_least_127
  · rw [if_neg c9] at hf
    refine lv_bipush (v := (-2)) hx hb dX12_least_103 (by decide) ?_
    have hz := Option.some.inj hf
    subst hz
    exact rtc_i hC hw dX12_least_105
set_option maxRecDepth 100000 in
set_option maxHeartbeats 4000000 in
theorem k_X12_least_17 {p : Program} {l : Launch} {e : Env} {s : State} {m : MethodId} {args : Array Value} {below : List Frame} {meth : Method} {c : Code} {D : va_G} {cy : Nat → ClassId} {z0 : Nat} {ad : Nat → Nat} {X : va_W} {u : Nat × Nat} (hC : cx_C p s m args meth c cX12_least "RhymedThenModel" (Cond.code yX12_least cX12_least 6 (some .int)) 6 (some .int)) {z : (Int32 × mm_M)} {x1 : Int32} {x2 : Int32} {x3 : Int32} {x4 : Int32} {M : mm_M} {q17 : Int32 → Int32 → Int32 → Int32 → mm_M → Option (Int32 × mm_M)} (hq17 : ∀ (x1 : Int32) (x2 : Int32) (x3 : Int32) (x4 : Int32) (M : mm_M) (H : Heap) (locs : List Loc) (ls : Array Slot), q17 x1 x2 x3 x4 M = some z → wd_in rf_T D cy z0 ad u M X s H locs → lv_has ls 6 [(0, .ref (ad 0)), (1, .int x1), (2, .int x2), (3, .int x3), (4, .int x4)] → W p l e { frames := 7, cells := 0, slots := 0, locals := 167 } s m args below meth c H locs 0 0 (MQ below (cq_i rf_T D cy z0 ad u X z.1 z.2) args s 0 0 (fun q => z0 ≤ q)) (F0 m 17 ls [])) (hf : f_X12_least_17 q17 x1 x2 x3 x4 M = some z) {H : Heap} {locs : List Loc} (hw : wd_in rf_T D cy z0 ad u M X s H locs) {ls : Array Slot} (hl : lv_has ls 6 [(0, .ref (ad 0)), (1, .int x1), (2, .int x2), (3, .int x3), (4, .int x4)]) : W p l e { frames := 7, cells := 0, slots := 0, locals := 167 } s m args below meth c H locs 0 0 (MQ below (cq_i rf_T D cy z0 ad u X z.1 z.2) args s 0 0 (fun q => z0 ≤ q)) (F0 m 17 ls []) := by
  have hx := hC.1
  have hb := hC.2.1
  unfold f_X12_least_17 at hf
  refine lv_iload hx hb dX12_least_17 (lv_at hl 4 rfl) ?_
  refine lv_iconst (v := 1) hx hb dX12_least_19 (by decide) ?_
  refine lv_aload_n hx hb dX12_least_20 rfl (lv_at hl 0 rfl) ?_
  refine rg_i hC hw 0 (Nat.le_of_ble_eq_true rfl) rfl fd_X12_11 wf_X12_99 dX12_least_21 ?_
  refine lv_ishl hx hb dX12_least_24 ?_
  refine lv_icmp_ge (tgt := 94) hx hb dX12_least_25 (by decide) (fun c3 => ?_) (fun c3 => ?_)
  · rw [if_pos c3] at hf
    exact k_X12_least_94 hC hf hw (lv_sub hl [0, 1, 2] rfl)
  · rw [if_neg c3] at hf
    refine lv_iload_n hx hb dX12_least_28 rfl (lv_at hl 1 rfl) ?_
    refine lv_if_lt (tgt := 47) hx hb dX12_least_29 (by decide) (fun c4 => ?_) (fun c4 => ?_)
    · rw [if_pos c4] at hf
      exact k_X12_least_47 hC hq17 hf hw (lv_sub hl [0, 1, 2, 3, 4] rfl)
    · rw [if_neg c4] at hf
      refine lv_iload hx hb dX12_least_32 (lv_at hl 4 rfl) ?_
      obtain ⟨z5, ez5, hf⟩ := sq_e hf
      refine clc_Si hC hw (c_J6_bitCount_0f7a4 ez5.symm) hd_J6_bitCount_0f7a4 cw_X12_289 (rest := []) hl.1 rfl (Nat.le_of_ble_eq_true rfl) ⟨Nat.le_of_ble_eq_true rfl, Nat.le_of_ble_eq_true rfl⟩ ⟨Nat.zero_le _, Nat.zero_le _⟩ rfl dX12_least_34 (fun H locs hw => ?_)
      refine lv_iload_n hx hb dX12_least_37 rfl (lv_at hl 1 rfl) ?_
      obtain ⟨z6, ez6, hf⟩ := sq_e hf
      refine clc_Si hC hw (c_J6_bitCount_0f7a4 ez6.symm) hd_J6_bitCount_0f7a4 cw_X12_289 (rest := [.int z5]) hl.1 rfl (Nat.le_of_ble_eq_true rfl) ⟨Nat.le_of_ble_eq_true rfl, Nat.le_of_ble_eq_true rfl⟩ ⟨Nat.zero_le _, Nat.zero_le _⟩ rfl dX12_least_38 (fun H locs hw => ?_)
      refine lv_icmp_lt (tgt := 47) hx hb dX12_least_41 (by decide) (fun c7 => ?_) (fun c7 => ?_)
      · rw [if_pos c7] at hf
        exact k_X12_least_47 hC hq17 hf hw (lv_sub hl [0, 1, 2, 3, 4] rfl)
      · rw [if_neg c7] at hf
        refine lv_goto (tgt := 88) hx hb dX12_least_44 (by decide) ?_
        exact k_X12_least_88 hC hq17 hf hw (lv_sub hl [0, 1, 2, 3, 4] rfl)
set_option maxRecDepth 100000 in
set_option maxHeartbeats 4000000 in
theorem k_X12_least_17l {p : Program} {l : Launch} {e : Env} {s : State} {m : MethodId} {args : Array Value} {below : List Frame} {meth : Method} {c : Code} {D : va_G} {cy : Nat → ClassId} {z0 : Nat} {ad : Nat → Nat} {X : va_W} {u : Nat × Nat} (hC : cx_C p s m args meth c cX12_least "RhymedThenModel" (Cond.code yX12_least cX12_least 6 (some .int)) 6 (some .int)) {z : (Int32 × mm_M)} : ∀ (n : Nat) (x1 : Int32) (x2 : Int32) (x3 : Int32) (x4 : Int32) (M : mm_M) (H : Heap) (locs : List Loc) (ls : Array Slot), f_X12_least_17l n x1 x2 x3 x4 M = some z → wd_in rf_T D cy z0 ad u M X s H locs → lv_has ls 6 [(0, .ref (ad 0)), (1, .int x1), (2, .int x2), (3, .int x3), (4, .int x4)] → W p l e { frames := 7, cells := 0, slots := 0, locals := 167 } s m args below meth c H locs 0 0 (MQ below (cq_i rf_T D cy z0 ad u X z.1 z.2) args s 0 0 (fun q => z0 ≤ q)) (F0 m 17 ls []) := by
  intro n
  induction n with
  | zero => intro x1 x2 x3 x4 M H locs ls hf; exact absurd hf (by simp [f_X12_least_17l])
  | succ n ih => intro x1 x2 x3 x4 M H locs ls hf hw hl; exact k_X12_least_17 hC ih hf hw hl
set_option maxRecDepth 100000 in
set_option maxHeartbeats 4000000 in
theorem k_X12_least {p : Program} {l : Launch} {e : Env} {s : State} {m : MethodId} {args : Array Value} {below : List Frame} {meth : Method} {c : Code} {D : va_G} {cy : Nat → ClassId} {z0 : Nat} {ad : Nat → Nat} {X : va_W} {u : Nat × Nat} (hC : cx_C p s m args meth c cX12_least "RhymedThenModel" (Cond.code yX12_least cX12_least 6 (some .int)) 6 (some .int)) {z : (Int32 × mm_M)} {M : mm_M} (hf : f_X12_least M = some z) {H : Heap} {locs : List Loc} (hw : wd_in rf_T D cy z0 ad u M X s H locs) {ls : Array Slot} (hl : lv_has ls 6 [(0, .ref (ad 0))]) : W p l e { frames := 7, cells := 0, slots := 0, locals := 167 } s m args below meth c H locs 0 0 (MQ below (cq_i rf_T D cy z0 ad u X z.1 z.2) args s 0 0 (fun q => z0 ≤ q)) (F0 m 0 ls []) := by
  have hx := hC.1
  have hb := hC.2.1
  unfold f_X12_least at hf
  refine lv_aload_n hx hb dX12_least_0 rfl (lv_at hl 0 rfl) ?_
  refine lv_iconst (v := 0) hx hb dX12_least_1 (by decide) ?_
  obtain ⟨M1, eM1, hf⟩ := sq_e hf
  refine rp_i hC hw 0 (Nat.le_of_ble_eq_true rfl) rfl fd_X12_0 wf_X12_1 fp_X12_0 rfl rfl dX12_least_2 eM1 (fun H locs hw => ?_)
  refine lv_iconst (v := (-1)) hx hb dX12_least_5 (by decide) ?_
  refine lv_istore_n (lv' := [(1, .int (-1)), (0, .ref (ad 0))]) hx hb dX12_least_6 rfl hl (by decide) rfl (fun ls hl => ?_)
  refine lv_iconst (v := 0) hx hb dX12_least_7 (by decide) ?_
  refine lv_istore_n (lv' := [(2, .int 0), (1, .int (-1)), (0, .ref (ad 0))]) hx hb dX12_least_8 rfl hl (by decide) rfl (fun ls hl => ?_)
  refine lv_aload_n hx hb dX12_least_9 rfl (lv_at hl 2 rfl) ?_
  obtain ⟨z2, ez2, hf⟩ := bd_e hf
  refine clc_Vi hC hw (c_X12_histories ez2) hd_X12_histories cw_X12_107 (Nat.le_of_ble_eq_true rfl) rfl rfl (rest := []) hl.1 rfl (Nat.le_of_ble_eq_true rfl) ⟨Nat.le_of_ble_eq_true rfl, Nat.le_of_ble_eq_true rfl⟩ ⟨Nat.zero_le _, Nat.zero_le _⟩ rfl dX12_least_10 (fun H locs hw => ?_)
  refine lv_istore_n (lv' := [(3, .int z2), (2, .int 0), (1, .int (-1)), (0, .ref (ad 0))]) hx hb dX12_least_13 rfl hl (by decide) rfl (fun ls hl => ?_)
  refine lv_iconst (v := 0) hx hb dX12_least_14 (by decide) ?_
  refine lv_istore (lv' := [(4, .int 0), (3, .int z2), (2, .int 0), (1, .int (-1)), (0, .ref (ad 0))]) hx hb dX12_least_15 hl (by decide) rfl (fun ls hl => ?_)
  exact k_X12_least_17l hC fu_ _ _ _ _ _ _ _ _ hf hw (lv_sub hl [4, 3, 2, 1, 0] rfl)
set_option maxRecDepth 100000 in
theorem c_X12_least {l : Launch} {D : va_G} {cy : Nat → ClassId} {z0 : Nat} {ad : Nat → Nat} {u : Nat × Nat} {X : va_W} {z : (Int32 × mm_M)} {M : mm_M} (hf : f_X12_least M = some z) : ct_i rf_T l yX12_least (Cond.code yX12_least cX12_least 6 (some .int)) 7 167 D cy z0 ad u M X [.ref (ad 0)] z.1 z.2 := by
  refine bgc_i (by decide) (fun p e s m below meth c hC hw => ?_)
  refine en_t (Nat.le_of_ble_eq_true rfl) (fun ls hl => ?_)
  have hl : lv_has ls 6 [(0, .ref (ad 0))] := hl
  exact k_X12_least hC hf hw hl
set_option maxRecDepth 100000 in
set_option maxHeartbeats 4000000 in
theorem k_X12_onMany_32 {p : Program} {l : Launch} {e : Env} {s : State} {m : MethodId} {args : Array Value} {below : List Frame} {meth : Method} {c : Code} {D : va_G} {cy : Nat → ClassId} {z0 : Nat} {ad : Nat → Nat} {X : va_W} {u : Nat × Nat} (hC : cx_C p s m args meth c cX12_onMany "RhymedThenModel" (Cond.code yX12_onMany cX12_onMany 4 (some .int)) 4 (some .int)) {z : Int32} {x1 : Int32} {x3 : Int32} {t0 : Int32} {t1 : Int32} {M : mm_M} {q4 : Int32 → Int32 → Int32 → Option Int32} (hq4 : ∀ (x1 : Int32) (x2 : Int32) (x3 : Int32) (H : Heap) (locs : List Loc) (ls : Array Slot), q4 x1 x2 x3 = some z → wd_in rf_T D cy z0 ad u M X s H locs → lv_has ls 4 [(0, .ref (ad 0)), (1, .int x1), (2, .int x2), (3, .int x3)] → W p l e { frames := 1, cells := 0, slots := 0, locals := 20 } s m args below meth c H locs 0 0 (MQ below (cq_i rf_T D cy z0 ad u X z M) args s 0 0 (fun q => z0 ≤ q)) (F0 m 4 ls [])) (hf : f_X12_onMany_32 q4 x1 x3 t0 t1 M = some z) {H : Heap} {locs : List Loc} (hw : wd_in rf_T D cy z0 ad u M X s H locs) {ls : Array Slot} (hl : lv_has ls 4 [(0, .ref (ad 0)), (1, .int x1), (3, .int x3)]) : W p l e { frames := 1, cells := 0, slots := 0, locals := 20 } s m args below meth c H locs 0 0 (MQ below (cq_i rf_T D cy z0 ad u X z M) args s 0 0 (fun q => z0 ≤ q)) (F0 m 32 ls [.int t1, .int t0]) := by
  have hx := hC.1
  have hb := hC.2.1
  unfold f_X12_onMany_32 at hf
  obtain ⟨z5, ez5, hf⟩ := sq_e hf
  refine clc_Si hC hw (c_X12_truth ez5.symm) hd_X12_truth cw_X12_39 (rest := [.int t0]) hl.1 rfl (Nat.le_of_ble_eq_true rfl) ⟨Nat.le_of_ble_eq_true rfl, Nat.le_of_ble_eq_true rfl⟩ ⟨Nat.zero_le _, Nat.zero_le _⟩ rfl dX12_onMany_32 (fun H locs hw => ?_)
  refine lv_iadd hx hb dX12_onMany_35 ?_
  obtain ⟨y6, ey6, hf⟩ := sq_e hf
  refine lt_i ey6 ?_
  refine lv_istore_n (lv' := [(2, .int y6), (0, .ref (ad 0)), (1, .int x1), (3, .int x3)]) hx hb dX12_onMany_36 rfl hl (by decide) rfl (fun ls hl => ?_)
  obtain ⟨y7, ey7, hf⟩ := sq_e hf
  refine lv_iinc (v := y7) (lv' := [(3, .int y7), (2, .int y6), (0, .ref (ad 0)), (1, .int x1)]) hx hb dX12_onMany_37 hl (k := 3) rfl (by rw [ey7]; rfl) (by decide) rfl (fun ls hl => ?_)
  refine lv_goto (tgt := 4) hx hb dX12_onMany_40 (by decide) ?_
  exact hq4 _ _ _ _ _ _ hf hw (lv_sub hl [2, 3, 1, 0] rfl)
set_option maxRecDepth 100000 in
set_option maxHeartbeats 4000000 in
theorem k_X12_onMany_31 {p : Program} {l : Launch} {e : Env} {s : State} {m : MethodId} {args : Array Value} {below : List Frame} {meth : Method} {c : Code} {D : va_G} {cy : Nat → ClassId} {z0 : Nat} {ad : Nat → Nat} {X : va_W} {u : Nat × Nat} (hC : cx_C p s m args meth c cX12_onMany "RhymedThenModel" (Cond.code yX12_onMany cX12_onMany 4 (some .int)) 4 (some .int)) {z : Int32} {x1 : Int32} {x3 : Int32} {t0 : Int32} {M : mm_M} {q4 : Int32 → Int32 → Int32 → Option Int32} (hq4 : ∀ (x1 : Int32) (x2 : Int32) (x3 : Int32) (H : Heap) (locs : List Loc) (ls : Array Slot), q4 x1 x2 x3 = some z → wd_in rf_T D cy z0 ad u M X s H locs → lv_has ls 4 [(0, .ref (ad 0)), (1, .int x1), (2, .int x2), (3, .int x3)] → W p l e { frames := 1, cells := 0, slots := 0, locals := 20 } s m args below meth c H locs 0 0 (MQ below (cq_i rf_T D cy z0 ad u X z M) args s 0 0 (fun q => z0 ≤ q)) (F0 m 4 ls [])) (hf : f_X12_onMany_31 q4 x1 x3 t0 M = some z) {H : Heap} {locs : List Loc} (hw : wd_in rf_T D cy z0 ad u M X s H locs) {ls : Array Slot} (hl : lv_has ls 4 [(0, .ref (ad 0)), (1, .int x1), (3, .int x3)]) : W p l e { frames := 1, cells := 0, slots := 0, locals := 20 } s m args below meth c H locs 0 0 (MQ below (cq_i rf_T D cy z0 ad u X z M) args s 0 0 (fun q => z0 ≤ q)) (F0 m 31 ls [.int t0]) := by
  have hx := hC.1
  have hb := hC.2.1
  unfold f_X12_onMany_31 at hf
  refine lv_iconst (v := 0) hx hb dX12_onMany_31 (by decide) ?_
  exact k_X12_onMany_32 hC hq4 hf hw (lv_sub hl [0, 1, 2] rfl)
set_option maxRecDepth 100000 in
set_option maxHeartbeats 4000000 in
theorem k_X12_onMany_4 {p : Program} {l : Launch} {e : Env} {s : State} {m : MethodId} {args : Array Value} {below : List Frame} {meth : Method} {c : Code} {D : va_G} {cy : Nat → ClassId} {z0 : Nat} {ad : Nat → Nat} {X : va_W} {u : Nat × Nat} (hC : cx_C p s m args meth c cX12_onMany "RhymedThenModel" (Cond.code yX12_onMany cX12_onMany 4 (some .int)) 4 (some .int)) {z : Int32} {x1 : Int32} {x2 : Int32} {x3 : Int32} {M : mm_M} {q4 : Int32 → Int32 → Int32 → Option Int32} (hq4 : ∀ (x1 : Int32) (x2 : Int32) (x3 : Int32) (H : Heap) (locs : List Loc) (ls : Array Slot), q4 x1 x2 x3 = some z → wd_in rf_T D cy z0 ad u M X s H locs → lv_has ls 4 [(0, .ref (ad 0)), (1, .int x1), (2, .int x2), (3, .int x3)] → W p l e { frames := 1, cells := 0, slots := 0, locals := 20 } s m args below meth c H locs 0 0 (MQ below (cq_i rf_T D cy z0 ad u X z M) args s 0 0 (fun q => z0 ≤ q)) (F0 m 4 ls [])) (hf : f_X12_onMany_4 q4 x1 x2 x3 M = some z) {H : Heap} {locs : List Loc} (hw : wd_in rf_T D cy z0 ad u M X s H locs) {ls : Array Slot} (hl : lv_has ls 4 [(0, .ref (ad 0)), (1, .int x1), (2, .int x2), (3, .int x3)]) : W p l e { frames := 1, cells := 0, slots := 0, locals := 20 } s m args below meth c H locs 0 0 (MQ below (cq_i rf_T D cy z0 ad u X z M) args s 0 0 (fun q => z0 ≤ q)) (F0 m 4 ls []) := by
  have hx := hC.1
  have hb := hC.2.1
  unfold f_X12_onMany_4 at hf
  refine lv_iload_n hx hb dX12_onMany_4 rfl (lv_at hl 3 rfl) ?_
  refine lv_aload_n hx hb dX12_onMany_5 rfl (lv_at hl 0 rfl) ?_
  refine rg_i hC hw 0 (Nat.le_of_ble_eq_true rfl) rfl fd_X12_28 wf_X12_258 dX12_onMany_6 ?_
  refine lv_icmp_ge (tgt := 43) hx hb dX12_onMany_9 (by decide) (fun c1 => ?_) (fun c1 => ?_)
  · rw [if_pos c1] at hf
    refine lv_iload_n hx hb dX12_onMany_43 rfl (lv_at hl 2 rfl) ?_
    have hz := Option.some.inj hf
    subst hz
    exact rtc_i hC hw dX12_onMany_44
  · rw [if_neg c1] at hf
    refine lv_iload_n hx hb dX12_onMany_12 rfl (lv_at hl 2 rfl) ?_
    refine lv_aload_n hx hb dX12_onMany_13 rfl (lv_at hl 0 rfl) ?_
    refine rg_p hC hw 0 (Nat.le_of_ble_eq_true rfl) rfl fd_X12_37 wf_X12_250 (q := 26) rfl dX12_onMany_14 ?_
    refine lv_iload_n hx hb dX12_onMany_17 rfl (lv_at hl 3 rfl) ?_
    obtain ⟨h2, hf⟩ := ck_e hf
    refine ra_z hC hw 26 (Nat.le_of_ble_eq_true rfl) rfl h2 dX12_onMany_18 ?_
    refine lv_if_eq (tgt := 31) hx hb dX12_onMany_19 (by decide) (fun c3 => ?_) (fun c3 => ?_)
    · rw [if_pos c3] at hf
      exact k_X12_onMany_31 hC hq4 hf hw (lv_sub hl [0, 1, 3] rfl)
    · rw [if_neg c3] at hf
      refine lv_iload_n hx hb dX12_onMany_22 rfl (lv_at hl 3 rfl) ?_
      refine lv_iload_n hx hb dX12_onMany_23 rfl (lv_at hl 1 rfl) ?_
      refine lv_icmp_eq (tgt := 31) hx hb dX12_onMany_24 (by decide) (fun c4 => ?_) (fun c4 => ?_)
      · rw [if_pos c4] at hf
        exact k_X12_onMany_31 hC hq4 hf hw (lv_sub hl [0, 1, 3] rfl)
      · rw [if_neg c4] at hf
        refine lv_iconst (v := 1) hx hb dX12_onMany_27 (by decide) ?_
        refine lv_goto (tgt := 32) hx hb dX12_onMany_28 (by decide) ?_
        exact k_X12_onMany_32 hC hq4 hf hw (lv_sub hl [0, 1, 3] rfl)
set_option maxRecDepth 100000 in
set_option maxHeartbeats 4000000 in
theorem k_X12_onMany_4l {p : Program} {l : Launch} {e : Env} {s : State} {m : MethodId} {args : Array Value} {below : List Frame} {meth : Method} {c : Code} {D : va_G} {cy : Nat → ClassId} {z0 : Nat} {ad : Nat → Nat} {X : va_W} {u : Nat × Nat} (hC : cx_C p s m args meth c cX12_onMany "RhymedThenModel" (Cond.code yX12_onMany cX12_onMany 4 (some .int)) 4 (some .int)) {z : Int32} {M : mm_M} : ∀ (n : Nat) (x1 : Int32) (x2 : Int32) (x3 : Int32) (H : Heap) (locs : List Loc) (ls : Array Slot), f_X12_onMany_4l M n x1 x2 x3 = some z → wd_in rf_T D cy z0 ad u M X s H locs → lv_has ls 4 [(0, .ref (ad 0)), (1, .int x1), (2, .int x2), (3, .int x3)] → W p l e { frames := 1, cells := 0, slots := 0, locals := 20 } s m args below meth c H locs 0 0 (MQ below (cq_i rf_T D cy z0 ad u X z M) args s 0 0 (fun q => z0 ≤ q)) (F0 m 4 ls []) := by
  intro n
  induction n with
  | zero => intro x1 x2 x3 H locs ls hf; exact absurd hf (by simp [f_X12_onMany_4l])
  | succ n ih => intro x1 x2 x3 H locs ls hf hw hl; exact k_X12_onMany_4 hC ih hf hw hl
set_option maxRecDepth 100000 in
set_option maxHeartbeats 4000000 in
theorem k_X12_onMany {p : Program} {l : Launch} {e : Env} {s : State} {m : MethodId} {args : Array Value} {below : List Frame} {meth : Method} {c : Code} {D : va_G} {cy : Nat → ClassId} {z0 : Nat} {ad : Nat → Nat} {X : va_W} {u : Nat × Nat} (hC : cx_C p s m args meth c cX12_onMany "RhymedThenModel" (Cond.code yX12_onMany cX12_onMany 4 (some .int)) 4 (some .int)) {z : Int32} {x1 : Int32} {M : mm_M} (hf : f_X12_onMany x1 M = some z) {H : Heap} {locs : List Loc} (hw : wd_in rf_T D cy z0 ad u M X s H locs) {ls : Array Slot} (hl : lv_has ls 4 [(0, .ref (ad 0)), (1, .int x1)]) : W p l e { frames := 1, cells := 0, slots := 0, locals := 20 } s m args below meth c H locs 0 0 (MQ below (cq_i rf_T D cy z0 ad u X z M) args s 0 0 (fun q => z0 ≤ q)) (F0 m 0 ls []) := by
  have hx := hC.1
  have hb := hC.2.1
  unfold f_X12_onMany at hf
  refine lv_iconst (v := 0) hx hb dX12_onMany_0 (by decide) ?_
  refine lv_istore_n (lv' := [(2, .int 0), (0, .ref (ad 0)), (1, .int x1)]) hx hb dX12_onMany_1 rfl hl (by decide) rfl (fun ls hl => ?_)
  refine lv_iconst (v := 0) hx hb dX12_onMany_2 (by decide) ?_
  refine lv_istore_n (lv' := [(3, .int 0), (2, .int 0), (0, .ref (ad 0)), (1, .int x1)]) hx hb dX12_onMany_3 rfl hl (by decide) rfl (fun ls hl => ?_)
  exact k_X12_onMany_4l hC fu_ _ _ _ _ _ _ hf hw (lv_sub hl [2, 3, 1, 0] rfl)
set_option maxRecDepth 100000 in
theorem c_X12_onMany {l : Launch} {D : va_G} {cy : Nat → ClassId} {z0 : Nat} {ad : Nat → Nat} {u : Nat × Nat} {X : va_W} {z : Int32} {x1 : Int32} {M : mm_M} (hf : f_X12_onMany x1 M = some z) : ct_i rf_T l yX12_onMany (Cond.code yX12_onMany cX12_onMany 4 (some .int)) 1 20 D cy z0 ad u M X [.ref (ad 0), .int x1] z M := by
  refine bgc_i (by decide) (fun p e s m below meth c hC hw => ?_)
  refine en_t (Nat.le_of_ble_eq_true rfl) (fun ls hl => ?_)
  have hl : lv_has ls 4 [(0, .ref (ad 0)), (1, .int x1)] := hl
  exact k_X12_onMany hC hf hw hl
set_option maxRecDepth 100000 in
set_option maxHeartbeats 4000000 in
theorem k_X12_weightOf_65 {p : Program} {l : Launch} {e : Env} {s : State} {m : MethodId} {args : Array Value} {below : List Frame} {meth : Method} {c : Code} {D : va_G} {cy : Nat → ClassId} {z0 : Nat} {ad : Nat → Nat} {X : va_W} {u : Nat × Nat} (hC : cx_C p s m args meth c cX12_weightOf "RhymedThenModel" (Cond.code yX12_weightOf cX12_weightOf 6 (some .long)) 6 (some .long)) {z : (Int64 × mm_M)} {x1 : Int32} {x2 : Int32} {x3 : Int64} {x5 : Int32} {M : mm_M} {q5 : Int32 → Int32 → Int64 → Int32 → mm_M → Option (Int64 × mm_M)} (hq5 : ∀ (x1 : Int32) (x2 : Int32) (x3 : Int64) (x5 : Int32) (M : mm_M) (H : Heap) (locs : List Loc) (ls : Array Slot), q5 x1 x2 x3 x5 M = some z → wd_in rf_T D cy z0 ad u M X s H locs → lv_has ls 6 [(0, .ref (ad 0)), (1, .int x1), (2, .int x2), (3, .long x3), (5, .int x5)] → W p l e { frames := 6, cells := 0, slots := 0, locals := 145 } s m args below meth c H locs 0 0 (MQ below (cq_l rf_T D cy z0 ad u X z.1 z.2) args s 0 0 (fun q => z0 ≤ q)) (F0 m 5 ls [])) (hf : f_X12_weightOf_65 q5 x1 x2 x3 x5 M = some z) {H : Heap} {locs : List Loc} (hw : wd_in rf_T D cy z0 ad u M X s H locs) {ls : Array Slot} (hl : lv_has ls 6 [(0, .ref (ad 0)), (1, .int x1), (2, .int x2), (3, .long x3), (5, .int x5)]) : W p l e { frames := 6, cells := 0, slots := 0, locals := 145 } s m args below meth c H locs 0 0 (MQ below (cq_l rf_T D cy z0 ad u X z.1 z.2) args s 0 0 (fun q => z0 ≤ q)) (F0 m 65 ls []) := by
  have hx := hC.1
  have hb := hC.2.1
  unfold f_X12_weightOf_65 at hf
  obtain ⟨y9, ey9, hf⟩ := sq_e hf
  refine lv_iinc (v := y9) (lv' := [(5, .int y9), (0, .ref (ad 0)), (1, .int x1), (2, .int x2), (3, .long x3)]) hx hb dX12_weightOf_65 hl (k := 4) rfl (by rw [ey9]; rfl) (by decide) rfl (fun ls hl => ?_)
  refine lv_goto (tgt := 5) hx hb dX12_weightOf_68 (by decide) ?_
  exact hq5 _ _ _ _ _ _ _ _ hf hw (lv_sub hl [1, 2, 3, 4, 0] rfl)
set_option maxRecDepth 100000 in
set_option maxHeartbeats 4000000 in
theorem k_X12_weightOf_63 {p : Program} {l : Launch} {e : Env} {s : State} {m : MethodId} {args : Array Value} {below : List Frame} {meth : Method} {c : Code} {D : va_G} {cy : Nat → ClassId} {z0 : Nat} {ad : Nat → Nat} {X : va_W} {u : Nat × Nat} (hC : cx_C p s m args meth c cX12_weightOf "RhymedThenModel" (Cond.code yX12_weightOf cX12_weightOf 6 (some .long)) 6 (some .long)) {z : (Int64 × mm_M)} {x1 : Int32} {x2 : Int32} {x5 : Int32} {t0 : Int64} {t1 : Int64} {M : mm_M} {q5 : Int32 → Int32 → Int64 → Int32 → mm_M → Option (Int64 × mm_M)} (hq5 : ∀ (x1 : Int32) (x2 : Int32) (x3 : Int64) (x5 : Int32) (M : mm_M) (H : Heap) (locs : List Loc) (ls : Array Slot), q5 x1 x2 x3 x5 M = some z → wd_in rf_T D cy z0 ad u M X s H locs → lv_has ls 6 [(0, .ref (ad 0)), (1, .int x1), (2, .int x2), (3, .long x3), (5, .int x5)] → W p l e { frames := 6, cells := 0, slots := 0, locals := 145 } s m args below meth c H locs 0 0 (MQ below (cq_l rf_T D cy z0 ad u X z.1 z.2) args s 0 0 (fun q => z0 ≤ q)) (F0 m 5 ls [])) (hf : f_X12_weightOf_63 q5 x1 x2 x5 t0 t1 M = some z) {H : Heap} {locs : List Loc} (hw : wd_in rf_T D cy z0 ad u M X s H locs) {ls : Array Slot} (hl : lv_has ls 6 [(0, .ref (ad 0)), (1, .int x1), (2, .int x2), (5, .int x5)]) : W p l e { frames := 6, cells := 0, slots := 0, locals := 145 } s m args below meth c H locs 0 0 (MQ below (cq_l rf_T D cy z0 ad u X z.1 z.2) args s 0 0 (fun q => z0 ≤ q)) (F0 m 63 ls [.long t1, .long t0]) := by
  have hx := hC.1
  have hb := hC.2.1
  unfold f_X12_weightOf_63 at hf
  refine lv_lmul hx hb dX12_weightOf_63 ?_
  obtain ⟨y10, ey10, hf⟩ := sq_e hf
  refine lt_l ey10 ?_
  refine lv_lstore_n (lv' := [(3, .long y10), (0, .ref (ad 0)), (1, .int x1), (2, .int x2), (5, .int x5)]) hx hb dX12_weightOf_64 rfl hl (by decide) rfl (fun ls hl => ?_)
  exact k_X12_weightOf_65 hC hq5 hf hw (lv_sub hl [1, 2, 3, 0, 4] rfl)
set_option maxRecDepth 100000 in
set_option maxHeartbeats 4000000 in
theorem k_X12_weightOf_5 {p : Program} {l : Launch} {e : Env} {s : State} {m : MethodId} {args : Array Value} {below : List Frame} {meth : Method} {c : Code} {D : va_G} {cy : Nat → ClassId} {z0 : Nat} {ad : Nat → Nat} {X : va_W} {u : Nat × Nat} (hC : cx_C p s m args meth c cX12_weightOf "RhymedThenModel" (Cond.code yX12_weightOf cX12_weightOf 6 (some .long)) 6 (some .long)) {z : (Int64 × mm_M)} {x1 : Int32} {x2 : Int32} {x3 : Int64} {x5 : Int32} {M : mm_M} {q5 : Int32 → Int32 → Int64 → Int32 → mm_M → Option (Int64 × mm_M)} (hq5 : ∀ (x1 : Int32) (x2 : Int32) (x3 : Int64) (x5 : Int32) (M : mm_M) (H : Heap) (locs : List Loc) (ls : Array Slot), q5 x1 x2 x3 x5 M = some z → wd_in rf_T D cy z0 ad u M X s H locs → lv_has ls 6 [(0, .ref (ad 0)), (1, .int x1), (2, .int x2), (3, .long x3), (5, .int x5)] → W p l e { frames := 6, cells := 0, slots := 0, locals := 145 } s m args below meth c H locs 0 0 (MQ below (cq_l rf_T D cy z0 ad u X z.1 z.2) args s 0 0 (fun q => z0 ≤ q)) (F0 m 5 ls [])) (hf : f_X12_weightOf_5 q5 x1 x2 x3 x5 M = some z) {H : Heap} {locs : List Loc} (hw : wd_in rf_T D cy z0 ad u M X s H locs) {ls : Array Slot} (hl : lv_has ls 6 [(0, .ref (ad 0)), (1, .int x1), (2, .int x2), (3, .long x3), (5, .int x5)]) : W p l e { frames := 6, cells := 0, slots := 0, locals := 145 } s m args below meth c H locs 0 0 (MQ below (cq_l rf_T D cy z0 ad u X z.1 z.2) args s 0 0 (fun q => z0 ≤ q)) (F0 m 5 ls []) := by
  have hx := hC.1
  have hb := hC.2.1
  unfold f_X12_weightOf_5 at hf
  refine lv_iload hx hb dX12_weightOf_5 (lv_at hl 4 rfl) ?_
  refine lv_aload_n hx hb dX12_weightOf_7 rfl (lv_at hl 0 rfl) ?_
  refine rg_i hC hw 0 (Nat.le_of_ble_eq_true rfl) rfl fd_X12_28 wf_X12_258 dX12_weightOf_8 ?_
  refine lv_icmp_ge (tgt := 71) hx hb dX12_weightOf_11 (by decide) (fun c1 => ?_) (fun c1 => ?_)
  · rw [if_pos c1] at hf
    refine lv_lload_n hx hb dX12_weightOf_71 rfl (lv_at hl 3 rfl) ?_
    have hz := Option.some.inj hf
    subst hz
    exact rtc_l hC hw dX12_weightOf_72
  · rw [if_neg c1] at hf
    refine lv_aload_n hx hb dX12_weightOf_14 rfl (lv_at hl 0 rfl) ?_
    refine rg_p hC hw 0 (Nat.le_of_ble_eq_true rfl) rfl fd_X12_37 wf_X12_250 (q := 26) rfl dX12_weightOf_15 ?_
    refine lv_iload hx hb dX12_weightOf_18 (lv_at hl 4 rfl) ?_
    obtain ⟨h2, hf⟩ := ck_e hf
    refine ra_z hC hw 26 (Nat.le_of_ble_eq_true rfl) rfl h2 dX12_weightOf_20 ?_
    refine lv_if_eq (tgt := 65) hx hb dX12_weightOf_21 (by decide) (fun c3 => ?_) (fun c3 => ?_)
    · rw [if_pos c3] at hf
      exact k_X12_weightOf_65 hC hq5 hf hw (lv_sub hl [0, 1, 2, 3, 4] rfl)
    · rw [if_neg c3] at hf
      refine lv_iload hx hb dX12_weightOf_24 (lv_at hl 4 rfl) ?_
      refine lv_iload_n hx hb dX12_weightOf_26 rfl (lv_at hl 2 rfl) ?_
      refine lv_icmp_eq (tgt := 65) hx hb dX12_weightOf_27 (by decide) (fun c4 => ?_) (fun c4 => ?_)
      · rw [if_pos c4] at hf
        exact k_X12_weightOf_65 hC hq5 hf hw (lv_sub hl [0, 1, 2, 3, 4] rfl)
      · rw [if_neg c4] at hf
        refine lv_lload_n hx hb dX12_weightOf_30 rfl (lv_at hl 3 rfl) ?_
        refine lv_aload_n hx hb dX12_weightOf_31 rfl (lv_at hl 0 rfl) ?_
        refine lv_iload hx hb dX12_weightOf_32 (lv_at hl 4 rfl) ?_
        refine lv_iload_n hx hb dX12_weightOf_34 rfl (lv_at hl 1 rfl) ?_
        obtain ⟨z5, ez5, hf⟩ := bd_e hf
        refine clc_Vi hC hw (c_X12_isHeld ez5) hd_X12_isHeld cw_X12_270 (Nat.le_of_ble_eq_true rfl) rfl rfl (rest := [.long x3]) hl.1 rfl (Nat.le_of_ble_eq_true rfl) ⟨Nat.le_of_ble_eq_true rfl, Nat.le_of_ble_eq_true rfl⟩ ⟨Nat.zero_le _, Nat.zero_le _⟩ rfl dX12_weightOf_35 (fun H locs hw => ?_)
        refine lv_if_eq (tgt := 52) hx hb dX12_weightOf_38 (by decide) (fun c6 => ?_) (fun c6 => ?_)
        · rw [if_pos c6] at hf
          refine lv_bipush (v := 10) hx hb dX12_weightOf_52 (by decide) ?_
          refine lv_aload_n hx hb dX12_weightOf_54 rfl (lv_at hl 0 rfl) ?_
          refine rg_p hC hw 0 (Nat.le_of_ble_eq_true rfl) rfl fd_X12_36 wf_X12_247 (q := 25) rfl dX12_weightOf_55 ?_
          refine lv_iload hx hb dX12_weightOf_58 (lv_at hl 4 rfl) ?_
          obtain ⟨h7, hf⟩ := ck_e hf
          refine ra_i hC hw 25 (Nat.le_of_ble_eq_true rfl) rfl h7 dX12_weightOf_60 ?_
          refine lv_isub hx hb dX12_weightOf_61 ?_
          refine lv_i2l hx hb dX12_weightOf_62 rfl ?_
          exact k_X12_weightOf_63 hC hq5 hf hw (lv_sub hl [0, 1, 2, 4] rfl)
        · rw [if_neg c6] at hf
          refine lv_aload_n hx hb dX12_weightOf_41 rfl (lv_at hl 0 rfl) ?_
          refine rg_p hC hw 0 (Nat.le_of_ble_eq_true rfl) rfl fd_X12_36 wf_X12_247 (q := 25) rfl dX12_weightOf_42 ?_
          refine lv_iload hx hb dX12_weightOf_45 (lv_at hl 4 rfl) ?_
          obtain ⟨h8, hf⟩ := ck_e hf
          refine ra_i hC hw 25 (Nat.le_of_ble_eq_true rfl) rfl h8 dX12_weightOf_47 ?_
          refine lv_i2l hx hb dX12_weightOf_48 rfl ?_
          refine lv_goto (tgt := 63) hx hb dX12_weightOf_49 (by decide) ?_
          exact k_X12_weightOf_63 hC hq5 hf hw (lv_sub hl [0, 1, 2, 4] rfl)
set_option maxRecDepth 100000 in
set_option maxHeartbeats 4000000 in
theorem k_X12_weightOf_5l {p : Program} {l : Launch} {e : Env} {s : State} {m : MethodId} {args : Array Value} {below : List Frame} {meth : Method} {c : Code} {D : va_G} {cy : Nat → ClassId} {z0 : Nat} {ad : Nat → Nat} {X : va_W} {u : Nat × Nat} (hC : cx_C p s m args meth c cX12_weightOf "RhymedThenModel" (Cond.code yX12_weightOf cX12_weightOf 6 (some .long)) 6 (some .long)) {z : (Int64 × mm_M)} : ∀ (n : Nat) (x1 : Int32) (x2 : Int32) (x3 : Int64) (x5 : Int32) (M : mm_M) (H : Heap) (locs : List Loc) (ls : Array Slot), f_X12_weightOf_5l n x1 x2 x3 x5 M = some z → wd_in rf_T D cy z0 ad u M X s H locs → lv_has ls 6 [(0, .ref (ad 0)), (1, .int x1), (2, .int x2), (3, .long x3), (5, .int x5)] → W p l e { frames := 6, cells := 0, slots := 0, locals := 145 } s m args below meth c H locs 0 0 (MQ below (cq_l rf_T D cy z0 ad u X z.1 z.2) args s 0 0 (fun q => z0 ≤ q)) (F0 m 5 ls []) := by
  intro n
  induction n with
  | zero => intro x1 x2 x3 x5 M H locs ls hf; exact absurd hf (by simp [f_X12_weightOf_5l])
  | succ n ih => intro x1 x2 x3 x5 M H locs ls hf hw hl; exact k_X12_weightOf_5 hC ih hf hw hl
set_option maxRecDepth 100000 in
set_option maxHeartbeats 4000000 in
theorem k_X12_weightOf {p : Program} {l : Launch} {e : Env} {s : State} {m : MethodId} {args : Array Value} {below : List Frame} {meth : Method} {c : Code} {D : va_G} {cy : Nat → ClassId} {z0 : Nat} {ad : Nat → Nat} {X : va_W} {u : Nat × Nat} (hC : cx_C p s m args meth c cX12_weightOf "RhymedThenModel" (Cond.code yX12_weightOf cX12_weightOf 6 (some .long)) 6 (some .long)) {z : (Int64 × mm_M)} {x1 : Int32} {x2 : Int32} {M : mm_M} (hf : f_X12_weightOf x1 x2 M = some z) {H : Heap} {locs : List Loc} (hw : wd_in rf_T D cy z0 ad u M X s H locs) {ls : Array Slot} (hl : lv_has ls 6 [(0, .ref (ad 0)), (1, .int x1), (2, .int x2)]) : W p l e { frames := 6, cells := 0, slots := 0, locals := 145 } s m args below meth c H locs 0 0 (MQ below (cq_l rf_T D cy z0 ad u X z.1 z.2) args s 0 0 (fun q => z0 ≤ q)) (F0 m 0 ls []) := by
  have hx := hC.1
  have hb := hC.2.1
  unfold f_X12_weightOf at hf
  refine lv_lconst (v := 1) hx hb dX12_weightOf_0 (by decide) ?_
  refine lv_lstore_n (lv' := [(3, .long 1), (0, .ref (ad 0)), (1, .int x1), (2, .int x2)]) hx hb dX12_weightOf_1 rfl hl (by decide) rfl (fun ls hl => ?_)
  refine lv_iconst (v := 0) hx hb dX12_weightOf_2 (by decide) ?_
  refine lv_istore (lv' := [(5, .int 0), (3, .long 1), (0, .ref (ad 0)), (1, .int x1), (2, .int x2)]) hx hb dX12_weightOf_3 hl (by decide) rfl (fun ls hl => ?_)
  exact k_X12_weightOf_5l hC fu_ _ _ _ _ _ _ _ _ hf hw (lv_sub hl [2, 3, 4, 1, 0] rfl)
set_option maxRecDepth 100000 in
theorem c_X12_weightOf {l : Launch} {D : va_G} {cy : Nat → ClassId} {z0 : Nat} {ad : Nat → Nat} {u : Nat × Nat} {X : va_W} {z : (Int64 × mm_M)} {x1 : Int32} {x2 : Int32} {M : mm_M} (hf : f_X12_weightOf x1 x2 M = some z) : ct_l rf_T l yX12_weightOf (Cond.code yX12_weightOf cX12_weightOf 6 (some .long)) 6 145 D cy z0 ad u M X [.ref (ad 0), .int x1, .int x2] z.1 z.2 := by
  refine bgc_l (by decide) (fun p e s m below meth c hC hw => ?_)
  refine en_t (Nat.le_of_ble_eq_true rfl) (fun ls hl => ?_)
  have hl : lv_has ls 6 [(0, .ref (ad 0)), (1, .int x1), (2, .int x2)] := hl
  exact k_X12_weightOf hC hf hw hl
set_option maxRecDepth 100000 in
set_option maxHeartbeats 4000000 in
theorem k_X12_odds_79 {p : Program} {l : Launch} {e : Env} {s : State} {m : MethodId} {args : Array Value} {below : List Frame} {meth : Method} {c : Code} {D : va_G} {cy : Nat → ClassId} {z0 : Nat} {ad : Nat → Nat} {X : va_W} {u : Nat × Nat} (hC : cx_C p s m args meth c cX12_odds "RhymedThenModel" (Cond.code yX12_odds cX12_odds 10 (some .int)) 10 (some .int)) {z : (Int32 × mm_M)} {x1 : Int32} {x4 : Int64} {x6 : Int32} {x7 : Int32} {t0 : Int64} {t1 : Int64} {M : mm_M} {q39 : Int32 → Int64 → Int64 → Int32 → Int32 → mm_M → Option (Int32 × mm_M)} (hq39 : ∀ (x1 : Int32) (x2 : Int64) (x4 : Int64) (x6 : Int32) (x7 : Int32) (M : mm_M) (H : Heap) (locs : List Loc) (ls : Array Slot), q39 x1 x2 x4 x6 x7 M = some z → wd_in rf_T D cy z0 ad u M X s H locs → lv_has ls 10 [(0, .ref (ad 0)), (1, .int x1), (2, .long x2), (4, .long x4), (6, .int x6), (7, .int x7)] → W p l e { frames := 7, cells := 0, slots := 0, locals := 170 } s m args below meth c H locs 0 0 (MQ below (cq_i rf_T D cy z0 ad u X z.1 z.2) args s 0 0 (fun q => z0 ≤ q)) (F0 m 39 ls [])) (hf : f_X12_odds_79 q39 x1 x4 x6 x7 t0 t1 M = some z) {H : Heap} {locs : List Loc} (hw : wd_in rf_T D cy z0 ad u M X s H locs) {ls : Array Slot} (hl : lv_has ls 10 [(0, .ref (ad 0)), (1, .int x1), (4, .long x4), (6, .int x6), (7, .int x7)]) : W p l e { frames := 7, cells := 0, slots := 0, locals := 170 } s m args below meth c H locs 0 0 (MQ below (cq_i rf_T D cy z0 ad u X z.1 z.2) args s 0 0 (fun q => z0 ≤ q)) (F0 m 79 ls [.long t1, .long t0]) := by
  have hx := hC.1
  have hb := hC.2.1
  unfold f_X12_odds_79 at hf
  refine lv_ladd hx hb dX12_odds_79 ?_
  obtain ⟨y14, ey14, hf⟩ := sq_e hf
  refine lt_l ey14 ?_
  refine lv_lstore_n (lv' := [(2, .long y14), (0, .ref (ad 0)), (1, .int x1), (4, .long x4), (6, .int x6), (7, .int x7)]) hx hb dX12_odds_80 rfl hl (by decide) rfl (fun ls hl => ?_)
  obtain ⟨y15, ey15, hf⟩ := sq_e hf
  refine lv_iinc (v := y15) (lv' := [(7, .int y15), (2, .long y14), (0, .ref (ad 0)), (1, .int x1), (4, .long x4), (6, .int x6)]) hx hb dX12_odds_81 hl (k := 5) rfl (by rw [ey15]; rfl) (by decide) rfl (fun ls hl => ?_)
  refine lv_goto (tgt := 39) hx hb dX12_odds_84 (by decide) ?_
  exact hq39 _ _ _ _ _ _ _ _ _ hf hw (lv_sub hl [2, 3, 1, 4, 5, 0] rfl)
set_option maxRecDepth 100000 in
set_option maxHeartbeats 4000000 in
theorem k_X12_odds_87 {p : Program} {l : Launch} {e : Env} {s : State} {m : MethodId} {args : Array Value} {below : List Frame} {meth : Method} {c : Code} {D : va_G} {cy : Nat → ClassId} {z0 : Nat} {ad : Nat → Nat} {X : va_W} {u : Nat × Nat} (hC : cx_C p s m args meth c cX12_odds "RhymedThenModel" (Cond.code yX12_odds cX12_odds 10 (some .int)) 10 (some .int)) {z : (Int32 × mm_M)} {x2 : Int64} {x4 : Int64} {M : mm_M} (hf : f_X12_odds_87 x2 x4 M = some z) {H : Heap} {locs : List Loc} (hw : wd_in rf_T D cy z0 ad u M X s H locs) {ls : Array Slot} (hl : lv_has ls 10 [(0, .ref (ad 0)), (2, .long x2), (4, .long x4)]) : W p l e { frames := 7, cells := 0, slots := 0, locals := 170 } s m args below meth c H locs 0 0 (MQ below (cq_i rf_T D cy z0 ad u X z.1 z.2) args s 0 0 (fun q => z0 ≤ q)) (F0 m 87 ls []) := by
  have hx := hC.1
  have hb := hC.2.1
  unfold f_X12_odds_87 at hf
  refine lv_aload_n hx hb dX12_odds_87 rfl (lv_at hl 0 rfl) ?_
  refine lv_iconst (v := 0) hx hb dX12_odds_88 (by decide) ?_
  obtain ⟨M12, eM12, hf⟩ := sq_e hf
  refine rp_i hC hw 0 (Nat.le_of_ble_eq_true rfl) rfl fd_X12_1 wf_X12_11 fp_X12_1 rfl rfl dX12_odds_89 eM12 (fun H locs hw => ?_)
  refine lv_aload_n hx hb dX12_odds_92 rfl (lv_at hl 0 rfl) ?_
  refine lv_lload_n hx hb dX12_odds_93 rfl (lv_at hl 1 rfl) ?_
  refine lv_lload hx hb dX12_odds_94 (lv_at hl 2 rfl) ?_
  obtain ⟨z13, ez13, hf⟩ := bd_e hf
  refine clc_Vv hC hw (c_X12_entersFraction ez13) hd_X12_entersFraction cw_X12_213 (Nat.le_of_ble_eq_true rfl) rfl rfl (rest := []) hl.1 rfl (Nat.le_of_ble_eq_true rfl) ⟨Nat.le_of_ble_eq_true rfl, Nat.le_of_ble_eq_true rfl⟩ ⟨Nat.zero_le _, Nat.zero_le _⟩ rfl dX12_odds_96 (fun H locs hw => ?_)
  refine lv_iconst (v := 0) hx hb dX12_odds_99 (by decide) ?_
  have hz := Option.some.inj hf
  subst hz
  exact rtc_i hC hw dX12_odds_100
set_option maxRecDepth 100000 in
set_option maxHeartbeats 4000000 in
theorem k_X12_odds_39 {p : Program} {l : Launch} {e : Env} {s : State} {m : MethodId} {args : Array Value} {below : List Frame} {meth : Method} {c : Code} {D : va_G} {cy : Nat → ClassId} {z0 : Nat} {ad : Nat → Nat} {X : va_W} {u : Nat × Nat} (hC : cx_C p s m args meth c cX12_odds "RhymedThenModel" (Cond.code yX12_odds cX12_odds 10 (some .int)) 10 (some .int)) {z : (Int32 × mm_M)} {x1 : Int32} {x2 : Int64} {x4 : Int64} {x6 : Int32} {x7 : Int32} {M : mm_M} {q39 : Int32 → Int64 → Int64 → Int32 → Int32 → mm_M → Option (Int32 × mm_M)} (hq39 : ∀ (x1 : Int32) (x2 : Int64) (x4 : Int64) (x6 : Int32) (x7 : Int32) (M : mm_M) (H : Heap) (locs : List Loc) (ls : Array Slot), q39 x1 x2 x4 x6 x7 M = some z → wd_in rf_T D cy z0 ad u M X s H locs → lv_has ls 10 [(0, .ref (ad 0)), (1, .int x1), (2, .long x2), (4, .long x4), (6, .int x6), (7, .int x7)] → W p l e { frames := 7, cells := 0, slots := 0, locals := 170 } s m args below meth c H locs 0 0 (MQ below (cq_i rf_T D cy z0 ad u X z.1 z.2) args s 0 0 (fun q => z0 ≤ q)) (F0 m 39 ls [])) (hf : f_X12_odds_39 q39 x1 x2 x4 x6 x7 M = some z) {H : Heap} {locs : List Loc} (hw : wd_in rf_T D cy z0 ad u M X s H locs) {ls : Array Slot} (hl : lv_has ls 10 [(0, .ref (ad 0)), (1, .int x1), (2, .long x2), (4, .long x4), (6, .int x6), (7, .int x7)]) : W p l e { frames := 7, cells := 0, slots := 0, locals := 170 } s m args below meth c H locs 0 0 (MQ below (cq_i rf_T D cy z0 ad u X z.1 z.2) args s 0 0 (fun q => z0 ≤ q)) (F0 m 39 ls []) := by
  have hx := hC.1
  have hb := hC.2.1
  unfold f_X12_odds_39 at hf
  refine lv_iload hx hb dX12_odds_39 (lv_at hl 5 rfl) ?_
  refine lv_iload hx hb dX12_odds_41 (lv_at hl 4 rfl) ?_
  refine lv_icmp_ge (tgt := 87) hx hb dX12_odds_43 (by decide) (fun c7 => ?_) (fun c7 => ?_)
  · rw [if_pos c7] at hf
    exact k_X12_odds_87 hC hf hw (lv_sub hl [0, 2, 3] rfl)
  · rw [if_neg c7] at hf
    refine lv_aload_n hx hb dX12_odds_46 rfl (lv_at hl 0 rfl) ?_
    refine lv_iload hx hb dX12_odds_47 (lv_at hl 5 rfl) ?_
    refine lv_iload_n hx hb dX12_odds_49 rfl (lv_at hl 1 rfl) ?_
    obtain ⟨z8, ez8, hf⟩ := bd_e hf
    refine clc_Vl hC hw (c_X12_weightOf ez8) hd_X12_weightOf cw_X12_313 (Nat.le_of_ble_eq_true rfl) rfl rfl (rest := []) hl.1 rfl (Nat.le_of_ble_eq_true rfl) ⟨Nat.le_of_ble_eq_true rfl, Nat.le_of_ble_eq_true rfl⟩ ⟨Nat.zero_le _, Nat.zero_le _⟩ rfl dX12_odds_50 (fun H locs hw => ?_)
    refine lv_lstore (lv' := [(8, .long z8.1), (0, .ref (ad 0)), (1, .int x1), (2, .long x2), (4, .long x4), (6, .int x6), (7, .int x7)]) hx hb dX12_odds_53 hl (by decide) rfl (fun ls hl => ?_)
    refine lv_lload hx hb dX12_odds_55 (lv_at hl 4 rfl) ?_
    refine lv_lload hx hb dX12_odds_57 (lv_at hl 0 rfl) ?_
    refine lv_ladd hx hb dX12_odds_59 ?_
    obtain ⟨y9, ey9, hf⟩ := sq_e hf
    refine lt_l ey9 ?_
    refine lv_lstore (lv' := [(4, .long y9), (8, .long z8.1), (0, .ref (ad 0)), (1, .int x1), (2, .long x2), (6, .int x6), (7, .int x7)]) hx hb dX12_odds_60 hl (by decide) rfl (fun ls hl => ?_)
    refine lv_lload_n hx hb dX12_odds_62 rfl (lv_at hl 4 rfl) ?_
    refine lv_aload_n hx hb dX12_odds_63 rfl (lv_at hl 2 rfl) ?_
    refine lv_iload_n hx hb dX12_odds_64 rfl (lv_at hl 3 rfl) ?_
    refine lv_iload hx hb dX12_odds_65 (lv_at hl 6 rfl) ?_
    obtain ⟨z10, ez10, hf⟩ := bd_e hf
    refine clc_Vi hC hw (c_X12_isHeld ez10) hd_X12_isHeld cw_X12_270 (Nat.le_of_ble_eq_true rfl) rfl rfl (rest := [.long x2]) hl.1 rfl (Nat.le_of_ble_eq_true rfl) ⟨Nat.le_of_ble_eq_true rfl, Nat.le_of_ble_eq_true rfl⟩ ⟨Nat.zero_le _, Nat.zero_le _⟩ rfl dX12_odds_67 (fun H locs hw => ?_)
    refine lv_if_eq (tgt := 78) hx hb dX12_odds_70 (by decide) (fun c11 => ?_) (fun c11 => ?_)
    · rw [if_pos c11] at hf
      refine lv_lconst (v := 0) hx hb dX12_odds_78 (by decide) ?_
      exact k_X12_odds_79 hC hq39 hf hw (lv_sub hl [2, 3, 0, 5, 6] rfl)
    · rw [if_neg c11] at hf
      refine lv_lload hx hb dX12_odds_73 (lv_at hl 1 rfl) ?_
      refine lv_goto (tgt := 79) hx hb dX12_odds_75 (by decide) ?_
      exact k_X12_odds_79 hC hq39 hf hw (lv_sub hl [2, 3, 0, 5, 6] rfl)
set_option maxRecDepth 100000 in
set_option maxHeartbeats 4000000 in
theorem k_X12_odds_39l {p : Program} {l : Launch} {e : Env} {s : State} {m : MethodId} {args : Array Value} {below : List Frame} {meth : Method} {c : Code} {D : va_G} {cy : Nat → ClassId} {z0 : Nat} {ad : Nat → Nat} {X : va_W} {u : Nat × Nat} (hC : cx_C p s m args meth c cX12_odds "RhymedThenModel" (Cond.code yX12_odds cX12_odds 10 (some .int)) 10 (some .int)) {z : (Int32 × mm_M)} : ∀ (n : Nat) (x1 : Int32) (x2 : Int64) (x4 : Int64) (x6 : Int32) (x7 : Int32) (M : mm_M) (H : Heap) (locs : List Loc) (ls : Array Slot), f_X12_odds_39l n x1 x2 x4 x6 x7 M = some z → wd_in rf_T D cy z0 ad u M X s H locs → lv_has ls 10 [(0, .ref (ad 0)), (1, .int x1), (2, .long x2), (4, .long x4), (6, .int x6), (7, .int x7)] → W p l e { frames := 7, cells := 0, slots := 0, locals := 170 } s m args below meth c H locs 0 0 (MQ below (cq_i rf_T D cy z0 ad u X z.1 z.2) args s 0 0 (fun q => z0 ≤ q)) (F0 m 39 ls []) := by
  intro n
  induction n with
  | zero => intro x1 x2 x4 x6 x7 M H locs ls hf; exact absurd hf (by simp [f_X12_odds_39l])
  | succ n ih => intro x1 x2 x4 x6 x7 M H locs ls hf hw hl; exact k_X12_odds_39 hC ih hf hw hl
set_option maxRecDepth 100000 in
set_option maxHeartbeats 4000000 in
theorem k_X12_odds {p : Program} {l : Launch} {e : Env} {s : State} {m : MethodId} {args : Array Value} {below : List Frame} {meth : Method} {c : Code} {D : va_G} {cy : Nat → ClassId} {z0 : Nat} {ad : Nat → Nat} {X : va_W} {u : Nat × Nat} (hC : cx_C p s m args meth c cX12_odds "RhymedThenModel" (Cond.code yX12_odds cX12_odds 10 (some .int)) 10 (some .int)) {z : (Int32 × mm_M)} {x1 : Int32} {M : mm_M} (hf : f_X12_odds x1 M = some z) {H : Heap} {locs : List Loc} (hw : wd_in rf_T D cy z0 ad u M X s H locs) {ls : Array Slot} (hl : lv_has ls 10 [(0, .ref (ad 0)), (1, .int x1)]) : W p l e { frames := 7, cells := 0, slots := 0, locals := 170 } s m args below meth c H locs 0 0 (MQ below (cq_i rf_T D cy z0 ad u X z.1 z.2) args s 0 0 (fun q => z0 ≤ q)) (F0 m 0 ls []) := by
  have hx := hC.1
  have hb := hC.2.1
  unfold f_X12_odds at hf
  refine lv_aload_n hx hb dX12_odds_0 rfl (lv_at hl 0 rfl) ?_
  refine lv_iconst (v := 0) hx hb dX12_odds_1 (by decide) ?_
  obtain ⟨M1, eM1, hf⟩ := sq_e hf
  refine rp_i hC hw 0 (Nat.le_of_ble_eq_true rfl) rfl fd_X12_0 wf_X12_1 fp_X12_0 rfl rfl dX12_odds_2 eM1 (fun H locs hw => ?_)
  refine lv_aload_n hx hb dX12_odds_5 rfl (lv_at hl 0 rfl) ?_
  refine lv_iload_n hx hb dX12_odds_6 rfl (lv_at hl 1 rfl) ?_
  obtain ⟨z2, ez2, hf⟩ := sq_e hf
  refine clc_Vi hC hw (c_X12_isSign ez2.symm) hd_X12_isSign cw_X12_265 (Nat.le_of_ble_eq_true rfl) rfl rfl (rest := []) hl.1 rfl (Nat.le_of_ble_eq_true rfl) ⟨Nat.le_of_ble_eq_true rfl, Nat.le_of_ble_eq_true rfl⟩ ⟨Nat.zero_le _, Nat.zero_le _⟩ rfl dX12_odds_7 (fun H locs hw => ?_)
  refine lv_if_eq (tgt := 23) hx hb dX12_odds_10 (by decide) (fun c3 => ?_) (fun c3 => ?_)
  · rw [if_pos c3] at hf
    refine lv_iconst (v := (-1)) hx hb dX12_odds_23 (by decide) ?_
    have hz := Option.some.inj hf
    subst hz
    exact rtc_i hC hw dX12_odds_24
  · rw [if_neg c3] at hf
    refine lv_aload_n hx hb dX12_odds_13 rfl (lv_at hl 0 rfl) ?_
    refine lv_iload_n hx hb dX12_odds_14 rfl (lv_at hl 1 rfl) ?_
    obtain ⟨z4, ez4, hf⟩ := bd_e hf
    refine clc_Vi hC hw (c_X12_onMany ez4) hd_X12_onMany cw_X12_310 (Nat.le_of_ble_eq_true rfl) rfl rfl (rest := []) hl.1 rfl (Nat.le_of_ble_eq_true rfl) ⟨Nat.le_of_ble_eq_true rfl, Nat.le_of_ble_eq_true rfl⟩ ⟨Nat.zero_le _, Nat.zero_le _⟩ rfl dX12_odds_15 (fun H locs hw => ?_)
    refine lv_bipush (v := 12) hx hb dX12_odds_18 (by decide) ?_
    refine lv_icmp_le (tgt := 25) hx hb dX12_odds_20 (by decide) (fun c5 => ?_) (fun c5 => ?_)
    · rw [if_pos c5] at hf
      refine lv_lconst (v := 0) hx hb dX12_odds_25 (by decide) ?_
      refine lv_lstore_n (lv' := [(2, .long 0), (0, .ref (ad 0)), (1, .int x1)]) hx hb dX12_odds_26 rfl hl (by decide) rfl (fun ls hl => ?_)
      refine lv_lconst (v := 0) hx hb dX12_odds_27 (by decide) ?_
      refine lv_lstore (lv' := [(4, .long 0), (2, .long 0), (0, .ref (ad 0)), (1, .int x1)]) hx hb dX12_odds_28 hl (by decide) rfl (fun ls hl => ?_)
      refine lv_aload_n hx hb dX12_odds_30 rfl (lv_at hl 2 rfl) ?_
      obtain ⟨z6, ez6, hf⟩ := bd_e hf
      refine clc_Vi hC hw (c_X12_histories ez6) hd_X12_histories cw_X12_107 (Nat.le_of_ble_eq_true rfl) rfl rfl (rest := []) hl.1 rfl (Nat.le_of_ble_eq_true rfl) ⟨Nat.le_of_ble_eq_true rfl, Nat.le_of_ble_eq_true rfl⟩ ⟨Nat.zero_le _, Nat.zero_le _⟩ rfl dX12_odds_31 (fun H locs hw => ?_)
      refine lv_istore (lv' := [(6, .int z6), (4, .long 0), (2, .long 0), (0, .ref (ad 0)), (1, .int x1)]) hx hb dX12_odds_34 hl (by decide) rfl (fun ls hl => ?_)
      refine lv_iconst (v := 0) hx hb dX12_odds_36 (by decide) ?_
      refine lv_istore (lv' := [(7, .int 0), (6, .int z6), (4, .long 0), (2, .long 0), (0, .ref (ad 0)), (1, .int x1)]) hx hb dX12_odds_37 hl (by decide) rfl (fun ls hl => ?_)
      exact k_X12_odds_39l hC fu_ _ _ _ _ _ _ _ _ _ hf hw (lv_sub hl [4, 5, 3, 2, 1, 0] rfl)
    · rw [if_neg c5] at hf
      refine lv_iconst (v := (-1)) hx hb dX12_odds_23 (by decide) ?_
      have hz := Option.some.inj hf
      subst hz
      exact rtc_i hC hw dX12_odds_24
set_option maxRecDepth 100000 in
theorem c_X12_odds {l : Launch} {D : va_G} {cy : Nat → ClassId} {z0 : Nat} {ad : Nat → Nat} {u : Nat × Nat} {X : va_W} {z : (Int32 × mm_M)} {x1 : Int32} {M : mm_M} (hf : f_X12_odds x1 M = some z) : ct_i rf_T l yX12_odds (Cond.code yX12_odds cX12_odds 10 (some .int)) 7 170 D cy z0 ad u M X [.ref (ad 0), .int x1] z.1 z.2 := by
  refine bgc_i (by decide) (fun p e s m below meth c hC hw => ?_)
  refine en_t (Nat.le_of_ble_eq_true rfl) (fun ls hl => ?_)
  have hl : lv_has ls 10 [(0, .ref (ad 0)), (1, .int x1)] := hl
  exact k_X12_odds hC hf hw hl
set_option maxRecDepth 100000 in
set_option maxHeartbeats 4000000 in
theorem k_X12_weighsAll_10 {p : Program} {l : Launch} {e : Env} {s : State} {m : MethodId} {args : Array Value} {below : List Frame} {meth : Method} {c : Code} {D : va_G} {cy : Nat → ClassId} {z0 : Nat} {ad : Nat → Nat} {X : va_W} {u : Nat × Nat} (hC : cx_C p s m args meth c cX12_weighsAll "RhymedThenModel" (Cond.code yX12_weighsAll cX12_weighsAll 5 (some .long)) 5 (some .long)) {z : (Int64 × mm_M)} {x1 : Int64} {x3 : Int32} {x4 : Int32} {M : mm_M} {q10 : Int64 → Int32 → Int32 → mm_M → Option (Int64 × mm_M)} (hq10 : ∀ (x1 : Int64) (x3 : Int32) (x4 : Int32) (M : mm_M) (H : Heap) (locs : List Loc) (ls : Array Slot), q10 x1 x3 x4 M = some z → wd_in rf_T D cy z0 ad u M X s H locs → lv_has ls 5 [(0, .ref (ad 0)), (1, .long x1), (3, .int x3), (4, .int x4)] → W p l e { frames := 7, cells := 0, slots := 0, locals := 170 } s m args below meth c H locs 0 0 (MQ below (cq_l rf_T D cy z0 ad u X z.1 z.2) args s 0 0 (fun q => z0 ≤ q)) (F0 m 10 ls [])) (hf : f_X12_weighsAll_10 q10 x1 x3 x4 M = some z) {H : Heap} {locs : List Loc} (hw : wd_in rf_T D cy z0 ad u M X s H locs) {ls : Array Slot} (hl : lv_has ls 5 [(0, .ref (ad 0)), (1, .long x1), (3, .int x3), (4, .int x4)]) : W p l e { frames := 7, cells := 0, slots := 0, locals := 170 } s m args below meth c H locs 0 0 (MQ below (cq_l rf_T D cy z0 ad u X z.1 z.2) args s 0 0 (fun q => z0 ≤ q)) (F0 m 10 ls []) := by
  have hx := hC.1
  have hb := hC.2.1
  unfold f_X12_weighsAll_10 at hf
  refine lv_iload hx hb dX12_weighsAll_10 (lv_at hl 3 rfl) ?_
  refine lv_iload_n hx hb dX12_weighsAll_12 rfl (lv_at hl 2 rfl) ?_
  refine lv_icmp_ge (tgt := 46) hx hb dX12_weighsAll_13 (by decide) (fun c2 => ?_) (fun c2 => ?_)
  · rw [if_pos c2] at hf
    refine lv_lload_n hx hb dX12_weighsAll_46 rfl (lv_at hl 1 rfl) ?_
    have hz := Option.some.inj hf
    subst hz
    exact rtc_l hC hw dX12_weighsAll_47
  · rw [if_neg c2] at hf
    refine lv_aload_n hx hb dX12_weighsAll_16 rfl (lv_at hl 0 rfl) ?_
    refine rg_p hC hw 0 (Nat.le_of_ble_eq_true rfl) rfl fd_X12_43 wf_X12_317 (q := 30) rfl dX12_weighsAll_17 ?_
    refine lv_iload hx hb dX12_weighsAll_20 (lv_at hl 3 rfl) ?_
    refine lv_aload_n hx hb dX12_weighsAll_22 rfl (lv_at hl 0 rfl) ?_
    refine lv_iload hx hb dX12_weighsAll_23 (lv_at hl 3 rfl) ?_
    refine lv_iconst (v := (-1)) hx hb dX12_weighsAll_25 (by decide) ?_
    obtain ⟨z3, ez3, hf⟩ := bd_e hf
    refine clc_Vl hC hw (c_X12_weightOf ez3) hd_X12_weightOf cw_X12_313 (Nat.le_of_ble_eq_true rfl) rfl rfl (rest := [.int x4, .ref (ad 30)]) hl.1 rfl (Nat.le_of_ble_eq_true rfl) ⟨Nat.le_of_ble_eq_true rfl, Nat.le_of_ble_eq_true rfl⟩ ⟨Nat.zero_le _, Nat.zero_le _⟩ rfl dX12_weighsAll_26 (fun H locs hw => ?_)
    obtain ⟨h4, hf⟩ := ck_e hf
    obtain ⟨M5, eM5, hf⟩ := sq_e hf
    refine rs_l hC hw 30 (Nat.le_of_ble_eq_true rfl) rfl h4 dX12_weighsAll_29 eM5 (fun H locs hw => ?_)
    refine lv_lload_n hx hb dX12_weighsAll_30 rfl (lv_at hl 1 rfl) ?_
    refine lv_aload_n hx hb dX12_weighsAll_31 rfl (lv_at hl 0 rfl) ?_
    refine rg_p hC hw 0 (Nat.le_of_ble_eq_true rfl) rfl fd_X12_43 wf_X12_317 (q := 30) rfl dX12_weighsAll_32 ?_
    refine lv_iload hx hb dX12_weighsAll_35 (lv_at hl 3 rfl) ?_
    obtain ⟨h6, hf⟩ := ck_e hf
    refine ra_l hC hw 30 (Nat.le_of_ble_eq_true rfl) rfl h6 dX12_weighsAll_37 ?_
    refine lv_ladd hx hb dX12_weighsAll_38 ?_
    obtain ⟨y7, ey7, hf⟩ := sq_e hf
    refine lt_l ey7 ?_
    refine lv_lstore_n (lv' := [(1, .long y7), (0, .ref (ad 0)), (3, .int x3), (4, .int x4)]) hx hb dX12_weighsAll_39 rfl hl (by decide) rfl (fun ls hl => ?_)
    obtain ⟨y8, ey8, hf⟩ := sq_e hf
    refine lv_iinc (v := y8) (lv' := [(4, .int y8), (1, .long y7), (0, .ref (ad 0)), (3, .int x3)]) hx hb dX12_weighsAll_40 hl (k := 3) rfl (by rw [ey8]; rfl) (by decide) rfl (fun ls hl => ?_)
    refine lv_goto (tgt := 10) hx hb dX12_weighsAll_43 (by decide) ?_
    exact hq10 _ _ _ _ _ _ _ hf hw (lv_sub hl [2, 1, 3, 0] rfl)
set_option maxRecDepth 100000 in
set_option maxHeartbeats 4000000 in
theorem k_X12_weighsAll_10l {p : Program} {l : Launch} {e : Env} {s : State} {m : MethodId} {args : Array Value} {below : List Frame} {meth : Method} {c : Code} {D : va_G} {cy : Nat → ClassId} {z0 : Nat} {ad : Nat → Nat} {X : va_W} {u : Nat × Nat} (hC : cx_C p s m args meth c cX12_weighsAll "RhymedThenModel" (Cond.code yX12_weighsAll cX12_weighsAll 5 (some .long)) 5 (some .long)) {z : (Int64 × mm_M)} : ∀ (n : Nat) (x1 : Int64) (x3 : Int32) (x4 : Int32) (M : mm_M) (H : Heap) (locs : List Loc) (ls : Array Slot), f_X12_weighsAll_10l n x1 x3 x4 M = some z → wd_in rf_T D cy z0 ad u M X s H locs → lv_has ls 5 [(0, .ref (ad 0)), (1, .long x1), (3, .int x3), (4, .int x4)] → W p l e { frames := 7, cells := 0, slots := 0, locals := 170 } s m args below meth c H locs 0 0 (MQ below (cq_l rf_T D cy z0 ad u X z.1 z.2) args s 0 0 (fun q => z0 ≤ q)) (F0 m 10 ls []) := by
  intro n
  induction n with
  | zero => intro x1 x3 x4 M H locs ls hf; exact absurd hf (by simp [f_X12_weighsAll_10l])
  | succ n ih => intro x1 x3 x4 M H locs ls hf hw hl; exact k_X12_weighsAll_10 hC ih hf hw hl
set_option maxRecDepth 100000 in
set_option maxHeartbeats 4000000 in
theorem k_X12_weighsAll {p : Program} {l : Launch} {e : Env} {s : State} {m : MethodId} {args : Array Value} {below : List Frame} {meth : Method} {c : Code} {D : va_G} {cy : Nat → ClassId} {z0 : Nat} {ad : Nat → Nat} {X : va_W} {u : Nat × Nat} (hC : cx_C p s m args meth c cX12_weighsAll "RhymedThenModel" (Cond.code yX12_weighsAll cX12_weighsAll 5 (some .long)) 5 (some .long)) {z : (Int64 × mm_M)} {M : mm_M} (hf : f_X12_weighsAll M = some z) {H : Heap} {locs : List Loc} (hw : wd_in rf_T D cy z0 ad u M X s H locs) {ls : Array Slot} (hl : lv_has ls 5 [(0, .ref (ad 0))]) : W p l e { frames := 7, cells := 0, slots := 0, locals := 170 } s m args below meth c H locs 0 0 (MQ below (cq_l rf_T D cy z0 ad u X z.1 z.2) args s 0 0 (fun q => z0 ≤ q)) (F0 m 0 ls []) := by
  have hx := hC.1
  have hb := hC.2.1
  unfold f_X12_weighsAll at hf
  refine lv_lconst (v := 0) hx hb dX12_weighsAll_0 (by decide) ?_
  refine lv_lstore_n (lv' := [(1, .long 0), (0, .ref (ad 0))]) hx hb dX12_weighsAll_1 rfl hl (by decide) rfl (fun ls hl => ?_)
  refine lv_aload_n hx hb dX12_weighsAll_2 rfl (lv_at hl 1 rfl) ?_
  obtain ⟨z1, ez1, hf⟩ := bd_e hf
  refine clc_Vi hC hw (c_X12_histories ez1) hd_X12_histories cw_X12_107 (Nat.le_of_ble_eq_true rfl) rfl rfl (rest := []) hl.1 rfl (Nat.le_of_ble_eq_true rfl) ⟨Nat.le_of_ble_eq_true rfl, Nat.le_of_ble_eq_true rfl⟩ ⟨Nat.zero_le _, Nat.zero_le _⟩ rfl dX12_weighsAll_3 (fun H locs hw => ?_)
  refine lv_istore_n (lv' := [(3, .int z1), (1, .long 0), (0, .ref (ad 0))]) hx hb dX12_weighsAll_6 rfl hl (by decide) rfl (fun ls hl => ?_)
  refine lv_iconst (v := 0) hx hb dX12_weighsAll_7 (by decide) ?_
  refine lv_istore (lv' := [(4, .int 0), (3, .int z1), (1, .long 0), (0, .ref (ad 0))]) hx hb dX12_weighsAll_8 hl (by decide) rfl (fun ls hl => ?_)
  exact k_X12_weighsAll_10l hC fu_ _ _ _ _ _ _ _ hf hw (lv_sub hl [3, 2, 1, 0] rfl)
set_option maxRecDepth 100000 in
theorem c_X12_weighsAll {l : Launch} {D : va_G} {cy : Nat → ClassId} {z0 : Nat} {ad : Nat → Nat} {u : Nat × Nat} {X : va_W} {z : (Int64 × mm_M)} {M : mm_M} (hf : f_X12_weighsAll M = some z) : ct_l rf_T l yX12_weighsAll (Cond.code yX12_weighsAll cX12_weighsAll 5 (some .long)) 7 170 D cy z0 ad u M X [.ref (ad 0)] z.1 z.2 := by
  refine bgc_l (by decide) (fun p e s m below meth c hC hw => ?_)
  refine en_t (Nat.le_of_ble_eq_true rfl) (fun ls hl => ?_)
  have hl : lv_has ls 5 [(0, .ref (ad 0))] := hl
  exact k_X12_weighsAll hC hf hw hl
set_option maxRecDepth 100000 in
set_option maxHeartbeats 4000000 in
theorem k_X12_likeliest_93 {p : Program} {l : Launch} {e : Env} {s : State} {m : MethodId} {args : Array Value} {below : List Frame} {meth : Method} {c : Code} {D : va_G} {cy : Nat → ClassId} {z0 : Nat} {ad : Nat → Nat} {X : va_W} {u : Nat × Nat} (hC : cx_C p s m args meth c cX12_likeliest "RhymedThenModel" (Cond.code yX12_likeliest cX12_likeliest 7 (some .int)) 7 (some .int)) {z : (Int32 × mm_M)} {x6 : Int32} {t0 : Int32} {M : mm_M} {q59 : Int32 → Int32 → mm_M → Option (Int32 × mm_M)} (hq59 : ∀ (x5 : Int32) (x6 : Int32) (M : mm_M) (H : Heap) (locs : List Loc) (ls : Array Slot), q59 x5 x6 M = some z → wd_in rf_T D cy z0 ad u M X s H locs → lv_has ls 7 [(0, .ref (ad 0)), (5, .int x5), (6, .int x6)] → W p l e { frames := 5, cells := 0, slots := 0, locals := 121 } s m args below meth c H locs 0 0 (MQ below (cq_i rf_T D cy z0 ad u X z.1 z.2) args s 0 0 (fun q => z0 ≤ q)) (F0 m 59 ls [])) (hf : f_X12_likeliest_93 q59 x6 t0 M = some z) {H : Heap} {locs : List Loc} (hw : wd_in rf_T D cy z0 ad u M X s H locs) {ls : Array Slot} (hl : lv_has ls 7 [(0, .ref (ad 0)), (6, .int x6)]) : W p l e { frames := 5, cells := 0, slots := 0, locals := 121 } s m args below meth c H locs 0 0 (MQ below (cq_i rf_T D cy z0 ad u X z.1 z.2) args s 0 0 (fun q => z0 ≤ q)) (F0 m 93 ls [.int t0]) := by
  have hx := hC.1
  have hb := hC.2.1
  unfold f_X12_likeliest_93 at hf
  refine lv_istore (lv' := [(5, .int t0), (0, .ref (ad 0)), (6, .int x6)]) hx hb dX12_likeliest_93 hl (by decide) rfl (fun ls hl => ?_)
  obtain ⟨y13, ey13, hf⟩ := sq_e hf
  refine lv_iinc (v := y13) (lv' := [(6, .int y13), (5, .int t0), (0, .ref (ad 0))]) hx hb dX12_likeliest_95 hl (k := 2) rfl (by rw [ey13]; rfl) (by decide) rfl (fun ls hl => ?_)
  refine lv_goto (tgt := 59) hx hb dX12_likeliest_98 (by decide) ?_
  exact hq59 _ _ _ _ _ _ hf hw (lv_sub hl [2, 1, 0] rfl)
set_option maxRecDepth 100000 in
set_option maxHeartbeats 4000000 in
theorem k_X12_likeliest_59 {p : Program} {l : Launch} {e : Env} {s : State} {m : MethodId} {args : Array Value} {below : List Frame} {meth : Method} {c : Code} {D : va_G} {cy : Nat → ClassId} {z0 : Nat} {ad : Nat → Nat} {X : va_W} {u : Nat × Nat} (hC : cx_C p s m args meth c cX12_likeliest "RhymedThenModel" (Cond.code yX12_likeliest cX12_likeliest 7 (some .int)) 7 (some .int)) {z : (Int32 × mm_M)} {x5 : Int32} {x6 : Int32} {M : mm_M} {q59 : Int32 → Int32 → mm_M → Option (Int32 × mm_M)} (hq59 : ∀ (x5 : Int32) (x6 : Int32) (M : mm_M) (H : Heap) (locs : List Loc) (ls : Array Slot), q59 x5 x6 M = some z → wd_in rf_T D cy z0 ad u M X s H locs → lv_has ls 7 [(0, .ref (ad 0)), (5, .int x5), (6, .int x6)] → W p l e { frames := 5, cells := 0, slots := 0, locals := 121 } s m args below meth c H locs 0 0 (MQ below (cq_i rf_T D cy z0 ad u X z.1 z.2) args s 0 0 (fun q => z0 ≤ q)) (F0 m 59 ls [])) (hf : f_X12_likeliest_59 q59 x5 x6 M = some z) {H : Heap} {locs : List Loc} (hw : wd_in rf_T D cy z0 ad u M X s H locs) {ls : Array Slot} (hl : lv_has ls 7 [(0, .ref (ad 0)), (5, .int x5), (6, .int x6)]) : W p l e { frames := 5, cells := 0, slots := 0, locals := 121 } s m args below meth c H locs 0 0 (MQ below (cq_i rf_T D cy z0 ad u X z.1 z.2) args s 0 0 (fun q => z0 ≤ q)) (F0 m 59 ls []) := by
  have hx := hC.1
  have hb := hC.2.1
  unfold f_X12_likeliest_59 at hf
  refine lv_iload hx hb dX12_likeliest_59 (lv_at hl 2 rfl) ?_
  refine lv_aload_n hx hb dX12_likeliest_61 rfl (lv_at hl 0 rfl) ?_
  refine rg_i hC hw 0 (Nat.le_of_ble_eq_true rfl) rfl fd_X12_42 wf_X12_294 dX12_likeliest_62 ?_
  refine lv_icmp_ge (tgt := 101) hx hb dX12_likeliest_65 (by decide) (fun c9 => ?_) (fun c9 => ?_)
  · rw [if_pos c9] at hf
    refine lv_iload hx hb dX12_likeliest_101 (lv_at hl 1 rfl) ?_
    have hz := Option.some.inj hf
    subst hz
    exact rtc_i hC hw dX12_likeliest_103
  · rw [if_neg c9] at hf
    refine lv_aload_n hx hb dX12_likeliest_68 rfl (lv_at hl 0 rfl) ?_
    refine rg_p hC hw 0 (Nat.le_of_ble_eq_true rfl) rfl fd_X12_41 wf_X12_300 (q := 29) rfl dX12_likeliest_69 ?_
    refine lv_iload hx hb dX12_likeliest_72 (lv_at hl 2 rfl) ?_
    obtain ⟨h10, hf⟩ := ck_e hf
    refine ra_l hC hw 29 (Nat.le_of_ble_eq_true rfl) rfl h10 dX12_likeliest_74 ?_
    refine lv_aload_n hx hb dX12_likeliest_75 rfl (lv_at hl 0 rfl) ?_
    refine rg_p hC hw 0 (Nat.le_of_ble_eq_true rfl) rfl fd_X12_41 wf_X12_300 (q := 29) rfl dX12_likeliest_76 ?_
    refine lv_iload hx hb dX12_likeliest_79 (lv_at hl 1 rfl) ?_
    obtain ⟨h11, hf⟩ := ck_e hf
    refine ra_l hC hw 29 (Nat.le_of_ble_eq_true rfl) rfl h11 dX12_likeliest_81 ?_
    refine lc_le (tgt := 91) hx hb dX12_likeliest_82 dX12_likeliest_83 (by decide) (fun c12 => ?_) (fun c12 => ?_)
    · rw [if_pos c12] at hf
      refine lv_iload hx hb dX12_likeliest_91 (lv_at hl 1 rfl) ?_
      exact k_X12_likeliest_93 hC hq59 hf hw (lv_sub hl [0, 2] rfl)
    · rw [if_neg c12] at hf
      refine lv_iload hx hb dX12_likeliest_86 (lv_at hl 2 rfl) ?_
      refine lv_goto (tgt := 93) hx hb dX12_likeliest_88 (by decide) ?_
      exact k_X12_likeliest_93 hC hq59 hf hw (lv_sub hl [0, 2] rfl)
set_option maxRecDepth 100000 in
set_option maxHeartbeats 4000000 in
theorem k_X12_likeliest_59l {p : Program} {l : Launch} {e : Env} {s : State} {m : MethodId} {args : Array Value} {below : List Frame} {meth : Method} {c : Code} {D : va_G} {cy : Nat → ClassId} {z0 : Nat} {ad : Nat → Nat} {X : va_W} {u : Nat × Nat} (hC : cx_C p s m args meth c cX12_likeliest "RhymedThenModel" (Cond.code yX12_likeliest cX12_likeliest 7 (some .int)) 7 (some .int)) {z : (Int32 × mm_M)} : ∀ (n : Nat) (x5 : Int32) (x6 : Int32) (M : mm_M) (H : Heap) (locs : List Loc) (ls : Array Slot), f_X12_likeliest_59l n x5 x6 M = some z → wd_in rf_T D cy z0 ad u M X s H locs → lv_has ls 7 [(0, .ref (ad 0)), (5, .int x5), (6, .int x6)] → W p l e { frames := 5, cells := 0, slots := 0, locals := 121 } s m args below meth c H locs 0 0 (MQ below (cq_i rf_T D cy z0 ad u X z.1 z.2) args s 0 0 (fun q => z0 ≤ q)) (F0 m 59 ls []) := by
  intro n
  induction n with
  | zero => intro x5 x6 M H locs ls hf; exact absurd hf (by simp [f_X12_likeliest_59l])
  | succ n ih => intro x5 x6 M H locs ls hf hw hl; exact k_X12_likeliest_59 hC ih hf hw hl
set_option maxRecDepth 100000 in
set_option maxHeartbeats 4000000 in
theorem k_X12_likeliest_53 {p : Program} {l : Launch} {e : Env} {s : State} {m : MethodId} {args : Array Value} {below : List Frame} {meth : Method} {c : Code} {D : va_G} {cy : Nat → ClassId} {z0 : Nat} {ad : Nat → Nat} {X : va_W} {u : Nat × Nat} (hC : cx_C p s m args meth c cX12_likeliest "RhymedThenModel" (Cond.code yX12_likeliest cX12_likeliest 7 (some .int)) 7 (some .int)) {z : (Int32 × mm_M)} {M : mm_M} (hf : f_X12_likeliest_53 M = some z) {H : Heap} {locs : List Loc} (hw : wd_in rf_T D cy z0 ad u M X s H locs) {ls : Array Slot} (hl : lv_has ls 7 [(0, .ref (ad 0))]) : W p l e { frames := 5, cells := 0, slots := 0, locals := 121 } s m args below meth c H locs 0 0 (MQ below (cq_i rf_T D cy z0 ad u X z.1 z.2) args s 0 0 (fun q => z0 ≤ q)) (F0 m 53 ls []) := by
  have hx := hC.1
  have hb := hC.2.1
  unfold f_X12_likeliest_53 at hf
  refine lv_iconst (v := 0) hx hb dX12_likeliest_53 (by decide) ?_
  refine lv_istore (lv' := [(5, .int 0), (0, .ref (ad 0))]) hx hb dX12_likeliest_54 hl (by decide) rfl (fun ls hl => ?_)
  refine lv_iconst (v := 1) hx hb dX12_likeliest_56 (by decide) ?_
  refine lv_istore (lv' := [(6, .int 1), (5, .int 0), (0, .ref (ad 0))]) hx hb dX12_likeliest_57 hl (by decide) rfl (fun ls hl => ?_)
  exact k_X12_likeliest_59l hC fu_ _ _ _ _ _ _ hf hw (lv_sub hl [2, 1, 0] rfl)
set_option maxRecDepth 100000 in
set_option maxHeartbeats 4000000 in
theorem k_X12_likeliest_14 {p : Program} {l : Launch} {e : Env} {s : State} {m : MethodId} {args : Array Value} {below : List Frame} {meth : Method} {c : Code} {D : va_G} {cy : Nat → ClassId} {z0 : Nat} {ad : Nat → Nat} {X : va_W} {u : Nat × Nat} (hC : cx_C p s m args meth c cX12_likeliest "RhymedThenModel" (Cond.code yX12_likeliest cX12_likeliest 7 (some .int)) 7 (some .int)) {z : (Int32 × mm_M)} {x1 : Int32} {x2 : Int32} {x3 : Int32} {x4 : Int32} {x5 : Int32} {M : mm_M} {q14 : Int32 → Int32 → Int32 → Int32 → Int32 → mm_M → Option (Int32 × mm_M)} (hq14 : ∀ (x1 : Int32) (x2 : Int32) (x3 : Int32) (x4 : Int32) (x5 : Int32) (M : mm_M) (H : Heap) (locs : List Loc) (ls : Array Slot), q14 x1 x2 x3 x4 x5 M = some z → wd_in rf_T D cy z0 ad u M X s H locs → lv_has ls 7 [(0, .ref (ad 0)), (1, .int x1), (2, .int x2), (3, .int x3), (4, .int x4), (5, .int x5)] → W p l e { frames := 5, cells := 0, slots := 0, locals := 121 } s m args below meth c H locs 0 0 (MQ below (cq_i rf_T D cy z0 ad u X z.1 z.2) args s 0 0 (fun q => z0 ≤ q)) (F0 m 14 ls [])) (hf : f_X12_likeliest_14 q14 x1 x2 x3 x4 x5 M = some z) {H : Heap} {locs : List Loc} (hw : wd_in rf_T D cy z0 ad u M X s H locs) {ls : Array Slot} (hl : lv_has ls 7 [(0, .ref (ad 0)), (1, .int x1), (2, .int x2), (3, .int x3), (4, .int x4), (5, .int x5)]) : W p l e { frames := 5, cells := 0, slots := 0, locals := 121 } s m args below meth c H locs 0 0 (MQ below (cq_i rf_T D cy z0 ad u X z.1 z.2) args s 0 0 (fun q => z0 ≤ q)) (F0 m 14 ls []) := by
  have hx := hC.1
  have hb := hC.2.1
  unfold f_X12_likeliest_14 at hf
  refine lv_iload hx hb dX12_likeliest_14 (lv_at hl 5 rfl) ?_
  refine lv_iload hx hb dX12_likeliest_16 (lv_at hl 4 rfl) ?_
  refine lv_icmp_ge (tgt := 53) hx hb dX12_likeliest_18 (by decide) (fun c3 => ?_) (fun c3 => ?_)
  · rw [if_pos c3] at hf
    exact k_X12_likeliest_53 hC hf hw (lv_sub hl [0] rfl)
  · rw [if_neg c3] at hf
    refine lv_aload_n hx hb dX12_likeliest_21 rfl (lv_at hl 0 rfl) ?_
    refine lv_iconst (v := 0) hx hb dX12_likeliest_22 (by decide) ?_
    refine lv_iload_n hx hb dX12_likeliest_23 rfl (lv_at hl 1 rfl) ?_
    refine lv_iload hx hb dX12_likeliest_24 (lv_at hl 5 rfl) ?_
    refine lv_iload_n hx hb dX12_likeliest_26 rfl (lv_at hl 2 rfl) ?_
    refine lv_iload_n hx hb dX12_likeliest_27 rfl (lv_at hl 3 rfl) ?_
    obtain ⟨z4, ez4, hf⟩ := bd_e hf
    refine clc_Vv hC hw (c_X12_says ez4) hd_X12_says cw_X12_200 (Nat.le_of_ble_eq_true rfl) rfl rfl (rest := []) hl.1 rfl (Nat.le_of_ble_eq_true rfl) ⟨Nat.le_of_ble_eq_true rfl, Nat.le_of_ble_eq_true rfl⟩ ⟨Nat.zero_le _, Nat.zero_le _⟩ rfl dX12_likeliest_28 (fun H locs hw => ?_)
    refine lv_aload_n hx hb dX12_likeliest_31 rfl (lv_at hl 0 rfl) ?_
    refine lv_aload_n hx hb dX12_likeliest_32 rfl (lv_at hl 0 rfl) ?_
    refine lv_iconst (v := 0) hx hb dX12_likeliest_33 (by decide) ?_
    obtain ⟨z5, ez5, hf⟩ := bd_e hf
    refine clc_Vl hC hw (c_X12_packs ez5) hd_X12_packs cw_X12_303 (Nat.le_of_ble_eq_true rfl) rfl rfl (rest := [.ref (ad 0)]) hl.1 rfl (Nat.le_of_ble_eq_true rfl) ⟨Nat.le_of_ble_eq_true rfl, Nat.le_of_ble_eq_true rfl⟩ ⟨Nat.zero_le _, Nat.zero_le _⟩ rfl dX12_likeliest_34 (fun H locs hw => ?_)
    refine lv_aload_n hx hb dX12_likeliest_37 rfl (lv_at hl 0 rfl) ?_
    refine rg_p hC hw 0 (Nat.le_of_ble_eq_true rfl) rfl fd_X12_43 wf_X12_317 (q := 30) rfl dX12_likeliest_38 ?_
    refine lv_iload hx hb dX12_likeliest_41 (lv_at hl 5 rfl) ?_
    obtain ⟨h6, hf⟩ := ck_e hf
    refine ra_l hC hw 30 (Nat.le_of_ble_eq_true rfl) rfl h6 dX12_likeliest_43 ?_
    obtain ⟨z7, ez7, hf⟩ := bd_e hf
    refine clc_Vv hC hw (c_X12_notes ez7) hd_X12_notes cw_X12_307 (Nat.le_of_ble_eq_true rfl) rfl rfl (rest := []) hl.1 rfl (Nat.le_of_ble_eq_true rfl) ⟨Nat.le_of_ble_eq_true rfl, Nat.le_of_ble_eq_true rfl⟩ ⟨Nat.zero_le _, Nat.zero_le _⟩ rfl dX12_likeliest_44 (fun H locs hw => ?_)
    obtain ⟨y8, ey8, hf⟩ := sq_e hf
    refine lv_iinc (v := y8) (lv' := [(5, .int y8), (0, .ref (ad 0)), (1, .int x1), (2, .int x2), (3, .int x3), (4, .int x4)]) hx hb dX12_likeliest_47 hl (k := 5) rfl (by rw [ey8]; rfl) (by decide) rfl (fun ls hl => ?_)
    refine lv_goto (tgt := 14) hx hb dX12_likeliest_50 (by decide) ?_
    exact hq14 _ _ _ _ _ _ _ _ _ hf hw (lv_sub hl [1, 2, 3, 4, 5, 0] rfl)
set_option maxRecDepth 100000 in
set_option maxHeartbeats 4000000 in
theorem k_X12_likeliest_14l {p : Program} {l : Launch} {e : Env} {s : State} {m : MethodId} {args : Array Value} {below : List Frame} {meth : Method} {c : Code} {D : va_G} {cy : Nat → ClassId} {z0 : Nat} {ad : Nat → Nat} {X : va_W} {u : Nat × Nat} (hC : cx_C p s m args meth c cX12_likeliest "RhymedThenModel" (Cond.code yX12_likeliest cX12_likeliest 7 (some .int)) 7 (some .int)) {z : (Int32 × mm_M)} : ∀ (n : Nat) (x1 : Int32) (x2 : Int32) (x3 : Int32) (x4 : Int32) (x5 : Int32) (M : mm_M) (H : Heap) (locs : List Loc) (ls : Array Slot), f_X12_likeliest_14l n x1 x2 x3 x4 x5 M = some z → wd_in rf_T D cy z0 ad u M X s H locs → lv_has ls 7 [(0, .ref (ad 0)), (1, .int x1), (2, .int x2), (3, .int x3), (4, .int x4), (5, .int x5)] → W p l e { frames := 5, cells := 0, slots := 0, locals := 121 } s m args below meth c H locs 0 0 (MQ below (cq_i rf_T D cy z0 ad u X z.1 z.2) args s 0 0 (fun q => z0 ≤ q)) (F0 m 14 ls []) := by
  intro n
  induction n with
  | zero => intro x1 x2 x3 x4 x5 M H locs ls hf; exact absurd hf (by simp [f_X12_likeliest_14l])
  | succ n ih => intro x1 x2 x3 x4 x5 M H locs ls hf hw hl; exact k_X12_likeliest_14 hC ih hf hw hl
set_option maxRecDepth 100000 in
set_option maxHeartbeats 4000000 in
theorem k_X12_likeliest {p : Program} {l : Launch} {e : Env} {s : State} {m : MethodId} {args : Array Value} {below : List Frame} {meth : Method} {c : Code} {D : va_G} {cy : Nat → ClassId} {z0 : Nat} {ad : Nat → Nat} {X : va_W} {u : Nat × Nat} (hC : cx_C p s m args meth c cX12_likeliest "RhymedThenModel" (Cond.code yX12_likeliest cX12_likeliest 7 (some .int)) 7 (some .int)) {z : (Int32 × mm_M)} {x1 : Int32} {x2 : Int32} {x3 : Int32} {M : mm_M} (hf : f_X12_likeliest x1 x2 x3 M = some z) {H : Heap} {locs : List Loc} (hw : wd_in rf_T D cy z0 ad u M X s H locs) {ls : Array Slot} (hl : lv_has ls 7 [(0, .ref (ad 0)), (1, .int x1), (2, .int x2), (3, .int x3)]) : W p l e { frames := 5, cells := 0, slots := 0, locals := 121 } s m args below meth c H locs 0 0 (MQ below (cq_i rf_T D cy z0 ad u X z.1 z.2) args s 0 0 (fun q => z0 ≤ q)) (F0 m 0 ls []) := by
  have hx := hC.1
  have hb := hC.2.1
  unfold f_X12_likeliest at hf
  refine lv_aload_n hx hb dX12_likeliest_0 rfl (lv_at hl 0 rfl) ?_
  refine lv_iconst (v := 0) hx hb dX12_likeliest_1 (by decide) ?_
  obtain ⟨M1, eM1, hf⟩ := sq_e hf
  refine rp_i hC hw 0 (Nat.le_of_ble_eq_true rfl) rfl fd_X12_42 wf_X12_294 fp_X12_42 rfl rfl dX12_likeliest_2 eM1 (fun H locs hw => ?_)
  refine lv_aload_n hx hb dX12_likeliest_5 rfl (lv_at hl 0 rfl) ?_
  obtain ⟨z2, ez2, hf⟩ := bd_e hf
  refine clc_Vi hC hw (c_X12_histories ez2) hd_X12_histories cw_X12_107 (Nat.le_of_ble_eq_true rfl) rfl rfl (rest := []) hl.1 rfl (Nat.le_of_ble_eq_true rfl) ⟨Nat.le_of_ble_eq_true rfl, Nat.le_of_ble_eq_true rfl⟩ ⟨Nat.zero_le _, Nat.zero_le _⟩ rfl dX12_likeliest_6 (fun H locs hw => ?_)
  refine lv_istore (lv' := [(4, .int z2), (0, .ref (ad 0)), (1, .int x1), (2, .int x2), (3, .int x3)]) hx hb dX12_likeliest_9 hl (by decide) rfl (fun ls hl => ?_)
  refine lv_iconst (v := 0) hx hb dX12_likeliest_11 (by decide) ?_
  refine lv_istore (lv' := [(5, .int 0), (4, .int z2), (0, .ref (ad 0)), (1, .int x1), (2, .int x2), (3, .int x3)]) hx hb dX12_likeliest_12 hl (by decide) rfl (fun ls hl => ?_)
  exact k_X12_likeliest_14l hC fu_ _ _ _ _ _ _ _ _ _ hf hw (lv_sub hl [2, 3, 4, 5, 1, 0] rfl)
set_option maxRecDepth 100000 in
theorem c_X12_likeliest {l : Launch} {D : va_G} {cy : Nat → ClassId} {z0 : Nat} {ad : Nat → Nat} {u : Nat × Nat} {X : va_W} {z : (Int32 × mm_M)} {x1 : Int32} {x2 : Int32} {x3 : Int32} {M : mm_M} (hf : f_X12_likeliest x1 x2 x3 M = some z) : ct_i rf_T l yX12_likeliest (Cond.code yX12_likeliest cX12_likeliest 7 (some .int)) 5 121 D cy z0 ad u M X [.ref (ad 0), .int x1, .int x2, .int x3] z.1 z.2 := by
  refine bgc_i (by decide) (fun p e s m below meth c hC hw => ?_)
  refine en_t (Nat.le_of_ble_eq_true rfl) (fun ls hl => ?_)
  have hl : lv_has ls 7 [(0, .ref (ad 0)), (1, .int x1), (2, .int x2), (3, .int x3)] := hl
  exact k_X12_likeliest hC hf hw hl
set_option maxRecDepth 100000 in
set_option maxHeartbeats 4000000 in
theorem k_X12_then_84 {p : Program} {l : Launch} {e : Env} {s : State} {m : MethodId} {args : Array Value} {below : List Frame} {meth : Method} {c : Code} {D : va_G} {cy : Nat → ClassId} {z0 : Nat} {ad : Nat → Nat} {X : va_W} {u : Nat × Nat} (hC : cx_C p s m args meth c cX12_then "RhymedThenModel" (Cond.code yX12_then cX12_then 9 (some .int)) 9 (some .int)) {z : (Int32 × mm_M)} {x6 : Int32} {x7 : Int32} {x8 : Int32} {M : mm_M} {q84 : Int32 → Int32 → Int32 → mm_M → Option (Int32 × mm_M)} (hq84 : ∀ (x6 : Int32) (x7 : Int32) (x8 : Int32) (M : mm_M) (H : Heap) (locs : List Loc) (ls : Array Slot), q84 x6 x7 x8 M = some z → wd_in rf_T D cy z0 ad u M X s H locs → lv_has ls 9 [(0, .ref (ad 0)), (6, .int x6), (7, .int x7), (8, .int x8)] → W p l e { frames := 8, cells := 0, slots := 0, locals := 194 } s m args below meth c H locs 0 0 (MQ below (cq_i rf_T D cy z0 ad u X z.1 z.2) args s 0 0 (fun q => z0 ≤ q)) (F0 m 84 ls [])) (hf : f_X12_then_84 q84 x6 x7 x8 M = some z) {H : Heap} {locs : List Loc} (hw : wd_in rf_T D cy z0 ad u M X s H locs) {ls : Array Slot} (hl : lv_has ls 9 [(0, .ref (ad 0)), (6, .int x6), (7, .int x7), (8, .int x8)]) : W p l e { frames := 8, cells := 0, slots := 0, locals := 194 } s m args below meth c H locs 0 0 (MQ below (cq_i rf_T D cy z0 ad u X z.1 z.2) args s 0 0 (fun q => z0 ≤ q)) (F0 m 84 ls []) := by
  have hx := hC.1
  have hb := hC.2.1
  unfold f_X12_then_84 at hf
  refine lv_iload hx hb dX12_then_84 (lv_at hl 3 rfl) ?_
  refine lv_if_lt (tgt := 115) hx hb dX12_then_86 (by decide) (fun c16 => ?_) (fun c16 => ?_)
  · rw [if_pos c16] at hf
    refine lv_iload hx hb dX12_then_115 (lv_at hl 2 rfl) ?_
    have hz := Option.some.inj hf
    subst hz
    exact rtc_i hC hw dX12_then_117
  · rw [if_neg c16] at hf
    refine lv_aload_n hx hb dX12_then_89 rfl (lv_at hl 0 rfl) ?_
    refine lv_aload_n hx hb dX12_then_90 rfl (lv_at hl 0 rfl) ?_
    refine rg_p hC hw 0 (Nat.le_of_ble_eq_true rfl) rfl fd_X12_40 wf_X12_297 (q := 28) rfl dX12_then_91 ?_
    refine lv_iload hx hb dX12_then_94 (lv_at hl 1 rfl) ?_
    obtain ⟨h17, hf⟩ := ck_e hf
    refine ra_l hC hw 28 (Nat.le_of_ble_eq_true rfl) rfl h17 dX12_then_96 ?_
    refine lv_iconst (v := 4) hx hb dX12_then_97 (by decide) ?_
    refine lv_iload hx hb dX12_then_98 (lv_at hl 3 rfl) ?_
    refine lv_imul hx hb dX12_then_100 ?_
    refine lv_lshr hx hb dX12_then_101 rfl ?_
    refine lv_ldc2 (v := 15) hx hb hC.2.2.2.1 (hC.t wk_X12_332) dX12_then_102 ?_
    refine lv_land hx hb dX12_then_105 ?_
    obtain ⟨z18, ez18, hf⟩ := bd_e hf
    refine clc_Vv hC hw (c_X12_enters ez18) hd_X12_enters cw_X12_18 (Nat.le_of_ble_eq_true rfl) rfl rfl (rest := []) hl.1 rfl (Nat.le_of_ble_eq_true rfl) ⟨Nat.le_of_ble_eq_true rfl, Nat.le_of_ble_eq_true rfl⟩ ⟨Nat.zero_le _, Nat.zero_le _⟩ rfl dX12_then_106 (fun H locs hw => ?_)
    obtain ⟨y19, ey19, hf⟩ := sq_e hf
    refine lv_iinc (v := y19) (lv' := [(8, .int y19), (0, .ref (ad 0)), (6, .int x6), (7, .int x7)]) hx hb dX12_then_109 hl (k := 3) rfl (by rw [ey19]; rfl) (by decide) rfl (fun ls hl => ?_)
    refine lv_goto (tgt := 84) hx hb dX12_then_112 (by decide) ?_
    exact hq84 _ _ _ _ _ _ _ hf hw (lv_sub hl [1, 2, 3, 0] rfl)
set_option maxRecDepth 100000 in
set_option maxHeartbeats 4000000 in
theorem k_X12_then_84l {p : Program} {l : Launch} {e : Env} {s : State} {m : MethodId} {args : Array Value} {below : List Frame} {meth : Method} {c : Code} {D : va_G} {cy : Nat → ClassId} {z0 : Nat} {ad : Nat → Nat} {X : va_W} {u : Nat × Nat} (hC : cx_C p s m args meth c cX12_then "RhymedThenModel" (Cond.code yX12_then cX12_then 9 (some .int)) 9 (some .int)) {z : (Int32 × mm_M)} : ∀ (n : Nat) (x6 : Int32) (x7 : Int32) (x8 : Int32) (M : mm_M) (H : Heap) (locs : List Loc) (ls : Array Slot), f_X12_then_84l n x6 x7 x8 M = some z → wd_in rf_T D cy z0 ad u M X s H locs → lv_has ls 9 [(0, .ref (ad 0)), (6, .int x6), (7, .int x7), (8, .int x8)] → W p l e { frames := 8, cells := 0, slots := 0, locals := 194 } s m args below meth c H locs 0 0 (MQ below (cq_i rf_T D cy z0 ad u X z.1 z.2) args s 0 0 (fun q => z0 ≤ q)) (F0 m 84 ls []) := by
  intro n
  induction n with
  | zero => intro x6 x7 x8 M H locs ls hf; exact absurd hf (by simp [f_X12_then_84l])
  | succ n ih => intro x6 x7 x8 M H locs ls hf hw hl; exact k_X12_then_84 hC ih hf hw hl
set_option maxRecDepth 100000 in
set_option maxHeartbeats 4000000 in
theorem k_X12_then {p : Program} {l : Launch} {e : Env} {s : State} {m : MethodId} {args : Array Value} {below : List Frame} {meth : Method} {c : Code} {D : va_G} {cy : Nat → ClassId} {z0 : Nat} {ad : Nat → Nat} {X : va_W} {u : Nat × Nat} (hC : cx_C p s m args meth c cX12_then "RhymedThenModel" (Cond.code yX12_then cX12_then 9 (some .int)) 9 (some .int)) {z : (Int32 × mm_M)} {x1 : Int32} {x2 : Int32} {x3 : Int32} {M : mm_M} (hf : f_X12_then x1 x2 x3 M = some z) {H : Heap} {locs : List Loc} (hw : wd_in rf_T D cy z0 ad u M X s H locs) {ls : Array Slot} (hl : lv_has ls 9 [(0, .ref (ad 0)), (1, .int x1), (2, .int x2), (3, .int x3)]) : W p l e { frames := 8, cells := 0, slots := 0, locals := 194 } s m args below meth c H locs 0 0 (MQ below (cq_i rf_T D cy z0 ad u X z.1 z.2) args s 0 0 (fun q => z0 ≤ q)) (F0 m 0 ls []) := by
  have hx := hC.1
  have hb := hC.2.1
  unfold f_X12_then at hf
  refine lv_aload_n hx hb dX12_then_0 rfl (lv_at hl 0 rfl) ?_
  refine lv_iconst (v := 0) hx hb dX12_then_1 (by decide) ?_
  obtain ⟨M1, eM1, hf⟩ := sq_e hf
  refine rp_i hC hw 0 (Nat.le_of_ble_eq_true rfl) rfl fd_X12_0 wf_X12_1 fp_X12_0 rfl rfl dX12_then_2 eM1 (fun H locs hw => ?_)
  refine lv_aload_n hx hb dX12_then_5 rfl (lv_at hl 0 rfl) ?_
  refine lv_iload_n hx hb dX12_then_6 rfl (lv_at hl 1 rfl) ?_
  obtain ⟨z2, ez2, hf⟩ := sq_e hf
  refine clc_Vi hC hw (c_X12_isWord ez2.symm) hd_X12_isWord cw_X12_191 (Nat.le_of_ble_eq_true rfl) rfl rfl (rest := []) hl.1 rfl (Nat.le_of_ble_eq_true rfl) ⟨Nat.le_of_ble_eq_true rfl, Nat.le_of_ble_eq_true rfl⟩ ⟨Nat.zero_le _, Nat.zero_le _⟩ rfl dX12_then_7 (fun H locs hw => ?_)
  refine lv_if_eq (tgt := 31) hx hb dX12_then_10 (by decide) (fun c3 => ?_) (fun c3 => ?_)
  · rw [if_pos c3] at hf
    refine lv_iconst (v := (-1)) hx hb dX12_then_31 (by decide) ?_
    have hz := Option.some.inj hf
    subst hz
    exact rtc_i hC hw dX12_then_32
  · rw [if_neg c3] at hf
    refine lv_iload_n hx hb dX12_then_13 rfl (lv_at hl 2 rfl) ?_
    refine lv_iload_n hx hb dX12_then_14 rfl (lv_at hl 3 rfl) ?_
    obtain ⟨z4, ez4, hf⟩ := sq_e hf
    refine clc_Si hC hw (c_X12_isThen ez4.symm) hd_X12_isThen cw_X12_197 (rest := []) hl.1 rfl (Nat.le_of_ble_eq_true rfl) ⟨Nat.le_of_ble_eq_true rfl, Nat.le_of_ble_eq_true rfl⟩ ⟨Nat.zero_le _, Nat.zero_le _⟩ rfl dX12_then_15 (fun H locs hw => ?_)
    refine lv_if_eq (tgt := 31) hx hb dX12_then_18 (by decide) (fun c5 => ?_) (fun c5 => ?_)
    · rw [if_pos c5] at hf
      refine lv_iconst (v := (-1)) hx hb dX12_then_31 (by decide) ?_
      have hz := Option.some.inj hf
      subst hz
      exact rtc_i hC hw dX12_then_32
    · rw [if_neg c5] at hf
      refine lv_aload_n hx hb dX12_then_21 rfl (lv_at hl 0 rfl) ?_
      refine lv_iconst (v := (-1)) hx hb dX12_then_22 (by decide) ?_
      obtain ⟨z6, ez6, hf⟩ := bd_e hf
      refine clc_Vi hC hw (c_X12_onMany ez6) hd_X12_onMany cw_X12_310 (Nat.le_of_ble_eq_true rfl) rfl rfl (rest := []) hl.1 rfl (Nat.le_of_ble_eq_true rfl) ⟨Nat.le_of_ble_eq_true rfl, Nat.le_of_ble_eq_true rfl⟩ ⟨Nat.zero_le _, Nat.zero_le _⟩ rfl dX12_then_23 (fun H locs hw => ?_)
      refine lv_bipush (v := 12) hx hb dX12_then_26 (by decide) ?_
      refine lv_icmp_le (tgt := 33) hx hb dX12_then_28 (by decide) (fun c7 => ?_) (fun c7 => ?_)
      · rw [if_pos c7] at hf
        refine lv_aload_n hx hb dX12_then_33 rfl (lv_at hl 0 rfl) ?_
        obtain ⟨z8, ez8, hf⟩ := bd_e hf
        refine clc_Vl hC hw (c_X12_weighsAll ez8) hd_X12_weighsAll cw_X12_320 (Nat.le_of_ble_eq_true rfl) rfl rfl (rest := []) hl.1 rfl (Nat.le_of_ble_eq_true rfl) ⟨Nat.le_of_ble_eq_true rfl, Nat.le_of_ble_eq_true rfl⟩ ⟨Nat.zero_le _, Nat.zero_le _⟩ rfl dX12_then_34 (fun H locs hw => ?_)
        refine lv_lstore (lv' := [(4, .long z8.1), (0, .ref (ad 0)), (1, .int x1), (2, .int x2), (3, .int x3)]) hx hb dX12_then_37 hl (by decide) rfl (fun ls hl => ?_)
        refine lv_aload_n hx hb dX12_then_39 rfl (lv_at hl 1 rfl) ?_
        refine lv_iload_n hx hb dX12_then_40 rfl (lv_at hl 2 rfl) ?_
        refine lv_iload_n hx hb dX12_then_41 rfl (lv_at hl 3 rfl) ?_
        refine lv_iload_n hx hb dX12_then_42 rfl (lv_at hl 4 rfl) ?_
        obtain ⟨z9, ez9, hf⟩ := bd_e hf
        refine clc_Vi hC hw (c_X12_likeliest ez9) hd_X12_likeliest cw_X12_324 (Nat.le_of_ble_eq_true rfl) rfl rfl (rest := []) hl.1 rfl (Nat.le_of_ble_eq_true rfl) ⟨Nat.le_of_ble_eq_true rfl, Nat.le_of_ble_eq_true rfl⟩ ⟨Nat.zero_le _, Nat.zero_le _⟩ rfl dX12_then_43 (fun H locs hw => ?_)
        refine lv_istore (lv' := [(6, .int z9.1), (4, .long z8.1), (0, .ref (ad 0)), (1, .int x1), (2, .int x2), (3, .int x3)]) hx hb dX12_then_46 hl (by decide) rfl (fun ls hl => ?_)
        refine lv_aload_n hx hb dX12_then_48 rfl (lv_at hl 2 rfl) ?_
        refine rg_p hC hw 0 (Nat.le_of_ble_eq_true rfl) rfl fd_X12_40 wf_X12_297 (q := 28) rfl dX12_then_49 ?_
        refine lv_iload hx hb dX12_then_52 (lv_at hl 0 rfl) ?_
        obtain ⟨h10, hf⟩ := ck_e hf
        refine ra_l hC hw 28 (Nat.le_of_ble_eq_true rfl) rfl h10 dX12_then_54 ?_
        obtain ⟨z11, ez11, hf⟩ := bd_e hf
        refine clc_Si hC hw (c_X12_longOf ez11) hd_X12_longOf cw_X12_328 (rest := []) hl.1 rfl (Nat.le_of_ble_eq_true rfl) ⟨Nat.le_of_ble_eq_true rfl, Nat.le_of_ble_eq_true rfl⟩ ⟨Nat.zero_le _, Nat.zero_le _⟩ rfl dX12_then_55 (fun H locs hw => ?_)
        refine lv_istore (lv' := [(7, .int z11), (6, .int z9.1), (4, .long z8.1), (0, .ref (ad 0)), (1, .int x1), (2, .int x2), (3, .int x3)]) hx hb dX12_then_58 hl (by decide) rfl (fun ls hl => ?_)
        refine lv_aload_n hx hb dX12_then_60 rfl (lv_at hl 3 rfl) ?_
        refine lv_iconst (v := 0) hx hb dX12_then_61 (by decide) ?_
        obtain ⟨M12, eM12, hf⟩ := sq_e hf
        refine rp_i hC hw 0 (Nat.le_of_ble_eq_true rfl) rfl fd_X12_1 wf_X12_11 fp_X12_1 rfl rfl dX12_then_62 eM12 (fun H locs hw => ?_)
        refine lv_aload_n hx hb dX12_then_65 rfl (lv_at hl 3 rfl) ?_
        refine lv_aload_n hx hb dX12_then_66 rfl (lv_at hl 3 rfl) ?_
        refine rg_p hC hw 0 (Nat.le_of_ble_eq_true rfl) rfl fd_X12_41 wf_X12_300 (q := 29) rfl dX12_then_67 ?_
        refine lv_iload hx hb dX12_then_70 (lv_at hl 1 rfl) ?_
        obtain ⟨h13, hf⟩ := ck_e hf
        refine ra_l hC hw 29 (Nat.le_of_ble_eq_true rfl) rfl h13 dX12_then_72 ?_
        refine lv_lload hx hb dX12_then_73 (lv_at hl 2 rfl) ?_
        obtain ⟨z14, ez14, hf⟩ := bd_e hf
        refine clc_Vv hC hw (c_X12_entersFraction ez14) hd_X12_entersFraction cw_X12_213 (Nat.le_of_ble_eq_true rfl) rfl rfl (rest := []) hl.1 rfl (Nat.le_of_ble_eq_true rfl) ⟨Nat.le_of_ble_eq_true rfl, Nat.le_of_ble_eq_true rfl⟩ ⟨Nat.zero_le _, Nat.zero_le _⟩ rfl dX12_then_75 (fun H locs hw => ?_)
        refine lv_iload hx hb dX12_then_78 (lv_at hl 0 rfl) ?_
        refine lv_iconst (v := 1) hx hb dX12_then_80 (by decide) ?_
        refine lv_isub hx hb dX12_then_81 ?_
        obtain ⟨y15, ey15, hf⟩ := sq_e hf
        refine lt_i ey15 ?_
        refine lv_istore (lv' := [(8, .int y15), (7, .int z11), (6, .int z9.1), (4, .long z8.1), (0, .ref (ad 0)), (1, .int x1), (2, .int x2), (3, .int x3)]) hx hb dX12_then_82 hl (by decide) rfl (fun ls hl => ?_)
        exact k_X12_then_84l hC fu_ _ _ _ _ _ _ _ hf hw (lv_sub hl [4, 2, 1, 0] rfl)
      · rw [if_neg c7] at hf
        refine lv_iconst (v := (-1)) hx hb dX12_then_31 (by decide) ?_
        have hz := Option.some.inj hf
        subst hz
        exact rtc_i hC hw dX12_then_32
set_option maxRecDepth 100000 in
theorem c_X12_then {l : Launch} {D : va_G} {cy : Nat → ClassId} {z0 : Nat} {ad : Nat → Nat} {u : Nat × Nat} {X : va_W} {z : (Int32 × mm_M)} {x1 : Int32} {x2 : Int32} {x3 : Int32} {M : mm_M} (hf : f_X12_then x1 x2 x3 M = some z) : ct_i rf_T l yX12_then (Cond.code yX12_then cX12_then 9 (some .int)) 8 194 D cy z0 ad u M X [.ref (ad 0), .int x1, .int x2, .int x3] z.1 z.2 := by
  refine bgc_i (by decide) (fun p e s m below meth c hC hw => ?_)
  refine en_t (Nat.le_of_ble_eq_true rfl) (fun ls hl => ?_)
  have hl : lv_has ls 9 [(0, .ref (ad 0)), (1, .int x1), (2, .int x2), (3, .int x3)] := hl
  exact k_X12_then hC hf hw hl
set_option maxRecDepth 100000 in
set_option maxHeartbeats 4000000 in
theorem k_X12_right_99 {p : Program} {l : Launch} {e : Env} {s : State} {m : MethodId} {args : Array Value} {below : List Frame} {meth : Method} {c : Code} {D : va_G} {cy : Nat → ClassId} {z0 : Nat} {ad : Nat → Nat} {X : va_W} {u : Nat × Nat} (hC : cx_C p s m args meth c cX12_right "RhymedThenModel" (Cond.code yX12_right cX12_right 7 (some .int)) 7 (some .int)) {z : (Int32 × mm_M)} {x1 : Int32} {x2 : Int32} {x3 : Int32} {x5 : Int32} {t0 : Int32} {t1 : Int32} {M : mm_M} {q44 : Int32 → Int32 → Int32 → Int32 → Int32 → mm_M → Option (Int32 × mm_M)} (hq44 : ∀ (x1 : Int32) (x2 : Int32) (x3 : Int32) (x4 : Int32) (x5 : Int32) (M : mm_M) (H : Heap) (locs : List Loc) (ls : Array Slot), q44 x1 x2 x3 x4 x5 M = some z → wd_in rf_T D cy z0 ad u M X s H locs → lv_has ls 7 [(0, .ref (ad 0)), (1, .int x1), (2, .int x2), (3, .int x3), (4, .int x4), (5, .int x5)] → W p l e { frames := 8, cells := 0, slots := 0, locals := 194 } s m args below meth c H locs 0 0 (MQ below (cq_i rf_T D cy z0 ad u X z.1 z.2) args s 0 0 (fun q => z0 ≤ q)) (F0 m 44 ls [])) (hf : f_X12_right_99 q44 x1 x2 x3 x5 t0 t1 M = some z) {H : Heap} {locs : List Loc} (hw : wd_in rf_T D cy z0 ad u M X s H locs) {ls : Array Slot} (hl : lv_has ls 7 [(0, .ref (ad 0)), (1, .int x1), (2, .int x2), (3, .int x3), (5, .int x5)]) : W p l e { frames := 8, cells := 0, slots := 0, locals := 194 } s m args below meth c H locs 0 0 (MQ below (cq_i rf_T D cy z0 ad u X z.1 z.2) args s 0 0 (fun q => z0 ≤ q)) (F0 m 99 ls [.int t1, .int t0]) := by
  have hx := hC.1
  have hb := hC.2.1
  unfold f_X12_right_99 at hf
  refine lv_ior hx hb dX12_right_99 ?_
  obtain ⟨y18, ey18, hf⟩ := sq_e hf
  refine lt_i ey18 ?_
  refine lv_istore (lv' := [(4, .int y18), (0, .ref (ad 0)), (1, .int x1), (2, .int x2), (3, .int x3), (5, .int x5)]) hx hb dX12_right_100 hl (by decide) rfl (fun ls hl => ?_)
  obtain ⟨y19, ey19, hf⟩ := sq_e hf
  refine lv_iinc (v := y19) (lv' := [(5, .int y19), (4, .int y18), (0, .ref (ad 0)), (1, .int x1), (2, .int x2), (3, .int x3)]) hx hb dX12_right_102 hl (k := 5) rfl (by rw [ey19]; rfl) (by decide) rfl (fun ls hl => ?_)
  refine lv_goto (tgt := 44) hx hb dX12_right_105 (by decide) ?_
  exact hq44 _ _ _ _ _ _ _ _ _ hf hw (lv_sub hl [2, 3, 4, 5, 1, 0] rfl)
set_option maxRecDepth 100000 in
set_option maxHeartbeats 4000000 in
theorem k_X12_right_108 {p : Program} {l : Launch} {e : Env} {s : State} {m : MethodId} {args : Array Value} {below : List Frame} {meth : Method} {c : Code} {D : va_G} {cy : Nat → ClassId} {z0 : Nat} {ad : Nat → Nat} {X : va_W} {u : Nat × Nat} (hC : cx_C p s m args meth c cX12_right "RhymedThenModel" (Cond.code yX12_right cX12_right 7 (some .int)) 7 (some .int)) {z : (Int32 × mm_M)} {x4 : Int32} {M : mm_M} (hf : f_X12_right_108 x4 M = some z) {H : Heap} {locs : List Loc} (hw : wd_in rf_T D cy z0 ad u M X s H locs) {ls : Array Slot} (hl : lv_has ls 7 [(0, .ref (ad 0)), (4, .int x4)]) : W p l e { frames := 8, cells := 0, slots := 0, locals := 194 } s m args below meth c H locs 0 0 (MQ below (cq_i rf_T D cy z0 ad u X z.1 z.2) args s 0 0 (fun q => z0 ≤ q)) (F0 m 108 ls []) := by
  have hx := hC.1
  have hb := hC.2.1
  unfold f_X12_right_108 at hf
  refine lv_aload_n hx hb dX12_right_108 rfl (lv_at hl 0 rfl) ?_
  refine lv_iconst (v := 0) hx hb dX12_right_109 (by decide) ?_
  obtain ⟨M15, eM15, hf⟩ := sq_e hf
  refine rp_i hC hw 0 (Nat.le_of_ble_eq_true rfl) rfl fd_X12_1 wf_X12_11 fp_X12_1 rfl rfl dX12_right_110 eM15 (fun H locs hw => ?_)
  refine lv_aload_n hx hb dX12_right_113 rfl (lv_at hl 0 rfl) ?_
  refine lv_iload hx hb dX12_right_114 (lv_at hl 1 rfl) ?_
  refine lv_i2l hx hb dX12_right_116 rfl ?_
  obtain ⟨z16, ez16, hf⟩ := bd_e hf
  refine clc_Vv hC hw (c_X12_enters ez16) hd_X12_enters cw_X12_18 (Nat.le_of_ble_eq_true rfl) rfl rfl (rest := []) hl.1 rfl (Nat.le_of_ble_eq_true rfl) ⟨Nat.le_of_ble_eq_true rfl, Nat.le_of_ble_eq_true rfl⟩ ⟨Nat.zero_le _, Nat.zero_le _⟩ rfl dX12_right_117 (fun H locs hw => ?_)
  refine lv_iload hx hb dX12_right_120 (lv_at hl 1 rfl) ?_
  obtain ⟨z17, ez17, hf⟩ := sq_e hf
  refine clc_Si hC hw (c_J6_bitCount_0f7a4 ez17.symm) hd_J6_bitCount_0f7a4 cw_X12_289 (rest := []) hl.1 rfl (Nat.le_of_ble_eq_true rfl) ⟨Nat.le_of_ble_eq_true rfl, Nat.le_of_ble_eq_true rfl⟩ ⟨Nat.zero_le _, Nat.zero_le _⟩ rfl dX12_right_122 (fun H locs hw => ?_)
  have hz := Option.some.inj hf
  subst hz
  exact rtc_i hC hw dX12_right_125
set_option maxRecDepth 100000 in
set_option maxHeartbeats 4000000 in
theorem k_X12_right_44 {p : Program} {l : Launch} {e : Env} {s : State} {m : MethodId} {args : Array Value} {below : List Frame} {meth : Method} {c : Code} {D : va_G} {cy : Nat → ClassId} {z0 : Nat} {ad : Nat → Nat} {X : va_W} {u : Nat × Nat} (hC : cx_C p s m args meth c cX12_right "RhymedThenModel" (Cond.code yX12_right cX12_right 7 (some .int)) 7 (some .int)) {z : (Int32 × mm_M)} {x1 : Int32} {x2 : Int32} {x3 : Int32} {x4 : Int32} {x5 : Int32} {M : mm_M} {q44 : Int32 → Int32 → Int32 → Int32 → Int32 → mm_M → Option (Int32 × mm_M)} (hq44 : ∀ (x1 : Int32) (x2 : Int32) (x3 : Int32) (x4 : Int32) (x5 : Int32) (M : mm_M) (H : Heap) (locs : List Loc) (ls : Array Slot), q44 x1 x2 x3 x4 x5 M = some z → wd_in rf_T D cy z0 ad u M X s H locs → lv_has ls 7 [(0, .ref (ad 0)), (1, .int x1), (2, .int x2), (3, .int x3), (4, .int x4), (5, .int x5)] → W p l e { frames := 8, cells := 0, slots := 0, locals := 194 } s m args below meth c H locs 0 0 (MQ below (cq_i rf_T D cy z0 ad u X z.1 z.2) args s 0 0 (fun q => z0 ≤ q)) (F0 m 44 ls [])) (hf : f_X12_right_44 q44 x1 x2 x3 x4 x5 M = some z) {H : Heap} {locs : List Loc} (hw : wd_in rf_T D cy z0 ad u M X s H locs) {ls : Array Slot} (hl : lv_has ls 7 [(0, .ref (ad 0)), (1, .int x1), (2, .int x2), (3, .int x3), (4, .int x4), (5, .int x5)]) : W p l e { frames := 8, cells := 0, slots := 0, locals := 194 } s m args below meth c H locs 0 0 (MQ below (cq_i rf_T D cy z0 ad u X z.1 z.2) args s 0 0 (fun q => z0 ≤ q)) (F0 m 44 ls []) := by
  have hx := hC.1
  have hb := hC.2.1
  unfold f_X12_right_44 at hf
  refine lv_iload hx hb dX12_right_44 (lv_at hl 5 rfl) ?_
  refine lv_aload_n hx hb dX12_right_46 rfl (lv_at hl 0 rfl) ?_
  refine rg_i hC hw 0 (Nat.le_of_ble_eq_true rfl) rfl fd_X12_8 wf_X12_75 dX12_right_47 ?_
  refine lv_icmp_ge (tgt := 108) hx hb dX12_right_50 (by decide) (fun c9 => ?_) (fun c9 => ?_)
  · rw [if_pos c9] at hf
    exact k_X12_right_108 hC hf hw (lv_sub hl [0, 4] rfl)
  · rw [if_neg c9] at hf
    refine lv_aload_n hx hb dX12_right_53 rfl (lv_at hl 0 rfl) ?_
    refine lv_iload hx hb dX12_right_54 (lv_at hl 5 rfl) ?_
    refine lv_iload_n hx hb dX12_right_56 rfl (lv_at hl 2 rfl) ?_
    refine lv_iload_n hx hb dX12_right_57 rfl (lv_at hl 3 rfl) ?_
    obtain ⟨z10, ez10, hf⟩ := bd_e hf
    refine clc_Vi hC hw (c_X12_likeliest ez10) hd_X12_likeliest cw_X12_324 (Nat.le_of_ble_eq_true rfl) rfl rfl (rest := []) hl.1 rfl (Nat.le_of_ble_eq_true rfl) ⟨Nat.le_of_ble_eq_true rfl, Nat.le_of_ble_eq_true rfl⟩ ⟨Nat.zero_le _, Nat.zero_le _⟩ rfl dX12_right_58 (fun H locs hw => ?_)
    refine lv_istore (lv' := [(6, .int z10.1), (0, .ref (ad 0)), (1, .int x1), (2, .int x2), (3, .int x3), (4, .int x4), (5, .int x5)]) hx hb dX12_right_61 hl (by decide) rfl (fun ls hl => ?_)
    refine lv_aload_n hx hb dX12_right_63 rfl (lv_at hl 1 rfl) ?_
    refine lv_iconst (v := 0) hx hb dX12_right_64 (by decide) ?_
    refine lv_iload hx hb dX12_right_65 (lv_at hl 6 rfl) ?_
    refine lv_iload_n hx hb dX12_right_67 rfl (lv_at hl 2 rfl) ?_
    refine lv_iload_n hx hb dX12_right_68 rfl (lv_at hl 3 rfl) ?_
    refine lv_iload_n hx hb dX12_right_69 rfl (lv_at hl 4 rfl) ?_
    obtain ⟨z11, ez11, hf⟩ := bd_e hf
    refine clc_Vv hC hw (c_X12_says ez11) hd_X12_says cw_X12_200 (Nat.le_of_ble_eq_true rfl) rfl rfl (rest := []) hl.1 rfl (Nat.le_of_ble_eq_true rfl) ⟨Nat.le_of_ble_eq_true rfl, Nat.le_of_ble_eq_true rfl⟩ ⟨Nat.zero_le _, Nat.zero_le _⟩ rfl dX12_right_70 (fun H locs hw => ?_)
    refine lv_iload hx hb dX12_right_73 (lv_at hl 5 rfl) ?_
    refine lv_aload_n hx hb dX12_right_75 rfl (lv_at hl 1 rfl) ?_
    refine lv_iconst (v := 0) hx hb dX12_right_76 (by decide) ?_
    obtain ⟨z12, ez12, hf⟩ := bd_e hf
    refine clc_Vl hC hw (c_X12_packs ez12) hd_X12_packs cw_X12_303 (Nat.le_of_ble_eq_true rfl) rfl rfl (rest := [.int x4]) hl.1 rfl (Nat.le_of_ble_eq_true rfl) ⟨Nat.le_of_ble_eq_true rfl, Nat.le_of_ble_eq_true rfl⟩ ⟨Nat.zero_le _, Nat.zero_le _⟩ rfl dX12_right_77 (fun H locs hw => ?_)
    refine lv_aload_n hx hb dX12_right_80 rfl (lv_at hl 1 rfl) ?_
    refine rg_p hC hw 0 (Nat.le_of_ble_eq_true rfl) rfl fd_X12_40 wf_X12_297 (q := 28) rfl dX12_right_81 ?_
    refine lv_iload hx hb dX12_right_84 (lv_at hl 0 rfl) ?_
    obtain ⟨h13, hf⟩ := ck_e hf
    refine ra_l hC hw 28 (Nat.le_of_ble_eq_true rfl) rfl h13 dX12_right_86 ?_
    refine lc_ne (tgt := 98) hx hb dX12_right_87 dX12_right_88 (by decide) (fun c14 => ?_) (fun c14 => ?_)
    · rw [if_neg c14] at hf
      refine lv_iconst (v := 0) hx hb dX12_right_98 (by decide) ?_
      exact k_X12_right_99 hC hq44 hf hw (lv_sub hl [1, 2, 3, 4, 6] rfl)
    · rw [if_pos c14] at hf
      refine lv_iconst (v := 1) hx hb dX12_right_91 (by decide) ?_
      refine lv_iload hx hb dX12_right_92 (lv_at hl 6 rfl) ?_
      refine lv_ishl hx hb dX12_right_94 ?_
      refine lv_goto (tgt := 99) hx hb dX12_right_95 (by decide) ?_
      exact k_X12_right_99 hC hq44 hf hw (lv_sub hl [1, 2, 3, 4, 6] rfl)
set_option maxRecDepth 100000 in
set_option maxHeartbeats 4000000 in
theorem k_X12_right_44l {p : Program} {l : Launch} {e : Env} {s : State} {m : MethodId} {args : Array Value} {below : List Frame} {meth : Method} {c : Code} {D : va_G} {cy : Nat → ClassId} {z0 : Nat} {ad : Nat → Nat} {X : va_W} {u : Nat × Nat} (hC : cx_C p s m args meth c cX12_right "RhymedThenModel" (Cond.code yX12_right cX12_right 7 (some .int)) 7 (some .int)) {z : (Int32 × mm_M)} : ∀ (n : Nat) (x1 : Int32) (x2 : Int32) (x3 : Int32) (x4 : Int32) (x5 : Int32) (M : mm_M) (H : Heap) (locs : List Loc) (ls : Array Slot), f_X12_right_44l n x1 x2 x3 x4 x5 M = some z → wd_in rf_T D cy z0 ad u M X s H locs → lv_has ls 7 [(0, .ref (ad 0)), (1, .int x1), (2, .int x2), (3, .int x3), (4, .int x4), (5, .int x5)] → W p l e { frames := 8, cells := 0, slots := 0, locals := 194 } s m args below meth c H locs 0 0 (MQ below (cq_i rf_T D cy z0 ad u X z.1 z.2) args s 0 0 (fun q => z0 ≤ q)) (F0 m 44 ls []) := by
  intro n
  induction n with
  | zero => intro x1 x2 x3 x4 x5 M H locs ls hf; exact absurd hf (by simp [f_X12_right_44l])
  | succ n ih => intro x1 x2 x3 x4 x5 M H locs ls hf hw hl; exact k_X12_right_44 hC ih hf hw hl
set_option maxRecDepth 100000 in
set_option maxHeartbeats 4000000 in
theorem k_X12_right {p : Program} {l : Launch} {e : Env} {s : State} {m : MethodId} {args : Array Value} {below : List Frame} {meth : Method} {c : Code} {D : va_G} {cy : Nat → ClassId} {z0 : Nat} {ad : Nat → Nat} {X : va_W} {u : Nat × Nat} (hC : cx_C p s m args meth c cX12_right "RhymedThenModel" (Cond.code yX12_right cX12_right 7 (some .int)) 7 (some .int)) {z : (Int32 × mm_M)} {x1 : Int32} {x2 : Int32} {x3 : Int32} {M : mm_M} (hf : f_X12_right x1 x2 x3 M = some z) {H : Heap} {locs : List Loc} (hw : wd_in rf_T D cy z0 ad u M X s H locs) {ls : Array Slot} (hl : lv_has ls 7 [(0, .ref (ad 0)), (1, .int x1), (2, .int x2), (3, .int x3)]) : W p l e { frames := 8, cells := 0, slots := 0, locals := 194 } s m args below meth c H locs 0 0 (MQ below (cq_i rf_T D cy z0 ad u X z.1 z.2) args s 0 0 (fun q => z0 ≤ q)) (F0 m 0 ls []) := by
  have hx := hC.1
  have hb := hC.2.1
  unfold f_X12_right at hf
  refine lv_aload_n hx hb dX12_right_0 rfl (lv_at hl 0 rfl) ?_
  refine lv_iconst (v := 0) hx hb dX12_right_1 (by decide) ?_
  obtain ⟨M1, eM1, hf⟩ := sq_e hf
  refine rp_i hC hw 0 (Nat.le_of_ble_eq_true rfl) rfl fd_X12_0 wf_X12_1 fp_X12_0 rfl rfl dX12_right_2 eM1 (fun H locs hw => ?_)
  refine lv_aload_n hx hb dX12_right_5 rfl (lv_at hl 0 rfl) ?_
  refine lv_iload_n hx hb dX12_right_6 rfl (lv_at hl 1 rfl) ?_
  obtain ⟨z2, ez2, hf⟩ := bd_e hf
  refine clc_Vi hC hw (c_X12_isHistory ez2) hd_X12_isHistory cw_X12_194 (Nat.le_of_ble_eq_true rfl) rfl rfl (rest := []) hl.1 rfl (Nat.le_of_ble_eq_true rfl) ⟨Nat.le_of_ble_eq_true rfl, Nat.le_of_ble_eq_true rfl⟩ ⟨Nat.zero_le _, Nat.zero_le _⟩ rfl dX12_right_7 (fun H locs hw => ?_)
  refine lv_if_eq (tgt := 31) hx hb dX12_right_10 (by decide) (fun c3 => ?_) (fun c3 => ?_)
  · rw [if_pos c3] at hf
    refine lv_iconst (v := (-1)) hx hb dX12_right_31 (by decide) ?_
    have hz := Option.some.inj hf
    subst hz
    exact rtc_i hC hw dX12_right_32
  · rw [if_neg c3] at hf
    refine lv_iload_n hx hb dX12_right_13 rfl (lv_at hl 2 rfl) ?_
    refine lv_iload_n hx hb dX12_right_14 rfl (lv_at hl 3 rfl) ?_
    obtain ⟨z4, ez4, hf⟩ := sq_e hf
    refine clc_Si hC hw (c_X12_isThen ez4.symm) hd_X12_isThen cw_X12_197 (rest := []) hl.1 rfl (Nat.le_of_ble_eq_true rfl) ⟨Nat.le_of_ble_eq_true rfl, Nat.le_of_ble_eq_true rfl⟩ ⟨Nat.zero_le _, Nat.zero_le _⟩ rfl dX12_right_15 (fun H locs hw => ?_)
    refine lv_if_eq (tgt := 31) hx hb dX12_right_18 (by decide) (fun c5 => ?_) (fun c5 => ?_)
    · rw [if_pos c5] at hf
      refine lv_iconst (v := (-1)) hx hb dX12_right_31 (by decide) ?_
      have hz := Option.some.inj hf
      subst hz
      exact rtc_i hC hw dX12_right_32
    · rw [if_neg c5] at hf
      refine lv_aload_n hx hb dX12_right_21 rfl (lv_at hl 0 rfl) ?_
      refine lv_iconst (v := (-1)) hx hb dX12_right_22 (by decide) ?_
      obtain ⟨z6, ez6, hf⟩ := bd_e hf
      refine clc_Vi hC hw (c_X12_onMany ez6) hd_X12_onMany cw_X12_310 (Nat.le_of_ble_eq_true rfl) rfl rfl (rest := []) hl.1 rfl (Nat.le_of_ble_eq_true rfl) ⟨Nat.le_of_ble_eq_true rfl, Nat.le_of_ble_eq_true rfl⟩ ⟨Nat.zero_le _, Nat.zero_le _⟩ rfl dX12_right_23 (fun H locs hw => ?_)
      refine lv_bipush (v := 12) hx hb dX12_right_26 (by decide) ?_
      refine lv_icmp_le (tgt := 33) hx hb dX12_right_28 (by decide) (fun c7 => ?_) (fun c7 => ?_)
      · rw [if_pos c7] at hf
        refine lv_aload_n hx hb dX12_right_33 rfl (lv_at hl 0 rfl) ?_
        obtain ⟨z8, ez8, hf⟩ := bd_e hf
        refine clc_Vl hC hw (c_X12_weighsAll ez8) hd_X12_weighsAll cw_X12_320 (Nat.le_of_ble_eq_true rfl) rfl rfl (rest := []) hl.1 rfl (Nat.le_of_ble_eq_true rfl) ⟨Nat.le_of_ble_eq_true rfl, Nat.le_of_ble_eq_true rfl⟩ ⟨Nat.zero_le _, Nat.zero_le _⟩ rfl dX12_right_34 (fun H locs hw => ?_)
        refine lv_pop2_2 hx hb dX12_right_37 rfl ?_
        refine lv_iconst (v := 0) hx hb dX12_right_38 (by decide) ?_
        refine lv_istore (lv' := [(4, .int 0), (0, .ref (ad 0)), (1, .int x1), (2, .int x2), (3, .int x3)]) hx hb dX12_right_39 hl (by decide) rfl (fun ls hl => ?_)
        refine lv_iconst (v := 0) hx hb dX12_right_41 (by decide) ?_
        refine lv_istore (lv' := [(5, .int 0), (4, .int 0), (0, .ref (ad 0)), (1, .int x1), (2, .int x2), (3, .int x3)]) hx hb dX12_right_42 hl (by decide) rfl (fun ls hl => ?_)
        exact k_X12_right_44l hC fu_ _ _ _ _ _ _ _ _ _ hf hw (lv_sub hl [2, 3, 4, 5, 1, 0] rfl)
      · rw [if_neg c7] at hf
        refine lv_iconst (v := (-1)) hx hb dX12_right_31 (by decide) ?_
        have hz := Option.some.inj hf
        subst hz
        exact rtc_i hC hw dX12_right_32
set_option maxRecDepth 100000 in
theorem c_X12_right {l : Launch} {D : va_G} {cy : Nat → ClassId} {z0 : Nat} {ad : Nat → Nat} {u : Nat × Nat} {X : va_W} {z : (Int32 × mm_M)} {x1 : Int32} {x2 : Int32} {x3 : Int32} {M : mm_M} (hf : f_X12_right x1 x2 x3 M = some z) : ct_i rf_T l yX12_right (Cond.code yX12_right cX12_right 7 (some .int)) 8 194 D cy z0 ad u M X [.ref (ad 0), .int x1, .int x2, .int x3] z.1 z.2 := by
  refine bgc_i (by decide) (fun p e s m below meth c hC hw => ?_)
  refine en_t (Nat.le_of_ble_eq_true rfl) (fun ls hl => ?_)
  have hl : lv_has ls 7 [(0, .ref (ad 0)), (1, .int x1), (2, .int x2), (3, .int x3)] := hl
  exact k_X12_right hC hf hw hl
set_option maxRecDepth 100000 in
set_option maxHeartbeats 4000000 in
theorem k_X12_likely_63 {p : Program} {l : Launch} {e : Env} {s : State} {m : MethodId} {args : Array Value} {below : List Frame} {meth : Method} {c : Code} {D : va_G} {cy : Nat → ClassId} {z0 : Nat} {ad : Nat → Nat} {X : va_W} {u : Nat × Nat} (hC : cx_C p s m args meth c cX12_likely "RhymedThenModel" (Cond.code yX12_likely cX12_likely 6 (some .int)) 6 (some .int)) {z : (Int32 × mm_M)} {x1 : Int64} {x4 : Int32} {x5 : Int32} {t0 : Int32} {M : mm_M} {q33 : Int64 → Int32 → Int32 → Int32 → mm_M → Option (Int32 × mm_M)} (hq33 : ∀ (x1 : Int64) (x3 : Int32) (x4 : Int32) (x5 : Int32) (M : mm_M) (H : Heap) (locs : List Loc) (ls : Array Slot), q33 x1 x3 x4 x5 M = some z → wd_in rf_T D cy z0 ad u M X s H locs → lv_has ls 6 [(0, .ref (ad 0)), (1, .long x1), (3, .int x3), (4, .int x4), (5, .int x5)] → W p l e { frames := 8, cells := 0, slots := 0, locals := 194 } s m args below meth c H locs 0 0 (MQ below (cq_i rf_T D cy z0 ad u X z.1 z.2) args s 0 0 (fun q => z0 ≤ q)) (F0 m 33 ls [])) (hf : f_X12_likely_63 q33 x1 x4 x5 t0 M = some z) {H : Heap} {locs : List Loc} (hw : wd_in rf_T D cy z0 ad u M X s H locs) {ls : Array Slot} (hl : lv_has ls 6 [(0, .ref (ad 0)), (1, .long x1), (4, .int x4), (5, .int x5)]) : W p l e { frames := 8, cells := 0, slots := 0, locals := 194 } s m args below meth c H locs 0 0 (MQ below (cq_i rf_T D cy z0 ad u X z.1 z.2) args s 0 0 (fun q => z0 ≤ q)) (F0 m 63 ls [.int t0]) := by
  have hx := hC.1
  have hb := hC.2.1
  unfold f_X12_likely_63 at hf
  refine lv_istore_n (lv' := [(3, .int t0), (0, .ref (ad 0)), (1, .long x1), (4, .int x4), (5, .int x5)]) hx hb dX12_likely_63 rfl hl (by decide) rfl (fun ls hl => ?_)
  obtain ⟨y13, ey13, hf⟩ := sq_e hf
  refine lv_iinc (v := y13) (lv' := [(5, .int y13), (3, .int t0), (0, .ref (ad 0)), (1, .long x1), (4, .int x4)]) hx hb dX12_likely_64 hl (k := 4) rfl (by rw [ey13]; rfl) (by decide) rfl (fun ls hl => ?_)
  refine lv_goto (tgt := 33) hx hb dX12_likely_67 (by decide) ?_
  exact hq33 _ _ _ _ _ _ _ _ hf hw (lv_sub hl [2, 3, 1, 4, 0] rfl)
set_option maxRecDepth 100000 in
set_option maxHeartbeats 4000000 in
theorem k_X12_likely_70 {p : Program} {l : Launch} {e : Env} {s : State} {m : MethodId} {args : Array Value} {below : List Frame} {meth : Method} {c : Code} {D : va_G} {cy : Nat → ClassId} {z0 : Nat} {ad : Nat → Nat} {X : va_W} {u : Nat × Nat} (hC : cx_C p s m args meth c cX12_likely "RhymedThenModel" (Cond.code yX12_likely cX12_likely 6 (some .int)) 6 (some .int)) {z : (Int32 × mm_M)} {x1 : Int64} {x3 : Int32} {M : mm_M} (hf : f_X12_likely_70 x1 x3 M = some z) {H : Heap} {locs : List Loc} (hw : wd_in rf_T D cy z0 ad u M X s H locs) {ls : Array Slot} (hl : lv_has ls 6 [(0, .ref (ad 0)), (1, .long x1), (3, .int x3)]) : W p l e { frames := 8, cells := 0, slots := 0, locals := 194 } s m args below meth c H locs 0 0 (MQ below (cq_i rf_T D cy z0 ad u X z.1 z.2) args s 0 0 (fun q => z0 ≤ q)) (F0 m 70 ls []) := by
  have hx := hC.1
  have hb := hC.2.1
  unfold f_X12_likely_70 at hf
  refine lv_aload_n hx hb dX12_likely_70 rfl (lv_at hl 0 rfl) ?_
  refine lv_iconst (v := 0) hx hb dX12_likely_71 (by decide) ?_
  obtain ⟨M10, eM10, hf⟩ := sq_e hf
  refine rp_i hC hw 0 (Nat.le_of_ble_eq_true rfl) rfl fd_X12_1 wf_X12_11 fp_X12_1 rfl rfl dX12_likely_72 eM10 (fun H locs hw => ?_)
  refine lv_aload_n hx hb dX12_likely_75 rfl (lv_at hl 0 rfl) ?_
  refine lv_aload_n hx hb dX12_likely_76 rfl (lv_at hl 0 rfl) ?_
  refine rg_p hC hw 0 (Nat.le_of_ble_eq_true rfl) rfl fd_X12_43 wf_X12_317 (q := 30) rfl dX12_likely_77 ?_
  refine lv_iload_n hx hb dX12_likely_80 rfl (lv_at hl 2 rfl) ?_
  obtain ⟨h11, hf⟩ := ck_e hf
  refine ra_l hC hw 30 (Nat.le_of_ble_eq_true rfl) rfl h11 dX12_likely_81 ?_
  refine lv_lload_n hx hb dX12_likely_82 rfl (lv_at hl 1 rfl) ?_
  obtain ⟨z12, ez12, hf⟩ := bd_e hf
  refine clc_Vv hC hw (c_X12_entersFraction ez12) hd_X12_entersFraction cw_X12_213 (Nat.le_of_ble_eq_true rfl) rfl rfl (rest := []) hl.1 rfl (Nat.le_of_ble_eq_true rfl) ⟨Nat.le_of_ble_eq_true rfl, Nat.le_of_ble_eq_true rfl⟩ ⟨Nat.zero_le _, Nat.zero_le _⟩ rfl dX12_likely_83 (fun H locs hw => ?_)
  refine lv_iload_n hx hb dX12_likely_86 rfl (lv_at hl 2 rfl) ?_
  have hz := Option.some.inj hf
  subst hz
  exact rtc_i hC hw dX12_likely_87
set_option maxRecDepth 100000 in
set_option maxHeartbeats 4000000 in
theorem k_X12_likely_33 {p : Program} {l : Launch} {e : Env} {s : State} {m : MethodId} {args : Array Value} {below : List Frame} {meth : Method} {c : Code} {D : va_G} {cy : Nat → ClassId} {z0 : Nat} {ad : Nat → Nat} {X : va_W} {u : Nat × Nat} (hC : cx_C p s m args meth c cX12_likely "RhymedThenModel" (Cond.code yX12_likely cX12_likely 6 (some .int)) 6 (some .int)) {z : (Int32 × mm_M)} {x1 : Int64} {x3 : Int32} {x4 : Int32} {x5 : Int32} {M : mm_M} {q33 : Int64 → Int32 → Int32 → Int32 → mm_M → Option (Int32 × mm_M)} (hq33 : ∀ (x1 : Int64) (x3 : Int32) (x4 : Int32) (x5 : Int32) (M : mm_M) (H : Heap) (locs : List Loc) (ls : Array Slot), q33 x1 x3 x4 x5 M = some z → wd_in rf_T D cy z0 ad u M X s H locs → lv_has ls 6 [(0, .ref (ad 0)), (1, .long x1), (3, .int x3), (4, .int x4), (5, .int x5)] → W p l e { frames := 8, cells := 0, slots := 0, locals := 194 } s m args below meth c H locs 0 0 (MQ below (cq_i rf_T D cy z0 ad u X z.1 z.2) args s 0 0 (fun q => z0 ≤ q)) (F0 m 33 ls [])) (hf : f_X12_likely_33 q33 x1 x3 x4 x5 M = some z) {H : Heap} {locs : List Loc} (hw : wd_in rf_T D cy z0 ad u M X s H locs) {ls : Array Slot} (hl : lv_has ls 6 [(0, .ref (ad 0)), (1, .long x1), (3, .int x3), (4, .int x4), (5, .int x5)]) : W p l e { frames := 8, cells := 0, slots := 0, locals := 194 } s m args below meth c H locs 0 0 (MQ below (cq_i rf_T D cy z0 ad u X z.1 z.2) args s 0 0 (fun q => z0 ≤ q)) (F0 m 33 ls []) := by
  have hx := hC.1
  have hb := hC.2.1
  unfold f_X12_likely_33 at hf
  refine lv_iload hx hb dX12_likely_33 (lv_at hl 4 rfl) ?_
  refine lv_iload hx hb dX12_likely_35 (lv_at hl 3 rfl) ?_
  refine lv_icmp_ge (tgt := 70) hx hb dX12_likely_37 (by decide) (fun c6 => ?_) (fun c6 => ?_)
  · rw [if_pos c6] at hf
    exact k_X12_likely_70 hC hf hw (lv_sub hl [0, 1, 2] rfl)
  · rw [if_neg c6] at hf
    refine lv_aload_n hx hb dX12_likely_40 rfl (lv_at hl 0 rfl) ?_
    refine rg_p hC hw 0 (Nat.le_of_ble_eq_true rfl) rfl fd_X12_43 wf_X12_317 (q := 30) rfl dX12_likely_41 ?_
    refine lv_iload hx hb dX12_likely_44 (lv_at hl 4 rfl) ?_
    obtain ⟨h7, hf⟩ := ck_e hf
    refine ra_l hC hw 30 (Nat.le_of_ble_eq_true rfl) rfl h7 dX12_likely_46 ?_
    refine lv_aload_n hx hb dX12_likely_47 rfl (lv_at hl 0 rfl) ?_
    refine rg_p hC hw 0 (Nat.le_of_ble_eq_true rfl) rfl fd_X12_43 wf_X12_317 (q := 30) rfl dX12_likely_48 ?_
    refine lv_iload_n hx hb dX12_likely_51 rfl (lv_at hl 2 rfl) ?_
    obtain ⟨h8, hf⟩ := ck_e hf
    refine ra_l hC hw 30 (Nat.le_of_ble_eq_true rfl) rfl h8 dX12_likely_52 ?_
    refine lc_le (tgt := 62) hx hb dX12_likely_53 dX12_likely_54 (by decide) (fun c9 => ?_) (fun c9 => ?_)
    · rw [if_pos c9] at hf
      refine lv_iload_n hx hb dX12_likely_62 rfl (lv_at hl 2 rfl) ?_
      exact k_X12_likely_63 hC hq33 hf hw (lv_sub hl [0, 1, 3, 4] rfl)
    · rw [if_neg c9] at hf
      refine lv_iload hx hb dX12_likely_57 (lv_at hl 4 rfl) ?_
      refine lv_goto (tgt := 63) hx hb dX12_likely_59 (by decide) ?_
      exact k_X12_likely_63 hC hq33 hf hw (lv_sub hl [0, 1, 3, 4] rfl)
set_option maxRecDepth 100000 in
set_option maxHeartbeats 4000000 in
theorem k_X12_likely_33l {p : Program} {l : Launch} {e : Env} {s : State} {m : MethodId} {args : Array Value} {below : List Frame} {meth : Method} {c : Code} {D : va_G} {cy : Nat → ClassId} {z0 : Nat} {ad : Nat → Nat} {X : va_W} {u : Nat × Nat} (hC : cx_C p s m args meth c cX12_likely "RhymedThenModel" (Cond.code yX12_likely cX12_likely 6 (some .int)) 6 (some .int)) {z : (Int32 × mm_M)} : ∀ (n : Nat) (x1 : Int64) (x3 : Int32) (x4 : Int32) (x5 : Int32) (M : mm_M) (H : Heap) (locs : List Loc) (ls : Array Slot), f_X12_likely_33l n x1 x3 x4 x5 M = some z → wd_in rf_T D cy z0 ad u M X s H locs → lv_has ls 6 [(0, .ref (ad 0)), (1, .long x1), (3, .int x3), (4, .int x4), (5, .int x5)] → W p l e { frames := 8, cells := 0, slots := 0, locals := 194 } s m args below meth c H locs 0 0 (MQ below (cq_i rf_T D cy z0 ad u X z.1 z.2) args s 0 0 (fun q => z0 ≤ q)) (F0 m 33 ls []) := by
  intro n
  induction n with
  | zero => intro x1 x3 x4 x5 M H locs ls hf; exact absurd hf (by simp [f_X12_likely_33l])
  | succ n ih => intro x1 x3 x4 x5 M H locs ls hf hw hl; exact k_X12_likely_33 hC ih hf hw hl
set_option maxRecDepth 100000 in
set_option maxHeartbeats 4000000 in
theorem k_X12_likely {p : Program} {l : Launch} {e : Env} {s : State} {m : MethodId} {args : Array Value} {below : List Frame} {meth : Method} {c : Code} {D : va_G} {cy : Nat → ClassId} {z0 : Nat} {ad : Nat → Nat} {X : va_W} {u : Nat × Nat} (hC : cx_C p s m args meth c cX12_likely "RhymedThenModel" (Cond.code yX12_likely cX12_likely 6 (some .int)) 6 (some .int)) {z : (Int32 × mm_M)} {M : mm_M} (hf : f_X12_likely M = some z) {H : Heap} {locs : List Loc} (hw : wd_in rf_T D cy z0 ad u M X s H locs) {ls : Array Slot} (hl : lv_has ls 6 [(0, .ref (ad 0))]) : W p l e { frames := 8, cells := 0, slots := 0, locals := 194 } s m args below meth c H locs 0 0 (MQ below (cq_i rf_T D cy z0 ad u X z.1 z.2) args s 0 0 (fun q => z0 ≤ q)) (F0 m 0 ls []) := by
  have hx := hC.1
  have hb := hC.2.1
  unfold f_X12_likely at hf
  refine lv_aload_n hx hb dX12_likely_0 rfl (lv_at hl 0 rfl) ?_
  refine lv_iconst (v := 0) hx hb dX12_likely_1 (by decide) ?_
  obtain ⟨M1, eM1, hf⟩ := sq_e hf
  refine rp_i hC hw 0 (Nat.le_of_ble_eq_true rfl) rfl fd_X12_0 wf_X12_1 fp_X12_0 rfl rfl dX12_likely_2 eM1 (fun H locs hw => ?_)
  refine lv_aload_n hx hb dX12_likely_5 rfl (lv_at hl 0 rfl) ?_
  refine lv_iconst (v := (-1)) hx hb dX12_likely_6 (by decide) ?_
  obtain ⟨z2, ez2, hf⟩ := bd_e hf
  refine clc_Vi hC hw (c_X12_onMany ez2) hd_X12_onMany cw_X12_310 (Nat.le_of_ble_eq_true rfl) rfl rfl (rest := []) hl.1 rfl (Nat.le_of_ble_eq_true rfl) ⟨Nat.le_of_ble_eq_true rfl, Nat.le_of_ble_eq_true rfl⟩ ⟨Nat.zero_le _, Nat.zero_le _⟩ rfl dX12_likely_7 (fun H locs hw => ?_)
  refine lv_bipush (v := 12) hx hb dX12_likely_10 (by decide) ?_
  refine lv_icmp_le (tgt := 17) hx hb dX12_likely_12 (by decide) (fun c3 => ?_) (fun c3 => ?_)
  · rw [if_pos c3] at hf
    refine lv_aload_n hx hb dX12_likely_17 rfl (lv_at hl 0 rfl) ?_
    obtain ⟨z4, ez4, hf⟩ := bd_e hf
    refine clc_Vl hC hw (c_X12_weighsAll ez4) hd_X12_weighsAll cw_X12_320 (Nat.le_of_ble_eq_true rfl) rfl rfl (rest := []) hl.1 rfl (Nat.le_of_ble_eq_true rfl) ⟨Nat.le_of_ble_eq_true rfl, Nat.le_of_ble_eq_true rfl⟩ ⟨Nat.zero_le _, Nat.zero_le _⟩ rfl dX12_likely_18 (fun H locs hw => ?_)
    refine lv_lstore_n (lv' := [(1, .long z4.1), (0, .ref (ad 0))]) hx hb dX12_likely_21 rfl hl (by decide) rfl (fun ls hl => ?_)
    refine lv_iconst (v := 0) hx hb dX12_likely_22 (by decide) ?_
    refine lv_istore_n (lv' := [(3, .int 0), (1, .long z4.1), (0, .ref (ad 0))]) hx hb dX12_likely_23 rfl hl (by decide) rfl (fun ls hl => ?_)
    refine lv_aload_n hx hb dX12_likely_24 rfl (lv_at hl 2 rfl) ?_
    obtain ⟨z5, ez5, hf⟩ := bd_e hf
    refine clc_Vi hC hw (c_X12_histories ez5) hd_X12_histories cw_X12_107 (Nat.le_of_ble_eq_true rfl) rfl rfl (rest := []) hl.1 rfl (Nat.le_of_ble_eq_true rfl) ⟨Nat.le_of_ble_eq_true rfl, Nat.le_of_ble_eq_true rfl⟩ ⟨Nat.zero_le _, Nat.zero_le _⟩ rfl dX12_likely_25 (fun H locs hw => ?_)
    refine lv_istore (lv' := [(4, .int z5), (3, .int 0), (1, .long z4.1), (0, .ref (ad 0))]) hx hb dX12_likely_28 hl (by decide) rfl (fun ls hl => ?_)
    refine lv_iconst (v := 1) hx hb dX12_likely_30 (by decide) ?_
    refine lv_istore (lv' := [(5, .int 1), (4, .int z5), (3, .int 0), (1, .long z4.1), (0, .ref (ad 0))]) hx hb dX12_likely_31 hl (by decide) rfl (fun ls hl => ?_)
    exact k_X12_likely_33l hC fu_ _ _ _ _ _ _ _ _ hf hw (lv_sub hl [4, 3, 2, 1, 0] rfl)
  · rw [if_neg c3] at hf
    refine lv_iconst (v := (-1)) hx hb dX12_likely_15 (by decide) ?_
    have hz := Option.some.inj hf
    subst hz
    exact rtc_i hC hw dX12_likely_16
set_option maxRecDepth 100000 in
theorem c_X12_likely {l : Launch} {D : va_G} {cy : Nat → ClassId} {z0 : Nat} {ad : Nat → Nat} {u : Nat × Nat} {X : va_W} {z : (Int32 × mm_M)} {M : mm_M} (hf : f_X12_likely M = some z) : ct_i rf_T l yX12_likely (Cond.code yX12_likely cX12_likely 6 (some .int)) 8 194 D cy z0 ad u M X [.ref (ad 0)] z.1 z.2 := by
  refine bgc_i (by decide) (fun p e s m below meth c hC hw => ?_)
  refine en_t (Nat.le_of_ble_eq_true rfl) (fun ls hl => ?_)
  have hl : lv_has ls 6 [(0, .ref (ad 0))] := hl
  exact k_X12_likely hC hf hw hl
set_option maxRecDepth 100000 in
set_option maxHeartbeats 4000000 in
theorem k_X12_heldBy_4 {p : Program} {l : Launch} {e : Env} {s : State} {m : MethodId} {args : Array Value} {below : List Frame} {meth : Method} {c : Code} {D : va_G} {cy : Nat → ClassId} {z0 : Nat} {ad : Nat → Nat} {X : va_W} {u : Nat × Nat} (hC : cx_C p s m args meth c cX12_heldBy "RhymedThenModel" (Cond.code yX12_heldBy cX12_heldBy 4 (some .int)) 4 (some .int)) {z : (Int32 × mm_M)} {x1 : Int32} {x2 : Int32} {x3 : Int32} {M : mm_M} {q4 : Int32 → Int32 → Int32 → mm_M → Option (Int32 × mm_M)} (hq4 : ∀ (x1 : Int32) (x2 : Int32) (x3 : Int32) (M : mm_M) (H : Heap) (locs : List Loc) (ls : Array Slot), q4 x1 x2 x3 M = some z → wd_in rf_T D cy z0 ad u M X s H locs → lv_has ls 4 [(0, .ref (ad 0)), (1, .int x1), (2, .int x2), (3, .int x3)] → W p l e { frames := 6, cells := 0, slots := 0, locals := 145 } s m args below meth c H locs 0 0 (MQ below (cq_i rf_T D cy z0 ad u X z.1 z.2) args s 0 0 (fun q => z0 ≤ q)) (F0 m 4 ls [])) (hf : f_X12_heldBy_4 q4 x1 x2 x3 M = some z) {H : Heap} {locs : List Loc} (hw : wd_in rf_T D cy z0 ad u M X s H locs) {ls : Array Slot} (hl : lv_has ls 4 [(0, .ref (ad 0)), (1, .int x1), (2, .int x2), (3, .int x3)]) : W p l e { frames := 6, cells := 0, slots := 0, locals := 145 } s m args below meth c H locs 0 0 (MQ below (cq_i rf_T D cy z0 ad u X z.1 z.2) args s 0 0 (fun q => z0 ≤ q)) (F0 m 4 ls []) := by
  have hx := hC.1
  have hb := hC.2.1
  unfold f_X12_heldBy_4 at hf
  refine lv_iload_n hx hb dX12_heldBy_4 rfl (lv_at hl 3 rfl) ?_
  refine lv_aload_n hx hb dX12_heldBy_5 rfl (lv_at hl 0 rfl) ?_
  refine rg_i hC hw 0 (Nat.le_of_ble_eq_true rfl) rfl fd_X12_39 wf_X12_273 dX12_heldBy_6 ?_
  refine lv_icmp_ge (tgt := 35) hx hb dX12_heldBy_9 (by decide) (fun c1 => ?_) (fun c1 => ?_)
  · rw [if_pos c1] at hf
    refine lv_iload_n hx hb dX12_heldBy_35 rfl (lv_at hl 2 rfl) ?_
    have hz := Option.some.inj hf
    subst hz
    exact rtc_i hC hw dX12_heldBy_36
  · rw [if_neg c1] at hf
    refine lv_iload_n hx hb dX12_heldBy_12 rfl (lv_at hl 2 rfl) ?_
    refine lv_aload_n hx hb dX12_heldBy_13 rfl (lv_at hl 0 rfl) ?_
    refine lv_iload_n hx hb dX12_heldBy_14 rfl (lv_at hl 1 rfl) ?_
    refine lv_aload_n hx hb dX12_heldBy_15 rfl (lv_at hl 0 rfl) ?_
    refine rg_p hC hw 0 (Nat.le_of_ble_eq_true rfl) rfl fd_X12_38 wf_X12_279 (q := 27) rfl dX12_heldBy_16 ?_
    refine lv_iload_n hx hb dX12_heldBy_19 rfl (lv_at hl 3 rfl) ?_
    obtain ⟨h2, hf⟩ := ck_e hf
    refine ra_i hC hw 27 (Nat.le_of_ble_eq_true rfl) rfl h2 dX12_heldBy_20 ?_
    obtain ⟨z3, ez3, hf⟩ := bd_e hf
    refine clc_Vi hC hw (c_X12_isHeld ez3) hd_X12_isHeld cw_X12_270 (Nat.le_of_ble_eq_true rfl) rfl rfl (rest := [.int x2]) hl.1 rfl (Nat.le_of_ble_eq_true rfl) ⟨Nat.le_of_ble_eq_true rfl, Nat.le_of_ble_eq_true rfl⟩ ⟨Nat.zero_le _, Nat.zero_le _⟩ rfl dX12_heldBy_21 (fun H locs hw => ?_)
    obtain ⟨z4, ez4, hf⟩ := sq_e hf
    refine clc_Si hC hw (c_X12_truth ez4.symm) hd_X12_truth cw_X12_39 (rest := [.int x2]) hl.1 rfl (Nat.le_of_ble_eq_true rfl) ⟨Nat.le_of_ble_eq_true rfl, Nat.le_of_ble_eq_true rfl⟩ ⟨Nat.zero_le _, Nat.zero_le _⟩ rfl dX12_heldBy_24 (fun H locs hw => ?_)
    refine lv_iadd hx hb dX12_heldBy_27 ?_
    obtain ⟨y5, ey5, hf⟩ := sq_e hf
    refine lt_i ey5 ?_
    refine lv_istore_n (lv' := [(2, .int y5), (0, .ref (ad 0)), (1, .int x1), (3, .int x3)]) hx hb dX12_heldBy_28 rfl hl (by decide) rfl (fun ls hl => ?_)
    obtain ⟨y6, ey6, hf⟩ := sq_e hf
    refine lv_iinc (v := y6) (lv' := [(3, .int y6), (2, .int y5), (0, .ref (ad 0)), (1, .int x1)]) hx hb dX12_heldBy_29 hl (k := 3) rfl (by rw [ey6]; rfl) (by decide) rfl (fun ls hl => ?_)
    refine lv_goto (tgt := 4) hx hb dX12_heldBy_32 (by decide) ?_
    exact hq4 _ _ _ _ _ _ _ hf hw (lv_sub hl [2, 3, 1, 0] rfl)
set_option maxRecDepth 100000 in
set_option maxHeartbeats 4000000 in
theorem k_X12_heldBy_4l {p : Program} {l : Launch} {e : Env} {s : State} {m : MethodId} {args : Array Value} {below : List Frame} {meth : Method} {c : Code} {D : va_G} {cy : Nat → ClassId} {z0 : Nat} {ad : Nat → Nat} {X : va_W} {u : Nat × Nat} (hC : cx_C p s m args meth c cX12_heldBy "RhymedThenModel" (Cond.code yX12_heldBy cX12_heldBy 4 (some .int)) 4 (some .int)) {z : (Int32 × mm_M)} : ∀ (n : Nat) (x1 : Int32) (x2 : Int32) (x3 : Int32) (M : mm_M) (H : Heap) (locs : List Loc) (ls : Array Slot), f_X12_heldBy_4l n x1 x2 x3 M = some z → wd_in rf_T D cy z0 ad u M X s H locs → lv_has ls 4 [(0, .ref (ad 0)), (1, .int x1), (2, .int x2), (3, .int x3)] → W p l e { frames := 6, cells := 0, slots := 0, locals := 145 } s m args below meth c H locs 0 0 (MQ below (cq_i rf_T D cy z0 ad u X z.1 z.2) args s 0 0 (fun q => z0 ≤ q)) (F0 m 4 ls []) := by
  intro n
  induction n with
  | zero => intro x1 x2 x3 M H locs ls hf; exact absurd hf (by simp [f_X12_heldBy_4l])
  | succ n ih => intro x1 x2 x3 M H locs ls hf hw hl; exact k_X12_heldBy_4 hC ih hf hw hl
set_option maxRecDepth 100000 in
set_option maxHeartbeats 4000000 in
theorem k_X12_heldBy {p : Program} {l : Launch} {e : Env} {s : State} {m : MethodId} {args : Array Value} {below : List Frame} {meth : Method} {c : Code} {D : va_G} {cy : Nat → ClassId} {z0 : Nat} {ad : Nat → Nat} {X : va_W} {u : Nat × Nat} (hC : cx_C p s m args meth c cX12_heldBy "RhymedThenModel" (Cond.code yX12_heldBy cX12_heldBy 4 (some .int)) 4 (some .int)) {z : (Int32 × mm_M)} {x1 : Int32} {M : mm_M} (hf : f_X12_heldBy x1 M = some z) {H : Heap} {locs : List Loc} (hw : wd_in rf_T D cy z0 ad u M X s H locs) {ls : Array Slot} (hl : lv_has ls 4 [(0, .ref (ad 0)), (1, .int x1)]) : W p l e { frames := 6, cells := 0, slots := 0, locals := 145 } s m args below meth c H locs 0 0 (MQ below (cq_i rf_T D cy z0 ad u X z.1 z.2) args s 0 0 (fun q => z0 ≤ q)) (F0 m 0 ls []) := by
  have hx := hC.1
  have hb := hC.2.1
  unfold f_X12_heldBy at hf
  refine lv_iconst (v := 0) hx hb dX12_heldBy_0 (by decide) ?_
  refine lv_istore_n (lv' := [(2, .int 0), (0, .ref (ad 0)), (1, .int x1)]) hx hb dX12_heldBy_1 rfl hl (by decide) rfl (fun ls hl => ?_)
  refine lv_iconst (v := 0) hx hb dX12_heldBy_2 (by decide) ?_
  refine lv_istore_n (lv' := [(3, .int 0), (2, .int 0), (0, .ref (ad 0)), (1, .int x1)]) hx hb dX12_heldBy_3 rfl hl (by decide) rfl (fun ls hl => ?_)
  exact k_X12_heldBy_4l hC fu_ _ _ _ _ _ _ _ hf hw (lv_sub hl [2, 3, 1, 0] rfl)
set_option maxRecDepth 100000 in
theorem c_X12_heldBy {l : Launch} {D : va_G} {cy : Nat → ClassId} {z0 : Nat} {ad : Nat → Nat} {u : Nat × Nat} {X : va_W} {z : (Int32 × mm_M)} {x1 : Int32} {M : mm_M} (hf : f_X12_heldBy x1 M = some z) : ct_i rf_T l yX12_heldBy (Cond.code yX12_heldBy cX12_heldBy 4 (some .int)) 6 145 D cy z0 ad u M X [.ref (ad 0), .int x1] z.1 z.2 := by
  refine bgc_i (by decide) (fun p e s m below meth c hC hw => ?_)
  refine en_t (Nat.le_of_ble_eq_true rfl) (fun ls hl => ?_)
  have hl : lv_has ls 4 [(0, .ref (ad 0)), (1, .int x1)] := hl
  exact k_X12_heldBy hC hf hw hl
set_option maxRecDepth 100000 in
set_option maxHeartbeats 4000000 in
theorem k_X12_next_101 {p : Program} {l : Launch} {e : Env} {s : State} {m : MethodId} {args : Array Value} {below : List Frame} {meth : Method} {c : Code} {D : va_G} {cy : Nat → ClassId} {z0 : Nat} {ad : Nat → Nat} {X : va_W} {u : Nat × Nat} (hC : cx_C p s m args meth c cX12_next "RhymedThenModel" (Cond.code yX12_next cX12_next 5 (some .int)) 5 (some .int)) {z : (Int32 × mm_M)} {x1 : Int32} {x2 : Int32} {x3 : Int32} {M : mm_M} {q39 : Int32 → Int32 → Int32 → mm_M → Option (Int32 × mm_M)} (hq39 : ∀ (x1 : Int32) (x2 : Int32) (x3 : Int32) (M : mm_M) (H : Heap) (locs : List Loc) (ls : Array Slot), q39 x1 x2 x3 M = some z → wd_in rf_T D cy z0 ad u M X s H locs → lv_has ls 5 [(0, .ref (ad 0)), (1, .int x1), (2, .int x2), (3, .int x3)] → W p l e { frames := 8, cells := 0, slots := 0, locals := 189 } s m args below meth c H locs 0 0 (MQ below (cq_i rf_T D cy z0 ad u X z.1 z.2) args s 0 0 (fun q => z0 ≤ q)) (F0 m 39 ls [])) (hf : f_X12_next_101 q39 x1 x2 x3 M = some z) {H : Heap} {locs : List Loc} (hw : wd_in rf_T D cy z0 ad u M X s H locs) {ls : Array Slot} (hl : lv_has ls 5 [(0, .ref (ad 0)), (1, .int x1), (2, .int x2), (3, .int x3)]) : W p l e { frames := 8, cells := 0, slots := 0, locals := 189 } s m args below meth c H locs 0 0 (MQ below (cq_i rf_T D cy z0 ad u X z.1 z.2) args s 0 0 (fun q => z0 ≤ q)) (F0 m 101 ls []) := by
  have hx := hC.1
  have hb := hC.2.1
  unfold f_X12_next_101 at hf
  obtain ⟨y14, ey14, hf⟩ := sq_e hf
  refine lv_iinc (v := y14) (lv' := [(3, .int y14), (0, .ref (ad 0)), (1, .int x1), (2, .int x2)]) hx hb dX12_next_101 hl (k := 3) rfl (by rw [ey14]; rfl) (by decide) rfl (fun ls hl => ?_)
  refine lv_goto (tgt := 39) hx hb dX12_next_104 (by decide) ?_
  exact hq39 _ _ _ _ _ _ _ hf hw (lv_sub hl [1, 2, 3, 0] rfl)
set_option maxRecDepth 100000 in
set_option maxHeartbeats 4000000 in
theorem k_X12_next_96 {p : Program} {l : Launch} {e : Env} {s : State} {m : MethodId} {args : Array Value} {below : List Frame} {meth : Method} {c : Code} {D : va_G} {cy : Nat → ClassId} {z0 : Nat} {ad : Nat → Nat} {X : va_W} {u : Nat × Nat} (hC : cx_C p s m args meth c cX12_next "RhymedThenModel" (Cond.code yX12_next cX12_next 5 (some .int)) 5 (some .int)) {z : (Int32 × mm_M)} {x3 : Int32} {x4 : Int32} {M : mm_M} {q39 : Int32 → Int32 → Int32 → mm_M → Option (Int32 × mm_M)} (hq39 : ∀ (x1 : Int32) (x2 : Int32) (x3 : Int32) (M : mm_M) (H : Heap) (locs : List Loc) (ls : Array Slot), q39 x1 x2 x3 M = some z → wd_in rf_T D cy z0 ad u M X s H locs → lv_has ls 5 [(0, .ref (ad 0)), (1, .int x1), (2, .int x2), (3, .int x3)] → W p l e { frames := 8, cells := 0, slots := 0, locals := 189 } s m args below meth c H locs 0 0 (MQ below (cq_i rf_T D cy z0 ad u X z.1 z.2) args s 0 0 (fun q => z0 ≤ q)) (F0 m 39 ls [])) (hf : f_X12_next_96 q39 x3 x4 M = some z) {H : Heap} {locs : List Loc} (hw : wd_in rf_T D cy z0 ad u M X s H locs) {ls : Array Slot} (hl : lv_has ls 5 [(0, .ref (ad 0)), (3, .int x3), (4, .int x4)]) : W p l e { frames := 8, cells := 0, slots := 0, locals := 189 } s m args below meth c H locs 0 0 (MQ below (cq_i rf_T D cy z0 ad u X z.1 z.2) args s 0 0 (fun q => z0 ≤ q)) (F0 m 96 ls []) := by
  have hx := hC.1
  have hb := hC.2.1
  unfold f_X12_next_96 at hf
  refine lv_iload_n hx hb dX12_next_96 rfl (lv_at hl 1 rfl) ?_
  refine lv_istore_n (lv' := [(1, .int x3), (0, .ref (ad 0)), (3, .int x3), (4, .int x4)]) hx hb dX12_next_97 rfl hl (by decide) rfl (fun ls hl => ?_)
  refine lv_iload hx hb dX12_next_98 (lv_at hl 3 rfl) ?_
  refine lv_istore_n (lv' := [(2, .int x4), (1, .int x3), (0, .ref (ad 0)), (3, .int x3), (4, .int x4)]) hx hb dX12_next_100 rfl hl (by decide) rfl (fun ls hl => ?_)
  exact k_X12_next_101 hC hq39 hf hw (lv_sub hl [2, 1, 0, 3] rfl)
set_option maxRecDepth 100000 in
set_option maxHeartbeats 4000000 in
theorem k_X12_next_107 {p : Program} {l : Launch} {e : Env} {s : State} {m : MethodId} {args : Array Value} {below : List Frame} {meth : Method} {c : Code} {D : va_G} {cy : Nat → ClassId} {z0 : Nat} {ad : Nat → Nat} {X : va_W} {u : Nat × Nat} (hC : cx_C p s m args meth c cX12_next "RhymedThenModel" (Cond.code yX12_next cX12_next 5 (some .int)) 5 (some .int)) {z : (Int32 × mm_M)} {x1 : Int32} {x2 : Int32} {M : mm_M} (hf : f_X12_next_107 x1 x2 M = some z) {H : Heap} {locs : List Loc} (hw : wd_in rf_T D cy z0 ad u M X s H locs) {ls : Array Slot} (hl : lv_has ls 5 [(0, .ref (ad 0)), (1, .int x1), (2, .int x2)]) : W p l e { frames := 8, cells := 0, slots := 0, locals := 189 } s m args below meth c H locs 0 0 (MQ below (cq_i rf_T D cy z0 ad u X z.1 z.2) args s 0 0 (fun q => z0 ≤ q)) (F0 m 107 ls []) := by
  have hx := hC.1
  have hb := hC.2.1
  unfold f_X12_next_107 at hf
  refine lv_aload_n hx hb dX12_next_107 rfl (lv_at hl 0 rfl) ?_
  refine lv_iconst (v := 0) hx hb dX12_next_108 (by decide) ?_
  obtain ⟨M12, eM12, hf⟩ := sq_e hf
  refine rp_i hC hw 0 (Nat.le_of_ble_eq_true rfl) rfl fd_X12_1 wf_X12_11 fp_X12_1 rfl rfl dX12_next_109 eM12 (fun H locs hw => ?_)
  refine lv_aload_n hx hb dX12_next_112 rfl (lv_at hl 0 rfl) ?_
  refine lv_iload_n hx hb dX12_next_113 rfl (lv_at hl 2 rfl) ?_
  refine lv_i2l hx hb dX12_next_114 rfl ?_
  obtain ⟨z13, ez13, hf⟩ := bd_e hf
  refine clc_Vv hC hw (c_X12_enters ez13) hd_X12_enters cw_X12_18 (Nat.le_of_ble_eq_true rfl) rfl rfl (rest := []) hl.1 rfl (Nat.le_of_ble_eq_true rfl) ⟨Nat.le_of_ble_eq_true rfl, Nat.le_of_ble_eq_true rfl⟩ ⟨Nat.zero_le _, Nat.zero_le _⟩ rfl dX12_next_115 (fun H locs hw => ?_)
  refine lv_iload_n hx hb dX12_next_118 rfl (lv_at hl 1 rfl) ?_
  have hz := Option.some.inj hf
  subst hz
  exact rtc_i hC hw dX12_next_119
set_option maxRecDepth 100000 in
set_option maxHeartbeats 4000000 in
theorem k_X12_next_39 {p : Program} {l : Launch} {e : Env} {s : State} {m : MethodId} {args : Array Value} {below : List Frame} {meth : Method} {c : Code} {D : va_G} {cy : Nat → ClassId} {z0 : Nat} {ad : Nat → Nat} {X : va_W} {u : Nat × Nat} (hC : cx_C p s m args meth c cX12_next "RhymedThenModel" (Cond.code yX12_next cX12_next 5 (some .int)) 5 (some .int)) {z : (Int32 × mm_M)} {x1 : Int32} {x2 : Int32} {x3 : Int32} {M : mm_M} {q39 : Int32 → Int32 → Int32 → mm_M → Option (Int32 × mm_M)} (hq39 : ∀ (x1 : Int32) (x2 : Int32) (x3 : Int32) (M : mm_M) (H : Heap) (locs : List Loc) (ls : Array Slot), q39 x1 x2 x3 M = some z → wd_in rf_T D cy z0 ad u M X s H locs → lv_has ls 5 [(0, .ref (ad 0)), (1, .int x1), (2, .int x2), (3, .int x3)] → W p l e { frames := 8, cells := 0, slots := 0, locals := 189 } s m args below meth c H locs 0 0 (MQ below (cq_i rf_T D cy z0 ad u X z.1 z.2) args s 0 0 (fun q => z0 ≤ q)) (F0 m 39 ls [])) (hf : f_X12_next_39 q39 x1 x2 x3 M = some z) {H : Heap} {locs : List Loc} (hw : wd_in rf_T D cy z0 ad u M X s H locs) {ls : Array Slot} (hl : lv_has ls 5 [(0, .ref (ad 0)), (1, .int x1), (2, .int x2), (3, .int x3)]) : W p l e { frames := 8, cells := 0, slots := 0, locals := 189 } s m args below meth c H locs 0 0 (MQ below (cq_i rf_T D cy z0 ad u X z.1 z.2) args s 0 0 (fun q => z0 ≤ q)) (F0 m 39 ls []) := by
  have hx := hC.1
  have hb := hC.2.1
  unfold f_X12_next_39 at hf
  refine lv_iload_n hx hb dX12_next_39 rfl (lv_at hl 3 rfl) ?_
  refine lv_aload_n hx hb dX12_next_40 rfl (lv_at hl 0 rfl) ?_
  refine rg_i hC hw 0 (Nat.le_of_ble_eq_true rfl) rfl fd_X12_28 wf_X12_258 dX12_next_41 ?_
  refine lv_icmp_ge (tgt := 107) hx hb dX12_next_44 (by decide) (fun c6 => ?_) (fun c6 => ?_)
  · rw [if_pos c6] at hf
    exact k_X12_next_107 hC hf hw (lv_sub hl [0, 1, 2] rfl)
  · rw [if_neg c6] at hf
    refine lv_aload_n hx hb dX12_next_47 rfl (lv_at hl 0 rfl) ?_
    refine rg_p hC hw 0 (Nat.le_of_ble_eq_true rfl) rfl fd_X12_37 wf_X12_250 (q := 26) rfl dX12_next_48 ?_
    refine lv_iload_n hx hb dX12_next_51 rfl (lv_at hl 3 rfl) ?_
    obtain ⟨h7, hf⟩ := ck_e hf
    refine ra_z hC hw 26 (Nat.le_of_ble_eq_true rfl) rfl h7 dX12_next_52 ?_
    refine lv_if_eq (tgt := 59) hx hb dX12_next_53 (by decide) (fun c8 => ?_) (fun c8 => ?_)
    · rw [if_pos c8] at hf
      refine lv_aload_n hx hb dX12_next_59 rfl (lv_at hl 0 rfl) ?_
      refine lv_iload_n hx hb dX12_next_60 rfl (lv_at hl 3 rfl) ?_
      obtain ⟨z9, ez9, hf⟩ := bd_e hf
      refine clc_Vi hC hw (c_X12_heldBy ez9) hd_X12_heldBy cw_X12_334 (Nat.le_of_ble_eq_true rfl) rfl rfl (rest := []) hl.1 rfl (Nat.le_of_ble_eq_true rfl) ⟨Nat.le_of_ble_eq_true rfl, Nat.le_of_ble_eq_true rfl⟩ ⟨Nat.zero_le _, Nat.zero_le _⟩ rfl dX12_next_61 (fun H locs hw => ?_)
      refine lv_istore (lv' := [(4, .int z9.1), (0, .ref (ad 0)), (1, .int x1), (2, .int x2), (3, .int x3)]) hx hb dX12_next_64 hl (by decide) rfl (fun ls hl => ?_)
      refine lv_iload_n hx hb dX12_next_66 rfl (lv_at hl 2 rfl) ?_
      refine lv_if_lt (tgt := 96) hx hb dX12_next_67 (by decide) (fun c10 => ?_) (fun c10 => ?_)
      · rw [if_pos c10] at hf
        exact k_X12_next_96 hC hq39 hf hw (lv_sub hl [1, 4, 0] rfl)
      · rw [if_neg c10] at hf
        refine lv_iconst (v := 2) hx hb dX12_next_70 (by decide) ?_
        refine lv_iload hx hb dX12_next_71 (lv_at hl 0 rfl) ?_
        refine lv_imul hx hb dX12_next_73 ?_
        refine lv_aload_n hx hb dX12_next_74 rfl (lv_at hl 1 rfl) ?_
        refine rg_i hC hw 0 (Nat.le_of_ble_eq_true rfl) rfl fd_X12_39 wf_X12_273 dX12_next_75 ?_
        refine lv_isub hx hb dX12_next_78 ?_
        refine mx_abs hC (rest := []) wm_X12_337 hl.1 ⟨Nat.le_of_ble_eq_true rfl, Nat.le_of_ble_eq_true rfl⟩ ⟨Nat.zero_le _, Nat.zero_le _⟩ dX12_next_79 ?_
        refine lv_iconst (v := 2) hx hb dX12_next_82 (by decide) ?_
        refine lv_iload_n hx hb dX12_next_83 rfl (lv_at hl 3 rfl) ?_
        refine lv_imul hx hb dX12_next_84 ?_
        refine lv_aload_n hx hb dX12_next_85 rfl (lv_at hl 1 rfl) ?_
        refine rg_i hC hw 0 (Nat.le_of_ble_eq_true rfl) rfl fd_X12_39 wf_X12_273 dX12_next_86 ?_
        refine lv_isub hx hb dX12_next_89 ?_
        refine mx_abs hC (rest := [.int (if 0 ≤ ((2 * z9.1) - (z9.2.1 0 39)) then ((2 * z9.1) - (z9.2.1 0 39)) else 0 - ((2 * z9.1) - (z9.2.1 0 39)))]) wm_X12_337 hl.1 ⟨Nat.le_of_ble_eq_true rfl, Nat.le_of_ble_eq_true rfl⟩ ⟨Nat.zero_le _, Nat.zero_le _⟩ dX12_next_90 ?_
        refine lv_icmp_ge (tgt := 101) hx hb dX12_next_93 (by decide) (fun c11 => ?_) (fun c11 => ?_)
        · rw [if_pos c11] at hf
          exact k_X12_next_101 hC hq39 hf hw (lv_sub hl [1, 2, 3, 4] rfl)
        · rw [if_neg c11] at hf
          exact k_X12_next_96 hC hq39 hf hw (lv_sub hl [1, 4, 0] rfl)
    · rw [if_neg c8] at hf
      refine lv_goto (tgt := 101) hx hb dX12_next_56 (by decide) ?_
      exact k_X12_next_101 hC hq39 hf hw (lv_sub hl [0, 1, 2, 3] rfl)
set_option maxRecDepth 100000 in
set_option maxHeartbeats 4000000 in
theorem k_X12_next_39l {p : Program} {l : Launch} {e : Env} {s : State} {m : MethodId} {args : Array Value} {below : List Frame} {meth : Method} {c : Code} {D : va_G} {cy : Nat → ClassId} {z0 : Nat} {ad : Nat → Nat} {X : va_W} {u : Nat × Nat} (hC : cx_C p s m args meth c cX12_next "RhymedThenModel" (Cond.code yX12_next cX12_next 5 (some .int)) 5 (some .int)) {z : (Int32 × mm_M)} : ∀ (n : Nat) (x1 : Int32) (x2 : Int32) (x3 : Int32) (M : mm_M) (H : Heap) (locs : List Loc) (ls : Array Slot), f_X12_next_39l n x1 x2 x3 M = some z → wd_in rf_T D cy z0 ad u M X s H locs → lv_has ls 5 [(0, .ref (ad 0)), (1, .int x1), (2, .int x2), (3, .int x3)] → W p l e { frames := 8, cells := 0, slots := 0, locals := 189 } s m args below meth c H locs 0 0 (MQ below (cq_i rf_T D cy z0 ad u X z.1 z.2) args s 0 0 (fun q => z0 ≤ q)) (F0 m 39 ls []) := by
  intro n
  induction n with
  | zero => intro x1 x2 x3 M H locs ls hf; exact absurd hf (by simp [f_X12_next_39l])
  | succ n ih => intro x1 x2 x3 M H locs ls hf hw hl; exact k_X12_next_39 hC ih hf hw hl
set_option maxRecDepth 100000 in
set_option maxHeartbeats 4000000 in
theorem k_X12_next {p : Program} {l : Launch} {e : Env} {s : State} {m : MethodId} {args : Array Value} {below : List Frame} {meth : Method} {c : Code} {D : va_G} {cy : Nat → ClassId} {z0 : Nat} {ad : Nat → Nat} {X : va_W} {u : Nat × Nat} (hC : cx_C p s m args meth c cX12_next "RhymedThenModel" (Cond.code yX12_next cX12_next 5 (some .int)) 5 (some .int)) {z : (Int32 × mm_M)} {M : mm_M} (hf : f_X12_next M = some z) {H : Heap} {locs : List Loc} (hw : wd_in rf_T D cy z0 ad u M X s H locs) {ls : Array Slot} (hl : lv_has ls 5 [(0, .ref (ad 0))]) : W p l e { frames := 8, cells := 0, slots := 0, locals := 189 } s m args below meth c H locs 0 0 (MQ below (cq_i rf_T D cy z0 ad u X z.1 z.2) args s 0 0 (fun q => z0 ≤ q)) (F0 m 0 ls []) := by
  have hx := hC.1
  have hb := hC.2.1
  unfold f_X12_next at hf
  refine lv_aload_n hx hb dX12_next_0 rfl (lv_at hl 0 rfl) ?_
  refine lv_iconst (v := 0) hx hb dX12_next_1 (by decide) ?_
  obtain ⟨M1, eM1, hf⟩ := sq_e hf
  refine rp_i hC hw 0 (Nat.le_of_ble_eq_true rfl) rfl fd_X12_0 wf_X12_1 fp_X12_0 rfl rfl dX12_next_2 eM1 (fun H locs hw => ?_)
  refine lv_aload_n hx hb dX12_next_5 rfl (lv_at hl 0 rfl) ?_
  refine lv_iconst (v := (-1)) hx hb dX12_next_6 (by decide) ?_
  obtain ⟨z2, ez2, hf⟩ := bd_e hf
  refine clc_Vi hC hw (c_X12_onMany ez2) hd_X12_onMany cw_X12_310 (Nat.le_of_ble_eq_true rfl) rfl rfl (rest := []) hl.1 rfl (Nat.le_of_ble_eq_true rfl) ⟨Nat.le_of_ble_eq_true rfl, Nat.le_of_ble_eq_true rfl⟩ ⟨Nat.zero_le _, Nat.zero_le _⟩ rfl dX12_next_7 (fun H locs hw => ?_)
  refine lv_aload_n hx hb dX12_next_10 rfl (lv_at hl 0 rfl) ?_
  refine rg_i hC hw 0 (Nat.le_of_ble_eq_true rfl) rfl fd_X12_28 wf_X12_258 dX12_next_11 ?_
  refine lv_icmp_ne (tgt := 19) hx hb dX12_next_14 (by decide) (fun c3 => ?_) (fun c3 => ?_)
  · rw [if_neg c3] at hf
    refine lv_aload_n hx hb dX12_next_19 rfl (lv_at hl 0 rfl) ?_
    obtain ⟨z4, ez4, hf⟩ := bd_e hf
    refine clc_Vv hC hw (c_X12_gathers ez4) hd_X12_gathers cw_X12_282 (Nat.le_of_ble_eq_true rfl) rfl rfl (rest := []) hl.1 rfl (Nat.le_of_ble_eq_true rfl) ⟨Nat.le_of_ble_eq_true rfl, Nat.le_of_ble_eq_true rfl⟩ ⟨Nat.zero_le _, Nat.zero_le _⟩ rfl dX12_next_20 (fun H locs hw => ?_)
    refine lv_aload_n hx hb dX12_next_23 rfl (lv_at hl 0 rfl) ?_
    refine rg_i hC hw 0 (Nat.le_of_ble_eq_true rfl) rfl fd_X12_39 wf_X12_273 dX12_next_24 ?_
    refine lv_if_ne (tgt := 33) hx hb dX12_next_27 (by decide) (fun c5 => ?_) (fun c5 => ?_)
    · rw [if_neg c5] at hf
      refine lv_iconst (v := (-1)) hx hb dX12_next_33 (by decide) ?_
      refine lv_istore_n (lv' := [(1, .int (-1)), (0, .ref (ad 0))]) hx hb dX12_next_34 rfl hl (by decide) rfl (fun ls hl => ?_)
      refine lv_iconst (v := 0) hx hb dX12_next_35 (by decide) ?_
      refine lv_istore_n (lv' := [(2, .int 0), (1, .int (-1)), (0, .ref (ad 0))]) hx hb dX12_next_36 rfl hl (by decide) rfl (fun ls hl => ?_)
      refine lv_iconst (v := 0) hx hb dX12_next_37 (by decide) ?_
      refine lv_istore_n (lv' := [(3, .int 0), (2, .int 0), (1, .int (-1)), (0, .ref (ad 0))]) hx hb dX12_next_38 rfl hl (by decide) rfl (fun ls hl => ?_)
      exact k_X12_next_39l hC fu_ _ _ _ _ _ _ _ hf hw (lv_sub hl [3, 2, 1, 0] rfl)
    · rw [if_pos c5] at hf
      refine lv_bipush (v := (-2)) hx hb dX12_next_30 (by decide) ?_
      have hz := Option.some.inj hf
      subst hz
      exact rtc_i hC hw dX12_next_32
  · rw [if_pos c3] at hf
    refine lv_iconst (v := (-1)) hx hb dX12_next_17 (by decide) ?_
    have hz := Option.some.inj hf
    subst hz
    exact rtc_i hC hw dX12_next_18
set_option maxRecDepth 100000 in
theorem c_X12_next {l : Launch} {D : va_G} {cy : Nat → ClassId} {z0 : Nat} {ad : Nat → Nat} {u : Nat × Nat} {X : va_W} {z : (Int32 × mm_M)} {M : mm_M} (hf : f_X12_next M = some z) : ct_i rf_T l yX12_next (Cond.code yX12_next cX12_next 5 (some .int)) 8 189 D cy z0 ad u M X [.ref (ad 0)] z.1 z.2 := by
  refine bgc_i (by decide) (fun p e s m below meth c hC hw => ?_)
  refine en_t (Nat.le_of_ble_eq_true rfl) (fun ls hl => ?_)
  have hl : lv_has ls 5 [(0, .ref (ad 0))] := hl
  exact k_X12_next hC hf hw hl
set_option maxRecDepth 100000 in
set_option maxHeartbeats 4000000 in
theorem k_X12_eye_167 {p : Program} {l : Launch} {e : Env} {s : State} {m : MethodId} {args : Array Value} {below : List Frame} {meth : Method} {c : Code} {D : va_G} {cy : Nat → ClassId} {z0 : Nat} {ad : Nat → Nat} {X : va_W} {u : Nat × Nat} (hC : cx_C p s m args meth c cX12_eye "RhymedThenModel" (Cond.code yX12_eye cX12_eye 8 (some .int)) 8 (some .int)) {z : (Int32 × mm_M)} {x1 : Int32} {x2 : Int32} {x4 : Int32} {x5 : Int32} {M : mm_M} {q58 : Int32 → Int32 → Int32 → Int32 → mm_M → Option (Int32 × mm_M)} (hq58 : ∀ (x1 : Int32) (x2 : Int32) (x4 : Int32) (x5 : Int32) (M : mm_M) (H : Heap) (locs : List Loc) (ls : Array Slot), q58 x1 x2 x4 x5 M = some z → wd_in rf_T D cy z0 ad u M X s H locs → lv_has ls 8 [(0, .ref (ad 0)), (1, .int x1), (2, .int x2), (3, .ref (ad 31)), (4, .int x4), (5, .int x5)] → W p l e { frames := 6, cells := 0, slots := 0, locals := 145 } s m args below meth c H locs 0 0 (MQ below (cq_i rf_T D cy z0 ad u X z.1 z.2) args s 0 0 (fun q => z0 ≤ q)) (F0 m 58 ls [])) (hf : f_X12_eye_167 q58 x1 x2 x4 x5 M = some z) {H : Heap} {locs : List Loc} (hw : wd_in rf_T D cy z0 ad u M X s H locs) {ls : Array Slot} (hl : lv_has ls 8 [(0, .ref (ad 0)), (1, .int x1), (2, .int x2), (3, .ref (ad 31)), (4, .int x4), (5, .int x5)]) : W p l e { frames := 6, cells := 0, slots := 0, locals := 145 } s m args below meth c H locs 0 0 (MQ below (cq_i rf_T D cy z0 ad u X z.1 z.2) args s 0 0 (fun q => z0 ≤ q)) (F0 m 167 ls []) := by
  have hx := hC.1
  have hb := hC.2.1
  unfold f_X12_eye_167 at hf
  obtain ⟨y25, ey25, hf⟩ := sq_e hf
  refine lv_iinc (v := y25) (lv' := [(5, .int y25), (0, .ref (ad 0)), (1, .int x1), (2, .int x2), (3, .ref (ad 31)), (4, .int x4)]) hx hb dX12_eye_167 hl (k := 5) rfl (by rw [ey25]; rfl) (by decide) rfl (fun ls hl => ?_)
  refine lv_goto (tgt := 58) hx hb dX12_eye_170 (by decide) ?_
  exact hq58 _ _ _ _ _ _ _ _ hf hw (lv_sub hl [1, 2, 3, 4, 5, 0] rfl)
set_option maxRecDepth 100000 in
set_option maxHeartbeats 4000000 in
theorem k_X12_eye_159 {p : Program} {l : Launch} {e : Env} {s : State} {m : MethodId} {args : Array Value} {below : List Frame} {meth : Method} {c : Code} {D : va_G} {cy : Nat → ClassId} {z0 : Nat} {ad : Nat → Nat} {X : va_W} {u : Nat × Nat} (hC : cx_C p s m args meth c cX12_eye "RhymedThenModel" (Cond.code yX12_eye cX12_eye 8 (some .int)) 8 (some .int)) {z : (Int32 × mm_M)} {x1 : Int32} {x2 : Int32} {x4 : Int32} {x5 : Int32} {t1 : Int32} {M : mm_M} {q58 : Int32 → Int32 → Int32 → Int32 → mm_M → Option (Int32 × mm_M)} (hq58 : ∀ (x1 : Int32) (x2 : Int32) (x4 : Int32) (x5 : Int32) (M : mm_M) (H : Heap) (locs : List Loc) (ls : Array Slot), q58 x1 x2 x4 x5 M = some z → wd_in rf_T D cy z0 ad u M X s H locs → lv_has ls 8 [(0, .ref (ad 0)), (1, .int x1), (2, .int x2), (3, .ref (ad 31)), (4, .int x4), (5, .int x5)] → W p l e { frames := 6, cells := 0, slots := 0, locals := 145 } s m args below meth c H locs 0 0 (MQ below (cq_i rf_T D cy z0 ad u X z.1 z.2) args s 0 0 (fun q => z0 ≤ q)) (F0 m 58 ls [])) (hf : f_X12_eye_159 q58 x1 x2 x4 x5 t1 M = some z) {H : Heap} {locs : List Loc} (hw : wd_in rf_T D cy z0 ad u M X s H locs) {ls : Array Slot} (hl : lv_has ls 8 [(0, .ref (ad 0)), (1, .int x1), (2, .int x2), (3, .ref (ad 31)), (4, .int x4), (5, .int x5)]) : W p l e { frames := 6, cells := 0, slots := 0, locals := 145 } s m args below meth c H locs 0 0 (MQ below (cq_i rf_T D cy z0 ad u X z.1 z.2) args s 0 0 (fun q => z0 ≤ q)) (F0 m 159 ls [.int t1, .ref (ad 31)]) := by
  have hx := hC.1
  have hb := hC.2.1
  unfold f_X12_eye_159 at hf
  refine lv_dup2_11 hx hb dX12_eye_159 rfl rfl ?_
  obtain ⟨h26, hf⟩ := ck_e hf
  refine ra_i hC hw 31 (Nat.le_of_ble_eq_true rfl) rfl h26 dX12_eye_160 ?_
  refine lv_iconst (v := 1) hx hb dX12_eye_161 (by decide) ?_
  refine lv_iadd hx hb dX12_eye_162 ?_
  obtain ⟨h27, hf⟩ := ck_e hf
  obtain ⟨M28, eM28, hf⟩ := sq_e hf
  refine rs_i hC hw 31 (Nat.le_of_ble_eq_true rfl) rfl h27 dX12_eye_163 eM28 (fun H locs hw => ?_)
  obtain ⟨y29, ey29, hf⟩ := sq_e hf
  refine lv_iinc (v := y29) (lv' := [(4, .int y29), (0, .ref (ad 0)), (1, .int x1), (2, .int x2), (3, .ref (ad 31)), (5, .int x5)]) hx hb dX12_eye_164 hl (k := 4) rfl (by rw [ey29]; rfl) (by decide) rfl (fun ls hl => ?_)
  exact k_X12_eye_167 hC hq58 hf hw (lv_sub hl [1, 2, 3, 4, 0, 5] rfl)
set_option maxRecDepth 100000 in
set_option maxHeartbeats 4000000 in
theorem k_X12_eye_181 {p : Program} {l : Launch} {e : Env} {s : State} {m : MethodId} {args : Array Value} {below : List Frame} {meth : Method} {c : Code} {D : va_G} {cy : Nat → ClassId} {z0 : Nat} {ad : Nat → Nat} {X : va_W} {u : Nat × Nat} (hC : cx_C p s m args meth c cX12_eye "RhymedThenModel" (Cond.code yX12_eye cX12_eye 8 (some .int)) 8 (some .int)) {z : (Int32 × mm_M)} {x4 : Int32} {x5 : Int32} {M : mm_M} {q181 : Int32 → Int32 → mm_M → Option (Int32 × mm_M)} (hq181 : ∀ (x4 : Int32) (x5 : Int32) (M : mm_M) (H : Heap) (locs : List Loc) (ls : Array Slot), q181 x4 x5 M = some z → wd_in rf_T D cy z0 ad u M X s H locs → lv_has ls 8 [(0, .ref (ad 0)), (3, .ref (ad 31)), (4, .int x4), (5, .int x5)] → W p l e { frames := 6, cells := 0, slots := 0, locals := 145 } s m args below meth c H locs 0 0 (MQ below (cq_i rf_T D cy z0 ad u X z.1 z.2) args s 0 0 (fun q => z0 ≤ q)) (F0 m 181 ls [])) (hf : f_X12_eye_181 q181 x4 x5 M = some z) {H : Heap} {locs : List Loc} (hw : wd_in rf_T D cy z0 ad u M X s H locs) {ls : Array Slot} (hl : lv_has ls 8 [(0, .ref (ad 0)), (3, .ref (ad 31)), (4, .int x4), (5, .int x5)]) : W p l e { frames := 6, cells := 0, slots := 0, locals := 145 } s m args below meth c H locs 0 0 (MQ below (cq_i rf_T D cy z0 ad u X z.1 z.2) args s 0 0 (fun q => z0 ≤ q)) (F0 m 181 ls []) := by
  have hx := hC.1
  have hb := hC.2.1
  unfold f_X12_eye_181 at hf
  refine lv_iload hx hb dX12_eye_181 (lv_at hl 3 rfl) ?_
  refine lv_iconst (v := 4) hx hb dX12_eye_183 (by decide) ?_
  refine lv_icmp_ge (tgt := 202) hx hb dX12_eye_184 (by decide) (fun c30 => ?_) (fun c30 => ?_)
  · rw [if_pos c30] at hf
    refine lv_iload hx hb dX12_eye_202 (lv_at hl 2 rfl) ?_
    have hz := Option.some.inj hf
    subst hz
    exact rtc_i hC hw dX12_eye_204
  · rw [if_neg c30] at hf
    refine lv_aload_n hx hb dX12_eye_187 rfl (lv_at hl 0 rfl) ?_
    refine lv_aload_n hx hb dX12_eye_188 rfl (lv_at hl 1 rfl) ?_
    refine lv_iload hx hb dX12_eye_189 (lv_at hl 3 rfl) ?_
    obtain ⟨h31, hf⟩ := ck_e hf
    refine ra_i hC hw 31 (Nat.le_of_ble_eq_true rfl) rfl h31 dX12_eye_191 ?_
    refine lv_i2l hx hb dX12_eye_192 rfl ?_
    obtain ⟨z32, ez32, hf⟩ := bd_e hf
    refine clc_Vv hC hw (c_X12_enters ez32) hd_X12_enters cw_X12_18 (Nat.le_of_ble_eq_true rfl) rfl rfl (rest := []) hl.1 rfl (Nat.le_of_ble_eq_true rfl) ⟨Nat.le_of_ble_eq_true rfl, Nat.le_of_ble_eq_true rfl⟩ ⟨Nat.zero_le _, Nat.zero_le _⟩ rfl dX12_eye_193 (fun H locs hw => ?_)
    obtain ⟨y33, ey33, hf⟩ := sq_e hf
    refine lv_iinc (v := y33) (lv' := [(5, .int y33), (0, .ref (ad 0)), (3, .ref (ad 31)), (4, .int x4)]) hx hb dX12_eye_196 hl (k := 3) rfl (by rw [ey33]; rfl) (by decide) rfl (fun ls hl => ?_)
    refine lv_goto (tgt := 181) hx hb dX12_eye_199 (by decide) ?_
    exact hq181 _ _ _ _ _ _ hf hw (lv_sub hl [1, 2, 3, 0] rfl)
set_option maxRecDepth 100000 in
set_option maxHeartbeats 4000000 in
theorem k_X12_eye_181l {p : Program} {l : Launch} {e : Env} {s : State} {m : MethodId} {args : Array Value} {below : List Frame} {meth : Method} {c : Code} {D : va_G} {cy : Nat → ClassId} {z0 : Nat} {ad : Nat → Nat} {X : va_W} {u : Nat × Nat} (hC : cx_C p s m args meth c cX12_eye "RhymedThenModel" (Cond.code yX12_eye cX12_eye 8 (some .int)) 8 (some .int)) {z : (Int32 × mm_M)} : ∀ (n : Nat) (x4 : Int32) (x5 : Int32) (M : mm_M) (H : Heap) (locs : List Loc) (ls : Array Slot), f_X12_eye_181l n x4 x5 M = some z → wd_in rf_T D cy z0 ad u M X s H locs → lv_has ls 8 [(0, .ref (ad 0)), (3, .ref (ad 31)), (4, .int x4), (5, .int x5)] → W p l e { frames := 6, cells := 0, slots := 0, locals := 145 } s m args below meth c H locs 0 0 (MQ below (cq_i rf_T D cy z0 ad u X z.1 z.2) args s 0 0 (fun q => z0 ≤ q)) (F0 m 181 ls []) := by
  intro n
  induction n with
  | zero => intro x4 x5 M H locs ls hf; exact absurd hf (by simp [f_X12_eye_181l])
  | succ n ih => intro x4 x5 M H locs ls hf hw hl; exact k_X12_eye_181 hC ih hf hw hl
set_option maxRecDepth 100000 in
set_option maxHeartbeats 4000000 in
theorem k_X12_eye_173 {p : Program} {l : Launch} {e : Env} {s : State} {m : MethodId} {args : Array Value} {below : List Frame} {meth : Method} {c : Code} {D : va_G} {cy : Nat → ClassId} {z0 : Nat} {ad : Nat → Nat} {X : va_W} {u : Nat × Nat} (hC : cx_C p s m args meth c cX12_eye "RhymedThenModel" (Cond.code yX12_eye cX12_eye 8 (some .int)) 8 (some .int)) {z : (Int32 × mm_M)} {x4 : Int32} {M : mm_M} (hf : f_X12_eye_173 x4 M = some z) {H : Heap} {locs : List Loc} (hw : wd_in rf_T D cy z0 ad u M X s H locs) {ls : Array Slot} (hl : lv_has ls 8 [(0, .ref (ad 0)), (3, .ref (ad 31)), (4, .int x4)]) : W p l e { frames := 6, cells := 0, slots := 0, locals := 145 } s m args below meth c H locs 0 0 (MQ below (cq_i rf_T D cy z0 ad u X z.1 z.2) args s 0 0 (fun q => z0 ≤ q)) (F0 m 173 ls []) := by
  have hx := hC.1
  have hb := hC.2.1
  unfold f_X12_eye_173 at hf
  refine lv_aload_n hx hb dX12_eye_173 rfl (lv_at hl 0 rfl) ?_
  refine lv_iconst (v := 0) hx hb dX12_eye_174 (by decide) ?_
  obtain ⟨M24, eM24, hf⟩ := sq_e hf
  refine rp_i hC hw 0 (Nat.le_of_ble_eq_true rfl) rfl fd_X12_1 wf_X12_11 fp_X12_1 rfl rfl dX12_eye_175 eM24 (fun H locs hw => ?_)
  refine lv_iconst (v := 0) hx hb dX12_eye_178 (by decide) ?_
  refine lv_istore (lv' := [(5, .int 0), (0, .ref (ad 0)), (3, .ref (ad 31)), (4, .int x4)]) hx hb dX12_eye_179 hl (by decide) rfl (fun ls hl => ?_)
  exact k_X12_eye_181l hC fu_ _ _ _ _ _ _ hf hw (lv_sub hl [1, 2, 3, 0] rfl)
set_option maxRecDepth 100000 in
set_option maxHeartbeats 4000000 in
theorem k_X12_eye_58 {p : Program} {l : Launch} {e : Env} {s : State} {m : MethodId} {args : Array Value} {below : List Frame} {meth : Method} {c : Code} {D : va_G} {cy : Nat → ClassId} {z0 : Nat} {ad : Nat → Nat} {X : va_W} {u : Nat × Nat} (hC : cx_C p s m args meth c cX12_eye "RhymedThenModel" (Cond.code yX12_eye cX12_eye 8 (some .int)) 8 (some .int)) {z : (Int32 × mm_M)} {x1 : Int32} {x2 : Int32} {x4 : Int32} {x5 : Int32} {M : mm_M} {q58 : Int32 → Int32 → Int32 → Int32 → mm_M → Option (Int32 × mm_M)} (hq58 : ∀ (x1 : Int32) (x2 : Int32) (x4 : Int32) (x5 : Int32) (M : mm_M) (H : Heap) (locs : List Loc) (ls : Array Slot), q58 x1 x2 x4 x5 M = some z → wd_in rf_T D cy z0 ad u M X s H locs → lv_has ls 8 [(0, .ref (ad 0)), (1, .int x1), (2, .int x2), (3, .ref (ad 31)), (4, .int x4), (5, .int x5)] → W p l e { frames := 6, cells := 0, slots := 0, locals := 145 } s m args below meth c H locs 0 0 (MQ below (cq_i rf_T D cy z0 ad u X z.1 z.2) args s 0 0 (fun q => z0 ≤ q)) (F0 m 58 ls [])) (hf : f_X12_eye_58 q58 x1 x2 x4 x5 M = some z) {H : Heap} {locs : List Loc} (hw : wd_in rf_T D cy z0 ad u M X s H locs) {ls : Array Slot} (hl : lv_has ls 8 [(0, .ref (ad 0)), (1, .int x1), (2, .int x2), (3, .ref (ad 31)), (4, .int x4), (5, .int x5)]) : W p l e { frames := 6, cells := 0, slots := 0, locals := 145 } s m args below meth c H locs 0 0 (MQ below (cq_i rf_T D cy z0 ad u X z.1 z.2) args s 0 0 (fun q => z0 ≤ q)) (F0 m 58 ls []) := by
  have hx := hC.1
  have hb := hC.2.1
  unfold f_X12_eye_58 at hf
  refine lv_iload hx hb dX12_eye_58 (lv_at hl 5 rfl) ?_
  refine lv_aload_n hx hb dX12_eye_60 rfl (lv_at hl 0 rfl) ?_
  refine rg_i hC hw 0 (Nat.le_of_ble_eq_true rfl) rfl fd_X12_28 wf_X12_258 dX12_eye_61 ?_
  refine lv_icmp_ge (tgt := 173) hx hb dX12_eye_64 (by decide) (fun c10 => ?_) (fun c10 => ?_)
  · rw [if_pos c10] at hf
    exact k_X12_eye_173 hC hf hw (lv_sub hl [0, 3, 4] rfl)
  · rw [if_neg c10] at hf
    refine lv_aload_n hx hb dX12_eye_67 rfl (lv_at hl 0 rfl) ?_
    refine rg_p hC hw 0 (Nat.le_of_ble_eq_true rfl) rfl fd_X12_29 wf_X12_226 (q := 18) rfl dX12_eye_68 ?_
    refine lv_iload hx hb dX12_eye_71 (lv_at hl 5 rfl) ?_
    obtain ⟨h11, hf⟩ := ck_e hf
    refine ra_i hC hw 18 (Nat.le_of_ble_eq_true rfl) rfl h11 dX12_eye_73 ?_
    refine lv_if_ne (tgt := 167) hx hb dX12_eye_74 (by decide) (fun c12 => ?_) (fun c12 => ?_)
    · rw [if_neg c12] at hf
      exact k_X12_eye_167 hC hq58 hf hw (lv_sub hl [0, 1, 2, 3, 4, 5] rfl)
    · rw [if_pos c12] at hf
      refine lv_aload_n hx hb dX12_eye_77 rfl (lv_at hl 0 rfl) ?_
      refine rg_p hC hw 0 (Nat.le_of_ble_eq_true rfl) rfl fd_X12_35 wf_X12_244 (q := 24) rfl dX12_eye_78 ?_
      refine lv_iload hx hb dX12_eye_81 (lv_at hl 5 rfl) ?_
      obtain ⟨h13, hf⟩ := ck_e hf
      refine ra_i hC hw 24 (Nat.le_of_ble_eq_true rfl) rfl h13 dX12_eye_83 ?_
      refine lv_iload_n hx hb dX12_eye_84 rfl (lv_at hl 1 rfl) ?_
      refine lv_icmp_eq (tgt := 91) hx hb dX12_eye_85 (by decide) (fun c14 => ?_) (fun c14 => ?_)
      · rw [if_pos c14] at hf
        refine lv_aload_n hx hb dX12_eye_91 rfl (lv_at hl 0 rfl) ?_
        refine lv_iload hx hb dX12_eye_92 (lv_at hl 5 rfl) ?_
        refine lv_iload_n hx hb dX12_eye_94 rfl (lv_at hl 2 rfl) ?_
        obtain ⟨z15, ez15, hf⟩ := bd_e hf
        refine clc_Vi hC hw (c_X12_isHeld ez15) hd_X12_isHeld cw_X12_270 (Nat.le_of_ble_eq_true rfl) rfl rfl (rest := []) hl.1 rfl (Nat.le_of_ble_eq_true rfl) ⟨Nat.le_of_ble_eq_true rfl, Nat.le_of_ble_eq_true rfl⟩ ⟨Nat.zero_le _, Nat.zero_le _⟩ rfl dX12_eye_95 (fun H locs hw => ?_)
        refine lv_istore (lv' := [(6, .int z15.1), (0, .ref (ad 0)), (1, .int x1), (2, .int x2), (3, .ref (ad 31)), (4, .int x4), (5, .int x5)]) hx hb dX12_eye_98 hl (by decide) rfl (fun ls hl => ?_)
        refine lv_aload_n hx hb dX12_eye_100 rfl (lv_at hl 1 rfl) ?_
        refine lv_iconst (v := 0) hx hb dX12_eye_101 (by decide) ?_
        refine lv_aload_n hx hb dX12_eye_102 rfl (lv_at hl 1 rfl) ?_
        refine rg_p hC hw 0 (Nat.le_of_ble_eq_true rfl) rfl fd_X12_30 wf_X12_229 (q := 19) rfl dX12_eye_103 ?_
        refine lv_iload hx hb dX12_eye_106 (lv_at hl 6 rfl) ?_
        obtain ⟨h16, hf⟩ := ck_e hf
        refine ra_i hC hw 19 (Nat.le_of_ble_eq_true rfl) rfl h16 dX12_eye_108 ?_
        obtain ⟨z17, ez17, hf⟩ := bd_e hf
        refine clc_Vv hC hw (c_X12_spells ez17) hd_X12_spells cw_X12_167 (Nat.le_of_ble_eq_true rfl) rfl rfl (rest := []) hl.1 rfl (Nat.le_of_ble_eq_true rfl) ⟨Nat.le_of_ble_eq_true rfl, Nat.le_of_ble_eq_true rfl⟩ ⟨Nat.zero_le _, Nat.zero_le _⟩ rfl dX12_eye_109 (fun H locs hw => ?_)
        refine lv_aload_n hx hb dX12_eye_112 rfl (lv_at hl 1 rfl) ?_
        refine lv_iconst (v := 1) hx hb dX12_eye_113 (by decide) ?_
        refine lv_aload_n hx hb dX12_eye_114 rfl (lv_at hl 1 rfl) ?_
        refine rg_p hC hw 0 (Nat.le_of_ble_eq_true rfl) rfl fd_X12_31 wf_X12_232 (q := 20) rfl dX12_eye_115 ?_
        refine lv_iload hx hb dX12_eye_118 (lv_at hl 6 rfl) ?_
        obtain ⟨h18, hf⟩ := ck_e hf
        refine ra_i hC hw 20 (Nat.le_of_ble_eq_true rfl) rfl h18 dX12_eye_120 ?_
        obtain ⟨z19, ez19, hf⟩ := bd_e hf
        refine clc_Vv hC hw (c_X12_spells ez19) hd_X12_spells cw_X12_167 (Nat.le_of_ble_eq_true rfl) rfl rfl (rest := []) hl.1 rfl (Nat.le_of_ble_eq_true rfl) ⟨Nat.le_of_ble_eq_true rfl, Nat.le_of_ble_eq_true rfl⟩ ⟨Nat.zero_le _, Nat.zero_le _⟩ rfl dX12_eye_121 (fun H locs hw => ?_)
        refine lv_aload_n hx hb dX12_eye_124 rfl (lv_at hl 1 rfl) ?_
        obtain ⟨z20, ez20, hf⟩ := bd_e hf
        refine clc_Vi hC hw (c_X12_areRhymes ez20) hd_X12_areRhymes cw_X12_210 (Nat.le_of_ble_eq_true rfl) rfl rfl (rest := []) hl.1 rfl (Nat.le_of_ble_eq_true rfl) ⟨Nat.le_of_ble_eq_true rfl, Nat.le_of_ble_eq_true rfl⟩ ⟨Nat.zero_le _, Nat.zero_le _⟩ rfl dX12_eye_125 (fun H locs hw => ?_)
        refine lv_istore (lv' := [(7, .int z20), (6, .int z15.1), (0, .ref (ad 0)), (1, .int x1), (2, .int x2), (3, .ref (ad 31)), (4, .int x4), (5, .int x5)]) hx hb dX12_eye_128 hl (by decide) rfl (fun ls hl => ?_)
        refine lv_aload_n hx hb dX12_eye_130 rfl (lv_at hl 5 rfl) ?_
        refine lv_iload hx hb dX12_eye_131 (lv_at hl 1 rfl) ?_
        refine lv_if_eq (tgt := 149) hx hb dX12_eye_133 (by decide) (fun c21 => ?_) (fun c21 => ?_)
        · rw [if_pos c21] at hf
          refine lv_iload hx hb dX12_eye_149 (lv_at hl 0 rfl) ?_
          refine lv_if_eq (tgt := 158) hx hb dX12_eye_151 (by decide) (fun c22 => ?_) (fun c22 => ?_)
          · rw [if_pos c22] at hf
            refine lv_iconst (v := 3) hx hb dX12_eye_158 (by decide) ?_
            exact k_X12_eye_159 hC hq58 hf hw (lv_sub hl [2, 3, 4, 5, 6, 7] rfl)
          · rw [if_neg c22] at hf
            refine lv_iconst (v := 2) hx hb dX12_eye_154 (by decide) ?_
            refine lv_goto (tgt := 159) hx hb dX12_eye_155 (by decide) ?_
            exact k_X12_eye_159 hC hq58 hf hw (lv_sub hl [2, 3, 4, 5, 6, 7] rfl)
        · rw [if_neg c21] at hf
          refine lv_iload hx hb dX12_eye_136 (lv_at hl 0 rfl) ?_
          refine lv_if_eq (tgt := 145) hx hb dX12_eye_138 (by decide) (fun c23 => ?_) (fun c23 => ?_)
          · rw [if_pos c23] at hf
            refine lv_iconst (v := 1) hx hb dX12_eye_145 (by decide) ?_
            refine lv_goto (tgt := 159) hx hb dX12_eye_146 (by decide) ?_
            exact k_X12_eye_159 hC hq58 hf hw (lv_sub hl [2, 3, 4, 5, 6, 7] rfl)
          · rw [if_neg c23] at hf
            refine lv_iconst (v := 0) hx hb dX12_eye_141 (by decide) ?_
            refine lv_goto (tgt := 159) hx hb dX12_eye_142 (by decide) ?_
            exact k_X12_eye_159 hC hq58 hf hw (lv_sub hl [2, 3, 4, 5, 6, 7] rfl)
      · rw [if_neg c14] at hf
        refine lv_goto (tgt := 167) hx hb dX12_eye_88 (by decide) ?_
        exact k_X12_eye_167 hC hq58 hf hw (lv_sub hl [0, 1, 2, 3, 4, 5] rfl)
set_option maxRecDepth 100000 in
set_option maxHeartbeats 4000000 in
theorem k_X12_eye_58l {p : Program} {l : Launch} {e : Env} {s : State} {m : MethodId} {args : Array Value} {below : List Frame} {meth : Method} {c : Code} {D : va_G} {cy : Nat → ClassId} {z0 : Nat} {ad : Nat → Nat} {X : va_W} {u : Nat × Nat} (hC : cx_C p s m args meth c cX12_eye "RhymedThenModel" (Cond.code yX12_eye cX12_eye 8 (some .int)) 8 (some .int)) {z : (Int32 × mm_M)} : ∀ (n : Nat) (x1 : Int32) (x2 : Int32) (x4 : Int32) (x5 : Int32) (M : mm_M) (H : Heap) (locs : List Loc) (ls : Array Slot), f_X12_eye_58l n x1 x2 x4 x5 M = some z → wd_in rf_T D cy z0 ad u M X s H locs → lv_has ls 8 [(0, .ref (ad 0)), (1, .int x1), (2, .int x2), (3, .ref (ad 31)), (4, .int x4), (5, .int x5)] → W p l e { frames := 6, cells := 0, slots := 0, locals := 145 } s m args below meth c H locs 0 0 (MQ below (cq_i rf_T D cy z0 ad u X z.1 z.2) args s 0 0 (fun q => z0 ≤ q)) (F0 m 58 ls []) := by
  intro n
  induction n with
  | zero => intro x1 x2 x4 x5 M H locs ls hf; exact absurd hf (by simp [f_X12_eye_58l])
  | succ n ih => intro x1 x2 x4 x5 M H locs ls hf hw hl; exact k_X12_eye_58 hC ih hf hw hl
set_option maxRecDepth 100000 in
set_option maxHeartbeats 4000000 in
theorem k_X12_eye_52 {p : Program} {l : Launch} {e : Env} {s : State} {m : MethodId} {args : Array Value} {below : List Frame} {meth : Method} {c : Code} {D : va_G} {cy : Nat → ClassId} {z0 : Nat} {ad : Nat → Nat} {X : va_W} {u : Nat × Nat} (hC : cx_C p s m args meth c cX12_eye "RhymedThenModel" (Cond.code yX12_eye cX12_eye 8 (some .int)) 8 (some .int)) {z : (Int32 × mm_M)} {x1 : Int32} {x2 : Int32} {M : mm_M} (hf : f_X12_eye_52 x1 x2 M = some z) {H : Heap} {locs : List Loc} (hw : wd_in rf_T D cy z0 ad u M X s H locs) {ls : Array Slot} (hl : lv_has ls 8 [(0, .ref (ad 0)), (1, .int x1), (2, .int x2), (3, .ref (ad 31))]) : W p l e { frames := 6, cells := 0, slots := 0, locals := 145 } s m args below meth c H locs 0 0 (MQ below (cq_i rf_T D cy z0 ad u X z.1 z.2) args s 0 0 (fun q => z0 ≤ q)) (F0 m 52 ls []) := by
  have hx := hC.1
  have hb := hC.2.1
  unfold f_X12_eye_52 at hf
  refine lv_iconst (v := 0) hx hb dX12_eye_52 (by decide) ?_
  refine lv_istore (lv' := [(4, .int 0), (0, .ref (ad 0)), (1, .int x1), (2, .int x2), (3, .ref (ad 31))]) hx hb dX12_eye_53 hl (by decide) rfl (fun ls hl => ?_)
  refine lv_iconst (v := 0) hx hb dX12_eye_55 (by decide) ?_
  refine lv_istore (lv' := [(5, .int 0), (4, .int 0), (0, .ref (ad 0)), (1, .int x1), (2, .int x2), (3, .ref (ad 31))]) hx hb dX12_eye_56 hl (by decide) rfl (fun ls hl => ?_)
  exact k_X12_eye_58l hC fu_ _ _ _ _ _ _ _ _ hf hw (lv_sub hl [2, 3, 4, 5, 1, 0] rfl)
set_option maxRecDepth 100000 in
set_option maxHeartbeats 4000000 in
theorem k_X12_eye_35 {p : Program} {l : Launch} {e : Env} {s : State} {m : MethodId} {args : Array Value} {below : List Frame} {meth : Method} {c : Code} {D : va_G} {cy : Nat → ClassId} {z0 : Nat} {ad : Nat → Nat} {X : va_W} {u : Nat × Nat} (hC : cx_C p s m args meth c cX12_eye "RhymedThenModel" (Cond.code yX12_eye cX12_eye 8 (some .int)) 8 (some .int)) {z : (Int32 × mm_M)} {x1 : Int32} {x2 : Int32} {x4 : Int32} {M : mm_M} {q35 : Int32 → Int32 → Int32 → mm_M → Option (Int32 × mm_M)} (hq35 : ∀ (x1 : Int32) (x2 : Int32) (x4 : Int32) (M : mm_M) (H : Heap) (locs : List Loc) (ls : Array Slot), q35 x1 x2 x4 M = some z → wd_in rf_T D cy z0 ad u M X s H locs → lv_has ls 8 [(0, .ref (ad 0)), (1, .int x1), (2, .int x2), (3, .ref (ad 31)), (4, .int x4)] → W p l e { frames := 6, cells := 0, slots := 0, locals := 145 } s m args below meth c H locs 0 0 (MQ below (cq_i rf_T D cy z0 ad u X z.1 z.2) args s 0 0 (fun q => z0 ≤ q)) (F0 m 35 ls [])) (hf : f_X12_eye_35 q35 x1 x2 x4 M = some z) {H : Heap} {locs : List Loc} (hw : wd_in rf_T D cy z0 ad u M X s H locs) {ls : Array Slot} (hl : lv_has ls 8 [(0, .ref (ad 0)), (1, .int x1), (2, .int x2), (3, .ref (ad 31)), (4, .int x4)]) : W p l e { frames := 6, cells := 0, slots := 0, locals := 145 } s m args below meth c H locs 0 0 (MQ below (cq_i rf_T D cy z0 ad u X z.1 z.2) args s 0 0 (fun q => z0 ≤ q)) (F0 m 35 ls []) := by
  have hx := hC.1
  have hb := hC.2.1
  unfold f_X12_eye_35 at hf
  refine lv_iload hx hb dX12_eye_35 (lv_at hl 4 rfl) ?_
  refine lv_iconst (v := 4) hx hb dX12_eye_37 (by decide) ?_
  refine lv_icmp_ge (tgt := 52) hx hb dX12_eye_38 (by decide) (fun c6 => ?_) (fun c6 => ?_)
  · rw [if_pos c6] at hf
    exact k_X12_eye_52 hC hf hw (lv_sub hl [0, 1, 2, 3] rfl)
  · rw [if_neg c6] at hf
    refine lv_aload_n hx hb dX12_eye_41 rfl (lv_at hl 3 rfl) ?_
    refine lv_iload hx hb dX12_eye_42 (lv_at hl 4 rfl) ?_
    refine lv_iconst (v := 0) hx hb dX12_eye_44 (by decide) ?_
    obtain ⟨h7, hf⟩ := ck_e hf
    obtain ⟨M8, eM8, hf⟩ := sq_e hf
    refine rs_i hC hw 31 (Nat.le_of_ble_eq_true rfl) rfl h7 dX12_eye_45 eM8 (fun H locs hw => ?_)
    obtain ⟨y9, ey9, hf⟩ := sq_e hf
    refine lv_iinc (v := y9) (lv' := [(4, .int y9), (0, .ref (ad 0)), (1, .int x1), (2, .int x2), (3, .ref (ad 31))]) hx hb dX12_eye_46 hl (k := 4) rfl (by rw [ey9]; rfl) (by decide) rfl (fun ls hl => ?_)
    refine lv_goto (tgt := 35) hx hb dX12_eye_49 (by decide) ?_
    exact hq35 _ _ _ _ _ _ _ hf hw (lv_sub hl [1, 2, 3, 4, 0] rfl)
set_option maxRecDepth 100000 in
set_option maxHeartbeats 4000000 in
theorem k_X12_eye_35l {p : Program} {l : Launch} {e : Env} {s : State} {m : MethodId} {args : Array Value} {below : List Frame} {meth : Method} {c : Code} {D : va_G} {cy : Nat → ClassId} {z0 : Nat} {ad : Nat → Nat} {X : va_W} {u : Nat × Nat} (hC : cx_C p s m args meth c cX12_eye "RhymedThenModel" (Cond.code yX12_eye cX12_eye 8 (some .int)) 8 (some .int)) {z : (Int32 × mm_M)} : ∀ (n : Nat) (x1 : Int32) (x2 : Int32) (x4 : Int32) (M : mm_M) (H : Heap) (locs : List Loc) (ls : Array Slot), f_X12_eye_35l n x1 x2 x4 M = some z → wd_in rf_T D cy z0 ad u M X s H locs → lv_has ls 8 [(0, .ref (ad 0)), (1, .int x1), (2, .int x2), (3, .ref (ad 31)), (4, .int x4)] → W p l e { frames := 6, cells := 0, slots := 0, locals := 145 } s m args below meth c H locs 0 0 (MQ below (cq_i rf_T D cy z0 ad u X z.1 z.2) args s 0 0 (fun q => z0 ≤ q)) (F0 m 35 ls []) := by
  intro n
  induction n with
  | zero => intro x1 x2 x4 M H locs ls hf; exact absurd hf (by simp [f_X12_eye_35l])
  | succ n ih => intro x1 x2 x4 M H locs ls hf hw hl; exact k_X12_eye_35 hC ih hf hw hl
set_option maxRecDepth 100000 in
set_option maxHeartbeats 4000000 in
theorem k_X12_eye {p : Program} {l : Launch} {e : Env} {s : State} {m : MethodId} {args : Array Value} {below : List Frame} {meth : Method} {c : Code} {D : va_G} {cy : Nat → ClassId} {z0 : Nat} {ad : Nat → Nat} {X : va_W} {u : Nat × Nat} (hC : cx_C p s m args meth c cX12_eye "RhymedThenModel" (Cond.code yX12_eye cX12_eye 8 (some .int)) 8 (some .int)) {z : (Int32 × mm_M)} {x1 : Int32} {x2 : Int32} {M : mm_M} (hf : f_X12_eye x1 x2 M = some z) {H : Heap} {locs : List Loc} (hw : wd_in rf_T D cy z0 ad u M X s H locs) {ls : Array Slot} (hl : lv_has ls 8 [(0, .ref (ad 0)), (1, .int x1), (2, .int x2)]) : W p l e { frames := 6, cells := 0, slots := 0, locals := 145 } s m args below meth c H locs 0 0 (MQ below (cq_i rf_T D cy z0 ad u X z.1 z.2) args s 0 0 (fun q => z0 ≤ q)) (F0 m 0 ls []) := by
  have hx := hC.1
  have hb := hC.2.1
  unfold f_X12_eye at hf
  refine lv_aload_n hx hb dX12_eye_0 rfl (lv_at hl 0 rfl) ?_
  refine lv_iconst (v := 0) hx hb dX12_eye_1 (by decide) ?_
  obtain ⟨M1, eM1, hf⟩ := sq_e hf
  refine rp_i hC hw 0 (Nat.le_of_ble_eq_true rfl) rfl fd_X12_0 wf_X12_1 fp_X12_0 rfl rfl dX12_eye_2 eM1 (fun H locs hw => ?_)
  refine lv_iload_n hx hb dX12_eye_5 rfl (lv_at hl 1 rfl) ?_
  refine lv_i2l hx hb dX12_eye_6 rfl ?_
  refine lv_lconst (v := 0) hx hb dX12_eye_7 (by decide) ?_
  refine lv_ldc2 (v := 5) hx hb hC.2.2.2.1 (hC.t wk_X12_62) dX12_eye_8 ?_
  obtain ⟨z2, ez2, hf⟩ := sq_e hf
  refine clc_Si hC hw (c_X12_in ez2.symm) hd_X12_in cw_X12_29 (rest := []) hl.1 rfl (Nat.le_of_ble_eq_true rfl) ⟨Nat.le_of_ble_eq_true rfl, Nat.le_of_ble_eq_true rfl⟩ ⟨Nat.zero_le _, Nat.zero_le _⟩ rfl dX12_eye_11 (fun H locs hw => ?_)
  refine lv_if_eq (tgt := 25) hx hb dX12_eye_14 (by decide) (fun c3 => ?_) (fun c3 => ?_)
  · rw [if_pos c3] at hf
    refine lv_iconst (v := (-1)) hx hb dX12_eye_25 (by decide) ?_
    have hz := Option.some.inj hf
    subst hz
    exact rtc_i hC hw dX12_eye_26
  · rw [if_neg c3] at hf
    refine lv_aload_n hx hb dX12_eye_17 rfl (lv_at hl 0 rfl) ?_
    refine lv_iload_n hx hb dX12_eye_18 rfl (lv_at hl 2 rfl) ?_
    obtain ⟨z4, ez4, hf⟩ := bd_e hf
    refine clc_Vi hC hw (c_X12_isHistory ez4) hd_X12_isHistory cw_X12_194 (Nat.le_of_ble_eq_true rfl) rfl rfl (rest := []) hl.1 rfl (Nat.le_of_ble_eq_true rfl) ⟨Nat.le_of_ble_eq_true rfl, Nat.le_of_ble_eq_true rfl⟩ ⟨Nat.zero_le _, Nat.zero_le _⟩ rfl dX12_eye_19 (fun H locs hw => ?_)
    refine lv_if_ne (tgt := 27) hx hb dX12_eye_22 (by decide) (fun c5 => ?_) (fun c5 => ?_)
    · rw [if_neg c5] at hf
      refine lv_aload_n hx hb dX12_eye_27 rfl (lv_at hl 0 rfl) ?_
      refine rg_p hC hw 0 (Nat.le_of_ble_eq_true rfl) rfl fd_X12_44 wf_X12_340 (q := 31) rfl dX12_eye_28 ?_
      refine lv_astore_n (lv' := [(3, .ref (ad 31)), (0, .ref (ad 0)), (1, .int x1), (2, .int x2)]) hx hb dX12_eye_31 rfl hl (by decide) rfl (fun ls hl => ?_)
      refine lv_iconst (v := 0) hx hb dX12_eye_32 (by decide) ?_
      refine lv_istore (lv' := [(4, .int 0), (3, .ref (ad 31)), (0, .ref (ad 0)), (1, .int x1), (2, .int x2)]) hx hb dX12_eye_33 hl (by decide) rfl (fun ls hl => ?_)
      exact k_X12_eye_35l hC fu_ _ _ _ _ _ _ _ hf hw (lv_sub hl [2, 3, 4, 1, 0] rfl)
    · rw [if_pos c5] at hf
      refine lv_iconst (v := (-1)) hx hb dX12_eye_25 (by decide) ?_
      have hz := Option.some.inj hf
      subst hz
      exact rtc_i hC hw dX12_eye_26
set_option maxRecDepth 100000 in
theorem c_X12_eye {l : Launch} {D : va_G} {cy : Nat → ClassId} {z0 : Nat} {ad : Nat → Nat} {u : Nat × Nat} {X : va_W} {z : (Int32 × mm_M)} {x1 : Int32} {x2 : Int32} {M : mm_M} (hf : f_X12_eye x1 x2 M = some z) : ct_i rf_T l yX12_eye (Cond.code yX12_eye cX12_eye 8 (some .int)) 6 145 D cy z0 ad u M X [.ref (ad 0), .int x1, .int x2] z.1 z.2 := by
  refine bgc_i (by decide) (fun p e s m below meth c hC hw => ?_)
  refine en_t (Nat.le_of_ble_eq_true rfl) (fun ls hl => ?_)
  have hl : lv_has ls 8 [(0, .ref (ad 0)), (1, .int x1), (2, .int x2)] := hl
  exact k_X12_eye hC hf hw hl
set_option maxRecDepth 100000 in
set_option maxHeartbeats 4000000 in
theorem k_X12_lean_143 {p : Program} {l : Launch} {e : Env} {s : State} {m : MethodId} {args : Array Value} {below : List Frame} {meth : Method} {c : Code} {D : va_G} {cy : Nat → ClassId} {z0 : Nat} {ad : Nat → Nat} {X : va_W} {u : Nat × Nat} (hC : cx_C p s m args meth c cX12_lean "RhymedThenModel" (Cond.code yX12_lean cX12_lean 10 (some .int)) 10 (some .int)) {z : (Int32 × mm_M)} {x1 : Int32} {x2 : Int32} {x3 : Int32} {x4 : Int32} {x5 : Int32} {x6 : Int32} {x7 : Int32} {x8 : Int32} {M : mm_M} {q57 : Int32 → Int32 → Int32 → Int32 → Int32 → Int32 → Int32 → Int32 → mm_M → Option (Int32 × mm_M)} (hq57 : ∀ (x1 : Int32) (x2 : Int32) (x3 : Int32) (x4 : Int32) (x5 : Int32) (x6 : Int32) (x7 : Int32) (x8 : Int32) (M : mm_M) (H : Heap) (locs : List Loc) (ls : Array Slot), q57 x1 x2 x3 x4 x5 x6 x7 x8 M = some z → wd_in rf_T D cy z0 ad u M X s H locs → lv_has ls 10 [(0, .ref (ad 0)), (1, .int x1), (2, .int x2), (3, .int x3), (4, .int x4), (5, .int x5), (6, .int x6), (7, .int x7), (8, .int x8)] → W p l e { frames := 6, cells := 0, slots := 0, locals := 145 } s m args below meth c H locs 0 0 (MQ below (cq_i rf_T D cy z0 ad u X z.1 z.2) args s 0 0 (fun q => z0 ≤ q)) (F0 m 57 ls [])) (hf : f_X12_lean_143 q57 x1 x2 x3 x4 x5 x6 x7 x8 M = some z) {H : Heap} {locs : List Loc} (hw : wd_in rf_T D cy z0 ad u M X s H locs) {ls : Array Slot} (hl : lv_has ls 10 [(0, .ref (ad 0)), (1, .int x1), (2, .int x2), (3, .int x3), (4, .int x4), (5, .int x5), (6, .int x6), (7, .int x7), (8, .int x8)]) : W p l e { frames := 6, cells := 0, slots := 0, locals := 145 } s m args below meth c H locs 0 0 (MQ below (cq_i rf_T D cy z0 ad u X z.1 z.2) args s 0 0 (fun q => z0 ≤ q)) (F0 m 143 ls []) := by
  have hx := hC.1
  have hb := hC.2.1
  unfold f_X12_lean_143 at hf
  obtain ⟨y25, ey25, hf⟩ := sq_e hf
  refine lv_iinc (v := y25) (lv' := [(8, .int y25), (0, .ref (ad 0)), (1, .int x1), (2, .int x2), (3, .int x3), (4, .int x4), (5, .int x5), (6, .int x6), (7, .int x7)]) hx hb dX12_lean_143 hl (k := 8) rfl (by rw [ey25]; rfl) (by decide) rfl (fun ls hl => ?_)
  refine lv_goto (tgt := 57) hx hb dX12_lean_146 (by decide) ?_
  exact hq57 _ _ _ _ _ _ _ _ _ _ _ _ hf hw (lv_sub hl [1, 2, 3, 4, 5, 6, 7, 8, 0] rfl)
set_option maxRecDepth 100000 in
set_option maxHeartbeats 4000000 in
theorem k_X12_lean_92 {p : Program} {l : Launch} {e : Env} {s : State} {m : MethodId} {args : Array Value} {below : List Frame} {meth : Method} {c : Code} {D : va_G} {cy : Nat → ClassId} {z0 : Nat} {ad : Nat → Nat} {X : va_W} {u : Nat × Nat} (hC : cx_C p s m args meth c cX12_lean "RhymedThenModel" (Cond.code yX12_lean cX12_lean 10 (some .int)) 10 (some .int)) {z : (Int32 × mm_M)} {x1 : Int32} {x2 : Int32} {x3 : Int32} {x4 : Int32} {x5 : Int32} {x6 : Int32} {x7 : Int32} {x8 : Int32} {t0 : Int32} {M : mm_M} {q57 : Int32 → Int32 → Int32 → Int32 → Int32 → Int32 → Int32 → Int32 → mm_M → Option (Int32 × mm_M)} (hq57 : ∀ (x1 : Int32) (x2 : Int32) (x3 : Int32) (x4 : Int32) (x5 : Int32) (x6 : Int32) (x7 : Int32) (x8 : Int32) (M : mm_M) (H : Heap) (locs : List Loc) (ls : Array Slot), q57 x1 x2 x3 x4 x5 x6 x7 x8 M = some z → wd_in rf_T D cy z0 ad u M X s H locs → lv_has ls 10 [(0, .ref (ad 0)), (1, .int x1), (2, .int x2), (3, .int x3), (4, .int x4), (5, .int x5), (6, .int x6), (7, .int x7), (8, .int x8)] → W p l e { frames := 6, cells := 0, slots := 0, locals := 145 } s m args below meth c H locs 0 0 (MQ below (cq_i rf_T D cy z0 ad u X z.1 z.2) args s 0 0 (fun q => z0 ≤ q)) (F0 m 57 ls [])) (hf : f_X12_lean_92 q57 x1 x2 x3 x4 x5 x6 x7 x8 t0 M = some z) {H : Heap} {locs : List Loc} (hw : wd_in rf_T D cy z0 ad u M X s H locs) {ls : Array Slot} (hl : lv_has ls 10 [(0, .ref (ad 0)), (1, .int x1), (2, .int x2), (3, .int x3), (4, .int x4), (5, .int x5), (6, .int x6), (7, .int x7), (8, .int x8)]) : W p l e { frames := 6, cells := 0, slots := 0, locals := 145 } s m args below meth c H locs 0 0 (MQ below (cq_i rf_T D cy z0 ad u X z.1 z.2) args s 0 0 (fun q => z0 ≤ q)) (F0 m 92 ls [.int t0]) := by
  have hx := hC.1
  have hb := hC.2.1
  unfold f_X12_lean_92 at hf
  refine lv_istore (lv' := [(9, .int t0), (0, .ref (ad 0)), (1, .int x1), (2, .int x2), (3, .int x3), (4, .int x4), (5, .int x5), (6, .int x6), (7, .int x7), (8, .int x8)]) hx hb dX12_lean_92 hl (by decide) rfl (fun ls hl => ?_)
  refine lv_iload hx hb dX12_lean_94 (lv_at hl 0 rfl) ?_
  refine lv_if_eq (tgt := 118) hx hb dX12_lean_96 (by decide) (fun c16 => ?_) (fun c16 => ?_)
  · rw [if_pos c16] at hf
    refine lv_aload_n hx hb dX12_lean_118 rfl (lv_at hl 1 rfl) ?_
    refine rg_p hC hw 0 (Nat.le_of_ble_eq_true rfl) rfl fd_X12_37 wf_X12_250 (q := 26) rfl dX12_lean_119 ?_
    refine lv_iload hx hb dX12_lean_122 (lv_at hl 9 rfl) ?_
    obtain ⟨h17, hf⟩ := ck_e hf
    refine ra_z hC hw 26 (Nat.le_of_ble_eq_true rfl) rfl h17 dX12_lean_124 ?_
    refine lv_if_eq (tgt := 143) hx hb dX12_lean_125 (by decide) (fun c18 => ?_) (fun c18 => ?_)
    · rw [if_pos c18] at hf
      exact k_X12_lean_143 hC hq57 hf hw (lv_sub hl [1, 2, 3, 4, 5, 6, 7, 8, 9] rfl)
    · rw [if_neg c18] at hf
      refine lv_iload hx hb dX12_lean_128 (lv_at hl 8 rfl) ?_
      refine lv_if_eq (tgt := 143) hx hb dX12_lean_130 (by decide) (fun c19 => ?_) (fun c19 => ?_)
      · rw [if_pos c19] at hf
        exact k_X12_lean_143 hC hq57 hf hw (lv_sub hl [1, 2, 3, 4, 5, 6, 7, 8, 9] rfl)
      · rw [if_neg c19] at hf
        refine lv_aload_n hx hb dX12_lean_133 rfl (lv_at hl 1 rfl) ?_
        refine lv_iload hx hb dX12_lean_134 (lv_at hl 9 rfl) ?_
        refine lv_iload hx hb dX12_lean_136 (lv_at hl 6 rfl) ?_
        obtain ⟨z20, ez20, hf⟩ := bd_e hf
        refine clc_Vi hC hw (c_X12_isHeld ez20) hd_X12_isHeld cw_X12_270 (Nat.le_of_ble_eq_true rfl) rfl rfl (rest := []) hl.1 rfl (Nat.le_of_ble_eq_true rfl) ⟨Nat.le_of_ble_eq_true rfl, Nat.le_of_ble_eq_true rfl⟩ ⟨Nat.zero_le _, Nat.zero_le _⟩ rfl dX12_lean_138 (fun H locs hw => ?_)
        refine lv_istore (lv' := [(7, .int z20.1), (9, .int t0), (0, .ref (ad 0)), (1, .int x1), (2, .int x2), (3, .int x3), (4, .int x4), (5, .int x5), (6, .int x6), (8, .int x8)]) hx hb dX12_lean_141 hl (by decide) rfl (fun ls hl => ?_)
        exact k_X12_lean_143 hC hq57 hf hw (lv_sub hl [2, 3, 4, 5, 6, 7, 8, 0, 9] rfl)
  · rw [if_neg c16] at hf
    refine lv_iload hx hb dX12_lean_99 (lv_at hl 7 rfl) ?_
    refine lv_aload_n hx hb dX12_lean_101 rfl (lv_at hl 1 rfl) ?_
    refine lv_iload hx hb dX12_lean_102 (lv_at hl 9 rfl) ?_
    refine lv_iload hx hb dX12_lean_104 (lv_at hl 6 rfl) ?_
    obtain ⟨z21, ez21, hf⟩ := bd_e hf
    refine clc_Vi hC hw (c_X12_isHeld ez21) hd_X12_isHeld cw_X12_270 (Nat.le_of_ble_eq_true rfl) rfl rfl (rest := [.int x6]) hl.1 rfl (Nat.le_of_ble_eq_true rfl) ⟨Nat.le_of_ble_eq_true rfl, Nat.le_of_ble_eq_true rfl⟩ ⟨Nat.zero_le _, Nat.zero_le _⟩ rfl dX12_lean_106 (fun H locs hw => ?_)
    obtain ⟨z22, ez22, hf⟩ := sq_e hf
    refine clc_Si hC hw (c_X12_truth ez22.symm) hd_X12_truth cw_X12_39 (rest := [.int x6]) hl.1 rfl (Nat.le_of_ble_eq_true rfl) ⟨Nat.le_of_ble_eq_true rfl, Nat.le_of_ble_eq_true rfl⟩ ⟨Nat.zero_le _, Nat.zero_le _⟩ rfl dX12_lean_109 (fun H locs hw => ?_)
    refine lv_iadd hx hb dX12_lean_112 ?_
    obtain ⟨y23, ey23, hf⟩ := sq_e hf
    refine lt_i ey23 ?_
    refine lv_istore (lv' := [(6, .int y23), (9, .int t0), (0, .ref (ad 0)), (1, .int x1), (2, .int x2), (3, .int x3), (4, .int x4), (5, .int x5), (7, .int x7), (8, .int x8)]) hx hb dX12_lean_113 hl (by decide) rfl (fun ls hl => ?_)
    refine lv_goto (tgt := 143) hx hb dX12_lean_115 (by decide) ?_
    exact k_X12_lean_143 hC hq57 hf hw (lv_sub hl [2, 3, 4, 5, 6, 7, 0, 8, 9] rfl)
set_option maxRecDepth 100000 in
set_option maxHeartbeats 4000000 in
theorem k_X12_lean_91 {p : Program} {l : Launch} {e : Env} {s : State} {m : MethodId} {args : Array Value} {below : List Frame} {meth : Method} {c : Code} {D : va_G} {cy : Nat → ClassId} {z0 : Nat} {ad : Nat → Nat} {X : va_W} {u : Nat × Nat} (hC : cx_C p s m args meth c cX12_lean "RhymedThenModel" (Cond.code yX12_lean cX12_lean 10 (some .int)) 10 (some .int)) {z : (Int32 × mm_M)} {x1 : Int32} {x2 : Int32} {x3 : Int32} {x4 : Int32} {x5 : Int32} {x6 : Int32} {x7 : Int32} {x8 : Int32} {M : mm_M} {q57 : Int32 → Int32 → Int32 → Int32 → Int32 → Int32 → Int32 → Int32 → mm_M → Option (Int32 × mm_M)} (hq57 : ∀ (x1 : Int32) (x2 : Int32) (x3 : Int32) (x4 : Int32) (x5 : Int32) (x6 : Int32) (x7 : Int32) (x8 : Int32) (M : mm_M) (H : Heap) (locs : List Loc) (ls : Array Slot), q57 x1 x2 x3 x4 x5 x6 x7 x8 M = some z → wd_in rf_T D cy z0 ad u M X s H locs → lv_has ls 10 [(0, .ref (ad 0)), (1, .int x1), (2, .int x2), (3, .int x3), (4, .int x4), (5, .int x5), (6, .int x6), (7, .int x7), (8, .int x8)] → W p l e { frames := 6, cells := 0, slots := 0, locals := 145 } s m args below meth c H locs 0 0 (MQ below (cq_i rf_T D cy z0 ad u X z.1 z.2) args s 0 0 (fun q => z0 ≤ q)) (F0 m 57 ls [])) (hf : f_X12_lean_91 q57 x1 x2 x3 x4 x5 x6 x7 x8 M = some z) {H : Heap} {locs : List Loc} (hw : wd_in rf_T D cy z0 ad u M X s H locs) {ls : Array Slot} (hl : lv_has ls 10 [(0, .ref (ad 0)), (1, .int x1), (2, .int x2), (3, .int x3), (4, .int x4), (5, .int x5), (6, .int x6), (7, .int x7), (8, .int x8)]) : W p l e { frames := 6, cells := 0, slots := 0, locals := 145 } s m args below meth c H locs 0 0 (MQ below (cq_i rf_T D cy z0 ad u X z.1 z.2) args s 0 0 (fun q => z0 ≤ q)) (F0 m 91 ls []) := by
  have hx := hC.1
  have hb := hC.2.1
  unfold f_X12_lean_91 at hf
  refine lv_iconst (v := 0) hx hb dX12_lean_91 (by decide) ?_
  exact k_X12_lean_92 hC hq57 hf hw (lv_sub hl [0, 1, 2, 3, 4, 5, 6, 7, 8] rfl)
set_option maxRecDepth 100000 in
set_option maxHeartbeats 4000000 in
theorem k_X12_lean_183 {p : Program} {l : Launch} {e : Env} {s : State} {m : MethodId} {args : Array Value} {below : List Frame} {meth : Method} {c : Code} {D : va_G} {cy : Nat → ClassId} {z0 : Nat} {ad : Nat → Nat} {X : va_W} {u : Nat × Nat} (hC : cx_C p s m args meth c cX12_lean "RhymedThenModel" (Cond.code yX12_lean cX12_lean 10 (some .int)) 10 (some .int)) {z : (Int32 × mm_M)} {x1 : Int32} {x2 : Int32} {x3 : Int32} {x4 : Int32} {x5 : Int32} {M : mm_M} {q41 : Int32 → Int32 → Int32 → Int32 → Int32 → mm_M → Option (Int32 × mm_M)} (hq41 : ∀ (x1 : Int32) (x2 : Int32) (x3 : Int32) (x4 : Int32) (x5 : Int32) (M : mm_M) (H : Heap) (locs : List Loc) (ls : Array Slot), q41 x1 x2 x3 x4 x5 M = some z → wd_in rf_T D cy z0 ad u M X s H locs → lv_has ls 10 [(0, .ref (ad 0)), (1, .int x1), (2, .int x2), (3, .int x3), (4, .int x4), (5, .int x5)] → W p l e { frames := 6, cells := 0, slots := 0, locals := 145 } s m args below meth c H locs 0 0 (MQ below (cq_i rf_T D cy z0 ad u X z.1 z.2) args s 0 0 (fun q => z0 ≤ q)) (F0 m 41 ls [])) (hf : f_X12_lean_183 q41 x1 x2 x3 x4 x5 M = some z) {H : Heap} {locs : List Loc} (hw : wd_in rf_T D cy z0 ad u M X s H locs) {ls : Array Slot} (hl : lv_has ls 10 [(0, .ref (ad 0)), (1, .int x1), (2, .int x2), (3, .int x3), (4, .int x4), (5, .int x5)]) : W p l e { frames := 6, cells := 0, slots := 0, locals := 145 } s m args below meth c H locs 0 0 (MQ below (cq_i rf_T D cy z0 ad u X z.1 z.2) args s 0 0 (fun q => z0 ≤ q)) (F0 m 183 ls []) := by
  have hx := hC.1
  have hb := hC.2.1
  unfold f_X12_lean_183 at hf
  obtain ⟨y24, ey24, hf⟩ := sq_e hf
  refine lv_iinc (v := y24) (lv' := [(5, .int y24), (0, .ref (ad 0)), (1, .int x1), (2, .int x2), (3, .int x3), (4, .int x4)]) hx hb dX12_lean_183 hl (k := 5) rfl (by rw [ey24]; rfl) (by decide) rfl (fun ls hl => ?_)
  refine lv_goto (tgt := 41) hx hb dX12_lean_186 (by decide) ?_
  exact hq41 _ _ _ _ _ _ _ _ _ hf hw (lv_sub hl [1, 2, 3, 4, 5, 0] rfl)
set_option maxRecDepth 100000 in
set_option maxHeartbeats 4000000 in
theorem k_X12_lean_182 {p : Program} {l : Launch} {e : Env} {s : State} {m : MethodId} {args : Array Value} {below : List Frame} {meth : Method} {c : Code} {D : va_G} {cy : Nat → ClassId} {z0 : Nat} {ad : Nat → Nat} {X : va_W} {u : Nat × Nat} (hC : cx_C p s m args meth c cX12_lean "RhymedThenModel" (Cond.code yX12_lean cX12_lean 10 (some .int)) 10 (some .int)) {z : (Int32 × mm_M)} {x1 : Int32} {x2 : Int32} {x4 : Int32} {x5 : Int32} {t0 : Int32} {M : mm_M} {q41 : Int32 → Int32 → Int32 → Int32 → Int32 → mm_M → Option (Int32 × mm_M)} (hq41 : ∀ (x1 : Int32) (x2 : Int32) (x3 : Int32) (x4 : Int32) (x5 : Int32) (M : mm_M) (H : Heap) (locs : List Loc) (ls : Array Slot), q41 x1 x2 x3 x4 x5 M = some z → wd_in rf_T D cy z0 ad u M X s H locs → lv_has ls 10 [(0, .ref (ad 0)), (1, .int x1), (2, .int x2), (3, .int x3), (4, .int x4), (5, .int x5)] → W p l e { frames := 6, cells := 0, slots := 0, locals := 145 } s m args below meth c H locs 0 0 (MQ below (cq_i rf_T D cy z0 ad u X z.1 z.2) args s 0 0 (fun q => z0 ≤ q)) (F0 m 41 ls [])) (hf : f_X12_lean_182 q41 x1 x2 x4 x5 t0 M = some z) {H : Heap} {locs : List Loc} (hw : wd_in rf_T D cy z0 ad u M X s H locs) {ls : Array Slot} (hl : lv_has ls 10 [(0, .ref (ad 0)), (1, .int x1), (2, .int x2), (4, .int x4), (5, .int x5)]) : W p l e { frames := 6, cells := 0, slots := 0, locals := 145 } s m args below meth c H locs 0 0 (MQ below (cq_i rf_T D cy z0 ad u X z.1 z.2) args s 0 0 (fun q => z0 ≤ q)) (F0 m 182 ls [.int t0]) := by
  have hx := hC.1
  have hb := hC.2.1
  unfold f_X12_lean_182 at hf
  refine lv_istore_n (lv' := [(3, .int t0), (0, .ref (ad 0)), (1, .int x1), (2, .int x2), (4, .int x4), (5, .int x5)]) hx hb dX12_lean_182 rfl hl (by decide) rfl (fun ls hl => ?_)
  exact k_X12_lean_183 hC hq41 hf hw (lv_sub hl [1, 2, 3, 0, 4, 5] rfl)
set_option maxRecDepth 100000 in
set_option maxHeartbeats 4000000 in
theorem k_X12_lean_149 {p : Program} {l : Launch} {e : Env} {s : State} {m : MethodId} {args : Array Value} {below : List Frame} {meth : Method} {c : Code} {D : va_G} {cy : Nat → ClassId} {z0 : Nat} {ad : Nat → Nat} {X : va_W} {u : Nat × Nat} (hC : cx_C p s m args meth c cX12_lean "RhymedThenModel" (Cond.code yX12_lean cX12_lean 10 (some .int)) 10 (some .int)) {z : (Int32 × mm_M)} {x1 : Int32} {x2 : Int32} {x3 : Int32} {x4 : Int32} {x5 : Int32} {x6 : Int32} {x7 : Int32} {M : mm_M} {q41 : Int32 → Int32 → Int32 → Int32 → Int32 → mm_M → Option (Int32 × mm_M)} (hq41 : ∀ (x1 : Int32) (x2 : Int32) (x3 : Int32) (x4 : Int32) (x5 : Int32) (M : mm_M) (H : Heap) (locs : List Loc) (ls : Array Slot), q41 x1 x2 x3 x4 x5 M = some z → wd_in rf_T D cy z0 ad u M X s H locs → lv_has ls 10 [(0, .ref (ad 0)), (1, .int x1), (2, .int x2), (3, .int x3), (4, .int x4), (5, .int x5)] → W p l e { frames := 6, cells := 0, slots := 0, locals := 145 } s m args below meth c H locs 0 0 (MQ below (cq_i rf_T D cy z0 ad u X z.1 z.2) args s 0 0 (fun q => z0 ≤ q)) (F0 m 41 ls [])) (hf : f_X12_lean_149 q41 x1 x2 x3 x4 x5 x6 x7 M = some z) {H : Heap} {locs : List Loc} (hw : wd_in rf_T D cy z0 ad u M X s H locs) {ls : Array Slot} (hl : lv_has ls 10 [(0, .ref (ad 0)), (1, .int x1), (2, .int x2), (3, .int x3), (4, .int x4), (5, .int x5), (6, .int x6), (7, .int x7)]) : W p l e { frames := 6, cells := 0, slots := 0, locals := 145 } s m args below meth c H locs 0 0 (MQ below (cq_i rf_T D cy z0 ad u X z.1 z.2) args s 0 0 (fun q => z0 ≤ q)) (F0 m 149 ls []) := by
  have hx := hC.1
  have hb := hC.2.1
  unfold f_X12_lean_149 at hf
  refine lv_iload hx hb dX12_lean_149 (lv_at hl 7 rfl) ?_
  refine lv_if_eq (tgt := 183) hx hb dX12_lean_151 (by decide) (fun c13 => ?_) (fun c13 => ?_)
  · rw [if_pos c13] at hf
    exact k_X12_lean_183 hC hq41 hf hw (lv_sub hl [0, 1, 2, 3, 4, 5] rfl)
  · rw [if_neg c13] at hf
    refine lv_iload_n hx hb dX12_lean_154 rfl (lv_at hl 3 rfl) ?_
    refine lv_if_ge (tgt := 163) hx hb dX12_lean_155 (by decide) (fun c14 => ?_) (fun c14 => ?_)
    · rw [if_pos c14] at hf
      refine lv_iload_n hx hb dX12_lean_163 rfl (lv_at hl 2 rfl) ?_
      refine lv_if_ne (tgt := 176) hx hb dX12_lean_164 (by decide) (fun c15 => ?_) (fun c15 => ?_)
      · rw [if_neg c15] at hf
        refine lv_iload_n hx hb dX12_lean_176 rfl (lv_at hl 3 rfl) ?_
        refine lv_iload hx hb dX12_lean_177 (lv_at hl 6 rfl) ?_
        refine mx_max hC (rest := []) wm_X12_127 hl.1 ⟨Nat.le_of_ble_eq_true rfl, Nat.le_of_ble_eq_true rfl⟩ ⟨Nat.zero_le _, Nat.zero_le _⟩ dX12_lean_179 ?_
        exact k_X12_lean_182 hC hq41 hf hw (lv_sub hl [0, 1, 2, 4, 5] rfl)
      · rw [if_pos c15] at hf
        refine lv_iload_n hx hb dX12_lean_167 rfl (lv_at hl 3 rfl) ?_
        refine lv_iload hx hb dX12_lean_168 (lv_at hl 6 rfl) ?_
        refine mx_min hC (rest := []) wm_X12_69 hl.1 ⟨Nat.le_of_ble_eq_true rfl, Nat.le_of_ble_eq_true rfl⟩ ⟨Nat.zero_le _, Nat.zero_le _⟩ dX12_lean_170 ?_
        refine lv_goto (tgt := 182) hx hb dX12_lean_173 (by decide) ?_
        exact k_X12_lean_182 hC hq41 hf hw (lv_sub hl [0, 1, 2, 4, 5] rfl)
    · rw [if_neg c14] at hf
      refine lv_iload hx hb dX12_lean_158 (lv_at hl 6 rfl) ?_
      refine lv_goto (tgt := 182) hx hb dX12_lean_160 (by decide) ?_
      exact k_X12_lean_182 hC hq41 hf hw (lv_sub hl [0, 1, 2, 4, 5] rfl)
set_option maxRecDepth 100000 in
set_option maxHeartbeats 4000000 in
theorem k_X12_lean_57 {p : Program} {l : Launch} {e : Env} {s : State} {m : MethodId} {args : Array Value} {below : List Frame} {meth : Method} {c : Code} {D : va_G} {cy : Nat → ClassId} {z0 : Nat} {ad : Nat → Nat} {X : va_W} {u : Nat × Nat} (hC : cx_C p s m args meth c cX12_lean "RhymedThenModel" (Cond.code yX12_lean cX12_lean 10 (some .int)) 10 (some .int)) {z : (Int32 × mm_M)} {x1 : Int32} {x2 : Int32} {x3 : Int32} {x4 : Int32} {x5 : Int32} {x6 : Int32} {x7 : Int32} {x8 : Int32} {M : mm_M} {q41 : Int32 → Int32 → Int32 → Int32 → Int32 → mm_M → Option (Int32 × mm_M)} (hq41 : ∀ (x1 : Int32) (x2 : Int32) (x3 : Int32) (x4 : Int32) (x5 : Int32) (M : mm_M) (H : Heap) (locs : List Loc) (ls : Array Slot), q41 x1 x2 x3 x4 x5 M = some z → wd_in rf_T D cy z0 ad u M X s H locs → lv_has ls 10 [(0, .ref (ad 0)), (1, .int x1), (2, .int x2), (3, .int x3), (4, .int x4), (5, .int x5)] → W p l e { frames := 6, cells := 0, slots := 0, locals := 145 } s m args below meth c H locs 0 0 (MQ below (cq_i rf_T D cy z0 ad u X z.1 z.2) args s 0 0 (fun q => z0 ≤ q)) (F0 m 41 ls [])) {q57 : Int32 → Int32 → Int32 → Int32 → Int32 → Int32 → Int32 → Int32 → mm_M → Option (Int32 × mm_M)} (hq57 : ∀ (x1 : Int32) (x2 : Int32) (x3 : Int32) (x4 : Int32) (x5 : Int32) (x6 : Int32) (x7 : Int32) (x8 : Int32) (M : mm_M) (H : Heap) (locs : List Loc) (ls : Array Slot), q57 x1 x2 x3 x4 x5 x6 x7 x8 M = some z → wd_in rf_T D cy z0 ad u M X s H locs → lv_has ls 10 [(0, .ref (ad 0)), (1, .int x1), (2, .int x2), (3, .int x3), (4, .int x4), (5, .int x5), (6, .int x6), (7, .int x7), (8, .int x8)] → W p l e { frames := 6, cells := 0, slots := 0, locals := 145 } s m args below meth c H locs 0 0 (MQ below (cq_i rf_T D cy z0 ad u X z.1 z.2) args s 0 0 (fun q => z0 ≤ q)) (F0 m 57 ls [])) (hf : f_X12_lean_57 q41 q57 x1 x2 x3 x4 x5 x6 x7 x8 M = some z) {H : Heap} {locs : List Loc} (hw : wd_in rf_T D cy z0 ad u M X s H locs) {ls : Array Slot} (hl : lv_has ls 10 [(0, .ref (ad 0)), (1, .int x1), (2, .int x2), (3, .int x3), (4, .int x4), (5, .int x5), (6, .int x6), (7, .int x7), (8, .int x8)]) : W p l e { frames := 6, cells := 0, slots := 0, locals := 145 } s m args below meth c H locs 0 0 (MQ below (cq_i rf_T D cy z0 ad u X z.1 z.2) args s 0 0 (fun q => z0 ≤ q)) (F0 m 57 ls []) := by
  have hx := hC.1
  have hb := hC.2.1
  unfold f_X12_lean_57 at hf
  refine lv_iload hx hb dX12_lean_57 (lv_at hl 8 rfl) ?_
  refine lv_aload_n hx hb dX12_lean_59 rfl (lv_at hl 0 rfl) ?_
  refine rg_i hC hw 0 (Nat.le_of_ble_eq_true rfl) rfl fd_X12_28 wf_X12_258 dX12_lean_60 ?_
  refine lv_icmp_ge (tgt := 149) hx hb dX12_lean_63 (by decide) (fun c8 => ?_) (fun c8 => ?_)
  · rw [if_pos c8] at hf
    exact k_X12_lean_149 hC hq41 hf hw (lv_sub hl [0, 1, 2, 3, 4, 5, 6, 7] rfl)
  · rw [if_neg c8] at hf
    refine lv_aload_n hx hb dX12_lean_66 rfl (lv_at hl 0 rfl) ?_
    refine rg_p hC hw 0 (Nat.le_of_ble_eq_true rfl) rfl fd_X12_29 wf_X12_226 (q := 18) rfl dX12_lean_67 ?_
    refine lv_iload hx hb dX12_lean_70 (lv_at hl 8 rfl) ?_
    obtain ⟨h9, hf⟩ := ck_e hf
    refine ra_i hC hw 18 (Nat.le_of_ble_eq_true rfl) rfl h9 dX12_lean_72 ?_
    refine lv_if_ne (tgt := 91) hx hb dX12_lean_73 (by decide) (fun c10 => ?_) (fun c10 => ?_)
    · rw [if_neg c10] at hf
      exact k_X12_lean_91 hC hq57 hf hw (lv_sub hl [0, 1, 2, 3, 4, 5, 6, 7, 8] rfl)
    · rw [if_pos c10] at hf
      refine lv_aload_n hx hb dX12_lean_76 rfl (lv_at hl 0 rfl) ?_
      refine rg_p hC hw 0 (Nat.le_of_ble_eq_true rfl) rfl fd_X12_35 wf_X12_244 (q := 24) rfl dX12_lean_77 ?_
      refine lv_iload hx hb dX12_lean_80 (lv_at hl 8 rfl) ?_
      obtain ⟨h11, hf⟩ := ck_e hf
      refine ra_i hC hw 24 (Nat.le_of_ble_eq_true rfl) rfl h11 dX12_lean_82 ?_
      refine lv_iload_n hx hb dX12_lean_83 rfl (lv_at hl 1 rfl) ?_
      refine lv_icmp_ne (tgt := 91) hx hb dX12_lean_84 (by decide) (fun c12 => ?_) (fun c12 => ?_)
      · rw [if_neg c12] at hf
        exact k_X12_lean_91 hC hq57 hf hw (lv_sub hl [0, 1, 2, 3, 4, 5, 6, 7, 8] rfl)
      · rw [if_pos c12] at hf
        refine lv_iconst (v := 1) hx hb dX12_lean_87 (by decide) ?_
        refine lv_goto (tgt := 92) hx hb dX12_lean_88 (by decide) ?_
        exact k_X12_lean_92 hC hq57 hf hw (lv_sub hl [0, 1, 2, 3, 4, 5, 6, 7, 8] rfl)
set_option maxRecDepth 100000 in
set_option maxHeartbeats 4000000 in
theorem k_X12_lean_57l {p : Program} {l : Launch} {e : Env} {s : State} {m : MethodId} {args : Array Value} {below : List Frame} {meth : Method} {c : Code} {D : va_G} {cy : Nat → ClassId} {z0 : Nat} {ad : Nat → Nat} {X : va_W} {u : Nat × Nat} (hC : cx_C p s m args meth c cX12_lean "RhymedThenModel" (Cond.code yX12_lean cX12_lean 10 (some .int)) 10 (some .int)) {z : (Int32 × mm_M)} {q41 : Int32 → Int32 → Int32 → Int32 → Int32 → mm_M → Option (Int32 × mm_M)} (hq41 : ∀ (x1 : Int32) (x2 : Int32) (x3 : Int32) (x4 : Int32) (x5 : Int32) (M : mm_M) (H : Heap) (locs : List Loc) (ls : Array Slot), q41 x1 x2 x3 x4 x5 M = some z → wd_in rf_T D cy z0 ad u M X s H locs → lv_has ls 10 [(0, .ref (ad 0)), (1, .int x1), (2, .int x2), (3, .int x3), (4, .int x4), (5, .int x5)] → W p l e { frames := 6, cells := 0, slots := 0, locals := 145 } s m args below meth c H locs 0 0 (MQ below (cq_i rf_T D cy z0 ad u X z.1 z.2) args s 0 0 (fun q => z0 ≤ q)) (F0 m 41 ls [])) : ∀ (n : Nat) (x1 : Int32) (x2 : Int32) (x3 : Int32) (x4 : Int32) (x5 : Int32) (x6 : Int32) (x7 : Int32) (x8 : Int32) (M : mm_M) (H : Heap) (locs : List Loc) (ls : Array Slot), f_X12_lean_57l q41 n x1 x2 x3 x4 x5 x6 x7 x8 M = some z → wd_in rf_T D cy z0 ad u M X s H locs → lv_has ls 10 [(0, .ref (ad 0)), (1, .int x1), (2, .int x2), (3, .int x3), (4, .int x4), (5, .int x5), (6, .int x6), (7, .int x7), (8, .int x8)] → W p l e { frames := 6, cells := 0, slots := 0, locals := 145 } s m args below meth c H locs 0 0 (MQ below (cq_i rf_T D cy z0 ad u X z.1 z.2) args s 0 0 (fun q => z0 ≤ q)) (F0 m 57 ls []) := by
  intro n
  induction n with
  | zero => intro x1 x2 x3 x4 x5 x6 x7 x8 M H locs ls hf; exact absurd hf (by simp [f_X12_lean_57l])
  | succ n ih => intro x1 x2 x3 x4 x5 x6 x7 x8 M H locs ls hf hw hl; exact k_X12_lean_57 hC hq41 ih hf hw hl
set_option maxRecDepth 100000 in
set_option maxHeartbeats 4000000 in
theorem k_X12_lean_41 {p : Program} {l : Launch} {e : Env} {s : State} {m : MethodId} {args : Array Value} {below : List Frame} {meth : Method} {c : Code} {D : va_G} {cy : Nat → ClassId} {z0 : Nat} {ad : Nat → Nat} {X : va_W} {u : Nat × Nat} (hC : cx_C p s m args meth c cX12_lean "RhymedThenModel" (Cond.code yX12_lean cX12_lean 10 (some .int)) 10 (some .int)) {z : (Int32 × mm_M)} {x1 : Int32} {x2 : Int32} {x3 : Int32} {x4 : Int32} {x5 : Int32} {M : mm_M} {q41 : Int32 → Int32 → Int32 → Int32 → Int32 → mm_M → Option (Int32 × mm_M)} (hq41 : ∀ (x1 : Int32) (x2 : Int32) (x3 : Int32) (x4 : Int32) (x5 : Int32) (M : mm_M) (H : Heap) (locs : List Loc) (ls : Array Slot), q41 x1 x2 x3 x4 x5 M = some z → wd_in rf_T D cy z0 ad u M X s H locs → lv_has ls 10 [(0, .ref (ad 0)), (1, .int x1), (2, .int x2), (3, .int x3), (4, .int x4), (5, .int x5)] → W p l e { frames := 6, cells := 0, slots := 0, locals := 145 } s m args below meth c H locs 0 0 (MQ below (cq_i rf_T D cy z0 ad u X z.1 z.2) args s 0 0 (fun q => z0 ≤ q)) (F0 m 41 ls [])) (hf : f_X12_lean_41 q41 x1 x2 x3 x4 x5 M = some z) {H : Heap} {locs : List Loc} (hw : wd_in rf_T D cy z0 ad u M X s H locs) {ls : Array Slot} (hl : lv_has ls 10 [(0, .ref (ad 0)), (1, .int x1), (2, .int x2), (3, .int x3), (4, .int x4), (5, .int x5)]) : W p l e { frames := 6, cells := 0, slots := 0, locals := 145 } s m args below meth c H locs 0 0 (MQ below (cq_i rf_T D cy z0 ad u X z.1 z.2) args s 0 0 (fun q => z0 ≤ q)) (F0 m 41 ls []) := by
  have hx := hC.1
  have hb := hC.2.1
  unfold f_X12_lean_41 at hf
  refine lv_iload hx hb dX12_lean_41 (lv_at hl 5 rfl) ?_
  refine lv_iload hx hb dX12_lean_43 (lv_at hl 4 rfl) ?_
  refine lv_icmp_ge (tgt := 189) hx hb dX12_lean_45 (by decide) (fun c7 => ?_) (fun c7 => ?_)
  · rw [if_pos c7] at hf
    refine lv_iload_n hx hb dX12_lean_189 rfl (lv_at hl 3 rfl) ?_
    have hz := Option.some.inj hf
    subst hz
    exact rtc_i hC hw dX12_lean_190
  · rw [if_neg c7] at hf
    refine lv_iconst (v := 0) hx hb dX12_lean_48 (by decide) ?_
    refine lv_istore (lv' := [(6, .int 0), (0, .ref (ad 0)), (1, .int x1), (2, .int x2), (3, .int x3), (4, .int x4), (5, .int x5)]) hx hb dX12_lean_49 hl (by decide) rfl (fun ls hl => ?_)
    refine lv_iconst (v := 1) hx hb dX12_lean_51 (by decide) ?_
    refine lv_istore (lv' := [(7, .int 1), (6, .int 0), (0, .ref (ad 0)), (1, .int x1), (2, .int x2), (3, .int x3), (4, .int x4), (5, .int x5)]) hx hb dX12_lean_52 hl (by decide) rfl (fun ls hl => ?_)
    refine lv_iconst (v := 0) hx hb dX12_lean_54 (by decide) ?_
    refine lv_istore (lv' := [(8, .int 0), (7, .int 1), (6, .int 0), (0, .ref (ad 0)), (1, .int x1), (2, .int x2), (3, .int x3), (4, .int x4), (5, .int x5)]) hx hb dX12_lean_55 hl (by decide) rfl (fun ls hl => ?_)
    exact k_X12_lean_57l hC hq41 fu_ _ _ _ _ _ _ _ _ _ _ _ _ hf hw (lv_sub hl [3, 4, 5, 6, 7, 8, 2, 1, 0] rfl)
set_option maxRecDepth 100000 in
set_option maxHeartbeats 4000000 in
theorem k_X12_lean_41l {p : Program} {l : Launch} {e : Env} {s : State} {m : MethodId} {args : Array Value} {below : List Frame} {meth : Method} {c : Code} {D : va_G} {cy : Nat → ClassId} {z0 : Nat} {ad : Nat → Nat} {X : va_W} {u : Nat × Nat} (hC : cx_C p s m args meth c cX12_lean "RhymedThenModel" (Cond.code yX12_lean cX12_lean 10 (some .int)) 10 (some .int)) {z : (Int32 × mm_M)} : ∀ (n : Nat) (x1 : Int32) (x2 : Int32) (x3 : Int32) (x4 : Int32) (x5 : Int32) (M : mm_M) (H : Heap) (locs : List Loc) (ls : Array Slot), f_X12_lean_41l n x1 x2 x3 x4 x5 M = some z → wd_in rf_T D cy z0 ad u M X s H locs → lv_has ls 10 [(0, .ref (ad 0)), (1, .int x1), (2, .int x2), (3, .int x3), (4, .int x4), (5, .int x5)] → W p l e { frames := 6, cells := 0, slots := 0, locals := 145 } s m args below meth c H locs 0 0 (MQ below (cq_i rf_T D cy z0 ad u X z.1 z.2) args s 0 0 (fun q => z0 ≤ q)) (F0 m 41 ls []) := by
  intro n
  induction n with
  | zero => intro x1 x2 x3 x4 x5 M H locs ls hf; exact absurd hf (by simp [f_X12_lean_41l])
  | succ n ih => intro x1 x2 x3 x4 x5 M H locs ls hf hw hl; exact k_X12_lean_41 hC ih hf hw hl
set_option maxRecDepth 100000 in
set_option maxHeartbeats 4000000 in
theorem k_X12_lean {p : Program} {l : Launch} {e : Env} {s : State} {m : MethodId} {args : Array Value} {below : List Frame} {meth : Method} {c : Code} {D : va_G} {cy : Nat → ClassId} {z0 : Nat} {ad : Nat → Nat} {X : va_W} {u : Nat × Nat} (hC : cx_C p s m args meth c cX12_lean "RhymedThenModel" (Cond.code yX12_lean cX12_lean 10 (some .int)) 10 (some .int)) {z : (Int32 × mm_M)} {x1 : Int32} {x2 : Int32} {M : mm_M} (hf : f_X12_lean x1 x2 M = some z) {H : Heap} {locs : List Loc} (hw : wd_in rf_T D cy z0 ad u M X s H locs) {ls : Array Slot} (hl : lv_has ls 10 [(0, .ref (ad 0)), (1, .int x1), (2, .int x2)]) : W p l e { frames := 6, cells := 0, slots := 0, locals := 145 } s m args below meth c H locs 0 0 (MQ below (cq_i rf_T D cy z0 ad u X z.1 z.2) args s 0 0 (fun q => z0 ≤ q)) (F0 m 0 ls []) := by
  have hx := hC.1
  have hb := hC.2.1
  unfold f_X12_lean at hf
  refine lv_aload_n hx hb dX12_lean_0 rfl (lv_at hl 0 rfl) ?_
  refine lv_iconst (v := 0) hx hb dX12_lean_1 (by decide) ?_
  obtain ⟨M1, eM1, hf⟩ := sq_e hf
  refine rp_i hC hw 0 (Nat.le_of_ble_eq_true rfl) rfl fd_X12_0 wf_X12_1 fp_X12_0 rfl rfl dX12_lean_2 eM1 (fun H locs hw => ?_)
  refine lv_iload_n hx hb dX12_lean_5 rfl (lv_at hl 1 rfl) ?_
  refine lv_i2l hx hb dX12_lean_6 rfl ?_
  refine lv_lconst (v := 0) hx hb dX12_lean_7 (by decide) ?_
  refine lv_ldc2 (v := 5) hx hb hC.2.2.2.1 (hC.t wk_X12_62) dX12_lean_8 ?_
  obtain ⟨z2, ez2, hf⟩ := sq_e hf
  refine clc_Si hC hw (c_X12_in ez2.symm) hd_X12_in cw_X12_29 (rest := []) hl.1 rfl (Nat.le_of_ble_eq_true rfl) ⟨Nat.le_of_ble_eq_true rfl, Nat.le_of_ble_eq_true rfl⟩ ⟨Nat.zero_le _, Nat.zero_le _⟩ rfl dX12_lean_11 (fun H locs hw => ?_)
  refine lv_if_eq (tgt := 27) hx hb dX12_lean_14 (by decide) (fun c3 => ?_) (fun c3 => ?_)
  · rw [if_pos c3] at hf
    refine lv_iconst (v := (-1)) hx hb dX12_lean_27 (by decide) ?_
    have hz := Option.some.inj hf
    subst hz
    exact rtc_i hC hw dX12_lean_28
  · rw [if_neg c3] at hf
    refine lv_iload_n hx hb dX12_lean_17 rfl (lv_at hl 2 rfl) ?_
    refine lv_i2l hx hb dX12_lean_18 rfl ?_
    refine lv_lconst (v := 0) hx hb dX12_lean_19 (by decide) ?_
    refine lv_lconst (v := 1) hx hb dX12_lean_20 (by decide) ?_
    obtain ⟨z4, ez4, hf⟩ := sq_e hf
    refine clc_Si hC hw (c_X12_in ez4.symm) hd_X12_in cw_X12_29 (rest := []) hl.1 rfl (Nat.le_of_ble_eq_true rfl) ⟨Nat.le_of_ble_eq_true rfl, Nat.le_of_ble_eq_true rfl⟩ ⟨Nat.zero_le _, Nat.zero_le _⟩ rfl dX12_lean_21 (fun H locs hw => ?_)
    refine lv_if_ne (tgt := 29) hx hb dX12_lean_24 (by decide) (fun c5 => ?_) (fun c5 => ?_)
    · rw [if_neg c5] at hf
      refine lv_bipush (v := (-2)) hx hb dX12_lean_29 (by decide) ?_
      refine lv_istore_n (lv' := [(3, .int (-2)), (0, .ref (ad 0)), (1, .int x1), (2, .int x2)]) hx hb dX12_lean_31 rfl hl (by decide) rfl (fun ls hl => ?_)
      refine lv_aload_n hx hb dX12_lean_32 rfl (lv_at hl 1 rfl) ?_
      obtain ⟨z6, ez6, hf⟩ := bd_e hf
      refine clc_Vi hC hw (c_X12_histories ez6) hd_X12_histories cw_X12_107 (Nat.le_of_ble_eq_true rfl) rfl rfl (rest := []) hl.1 rfl (Nat.le_of_ble_eq_true rfl) ⟨Nat.le_of_ble_eq_true rfl, Nat.le_of_ble_eq_true rfl⟩ ⟨Nat.zero_le _, Nat.zero_le _⟩ rfl dX12_lean_33 (fun H locs hw => ?_)
      refine lv_istore (lv' := [(4, .int z6), (3, .int (-2)), (0, .ref (ad 0)), (1, .int x1), (2, .int x2)]) hx hb dX12_lean_36 hl (by decide) rfl (fun ls hl => ?_)
      refine lv_iconst (v := 0) hx hb dX12_lean_38 (by decide) ?_
      refine lv_istore (lv' := [(5, .int 0), (4, .int z6), (3, .int (-2)), (0, .ref (ad 0)), (1, .int x1), (2, .int x2)]) hx hb dX12_lean_39 hl (by decide) rfl (fun ls hl => ?_)
      exact k_X12_lean_41l hC fu_ _ _ _ _ _ _ _ _ _ hf hw (lv_sub hl [3, 4, 5, 2, 1, 0] rfl)
    · rw [if_pos c5] at hf
      refine lv_iconst (v := (-1)) hx hb dX12_lean_27 (by decide) ?_
      have hz := Option.some.inj hf
      subst hz
      exact rtc_i hC hw dX12_lean_28
set_option maxRecDepth 100000 in
theorem c_X12_lean {l : Launch} {D : va_G} {cy : Nat → ClassId} {z0 : Nat} {ad : Nat → Nat} {u : Nat × Nat} {X : va_W} {z : (Int32 × mm_M)} {x1 : Int32} {x2 : Int32} {M : mm_M} (hf : f_X12_lean x1 x2 M = some z) : ct_i rf_T l yX12_lean (Cond.code yX12_lean cX12_lean 10 (some .int)) 6 145 D cy z0 ad u M X [.ref (ad 0), .int x1, .int x2] z.1 z.2 := by
  refine bgc_i (by decide) (fun p e s m below meth c hC hw => ?_)
  refine en_t (Nat.le_of_ble_eq_true rfl) (fun ls hl => ?_)
  have hl : lv_has ls 10 [(0, .ref (ad 0)), (1, .int x1), (2, .int x2)] := hl
  exact k_X12_lean hC hf hw hl
