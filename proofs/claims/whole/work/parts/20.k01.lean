set_option maxRecDepth 100000 in
set_option maxHeartbeats 4000000 in
theorem k_X3_addLaw_67 {p : Program} {l : Launch} {e : Env} {s : State} {m : MethodId} {args : Array Value} {below : List Frame} {meth : Method} {c : Code} {D : va_G} {cy : Nat → ClassId} {z0 : Nat} {ad : Nat → Nat} {X : va_W} {u : Nat × Nat} (hC : cx_C p s m args meth c cX3_addLaw "RhymedThen$Past" (Cond.code yX3_addLaw cX3_addLaw 9 none) 9 none) {z : mm_M} {x1 : Int32} {x2 : Int32} {x3 : Int32} {x4 : Int32} {M : mm_M} {q8 : Int32 → Int32 → Int32 → Int32 → mm_M → Option mm_M} (hq8 : ∀ (x1 : Int32) (x2 : Int32) (x3 : Int32) (x4 : Int32) (M : mm_M) (H : Heap) (locs : List Loc) (ls : Array Slot), q8 x1 x2 x3 x4 M = some z → wd_in cx_T D cy z0 ad u M X s H locs → lv_has ls 9 [(0, .ref (ad 14)), (1, .int x1), (2, .int x2), (3, .int x3), (4, .int x4)] → W p l e { frames := 2, cells := 0, slots := 0, locals := 50 } s m args below meth c H locs 0 0 (MQ below (cq_v cx_T D cy z0 ad u X z) args s 0 0 (fun q => z0 ≤ q)) (F0 m 8 ls [])) (hf : f_X3_addLaw_67 q8 x1 x2 x3 x4 M = some z) {H : Heap} {locs : List Loc} (hw : wd_in cx_T D cy z0 ad u M X s H locs) {ls : Array Slot} (hl : lv_has ls 9 [(0, .ref (ad 14)), (1, .int x1), (2, .int x2), (3, .int x3), (4, .int x4)]) : W p l e { frames := 2, cells := 0, slots := 0, locals := 50 } s m args below meth c H locs 0 0 (MQ below (cq_v cx_T D cy z0 ad u X z) args s 0 0 (fun q => z0 ≤ q)) (F0 m 67 ls []) := by
  have hx := hC.1
  have hb := hC.2.1
  unfold f_X3_addLaw_67 at hf
  obtain ⟨y14, ey14, hf⟩ := sq_e hf
  refine lv_iinc (v := y14) (lv' := [(4, .int y14), (0, .ref (ad 14)), (1, .int x1), (2, .int x2), (3, .int x3)]) hx hb dX3_addLaw_67 hl (k := 4) rfl (by rw [ey14]; rfl) (by decide) rfl (fun ls hl => ?_)
  refine lv_goto (tgt := 8) hx hb dX3_addLaw_70 (by decide) ?_
  exact hq8 _ _ _ _ _ _ _ _ hf hw (lv_sub hl [1, 2, 3, 4, 0] rfl)
set_option maxRecDepth 100000 in
set_option maxHeartbeats 4000000 in
theorem k_X3_addLaw_34 {p : Program} {l : Launch} {e : Env} {s : State} {m : MethodId} {args : Array Value} {below : List Frame} {meth : Method} {c : Code} {D : va_G} {cy : Nat → ClassId} {z0 : Nat} {ad : Nat → Nat} {X : va_W} {u : Nat × Nat} (hC : cx_C p s m args meth c cX3_addLaw "RhymedThen$Past" (Cond.code yX3_addLaw cX3_addLaw 9 none) 9 none) {z : mm_M} {x1 : Int32} {x2 : Int32} {x3 : Int32} {x4 : Int32} {x5 : Int32} {x6 : Int64} {x8 : Int32} {M : mm_M} {q8 : Int32 → Int32 → Int32 → Int32 → mm_M → Option mm_M} (hq8 : ∀ (x1 : Int32) (x2 : Int32) (x3 : Int32) (x4 : Int32) (M : mm_M) (H : Heap) (locs : List Loc) (ls : Array Slot), q8 x1 x2 x3 x4 M = some z → wd_in cx_T D cy z0 ad u M X s H locs → lv_has ls 9 [(0, .ref (ad 14)), (1, .int x1), (2, .int x2), (3, .int x3), (4, .int x4)] → W p l e { frames := 2, cells := 0, slots := 0, locals := 50 } s m args below meth c H locs 0 0 (MQ below (cq_v cx_T D cy z0 ad u X z) args s 0 0 (fun q => z0 ≤ q)) (F0 m 8 ls [])) {q34 : Int32 → Int32 → Int32 → Int32 → Int32 → Int64 → Int32 → mm_M → Option mm_M} (hq34 : ∀ (x1 : Int32) (x2 : Int32) (x3 : Int32) (x4 : Int32) (x5 : Int32) (x6 : Int64) (x8 : Int32) (M : mm_M) (H : Heap) (locs : List Loc) (ls : Array Slot), q34 x1 x2 x3 x4 x5 x6 x8 M = some z → wd_in cx_T D cy z0 ad u M X s H locs → lv_has ls 9 [(0, .ref (ad 14)), (1, .int x1), (2, .int x2), (3, .int x3), (4, .int x4), (5, .int x5), (6, .long x6), (8, .int x8)] → W p l e { frames := 2, cells := 0, slots := 0, locals := 50 } s m args below meth c H locs 0 0 (MQ below (cq_v cx_T D cy z0 ad u X z) args s 0 0 (fun q => z0 ≤ q)) (F0 m 34 ls [])) (hf : f_X3_addLaw_34 q8 q34 x1 x2 x3 x4 x5 x6 x8 M = some z) {H : Heap} {locs : List Loc} (hw : wd_in cx_T D cy z0 ad u M X s H locs) {ls : Array Slot} (hl : lv_has ls 9 [(0, .ref (ad 14)), (1, .int x1), (2, .int x2), (3, .int x3), (4, .int x4), (5, .int x5), (6, .long x6), (8, .int x8)]) : W p l e { frames := 2, cells := 0, slots := 0, locals := 50 } s m args below meth c H locs 0 0 (MQ below (cq_v cx_T D cy z0 ad u X z) args s 0 0 (fun q => z0 ≤ q)) (F0 m 34 ls []) := by
  have hx := hC.1
  have hb := hC.2.1
  unfold f_X3_addLaw_34 at hf
  refine lv_iload hx hb dX3_addLaw_34 (lv_at hl 7 rfl) ?_
  refine lv_iload_n hx hb dX3_addLaw_36 rfl (lv_at hl 3 rfl) ?_
  refine lv_icmp_ge (tgt := 67) hx hb dX3_addLaw_37 (by decide) (fun c11 => ?_) (fun c11 => ?_)
  · rw [if_pos c11] at hf
    exact k_X3_addLaw_67 hC hq8 hf hw (lv_sub hl [0, 1, 2, 3, 4] rfl)
  · rw [if_neg c11] at hf
    refine lv_aload_n hx hb dX3_addLaw_40 rfl (lv_at hl 0 rfl) ?_
    refine lv_iload hx hb dX3_addLaw_41 (lv_at hl 4 rfl) ?_
    refine lv_iload_n hx hb dX3_addLaw_43 rfl (lv_at hl 3 rfl) ?_
    refine lv_imul hx hb dX3_addLaw_44 ?_
    refine lv_iload hx hb dX3_addLaw_45 (lv_at hl 7 rfl) ?_
    refine lv_iadd hx hb dX3_addLaw_47 ?_
    refine lv_iload hx hb dX3_addLaw_48 (lv_at hl 5 rfl) ?_
    refine lv_lload hx hb dX3_addLaw_50 (lv_at hl 6 rfl) ?_
    refine lv_iload_n hx hb dX3_addLaw_52 rfl (lv_at hl 1 rfl) ?_
    refine lv_iload hx hb dX3_addLaw_53 (lv_at hl 7 rfl) ?_
    refine lv_iload_n hx hb dX3_addLaw_55 rfl (lv_at hl 2 rfl) ?_
    refine lv_imul hx hb dX3_addLaw_56 ?_
    refine lv_iadd hx hb dX3_addLaw_57 ?_
    obtain ⟨z12, ez12, hf⟩ := bd_e hf
    refine clc_Vv hC hw (c_X3_insert ez12) hd_X3_insert cw_X3_36 (Nat.le_of_ble_eq_true rfl) rfl rfl (rest := []) hl.1 rfl (Nat.le_of_ble_eq_true rfl) ⟨Nat.le_of_ble_eq_true rfl, Nat.le_of_ble_eq_true rfl⟩ ⟨Nat.zero_le _, Nat.zero_le _⟩ rfl dX3_addLaw_58 (fun H locs hw => ?_)
    obtain ⟨y13, ey13, hf⟩ := sq_e hf
    refine lv_iinc (v := y13) (lv' := [(8, .int y13), (0, .ref (ad 14)), (1, .int x1), (2, .int x2), (3, .int x3), (4, .int x4), (5, .int x5), (6, .long x6)]) hx hb dX3_addLaw_61 hl (k := 7) rfl (by rw [ey13]; rfl) (by decide) rfl (fun ls hl => ?_)
    refine lv_goto (tgt := 34) hx hb dX3_addLaw_64 (by decide) ?_
    exact hq34 _ _ _ _ _ _ _ _ _ _ _ hf hw (lv_sub hl [1, 2, 3, 4, 5, 6, 7, 0] rfl)
set_option maxRecDepth 100000 in
set_option maxHeartbeats 4000000 in
theorem k_X3_addLaw_34l {p : Program} {l : Launch} {e : Env} {s : State} {m : MethodId} {args : Array Value} {below : List Frame} {meth : Method} {c : Code} {D : va_G} {cy : Nat → ClassId} {z0 : Nat} {ad : Nat → Nat} {X : va_W} {u : Nat × Nat} (hC : cx_C p s m args meth c cX3_addLaw "RhymedThen$Past" (Cond.code yX3_addLaw cX3_addLaw 9 none) 9 none) {z : mm_M} {q8 : Int32 → Int32 → Int32 → Int32 → mm_M → Option mm_M} (hq8 : ∀ (x1 : Int32) (x2 : Int32) (x3 : Int32) (x4 : Int32) (M : mm_M) (H : Heap) (locs : List Loc) (ls : Array Slot), q8 x1 x2 x3 x4 M = some z → wd_in cx_T D cy z0 ad u M X s H locs → lv_has ls 9 [(0, .ref (ad 14)), (1, .int x1), (2, .int x2), (3, .int x3), (4, .int x4)] → W p l e { frames := 2, cells := 0, slots := 0, locals := 50 } s m args below meth c H locs 0 0 (MQ below (cq_v cx_T D cy z0 ad u X z) args s 0 0 (fun q => z0 ≤ q)) (F0 m 8 ls [])) : ∀ (n : Nat) (x1 : Int32) (x2 : Int32) (x3 : Int32) (x4 : Int32) (x5 : Int32) (x6 : Int64) (x8 : Int32) (M : mm_M) (H : Heap) (locs : List Loc) (ls : Array Slot), f_X3_addLaw_34l q8 n x1 x2 x3 x4 x5 x6 x8 M = some z → wd_in cx_T D cy z0 ad u M X s H locs → lv_has ls 9 [(0, .ref (ad 14)), (1, .int x1), (2, .int x2), (3, .int x3), (4, .int x4), (5, .int x5), (6, .long x6), (8, .int x8)] → W p l e { frames := 2, cells := 0, slots := 0, locals := 50 } s m args below meth c H locs 0 0 (MQ below (cq_v cx_T D cy z0 ad u X z) args s 0 0 (fun q => z0 ≤ q)) (F0 m 34 ls []) := by
  intro n
  induction n with
  | zero => intro x1 x2 x3 x4 x5 x6 x8 M H locs ls hf; exact absurd hf (by simp [f_X3_addLaw_34l])
  | succ n ih => intro x1 x2 x3 x4 x5 x6 x8 M H locs ls hf hw hl; exact k_X3_addLaw_34 hC hq8 ih hf hw hl
set_option maxRecDepth 100000 in
set_option maxHeartbeats 4000000 in
theorem k_X3_addLaw_73 {p : Program} {l : Launch} {e : Env} {s : State} {m : MethodId} {args : Array Value} {below : List Frame} {meth : Method} {c : Code} {D : va_G} {cy : Nat → ClassId} {z0 : Nat} {ad : Nat → Nat} {X : va_W} {u : Nat × Nat} (hC : cx_C p s m args meth c cX3_addLaw "RhymedThen$Past" (Cond.code yX3_addLaw cX3_addLaw 9 none) 9 none) {z : mm_M} {x1 : Int32} {x3 : Int32} {M : mm_M} (hf : f_X3_addLaw_73 x1 x3 M = some z) {H : Heap} {locs : List Loc} (hw : wd_in cx_T D cy z0 ad u M X s H locs) {ls : Array Slot} (hl : lv_has ls 9 [(0, .ref (ad 14)), (1, .int x1), (3, .int x3)]) : W p l e { frames := 2, cells := 0, slots := 0, locals := 50 } s m args below meth c H locs 0 0 (MQ below (cq_v cx_T D cy z0 ad u X z) args s 0 0 (fun q => z0 ≤ q)) (F0 m 73 ls []) := by
  have hx := hC.1
  have hb := hC.2.1
  unfold f_X3_addLaw_73 at hf
  refine lv_aload_n hx hb dX3_addLaw_73 rfl (lv_at hl 0 rfl) ?_
  refine rg_p hC hw 14 (Nat.le_of_ble_eq_true rfl) rfl fd_X3_6 wf_X3_29 (q := 18) rfl dX3_addLaw_74 ?_
  refine lv_aload_n hx hb dX3_addLaw_77 rfl (lv_at hl 0 rfl) ?_
  refine rg_i hC hw 14 (Nat.le_of_ble_eq_true rfl) rfl fd_X3_3 wf_X3_19 dX3_addLaw_78 ?_
  refine lv_iload_n hx hb dX3_addLaw_81 rfl (lv_at hl 1 rfl) ?_
  obtain ⟨h7, hf⟩ := ck_e hf
  obtain ⟨M8, eM8, hf⟩ := sq_e hf
  refine rs_i hC hw 18 (Nat.le_of_ble_eq_true rfl) rfl h7 dX3_addLaw_82 eM8 (fun H locs hw => ?_)
  refine lv_aload_n hx hb dX3_addLaw_83 rfl (lv_at hl 0 rfl) ?_
  refine lv_dup hx hb dX3_addLaw_84 rfl ?_
  refine rg_i hC hw 14 (Nat.le_of_ble_eq_true rfl) rfl fd_X3_3 wf_X3_19 dX3_addLaw_85 ?_
  refine lv_iconst (v := 1) hx hb dX3_addLaw_88 (by decide) ?_
  refine lv_iadd hx hb dX3_addLaw_89 ?_
  obtain ⟨M9, eM9, hf⟩ := sq_e hf
  refine rp_i hC hw 14 (Nat.le_of_ble_eq_true rfl) rfl fd_X3_3 wf_X3_19 fp_X3_3 rfl rfl dX3_addLaw_90 eM9 (fun H locs hw => ?_)
  refine lv_aload_n hx hb dX3_addLaw_93 rfl (lv_at hl 0 rfl) ?_
  refine lv_dup hx hb dX3_addLaw_94 rfl ?_
  refine rg_i hC hw 14 (Nat.le_of_ble_eq_true rfl) rfl fd_X3_2 wf_X3_15 dX3_addLaw_95 ?_
  refine lv_iload_n hx hb dX3_addLaw_98 rfl (lv_at hl 2 rfl) ?_
  refine lv_imul hx hb dX3_addLaw_99 ?_
  obtain ⟨M10, eM10, hf⟩ := sq_e hf
  refine rp_i hC hw 14 (Nat.le_of_ble_eq_true rfl) rfl fd_X3_2 wf_X3_15 fp_X3_2 rfl rfl dX3_addLaw_100 eM10 (fun H locs hw => ?_)
  have hz := Option.some.inj hf
  subst hz
  exact rtc_v hC hw dX3_addLaw_103
set_option maxRecDepth 100000 in
set_option maxHeartbeats 4000000 in
theorem k_X3_addLaw_8 {p : Program} {l : Launch} {e : Env} {s : State} {m : MethodId} {args : Array Value} {below : List Frame} {meth : Method} {c : Code} {D : va_G} {cy : Nat → ClassId} {z0 : Nat} {ad : Nat → Nat} {X : va_W} {u : Nat × Nat} (hC : cx_C p s m args meth c cX3_addLaw "RhymedThen$Past" (Cond.code yX3_addLaw cX3_addLaw 9 none) 9 none) {z : mm_M} {x1 : Int32} {x2 : Int32} {x3 : Int32} {x4 : Int32} {M : mm_M} {q8 : Int32 → Int32 → Int32 → Int32 → mm_M → Option mm_M} (hq8 : ∀ (x1 : Int32) (x2 : Int32) (x3 : Int32) (x4 : Int32) (M : mm_M) (H : Heap) (locs : List Loc) (ls : Array Slot), q8 x1 x2 x3 x4 M = some z → wd_in cx_T D cy z0 ad u M X s H locs → lv_has ls 9 [(0, .ref (ad 14)), (1, .int x1), (2, .int x2), (3, .int x3), (4, .int x4)] → W p l e { frames := 2, cells := 0, slots := 0, locals := 50 } s m args below meth c H locs 0 0 (MQ below (cq_v cx_T D cy z0 ad u X z) args s 0 0 (fun q => z0 ≤ q)) (F0 m 8 ls [])) (hf : f_X3_addLaw_8 q8 x1 x2 x3 x4 M = some z) {H : Heap} {locs : List Loc} (hw : wd_in cx_T D cy z0 ad u M X s H locs) {ls : Array Slot} (hl : lv_has ls 9 [(0, .ref (ad 14)), (1, .int x1), (2, .int x2), (3, .int x3), (4, .int x4)]) : W p l e { frames := 2, cells := 0, slots := 0, locals := 50 } s m args below meth c H locs 0 0 (MQ below (cq_v cx_T D cy z0 ad u X z) args s 0 0 (fun q => z0 ≤ q)) (F0 m 8 ls []) := by
  have hx := hC.1
  have hb := hC.2.1
  unfold f_X3_addLaw_8 at hf
  refine lv_iload hx hb dX3_addLaw_8 (lv_at hl 4 rfl) ?_
  refine lv_if_lt (tgt := 73) hx hb dX3_addLaw_10 (by decide) (fun c2 => ?_) (fun c2 => ?_)
  · rw [if_pos c2] at hf
    exact k_X3_addLaw_73 hC hf hw (lv_sub hl [0, 1, 3] rfl)
  · rw [if_neg c2] at hf
    refine lv_aload_n hx hb dX3_addLaw_13 rfl (lv_at hl 0 rfl) ?_
    refine rg_p hC hw 14 (Nat.le_of_ble_eq_true rfl) rfl fd_X3_4 wf_X3_22 (q := 16) rfl dX3_addLaw_14 ?_
    refine lv_iload hx hb dX3_addLaw_17 (lv_at hl 4 rfl) ?_
    obtain ⟨h3, hf⟩ := ck_e hf
    refine ra_i hC hw 16 (Nat.le_of_ble_eq_true rfl) rfl h3 dX3_addLaw_19 ?_
    obtain ⟨y4, ey4, hf⟩ := sq_e hf
    refine lt_i ey4 ?_
    refine lv_istore (lv' := [(5, .int y4), (0, .ref (ad 14)), (1, .int x1), (2, .int x2), (3, .int x3), (4, .int x4)]) hx hb dX3_addLaw_20 hl (by decide) rfl (fun ls hl => ?_)
    refine lv_aload_n hx hb dX3_addLaw_22 rfl (lv_at hl 1 rfl) ?_
    refine rg_p hC hw 14 (Nat.le_of_ble_eq_true rfl) rfl fd_X3_5 wf_X3_25 (q := 17) rfl dX3_addLaw_23 ?_
    refine lv_iload hx hb dX3_addLaw_26 (lv_at hl 5 rfl) ?_
    obtain ⟨h5, hf⟩ := ck_e hf
    refine ra_l hC hw 17 (Nat.le_of_ble_eq_true rfl) rfl h5 dX3_addLaw_28 ?_
    obtain ⟨y6, ey6, hf⟩ := sq_e hf
    refine lt_l ey6 ?_
    refine lv_lstore (lv' := [(6, .long y6), (5, .int y4), (0, .ref (ad 14)), (1, .int x1), (2, .int x2), (3, .int x3), (4, .int x4)]) hx hb dX3_addLaw_29 hl (by decide) rfl (fun ls hl => ?_)
    refine lv_iconst (v := 0) hx hb dX3_addLaw_31 (by decide) ?_
    refine lv_istore (lv' := [(8, .int 0), (6, .long y6), (5, .int y4), (0, .ref (ad 14)), (1, .int x1), (2, .int x2), (3, .int x3), (4, .int x4)]) hx hb dX3_addLaw_32 hl (by decide) rfl (fun ls hl => ?_)
    exact k_X3_addLaw_34l hC hq8 fu_ _ _ _ _ _ _ _ _ _ _ _ hf hw (lv_sub hl [3, 4, 5, 6, 7, 2, 1, 0] rfl)
set_option maxRecDepth 100000 in
set_option maxHeartbeats 4000000 in
theorem k_X3_addLaw_8l {p : Program} {l : Launch} {e : Env} {s : State} {m : MethodId} {args : Array Value} {below : List Frame} {meth : Method} {c : Code} {D : va_G} {cy : Nat → ClassId} {z0 : Nat} {ad : Nat → Nat} {X : va_W} {u : Nat × Nat} (hC : cx_C p s m args meth c cX3_addLaw "RhymedThen$Past" (Cond.code yX3_addLaw cX3_addLaw 9 none) 9 none) {z : mm_M} : ∀ (n : Nat) (x1 : Int32) (x2 : Int32) (x3 : Int32) (x4 : Int32) (M : mm_M) (H : Heap) (locs : List Loc) (ls : Array Slot), f_X3_addLaw_8l n x1 x2 x3 x4 M = some z → wd_in cx_T D cy z0 ad u M X s H locs → lv_has ls 9 [(0, .ref (ad 14)), (1, .int x1), (2, .int x2), (3, .int x3), (4, .int x4)] → W p l e { frames := 2, cells := 0, slots := 0, locals := 50 } s m args below meth c H locs 0 0 (MQ below (cq_v cx_T D cy z0 ad u X z) args s 0 0 (fun q => z0 ≤ q)) (F0 m 8 ls []) := by
  intro n
  induction n with
  | zero => intro x1 x2 x3 x4 M H locs ls hf; exact absurd hf (by simp [f_X3_addLaw_8l])
  | succ n ih => intro x1 x2 x3 x4 M H locs ls hf hw hl; exact k_X3_addLaw_8 hC ih hf hw hl
set_option maxRecDepth 100000 in
set_option maxHeartbeats 4000000 in
theorem k_X3_addLaw {p : Program} {l : Launch} {e : Env} {s : State} {m : MethodId} {args : Array Value} {below : List Frame} {meth : Method} {c : Code} {D : va_G} {cy : Nat → ClassId} {z0 : Nat} {ad : Nat → Nat} {X : va_W} {u : Nat × Nat} (hC : cx_C p s m args meth c cX3_addLaw "RhymedThen$Past" (Cond.code yX3_addLaw cX3_addLaw 9 none) 9 none) {z : mm_M} {x1 : Int32} {x2 : Int32} {x3 : Int32} {M : mm_M} (hf : f_X3_addLaw x1 x2 x3 M = some z) {H : Heap} {locs : List Loc} (hw : wd_in cx_T D cy z0 ad u M X s H locs) {ls : Array Slot} (hl : lv_has ls 9 [(0, .ref (ad 14)), (1, .int x1), (2, .int x2), (3, .int x3)]) : W p l e { frames := 2, cells := 0, slots := 0, locals := 50 } s m args below meth c H locs 0 0 (MQ below (cq_v cx_T D cy z0 ad u X z) args s 0 0 (fun q => z0 ≤ q)) (F0 m 0 ls []) := by
  have hx := hC.1
  have hb := hC.2.1
  unfold f_X3_addLaw at hf
  refine lv_aload_n hx hb dX3_addLaw_0 rfl (lv_at hl 0 rfl) ?_
  refine rg_i hC hw 14 (Nat.le_of_ble_eq_true rfl) rfl fd_X3_2 wf_X3_15 dX3_addLaw_1 ?_
  refine lv_iconst (v := 1) hx hb dX3_addLaw_4 (by decide) ?_
  refine lv_isub hx hb dX3_addLaw_5 ?_
  obtain ⟨y1, ey1, hf⟩ := sq_e hf
  refine lt_i ey1 ?_
  refine lv_istore (lv' := [(4, .int y1), (0, .ref (ad 14)), (1, .int x1), (2, .int x2), (3, .int x3)]) hx hb dX3_addLaw_6 hl (by decide) rfl (fun ls hl => ?_)
  exact k_X3_addLaw_8l hC fu_ _ _ _ _ _ _ _ _ hf hw (lv_sub hl [1, 2, 3, 4, 0] rfl)
set_option maxRecDepth 100000 in
theorem c_X3_addLaw {l : Launch} {D : va_G} {cy : Nat → ClassId} {z0 : Nat} {ad : Nat → Nat} {u : Nat × Nat} {X : va_W} {z : mm_M} {x1 : Int32} {x2 : Int32} {x3 : Int32} {M : mm_M} (hf : f_X3_addLaw x1 x2 x3 M = some z) : ct_v cx_T l yX3_addLaw (Cond.code yX3_addLaw cX3_addLaw 9 none) 2 50 D cy z0 ad u M X [.ref (ad 14), .int x1, .int x2, .int x3] z := by
  refine bgc_v (by decide) (fun p e s m below meth c hC hw => ?_)
  refine en_t (Nat.le_of_ble_eq_true rfl) (fun ls hl => ?_)
  have hl : lv_has ls 9 [(0, .ref (ad 14)), (1, .int x1), (2, .int x2), (3, .int x3)] := hl
  exact k_X3_addLaw hC hf hw hl
set_option maxRecDepth 100000 in
set_option maxHeartbeats 4000000 in
theorem k_X11_lawFromText {p : Program} {l : Launch} {e : Env} {s : State} {m : MethodId} {args : Array Value} {below : List Frame} {meth : Method} {c : Code} {D : va_G} {cy : Nat → ClassId} {z0 : Nat} {ad : Nat → Nat} {X : va_W} {u : Nat × Nat} (hC : cx_C p s m args meth c cX11_lawFromText "RhymedThen" (Cond.code yX11_lawFromText cX11_lawFromText 7 (some .int)) 7 (some .int)) {z : (Int32 × mm_M)} {x1 : Int32} {x2 : Int32} {x3 : Int32} {M : mm_M} (hf : f_X11_lawFromText x1 x2 x3 M = some z) {H : Heap} {locs : List Loc} (hw : wd_in cx_T D cy z0 ad u M X s H locs) {ls : Array Slot} (hl : lv_has ls 7 [(0, .ref (ad 0)), (1, .int x1), (2, .int x2), (3, .int x3)]) : W p l e { frames := 5, cells := 0, slots := 0, locals := 105 } s m args below meth c H locs 0 0 (MQ below (cq_i cx_T D cy z0 ad u X z.1 z.2) args s 0 0 (fun q => z0 ≤ q)) (F0 m 0 ls []) := by
  have hx := hC.1
  have hb := hC.2.1
  unfold f_X11_lawFromText at hf
  refine lv_aload_n hx hb dX11_lawFromText_0 rfl (lv_at hl 0 rfl) ?_
  refine rg_p hC hw 0 (Nat.le_of_ble_eq_true rfl) rfl fd_X11_2 wf_X11_26 (q := 5) rfl dX11_lawFromText_1 ?_
  refine rg_i hC hw 5 (Nat.le_of_ble_eq_true rfl) rfl fd_X9_1 wf_X11_138 dX11_lawFromText_4 ?_
  refine lv_bipush (v := 6) hx hb dX11_lawFromText_7 (by decide) ?_
  refine lv_icmp_lt (tgt := 15) hx hb dX11_lawFromText_9 (by decide) (fun c1 => ?_) (fun c1 => ?_)
  · rw [if_pos c1] at hf
    refine lv_iload_n hx hb dX11_lawFromText_15 rfl (lv_at hl 1 rfl) ?_
    refine lv_iload_n hx hb dX11_lawFromText_16 rfl (lv_at hl 2 rfl) ?_
    refine lv_iload_n hx hb dX11_lawFromText_17 rfl (lv_at hl 3 rfl) ?_
    obtain ⟨z2, ez2, hf⟩ := bd_e hf
    refine clc_Si hC hw (c_X11_yearsOfLaw ez2) hd_X11_yearsOfLaw cw_X11_141 (rest := []) hl.1 rfl (Nat.le_of_ble_eq_true rfl) ⟨Nat.le_of_ble_eq_true rfl, Nat.le_of_ble_eq_true rfl⟩ ⟨Nat.zero_le _, Nat.zero_le _⟩ rfl dX11_lawFromText_18 (fun H locs hw => ?_)
    refine lv_istore (lv' := [(4, .int z2), (0, .ref (ad 0)), (1, .int x1), (2, .int x2), (3, .int x3)]) hx hb dX11_lawFromText_21 hl (by decide) rfl (fun ls hl => ?_)
    refine lv_iload hx hb dX11_lawFromText_23 (lv_at hl 0 rfl) ?_
    refine lv_iconst (v := 1) hx hb dX11_lawFromText_25 (by decide) ?_
    refine lv_icmp_lt (tgt := 36) hx hb dX11_lawFromText_26 (by decide) (fun c3 => ?_) (fun c3 => ?_)
    · rw [if_pos c3] at hf
      refine lv_bipush (v := (-101)) hx hb dX11_lawFromText_36 (by decide) ?_
      have hz := Option.some.inj hf
      subst hz
      exact rtc_i hC hw dX11_lawFromText_38
    · rw [if_neg c3] at hf
      refine lv_iload hx hb dX11_lawFromText_29 (lv_at hl 0 rfl) ?_
      refine lv_bipush (v := 8) hx hb dX11_lawFromText_31 (by decide) ?_
      refine lv_icmp_le (tgt := 39) hx hb dX11_lawFromText_33 (by decide) (fun c4 => ?_) (fun c4 => ?_)
      · rw [if_pos c4] at hf
        refine lv_aload_n hx hb dX11_lawFromText_39 rfl (lv_at hl 1 rfl) ?_
        refine rg_p hC hw 0 (Nat.le_of_ble_eq_true rfl) rfl fd_X11_3 wf_X11_35 (q := 14) rfl dX11_lawFromText_40 ?_
        refine rg_i hC hw 14 (Nat.le_of_ble_eq_true rfl) rfl fd_X3_2 wf_X11_144 dX11_lawFromText_43 ?_
        refine lv_iload hx hb dX11_lawFromText_46 (lv_at hl 0 rfl) ?_
        refine lv_imul hx hb dX11_lawFromText_48 ?_
        refine lv_sipush (v := 600) hx hb dX11_lawFromText_49 (by decide) ?_
        refine lv_icmp_le (tgt := 58) hx hb dX11_lawFromText_52 (by decide) (fun c5 => ?_) (fun c5 => ?_)
        · rw [if_pos c5] at hf
          refine lv_aload_n hx hb dX11_lawFromText_58 rfl (lv_at hl 1 rfl) ?_
          refine rg_p hC hw 0 (Nat.le_of_ble_eq_true rfl) rfl fd_X11_2 wf_X11_26 (q := 5) rfl dX11_lawFromText_59 ?_
          refine rg_p hC hw 5 (Nat.le_of_ble_eq_true rfl) rfl fd_X9_0 wf_X11_147 (q := 6) rfl dX11_lawFromText_62 ?_
          refine lv_aload_n hx hb dX11_lawFromText_65 rfl (lv_at hl 1 rfl) ?_
          refine rg_p hC hw 0 (Nat.le_of_ble_eq_true rfl) rfl fd_X11_2 wf_X11_26 (q := 5) rfl dX11_lawFromText_66 ?_
          refine rg_i hC hw 5 (Nat.le_of_ble_eq_true rfl) rfl fd_X9_1 wf_X11_138 dX11_lawFromText_69 ?_
          obtain ⟨h6, hf⟩ := ck_e hf
          refine ra_L hC hw 6 (Nat.le_of_ble_eq_true rfl) rfl h6 dX11_lawFromText_72 ?_
          refine lv_aload_n hx hb dX11_lawFromText_73 rfl (lv_at hl 1 rfl) ?_
          refine rg_p hC hw 0 (Nat.le_of_ble_eq_true rfl) rfl fd_X11_0 wf_X11_10 (q := 1) rfl dX11_lawFromText_74 ?_
          obtain ⟨z7, ez7, hf⟩ := bd_e hf
          refine clc_Vi hC hw (c_X2_read (lw_ix h6) ez7) hd_X2_read cw_X11_151 (lw_lt (lw_ix h6)) (lw_kd (lw_ix h6)) rfl (rest := []) hl.1 rfl (Nat.le_of_ble_eq_true rfl) ⟨Nat.le_of_ble_eq_true rfl, Nat.le_of_ble_eq_true rfl⟩ ⟨Nat.zero_le _, Nat.zero_le _⟩ rfl dX11_lawFromText_77 (fun H locs hw => ?_)
          refine lv_istore (lv' := [(5, .int z7.1), (4, .int z2), (0, .ref (ad 0)), (1, .int x1), (2, .int x2), (3, .int x3)]) hx hb dX11_lawFromText_80 hl (by decide) rfl (fun ls hl => ?_)
          refine lv_iload hx hb dX11_lawFromText_82 (lv_at hl 0 rfl) ?_
          refine lv_iconst (v := (-1)) hx hb dX11_lawFromText_84 (by decide) ?_
          refine lv_icmp_eq (tgt := 93) hx hb dX11_lawFromText_85 (by decide) (fun c8 => ?_) (fun c8 => ?_)
          · rw [if_pos c8] at hf
            refine lv_aload_n hx hb dX11_lawFromText_93 rfl (lv_at hl 2 rfl) ?_
            refine rg_p hC hw 0 (Nat.le_of_ble_eq_true rfl) rfl fd_X11_2 wf_X11_26 (q := 5) rfl dX11_lawFromText_94 ?_
            obtain ⟨z9, ez9, hf⟩ := bd_e hf
            refine clc_Vi hC hw (c_X9_addLaw ez9) hd_X9_addLaw cw_X11_157 (Nat.le_of_ble_eq_true rfl) rfl rfl (rest := []) hl.1 rfl (Nat.le_of_ble_eq_true rfl) ⟨Nat.le_of_ble_eq_true rfl, Nat.le_of_ble_eq_true rfl⟩ ⟨Nat.zero_le _, Nat.zero_le _⟩ rfl dX11_lawFromText_97 (fun H locs hw => ?_)
            refine lv_istore (lv' := [(6, .int z9.1), (5, .int z7.1), (4, .int z2), (0, .ref (ad 0)), (1, .int x1), (2, .int x2), (3, .int x3)]) hx hb dX11_lawFromText_100 hl (by decide) rfl (fun ls hl => ?_)
            refine lv_aload_n hx hb dX11_lawFromText_102 rfl (lv_at hl 3 rfl) ?_
            refine rg_p hC hw 0 (Nat.le_of_ble_eq_true rfl) rfl fd_X11_3 wf_X11_35 (q := 14) rfl dX11_lawFromText_103 ?_
            refine lv_iload_n hx hb dX11_lawFromText_106 rfl (lv_at hl 4 rfl) ?_
            refine lv_iload_n hx hb dX11_lawFromText_107 rfl (lv_at hl 6 rfl) ?_
            refine lv_iload hx hb dX11_lawFromText_108 (lv_at hl 2 rfl) ?_
            obtain ⟨z10, ez10, hf⟩ := bd_e hf
            refine clc_Vv hC hw (c_X3_addLaw ez10) hd_X3_addLaw cw_X11_160 (Nat.le_of_ble_eq_true rfl) rfl rfl (rest := []) hl.1 rfl (Nat.le_of_ble_eq_true rfl) ⟨Nat.le_of_ble_eq_true rfl, Nat.le_of_ble_eq_true rfl⟩ ⟨Nat.zero_le _, Nat.zero_le _⟩ rfl dX11_lawFromText_110 (fun H locs hw => ?_)
            refine lv_aload_n hx hb dX11_lawFromText_113 rfl (lv_at hl 3 rfl) ?_
            refine rg_p hC hw 0 (Nat.le_of_ble_eq_true rfl) rfl fd_X11_4 wf_X11_44 (q := 19) rfl dX11_lawFromText_114 ?_
            obtain ⟨z11, ez11, hf⟩ := sq_e hf
            refine clc_Vv hC hw (c_X6_doubtAll ez11.symm) hd_X6_doubtAll cw_X11_113 (Nat.le_of_ble_eq_true rfl) rfl rfl (rest := []) hl.1 rfl (Nat.le_of_ble_eq_true rfl) ⟨Nat.le_of_ble_eq_true rfl, Nat.le_of_ble_eq_true rfl⟩ ⟨Nat.zero_le _, Nat.zero_le _⟩ rfl dX11_lawFromText_117 (fun H locs hw => ?_)
            refine lv_iload hx hb dX11_lawFromText_120 (lv_at hl 0 rfl) ?_
            have hz := Option.some.inj hf
            subst hz
            exact rtc_i hC hw dX11_lawFromText_122
          · rw [if_neg c8] at hf
            refine lv_iconst (v := (-1)) hx hb dX11_lawFromText_88 (by decide) ?_
            refine lv_iload hx hb dX11_lawFromText_89 (lv_at hl 0 rfl) ?_
            refine lv_isub hx hb dX11_lawFromText_91 ?_
            have hz := Option.some.inj hf
            subst hz
            exact rtc_i hC hw dX11_lawFromText_92
        · rw [if_neg c5] at hf
          refine lv_bipush (v := (-102)) hx hb dX11_lawFromText_55 (by decide) ?_
          have hz := Option.some.inj hf
          subst hz
          exact rtc_i hC hw dX11_lawFromText_57
      · rw [if_neg c4] at hf
        refine lv_bipush (v := (-101)) hx hb dX11_lawFromText_36 (by decide) ?_
        have hz := Option.some.inj hf
        subst hz
        exact rtc_i hC hw dX11_lawFromText_38
  · rw [if_neg c1] at hf
    refine lv_bipush (v := (-100)) hx hb dX11_lawFromText_12 (by decide) ?_
    have hz := Option.some.inj hf
    subst hz
    exact rtc_i hC hw dX11_lawFromText_14
set_option maxRecDepth 100000 in
theorem c_X11_lawFromText {l : Launch} {D : va_G} {cy : Nat → ClassId} {z0 : Nat} {ad : Nat → Nat} {u : Nat × Nat} {X : va_W} {z : (Int32 × mm_M)} {x1 : Int32} {x2 : Int32} {x3 : Int32} {M : mm_M} (hf : f_X11_lawFromText x1 x2 x3 M = some z) : ct_i cx_T l yX11_lawFromText (Cond.code yX11_lawFromText cX11_lawFromText 7 (some .int)) 5 105 D cy z0 ad u M X [.ref (ad 0), .int x1, .int x2, .int x3] z.1 z.2 := by
  refine bgc_i (by decide) (fun p e s m below meth c hC hw => ?_)
  refine en_t (Nat.le_of_ble_eq_true rfl) (fun ls hl => ?_)
  have hl : lv_has ls 7 [(0, .ref (ad 0)), (1, .int x1), (2, .int x2), (3, .int x3)] := hl
  exact k_X11_lawFromText hC hf hw hl
set_option maxRecDepth 100000 in
set_option maxHeartbeats 4000000 in
theorem k_X11_law {p : Program} {l : Launch} {e : Env} {s : State} {m : MethodId} {args : Array Value} {below : List Frame} {meth : Method} {c : Code} {D : va_G} {cy : Nat → ClassId} {z0 : Nat} {ad : Nat → Nat} {X : va_W} {u : Nat × Nat} (hC : cx_C p s m args meth c cX11_law "RhymedThen" (Cond.code yX11_law cX11_law 5 (some .int)) 5 (some .int)) {z : (Int32 × mm_M)} {x1 : Int32} {x2 : Int32} {x3 : Int32} {M : mm_M} (hf : f_X11_law x1 x2 x3 M = some z) {H : Heap} {locs : List Loc} (hw : wd_in cx_T D cy z0 ad u M X s H locs) {ls : Array Slot} (hl : lv_has ls 5 [(0, .ref (ad 0)), (1, .int x1), (2, .int x2), (3, .int x3)]) : W p l e { frames := 6, cells := 0, slots := 0, locals := 131 } s m args below meth c H locs 0 0 (MQ below (cq_i cx_T D cy z0 ad u X z.1 z.2) args s 0 0 (fun q => z0 ≤ q)) (F0 m 0 ls []) := by
  have hx := hC.1
  have hb := hC.2.1
  unfold f_X11_law at hf
  refine lv_aload_n hx hb dX11_law_0 rfl (lv_at hl 0 rfl) ?_
  refine lv_iload_n hx hb dX11_law_1 rfl (lv_at hl 1 rfl) ?_
  refine lv_iload_n hx hb dX11_law_2 rfl (lv_at hl 2 rfl) ?_
  refine lv_iload_n hx hb dX11_law_3 rfl (lv_at hl 3 rfl) ?_
  obtain ⟨z1, ez1, hf⟩ := bd_e hf
  refine clc_Vi hC hw (c_X11_lawFromText ez1) hd_X11_lawFromText cw_X11_134 (Nat.le_of_ble_eq_true rfl) rfl rfl (rest := []) hl.1 rfl (Nat.le_of_ble_eq_true rfl) ⟨Nat.le_of_ble_eq_true rfl, Nat.le_of_ble_eq_true rfl⟩ ⟨Nat.zero_le _, Nat.zero_le _⟩ rfl dX11_law_4 (fun H locs hw => ?_)
  refine lv_istore (lv' := [(4, .int z1.1), (0, .ref (ad 0)), (1, .int x1), (2, .int x2), (3, .int x3)]) hx hb dX11_law_7 hl (by decide) rfl (fun ls hl => ?_)
  refine lv_aload_n hx hb dX11_law_9 rfl (lv_at hl 1 rfl) ?_
  refine rg_p hC hw 0 (Nat.le_of_ble_eq_true rfl) rfl fd_X11_0 wf_X11_10 (q := 1) rfl dX11_law_10 ?_
  refine lv_iconst (v := 0) hx hb dX11_law_13 (by decide) ?_
  obtain ⟨z2, ez2, hf⟩ := sq_e hf
  refine clc_Vi hC hw (c_X8_cutTo ez2.symm) hd_X8_cutTo cw_X11_98 (Nat.le_of_ble_eq_true rfl) rfl rfl (rest := []) hl.1 rfl (Nat.le_of_ble_eq_true rfl) ⟨Nat.le_of_ble_eq_true rfl, Nat.le_of_ble_eq_true rfl⟩ ⟨Nat.zero_le _, Nat.zero_le _⟩ rfl dX11_law_14 (fun H locs hw => ?_)
  refine lv_pop hx hb dX11_law_17 rfl ?_
  refine lv_iload hx hb dX11_law_18 (lv_at hl 0 rfl) ?_
  have hz := Option.some.inj hf
  subst hz
  exact rtc_i hC hw dX11_law_20
set_option maxRecDepth 100000 in
theorem c_X11_law {l : Launch} {D : va_G} {cy : Nat → ClassId} {z0 : Nat} {ad : Nat → Nat} {u : Nat × Nat} {X : va_W} {z : (Int32 × mm_M)} {x1 : Int32} {x2 : Int32} {x3 : Int32} {M : mm_M} (hf : f_X11_law x1 x2 x3 M = some z) : ct_i cx_T l yX11_law (Cond.code yX11_law cX11_law 5 (some .int)) 6 131 D cy z0 ad u M X [.ref (ad 0), .int x1, .int x2, .int x3] z.1 z.2 := by
  refine bgc_i (by decide) (fun p e s m below meth c hC hw => ?_)
  refine en_t (Nat.le_of_ble_eq_true rfl) (fun ls hl => ?_)
  have hl : lv_has ls 5 [(0, .ref (ad 0)), (1, .int x1), (2, .int x2), (3, .int x3)] := hl
  exact k_X11_law hC hf hw hl
set_option maxRecDepth 100000 in
set_option maxHeartbeats 4000000 in
theorem k_X11_isPlace {p : Program} {l : Launch} {e : Env} {s : State} {m : MethodId} {args : Array Value} {below : List Frame} {meth : Method} {c : Code} {T : wd_T} {D : va_G} {cy : Nat → ClassId} {z0 : Nat} {ad : Nat → Nat} {X : va_W} {M : mm_M} {u : Nat × Nat} (hC : cx_C p s m args meth c cX11_isPlace "RhymedThen" (Cond.code yX11_isPlace cX11_isPlace 1 (some .boolean)) 1 (some .boolean)) {z : Int32} {x0 : Int32} (hf : f_X11_isPlace x0 = z) {H : Heap} {locs : List Loc} (hw : wd_in T D cy z0 ad u M X s H locs) {ls : Array Slot} (hl : lv_has ls 1 [(0, .int x0)]) : W p l e { frames := 1, cells := 0, slots := 0, locals := 21 } s m args below meth c H locs 0 0 (MQ below (cq_i T D cy z0 ad u X z M) args s 0 0 (fun q => z0 ≤ q)) (F0 m 0 ls []) := by
  have hx := hC.1
  have hb := hC.2.1
  unfold f_X11_isPlace at hf
  refine lv_iload_n hx hb dX11_isPlace_0 rfl (lv_at hl 0 rfl) ?_
  refine lv_bipush (v := 6) hx hb dX11_isPlace_1 (by decide) ?_
  obtain ⟨z1, ez1, hf⟩ := sq_e hf
  refine clc_Si hC hw (c_X11_isBelow ez1.symm) hd_X11_isBelow cw_X11_101 (rest := []) hl.1 rfl (Nat.le_of_ble_eq_true rfl) ⟨Nat.le_of_ble_eq_true rfl, Nat.le_of_ble_eq_true rfl⟩ ⟨Nat.zero_le _, Nat.zero_le _⟩ rfl dX11_isPlace_3 (fun H locs hw => ?_)
  subst hf
  exact rtc_z hC hw (bz_X11_isBelow ez1.symm) dX11_isPlace_6
set_option maxRecDepth 100000 in
theorem c_X11_isPlace {l : Launch} {T : wd_T} {D : va_G} {cy : Nat → ClassId} {z0 : Nat} {ad : Nat → Nat} {u : Nat × Nat} {X : va_W} {z : Int32} {x0 : Int32} {M : mm_M} (hf : f_X11_isPlace x0 = z) : ct_i T l yX11_isPlace (Cond.code yX11_isPlace cX11_isPlace 1 (some .boolean)) 1 21 D cy z0 ad u M X [.int x0] z M := by
  refine bgc_i (by decide) (fun p e s m below meth c hC hw => ?_)
  refine en_t (Nat.le_of_ble_eq_true rfl) (fun ls hl => ?_)
  have hl : lv_has ls 1 [(0, .int x0)] := hl
  exact k_X11_isPlace hC hf hw hl
set_option maxRecDepth 100000 in
set_option maxHeartbeats 4000000 in
theorem k_X6_atPlace_33 {p : Program} {l : Launch} {e : Env} {s : State} {m : MethodId} {args : Array Value} {below : List Frame} {meth : Method} {c : Code} {D : va_G} {cy : Nat → ClassId} {z0 : Nat} {ad : Nat → Nat} {X : va_W} {u : Nat × Nat} (hC : cx_C p s m args meth c cX6_atPlace "RhymedThen$Signs" (Cond.code yX6_atPlace cX6_atPlace 4 (some .int)) 4 (some .int)) {z : Int32} {x1 : Int32} {x3 : Int32} {t0 : Int32} {t1 : Int32} {M : mm_M} {q4 : Int32 → Int32 → Int32 → Option Int32} (hq4 : ∀ (x1 : Int32) (x2 : Int32) (x3 : Int32) (H : Heap) (locs : List Loc) (ls : Array Slot), q4 x1 x2 x3 = some z → wd_in cx_T D cy z0 ad u M X s H locs → lv_has ls 4 [(0, .ref (ad 19)), (1, .int x1), (2, .int x2), (3, .int x3)] → W p l e { frames := 0, cells := 0, slots := 0, locals := 0 } s m args below meth c H locs 0 0 (MQ below (cq_i cx_T D cy z0 ad u X z M) args s 0 0 (fun q => z0 ≤ q)) (F0 m 4 ls [])) (hf : f_X6_atPlace_33 q4 x1 x3 t0 t1 M = some z) {H : Heap} {locs : List Loc} (hw : wd_in cx_T D cy z0 ad u M X s H locs) {ls : Array Slot} (hl : lv_has ls 4 [(0, .ref (ad 19)), (1, .int x1), (3, .int x3)]) : W p l e { frames := 0, cells := 0, slots := 0, locals := 0 } s m args below meth c H locs 0 0 (MQ below (cq_i cx_T D cy z0 ad u X z M) args s 0 0 (fun q => z0 ≤ q)) (F0 m 33 ls [.int t1, .int t0]) := by
  have hx := hC.1
  have hb := hC.2.1
  unfold f_X6_atPlace_33 at hf
  refine lv_ior hx hb dX6_atPlace_33 ?_
  obtain ⟨y4, ey4, hf⟩ := sq_e hf
  refine lt_i ey4 ?_
  refine lv_istore_n (lv' := [(2, .int y4), (0, .ref (ad 19)), (1, .int x1), (3, .int x3)]) hx hb dX6_atPlace_34 rfl hl (by decide) rfl (fun ls hl => ?_)
  obtain ⟨y5, ey5, hf⟩ := sq_e hf
  refine lv_iinc (v := y5) (lv' := [(3, .int y5), (2, .int y4), (0, .ref (ad 19)), (1, .int x1)]) hx hb dX6_atPlace_35 hl (k := 3) rfl (by rw [ey5]; rfl) (by decide) rfl (fun ls hl => ?_)
  refine lv_goto (tgt := 4) hx hb dX6_atPlace_38 (by decide) ?_
  exact hq4 _ _ _ _ _ _ hf hw (lv_sub hl [2, 3, 1, 0] rfl)
set_option maxRecDepth 100000 in
set_option maxHeartbeats 4000000 in
theorem k_X6_atPlace_4 {p : Program} {l : Launch} {e : Env} {s : State} {m : MethodId} {args : Array Value} {below : List Frame} {meth : Method} {c : Code} {D : va_G} {cy : Nat → ClassId} {z0 : Nat} {ad : Nat → Nat} {X : va_W} {u : Nat × Nat} (hC : cx_C p s m args meth c cX6_atPlace "RhymedThen$Signs" (Cond.code yX6_atPlace cX6_atPlace 4 (some .int)) 4 (some .int)) {z : Int32} {x1 : Int32} {x2 : Int32} {x3 : Int32} {M : mm_M} {q4 : Int32 → Int32 → Int32 → Option Int32} (hq4 : ∀ (x1 : Int32) (x2 : Int32) (x3 : Int32) (H : Heap) (locs : List Loc) (ls : Array Slot), q4 x1 x2 x3 = some z → wd_in cx_T D cy z0 ad u M X s H locs → lv_has ls 4 [(0, .ref (ad 19)), (1, .int x1), (2, .int x2), (3, .int x3)] → W p l e { frames := 0, cells := 0, slots := 0, locals := 0 } s m args below meth c H locs 0 0 (MQ below (cq_i cx_T D cy z0 ad u X z M) args s 0 0 (fun q => z0 ≤ q)) (F0 m 4 ls [])) (hf : f_X6_atPlace_4 q4 x1 x2 x3 M = some z) {H : Heap} {locs : List Loc} (hw : wd_in cx_T D cy z0 ad u M X s H locs) {ls : Array Slot} (hl : lv_has ls 4 [(0, .ref (ad 19)), (1, .int x1), (2, .int x2), (3, .int x3)]) : W p l e { frames := 0, cells := 0, slots := 0, locals := 0 } s m args below meth c H locs 0 0 (MQ below (cq_i cx_T D cy z0 ad u X z M) args s 0 0 (fun q => z0 ≤ q)) (F0 m 4 ls []) := by
  have hx := hC.1
  have hb := hC.2.1
  unfold f_X6_atPlace_4 at hf
  refine lv_iload_n hx hb dX6_atPlace_4 rfl (lv_at hl 3 rfl) ?_
  refine lv_aload_n hx hb dX6_atPlace_5 rfl (lv_at hl 0 rfl) ?_
  refine rg_i hC hw 19 (Nat.le_of_ble_eq_true rfl) rfl fd_X6_3 wf_X6_17 dX6_atPlace_6 ?_
  refine lv_icmp_ge (tgt := 41) hx hb dX6_atPlace_9 (by decide) (fun c1 => ?_) (fun c1 => ?_)
  · rw [if_pos c1] at hf
    refine lv_iload_n hx hb dX6_atPlace_41 rfl (lv_at hl 2 rfl) ?_
    have hz := Option.some.inj hf
    subst hz
    exact rtc_i hC hw dX6_atPlace_42
  · rw [if_neg c1] at hf
    refine lv_iload_n hx hb dX6_atPlace_12 rfl (lv_at hl 2 rfl) ?_
    refine lv_aload_n hx hb dX6_atPlace_13 rfl (lv_at hl 0 rfl) ?_
    refine rg_p hC hw 19 (Nat.le_of_ble_eq_true rfl) rfl fd_X6_2 wf_X6_11 (q := 20) rfl dX6_atPlace_14 ?_
    refine lv_iload_n hx hb dX6_atPlace_17 rfl (lv_at hl 3 rfl) ?_
    obtain ⟨h2, hf⟩ := ck_e hf
    refine ra_S hC hw 20 (Nat.le_of_ble_eq_true rfl) rfl h2 dX6_atPlace_18 ?_
    refine rg_i hC hw (22 + x3.toNatClampNeg) (sg_lt (sg_ix h2)) (sg_kd (sg_ix h2)) fd_X5_5 wf_X6_44 dX6_atPlace_19 ?_
    refine lv_iload_n hx hb dX6_atPlace_22 rfl (lv_at hl 1 rfl) ?_
    refine lv_icmp_ne (tgt := 32) hx hb dX6_atPlace_23 (by decide) (fun c3 => ?_) (fun c3 => ?_)
    · rw [if_neg c3] at hf
      refine lv_iconst (v := 0) hx hb dX6_atPlace_32 (by decide) ?_
      exact k_X6_atPlace_33 hC hq4 hf hw (lv_sub hl [0, 1, 3] rfl)
    · rw [if_pos c3] at hf
      refine lv_iconst (v := 1) hx hb dX6_atPlace_26 (by decide) ?_
      refine lv_iload_n hx hb dX6_atPlace_27 rfl (lv_at hl 3 rfl) ?_
      refine lv_ishl hx hb dX6_atPlace_28 ?_
      refine lv_goto (tgt := 33) hx hb dX6_atPlace_29 (by decide) ?_
      exact k_X6_atPlace_33 hC hq4 hf hw (lv_sub hl [0, 1, 3] rfl)
set_option maxRecDepth 100000 in
set_option maxHeartbeats 4000000 in
theorem k_X6_atPlace_4l {p : Program} {l : Launch} {e : Env} {s : State} {m : MethodId} {args : Array Value} {below : List Frame} {meth : Method} {c : Code} {D : va_G} {cy : Nat → ClassId} {z0 : Nat} {ad : Nat → Nat} {X : va_W} {u : Nat × Nat} (hC : cx_C p s m args meth c cX6_atPlace "RhymedThen$Signs" (Cond.code yX6_atPlace cX6_atPlace 4 (some .int)) 4 (some .int)) {z : Int32} {M : mm_M} : ∀ (n : Nat) (x1 : Int32) (x2 : Int32) (x3 : Int32) (H : Heap) (locs : List Loc) (ls : Array Slot), f_X6_atPlace_4l M n x1 x2 x3 = some z → wd_in cx_T D cy z0 ad u M X s H locs → lv_has ls 4 [(0, .ref (ad 19)), (1, .int x1), (2, .int x2), (3, .int x3)] → W p l e { frames := 0, cells := 0, slots := 0, locals := 0 } s m args below meth c H locs 0 0 (MQ below (cq_i cx_T D cy z0 ad u X z M) args s 0 0 (fun q => z0 ≤ q)) (F0 m 4 ls []) := by
  intro n
  induction n with
  | zero => intro x1 x2 x3 H locs ls hf; exact absurd hf (by simp [f_X6_atPlace_4l])
  | succ n ih => intro x1 x2 x3 H locs ls hf hw hl; exact k_X6_atPlace_4 hC ih hf hw hl
set_option maxRecDepth 100000 in
set_option maxHeartbeats 4000000 in
theorem k_X6_atPlace {p : Program} {l : Launch} {e : Env} {s : State} {m : MethodId} {args : Array Value} {below : List Frame} {meth : Method} {c : Code} {D : va_G} {cy : Nat → ClassId} {z0 : Nat} {ad : Nat → Nat} {X : va_W} {u : Nat × Nat} (hC : cx_C p s m args meth c cX6_atPlace "RhymedThen$Signs" (Cond.code yX6_atPlace cX6_atPlace 4 (some .int)) 4 (some .int)) {z : Int32} {x1 : Int32} {M : mm_M} (hf : f_X6_atPlace x1 M = some z) {H : Heap} {locs : List Loc} (hw : wd_in cx_T D cy z0 ad u M X s H locs) {ls : Array Slot} (hl : lv_has ls 4 [(0, .ref (ad 19)), (1, .int x1)]) : W p l e { frames := 0, cells := 0, slots := 0, locals := 0 } s m args below meth c H locs 0 0 (MQ below (cq_i cx_T D cy z0 ad u X z M) args s 0 0 (fun q => z0 ≤ q)) (F0 m 0 ls []) := by
  have hx := hC.1
  have hb := hC.2.1
  unfold f_X6_atPlace at hf
  refine lv_iconst (v := 0) hx hb dX6_atPlace_0 (by decide) ?_
  refine lv_istore_n (lv' := [(2, .int 0), (0, .ref (ad 19)), (1, .int x1)]) hx hb dX6_atPlace_1 rfl hl (by decide) rfl (fun ls hl => ?_)
  refine lv_iconst (v := 0) hx hb dX6_atPlace_2 (by decide) ?_
  refine lv_istore_n (lv' := [(3, .int 0), (2, .int 0), (0, .ref (ad 19)), (1, .int x1)]) hx hb dX6_atPlace_3 rfl hl (by decide) rfl (fun ls hl => ?_)
  exact k_X6_atPlace_4l hC fu_ _ _ _ _ _ _ hf hw (lv_sub hl [2, 3, 1, 0] rfl)
set_option maxRecDepth 100000 in
theorem c_X6_atPlace {l : Launch} {D : va_G} {cy : Nat → ClassId} {z0 : Nat} {ad : Nat → Nat} {u : Nat × Nat} {X : va_W} {z : Int32} {x1 : Int32} {M : mm_M} (hf : f_X6_atPlace x1 M = some z) : ct_i cx_T l yX6_atPlace (Cond.code yX6_atPlace cX6_atPlace 4 (some .int)) 0 0 D cy z0 ad u M X [.ref (ad 19), .int x1] z M := by
  refine bgc_i (by decide) (fun p e s m below meth c hC hw => ?_)
  refine en_t (Nat.le_of_ble_eq_true rfl) (fun ls hl => ?_)
  have hl : lv_has ls 4 [(0, .ref (ad 19)), (1, .int x1)] := hl
  exact k_X6_atPlace hC hf hw hl
set_option maxRecDepth 100000 in
set_option maxHeartbeats 4000000 in
theorem k_X6_doubtPlace {p : Program} {l : Launch} {e : Env} {s : State} {m : MethodId} {args : Array Value} {below : List Frame} {meth : Method} {c : Code} {D : va_G} {cy : Nat → ClassId} {z0 : Nat} {ad : Nat → Nat} {X : va_W} {u : Nat × Nat} (hC : cx_C p s m args meth c cX6_doubtPlace "RhymedThen$Signs" (Cond.code yX6_doubtPlace cX6_doubtPlace 2 none) 2 none) {z : mm_M} {x1 : Int32} {M : mm_M} (hf : f_X6_doubtPlace x1 M = some z) {H : Heap} {locs : List Loc} (hw : wd_in cx_T D cy z0 ad u M X s H locs) {ls : Array Slot} (hl : lv_has ls 2 [(0, .ref (ad 19)), (1, .int x1)]) : W p l e { frames := 1, cells := 0, slots := 0, locals := 23 } s m args below meth c H locs 0 0 (MQ below (cq_v cx_T D cy z0 ad u X z) args s 0 0 (fun q => z0 ≤ q)) (F0 m 0 ls []) := by
  have hx := hC.1
  have hb := hC.2.1
  unfold f_X6_doubtPlace at hf
  refine lv_aload_n hx hb dX6_doubtPlace_0 rfl (lv_at hl 0 rfl) ?_
  refine lv_dup hx hb dX6_doubtPlace_1 rfl ?_
  refine rg_i hC hw 19 (Nat.le_of_ble_eq_true rfl) rfl fd_X6_6 wf_X6_28 dX6_doubtPlace_2 ?_
  refine lv_aload_n hx hb dX6_doubtPlace_5 rfl (lv_at hl 0 rfl) ?_
  refine lv_iload_n hx hb dX6_doubtPlace_6 rfl (lv_at hl 1 rfl) ?_
  obtain ⟨z1, ez1, hf⟩ := bd_e hf
  refine clc_Vi hC hw (c_X6_atPlace ez1) hd_X6_atPlace cw_X6_40 (Nat.le_of_ble_eq_true rfl) rfl rfl (rest := [.int (M.1 19 6), .ref (ad 19)]) hl.1 rfl (Nat.le_of_ble_eq_true rfl) ⟨Nat.le_of_ble_eq_true rfl, Nat.le_of_ble_eq_true rfl⟩ ⟨Nat.zero_le _, Nat.zero_le _⟩ rfl dX6_doubtPlace_7 (fun H locs hw => ?_)
  refine lv_ior hx hb dX6_doubtPlace_10 ?_
  obtain ⟨M2, eM2, hf⟩ := sq_e hf
  refine rp_i hC hw 19 (Nat.le_of_ble_eq_true rfl) rfl fd_X6_6 wf_X6_28 fp_X6_6 rfl rfl dX6_doubtPlace_11 eM2 (fun H locs hw => ?_)
  have hz := Option.some.inj hf
  subst hz
  exact rtc_v hC hw dX6_doubtPlace_14
set_option maxRecDepth 100000 in
theorem c_X6_doubtPlace {l : Launch} {D : va_G} {cy : Nat → ClassId} {z0 : Nat} {ad : Nat → Nat} {u : Nat × Nat} {X : va_W} {z : mm_M} {x1 : Int32} {M : mm_M} (hf : f_X6_doubtPlace x1 M = some z) : ct_v cx_T l yX6_doubtPlace (Cond.code yX6_doubtPlace cX6_doubtPlace 2 none) 1 23 D cy z0 ad u M X [.ref (ad 19), .int x1] z := by
  refine bgc_v (by decide) (fun p e s m below meth c hC hw => ?_)
  refine en_t (Nat.le_of_ble_eq_true rfl) (fun ls hl => ?_)
  have hl : lv_has ls 2 [(0, .ref (ad 19)), (1, .int x1)] := hl
  exact k_X6_doubtPlace hC hf hw hl
set_option maxRecDepth 100000 in
set_option maxHeartbeats 4000000 in
theorem k_X11_lag {p : Program} {l : Launch} {e : Env} {s : State} {m : MethodId} {args : Array Value} {below : List Frame} {meth : Method} {c : Code} {D : va_G} {cy : Nat → ClassId} {z0 : Nat} {ad : Nat → Nat} {X : va_W} {u : Nat × Nat} (hC : cx_C p s m args meth c cX11_lag "RhymedThen" (Cond.code yX11_lag cX11_lag 4 (some .int)) 4 (some .int)) {z : (Int32 × mm_M)} {x1 : Int32} {x2 : Int32} {M : mm_M} (hf : f_X11_lag x1 x2 M = some z) {H : Heap} {locs : List Loc} (hw : wd_in cx_T D cy z0 ad u M X s H locs) {ls : Array Slot} (hl : lv_has ls 4 [(0, .ref (ad 0)), (1, .int x1), (2, .int x2)]) : W p l e { frames := 2, cells := 0, slots := 0, locals := 44 } s m args below meth c H locs 0 0 (MQ below (cq_i cx_T D cy z0 ad u X z.1 z.2) args s 0 0 (fun q => z0 ≤ q)) (F0 m 0 ls []) := by
  have hx := hC.1
  have hb := hC.2.1
  unfold f_X11_lag at hf
  refine lv_iload_n hx hb dX11_lag_0 rfl (lv_at hl 1 rfl) ?_
  obtain ⟨z1, ez1, hf⟩ := sq_e hf
  refine clc_Si hC hw (c_X11_isPlace ez1.symm) hd_X11_isPlace cw_X11_163 (rest := []) hl.1 rfl (Nat.le_of_ble_eq_true rfl) ⟨Nat.le_of_ble_eq_true rfl, Nat.le_of_ble_eq_true rfl⟩ ⟨Nat.zero_le _, Nat.zero_le _⟩ rfl dX11_lag_1 (fun H locs hw => ?_)
  refine lv_if_eq (tgt := 18) hx hb dX11_lag_4 (by decide) (fun c2 => ?_) (fun c2 => ?_)
  · rw [if_pos c2] at hf
    refine lv_iconst (v := (-1)) hx hb dX11_lag_18 (by decide) ?_
    have hz := Option.some.inj hf
    subst hz
    exact rtc_i hC hw dX11_lag_19
  · rw [if_neg c2] at hf
    refine lv_iload_n hx hb dX11_lag_7 rfl (lv_at hl 2 rfl) ?_
    refine lv_if_lt (tgt := 18) hx hb dX11_lag_8 (by decide) (fun c3 => ?_) (fun c3 => ?_)
    · rw [if_pos c3] at hf
      refine lv_iconst (v := (-1)) hx hb dX11_lag_18 (by decide) ?_
      have hz := Option.some.inj hf
      subst hz
      exact rtc_i hC hw dX11_lag_19
    · rw [if_neg c3] at hf
      refine lv_iload_n hx hb dX11_lag_11 rfl (lv_at hl 2 rfl) ?_
      refine lv_sipush (v := 200) hx hb dX11_lag_12 (by decide) ?_
      refine lv_icmp_le (tgt := 20) hx hb dX11_lag_15 (by decide) (fun c4 => ?_) (fun c4 => ?_)
      · rw [if_pos c4] at hf
        refine lv_aload_n hx hb dX11_lag_20 rfl (lv_at hl 0 rfl) ?_
        refine rg_p hC hw 0 (Nat.le_of_ble_eq_true rfl) rfl fd_X11_3 wf_X11_35 (q := 14) rfl dX11_lag_21 ?_
        refine rg_p hC hw 14 (Nat.le_of_ble_eq_true rfl) rfl fd_X3_1 wf_X11_166 (q := 15) rfl dX11_lag_24 ?_
        refine lv_iload_n hx hb dX11_lag_27 rfl (lv_at hl 1 rfl) ?_
        obtain ⟨h5, hf⟩ := ck_e hf
        refine ra_i hC hw 15 (Nat.le_of_ble_eq_true rfl) rfl h5 dX11_lag_28 ?_
        obtain ⟨y6, ey6, hf⟩ := sq_e hf
        refine lt_i ey6 ?_
        refine lv_istore_n (lv' := [(3, .int y6), (0, .ref (ad 0)), (1, .int x1), (2, .int x2)]) hx hb dX11_lag_29 rfl hl (by decide) rfl (fun ls hl => ?_)
        refine lv_aload_n hx hb dX11_lag_30 rfl (lv_at hl 1 rfl) ?_
        refine rg_p hC hw 0 (Nat.le_of_ble_eq_true rfl) rfl fd_X11_3 wf_X11_35 (q := 14) rfl dX11_lag_31 ?_
        refine rg_p hC hw 14 (Nat.le_of_ble_eq_true rfl) rfl fd_X3_1 wf_X11_166 (q := 15) rfl dX11_lag_34 ?_
        refine lv_iload_n hx hb dX11_lag_37 rfl (lv_at hl 2 rfl) ?_
        refine lv_iload_n hx hb dX11_lag_38 rfl (lv_at hl 3 rfl) ?_
        obtain ⟨h7, hf⟩ := ck_e hf
        obtain ⟨M8, eM8, hf⟩ := sq_e hf
        refine rs_i hC hw 15 (Nat.le_of_ble_eq_true rfl) rfl h7 dX11_lag_39 eM8 (fun H locs hw => ?_)
        refine lv_aload_n hx hb dX11_lag_40 rfl (lv_at hl 1 rfl) ?_
        refine rg_p hC hw 0 (Nat.le_of_ble_eq_true rfl) rfl fd_X11_4 wf_X11_44 (q := 19) rfl dX11_lag_41 ?_
        refine lv_iload_n hx hb dX11_lag_44 rfl (lv_at hl 2 rfl) ?_
        obtain ⟨z9, ez9, hf⟩ := bd_e hf
        refine clc_Vv hC hw (c_X6_doubtPlace ez9) hd_X6_doubtPlace cw_X11_169 (Nat.le_of_ble_eq_true rfl) rfl rfl (rest := []) hl.1 rfl (Nat.le_of_ble_eq_true rfl) ⟨Nat.le_of_ble_eq_true rfl, Nat.le_of_ble_eq_true rfl⟩ ⟨Nat.zero_le _, Nat.zero_le _⟩ rfl dX11_lag_45 (fun H locs hw => ?_)
        refine lv_iload_n hx hb dX11_lag_48 rfl (lv_at hl 0 rfl) ?_
        have hz := Option.some.inj hf
        subst hz
        exact rtc_i hC hw dX11_lag_49
      · rw [if_neg c4] at hf
        refine lv_iconst (v := (-1)) hx hb dX11_lag_18 (by decide) ?_
        have hz := Option.some.inj hf
        subst hz
        exact rtc_i hC hw dX11_lag_19
set_option maxRecDepth 100000 in
theorem c_X11_lag {l : Launch} {D : va_G} {cy : Nat → ClassId} {z0 : Nat} {ad : Nat → Nat} {u : Nat × Nat} {X : va_W} {z : (Int32 × mm_M)} {x1 : Int32} {x2 : Int32} {M : mm_M} (hf : f_X11_lag x1 x2 M = some z) : ct_i cx_T l yX11_lag (Cond.code yX11_lag cX11_lag 4 (some .int)) 2 44 D cy z0 ad u M X [.ref (ad 0), .int x1, .int x2] z.1 z.2 := by
  refine bgc_i (by decide) (fun p e s m below meth c hC hw => ?_)
  refine en_t (Nat.le_of_ble_eq_true rfl) (fun ls hl => ?_)
  have hl : lv_has ls 4 [(0, .ref (ad 0)), (1, .int x1), (2, .int x2)] := hl
  exact k_X11_lag hC hf hw hl
set_option maxRecDepth 100000 in
set_option maxHeartbeats 4000000 in
theorem k_X11_lagOnSheet_20 {p : Program} {l : Launch} {e : Env} {s : State} {m : MethodId} {args : Array Value} {below : List Frame} {meth : Method} {c : Code} {T : wd_T} {D : va_G} {cy : Nat → ClassId} {z0 : Nat} {ad : Nat → Nat} {X : va_W} {M : mm_M} {u : Nat × Nat} (hC : cx_C p s m args meth c cX11_lagOnSheet "RhymedThen" (Cond.code yX11_lagOnSheet cX11_lagOnSheet 3 (some .int)) 3 (some .int)) {z : Int32} {t0 : Int32} (hf : f_X11_lagOnSheet_20 t0 = z) {H : Heap} {locs : List Loc} (hw : wd_in T D cy z0 ad u M X s H locs) {ls : Array Slot} (hl : lv_has ls 3 []) : W p l e { frames := 1, cells := 0, slots := 0, locals := 21 } s m args below meth c H locs 0 0 (MQ below (cq_i T D cy z0 ad u X z M) args s 0 0 (fun q => z0 ≤ q)) (F0 m 20 ls [.int t0]) := by
  have hx := hC.1
  have hb := hC.2.1
  unfold f_X11_lagOnSheet_20 at hf
  refine lv_istore_n (lv' := [(2, .int t0)]) hx hb dX11_lagOnSheet_20 rfl hl (by decide) rfl (fun ls hl => ?_)
  refine lv_iconst (v := 0) hx hb dX11_lagOnSheet_21 (by decide) ?_
  refine lv_sipush (v := 200) hx hb dX11_lagOnSheet_22 (by decide) ?_
  refine lv_iload_n hx hb dX11_lagOnSheet_25 rfl (lv_at hl 0 rfl) ?_
  refine mx_min hC (rest := [.int 0]) wm_X11_177 hl.1 ⟨Nat.le_of_ble_eq_true rfl, Nat.le_of_ble_eq_true rfl⟩ ⟨Nat.zero_le _, Nat.zero_le _⟩ dX11_lagOnSheet_26 ?_
  refine mx_max hC (rest := []) wm_X11_182 hl.1 ⟨Nat.le_of_ble_eq_true rfl, Nat.le_of_ble_eq_true rfl⟩ ⟨Nat.zero_le _, Nat.zero_le _⟩ dX11_lagOnSheet_29 ?_
  subst hf
  exact rtc_i hC hw dX11_lagOnSheet_32
set_option maxRecDepth 100000 in
set_option maxHeartbeats 4000000 in
theorem k_X11_lagOnSheet {p : Program} {l : Launch} {e : Env} {s : State} {m : MethodId} {args : Array Value} {below : List Frame} {meth : Method} {c : Code} {T : wd_T} {D : va_G} {cy : Nat → ClassId} {z0 : Nat} {ad : Nat → Nat} {X : va_W} {M : mm_M} {u : Nat × Nat} (hC : cx_C p s m args meth c cX11_lagOnSheet "RhymedThen" (Cond.code yX11_lagOnSheet cX11_lagOnSheet 3 (some .int)) 3 (some .int)) {z : Int32} {x0 : Int32} {x1 : Int32} (hf : f_X11_lagOnSheet x0 x1 = z) {H : Heap} {locs : List Loc} (hw : wd_in T D cy z0 ad u M X s H locs) {ls : Array Slot} (hl : lv_has ls 3 [(0, .int x0), (1, .int x1)]) : W p l e { frames := 1, cells := 0, slots := 0, locals := 21 } s m args below meth c H locs 0 0 (MQ below (cq_i T D cy z0 ad u X z M) args s 0 0 (fun q => z0 ≤ q)) (F0 m 0 ls []) := by
  have hx := hC.1
  have hb := hC.2.1
  unfold f_X11_lagOnSheet at hf
  refine lv_iload_n hx hb dX11_lagOnSheet_0 rfl (lv_at hl 0 rfl) ?_
  refine lv_if_ne (tgt := 9) hx hb dX11_lagOnSheet_1 (by decide) (fun c1 => ?_) (fun c1 => ?_)
  · rw [if_neg c1] at hf
    refine lv_iload_n hx hb dX11_lagOnSheet_9 rfl (lv_at hl 0 rfl) ?_
    refine lv_iconst (v := 1) hx hb dX11_lagOnSheet_10 (by decide) ?_
    refine lv_icmp_ne (tgt := 19) hx hb dX11_lagOnSheet_11 (by decide) (fun c2 => ?_) (fun c2 => ?_)
    · rw [if_neg c2] at hf
      refine lv_iload_n hx hb dX11_lagOnSheet_19 rfl (lv_at hl 1 rfl) ?_
      exact k_X11_lagOnSheet_20 hC hf hw (lv_sub hl [] rfl)
    · rw [if_pos c2] at hf
      refine lv_iload_n hx hb dX11_lagOnSheet_14 rfl (lv_at hl 1 rfl) ?_
      refine lv_i2s hx hb dX11_lagOnSheet_15 rfl ?_
      refine lv_goto (tgt := 20) hx hb dX11_lagOnSheet_16 (by decide) ?_
      exact k_X11_lagOnSheet_20 hC hf hw (lv_sub hl [] rfl)
  · rw [if_pos c1] at hf
    refine lv_iload_n hx hb dX11_lagOnSheet_4 rfl (lv_at hl 1 rfl) ?_
    refine lv_i2b hx hb dX11_lagOnSheet_5 rfl ?_
    refine lv_goto (tgt := 20) hx hb dX11_lagOnSheet_6 (by decide) ?_
    exact k_X11_lagOnSheet_20 hC hf hw (lv_sub hl [] rfl)
set_option maxRecDepth 100000 in
theorem c_X11_lagOnSheet {l : Launch} {T : wd_T} {D : va_G} {cy : Nat → ClassId} {z0 : Nat} {ad : Nat → Nat} {u : Nat × Nat} {X : va_W} {z : Int32} {x0 : Int32} {x1 : Int32} {M : mm_M} (hf : f_X11_lagOnSheet x0 x1 = z) : ct_i T l yX11_lagOnSheet (Cond.code yX11_lagOnSheet cX11_lagOnSheet 3 (some .int)) 1 21 D cy z0 ad u M X [.int x0, .int x1] z M := by
  refine bgc_i (by decide) (fun p e s m below meth c hC hw => ?_)
  refine en_t (Nat.le_of_ble_eq_true rfl) (fun ls hl => ?_)
  have hl : lv_has ls 3 [(0, .int x0), (1, .int x1)] := hl
  exact k_X11_lagOnSheet hC hf hw hl
set_option maxRecDepth 100000 in
set_option maxHeartbeats 4000000 in
theorem k_X11_lags_87 {p : Program} {l : Launch} {e : Env} {s : State} {m : MethodId} {args : Array Value} {below : List Frame} {meth : Method} {c : Code} {D : va_G} {cy : Nat → ClassId} {z0 : Nat} {ad : Nat → Nat} {X : va_W} {u : Nat × Nat} (hC : cx_C p s m args meth c cX11_lags "RhymedThen" (Cond.code yX11_lags cX11_lags 10 (some .int)) 10 (some .int)) {z : (Int32 × mm_M)} {x1 : Int32} {x3 : Int32} {x4 : Int32} {x5 : Int32} {x6 : Int32} {x7 : Int32} {x8 : Int32} {t0 : Int32} {M : mm_M} {q58 : Int32 → Int32 → Int32 → Int32 → Int32 → Int32 → Int32 → mm_M → Option (Int32 × mm_M)} (hq58 : ∀ (x1 : Int32) (x3 : Int32) (x4 : Int32) (x5 : Int32) (x6 : Int32) (x7 : Int32) (x8 : Int32) (M : mm_M) (H : Heap) (locs : List Loc) (ls : Array Slot), q58 x1 x3 x4 x5 x6 x7 x8 M = some z → wd_in cx_T D cy z0 ad u M X s H locs → lv_has ls 10 [(0, .ref (ad 0)), (1, .int x1), (3, .int x3), (4, .int x4), (5, .int x5), (6, .int x6), (7, .int x7), (8, .int x8)] → W p l e { frames := 2, cells := 0, slots := 0, locals := 43 } s m args below meth c H locs 0 0 (MQ below (cq_i cx_T D cy z0 ad u X z.1 z.2) args s 0 0 (fun q => z0 ≤ q)) (F0 m 58 ls [])) (hf : f_X11_lags_87 q58 x1 x3 x4 x5 x6 x7 x8 t0 M = some z) {H : Heap} {locs : List Loc} (hw : wd_in cx_T D cy z0 ad u M X s H locs) {ls : Array Slot} (hl : lv_has ls 10 [(0, .ref (ad 0)), (1, .int x1), (3, .int x3), (4, .int x4), (5, .int x5), (6, .int x6), (7, .int x7), (8, .int x8)]) : W p l e { frames := 2, cells := 0, slots := 0, locals := 43 } s m args below meth c H locs 0 0 (MQ below (cq_i cx_T D cy z0 ad u X z.1 z.2) args s 0 0 (fun q => z0 ≤ q)) (F0 m 87 ls [.int t0]) := by
  have hx := hC.1
  have hb := hC.2.1
  unfold f_X11_lags_87 at hf
  refine lv_istore (lv' := [(9, .int t0), (0, .ref (ad 0)), (1, .int x1), (3, .int x3), (4, .int x4), (5, .int x5), (6, .int x6), (7, .int x7), (8, .int x8)]) hx hb dX11_lags_87 hl (by decide) rfl (fun ls hl => ?_)
  refine lv_aload_n hx hb dX11_lags_89 rfl (lv_at hl 1 rfl) ?_
  refine rg_p hC hw 0 (Nat.le_of_ble_eq_true rfl) rfl fd_X11_3 wf_X11_35 (q := 14) rfl dX11_lags_90 ?_
  refine rg_p hC hw 14 (Nat.le_of_ble_eq_true rfl) rfl fd_X3_1 wf_X11_166 (q := 15) rfl dX11_lags_93 ?_
  refine lv_iload hx hb dX11_lags_96 (lv_at hl 8 rfl) ?_
  refine lv_iload hx hb dX11_lags_98 (lv_at hl 0 rfl) ?_
  obtain ⟨h13, hf⟩ := ck_e hf
  obtain ⟨M14, eM14, hf⟩ := sq_e hf
  refine rs_i hC hw 15 (Nat.le_of_ble_eq_true rfl) rfl h13 dX11_lags_100 eM14 (fun H locs hw => ?_)
  refine lv_iload hx hb dX11_lags_101 (lv_at hl 7 rfl) ?_
  refine lv_iload hx hb dX11_lags_103 (lv_at hl 0 rfl) ?_
  refine lv_iadd hx hb dX11_lags_105 ?_
  obtain ⟨y15, ey15, hf⟩ := sq_e hf
  refine lt_i ey15 ?_
  refine lv_istore (lv' := [(7, .int y15), (9, .int t0), (0, .ref (ad 0)), (1, .int x1), (3, .int x3), (4, .int x4), (5, .int x5), (6, .int x6), (8, .int x8)]) hx hb dX11_lags_106 hl (by decide) rfl (fun ls hl => ?_)
  obtain ⟨y16, ey16, hf⟩ := sq_e hf
  refine lv_iinc (v := y16) (lv' := [(8, .int y16), (7, .int y15), (9, .int t0), (0, .ref (ad 0)), (1, .int x1), (3, .int x3), (4, .int x4), (5, .int x5), (6, .int x6)]) hx hb dX11_lags_108 hl (k := 8) rfl (by rw [ey16]; rfl) (by decide) rfl (fun ls hl => ?_)
  refine lv_goto (tgt := 58) hx hb dX11_lags_111 (by decide) ?_
  exact hq58 _ _ _ _ _ _ _ _ _ _ _ hf hw (lv_sub hl [3, 4, 5, 6, 7, 8, 1, 0] rfl)
set_option maxRecDepth 100000 in
set_option maxHeartbeats 4000000 in
theorem k_X11_lags_114 {p : Program} {l : Launch} {e : Env} {s : State} {m : MethodId} {args : Array Value} {below : List Frame} {meth : Method} {c : Code} {D : va_G} {cy : Nat → ClassId} {z0 : Nat} {ad : Nat → Nat} {X : va_W} {u : Nat × Nat} (hC : cx_C p s m args meth c cX11_lags "RhymedThen" (Cond.code yX11_lags cX11_lags 10 (some .int)) 10 (some .int)) {z : (Int32 × mm_M)} {x5 : Int32} {x7 : Int32} {M : mm_M} (hf : f_X11_lags_114 x5 x7 M = some z) {H : Heap} {locs : List Loc} (hw : wd_in cx_T D cy z0 ad u M X s H locs) {ls : Array Slot} (hl : lv_has ls 10 [(0, .ref (ad 0)), (5, .int x5), (7, .int x7)]) : W p l e { frames := 2, cells := 0, slots := 0, locals := 43 } s m args below meth c H locs 0 0 (MQ below (cq_i cx_T D cy z0 ad u X z.1 z.2) args s 0 0 (fun q => z0 ≤ q)) (F0 m 114 ls []) := by
  have hx := hC.1
  have hb := hC.2.1
  unfold f_X11_lags_114 at hf
  refine lv_aload_n hx hb dX11_lags_114 rfl (lv_at hl 0 rfl) ?_
  refine rg_p hC hw 0 (Nat.le_of_ble_eq_true rfl) rfl fd_X11_4 wf_X11_44 (q := 19) rfl dX11_lags_115 ?_
  obtain ⟨z11, ez11, hf⟩ := sq_e hf
  refine clc_Vv hC hw (c_X6_doubtAll ez11.symm) hd_X6_doubtAll cw_X11_113 (Nat.le_of_ble_eq_true rfl) rfl rfl (rest := []) hl.1 rfl (Nat.le_of_ble_eq_true rfl) ⟨Nat.le_of_ble_eq_true rfl, Nat.le_of_ble_eq_true rfl⟩ ⟨Nat.zero_le _, Nat.zero_le _⟩ rfl dX11_lags_118 (fun H locs hw => ?_)
  refine lv_iload hx hb dX11_lags_121 (lv_at hl 1 rfl) ?_
  refine lv_if_eq (tgt := 131) hx hb dX11_lags_123 (by decide) (fun c12 => ?_) (fun c12 => ?_)
  · rw [if_pos c12] at hf
    refine lv_iload hx hb dX11_lags_131 (lv_at hl 2 rfl) ?_
    have hz := Option.some.inj hf
    subst hz
    exact rtc_i hC hw dX11_lags_133
  · rw [if_neg c12] at hf
    refine lv_bipush (v := (-3)) hx hb dX11_lags_126 (by decide) ?_
    refine lv_goto (tgt := 133) hx hb dX11_lags_128 (by decide) ?_
    have hz := Option.some.inj hf
    subst hz
    exact rtc_i hC hw dX11_lags_133
set_option maxRecDepth 100000 in
set_option maxHeartbeats 4000000 in
theorem k_X11_lags_58 {p : Program} {l : Launch} {e : Env} {s : State} {m : MethodId} {args : Array Value} {below : List Frame} {meth : Method} {c : Code} {D : va_G} {cy : Nat → ClassId} {z0 : Nat} {ad : Nat → Nat} {X : va_W} {u : Nat × Nat} (hC : cx_C p s m args meth c cX11_lags "RhymedThen" (Cond.code yX11_lags cX11_lags 10 (some .int)) 10 (some .int)) {z : (Int32 × mm_M)} {x1 : Int32} {x3 : Int32} {x4 : Int32} {x5 : Int32} {x6 : Int32} {x7 : Int32} {x8 : Int32} {M : mm_M} {q58 : Int32 → Int32 → Int32 → Int32 → Int32 → Int32 → Int32 → mm_M → Option (Int32 × mm_M)} (hq58 : ∀ (x1 : Int32) (x3 : Int32) (x4 : Int32) (x5 : Int32) (x6 : Int32) (x7 : Int32) (x8 : Int32) (M : mm_M) (H : Heap) (locs : List Loc) (ls : Array Slot), q58 x1 x3 x4 x5 x6 x7 x8 M = some z → wd_in cx_T D cy z0 ad u M X s H locs → lv_has ls 10 [(0, .ref (ad 0)), (1, .int x1), (3, .int x3), (4, .int x4), (5, .int x5), (6, .int x6), (7, .int x7), (8, .int x8)] → W p l e { frames := 2, cells := 0, slots := 0, locals := 43 } s m args below meth c H locs 0 0 (MQ below (cq_i cx_T D cy z0 ad u X z.1 z.2) args s 0 0 (fun q => z0 ≤ q)) (F0 m 58 ls [])) (hf : f_X11_lags_58 q58 x1 x3 x4 x5 x6 x7 x8 M = some z) {H : Heap} {locs : List Loc} (hw : wd_in cx_T D cy z0 ad u M X s H locs) {ls : Array Slot} (hl : lv_has ls 10 [(0, .ref (ad 0)), (1, .int x1), (3, .int x3), (4, .int x4), (5, .int x5), (6, .int x6), (7, .int x7), (8, .int x8)]) : W p l e { frames := 2, cells := 0, slots := 0, locals := 43 } s m args below meth c H locs 0 0 (MQ below (cq_i cx_T D cy z0 ad u X z.1 z.2) args s 0 0 (fun q => z0 ≤ q)) (F0 m 58 ls []) := by
  have hx := hC.1
  have hb := hC.2.1
  unfold f_X11_lags_58 at hf
  refine lv_iload hx hb dX11_lags_58 (lv_at hl 7 rfl) ?_
  refine lv_bipush (v := 6) hx hb dX11_lags_60 (by decide) ?_
  refine lv_icmp_ge (tgt := 114) hx hb dX11_lags_62 (by decide) (fun c8 => ?_) (fun c8 => ?_)
  · rw [if_pos c8] at hf
    exact k_X11_lags_114 hC hf hw (lv_sub hl [0, 4, 6] rfl)
  · rw [if_neg c8] at hf
    refine lv_iload hx hb dX11_lags_65 (lv_at hl 7 rfl) ?_
    refine lv_iload hx hb dX11_lags_67 (lv_at hl 5 rfl) ?_
    refine lv_icmp_ge (tgt := 86) hx hb dX11_lags_69 (by decide) (fun c9 => ?_) (fun c9 => ?_)
    · rw [if_pos c9] at hf
      refine lv_iconst (v := 0) hx hb dX11_lags_86 (by decide) ?_
      exact k_X11_lags_87 hC hq58 hf hw (lv_sub hl [0, 1, 2, 3, 4, 5, 6, 7] rfl)
    · rw [if_neg c9] at hf
      refine lv_iload_n hx hb dX11_lags_72 rfl (lv_at hl 1 rfl) ?_
      refine lv_iload_n hx hb dX11_lags_73 rfl (lv_at hl 2 rfl) ?_
      refine lv_iload hx hb dX11_lags_74 (lv_at hl 7 rfl) ?_
      refine lv_iload hx hb dX11_lags_76 (lv_at hl 3 rfl) ?_
      refine lv_imul hx hb dX11_lags_78 ?_
      refine lv_iadd hx hb dX11_lags_79 ?_
      obtain ⟨z10, ez10, hf⟩ := sq_e hf
      refine clc_Si hC hw (c_X11_lagOnSheet ez10.symm) hd_X11_lagOnSheet cw_X11_173 (rest := []) hl.1 rfl (Nat.le_of_ble_eq_true rfl) ⟨Nat.le_of_ble_eq_true rfl, Nat.le_of_ble_eq_true rfl⟩ ⟨Nat.zero_le _, Nat.zero_le _⟩ rfl dX11_lags_80 (fun H locs hw => ?_)
      refine lv_goto (tgt := 87) hx hb dX11_lags_83 (by decide) ?_
      exact k_X11_lags_87 hC hq58 hf hw (lv_sub hl [0, 1, 2, 3, 4, 5, 6, 7] rfl)
set_option maxRecDepth 100000 in
set_option maxHeartbeats 4000000 in
theorem k_X11_lags_58l {p : Program} {l : Launch} {e : Env} {s : State} {m : MethodId} {args : Array Value} {below : List Frame} {meth : Method} {c : Code} {D : va_G} {cy : Nat → ClassId} {z0 : Nat} {ad : Nat → Nat} {X : va_W} {u : Nat × Nat} (hC : cx_C p s m args meth c cX11_lags "RhymedThen" (Cond.code yX11_lags cX11_lags 10 (some .int)) 10 (some .int)) {z : (Int32 × mm_M)} : ∀ (n : Nat) (x1 : Int32) (x3 : Int32) (x4 : Int32) (x5 : Int32) (x6 : Int32) (x7 : Int32) (x8 : Int32) (M : mm_M) (H : Heap) (locs : List Loc) (ls : Array Slot), f_X11_lags_58l n x1 x3 x4 x5 x6 x7 x8 M = some z → wd_in cx_T D cy z0 ad u M X s H locs → lv_has ls 10 [(0, .ref (ad 0)), (1, .int x1), (3, .int x3), (4, .int x4), (5, .int x5), (6, .int x6), (7, .int x7), (8, .int x8)] → W p l e { frames := 2, cells := 0, slots := 0, locals := 43 } s m args below meth c H locs 0 0 (MQ below (cq_i cx_T D cy z0 ad u X z.1 z.2) args s 0 0 (fun q => z0 ≤ q)) (F0 m 58 ls []) := by
  intro n
  induction n with
  | zero => intro x1 x3 x4 x5 x6 x7 x8 M H locs ls hf; exact absurd hf (by simp [f_X11_lags_58l])
  | succ n ih => intro x1 x3 x4 x5 x6 x7 x8 M H locs ls hf hw hl; exact k_X11_lags_58 hC ih hf hw hl
set_option maxRecDepth 100000 in
set_option maxHeartbeats 4000000 in
theorem k_X11_lags_50 {p : Program} {l : Launch} {e : Env} {s : State} {m : MethodId} {args : Array Value} {below : List Frame} {meth : Method} {c : Code} {D : va_G} {cy : Nat → ClassId} {z0 : Nat} {ad : Nat → Nat} {X : va_W} {u : Nat × Nat} (hC : cx_C p s m args meth c cX11_lags "RhymedThen" (Cond.code yX11_lags cX11_lags 10 (some .int)) 10 (some .int)) {z : (Int32 × mm_M)} {x1 : Int32} {x3 : Int32} {x4 : Int32} {x5 : Int32} {t0 : Int32} {M : mm_M} (hf : f_X11_lags_50 x1 x3 x4 x5 t0 M = some z) {H : Heap} {locs : List Loc} (hw : wd_in cx_T D cy z0 ad u M X s H locs) {ls : Array Slot} (hl : lv_has ls 10 [(0, .ref (ad 0)), (1, .int x1), (3, .int x3), (4, .int x4), (5, .int x5)]) : W p l e { frames := 2, cells := 0, slots := 0, locals := 43 } s m args below meth c H locs 0 0 (MQ below (cq_i cx_T D cy z0 ad u X z.1 z.2) args s 0 0 (fun q => z0 ≤ q)) (F0 m 50 ls [.int t0]) := by
  have hx := hC.1
  have hb := hC.2.1
  unfold f_X11_lags_50 at hf
  refine lv_istore (lv' := [(6, .int t0), (0, .ref (ad 0)), (1, .int x1), (3, .int x3), (4, .int x4), (5, .int x5)]) hx hb dX11_lags_50 hl (by decide) rfl (fun ls hl => ?_)
  refine lv_iconst (v := 0) hx hb dX11_lags_52 (by decide) ?_
  refine lv_istore (lv' := [(7, .int 0), (6, .int t0), (0, .ref (ad 0)), (1, .int x1), (3, .int x3), (4, .int x4), (5, .int x5)]) hx hb dX11_lags_53 hl (by decide) rfl (fun ls hl => ?_)
  refine lv_iconst (v := 0) hx hb dX11_lags_55 (by decide) ?_
  refine lv_istore (lv' := [(8, .int 0), (7, .int 0), (6, .int t0), (0, .ref (ad 0)), (1, .int x1), (3, .int x3), (4, .int x4), (5, .int x5)]) hx hb dX11_lags_56 hl (by decide) rfl (fun ls hl => ?_)
  exact k_X11_lags_58l hC fu_ _ _ _ _ _ _ _ _ _ _ _ hf hw (lv_sub hl [3, 4, 5, 6, 7, 2, 1, 0] rfl)
set_option maxRecDepth 100000 in
set_option maxHeartbeats 4000000 in
theorem k_X11_lags_40 {p : Program} {l : Launch} {e : Env} {s : State} {m : MethodId} {args : Array Value} {below : List Frame} {meth : Method} {c : Code} {D : va_G} {cy : Nat → ClassId} {z0 : Nat} {ad : Nat → Nat} {X : va_W} {u : Nat × Nat} (hC : cx_C p s m args meth c cX11_lags "RhymedThen" (Cond.code yX11_lags cX11_lags 10 (some .int)) 10 (some .int)) {z : (Int32 × mm_M)} {x1 : Int32} {x2 : Int32} {x3 : Int32} {x4 : Int32} {x5 : Int32} {M : mm_M} (hf : f_X11_lags_40 x1 x2 x3 x4 x5 M = some z) {H : Heap} {locs : List Loc} (hw : wd_in cx_T D cy z0 ad u M X s H locs) {ls : Array Slot} (hl : lv_has ls 10 [(0, .ref (ad 0)), (1, .int x1), (2, .int x2), (3, .int x3), (4, .int x4), (5, .int x5)]) : W p l e { frames := 2, cells := 0, slots := 0, locals := 43 } s m args below meth c H locs 0 0 (MQ below (cq_i cx_T D cy z0 ad u X z.1 z.2) args s 0 0 (fun q => z0 ≤ q)) (F0 m 40 ls []) := by
  have hx := hC.1
  have hb := hC.2.1
  unfold f_X11_lags_40 at hf
  refine lv_iload hx hb dX11_lags_40 (lv_at hl 5 rfl) ?_
  refine lv_if_eq (tgt := 49) hx hb dX11_lags_42 (by decide) (fun c7 => ?_) (fun c7 => ?_)
  · rw [if_pos c7] at hf
    refine lv_iload_n hx hb dX11_lags_49 rfl (lv_at hl 2 rfl) ?_
    exact k_X11_lags_50 hC hf hw (lv_sub hl [0, 1, 3, 4, 5] rfl)
  · rw [if_neg c7] at hf
    refine lv_iconst (v := 0) hx hb dX11_lags_45 (by decide) ?_
    refine lv_goto (tgt := 50) hx hb dX11_lags_46 (by decide) ?_
    exact k_X11_lags_50 hC hf hw (lv_sub hl [0, 1, 3, 4, 5] rfl)
set_option maxRecDepth 100000 in
set_option maxHeartbeats 4000000 in
theorem k_X11_lags_26 {p : Program} {l : Launch} {e : Env} {s : State} {m : MethodId} {args : Array Value} {below : List Frame} {meth : Method} {c : Code} {D : va_G} {cy : Nat → ClassId} {z0 : Nat} {ad : Nat → Nat} {X : va_W} {u : Nat × Nat} (hC : cx_C p s m args meth c cX11_lags "RhymedThen" (Cond.code yX11_lags cX11_lags 10 (some .int)) 10 (some .int)) {z : (Int32 × mm_M)} {x1 : Int32} {x2 : Int32} {x3 : Int32} {x4 : Int32} {t0 : Int32} {M : mm_M} (hf : f_X11_lags_26 x1 x2 x3 x4 t0 M = some z) {H : Heap} {locs : List Loc} (hw : wd_in cx_T D cy z0 ad u M X s H locs) {ls : Array Slot} (hl : lv_has ls 10 [(0, .ref (ad 0)), (1, .int x1), (2, .int x2), (3, .int x3), (4, .int x4)]) : W p l e { frames := 2, cells := 0, slots := 0, locals := 43 } s m args below meth c H locs 0 0 (MQ below (cq_i cx_T D cy z0 ad u X z.1 z.2) args s 0 0 (fun q => z0 ≤ q)) (F0 m 26 ls [.int t0]) := by
  have hx := hC.1
  have hb := hC.2.1
  unfold f_X11_lags_26 at hf
  refine lv_istore (lv' := [(5, .int t0), (0, .ref (ad 0)), (1, .int x1), (2, .int x2), (3, .int x3), (4, .int x4)]) hx hb dX11_lags_26 hl (by decide) rfl (fun ls hl => ?_)
  refine lv_iload hx hb dX11_lags_28 (lv_at hl 0 rfl) ?_
  refine lv_if_ne (tgt := 40) hx hb dX11_lags_30 (by decide) (fun c5 => ?_) (fun c5 => ?_)
  · rw [if_neg c5] at hf
    exact k_X11_lags_40 hC hf hw (lv_sub hl [1, 2, 3, 4, 5, 0] rfl)
  · rw [if_pos c5] at hf
    refine lv_iload_n hx hb dX11_lags_33 rfl (lv_at hl 3 rfl) ?_
    refine lv_if_ge (tgt := 40) hx hb dX11_lags_34 (by decide) (fun c6 => ?_) (fun c6 => ?_)
    · rw [if_pos c6] at hf
      exact k_X11_lags_40 hC hf hw (lv_sub hl [1, 2, 3, 4, 5, 0] rfl)
    · rw [if_neg c6] at hf
      refine lv_bipush (v := (-2)) hx hb dX11_lags_37 (by decide) ?_
      have hz := Option.some.inj hf
      subst hz
      exact rtc_i hC hw dX11_lags_39
set_option maxRecDepth 100000 in
set_option maxHeartbeats 4000000 in
theorem k_X11_lags {p : Program} {l : Launch} {e : Env} {s : State} {m : MethodId} {args : Array Value} {below : List Frame} {meth : Method} {c : Code} {D : va_G} {cy : Nat → ClassId} {z0 : Nat} {ad : Nat → Nat} {X : va_W} {u : Nat × Nat} (hC : cx_C p s m args meth c cX11_lags "RhymedThen" (Cond.code yX11_lags cX11_lags 10 (some .int)) 10 (some .int)) {z : (Int32 × mm_M)} {x1 : Int32} {x2 : Int32} {x3 : Int32} {x4 : Int32} {M : mm_M} (hf : f_X11_lags x1 x2 x3 x4 M = some z) {H : Heap} {locs : List Loc} (hw : wd_in cx_T D cy z0 ad u M X s H locs) {ls : Array Slot} (hl : lv_has ls 10 [(0, .ref (ad 0)), (1, .int x1), (2, .int x2), (3, .int x3), (4, .int x4)]) : W p l e { frames := 2, cells := 0, slots := 0, locals := 43 } s m args below meth c H locs 0 0 (MQ below (cq_i cx_T D cy z0 ad u X z.1 z.2) args s 0 0 (fun q => z0 ≤ q)) (F0 m 0 ls []) := by
  have hx := hC.1
  have hb := hC.2.1
  unfold f_X11_lags at hf
  refine lv_iload_n hx hb dX11_lags_0 rfl (lv_at hl 1 rfl) ?_
  refine lv_iconst (v := 4) hx hb dX11_lags_1 (by decide) ?_
  obtain ⟨z1, ez1, hf⟩ := sq_e hf
  refine clc_Si hC hw (c_X11_isBelow ez1.symm) hd_X11_isBelow cw_X11_101 (rest := []) hl.1 rfl (Nat.le_of_ble_eq_true rfl) ⟨Nat.le_of_ble_eq_true rfl, Nat.le_of_ble_eq_true rfl⟩ ⟨Nat.zero_le _, Nat.zero_le _⟩ rfl dX11_lags_2 (fun H locs hw => ?_)
  refine lv_if_eq (tgt := 14) hx hb dX11_lags_5 (by decide) (fun c2 => ?_) (fun c2 => ?_)
  · rw [if_pos c2] at hf
    refine lv_iconst (v := (-1)) hx hb dX11_lags_14 (by decide) ?_
    have hz := Option.some.inj hf
    subst hz
    exact rtc_i hC hw dX11_lags_15
  · rw [if_neg c2] at hf
    refine lv_iload_n hx hb dX11_lags_8 rfl (lv_at hl 2 rfl) ?_
    refine lv_bipush (v := 6) hx hb dX11_lags_9 (by decide) ?_
    refine lv_icmp_le (tgt := 16) hx hb dX11_lags_11 (by decide) (fun c3 => ?_) (fun c3 => ?_)
    · rw [if_pos c3] at hf
      refine lv_iload_n hx hb dX11_lags_16 rfl (lv_at hl 1 rfl) ?_
      refine lv_iconst (v := 3) hx hb dX11_lags_17 (by decide) ?_
      refine lv_icmp_ne (tgt := 25) hx hb dX11_lags_18 (by decide) (fun c4 => ?_) (fun c4 => ?_)
      · rw [if_neg c4] at hf
        refine lv_iconst (v := 0) hx hb dX11_lags_25 (by decide) ?_
        exact k_X11_lags_26 hC hf hw (lv_sub hl [0, 1, 2, 3, 4] rfl)
      · rw [if_pos c4] at hf
        refine lv_iconst (v := 1) hx hb dX11_lags_21 (by decide) ?_
        refine lv_goto (tgt := 26) hx hb dX11_lags_22 (by decide) ?_
        exact k_X11_lags_26 hC hf hw (lv_sub hl [0, 1, 2, 3, 4] rfl)
    · rw [if_neg c3] at hf
      refine lv_iconst (v := (-1)) hx hb dX11_lags_14 (by decide) ?_
      have hz := Option.some.inj hf
      subst hz
      exact rtc_i hC hw dX11_lags_15
set_option maxRecDepth 100000 in
theorem c_X11_lags {l : Launch} {D : va_G} {cy : Nat → ClassId} {z0 : Nat} {ad : Nat → Nat} {u : Nat × Nat} {X : va_W} {z : (Int32 × mm_M)} {x1 : Int32} {x2 : Int32} {x3 : Int32} {x4 : Int32} {M : mm_M} (hf : f_X11_lags x1 x2 x3 x4 M = some z) : ct_i cx_T l yX11_lags (Cond.code yX11_lags cX11_lags 10 (some .int)) 2 43 D cy z0 ad u M X [.ref (ad 0), .int x1, .int x2, .int x3, .int x4] z.1 z.2 := by
  refine bgc_i (by decide) (fun p e s m below meth c hC hw => ?_)
  refine en_t (Nat.le_of_ble_eq_true rfl) (fun ls hl => ?_)
  have hl : lv_has ls 10 [(0, .ref (ad 0)), (1, .int x1), (2, .int x2), (3, .int x3), (4, .int x4)] := hl
  exact k_X11_lags hC hf hw hl
set_option maxRecDepth 100000 in
set_option maxHeartbeats 4000000 in
theorem k_X11_isWord {p : Program} {l : Launch} {e : Env} {s : State} {m : MethodId} {args : Array Value} {below : List Frame} {meth : Method} {c : Code} {D : va_G} {cy : Nat → ClassId} {z0 : Nat} {ad : Nat → Nat} {X : va_W} {u : Nat × Nat} (hC : cx_C p s m args meth c cX11_isWord "RhymedThen" (Cond.code yX11_isWord cX11_isWord 2 (some .boolean)) 2 (some .boolean)) {z : Int32} {x1 : Int32} {M : mm_M} (hf : f_X11_isWord x1 M = z) {H : Heap} {locs : List Loc} (hw : wd_in cx_T D cy z0 ad u M X s H locs) {ls : Array Slot} (hl : lv_has ls 2 [(0, .ref (ad 0)), (1, .int x1)]) : W p l e { frames := 1, cells := 0, slots := 0, locals := 21 } s m args below meth c H locs 0 0 (MQ below (cq_i cx_T D cy z0 ad u X z M) args s 0 0 (fun q => z0 ≤ q)) (F0 m 0 ls []) := by
  have hx := hC.1
  have hb := hC.2.1
  unfold f_X11_isWord at hf
  refine lv_iload_n hx hb dX11_isWord_0 rfl (lv_at hl 1 rfl) ?_
  refine lv_aload_n hx hb dX11_isWord_1 rfl (lv_at hl 0 rfl) ?_
  refine rg_p hC hw 0 (Nat.le_of_ble_eq_true rfl) rfl fd_X11_2 wf_X11_26 (q := 5) rfl dX11_isWord_2 ?_
  refine rg_i hC hw 5 (Nat.le_of_ble_eq_true rfl) rfl fd_X9_2 wf_X11_116 dX11_isWord_5 ?_
  obtain ⟨z1, ez1, hf⟩ := sq_e hf
  refine clc_Si hC hw (c_X11_isBelow ez1.symm) hd_X11_isBelow cw_X11_101 (rest := []) hl.1 rfl (Nat.le_of_ble_eq_true rfl) ⟨Nat.le_of_ble_eq_true rfl, Nat.le_of_ble_eq_true rfl⟩ ⟨Nat.zero_le _, Nat.zero_le _⟩ rfl dX11_isWord_8 (fun H locs hw => ?_)
  subst hf
  exact rtc_z hC hw (bz_X11_isBelow ez1.symm) dX11_isWord_11
set_option maxRecDepth 100000 in
theorem c_X11_isWord {l : Launch} {D : va_G} {cy : Nat → ClassId} {z0 : Nat} {ad : Nat → Nat} {u : Nat × Nat} {X : va_W} {z : Int32} {x1 : Int32} {M : mm_M} (hf : f_X11_isWord x1 M = z) : ct_i cx_T l yX11_isWord (Cond.code yX11_isWord cX11_isWord 2 (some .boolean)) 1 21 D cy z0 ad u M X [.ref (ad 0), .int x1] z M := by
  refine bgc_i (by decide) (fun p e s m below meth c hC hw => ?_)
  refine en_t (Nat.le_of_ble_eq_true rfl) (fun ls hl => ?_)
  have hl : lv_has ls 2 [(0, .ref (ad 0)), (1, .int x1)] := hl
  exact k_X11_isWord hC hf hw hl
set_option maxRecDepth 100000 in
set_option maxHeartbeats 4000000 in
theorem k_X11_isHistory {p : Program} {l : Launch} {e : Env} {s : State} {m : MethodId} {args : Array Value} {below : List Frame} {meth : Method} {c : Code} {D : va_G} {cy : Nat → ClassId} {z0 : Nat} {ad : Nat → Nat} {X : va_W} {u : Nat × Nat} (hC : cx_C p s m args meth c cX11_isHistory "RhymedThen" (Cond.code yX11_isHistory cX11_isHistory 2 (some .boolean)) 2 (some .boolean)) {z : Int32} {x1 : Int32} {M : mm_M} (hf : f_X11_isHistory x1 M = z) {H : Heap} {locs : List Loc} (hw : wd_in cx_T D cy z0 ad u M X s H locs) {ls : Array Slot} (hl : lv_has ls 2 [(0, .ref (ad 0)), (1, .int x1)]) : W p l e { frames := 1, cells := 0, slots := 0, locals := 21 } s m args below meth c H locs 0 0 (MQ below (cq_i cx_T D cy z0 ad u X z M) args s 0 0 (fun q => z0 ≤ q)) (F0 m 0 ls []) := by
  have hx := hC.1
  have hb := hC.2.1
  unfold f_X11_isHistory at hf
  refine lv_iload_n hx hb dX11_isHistory_0 rfl (lv_at hl 1 rfl) ?_
  refine lv_aload_n hx hb dX11_isHistory_1 rfl (lv_at hl 0 rfl) ?_
  refine rg_p hC hw 0 (Nat.le_of_ble_eq_true rfl) rfl fd_X11_3 wf_X11_35 (q := 14) rfl dX11_isHistory_2 ?_
  refine rg_i hC hw 14 (Nat.le_of_ble_eq_true rfl) rfl fd_X3_2 wf_X11_144 dX11_isHistory_5 ?_
  obtain ⟨z1, ez1, hf⟩ := sq_e hf
  refine clc_Si hC hw (c_X11_isBelow ez1.symm) hd_X11_isBelow cw_X11_101 (rest := []) hl.1 rfl (Nat.le_of_ble_eq_true rfl) ⟨Nat.le_of_ble_eq_true rfl, Nat.le_of_ble_eq_true rfl⟩ ⟨Nat.zero_le _, Nat.zero_le _⟩ rfl dX11_isHistory_8 (fun H locs hw => ?_)
  subst hf
  exact rtc_z hC hw (bz_X11_isBelow ez1.symm) dX11_isHistory_11
set_option maxRecDepth 100000 in
theorem c_X11_isHistory {l : Launch} {D : va_G} {cy : Nat → ClassId} {z0 : Nat} {ad : Nat → Nat} {u : Nat × Nat} {X : va_W} {z : Int32} {x1 : Int32} {M : mm_M} (hf : f_X11_isHistory x1 M = z) : ct_i cx_T l yX11_isHistory (Cond.code yX11_isHistory cX11_isHistory 2 (some .boolean)) 1 21 D cy z0 ad u M X [.ref (ad 0), .int x1] z M := by
  refine bgc_i (by decide) (fun p e s m below meth c hC hw => ?_)
  refine en_t (Nat.le_of_ble_eq_true rfl) (fun ls hl => ?_)
  have hl : lv_has ls 2 [(0, .ref (ad 0)), (1, .int x1)] := hl
  exact k_X11_isHistory hC hf hw hl
set_option maxRecDepth 100000 in
set_option maxHeartbeats 4000000 in
theorem k_X11_isYear {p : Program} {l : Launch} {e : Env} {s : State} {m : MethodId} {args : Array Value} {below : List Frame} {meth : Method} {c : Code} {T : wd_T} {D : va_G} {cy : Nat → ClassId} {z0 : Nat} {ad : Nat → Nat} {X : va_W} {M : mm_M} {u : Nat × Nat} (hC : cx_C p s m args meth c cX11_isYear "RhymedThen" (Cond.code yX11_isYear cX11_isYear 1 (some .boolean)) 1 (some .boolean)) {z : Int32} {x0 : Int32} (hf : f_X11_isYear x0 = z) {H : Heap} {locs : List Loc} (hw : wd_in T D cy z0 ad u M X s H locs) {ls : Array Slot} (hl : lv_has ls 1 [(0, .int x0)]) : W p l e { frames := 0, cells := 0, slots := 0, locals := 0 } s m args below meth c H locs 0 0 (MQ below (cq_i T D cy z0 ad u X z M) args s 0 0 (fun q => z0 ≤ q)) (F0 m 0 ls []) := by
  have hx := hC.1
  have hb := hC.2.1
  unfold f_X11_isYear at hf
  refine lv_iload_n hx hb dX11_isYear_0 rfl (lv_at hl 0 rfl) ?_
  refine lv_if_lt (tgt := 15) hx hb dX11_isYear_1 (by decide) (fun c1 => ?_) (fun c1 => ?_)
  · rw [if_pos c1] at hf
    refine lv_iconst (v := 0) hx hb dX11_isYear_15 (by decide) ?_
    subst hf
    exact rtc_z hC hw (Or.inl rfl) dX11_isYear_16
  · rw [if_neg c1] at hf
    refine lv_iload_n hx hb dX11_isYear_4 rfl (lv_at hl 0 rfl) ?_
    refine lv_sipush (v := 600) hx hb dX11_isYear_5 (by decide) ?_
    refine lv_icmp_gt (tgt := 15) hx hb dX11_isYear_8 (by decide) (fun c2 => ?_) (fun c2 => ?_)
    · rw [if_pos c2] at hf
      refine lv_iconst (v := 0) hx hb dX11_isYear_15 (by decide) ?_
      subst hf
      exact rtc_z hC hw (Or.inl rfl) dX11_isYear_16
    · rw [if_neg c2] at hf
      refine lv_iconst (v := 1) hx hb dX11_isYear_11 (by decide) ?_
      refine lv_goto (tgt := 16) hx hb dX11_isYear_12 (by decide) ?_
      subst hf
      exact rtc_z hC hw (Or.inr rfl) dX11_isYear_16
set_option maxRecDepth 100000 in
theorem c_X11_isYear {l : Launch} {T : wd_T} {D : va_G} {cy : Nat → ClassId} {z0 : Nat} {ad : Nat → Nat} {u : Nat × Nat} {X : va_W} {z : Int32} {x0 : Int32} {M : mm_M} (hf : f_X11_isYear x0 = z) : ct_i T l yX11_isYear (Cond.code yX11_isYear cX11_isYear 1 (some .boolean)) 0 0 D cy z0 ad u M X [.int x0] z M := by
  refine bgc_i (by decide) (fun p e s m below meth c hC hw => ?_)
  refine en_t (Nat.le_of_ble_eq_true rfl) (fun ls hl => ?_)
  have hl : lv_has ls 1 [(0, .int x0)] := hl
  exact k_X11_isYear hC hf hw hl
set_option maxRecDepth 100000 in
set_option maxHeartbeats 4000000 in
theorem k_X11_isThenAndThere {p : Program} {l : Launch} {e : Env} {s : State} {m : MethodId} {args : Array Value} {below : List Frame} {meth : Method} {c : Code} {D : va_G} {cy : Nat → ClassId} {z0 : Nat} {ad : Nat → Nat} {X : va_W} {u : Nat × Nat} (hC : cx_C p s m args meth c cX11_isThenAndThere "RhymedThen" (Cond.code yX11_isThenAndThere cX11_isThenAndThere 4 (some .boolean)) 4 (some .boolean)) {z : Int32} {x1 : Int32} {x2 : Int32} {x3 : Int32} {M : mm_M} (hf : f_X11_isThenAndThere x1 x2 x3 M = z) {H : Heap} {locs : List Loc} (hw : wd_in cx_T D cy z0 ad u M X s H locs) {ls : Array Slot} (hl : lv_has ls 4 [(0, .ref (ad 0)), (1, .int x1), (2, .int x2), (3, .int x3)]) : W p l e { frames := 2, cells := 0, slots := 0, locals := 42 } s m args below meth c H locs 0 0 (MQ below (cq_i cx_T D cy z0 ad u X z M) args s 0 0 (fun q => z0 ≤ q)) (F0 m 0 ls []) := by
  have hx := hC.1
  have hb := hC.2.1
  unfold f_X11_isThenAndThere at hf
  refine lv_aload_n hx hb dX11_isThenAndThere_0 rfl (lv_at hl 0 rfl) ?_
  refine lv_iload_n hx hb dX11_isThenAndThere_1 rfl (lv_at hl 1 rfl) ?_
  obtain ⟨z1, ez1, hf⟩ := sq_e hf
  refine clc_Vi hC hw (c_X11_isHistory ez1.symm) hd_X11_isHistory cw_X11_218 (Nat.le_of_ble_eq_true rfl) rfl rfl (rest := []) hl.1 rfl (Nat.le_of_ble_eq_true rfl) ⟨Nat.le_of_ble_eq_true rfl, Nat.le_of_ble_eq_true rfl⟩ ⟨Nat.zero_le _, Nat.zero_le _⟩ rfl dX11_isThenAndThere_2 (fun H locs hw => ?_)
  refine lv_if_eq (tgt := 26) hx hb dX11_isThenAndThere_5 (by decide) (fun c2 => ?_) (fun c2 => ?_)
  · rw [if_pos c2] at hf
    refine lv_iconst (v := 0) hx hb dX11_isThenAndThere_26 (by decide) ?_
    subst hf
    exact rtc_z hC hw (Or.inl rfl) dX11_isThenAndThere_27
  · rw [if_neg c2] at hf
    refine lv_iload_n hx hb dX11_isThenAndThere_8 rfl (lv_at hl 2 rfl) ?_
    obtain ⟨z3, ez3, hf⟩ := sq_e hf
    refine clc_Si hC hw (c_X11_isYear ez3.symm) hd_X11_isYear cw_X11_257 (rest := []) hl.1 rfl (Nat.le_of_ble_eq_true rfl) ⟨Nat.le_of_ble_eq_true rfl, Nat.le_of_ble_eq_true rfl⟩ ⟨Nat.zero_le _, Nat.zero_le _⟩ rfl dX11_isThenAndThere_9 (fun H locs hw => ?_)
    refine lv_if_eq (tgt := 26) hx hb dX11_isThenAndThere_12 (by decide) (fun c4 => ?_) (fun c4 => ?_)
    · rw [if_pos c4] at hf
      refine lv_iconst (v := 0) hx hb dX11_isThenAndThere_26 (by decide) ?_
      subst hf
      exact rtc_z hC hw (Or.inl rfl) dX11_isThenAndThere_27
    · rw [if_neg c4] at hf
      refine lv_iload_n hx hb dX11_isThenAndThere_15 rfl (lv_at hl 3 rfl) ?_
      obtain ⟨z5, ez5, hf⟩ := sq_e hf
      refine clc_Si hC hw (c_X11_isPlace ez5.symm) hd_X11_isPlace cw_X11_163 (rest := []) hl.1 rfl (Nat.le_of_ble_eq_true rfl) ⟨Nat.le_of_ble_eq_true rfl, Nat.le_of_ble_eq_true rfl⟩ ⟨Nat.zero_le _, Nat.zero_le _⟩ rfl dX11_isThenAndThere_16 (fun H locs hw => ?_)
      refine lv_if_eq (tgt := 26) hx hb dX11_isThenAndThere_19 (by decide) (fun c6 => ?_) (fun c6 => ?_)
      · rw [if_pos c6] at hf
        refine lv_iconst (v := 0) hx hb dX11_isThenAndThere_26 (by decide) ?_
        subst hf
        exact rtc_z hC hw (Or.inl rfl) dX11_isThenAndThere_27
      · rw [if_neg c6] at hf
        refine lv_iconst (v := 1) hx hb dX11_isThenAndThere_22 (by decide) ?_
        refine lv_goto (tgt := 27) hx hb dX11_isThenAndThere_23 (by decide) ?_
        subst hf
        exact rtc_z hC hw (Or.inr rfl) dX11_isThenAndThere_27
set_option maxRecDepth 100000 in
theorem c_X11_isThenAndThere {l : Launch} {D : va_G} {cy : Nat → ClassId} {z0 : Nat} {ad : Nat → Nat} {u : Nat × Nat} {X : va_W} {z : Int32} {x1 : Int32} {x2 : Int32} {x3 : Int32} {M : mm_M} (hf : f_X11_isThenAndThere x1 x2 x3 M = z) : ct_i cx_T l yX11_isThenAndThere (Cond.code yX11_isThenAndThere cX11_isThenAndThere 4 (some .boolean)) 2 42 D cy z0 ad u M X [.ref (ad 0), .int x1, .int x2, .int x3] z M := by
  refine bgc_i (by decide) (fun p e s m below meth c hC hw => ?_)
  refine en_t (Nat.le_of_ble_eq_true rfl) (fun ls hl => ?_)
  have hl : lv_has ls 4 [(0, .ref (ad 0)), (1, .int x1), (2, .int x2), (3, .int x3)] := hl
  exact k_X11_isThenAndThere hC hf hw hl
set_option maxRecDepth 100000 in
set_option maxHeartbeats 4000000 in
theorem k_X4_clear {p : Program} {l : Launch} {e : Env} {s : State} {m : MethodId} {args : Array Value} {below : List Frame} {meth : Method} {c : Code} {D : va_G} {cy : Nat → ClassId} {z0 : Nat} {ad : Nat → Nat} {X : va_W} {u : Nat × Nat} (hC : cx_C p s m args meth c cX4_clear "RhymedThen$Row" (Cond.code yX4_clear cX4_clear 1 none) 1 none) {z : mm_M} {M : mm_M} (hf : f_X4_clear M = z) {H : Heap} {locs : List Loc} (hw : wd_in cx_T D cy z0 ad u M X s H locs) {ls : Array Slot} (hl : lv_has ls 1 [(0, .ref (ad 3))]) : W p l e { frames := 0, cells := 0, slots := 0, locals := 0 } s m args below meth c H locs 0 0 (MQ below (cq_v cx_T D cy z0 ad u X z) args s 0 0 (fun q => z0 ≤ q)) (F0 m 0 ls []) := by
  have hx := hC.1
  have hb := hC.2.1
  unfold f_X4_clear at hf
  refine lv_aload_n hx hb dX4_clear_0 rfl (lv_at hl 0 rfl) ?_
  refine lv_iconst (v := 0) hx hb dX4_clear_1 (by decide) ?_
  obtain ⟨M1, eM1, hf⟩ := sq_e hf
  refine rp_i hC hw 3 (Nat.le_of_ble_eq_true rfl) rfl fd_X4_1 wf_X4_13 fp_X4_1 rfl rfl dX4_clear_2 eM1 (fun H locs hw => ?_)
  subst hf
  exact rtc_v hC hw dX4_clear_5
set_option maxRecDepth 100000 in
theorem c_X4_clear {l : Launch} {D : va_G} {cy : Nat → ClassId} {z0 : Nat} {ad : Nat → Nat} {u : Nat × Nat} {X : va_W} {z : mm_M} {M : mm_M} (hf : f_X4_clear M = z) : ct_v cx_T l yX4_clear (Cond.code yX4_clear cX4_clear 1 none) 0 0 D cy z0 ad u M X [.ref (ad 3)] z := by
  refine bgc_v (by decide) (fun p e s m below meth c hC hw => ?_)
  refine en_t (Nat.le_of_ble_eq_true rfl) (fun ls hl => ?_)
  have hl : lv_has ls 1 [(0, .ref (ad 3))] := hl
  exact k_X4_clear hC hf hw hl
set_option maxRecDepth 100000 in
set_option maxHeartbeats 4000000 in
theorem k_X3_lawAt {p : Program} {l : Launch} {e : Env} {s : State} {m : MethodId} {args : Array Value} {below : List Frame} {meth : Method} {c : Code} {D : va_G} {cy : Nat → ClassId} {z0 : Nat} {ad : Nat → Nat} {X : va_W} {u : Nat × Nat} (hC : cx_C p s m args meth c cX3_lawAt "RhymedThen$Past" (Cond.code yX3_lawAt cX3_lawAt 3 (some .int)) 3 (some .int)) {z : Int32} {x1 : Int32} {x2 : Int32} {M : mm_M} (hf : f_X3_lawAt x1 x2 M = some z) {H : Heap} {locs : List Loc} (hw : wd_in cx_T D cy z0 ad u M X s H locs) {ls : Array Slot} (hl : lv_has ls 3 [(0, .ref (ad 14)), (1, .int x1), (2, .int x2)]) : W p l e { frames := 0, cells := 0, slots := 0, locals := 0 } s m args below meth c H locs 0 0 (MQ below (cq_i cx_T D cy z0 ad u X z M) args s 0 0 (fun q => z0 ≤ q)) (F0 m 0 ls []) := by
  have hx := hC.1
  have hb := hC.2.1
  unfold f_X3_lawAt at hf
  refine lv_aload_n hx hb dX3_lawAt_0 rfl (lv_at hl 0 rfl) ?_
  refine rg_p hC hw 14 (Nat.le_of_ble_eq_true rfl) rfl fd_X3_4 wf_X3_22 (q := 16) rfl dX3_lawAt_1 ?_
  refine lv_iload_n hx hb dX3_lawAt_4 rfl (lv_at hl 1 rfl) ?_
  obtain ⟨h1, hf⟩ := ck_e hf
  refine ra_i hC hw 16 (Nat.le_of_ble_eq_true rfl) rfl h1 dX3_lawAt_5 ?_
  refine lv_iconst (v := 3) hx hb dX3_lawAt_6 (by decide) ?_
  refine lv_iload_n hx hb dX3_lawAt_7 rfl (lv_at hl 2 rfl) ?_
  refine lv_imul hx hb dX3_lawAt_8 ?_
  refine lv_ishr hx hb dX3_lawAt_9 ?_
  refine lv_bipush (v := 7) hx hb dX3_lawAt_10 (by decide) ?_
  refine lv_iand hx hb dX3_lawAt_12 ?_
  have hz := Option.some.inj hf
  subst hz
  exact rtc_i hC hw dX3_lawAt_13
set_option maxRecDepth 100000 in
theorem c_X3_lawAt {l : Launch} {D : va_G} {cy : Nat → ClassId} {z0 : Nat} {ad : Nat → Nat} {u : Nat × Nat} {X : va_W} {z : Int32} {x1 : Int32} {x2 : Int32} {M : mm_M} (hf : f_X3_lawAt x1 x2 M = some z) : ct_i cx_T l yX3_lawAt (Cond.code yX3_lawAt cX3_lawAt 3 (some .int)) 0 0 D cy z0 ad u M X [.ref (ad 14), .int x1, .int x2] z M := by
  refine bgc_i (by decide) (fun p e s m below meth c hC hw => ?_)
  refine en_t (Nat.le_of_ble_eq_true rfl) (fun ls hl => ?_)
  have hl : lv_has ls 3 [(0, .ref (ad 14)), (1, .int x1), (2, .int x2)] := hl
  exact k_X3_lawAt hC hf hw hl
set_option maxRecDepth 100000 in
set_option maxHeartbeats 4000000 in
theorem k_X2_workOn_128 {p : Program} {l : Launch} {e : Env} {s : State} {m : MethodId} {args : Array Value} {below : List Frame} {meth : Method} {c : Code} {D : va_G} {cy : Nat → ClassId} {z0 : Nat} {ad : Nat → Nat} {X : va_W} {u : Nat × Nat} (hC : cx_C p s m args meth c cX2_workOn "RhymedThen$Law" (Cond.code yX2_workOn cX2_workOn 13 (some .long)) 13 (some .long)) {z : Int64} {k0 : Nat} {x1 : Int64} {x3 : Int32} {x4 : Int64} {x6 : Int32} {x8 : Int32} {x9 : Int32} {M : mm_M} (hk0 : lw_ok k0) {q18 : Nat → Int64 → Int32 → Int64 → Int32 → Int32 → Int32 → Option Int64} (hq18 : ∀ (k0 : Nat) (x1 : Int64) (x3 : Int32) (x4 : Int64) (x6 : Int32) (x7 : Int32) (x8 : Int32) (H : Heap) (locs : List Loc) (ls : Array Slot), lw_ok k0 → q18 k0 x1 x3 x4 x6 x7 x8 = some z → wd_in cx_T D cy z0 ad u M X s H locs → lv_has ls 13 [(0, .ref (ad k0)), (1, .long x1), (3, .int x3), (4, .long x4), (6, .int x6), (7, .int x7), (8, .int x8)] → W p l e { frames := 1, cells := 0, slots := 0, locals := 22 } s m args below meth c H locs 0 0 (MQ below (cq_l cx_T D cy z0 ad u X z M) args s 0 0 (fun q => z0 ≤ q)) (F0 m 18 ls [])) (hf : f_X2_workOn_128 q18 k0 x1 x3 x4 x6 x8 x9 M = some z) {H : Heap} {locs : List Loc} (hw : wd_in cx_T D cy z0 ad u M X s H locs) {ls : Array Slot} (hl : lv_has ls 13 [(0, .ref (ad k0)), (1, .long x1), (3, .int x3), (4, .long x4), (6, .int x6), (8, .int x8), (9, .int x9)]) : W p l e { frames := 1, cells := 0, slots := 0, locals := 22 } s m args below meth c H locs 0 0 (MQ below (cq_l cx_T D cy z0 ad u X z M) args s 0 0 (fun q => z0 ≤ q)) (F0 m 128 ls []) := by
  have hx := hC.1
  have hb := hC.2.1
  unfold f_X2_workOn_128 at hf
  refine lv_iload hx hb dX2_workOn_128 (lv_at hl 6 rfl) ?_
  refine lv_istore (lv' := [(7, .int x9), (0, .ref (ad k0)), (1, .long x1), (3, .int x3), (4, .long x4), (6, .int x6), (8, .int x8), (9, .int x9)]) hx hb dX2_workOn_130 hl (by decide) rfl (fun ls hl => ?_)
  obtain ⟨y12, ey12, hf⟩ := sq_e hf
  refine lv_iinc (v := y12) (lv' := [(8, .int y12), (7, .int x9), (0, .ref (ad k0)), (1, .long x1), (3, .int x3), (4, .long x4), (6, .int x6), (9, .int x9)]) hx hb dX2_workOn_132 hl (k := 6) rfl (by rw [ey12]; rfl) (by decide) rfl (fun ls hl => ?_)
  refine lv_goto (tgt := 18) hx hb dX2_workOn_135 (by decide) ?_
  exact hq18 _ _ _ _ _ _ _ _ _ _ hk0 hf hw (lv_sub hl [2, 3, 4, 5, 6, 1, 0] rfl)
set_option maxRecDepth 100000 in
set_option maxHeartbeats 4000000 in
theorem k_X2_workOn_104 {p : Program} {l : Launch} {e : Env} {s : State} {m : MethodId} {args : Array Value} {below : List Frame} {meth : Method} {c : Code} {D : va_G} {cy : Nat → ClassId} {z0 : Nat} {ad : Nat → Nat} {X : va_W} {u : Nat × Nat} (hC : cx_C p s m args meth c cX2_workOn "RhymedThen$Law" (Cond.code yX2_workOn cX2_workOn 13 (some .long)) 13 (some .long)) {z : Int64} {k0 : Nat} {x1 : Int64} {x3 : Int32} {x4 : Int64} {x6 : Int32} {x8 : Int32} {x9 : Int32} {t0 : Int32} {M : mm_M} (hk0 : lw_ok k0) {q18 : Nat → Int64 → Int32 → Int64 → Int32 → Int32 → Int32 → Option Int64} (hq18 : ∀ (k0 : Nat) (x1 : Int64) (x3 : Int32) (x4 : Int64) (x6 : Int32) (x7 : Int32) (x8 : Int32) (H : Heap) (locs : List Loc) (ls : Array Slot), lw_ok k0 → q18 k0 x1 x3 x4 x6 x7 x8 = some z → wd_in cx_T D cy z0 ad u M X s H locs → lv_has ls 13 [(0, .ref (ad k0)), (1, .long x1), (3, .int x3), (4, .long x4), (6, .int x6), (7, .int x7), (8, .int x8)] → W p l e { frames := 1, cells := 0, slots := 0, locals := 22 } s m args below meth c H locs 0 0 (MQ below (cq_l cx_T D cy z0 ad u X z M) args s 0 0 (fun q => z0 ≤ q)) (F0 m 18 ls [])) (hf : f_X2_workOn_104 q18 k0 x1 x3 x4 x6 x8 x9 t0 M = some z) {H : Heap} {locs : List Loc} (hw : wd_in cx_T D cy z0 ad u M X s H locs) {ls : Array Slot} (hl : lv_has ls 13 [(0, .ref (ad k0)), (1, .long x1), (3, .int x3), (4, .long x4), (6, .int x6), (8, .int x8), (9, .int x9)]) : W p l e { frames := 1, cells := 0, slots := 0, locals := 22 } s m args below meth c H locs 0 0 (MQ below (cq_l cx_T D cy z0 ad u X z M) args s 0 0 (fun q => z0 ≤ q)) (F0 m 104 ls [.int t0]) := by
  have hx := hC.1
  have hb := hC.2.1
  unfold f_X2_workOn_104 at hf
  refine lv_istore (lv' := [(12, .int t0), (0, .ref (ad k0)), (1, .long x1), (3, .int x3), (4, .long x4), (6, .int x6), (8, .int x8), (9, .int x9)]) hx hb dX2_workOn_104 hl (by decide) rfl (fun ls hl => ?_)
  refine lv_iload hx hb dX2_workOn_106 (lv_at hl 0 rfl) ?_
  refine lv_iconst (v := (-1)) hx hb dX2_workOn_108 (by decide) ?_
  refine lv_icmp_eq (tgt := 128) hx hb dX2_workOn_109 (by decide) (fun c9 => ?_) (fun c9 => ?_)
  · rw [if_pos c9] at hf
    exact k_X2_workOn_128 hC hk0 hq18 hf hw (lv_sub hl [1, 2, 3, 4, 5, 6, 7] rfl)
  · rw [if_neg c9] at hf
    refine lv_lload hx hb dX2_workOn_112 (lv_at hl 4 rfl) ?_
    refine lv_iload hx hb dX2_workOn_114 (lv_at hl 0 rfl) ?_
    refine lv_i2l hx hb dX2_workOn_116 rfl ?_
    refine lv_iconst (v := 4) hx hb dX2_workOn_117 (by decide) ?_
    refine lv_iload hx hb dX2_workOn_118 (lv_at hl 5 rfl) ?_
    refine lv_imul hx hb dX2_workOn_120 ?_
    refine lv_lshl hx hb dX2_workOn_121 rfl ?_
    refine lv_lor hx hb dX2_workOn_122 ?_
    obtain ⟨y10, ey10, hf⟩ := sq_e hf
    refine lt_l ey10 ?_
    refine lv_lstore (lv' := [(4, .long y10), (12, .int t0), (0, .ref (ad k0)), (1, .long x1), (3, .int x3), (6, .int x6), (8, .int x8), (9, .int x9)]) hx hb dX2_workOn_123 hl (by decide) rfl (fun ls hl => ?_)
    obtain ⟨y11, ey11, hf⟩ := sq_e hf
    refine lv_iinc (v := y11) (lv' := [(6, .int y11), (4, .long y10), (12, .int t0), (0, .ref (ad k0)), (1, .long x1), (3, .int x3), (8, .int x8), (9, .int x9)]) hx hb dX2_workOn_125 hl (k := 5) rfl (by rw [ey11]; rfl) (by decide) rfl (fun ls hl => ?_)
    exact k_X2_workOn_128 hC hk0 hq18 hf hw (lv_sub hl [3, 4, 5, 1, 0, 6, 7] rfl)
set_option maxRecDepth 100000 in
set_option maxHeartbeats 4000000 in
theorem k_X2_workOn_88 {p : Program} {l : Launch} {e : Env} {s : State} {m : MethodId} {args : Array Value} {below : List Frame} {meth : Method} {c : Code} {D : va_G} {cy : Nat → ClassId} {z0 : Nat} {ad : Nat → Nat} {X : va_W} {u : Nat × Nat} (hC : cx_C p s m args meth c cX2_workOn "RhymedThen$Law" (Cond.code yX2_workOn cX2_workOn 13 (some .long)) 13 (some .long)) {z : Int64} {k0 : Nat} {x1 : Int64} {x3 : Int32} {x4 : Int64} {x6 : Int32} {x8 : Int32} {x9 : Int32} {t0 : Int32} {M : mm_M} (hk0 : lw_ok k0) {q18 : Nat → Int64 → Int32 → Int64 → Int32 → Int32 → Int32 → Option Int64} (hq18 : ∀ (k0 : Nat) (x1 : Int64) (x3 : Int32) (x4 : Int64) (x6 : Int32) (x7 : Int32) (x8 : Int32) (H : Heap) (locs : List Loc) (ls : Array Slot), lw_ok k0 → q18 k0 x1 x3 x4 x6 x7 x8 = some z → wd_in cx_T D cy z0 ad u M X s H locs → lv_has ls 13 [(0, .ref (ad k0)), (1, .long x1), (3, .int x3), (4, .long x4), (6, .int x6), (7, .int x7), (8, .int x8)] → W p l e { frames := 1, cells := 0, slots := 0, locals := 22 } s m args below meth c H locs 0 0 (MQ below (cq_l cx_T D cy z0 ad u X z M) args s 0 0 (fun q => z0 ≤ q)) (F0 m 18 ls [])) (hf : f_X2_workOn_88 q18 k0 x1 x3 x4 x6 x8 x9 t0 M = some z) {H : Heap} {locs : List Loc} (hw : wd_in cx_T D cy z0 ad u M X s H locs) {ls : Array Slot} (hl : lv_has ls 13 [(0, .ref (ad k0)), (1, .long x1), (3, .int x3), (4, .long x4), (6, .int x6), (8, .int x8), (9, .int x9)]) : W p l e { frames := 1, cells := 0, slots := 0, locals := 22 } s m args below meth c H locs 0 0 (MQ below (cq_l cx_T D cy z0 ad u X z M) args s 0 0 (fun q => z0 ≤ q)) (F0 m 88 ls [.int t0]) := by
  have hx := hC.1
  have hb := hC.2.1
  unfold f_X2_workOn_88 at hf
  refine lv_istore (lv' := [(11, .int t0), (0, .ref (ad k0)), (1, .long x1), (3, .int x3), (4, .long x4), (6, .int x6), (8, .int x8), (9, .int x9)]) hx hb dX2_workOn_88 hl (by decide) rfl (fun ls hl => ?_)
  refine lv_iload hx hb dX2_workOn_90 (lv_at hl 0 rfl) ?_
  refine lv_if_eq (tgt := 102) hx hb dX2_workOn_92 (by decide) (fun c8 => ?_) (fun c8 => ?_)
  · rw [if_pos c8] at hf
    refine lv_iload hx hb dX2_workOn_102 (lv_at hl 7 rfl) ?_
    exact k_X2_workOn_104 hC hk0 hq18 hf hw (lv_sub hl [1, 2, 3, 4, 5, 6, 7] rfl)
  · rw [if_neg c8] at hf
    refine lv_aload_n hx hb dX2_workOn_95 rfl (lv_at hl 1 rfl) ?_
    refine rg_i hC hw k0 (lw_lt hk0) (lw_kd hk0) fd_X2_3 wf_X2_23 dX2_workOn_96 ?_
    refine lv_goto (tgt := 104) hx hb dX2_workOn_99 (by decide) ?_
    exact k_X2_workOn_104 hC hk0 hq18 hf hw (lv_sub hl [1, 2, 3, 4, 5, 6, 7] rfl)
set_option maxRecDepth 100000 in
set_option maxHeartbeats 4000000 in
theorem k_X2_workOn_53 {p : Program} {l : Launch} {e : Env} {s : State} {m : MethodId} {args : Array Value} {below : List Frame} {meth : Method} {c : Code} {D : va_G} {cy : Nat → ClassId} {z0 : Nat} {ad : Nat → Nat} {X : va_W} {u : Nat × Nat} (hC : cx_C p s m args meth c cX2_workOn "RhymedThen$Law" (Cond.code yX2_workOn cX2_workOn 13 (some .long)) 13 (some .long)) {z : Int64} {k0 : Nat} {x1 : Int64} {x3 : Int32} {x4 : Int64} {x6 : Int32} {x7 : Int32} {x8 : Int32} {x9 : Int32} {t0 : Int32} {M : mm_M} (hk0 : lw_ok k0) {q18 : Nat → Int64 → Int32 → Int64 → Int32 → Int32 → Int32 → Option Int64} (hq18 : ∀ (k0 : Nat) (x1 : Int64) (x3 : Int32) (x4 : Int64) (x6 : Int32) (x7 : Int32) (x8 : Int32) (H : Heap) (locs : List Loc) (ls : Array Slot), lw_ok k0 → q18 k0 x1 x3 x4 x6 x7 x8 = some z → wd_in cx_T D cy z0 ad u M X s H locs → lv_has ls 13 [(0, .ref (ad k0)), (1, .long x1), (3, .int x3), (4, .long x4), (6, .int x6), (7, .int x7), (8, .int x8)] → W p l e { frames := 1, cells := 0, slots := 0, locals := 22 } s m args below meth c H locs 0 0 (MQ below (cq_l cx_T D cy z0 ad u X z M) args s 0 0 (fun q => z0 ≤ q)) (F0 m 18 ls [])) (hf : f_X2_workOn_53 q18 k0 x1 x3 x4 x6 x7 x8 x9 t0 M = some z) {H : Heap} {locs : List Loc} (hw : wd_in cx_T D cy z0 ad u M X s H locs) {ls : Array Slot} (hl : lv_has ls 13 [(0, .ref (ad k0)), (1, .long x1), (3, .int x3), (4, .long x4), (6, .int x6), (7, .int x7), (8, .int x8), (9, .int x9)]) : W p l e { frames := 1, cells := 0, slots := 0, locals := 22 } s m args below meth c H locs 0 0 (MQ below (cq_l cx_T D cy z0 ad u X z M) args s 0 0 (fun q => z0 ≤ q)) (F0 m 53 ls [.int t0]) := by
  have hx := hC.1
  have hb := hC.2.1
  unfold f_X2_workOn_53 at hf
  refine lv_istore (lv' := [(10, .int t0), (0, .ref (ad k0)), (1, .long x1), (3, .int x3), (4, .long x4), (6, .int x6), (7, .int x7), (8, .int x8), (9, .int x9)]) hx hb dX2_workOn_53 hl (by decide) rfl (fun ls hl => ?_)
  refine lv_aload_n hx hb dX2_workOn_55 rfl (lv_at hl 1 rfl) ?_
  refine rg_i hC hw k0 (lw_lt hk0) (lw_kd hk0) fd_X2_4 wf_X2_49 dX2_workOn_56 ?_
  refine lv_iload hx hb dX2_workOn_59 (lv_at hl 8 rfl) ?_
  refine lv_ishr hx hb dX2_workOn_61 ?_
  refine lv_aload_n hx hb dX2_workOn_62 rfl (lv_at hl 1 rfl) ?_
  refine rg_i hC hw k0 (lw_lt hk0) (lw_kd hk0) fd_X2_5 wf_X2_52 dX2_workOn_63 ?_
  refine lv_iload hx hb dX2_workOn_66 (lv_at hl 6 rfl) ?_
  refine lv_ishr hx hb dX2_workOn_68 ?_
  refine lv_iand hx hb dX2_workOn_69 ?_
  refine lv_aload_n hx hb dX2_workOn_70 rfl (lv_at hl 1 rfl) ?_
  refine rg_i hC hw k0 (lw_lt hk0) (lw_kd hk0) fd_X2_6 wf_X2_55 dX2_workOn_71 ?_
  refine lv_iload hx hb dX2_workOn_74 (lv_at hl 0 rfl) ?_
  refine lv_ishr hx hb dX2_workOn_76 ?_
  refine lv_iand hx hb dX2_workOn_77 ?_
  refine lv_iconst (v := 1) hx hb dX2_workOn_78 (by decide) ?_
  refine lv_iand hx hb dX2_workOn_79 ?_
  refine lv_if_eq (tgt := 87) hx hb dX2_workOn_80 (by decide) (fun c7 => ?_) (fun c7 => ?_)
  · rw [if_pos c7] at hf
    refine lv_iconst (v := 0) hx hb dX2_workOn_87 (by decide) ?_
    exact k_X2_workOn_88 hC hk0 hq18 hf hw (lv_sub hl [1, 2, 3, 4, 5, 7, 8] rfl)
  · rw [if_neg c7] at hf
    refine lv_iconst (v := 1) hx hb dX2_workOn_83 (by decide) ?_
    refine lv_goto (tgt := 88) hx hb dX2_workOn_84 (by decide) ?_
    exact k_X2_workOn_88 hC hk0 hq18 hf hw (lv_sub hl [1, 2, 3, 4, 5, 7, 8] rfl)
set_option maxRecDepth 100000 in
set_option maxHeartbeats 4000000 in
theorem k_X2_workOn_138 {p : Program} {l : Launch} {e : Env} {s : State} {m : MethodId} {args : Array Value} {below : List Frame} {meth : Method} {c : Code} {D : va_G} {cy : Nat → ClassId} {z0 : Nat} {ad : Nat → Nat} {X : va_W} {u : Nat × Nat} (hC : cx_C p s m args meth c cX2_workOn "RhymedThen$Law" (Cond.code yX2_workOn cX2_workOn 13 (some .long)) 13 (some .long)) {z : Int64} {x4 : Int64} {x6 : Int32} {M : mm_M} (hf : f_X2_workOn_138 x4 x6 M = some z) {H : Heap} {locs : List Loc} (hw : wd_in cx_T D cy z0 ad u M X s H locs) {ls : Array Slot} (hl : lv_has ls 13 [(4, .long x4), (6, .int x6)]) : W p l e { frames := 1, cells := 0, slots := 0, locals := 22 } s m args below meth c H locs 0 0 (MQ below (cq_l cx_T D cy z0 ad u X z M) args s 0 0 (fun q => z0 ≤ q)) (F0 m 138 ls []) := by
  have hx := hC.1
  have hb := hC.2.1
  unfold f_X2_workOn_138 at hf
  refine lv_lload hx hb dX2_workOn_138 (lv_at hl 0 rfl) ?_
  refine lv_iload hx hb dX2_workOn_140 (lv_at hl 1 rfl) ?_
  obtain ⟨z6, ez6, hf⟩ := sq_e hf
  refine clc_Sl hC hw (c_X0_of ez6.symm) hd_X0_of cw_X2_76 (rest := []) hl.1 rfl (Nat.le_of_ble_eq_true rfl) ⟨Nat.le_of_ble_eq_true rfl, Nat.le_of_ble_eq_true rfl⟩ ⟨Nat.zero_le _, Nat.zero_le _⟩ rfl dX2_workOn_142 (fun H locs hw => ?_)
  have hz := Option.some.inj hf
  subst hz
  exact rtc_l hC hw dX2_workOn_145
set_option maxRecDepth 100000 in
set_option maxHeartbeats 4000000 in
theorem k_X2_workOn_18 {p : Program} {l : Launch} {e : Env} {s : State} {m : MethodId} {args : Array Value} {below : List Frame} {meth : Method} {c : Code} {D : va_G} {cy : Nat → ClassId} {z0 : Nat} {ad : Nat → Nat} {X : va_W} {u : Nat × Nat} (hC : cx_C p s m args meth c cX2_workOn "RhymedThen$Law" (Cond.code yX2_workOn cX2_workOn 13 (some .long)) 13 (some .long)) {z : Int64} {k0 : Nat} {x1 : Int64} {x3 : Int32} {x4 : Int64} {x6 : Int32} {x7 : Int32} {x8 : Int32} {M : mm_M} (hk0 : lw_ok k0) {q18 : Nat → Int64 → Int32 → Int64 → Int32 → Int32 → Int32 → Option Int64} (hq18 : ∀ (k0 : Nat) (x1 : Int64) (x3 : Int32) (x4 : Int64) (x6 : Int32) (x7 : Int32) (x8 : Int32) (H : Heap) (locs : List Loc) (ls : Array Slot), lw_ok k0 → q18 k0 x1 x3 x4 x6 x7 x8 = some z → wd_in cx_T D cy z0 ad u M X s H locs → lv_has ls 13 [(0, .ref (ad k0)), (1, .long x1), (3, .int x3), (4, .long x4), (6, .int x6), (7, .int x7), (8, .int x8)] → W p l e { frames := 1, cells := 0, slots := 0, locals := 22 } s m args below meth c H locs 0 0 (MQ below (cq_l cx_T D cy z0 ad u X z M) args s 0 0 (fun q => z0 ≤ q)) (F0 m 18 ls [])) (hf : f_X2_workOn_18 q18 k0 x1 x3 x4 x6 x7 x8 M = some z) {H : Heap} {locs : List Loc} (hw : wd_in cx_T D cy z0 ad u M X s H locs) {ls : Array Slot} (hl : lv_has ls 13 [(0, .ref (ad k0)), (1, .long x1), (3, .int x3), (4, .long x4), (6, .int x6), (7, .int x7), (8, .int x8)]) : W p l e { frames := 1, cells := 0, slots := 0, locals := 22 } s m args below meth c H locs 0 0 (MQ below (cq_l cx_T D cy z0 ad u X z M) args s 0 0 (fun q => z0 ≤ q)) (F0 m 18 ls []) := by
  have hx := hC.1
  have hb := hC.2.1
  unfold f_X2_workOn_18 at hf
  refine lv_iload hx hb dX2_workOn_18 (lv_at hl 6 rfl) ?_
  refine lv_iload_n hx hb dX2_workOn_20 rfl (lv_at hl 2 rfl) ?_
  refine lv_icmp_ge (tgt := 138) hx hb dX2_workOn_21 (by decide) (fun c2 => ?_) (fun c2 => ?_)
  · rw [if_pos c2] at hf
    exact k_X2_workOn_138 hC hf hw (lv_sub hl [3, 4] rfl)
  · rw [if_neg c2] at hf
    refine lv_lload_n hx hb dX2_workOn_24 rfl (lv_at hl 1 rfl) ?_
    refine lv_iload hx hb dX2_workOn_25 (lv_at hl 6 rfl) ?_
    obtain ⟨z3, ez3, hf⟩ := sq_e hf
    refine clc_Si hC hw (c_X0_soundAt ez3.symm) hd_X0_soundAt cw_X2_72 (rest := []) hl.1 rfl (Nat.le_of_ble_eq_true rfl) ⟨Nat.le_of_ble_eq_true rfl, Nat.le_of_ble_eq_true rfl⟩ ⟨Nat.zero_le _, Nat.zero_le _⟩ rfl dX2_workOn_27 (fun H locs hw => ?_)
    refine lv_istore (lv' := [(9, .int z3), (0, .ref (ad k0)), (1, .long x1), (3, .int x3), (4, .long x4), (6, .int x6), (7, .int x7), (8, .int x8)]) hx hb dX2_workOn_30 hl (by decide) rfl (fun ls hl => ?_)
    refine lv_iload hx hb dX2_workOn_32 (lv_at hl 7 rfl) ?_
    refine lv_iconst (v := 1) hx hb dX2_workOn_34 (by decide) ?_
    refine lv_iadd hx hb dX2_workOn_35 ?_
    refine lv_iload_n hx hb dX2_workOn_36 rfl (lv_at hl 3 rfl) ?_
    refine lv_icmp_ge (tgt := 51) hx hb dX2_workOn_37 (by decide) (fun c4 => ?_) (fun c4 => ?_)
    · rw [if_pos c4] at hf
      refine lv_bipush (v := 16) hx hb dX2_workOn_51 (by decide) ?_
      exact k_X2_workOn_53 hC hk0 hq18 hf hw (lv_sub hl [1, 2, 3, 4, 5, 6, 7, 0] rfl)
    · rw [if_neg c4] at hf
      refine lv_lload_n hx hb dX2_workOn_40 rfl (lv_at hl 2 rfl) ?_
      refine lv_iload hx hb dX2_workOn_41 (lv_at hl 7 rfl) ?_
      refine lv_iconst (v := 1) hx hb dX2_workOn_43 (by decide) ?_
      refine lv_iadd hx hb dX2_workOn_44 ?_
      obtain ⟨z5, ez5, hf⟩ := sq_e hf
      refine clc_Si hC hw (c_X0_soundAt ez5.symm) hd_X0_soundAt cw_X2_72 (rest := []) hl.1 rfl (Nat.le_of_ble_eq_true rfl) ⟨Nat.le_of_ble_eq_true rfl, Nat.le_of_ble_eq_true rfl⟩ ⟨Nat.zero_le _, Nat.zero_le _⟩ rfl dX2_workOn_45 (fun H locs hw => ?_)
      refine lv_goto (tgt := 53) hx hb dX2_workOn_48 (by decide) ?_
      exact k_X2_workOn_53 hC hk0 hq18 hf hw (lv_sub hl [1, 2, 3, 4, 5, 6, 7, 0] rfl)
set_option maxRecDepth 100000 in
set_option maxHeartbeats 4000000 in
theorem k_X2_workOn_18l {p : Program} {l : Launch} {e : Env} {s : State} {m : MethodId} {args : Array Value} {below : List Frame} {meth : Method} {c : Code} {D : va_G} {cy : Nat → ClassId} {z0 : Nat} {ad : Nat → Nat} {X : va_W} {u : Nat × Nat} (hC : cx_C p s m args meth c cX2_workOn "RhymedThen$Law" (Cond.code yX2_workOn cX2_workOn 13 (some .long)) 13 (some .long)) {z : Int64} {M : mm_M} : ∀ (n : Nat) (k0 : Nat) (x1 : Int64) (x3 : Int32) (x4 : Int64) (x6 : Int32) (x7 : Int32) (x8 : Int32) (H : Heap) (locs : List Loc) (ls : Array Slot), lw_ok k0 → f_X2_workOn_18l M n k0 x1 x3 x4 x6 x7 x8 = some z → wd_in cx_T D cy z0 ad u M X s H locs → lv_has ls 13 [(0, .ref (ad k0)), (1, .long x1), (3, .int x3), (4, .long x4), (6, .int x6), (7, .int x7), (8, .int x8)] → W p l e { frames := 1, cells := 0, slots := 0, locals := 22 } s m args below meth c H locs 0 0 (MQ below (cq_l cx_T D cy z0 ad u X z M) args s 0 0 (fun q => z0 ≤ q)) (F0 m 18 ls []) := by
  intro n
  induction n with
  | zero => intro k0 x1 x3 x4 x6 x7 x8 H locs ls hhk0 hf; exact absurd hf (by simp [f_X2_workOn_18l])
  | succ n ih => intro k0 x1 x3 x4 x6 x7 x8 H locs ls hhk0 hf hw hl; exact k_X2_workOn_18 hC hhk0 ih hf hw hl
set_option maxRecDepth 100000 in
set_option maxHeartbeats 4000000 in
theorem k_X2_workOn {p : Program} {l : Launch} {e : Env} {s : State} {m : MethodId} {args : Array Value} {below : List Frame} {meth : Method} {c : Code} {D : va_G} {cy : Nat → ClassId} {z0 : Nat} {ad : Nat → Nat} {X : va_W} {u : Nat × Nat} (hC : cx_C p s m args meth c cX2_workOn "RhymedThen$Law" (Cond.code yX2_workOn cX2_workOn 13 (some .long)) 13 (some .long)) {z : Int64} {k0 : Nat} {x1 : Int64} {M : mm_M} (hk0 : lw_ok k0) (hf : f_X2_workOn k0 x1 M = some z) {H : Heap} {locs : List Loc} (hw : wd_in cx_T D cy z0 ad u M X s H locs) {ls : Array Slot} (hl : lv_has ls 13 [(0, .ref (ad k0)), (1, .long x1)]) : W p l e { frames := 1, cells := 0, slots := 0, locals := 22 } s m args below meth c H locs 0 0 (MQ below (cq_l cx_T D cy z0 ad u X z M) args s 0 0 (fun q => z0 ≤ q)) (F0 m 0 ls []) := by
  have hx := hC.1
  have hb := hC.2.1
  unfold f_X2_workOn at hf
  refine lv_lload_n hx hb dX2_workOn_0 rfl (lv_at hl 1 rfl) ?_
  obtain ⟨z1, ez1, hf⟩ := sq_e hf
  refine clc_Si hC hw (c_X0_lengthOf ez1.symm) hd_X0_lengthOf cw_X2_66 (rest := []) hl.1 rfl (Nat.le_of_ble_eq_true rfl) ⟨Nat.le_of_ble_eq_true rfl, Nat.le_of_ble_eq_true rfl⟩ ⟨Nat.zero_le _, Nat.zero_le _⟩ rfl dX2_workOn_1 (fun H locs hw => ?_)
  refine lv_istore_n (lv' := [(3, .int z1), (0, .ref (ad k0)), (1, .long x1)]) hx hb dX2_workOn_4 rfl hl (by decide) rfl (fun ls hl => ?_)
  refine lv_lconst (v := 0) hx hb dX2_workOn_5 (by decide) ?_
  refine lv_lstore (lv' := [(4, .long 0), (3, .int z1), (0, .ref (ad k0)), (1, .long x1)]) hx hb dX2_workOn_6 hl (by decide) rfl (fun ls hl => ?_)
  refine lv_iconst (v := 0) hx hb dX2_workOn_8 (by decide) ?_
  refine lv_istore (lv' := [(6, .int 0), (4, .long 0), (3, .int z1), (0, .ref (ad k0)), (1, .long x1)]) hx hb dX2_workOn_9 hl (by decide) rfl (fun ls hl => ?_)
  refine lv_bipush (v := 16) hx hb dX2_workOn_11 (by decide) ?_
  refine lv_istore (lv' := [(7, .int 16), (6, .int 0), (4, .long 0), (3, .int z1), (0, .ref (ad k0)), (1, .long x1)]) hx hb dX2_workOn_13 hl (by decide) rfl (fun ls hl => ?_)
  refine lv_iconst (v := 0) hx hb dX2_workOn_15 (by decide) ?_
  refine lv_istore (lv' := [(8, .int 0), (7, .int 16), (6, .int 0), (4, .long 0), (3, .int z1), (0, .ref (ad k0)), (1, .long x1)]) hx hb dX2_workOn_16 hl (by decide) rfl (fun ls hl => ?_)
  exact k_X2_workOn_18l hC fu_ _ _ _ _ _ _ _ _ _ _ hk0 hf hw (lv_sub hl [5, 6, 4, 3, 2, 1, 0] rfl)
set_option maxRecDepth 100000 in
theorem c_X2_workOn {l : Launch} {D : va_G} {cy : Nat → ClassId} {z0 : Nat} {ad : Nat → Nat} {u : Nat × Nat} {X : va_W} {z : Int64} {k0 : Nat} {x1 : Int64} {M : mm_M} (hk0 : lw_ok k0) (hf : f_X2_workOn k0 x1 M = some z) : ct_l cx_T l yX2_workOn (Cond.code yX2_workOn cX2_workOn 13 (some .long)) 1 22 D cy z0 ad u M X [.ref (ad k0), .long x1] z M := by
  refine bgc_l (by decide) (fun p e s m below meth c hC hw => ?_)
  refine en_t (Nat.le_of_ble_eq_true rfl) (fun ls hl => ?_)
  have hl : lv_has ls 13 [(0, .ref (ad k0)), (1, .long x1)] := hl
  exact k_X2_workOn hC hk0 hf hw hl
set_option maxRecDepth 100000 in
set_option maxHeartbeats 4000000 in
theorem k_X9_courseAfter_94 {p : Program} {l : Launch} {e : Env} {s : State} {m : MethodId} {args : Array Value} {below : List Frame} {meth : Method} {c : Code} {D : va_G} {cy : Nat → ClassId} {z0 : Nat} {ad : Nat → Nat} {X : va_W} {u : Nat × Nat} (hC : cx_C p s m args meth c cX9_courseAfter "RhymedThen$Tongue" (Cond.code yX9_courseAfter cX9_courseAfter 5 (some .int)) 5 (some .int)) {z : (Int32 × mm_M)} {c0 : Nat} {x3 : Int32} {M : mm_M} (hc0 : c0 ≤ M.2.2) (hf : f_X9_courseAfter_94 x3 M = some z) {H : Heap} {locs : List Loc} (hw : wd_in cx_T D cy z0 ad u M X s H locs) {ls : Array Slot} (hl : lv_has ls 5 [(0, .ref (ad 5)), (3, .int x3)]) : W p l e { frames := 4, cells := 2 * (z.2.2.2 - c0), slots := 52 * (z.2.2.2 - c0), locals := 140 } s m args below meth c H locs (2 * (M.2.2 - c0)) (52 * (M.2.2 - c0)) (MQ below (aq_i cx_T D cy z0 ad X z.1 z.2) args s (2 * (z.2.2.2 - c0)) (52 * (z.2.2.2 - c0)) (fun q => z0 ≤ q)) (F0 m 94 ls []) := by
  have hx := hC.1
  have hb := hC.2.1
  have hmz : M.2.2 ≤ z.2.2.2 := mo_X9_courseAfter_94 hf
  unfold f_X9_courseAfter_94 at hf
  refine lv_aload_n hx hb dX9_courseAfter_94 rfl (lv_at hl 0 rfl) ?_
  refine rg_8 hC hw 5 (Nat.le_of_ble_eq_true rfl) rfl fd_X9_5 wf_X9_31 dX9_courseAfter_95 ?_
  refine lv_iload_n hx hb dX9_courseAfter_98 rfl (lv_at hl 1 rfl) ?_
  obtain ⟨h5, hf⟩ := ck_e hf
  refine rg_i8 hC hw rfl (n := 70) rfl h5 dX9_courseAfter_99 ?_
  refine W.widen (k := 2 * (z.2.2.2 - c0)) (n := 52 * (z.2.2.2 - c0)) (by omega) (by omega) ?_
  have hz := Option.some.inj hf
  subst hz
  exact rta_i hC hw dX9_courseAfter_100
set_option maxRecDepth 100000 in
set_option maxHeartbeats 4000000 in
theorem k_X9_courseAfter_74 {p : Program} {l : Launch} {e : Env} {s : State} {m : MethodId} {args : Array Value} {below : List Frame} {meth : Method} {c : Code} {D : va_G} {cy : Nat → ClassId} {z0 : Nat} {ad : Nat → Nat} {X : va_W} {u : Nat × Nat} (hC : cx_C p s m args meth c cX9_courseAfter "RhymedThen$Tongue" (Cond.code yX9_courseAfter cX9_courseAfter 5 (some .int)) 5 (some .int)) {z : (Int32 × mm_M)} {c0 : Nat} {x3 : Int32} {M : mm_M} (hc0 : c0 ≤ M.2.2) (hf : f_X9_courseAfter_74 x3 M = some z) {H : Heap} {locs : List Loc} (hw : wd_in cx_T D cy z0 ad u M X s H locs) {ls : Array Slot} (hl : lv_has ls 5 [(0, .ref (ad 5)), (3, .int x3)]) : W p l e { frames := 4, cells := 2 * (z.2.2.2 - c0), slots := 52 * (z.2.2.2 - c0), locals := 140 } s m args below meth c H locs (2 * (M.2.2 - c0)) (52 * (M.2.2 - c0)) (MQ below (aq_i cx_T D cy z0 ad X z.1 z.2) args s (2 * (z.2.2.2 - c0)) (52 * (z.2.2.2 - c0)) (fun q => z0 ≤ q)) (F0 m 74 ls []) := by
  have hx := hC.1
  have hb := hC.2.1
  have hmz : M.2.2 ≤ z.2.2.2 := mo_X9_courseAfter_74 hf
  unfold f_X9_courseAfter_74 at hf
  refine lv_aload_n hx hb dX9_courseAfter_74 rfl (lv_at hl 0 rfl) ?_
  refine rg_8 hC hw 5 (Nat.le_of_ble_eq_true rfl) rfl fd_X9_5 wf_X9_31 dX9_courseAfter_75 ?_
  refine lv_iload_n hx hb dX9_courseAfter_78 rfl (lv_at hl 1 rfl) ?_
  refine lv_aload_n hx hb dX9_courseAfter_79 rfl (lv_at hl 0 rfl) ?_
  refine rg_i hC hw 5 (Nat.le_of_ble_eq_true rfl) rfl fd_X9_4 wf_X9_28 dX9_courseAfter_80 ?_
  obtain ⟨h13, hf⟩ := ck_e hf
  obtain ⟨M14, eM14, hf⟩ := sq_e hf
  have mM14 : M.2.2 ≤ M14.2.2 := by rw [eM14]; exact Nat.le_refl _
  refine rg_s8 hC hw rfl (n := 70) rfl h13 dX9_courseAfter_83 eM14 (fun H locs hw => ?_)
  refine lv_aload_n hx hb dX9_courseAfter_84 rfl (lv_at hl 0 rfl) ?_
  refine lv_dup hx hb dX9_courseAfter_85 rfl ?_
  refine rg_i hC hw 5 (Nat.le_of_ble_eq_true rfl) rfl fd_X9_4 wf_X9_28 dX9_courseAfter_86 ?_
  refine lv_iconst (v := 1) hx hb dX9_courseAfter_89 (by decide) ?_
  refine lv_iadd hx hb dX9_courseAfter_90 ?_
  obtain ⟨M15, eM15, hf⟩ := sq_e hf
  have mM15 : M14.2.2 ≤ M15.2.2 := by rw [eM15]; exact Nat.le_refl _
  refine rp_i hC hw 5 (Nat.le_of_ble_eq_true rfl) rfl fd_X9_4 wf_X9_28 fp_X9_4 rfl rfl dX9_courseAfter_91 eM15 (fun H locs hw => ?_)
  refine W.widen (k := 2 * (M15.2.2 - c0)) (n := 52 * (M15.2.2 - c0)) (by omega) (by omega) ?_
  exact k_X9_courseAfter_94 hC (by omega) hf hw (lv_sub hl [0, 1] rfl)
set_option maxRecDepth 100000 in
set_option maxHeartbeats 4000000 in
theorem k_X9_courseAfter_23 {p : Program} {l : Launch} {e : Env} {s : State} {m : MethodId} {args : Array Value} {below : List Frame} {meth : Method} {c : Code} {D : va_G} {cy : Nat → ClassId} {z0 : Nat} {ad : Nat → Nat} {X : va_W} {u : Nat × Nat} (hC : cx_C p s m args meth c cX9_courseAfter "RhymedThen$Tongue" (Cond.code yX9_courseAfter cX9_courseAfter 5 (some .int)) 5 (some .int)) {z : (Int32 × mm_M)} {c0 : Nat} {x1 : Int32} {x2 : Int32} {x3 : Int32} {x4 : Int32} {M : mm_M} (hc0 : c0 ≤ M.2.2) {q23 : Int32 → Int32 → Int32 → Int32 → mm_M → Option (Int32 × mm_M)} (hq23 : ∀ (x1 : Int32) (x2 : Int32) (x3 : Int32) (x4 : Int32) (M : mm_M) (u : Nat × Nat) (H : Heap) (locs : List Loc) (ls : Array Slot), c0 ≤ M.2.2 → q23 x1 x2 x3 x4 M = some z → wd_in cx_T D cy z0 ad u M X s H locs → lv_has ls 5 [(0, .ref (ad 5)), (1, .int x1), (2, .int x2), (3, .int x3), (4, .int x4)] → W p l e { frames := 4, cells := 2 * (z.2.2.2 - c0), slots := 52 * (z.2.2.2 - c0), locals := 140 } s m args below meth c H locs (2 * (M.2.2 - c0)) (52 * (M.2.2 - c0)) (MQ below (aq_i cx_T D cy z0 ad X z.1 z.2) args s (2 * (z.2.2.2 - c0)) (52 * (z.2.2.2 - c0)) (fun q => z0 ≤ q)) (F0 m 23 ls [])) (hm23 : ∀ (x1 : Int32) (x2 : Int32) (x3 : Int32) (x4 : Int32) (M : mm_M), q23 x1 x2 x3 x4 M = some z → M.2.2 ≤ z.2.2.2) (hf : f_X9_courseAfter_23 q23 x1 x2 x3 x4 M = some z) {H : Heap} {locs : List Loc} (hw : wd_in cx_T D cy z0 ad u M X s H locs) {ls : Array Slot} (hl : lv_has ls 5 [(0, .ref (ad 5)), (1, .int x1), (2, .int x2), (3, .int x3), (4, .int x4)]) : W p l e { frames := 4, cells := 2 * (z.2.2.2 - c0), slots := 52 * (z.2.2.2 - c0), locals := 140 } s m args below meth c H locs (2 * (M.2.2 - c0)) (52 * (M.2.2 - c0)) (MQ below (aq_i cx_T D cy z0 ad X z.1 z.2) args s (2 * (z.2.2.2 - c0)) (52 * (z.2.2.2 - c0)) (fun q => z0 ≤ q)) (F0 m 23 ls []) := by
  have hx := hC.1
  have hb := hC.2.1
  have hmz : M.2.2 ≤ z.2.2.2 := mo_X9_courseAfter_23 hm23 hf
  unfold f_X9_courseAfter_23 at hf
  refine lv_iload hx hb dX9_courseAfter_23 (lv_at hl 4 rfl) ?_
  refine lv_aload_n hx hb dX9_courseAfter_25 rfl (lv_at hl 0 rfl) ?_
  refine rg_i hC hw 5 (Nat.le_of_ble_eq_true rfl) rfl fd_X9_2 wf_X9_21 dX9_courseAfter_26 ?_
  refine lv_icmp_ge (tgt := 74) hx hb dX9_courseAfter_29 (by decide) (fun c6 => ?_) (fun c6 => ?_)
  · rw [if_pos c6] at hf
    refine W.widen (k := 2 * (M.2.2 - c0)) (n := 52 * (M.2.2 - c0)) (by omega) (by omega) ?_
    exact k_X9_courseAfter_74 hC (by omega) hf hw (lv_sub hl [0, 3] rfl)
  · rw [if_neg c6] at hf
    refine lv_aload_n hx hb dX9_courseAfter_32 rfl (lv_at hl 0 rfl) ?_
    refine rg_9 hC hw 5 (Nat.le_of_ble_eq_true rfl) rfl fd_X9_6 wf_X9_34 dX9_courseAfter_33 ?_
    refine lv_aload_n hx hb dX9_courseAfter_36 rfl (lv_at hl 0 rfl) ?_
    refine rg_i hC hw 5 (Nat.le_of_ble_eq_true rfl) rfl fd_X9_4 wf_X9_28 dX9_courseAfter_37 ?_
    refine lv_bipush (v := 20) hx hb dX9_courseAfter_40 (by decide) ?_
    refine lv_imul hx hb dX9_courseAfter_42 ?_
    refine lv_iload hx hb dX9_courseAfter_43 (lv_at hl 4 rfl) ?_
    refine lv_iadd hx hb dX9_courseAfter_45 ?_
    refine lv_aload_n hx hb dX9_courseAfter_46 rfl (lv_at hl 0 rfl) ?_
    refine rg_p hC hw 5 (Nat.le_of_ble_eq_true rfl) rfl fd_X9_0 wf_X9_11 (q := 6) rfl dX9_courseAfter_47 ?_
    refine lv_iload_n hx hb dX9_courseAfter_50 rfl (lv_at hl 2 rfl) ?_
    obtain ⟨h7, hf⟩ := ck_e hf
    refine ra_L hC hw 6 (Nat.le_of_ble_eq_true rfl) rfl h7 dX9_courseAfter_51 ?_
    refine lv_aload_n hx hb dX9_courseAfter_52 rfl (lv_at hl 0 rfl) ?_
    refine rg_9 hC hw 5 (Nat.le_of_ble_eq_true rfl) rfl fd_X9_6 wf_X9_34 dX9_courseAfter_53 ?_
    refine lv_iload_n hx hb dX9_courseAfter_56 rfl (lv_at hl 1 rfl) ?_
    refine lv_bipush (v := 20) hx hb dX9_courseAfter_57 (by decide) ?_
    refine lv_imul hx hb dX9_courseAfter_59 ?_
    refine lv_iload hx hb dX9_courseAfter_60 (lv_at hl 4 rfl) ?_
    refine lv_iadd hx hb dX9_courseAfter_62 ?_
    obtain ⟨h8, hf⟩ := ck_e hf
    refine rg_l9 hC hw rfl (n := 71) rfl h8 dX9_courseAfter_63 ?_
    obtain ⟨z9, ez9, hf⟩ := bd_e hf
    refine clc_Vl hC hw (c_X2_workOn (lw_ix h7) ez9) hd_X2_workOn cw_X9_49 (lw_lt (lw_ix h7)) (lw_kd (lw_ix h7)) rfl (rest := [.int (((M.1 5 4) * 20) + x4), .ref u.2]) hl.1 rfl (Nat.le_of_ble_eq_true rfl) ⟨Nat.le_of_ble_eq_true rfl, Nat.le_of_ble_eq_true rfl⟩ ⟨(show 2 * (M.2.2 - c0) ≤ 2 * (z.2.2.2 - c0) by omega), (show 52 * (M.2.2 - c0) ≤ 52 * (z.2.2.2 - c0) by omega)⟩ rfl dX9_courseAfter_64 (fun H locs hw => ?_)
    obtain ⟨h10, hf⟩ := ck_e hf
    obtain ⟨M11, eM11, hf⟩ := sq_e hf
    have mM11 : M.2.2 ≤ M11.2.2 := by rw [eM11]; exact Nat.le_refl _
    refine rg_s9 hC hw rfl (n := 71) rfl h10 dX9_courseAfter_67 eM11 (fun H locs hw => ?_)
    obtain ⟨y12, ey12, hf⟩ := sq_e hf
    refine lv_iinc (v := y12) (lv' := [(4, .int y12), (0, .ref (ad 5)), (1, .int x1), (2, .int x2), (3, .int x3)]) hx hb dX9_courseAfter_68 hl (k := 4) rfl (by rw [ey12]; rfl) (by decide) rfl (fun ls hl => ?_)
    refine lv_goto (tgt := 23) hx hb dX9_courseAfter_71 (by decide) ?_
    refine W.widen (k := 2 * (M11.2.2 - c0)) (n := 52 * (M11.2.2 - c0)) (by omega) (by omega) ?_
    exact hq23 _ _ _ _ _ _ _ _ _ (by omega) hf hw (lv_sub hl [1, 2, 3, 4, 0] rfl)
set_option maxRecDepth 100000 in
set_option maxHeartbeats 4000000 in
theorem k_X9_courseAfter_23l {p : Program} {l : Launch} {e : Env} {s : State} {m : MethodId} {args : Array Value} {below : List Frame} {meth : Method} {c : Code} {D : va_G} {cy : Nat → ClassId} {z0 : Nat} {ad : Nat → Nat} {X : va_W} (hC : cx_C p s m args meth c cX9_courseAfter "RhymedThen$Tongue" (Cond.code yX9_courseAfter cX9_courseAfter 5 (some .int)) 5 (some .int)) {z : (Int32 × mm_M)} {c0 : Nat} : ∀ (n : Nat) (x1 : Int32) (x2 : Int32) (x3 : Int32) (x4 : Int32) (M : mm_M) (u : Nat × Nat) (H : Heap) (locs : List Loc) (ls : Array Slot), c0 ≤ M.2.2 → f_X9_courseAfter_23l n x1 x2 x3 x4 M = some z → wd_in cx_T D cy z0 ad u M X s H locs → lv_has ls 5 [(0, .ref (ad 5)), (1, .int x1), (2, .int x2), (3, .int x3), (4, .int x4)] → W p l e { frames := 4, cells := 2 * (z.2.2.2 - c0), slots := 52 * (z.2.2.2 - c0), locals := 140 } s m args below meth c H locs (2 * (M.2.2 - c0)) (52 * (M.2.2 - c0)) (MQ below (aq_i cx_T D cy z0 ad X z.1 z.2) args s (2 * (z.2.2.2 - c0)) (52 * (z.2.2.2 - c0)) (fun q => z0 ≤ q)) (F0 m 23 ls []) := by
  intro n
  induction n with
  | zero => intro x1 x2 x3 x4 M u H locs ls hc0 hf; exact absurd hf (by simp [f_X9_courseAfter_23l])
  | succ n ih => intro x1 x2 x3 x4 M u H locs ls hc0 hf hw hl; exact k_X9_courseAfter_23 hC hc0 ih (mo_X9_courseAfter_23l n) hf hw hl
set_option maxRecDepth 100000 in
set_option maxHeartbeats 4000000 in
theorem k_X9_courseAfter_20 {p : Program} {l : Launch} {e : Env} {s : State} {m : MethodId} {args : Array Value} {below : List Frame} {meth : Method} {c : Code} {D : va_G} {cy : Nat → ClassId} {z0 : Nat} {ad : Nat → Nat} {X : va_W} {u : Nat × Nat} (hC : cx_C p s m args meth c cX9_courseAfter "RhymedThen$Tongue" (Cond.code yX9_courseAfter cX9_courseAfter 5 (some .int)) 5 (some .int)) {z : (Int32 × mm_M)} {c0 : Nat} {x1 : Int32} {x2 : Int32} {x3 : Int32} {M : mm_M} (hc0 : c0 ≤ M.2.2) (hf : f_X9_courseAfter_20 x1 x2 x3 M = some z) {H : Heap} {locs : List Loc} (hw : wd_in cx_T D cy z0 ad u M X s H locs) {ls : Array Slot} (hl : lv_has ls 5 [(0, .ref (ad 5)), (1, .int x1), (2, .int x2), (3, .int x3)]) : W p l e { frames := 4, cells := 2 * (z.2.2.2 - c0), slots := 52 * (z.2.2.2 - c0), locals := 140 } s m args below meth c H locs (2 * (M.2.2 - c0)) (52 * (M.2.2 - c0)) (MQ below (aq_i cx_T D cy z0 ad X z.1 z.2) args s (2 * (z.2.2.2 - c0)) (52 * (z.2.2.2 - c0)) (fun q => z0 ≤ q)) (F0 m 20 ls []) := by
  have hx := hC.1
  have hb := hC.2.1
  have hmz : M.2.2 ≤ z.2.2.2 := mo_X9_courseAfter_20 hf
  unfold f_X9_courseAfter_20 at hf
  refine lv_iconst (v := 0) hx hb dX9_courseAfter_20 (by decide) ?_
  refine lv_istore (lv' := [(4, .int 0), (0, .ref (ad 5)), (1, .int x1), (2, .int x2), (3, .int x3)]) hx hb dX9_courseAfter_21 hl (by decide) rfl (fun ls hl => ?_)
  refine W.widen (k := 2 * (M.2.2 - c0)) (n := 52 * (M.2.2 - c0)) (by omega) (by omega) ?_
  exact k_X9_courseAfter_23l hC fu_ _ _ _ _ _ _ _ _ _ (by omega) hf hw (lv_sub hl [1, 2, 3, 4, 0] rfl)
set_option maxRecDepth 100000 in
set_option maxHeartbeats 4000000 in
theorem k_X9_courseAfter {p : Program} {l : Launch} {e : Env} {s : State} {m : MethodId} {args : Array Value} {below : List Frame} {meth : Method} {c : Code} {D : va_G} {cy : Nat → ClassId} {z0 : Nat} {ad : Nat → Nat} {X : va_W} {u : Nat × Nat} (hC : cx_C p s m args meth c cX9_courseAfter "RhymedThen$Tongue" (Cond.code yX9_courseAfter cX9_courseAfter 5 (some .int)) 5 (some .int)) {z : (Int32 × mm_M)} {c0 : Nat} {x1 : Int32} {x2 : Int32} {M : mm_M} (hc0 : c0 ≤ M.2.2) (hf : f_X9_courseAfter x1 x2 M = some z) {H : Heap} {locs : List Loc} (hw : wd_in cx_T D cy z0 ad u M X s H locs) {ls : Array Slot} (hl : lv_has ls 5 [(0, .ref (ad 5)), (1, .int x1), (2, .int x2)]) : W p l e { frames := 4, cells := 2 * (z.2.2.2 - c0), slots := 52 * (z.2.2.2 - c0), locals := 140 } s m args below meth c H locs (2 * (M.2.2 - c0)) (52 * (M.2.2 - c0)) (MQ below (aq_i cx_T D cy z0 ad X z.1 z.2) args s (2 * (z.2.2.2 - c0)) (52 * (z.2.2.2 - c0)) (fun q => z0 ≤ q)) (F0 m 0 ls []) := by
  have hx := hC.1
  have hb := hC.2.1
  have hmz : M.2.2 ≤ z.2.2.2 := mo_X9_courseAfter hf
  unfold f_X9_courseAfter at hf
  refine lv_iload_n hx hb dX9_courseAfter_0 rfl (lv_at hl 1 rfl) ?_
  refine lv_bipush (v := 6) hx hb dX9_courseAfter_1 (by decide) ?_
  refine lv_imul hx hb dX9_courseAfter_3 ?_
  refine lv_iload_n hx hb dX9_courseAfter_4 rfl (lv_at hl 2 rfl) ?_
  refine lv_iadd hx hb dX9_courseAfter_5 ?_
  obtain ⟨y1, ey1, hf⟩ := sq_e hf
  refine lt_i ey1 ?_
  refine lv_istore_n (lv' := [(3, .int y1), (0, .ref (ad 5)), (1, .int x1), (2, .int x2)]) hx hb dX9_courseAfter_6 rfl hl (by decide) rfl (fun ls hl => ?_)
  refine lv_aload_n hx hb dX9_courseAfter_7 rfl (lv_at hl 1 rfl) ?_
  refine rg_8 hC hw 5 (Nat.le_of_ble_eq_true rfl) rfl fd_X9_5 wf_X9_31 dX9_courseAfter_8 ?_
  refine lv_iload_n hx hb dX9_courseAfter_11 rfl (lv_at hl 0 rfl) ?_
  obtain ⟨h2, hf⟩ := ck_e hf
  refine rg_i8 hC hw rfl (n := 70) rfl h2 dX9_courseAfter_12 ?_
  refine lv_if_ne (tgt := 94) hx hb dX9_courseAfter_13 (by decide) (fun c3 => ?_) (fun c3 => ?_)
  · rw [if_neg c3] at hf
    refine W.widen (k := 2 * (M.2.2 - c0)) (n := 52 * (M.2.2 - c0)) (by omega) (by omega) ?_
    exact k_X9_courseAfter_94 hC (by omega) hf hw (lv_sub hl [1, 0] rfl)
  · rw [if_pos c3] at hf
    refine lv_aload_n hx hb dX9_courseAfter_16 rfl (lv_at hl 1 rfl) ?_
    obtain ⟨z4, ez4, hf⟩ := bd_e hf
    have mz4 : M.2.2 ≤ z4.2.2 := mo_X9_makeRoom ez4
    have hnz : z4.2.2 ≤ z.2.2.2 := mo_X9_courseAfter_20 hf
    refine cla_Vv hC hw (c_X9_makeRoom ez4) hd_X9_makeRoom cw_X9_46 (Nat.le_of_ble_eq_true rfl) rfl rfl (rest := []) hl.1 rfl (Nat.le_of_ble_eq_true rfl) ⟨Nat.le_of_ble_eq_true rfl, Nat.le_of_ble_eq_true rfl⟩ ⟨(show 2 * (M.2.2 - c0) + 2 * (z4.2.2 - M.2.2) ≤ 2 * (z.2.2.2 - c0) by omega), (show 52 * (M.2.2 - c0) + 52 * (z4.2.2 - M.2.2) ≤ 52 * (z.2.2.2 - c0) by omega)⟩ rfl dX9_courseAfter_17 (fun u H locs hw => ?_)
    refine W.widen (k := 2 * (z4.2.2 - c0)) (n := 52 * (z4.2.2 - c0)) (by omega) (by omega) ?_
    exact k_X9_courseAfter_20 hC (by omega) hf hw (lv_sub hl [1, 2, 3, 0] rfl)
set_option maxRecDepth 100000 in
theorem c_X9_courseAfter {l : Launch} {D : va_G} {cy : Nat → ClassId} {z0 : Nat} {ad : Nat → Nat} {u : Nat × Nat} {X : va_W} {z : (Int32 × mm_M)} {x1 : Int32} {x2 : Int32} {M : mm_M} (hf : f_X9_courseAfter x1 x2 M = some z) : ca_i cx_T l yX9_courseAfter (Cond.code yX9_courseAfter cX9_courseAfter 5 (some .int)) 4 140 D cy z0 ad u M X [.ref (ad 5), .int x1, .int x2] z.1 z.2 := by
  refine bga_i (by decide) (fun p e s m below meth c hC hw => ?_)
  refine en_t (Nat.le_of_ble_eq_true rfl) (fun ls hl => ?_)
  have hl : lv_has ls 5 [(0, .ref (ad 5)), (1, .int x1), (2, .int x2)] := hl
  refine W.widen (k := 2 * (M.2.2 - M.2.2)) (n := 52 * (M.2.2 - M.2.2)) (by omega) (by omega) ?_
  exact k_X9_courseAfter hC (Nat.le_refl _) hf hw hl
set_option maxRecDepth 100000 in
set_option maxHeartbeats 4000000 in
theorem k_X3_courseAmong_65 {p : Program} {l : Launch} {e : Env} {s : State} {m : MethodId} {args : Array Value} {below : List Frame} {meth : Method} {c : Code} {D : va_G} {cy : Nat → ClassId} {z0 : Nat} {ad : Nat → Nat} {X : va_W} {u : Nat × Nat} (hC : cx_C p s m args meth c cX3_courseAmong "RhymedThen$Past" (Cond.code yX3_courseAmong cX3_courseAmong 9 (some .int)) 9 (some .int)) {z : (Int32 × mm_M)} {c0 : Nat} {x1 : Int32} {x2 : Int32} {x3 : Int32} {x4 : Int32} {x5 : Int64} {x7 : Int32} {M : mm_M} (hc0 : c0 ≤ M.2.2) {q14 : Int32 → Int32 → Int32 → Int32 → Int64 → Int32 → mm_M → Option (Int32 × mm_M)} (hq14 : ∀ (x1 : Int32) (x2 : Int32) (x3 : Int32) (x4 : Int32) (x5 : Int64) (x7 : Int32) (M : mm_M) (u : Nat × Nat) (H : Heap) (locs : List Loc) (ls : Array Slot), c0 ≤ M.2.2 → q14 x1 x2 x3 x4 x5 x7 M = some z → wd_in cx_T D cy z0 ad u M X s H locs → lv_has ls 9 [(0, .ref (ad 14)), (1, .int x1), (2, .int x2), (3, .int x3), (4, .int x4), (5, .long x5), (7, .int x7)] → W p l e { frames := 5, cells := 2 * (z.2.2.2 - c0), slots := 52 * (z.2.2.2 - c0), locals := 164 } s m args below meth c H locs (2 * (M.2.2 - c0)) (52 * (M.2.2 - c0)) (MQ below (aq_i cx_T D cy z0 ad X z.1 z.2) args s (2 * (z.2.2.2 - c0)) (52 * (z.2.2.2 - c0)) (fun q => z0 ≤ q)) (F0 m 14 ls [])) (hm14 : ∀ (x1 : Int32) (x2 : Int32) (x3 : Int32) (x4 : Int32) (x5 : Int64) (x7 : Int32) (M : mm_M), q14 x1 x2 x3 x4 x5 x7 M = some z → M.2.2 ≤ z.2.2.2) (hf : f_X3_courseAmong_65 q14 x1 x2 x3 x4 x5 x7 M = some z) {H : Heap} {locs : List Loc} (hw : wd_in cx_T D cy z0 ad u M X s H locs) {ls : Array Slot} (hl : lv_has ls 9 [(0, .ref (ad 14)), (1, .int x1), (2, .int x2), (3, .int x3), (4, .int x4), (5, .long x5), (7, .int x7)]) : W p l e { frames := 5, cells := 2 * (z.2.2.2 - c0), slots := 52 * (z.2.2.2 - c0), locals := 164 } s m args below meth c H locs (2 * (M.2.2 - c0)) (52 * (M.2.2 - c0)) (MQ below (aq_i cx_T D cy z0 ad X z.1 z.2) args s (2 * (z.2.2.2 - c0)) (52 * (z.2.2.2 - c0)) (fun q => z0 ≤ q)) (F0 m 65 ls []) := by
  have hx := hC.1
  have hb := hC.2.1
  have hmz : M.2.2 ≤ z.2.2.2 := mo_X3_courseAmong_65 hm14 hf
  unfold f_X3_courseAmong_65 at hf
  obtain ⟨y9, ey9, hf⟩ := sq_e hf
  refine lv_iinc (v := y9) (lv' := [(7, .int y9), (0, .ref (ad 14)), (1, .int x1), (2, .int x2), (3, .int x3), (4, .int x4), (5, .long x5)]) hx hb dX3_courseAmong_65 hl (k := 6) rfl (by rw [ey9]; rfl) (by decide) rfl (fun ls hl => ?_)
  refine lv_goto (tgt := 14) hx hb dX3_courseAmong_68 (by decide) ?_
  refine W.widen (k := 2 * (M.2.2 - c0)) (n := 52 * (M.2.2 - c0)) (by omega) (by omega) ?_
  exact hq14 _ _ _ _ _ _ _ _ _ _ _ (by omega) hf hw (lv_sub hl [1, 2, 3, 4, 5, 6, 0] rfl)
set_option maxRecDepth 100000 in
set_option maxHeartbeats 4000000 in
theorem k_X3_courseAmong_63 {p : Program} {l : Launch} {e : Env} {s : State} {m : MethodId} {args : Array Value} {below : List Frame} {meth : Method} {c : Code} {D : va_G} {cy : Nat → ClassId} {z0 : Nat} {ad : Nat → Nat} {X : va_W} {u : Nat × Nat} (hC : cx_C p s m args meth c cX3_courseAmong "RhymedThen$Past" (Cond.code yX3_courseAmong cX3_courseAmong 9 (some .int)) 9 (some .int)) {z : (Int32 × mm_M)} {c0 : Nat} {x1 : Int32} {x2 : Int32} {x3 : Int32} {x5 : Int64} {x7 : Int32} {t0 : Int32} {M : mm_M} (hc0 : c0 ≤ M.2.2) {q14 : Int32 → Int32 → Int32 → Int32 → Int64 → Int32 → mm_M → Option (Int32 × mm_M)} (hq14 : ∀ (x1 : Int32) (x2 : Int32) (x3 : Int32) (x4 : Int32) (x5 : Int64) (x7 : Int32) (M : mm_M) (u : Nat × Nat) (H : Heap) (locs : List Loc) (ls : Array Slot), c0 ≤ M.2.2 → q14 x1 x2 x3 x4 x5 x7 M = some z → wd_in cx_T D cy z0 ad u M X s H locs → lv_has ls 9 [(0, .ref (ad 14)), (1, .int x1), (2, .int x2), (3, .int x3), (4, .int x4), (5, .long x5), (7, .int x7)] → W p l e { frames := 5, cells := 2 * (z.2.2.2 - c0), slots := 52 * (z.2.2.2 - c0), locals := 164 } s m args below meth c H locs (2 * (M.2.2 - c0)) (52 * (M.2.2 - c0)) (MQ below (aq_i cx_T D cy z0 ad X z.1 z.2) args s (2 * (z.2.2.2 - c0)) (52 * (z.2.2.2 - c0)) (fun q => z0 ≤ q)) (F0 m 14 ls [])) (hm14 : ∀ (x1 : Int32) (x2 : Int32) (x3 : Int32) (x4 : Int32) (x5 : Int64) (x7 : Int32) (M : mm_M), q14 x1 x2 x3 x4 x5 x7 M = some z → M.2.2 ≤ z.2.2.2) (hf : f_X3_courseAmong_63 q14 x1 x2 x3 x5 x7 t0 M = some z) {H : Heap} {locs : List Loc} (hw : wd_in cx_T D cy z0 ad u M X s H locs) {ls : Array Slot} (hl : lv_has ls 9 [(0, .ref (ad 14)), (1, .int x1), (2, .int x2), (3, .int x3), (5, .long x5), (7, .int x7)]) : W p l e { frames := 5, cells := 2 * (z.2.2.2 - c0), slots := 52 * (z.2.2.2 - c0), locals := 164 } s m args below meth c H locs (2 * (M.2.2 - c0)) (52 * (M.2.2 - c0)) (MQ below (aq_i cx_T D cy z0 ad X z.1 z.2) args s (2 * (z.2.2.2 - c0)) (52 * (z.2.2.2 - c0)) (fun q => z0 ≤ q)) (F0 m 63 ls [.int t0]) := by
  have hx := hC.1
  have hb := hC.2.1
  have hmz : M.2.2 ≤ z.2.2.2 := mo_X3_courseAmong_63 hm14 hf
  unfold f_X3_courseAmong_63 at hf
  refine lv_istore (lv' := [(4, .int t0), (0, .ref (ad 14)), (1, .int x1), (2, .int x2), (3, .int x3), (5, .long x5), (7, .int x7)]) hx hb dX3_courseAmong_63 hl (by decide) rfl (fun ls hl => ?_)
  refine W.widen (k := 2 * (M.2.2 - c0)) (n := 52 * (M.2.2 - c0)) (by omega) (by omega) ?_
  exact k_X3_courseAmong_65 hC (by omega) hq14 hm14 hf hw (lv_sub hl [1, 2, 3, 4, 0, 5, 6] rfl)
set_option maxRecDepth 100000 in
set_option maxHeartbeats 4000000 in
theorem k_X3_courseAmong_14 {p : Program} {l : Launch} {e : Env} {s : State} {m : MethodId} {args : Array Value} {below : List Frame} {meth : Method} {c : Code} {D : va_G} {cy : Nat → ClassId} {z0 : Nat} {ad : Nat → Nat} {X : va_W} {u : Nat × Nat} (hC : cx_C p s m args meth c cX3_courseAmong "RhymedThen$Past" (Cond.code yX3_courseAmong cX3_courseAmong 9 (some .int)) 9 (some .int)) {z : (Int32 × mm_M)} {c0 : Nat} {x1 : Int32} {x2 : Int32} {x3 : Int32} {x4 : Int32} {x5 : Int64} {x7 : Int32} {M : mm_M} (hc0 : c0 ≤ M.2.2) {q14 : Int32 → Int32 → Int32 → Int32 → Int64 → Int32 → mm_M → Option (Int32 × mm_M)} (hq14 : ∀ (x1 : Int32) (x2 : Int32) (x3 : Int32) (x4 : Int32) (x5 : Int64) (x7 : Int32) (M : mm_M) (u : Nat × Nat) (H : Heap) (locs : List Loc) (ls : Array Slot), c0 ≤ M.2.2 → q14 x1 x2 x3 x4 x5 x7 M = some z → wd_in cx_T D cy z0 ad u M X s H locs → lv_has ls 9 [(0, .ref (ad 14)), (1, .int x1), (2, .int x2), (3, .int x3), (4, .int x4), (5, .long x5), (7, .int x7)] → W p l e { frames := 5, cells := 2 * (z.2.2.2 - c0), slots := 52 * (z.2.2.2 - c0), locals := 164 } s m args below meth c H locs (2 * (M.2.2 - c0)) (52 * (M.2.2 - c0)) (MQ below (aq_i cx_T D cy z0 ad X z.1 z.2) args s (2 * (z.2.2.2 - c0)) (52 * (z.2.2.2 - c0)) (fun q => z0 ≤ q)) (F0 m 14 ls [])) (hm14 : ∀ (x1 : Int32) (x2 : Int32) (x3 : Int32) (x4 : Int32) (x5 : Int64) (x7 : Int32) (M : mm_M), q14 x1 x2 x3 x4 x5 x7 M = some z → M.2.2 ≤ z.2.2.2) (hf : f_X3_courseAmong_14 q14 x1 x2 x3 x4 x5 x7 M = some z) {H : Heap} {locs : List Loc} (hw : wd_in cx_T D cy z0 ad u M X s H locs) {ls : Array Slot} (hl : lv_has ls 9 [(0, .ref (ad 14)), (1, .int x1), (2, .int x2), (3, .int x3), (4, .int x4), (5, .long x5), (7, .int x7)]) : W p l e { frames := 5, cells := 2 * (z.2.2.2 - c0), slots := 52 * (z.2.2.2 - c0), locals := 164 } s m args below meth c H locs (2 * (M.2.2 - c0)) (52 * (M.2.2 - c0)) (MQ below (aq_i cx_T D cy z0 ad X z.1 z.2) args s (2 * (z.2.2.2 - c0)) (52 * (z.2.2.2 - c0)) (fun q => z0 ≤ q)) (F0 m 14 ls []) := by
  have hx := hC.1
  have hb := hC.2.1
  have hmz : M.2.2 ≤ z.2.2.2 := mo_X3_courseAmong_14 hm14 hf
  unfold f_X3_courseAmong_14 at hf
  refine lv_iload hx hb dX3_courseAmong_14 (lv_at hl 6 rfl) ?_
  refine lv_aload_n hx hb dX3_courseAmong_16 rfl (lv_at hl 0 rfl) ?_
  refine rg_i hC hw 14 (Nat.le_of_ble_eq_true rfl) rfl fd_X3_3 wf_X3_19 dX3_courseAmong_17 ?_
  refine lv_icmp_ge (tgt := 71) hx hb dX3_courseAmong_20 (by decide) (fun c3 => ?_) (fun c3 => ?_)
  · rw [if_pos c3] at hf
    refine lv_iload hx hb dX3_courseAmong_71 (lv_at hl 4 rfl) ?_
    refine W.widen (k := 2 * (z.2.2.2 - c0)) (n := 52 * (z.2.2.2 - c0)) (by omega) (by omega) ?_
    have hz := Option.some.inj hf
    subst hz
    exact rta_i hC hw dX3_courseAmong_73
  · rw [if_neg c3] at hf
    refine lv_lload hx hb dX3_courseAmong_23 (lv_at hl 5 rfl) ?_
    refine lv_iload hx hb dX3_courseAmong_25 (lv_at hl 6 rfl) ?_
    obtain ⟨z4, ez4, hf⟩ := sq_e hf
    refine clc_Si hC hw (c_X3_yearIn ez4.symm) hd_X3_yearIn cw_X3_40 (rest := []) hl.1 rfl (Nat.le_of_ble_eq_true rfl) ⟨Nat.le_of_ble_eq_true rfl, Nat.le_of_ble_eq_true rfl⟩ ⟨(show 2 * (M.2.2 - c0) ≤ 2 * (z.2.2.2 - c0) by omega), (show 52 * (M.2.2 - c0) ≤ 52 * (z.2.2.2 - c0) by omega)⟩ rfl dX3_courseAmong_27 (fun H locs hw => ?_)
    refine lv_iload_n hx hb dX3_courseAmong_30 rfl (lv_at hl 2 rfl) ?_
    refine lv_icmp_gt (tgt := 71) hx hb dX3_courseAmong_31 (by decide) (fun c5 => ?_) (fun c5 => ?_)
    · rw [if_pos c5] at hf
      refine lv_iload hx hb dX3_courseAmong_71 (lv_at hl 4 rfl) ?_
      refine W.widen (k := 2 * (z.2.2.2 - c0)) (n := 52 * (z.2.2.2 - c0)) (by omega) (by omega) ?_
      have hz := Option.some.inj hf
      subst hz
      exact rta_i hC hw dX3_courseAmong_73
    · rw [if_neg c5] at hf
      refine lv_aload_n hx hb dX3_courseAmong_34 rfl (lv_at hl 0 rfl) ?_
      refine lv_iload_n hx hb dX3_courseAmong_35 rfl (lv_at hl 1 rfl) ?_
      refine lv_iload hx hb dX3_courseAmong_36 (lv_at hl 6 rfl) ?_
      obtain ⟨z6, ez6, hf⟩ := bd_e hf
      refine clc_Vi hC hw (c_X3_lawAt ez6) hd_X3_lawAt cw_X3_44 (Nat.le_of_ble_eq_true rfl) rfl rfl (rest := []) hl.1 rfl (Nat.le_of_ble_eq_true rfl) ⟨Nat.le_of_ble_eq_true rfl, Nat.le_of_ble_eq_true rfl⟩ ⟨(show 2 * (M.2.2 - c0) ≤ 2 * (z.2.2.2 - c0) by omega), (show 52 * (M.2.2 - c0) ≤ 52 * (z.2.2.2 - c0) by omega)⟩ rfl dX3_courseAmong_38 (fun H locs hw => ?_)
      refine lv_istore (lv' := [(8, .int z6), (0, .ref (ad 14)), (1, .int x1), (2, .int x2), (3, .int x3), (4, .int x4), (5, .long x5), (7, .int x7)]) hx hb dX3_courseAmong_41 hl (by decide) rfl (fun ls hl => ?_)
      refine lv_iload_n hx hb dX3_courseAmong_43 rfl (lv_at hl 4 rfl) ?_
      refine lv_iload hx hb dX3_courseAmong_44 (lv_at hl 0 rfl) ?_
      refine lv_ishr hx hb dX3_courseAmong_46 ?_
      refine lv_iconst (v := 1) hx hb dX3_courseAmong_47 (by decide) ?_
      refine lv_iand hx hb dX3_courseAmong_48 ?_
      refine lv_if_eq (tgt := 65) hx hb dX3_courseAmong_49 (by decide) (fun c7 => ?_) (fun c7 => ?_)
      · rw [if_pos c7] at hf
        refine W.widen (k := 2 * (M.2.2 - c0)) (n := 52 * (M.2.2 - c0)) (by omega) (by omega) ?_
        exact k_X3_courseAmong_65 hC (by omega) hq14 hm14 hf hw (lv_sub hl [1, 2, 3, 4, 5, 6, 7] rfl)
      · rw [if_neg c7] at hf
        refine lv_aload_n hx hb dX3_courseAmong_52 rfl (lv_at hl 1 rfl) ?_
        refine rg_p hC hw 14 (Nat.le_of_ble_eq_true rfl) rfl fd_X3_0 wf_X3_32 (q := 5) rfl dX3_courseAmong_53 ?_
        refine lv_iload hx hb dX3_courseAmong_56 (lv_at hl 5 rfl) ?_
        refine lv_iload hx hb dX3_courseAmong_58 (lv_at hl 0 rfl) ?_
        obtain ⟨z8, ez8, hf⟩ := bd_e hf
        have mz8 : M.2.2 ≤ z8.2.2.2 := mo_X9_courseAfter ez8
        have hnz : z8.2.2.2 ≤ z.2.2.2 := mo_X3_courseAmong_63 hm14 hf
        refine cla_Vi hC hw (c_X9_courseAfter ez8) hd_X9_courseAfter cw_X3_60 (Nat.le_of_ble_eq_true rfl) rfl rfl (rest := []) hl.1 rfl (Nat.le_of_ble_eq_true rfl) ⟨Nat.le_of_ble_eq_true rfl, Nat.le_of_ble_eq_true rfl⟩ ⟨(show 2 * (M.2.2 - c0) + 2 * (z8.2.2.2 - M.2.2) ≤ 2 * (z.2.2.2 - c0) by omega), (show 52 * (M.2.2 - c0) + 52 * (z8.2.2.2 - M.2.2) ≤ 52 * (z.2.2.2 - c0) by omega)⟩ rfl dX3_courseAmong_60 (fun u H locs hw => ?_)
        refine W.widen (k := 2 * (z8.2.2.2 - c0)) (n := 52 * (z8.2.2.2 - c0)) (by omega) (by omega) ?_
        exact k_X3_courseAmong_63 hC (by omega) hq14 hm14 hf hw (lv_sub hl [1, 2, 3, 4, 6, 7] rfl)
set_option maxRecDepth 100000 in
set_option maxHeartbeats 4000000 in
theorem k_X3_courseAmong_14l {p : Program} {l : Launch} {e : Env} {s : State} {m : MethodId} {args : Array Value} {below : List Frame} {meth : Method} {c : Code} {D : va_G} {cy : Nat → ClassId} {z0 : Nat} {ad : Nat → Nat} {X : va_W} (hC : cx_C p s m args meth c cX3_courseAmong "RhymedThen$Past" (Cond.code yX3_courseAmong cX3_courseAmong 9 (some .int)) 9 (some .int)) {z : (Int32 × mm_M)} {c0 : Nat} : ∀ (n : Nat) (x1 : Int32) (x2 : Int32) (x3 : Int32) (x4 : Int32) (x5 : Int64) (x7 : Int32) (M : mm_M) (u : Nat × Nat) (H : Heap) (locs : List Loc) (ls : Array Slot), c0 ≤ M.2.2 → f_X3_courseAmong_14l n x1 x2 x3 x4 x5 x7 M = some z → wd_in cx_T D cy z0 ad u M X s H locs → lv_has ls 9 [(0, .ref (ad 14)), (1, .int x1), (2, .int x2), (3, .int x3), (4, .int x4), (5, .long x5), (7, .int x7)] → W p l e { frames := 5, cells := 2 * (z.2.2.2 - c0), slots := 52 * (z.2.2.2 - c0), locals := 164 } s m args below meth c H locs (2 * (M.2.2 - c0)) (52 * (M.2.2 - c0)) (MQ below (aq_i cx_T D cy z0 ad X z.1 z.2) args s (2 * (z.2.2.2 - c0)) (52 * (z.2.2.2 - c0)) (fun q => z0 ≤ q)) (F0 m 14 ls []) := by
  intro n
  induction n with
  | zero => intro x1 x2 x3 x4 x5 x7 M u H locs ls hc0 hf; exact absurd hf (by simp [f_X3_courseAmong_14l])
  | succ n ih => intro x1 x2 x3 x4 x5 x7 M u H locs ls hc0 hf hw hl; exact k_X3_courseAmong_14 hC hc0 ih (mo_X3_courseAmong_14l n) hf hw hl
set_option maxRecDepth 100000 in
set_option maxHeartbeats 4000000 in
theorem k_X3_courseAmong {p : Program} {l : Launch} {e : Env} {s : State} {m : MethodId} {args : Array Value} {below : List Frame} {meth : Method} {c : Code} {D : va_G} {cy : Nat → ClassId} {z0 : Nat} {ad : Nat → Nat} {X : va_W} {u : Nat × Nat} (hC : cx_C p s m args meth c cX3_courseAmong "RhymedThen$Past" (Cond.code yX3_courseAmong cX3_courseAmong 9 (some .int)) 9 (some .int)) {z : (Int32 × mm_M)} {c0 : Nat} {x1 : Int32} {x2 : Int32} {x3 : Int32} {M : mm_M} (hc0 : c0 ≤ M.2.2) (hf : f_X3_courseAmong x1 x2 x3 M = some z) {H : Heap} {locs : List Loc} (hw : wd_in cx_T D cy z0 ad u M X s H locs) {ls : Array Slot} (hl : lv_has ls 9 [(0, .ref (ad 14)), (1, .int x1), (2, .int x2), (3, .int x3)]) : W p l e { frames := 5, cells := 2 * (z.2.2.2 - c0), slots := 52 * (z.2.2.2 - c0), locals := 164 } s m args below meth c H locs (2 * (M.2.2 - c0)) (52 * (M.2.2 - c0)) (MQ below (aq_i cx_T D cy z0 ad X z.1 z.2) args s (2 * (z.2.2.2 - c0)) (52 * (z.2.2.2 - c0)) (fun q => z0 ≤ q)) (F0 m 0 ls []) := by
  have hx := hC.1
  have hb := hC.2.1
  have hmz : M.2.2 ≤ z.2.2.2 := mo_X3_courseAmong hf
  unfold f_X3_courseAmong at hf
  refine lv_iconst (v := 0) hx hb dX3_courseAmong_0 (by decide) ?_
  refine lv_istore (lv' := [(4, .int 0), (0, .ref (ad 14)), (1, .int x1), (2, .int x2), (3, .int x3)]) hx hb dX3_courseAmong_1 hl (by decide) rfl (fun ls hl => ?_)
  refine lv_aload_n hx hb dX3_courseAmong_3 rfl (lv_at hl 1 rfl) ?_
  refine rg_p hC hw 14 (Nat.le_of_ble_eq_true rfl) rfl fd_X3_5 wf_X3_25 (q := 17) rfl dX3_courseAmong_4 ?_
  refine lv_iload_n hx hb dX3_courseAmong_7 rfl (lv_at hl 2 rfl) ?_
  obtain ⟨h1, hf⟩ := ck_e hf
  refine ra_l hC hw 17 (Nat.le_of_ble_eq_true rfl) rfl h1 dX3_courseAmong_8 ?_
  obtain ⟨y2, ey2, hf⟩ := sq_e hf
  refine lt_l ey2 ?_
  refine lv_lstore (lv' := [(5, .long y2), (4, .int 0), (0, .ref (ad 14)), (1, .int x1), (2, .int x2), (3, .int x3)]) hx hb dX3_courseAmong_9 hl (by decide) rfl (fun ls hl => ?_)
  refine lv_iconst (v := 0) hx hb dX3_courseAmong_11 (by decide) ?_
  refine lv_istore (lv' := [(7, .int 0), (5, .long y2), (4, .int 0), (0, .ref (ad 14)), (1, .int x1), (2, .int x2), (3, .int x3)]) hx hb dX3_courseAmong_12 hl (by decide) rfl (fun ls hl => ?_)
  refine W.widen (k := 2 * (M.2.2 - c0)) (n := 52 * (M.2.2 - c0)) (by omega) (by omega) ?_
  exact k_X3_courseAmong_14l hC fu_ _ _ _ _ _ _ _ _ _ _ _ (by omega) hf hw (lv_sub hl [3, 4, 5, 6, 2, 1, 0] rfl)
set_option maxRecDepth 100000 in
theorem c_X3_courseAmong {l : Launch} {D : va_G} {cy : Nat → ClassId} {z0 : Nat} {ad : Nat → Nat} {u : Nat × Nat} {X : va_W} {z : (Int32 × mm_M)} {x1 : Int32} {x2 : Int32} {x3 : Int32} {M : mm_M} (hf : f_X3_courseAmong x1 x2 x3 M = some z) : ca_i cx_T l yX3_courseAmong (Cond.code yX3_courseAmong cX3_courseAmong 9 (some .int)) 5 164 D cy z0 ad u M X [.ref (ad 14), .int x1, .int x2, .int x3] z.1 z.2 := by
  refine bga_i (by decide) (fun p e s m below meth c hC hw => ?_)
  refine en_t (Nat.le_of_ble_eq_true rfl) (fun ls hl => ?_)
  have hl : lv_has ls 9 [(0, .ref (ad 14)), (1, .int x1), (2, .int x2), (3, .int x3)] := hl
  refine W.widen (k := 2 * (M.2.2 - M.2.2)) (n := 52 * (M.2.2 - M.2.2)) (by omega) (by omega) ?_
  exact k_X3_courseAmong hC (Nat.le_refl _) hf hw hl
set_option maxRecDepth 100000 in
set_option maxHeartbeats 4000000 in
theorem k_X3_courseAt_15 {p : Program} {l : Launch} {e : Env} {s : State} {m : MethodId} {args : Array Value} {below : List Frame} {meth : Method} {c : Code} {D : va_G} {cy : Nat → ClassId} {z0 : Nat} {ad : Nat → Nat} {X : va_W} {u : Nat × Nat} (hC : cx_C p s m args meth c cX3_courseAt "RhymedThen$Past" (Cond.code yX3_courseAt cX3_courseAt 4 (some .int)) 4 (some .int)) {z : (Int32 × mm_M)} {c0 : Nat} {t0 : Int32} {M : mm_M} (hc0 : c0 ≤ M.2.2) (hf : f_X3_courseAt_15 t0 M = some z) {H : Heap} {locs : List Loc} (hw : wd_in cx_T D cy z0 ad u M X s H locs) {ls : Array Slot} (hl : lv_has ls 4 []) : W p l e { frames := 6, cells := 2 * (z.2.2.2 - c0), slots := 52 * (z.2.2.2 - c0), locals := 192 } s m args below meth c H locs (2 * (M.2.2 - c0)) (52 * (M.2.2 - c0)) (MQ below (aq_i cx_T D cy z0 ad X z.1 z.2) args s (2 * (z.2.2.2 - c0)) (52 * (z.2.2.2 - c0)) (fun q => z0 ≤ q)) (F0 m 15 ls [.int t0]) := by
  have hx := hC.1
  have hb := hC.2.1
  have hmz : M.2.2 ≤ z.2.2.2 := mo_X3_courseAt_15 hf
  unfold f_X3_courseAt_15 at hf
  refine W.widen (k := 2 * (z.2.2.2 - c0)) (n := 52 * (z.2.2.2 - c0)) (by omega) (by omega) ?_
  have hz := Option.some.inj hf
  subst hz
  exact rta_i hC hw dX3_courseAt_15
set_option maxRecDepth 100000 in
set_option maxHeartbeats 4000000 in
theorem k_X3_courseAt {p : Program} {l : Launch} {e : Env} {s : State} {m : MethodId} {args : Array Value} {below : List Frame} {meth : Method} {c : Code} {D : va_G} {cy : Nat → ClassId} {z0 : Nat} {ad : Nat → Nat} {X : va_W} {u : Nat × Nat} (hC : cx_C p s m args meth c cX3_courseAt "RhymedThen$Past" (Cond.code yX3_courseAt cX3_courseAt 4 (some .int)) 4 (some .int)) {z : (Int32 × mm_M)} {c0 : Nat} {x1 : Int32} {x2 : Int32} {x3 : Int32} {M : mm_M} (hc0 : c0 ≤ M.2.2) (hf : f_X3_courseAt x1 x2 x3 M = some z) {H : Heap} {locs : List Loc} (hw : wd_in cx_T D cy z0 ad u M X s H locs) {ls : Array Slot} (hl : lv_has ls 4 [(0, .ref (ad 14)), (1, .int x1), (2, .int x2), (3, .int x3)]) : W p l e { frames := 6, cells := 2 * (z.2.2.2 - c0), slots := 52 * (z.2.2.2 - c0), locals := 192 } s m args below meth c H locs (2 * (M.2.2 - c0)) (52 * (M.2.2 - c0)) (MQ below (aq_i cx_T D cy z0 ad X z.1 z.2) args s (2 * (z.2.2.2 - c0)) (52 * (z.2.2.2 - c0)) (fun q => z0 ≤ q)) (F0 m 0 ls []) := by
  have hx := hC.1
  have hb := hC.2.1
  have hmz : M.2.2 ≤ z.2.2.2 := mo_X3_courseAt hf
  unfold f_X3_courseAt at hf
  refine lv_aload_n hx hb dX3_courseAt_0 rfl (lv_at hl 0 rfl) ?_
  refine lv_iload_n hx hb dX3_courseAt_1 rfl (lv_at hl 1 rfl) ?_
  refine lv_iload_n hx hb dX3_courseAt_2 rfl (lv_at hl 2 rfl) ?_
  refine lv_aload_n hx hb dX3_courseAt_3 rfl (lv_at hl 0 rfl) ?_
  refine rg_p hC hw 14 (Nat.le_of_ble_eq_true rfl) rfl fd_X3_1 wf_X3_9 (q := 15) rfl dX3_courseAt_4 ?_
  refine lv_iload_n hx hb dX3_courseAt_7 rfl (lv_at hl 3 rfl) ?_
  obtain ⟨h1, hf⟩ := ck_e hf
  refine ra_i hC hw 15 (Nat.le_of_ble_eq_true rfl) rfl h1 dX3_courseAt_8 ?_
  refine lv_isub hx hb dX3_courseAt_9 ?_
  refine lv_bipush (v := 63) hx hb dX3_courseAt_10 (by decide) ?_
  obtain ⟨z2, ez2, hf⟩ := bd_e hf
  have mz2 : M.2.2 ≤ z2.2.2.2 := mo_X3_courseAmong ez2
  have hnz : z2.2.2.2 ≤ z.2.2.2 := mo_X3_courseAt_15 hf
  refine cla_Vi hC hw (c_X3_courseAmong ez2) hd_X3_courseAmong cw_X3_54 (Nat.le_of_ble_eq_true rfl) rfl rfl (rest := []) hl.1 rfl (Nat.le_of_ble_eq_true rfl) ⟨Nat.le_of_ble_eq_true rfl, Nat.le_of_ble_eq_true rfl⟩ ⟨(show 2 * (M.2.2 - c0) + 2 * (z2.2.2.2 - M.2.2) ≤ 2 * (z.2.2.2 - c0) by omega), (show 52 * (M.2.2 - c0) + 52 * (z2.2.2.2 - M.2.2) ≤ 52 * (z.2.2.2 - c0) by omega)⟩ rfl dX3_courseAt_12 (fun u H locs hw => ?_)
  refine W.widen (k := 2 * (z2.2.2.2 - c0)) (n := 52 * (z2.2.2.2 - c0)) (by omega) (by omega) ?_
  exact k_X3_courseAt_15 hC (by omega) hf hw (lv_sub hl [] rfl)
set_option maxRecDepth 100000 in
theorem c_X3_courseAt {l : Launch} {D : va_G} {cy : Nat → ClassId} {z0 : Nat} {ad : Nat → Nat} {u : Nat × Nat} {X : va_W} {z : (Int32 × mm_M)} {x1 : Int32} {x2 : Int32} {x3 : Int32} {M : mm_M} (hf : f_X3_courseAt x1 x2 x3 M = some z) : ca_i cx_T l yX3_courseAt (Cond.code yX3_courseAt cX3_courseAt 4 (some .int)) 6 192 D cy z0 ad u M X [.ref (ad 14), .int x1, .int x2, .int x3] z.1 z.2 := by
  refine bga_i (by decide) (fun p e s m below meth c hC hw => ?_)
  refine en_t (Nat.le_of_ble_eq_true rfl) (fun ls hl => ?_)
  have hl : lv_has ls 4 [(0, .ref (ad 14)), (1, .int x1), (2, .int x2), (3, .int x3)] := hl
  refine W.widen (k := 2 * (M.2.2 - M.2.2)) (n := 52 * (M.2.2 - M.2.2)) (by omega) (by omega) ?_
  exact k_X3_courseAt hC (Nat.le_refl _) hf hw hl
set_option maxRecDepth 100000 in
set_option maxHeartbeats 4000000 in
theorem k_X9_formOn {p : Program} {l : Launch} {e : Env} {s : State} {m : MethodId} {args : Array Value} {below : List Frame} {meth : Method} {c : Code} {D : va_G} {cy : Nat → ClassId} {z0 : Nat} {ad : Nat → Nat} {X : va_W} {u : Nat × Nat} (hC : cx_C p s m args meth c cX9_formOn "RhymedThen$Tongue" (Cond.code yX9_formOn cX9_formOn 3 (some .long)) 3 (some .long)) {z : Int64} {x1 : Int32} {x2 : Int32} {M : mm_M} (hf : f_X9_formOn x1 x2 M = some z) {H : Heap} {locs : List Loc} (hw : wd_in cx_T D cy z0 ad u M X s H locs) {ls : Array Slot} (hl : lv_has ls 3 [(0, .ref (ad 5)), (1, .int x1), (2, .int x2)]) : W p l e { frames := 0, cells := 0, slots := 0, locals := 0 } s m args below meth c H locs 0 0 (MQ below (cq_l cx_T D cy z0 ad u X z M) args s 0 0 (fun q => z0 ≤ q)) (F0 m 0 ls []) := by
  have hx := hC.1
  have hb := hC.2.1
  unfold f_X9_formOn at hf
  refine lv_aload_n hx hb dX9_formOn_0 rfl (lv_at hl 0 rfl) ?_
  refine rg_9 hC hw 5 (Nat.le_of_ble_eq_true rfl) rfl fd_X9_6 wf_X9_34 dX9_formOn_1 ?_
  refine lv_iload_n hx hb dX9_formOn_4 rfl (lv_at hl 1 rfl) ?_
  refine lv_bipush (v := 20) hx hb dX9_formOn_5 (by decide) ?_
  refine lv_imul hx hb dX9_formOn_7 ?_
  refine lv_iload_n hx hb dX9_formOn_8 rfl (lv_at hl 2 rfl) ?_
  refine lv_iadd hx hb dX9_formOn_9 ?_
  obtain ⟨h1, hf⟩ := ck_e hf
  refine rg_l9 hC hw rfl (n := 71) rfl h1 dX9_formOn_10 ?_
  have hz := Option.some.inj hf
  subst hz
  exact rtc_l hC hw dX9_formOn_11
set_option maxRecDepth 100000 in
theorem c_X9_formOn {l : Launch} {D : va_G} {cy : Nat → ClassId} {z0 : Nat} {ad : Nat → Nat} {u : Nat × Nat} {X : va_W} {z : Int64} {x1 : Int32} {x2 : Int32} {M : mm_M} (hf : f_X9_formOn x1 x2 M = some z) : ct_l cx_T l yX9_formOn (Cond.code yX9_formOn cX9_formOn 3 (some .long)) 0 0 D cy z0 ad u M X [.ref (ad 5), .int x1, .int x2] z M := by
  refine bgc_l (by decide) (fun p e s m below meth c hC hw => ?_)
  refine en_t (Nat.le_of_ble_eq_true rfl) (fun ls hl => ?_)
  have hl : lv_has ls 3 [(0, .ref (ad 5)), (1, .int x1), (2, .int x2)] := hl
  exact k_X9_formOn hC hf hw hl
set_option maxRecDepth 100000 in
set_option maxHeartbeats 4000000 in
theorem k_X4_add {p : Program} {l : Launch} {e : Env} {s : State} {m : MethodId} {args : Array Value} {below : List Frame} {meth : Method} {c : Code} {D : va_G} {cy : Nat → ClassId} {z0 : Nat} {ad : Nat → Nat} {X : va_W} {u : Nat × Nat} (hC : cx_C p s m args meth c cX4_add "RhymedThen$Row" (Cond.code yX4_add cX4_add 3 none) 3 none) {z : mm_M} {x1 : Int64} {M : mm_M} (hf : f_X4_add x1 M = some z) {H : Heap} {locs : List Loc} (hw : wd_in cx_T D cy z0 ad u M X s H locs) {ls : Array Slot} (hl : lv_has ls 3 [(0, .ref (ad 3)), (1, .long x1)]) : W p l e { frames := 0, cells := 0, slots := 0, locals := 0 } s m args below meth c H locs 0 0 (MQ below (cq_v cx_T D cy z0 ad u X z) args s 0 0 (fun q => z0 ≤ q)) (F0 m 0 ls []) := by
  have hx := hC.1
  have hb := hC.2.1
  unfold f_X4_add at hf
  refine lv_aload_n hx hb dX4_add_0 rfl (lv_at hl 0 rfl) ?_
  refine rg_i hC hw 3 (Nat.le_of_ble_eq_true rfl) rfl fd_X4_1 wf_X4_13 dX4_add_1 ?_
  refine lv_bipush (v := 24) hx hb dX4_add_4 (by decide) ?_
  refine lv_icmp_ge (tgt := 29) hx hb dX4_add_6 (by decide) (fun c1 => ?_) (fun c1 => ?_)
  · rw [if_pos c1] at hf
    have hz := Option.some.inj hf
    subst hz
    exact rtc_v hC hw dX4_add_29
  · rw [if_neg c1] at hf
    refine lv_aload_n hx hb dX4_add_9 rfl (lv_at hl 0 rfl) ?_
    refine rg_p hC hw 3 (Nat.le_of_ble_eq_true rfl) rfl fd_X4_0 wf_X4_9 (q := 4) rfl dX4_add_10 ?_
    refine lv_aload_n hx hb dX4_add_13 rfl (lv_at hl 0 rfl) ?_
    refine rg_i hC hw 3 (Nat.le_of_ble_eq_true rfl) rfl fd_X4_1 wf_X4_13 dX4_add_14 ?_
    refine lv_lload_n hx hb dX4_add_17 rfl (lv_at hl 1 rfl) ?_
    obtain ⟨h2, hf⟩ := ck_e hf
    obtain ⟨M3, eM3, hf⟩ := sq_e hf
    refine rs_l hC hw 4 (Nat.le_of_ble_eq_true rfl) rfl h2 dX4_add_18 eM3 (fun H locs hw => ?_)
    refine lv_aload_n hx hb dX4_add_19 rfl (lv_at hl 0 rfl) ?_
    refine lv_dup hx hb dX4_add_20 rfl ?_
    refine rg_i hC hw 3 (Nat.le_of_ble_eq_true rfl) rfl fd_X4_1 wf_X4_13 dX4_add_21 ?_
    refine lv_iconst (v := 1) hx hb dX4_add_24 (by decide) ?_
    refine lv_iadd hx hb dX4_add_25 ?_
    obtain ⟨M4, eM4, hf⟩ := sq_e hf
    refine rp_i hC hw 3 (Nat.le_of_ble_eq_true rfl) rfl fd_X4_1 wf_X4_13 fp_X4_1 rfl rfl dX4_add_26 eM4 (fun H locs hw => ?_)
    have hz := Option.some.inj hf
    subst hz
    exact rtc_v hC hw dX4_add_29
set_option maxRecDepth 100000 in
theorem c_X4_add {l : Launch} {D : va_G} {cy : Nat → ClassId} {z0 : Nat} {ad : Nat → Nat} {u : Nat × Nat} {X : va_W} {z : mm_M} {x1 : Int64} {M : mm_M} (hf : f_X4_add x1 M = some z) : ct_v cx_T l yX4_add (Cond.code yX4_add cX4_add 3 none) 0 0 D cy z0 ad u M X [.ref (ad 3), .long x1] z := by
  refine bgc_v (by decide) (fun p e s m below meth c hC hw => ?_)
  refine en_t (Nat.le_of_ble_eq_true rfl) (fun ls hl => ?_)
  have hl : lv_has ls 3 [(0, .ref (ad 3)), (1, .long x1)] := hl
  exact k_X4_add hC hf hw hl
set_option maxRecDepth 100000 in
set_option maxHeartbeats 4000000 in
theorem k_X11_tellSounds_8 {p : Program} {l : Launch} {e : Env} {s : State} {m : MethodId} {args : Array Value} {below : List Frame} {meth : Method} {c : Code} {D : va_G} {cy : Nat → ClassId} {z0 : Nat} {ad : Nat → Nat} {X : va_W} {u : Nat × Nat} (hC : cx_C p s m args meth c cX11_tellSounds "RhymedThen" (Cond.code yX11_tellSounds cX11_tellSounds 5 (some .int)) 5 (some .int)) {z : (Int32 × mm_M)} {x1 : Int64} {x3 : Int32} {x4 : Int32} {M : mm_M} {q8 : Int64 → Int32 → Int32 → mm_M → Option (Int32 × mm_M)} (hq8 : ∀ (x1 : Int64) (x3 : Int32) (x4 : Int32) (M : mm_M) (H : Heap) (locs : List Loc) (ls : Array Slot), q8 x1 x3 x4 M = some z → wd_in cx_T D cy z0 ad u M X s H locs → lv_has ls 5 [(0, .ref (ad 0)), (1, .long x1), (3, .int x3), (4, .int x4)] → W p l e { frames := 1, cells := 0, slots := 0, locals := 22 } s m args below meth c H locs 0 0 (MQ below (cq_i cx_T D cy z0 ad u X z.1 z.2) args s 0 0 (fun q => z0 ≤ q)) (F0 m 8 ls [])) (hf : f_X11_tellSounds_8 q8 x1 x3 x4 M = some z) {H : Heap} {locs : List Loc} (hw : wd_in cx_T D cy z0 ad u M X s H locs) {ls : Array Slot} (hl : lv_has ls 5 [(0, .ref (ad 0)), (1, .long x1), (3, .int x3), (4, .int x4)]) : W p l e { frames := 1, cells := 0, slots := 0, locals := 22 } s m args below meth c H locs 0 0 (MQ below (cq_i cx_T D cy z0 ad u X z.1 z.2) args s 0 0 (fun q => z0 ≤ q)) (F0 m 8 ls []) := by
  have hx := hC.1
  have hb := hC.2.1
  unfold f_X11_tellSounds_8 at hf
  refine lv_iload hx hb dX11_tellSounds_8 (lv_at hl 3 rfl) ?_
  refine lv_iload_n hx hb dX11_tellSounds_10 rfl (lv_at hl 2 rfl) ?_
  refine lv_icmp_ge (tgt := 34) hx hb dX11_tellSounds_11 (by decide) (fun c2 => ?_) (fun c2 => ?_)
  · rw [if_pos c2] at hf
    refine lv_iload_n hx hb dX11_tellSounds_34 rfl (lv_at hl 2 rfl) ?_
    have hz := Option.some.inj hf
    subst hz
    exact rtc_i hC hw dX11_tellSounds_35
  · rw [if_neg c2] at hf
    refine lv_aload_n hx hb dX11_tellSounds_14 rfl (lv_at hl 0 rfl) ?_
    refine rg_p hC hw 0 (Nat.le_of_ble_eq_true rfl) rfl fd_X11_1 wf_X11_19 (q := 3) rfl dX11_tellSounds_15 ?_
    refine lv_lload_n hx hb dX11_tellSounds_18 rfl (lv_at hl 1 rfl) ?_
    refine lv_iload hx hb dX11_tellSounds_19 (lv_at hl 3 rfl) ?_
    obtain ⟨z3, ez3, hf⟩ := sq_e hf
    refine clc_Si hC hw (c_X0_soundAt ez3.symm) hd_X0_soundAt cw_X11_210 (rest := [.ref (ad 3)]) hl.1 rfl (Nat.le_of_ble_eq_true rfl) ⟨Nat.le_of_ble_eq_true rfl, Nat.le_of_ble_eq_true rfl⟩ ⟨Nat.zero_le _, Nat.zero_le _⟩ rfl dX11_tellSounds_21 (fun H locs hw => ?_)
    refine lv_i2l hx hb dX11_tellSounds_24 rfl ?_
    obtain ⟨z4, ez4, hf⟩ := bd_e hf
    refine clc_Vv hC hw (c_X4_add ez4) hd_X4_add cw_X11_214 (Nat.le_of_ble_eq_true rfl) rfl rfl (rest := []) hl.1 rfl (Nat.le_of_ble_eq_true rfl) ⟨Nat.le_of_ble_eq_true rfl, Nat.le_of_ble_eq_true rfl⟩ ⟨Nat.zero_le _, Nat.zero_le _⟩ rfl dX11_tellSounds_25 (fun H locs hw => ?_)
    obtain ⟨y5, ey5, hf⟩ := sq_e hf
    refine lv_iinc (v := y5) (lv' := [(4, .int y5), (0, .ref (ad 0)), (1, .long x1), (3, .int x3)]) hx hb dX11_tellSounds_28 hl (k := 3) rfl (by rw [ey5]; rfl) (by decide) rfl (fun ls hl => ?_)
    refine lv_goto (tgt := 8) hx hb dX11_tellSounds_31 (by decide) ?_
    exact hq8 _ _ _ _ _ _ _ hf hw (lv_sub hl [1, 2, 3, 0] rfl)
set_option maxRecDepth 100000 in
set_option maxHeartbeats 4000000 in
theorem k_X11_tellSounds_8l {p : Program} {l : Launch} {e : Env} {s : State} {m : MethodId} {args : Array Value} {below : List Frame} {meth : Method} {c : Code} {D : va_G} {cy : Nat → ClassId} {z0 : Nat} {ad : Nat → Nat} {X : va_W} {u : Nat × Nat} (hC : cx_C p s m args meth c cX11_tellSounds "RhymedThen" (Cond.code yX11_tellSounds cX11_tellSounds 5 (some .int)) 5 (some .int)) {z : (Int32 × mm_M)} : ∀ (n : Nat) (x1 : Int64) (x3 : Int32) (x4 : Int32) (M : mm_M) (H : Heap) (locs : List Loc) (ls : Array Slot), f_X11_tellSounds_8l n x1 x3 x4 M = some z → wd_in cx_T D cy z0 ad u M X s H locs → lv_has ls 5 [(0, .ref (ad 0)), (1, .long x1), (3, .int x3), (4, .int x4)] → W p l e { frames := 1, cells := 0, slots := 0, locals := 22 } s m args below meth c H locs 0 0 (MQ below (cq_i cx_T D cy z0 ad u X z.1 z.2) args s 0 0 (fun q => z0 ≤ q)) (F0 m 8 ls []) := by
  intro n
  induction n with
  | zero => intro x1 x3 x4 M H locs ls hf; exact absurd hf (by simp [f_X11_tellSounds_8l])
  | succ n ih => intro x1 x3 x4 M H locs ls hf hw hl; exact k_X11_tellSounds_8 hC ih hf hw hl
set_option maxRecDepth 100000 in
set_option maxHeartbeats 4000000 in
theorem k_X11_tellSounds {p : Program} {l : Launch} {e : Env} {s : State} {m : MethodId} {args : Array Value} {below : List Frame} {meth : Method} {c : Code} {D : va_G} {cy : Nat → ClassId} {z0 : Nat} {ad : Nat → Nat} {X : va_W} {u : Nat × Nat} (hC : cx_C p s m args meth c cX11_tellSounds "RhymedThen" (Cond.code yX11_tellSounds cX11_tellSounds 5 (some .int)) 5 (some .int)) {z : (Int32 × mm_M)} {x1 : Int64} {M : mm_M} (hf : f_X11_tellSounds x1 M = some z) {H : Heap} {locs : List Loc} (hw : wd_in cx_T D cy z0 ad u M X s H locs) {ls : Array Slot} (hl : lv_has ls 5 [(0, .ref (ad 0)), (1, .long x1)]) : W p l e { frames := 1, cells := 0, slots := 0, locals := 22 } s m args below meth c H locs 0 0 (MQ below (cq_i cx_T D cy z0 ad u X z.1 z.2) args s 0 0 (fun q => z0 ≤ q)) (F0 m 0 ls []) := by
  have hx := hC.1
  have hb := hC.2.1
  unfold f_X11_tellSounds at hf
  refine lv_lload_n hx hb dX11_tellSounds_0 rfl (lv_at hl 1 rfl) ?_
  obtain ⟨z1, ez1, hf⟩ := sq_e hf
  refine clc_Si hC hw (c_X0_lengthOf ez1.symm) hd_X0_lengthOf cw_X11_205 (rest := []) hl.1 rfl (Nat.le_of_ble_eq_true rfl) ⟨Nat.le_of_ble_eq_true rfl, Nat.le_of_ble_eq_true rfl⟩ ⟨Nat.zero_le _, Nat.zero_le _⟩ rfl dX11_tellSounds_1 (fun H locs hw => ?_)
  refine lv_istore_n (lv' := [(3, .int z1), (0, .ref (ad 0)), (1, .long x1)]) hx hb dX11_tellSounds_4 rfl hl (by decide) rfl (fun ls hl => ?_)
  refine lv_iconst (v := 0) hx hb dX11_tellSounds_5 (by decide) ?_
  refine lv_istore (lv' := [(4, .int 0), (3, .int z1), (0, .ref (ad 0)), (1, .long x1)]) hx hb dX11_tellSounds_6 hl (by decide) rfl (fun ls hl => ?_)
  exact k_X11_tellSounds_8l hC fu_ _ _ _ _ _ _ _ hf hw (lv_sub hl [2, 3, 1, 0] rfl)
set_option maxRecDepth 100000 in
theorem c_X11_tellSounds {l : Launch} {D : va_G} {cy : Nat → ClassId} {z0 : Nat} {ad : Nat → Nat} {u : Nat × Nat} {X : va_W} {z : (Int32 × mm_M)} {x1 : Int64} {M : mm_M} (hf : f_X11_tellSounds x1 M = some z) : ct_i cx_T l yX11_tellSounds (Cond.code yX11_tellSounds cX11_tellSounds 5 (some .int)) 1 22 D cy z0 ad u M X [.ref (ad 0), .long x1] z.1 z.2 := by
  refine bgc_i (by decide) (fun p e s m below meth c hC hw => ?_)
  refine en_t (Nat.le_of_ble_eq_true rfl) (fun ls hl => ?_)
  have hl : lv_has ls 5 [(0, .ref (ad 0)), (1, .long x1)] := hl
  exact k_X11_tellSounds hC hf hw hl
set_option maxRecDepth 100000 in
set_option maxHeartbeats 4000000 in
theorem k_X11_said_44 {p : Program} {l : Launch} {e : Env} {s : State} {m : MethodId} {args : Array Value} {below : List Frame} {meth : Method} {c : Code} {D : va_G} {cy : Nat → ClassId} {z0 : Nat} {ad : Nat → Nat} {X : va_W} {u : Nat × Nat} (hC : cx_C p s m args meth c cX11_said "RhymedThen" (Cond.code yX11_said cX11_said 5 (some .int)) 5 (some .int)) {z : (Int32 × mm_M)} {c0 : Nat} {x1 : Int32} {t2 : Int32} {M : mm_M} (hc0 : c0 ≤ M.2.2) (hf : f_X11_said_44 x1 t2 M = some z) {H : Heap} {locs : List Loc} (hw : wd_in cx_T D cy z0 ad u M X s H locs) {ls : Array Slot} (hl : lv_has ls 5 [(1, .int x1)]) : W p l e { frames := 7, cells := 2 * (z.2.2.2 - c0), slots := 52 * (z.2.2.2 - c0), locals := 215 } s m args below meth c H locs (2 * (M.2.2 - c0)) (52 * (M.2.2 - c0)) (MQ below (aq_i cx_T D cy z0 ad X z.1 z.2) args s (2 * (z.2.2.2 - c0)) (52 * (z.2.2.2 - c0)) (fun q => z0 ≤ q)) (F0 m 44 ls [.int t2, .ref (ad 5), .ref (ad 0)]) := by
  have hx := hC.1
  have hb := hC.2.1
  have hmz : M.2.2 ≤ z.2.2.2 := mo_X11_said_44 hf
  unfold f_X11_said_44 at hf
  refine lv_iload_n hx hb dX11_said_44 rfl (lv_at hl 0 rfl) ?_
  obtain ⟨z7, ez7, hf⟩ := bd_e hf
  refine clc_Vl hC hw (c_X9_formOn ez7) hd_X9_formOn cw_X11_198 (Nat.le_of_ble_eq_true rfl) rfl rfl (rest := [.ref (ad 0)]) hl.1 rfl (Nat.le_of_ble_eq_true rfl) ⟨Nat.le_of_ble_eq_true rfl, Nat.le_of_ble_eq_true rfl⟩ ⟨(show 2 * (M.2.2 - c0) ≤ 2 * (z.2.2.2 - c0) by omega), (show 52 * (M.2.2 - c0) ≤ 52 * (z.2.2.2 - c0) by omega)⟩ rfl dX11_said_45 (fun H locs hw => ?_)
  obtain ⟨z8, ez8, hf⟩ := bd_e hf
  have mz8 : M.2.2 ≤ z8.2.2.2 := mo_X11_tellSounds ez8
  refine clc_Vi hC hw (c_X11_tellSounds ez8) hd_X11_tellSounds cw_X11_202 (Nat.le_of_ble_eq_true rfl) rfl rfl (rest := []) hl.1 rfl (Nat.le_of_ble_eq_true rfl) ⟨Nat.le_of_ble_eq_true rfl, Nat.le_of_ble_eq_true rfl⟩ ⟨(show 2 * (M.2.2 - c0) ≤ 2 * (z.2.2.2 - c0) by omega), (show 52 * (M.2.2 - c0) ≤ 52 * (z.2.2.2 - c0) by omega)⟩ rfl dX11_said_48 (fun H locs hw => ?_)
  refine W.widen (k := 2 * (z.2.2.2 - c0)) (n := 52 * (z.2.2.2 - c0)) (by omega) (by omega) ?_
  have hz := Option.some.inj hf
  subst hz
  exact rta_i hC hw dX11_said_51
set_option maxRecDepth 100000 in
set_option maxHeartbeats 4000000 in
theorem k_X11_said {p : Program} {l : Launch} {e : Env} {s : State} {m : MethodId} {args : Array Value} {below : List Frame} {meth : Method} {c : Code} {D : va_G} {cy : Nat → ClassId} {z0 : Nat} {ad : Nat → Nat} {X : va_W} {u : Nat × Nat} (hC : cx_C p s m args meth c cX11_said "RhymedThen" (Cond.code yX11_said cX11_said 5 (some .int)) 5 (some .int)) {z : (Int32 × mm_M)} {c0 : Nat} {x1 : Int32} {x2 : Int32} {x3 : Int32} {x4 : Int32} {M : mm_M} (hc0 : c0 ≤ M.2.2) (hf : f_X11_said x1 x2 x3 x4 M = some z) {H : Heap} {locs : List Loc} (hw : wd_in cx_T D cy z0 ad u M X s H locs) {ls : Array Slot} (hl : lv_has ls 5 [(0, .ref (ad 0)), (1, .int x1), (2, .int x2), (3, .int x3), (4, .int x4)]) : W p l e { frames := 7, cells := 2 * (z.2.2.2 - c0), slots := 52 * (z.2.2.2 - c0), locals := 215 } s m args below meth c H locs (2 * (M.2.2 - c0)) (52 * (M.2.2 - c0)) (MQ below (aq_i cx_T D cy z0 ad X z.1 z.2) args s (2 * (z.2.2.2 - c0)) (52 * (z.2.2.2 - c0)) (fun q => z0 ≤ q)) (F0 m 0 ls []) := by
  have hx := hC.1
  have hb := hC.2.1
  have hmz : M.2.2 ≤ z.2.2.2 := mo_X11_said hf
  unfold f_X11_said at hf
  refine lv_aload_n hx hb dX11_said_0 rfl (lv_at hl 0 rfl) ?_
  refine lv_iload_n hx hb dX11_said_1 rfl (lv_at hl 1 rfl) ?_
  obtain ⟨z1, ez1, hf⟩ := sq_e hf
  refine clc_Vi hC hw (c_X11_isWord ez1.symm) hd_X11_isWord cw_X11_185 (Nat.le_of_ble_eq_true rfl) rfl rfl (rest := []) hl.1 rfl (Nat.le_of_ble_eq_true rfl) ⟨Nat.le_of_ble_eq_true rfl, Nat.le_of_ble_eq_true rfl⟩ ⟨(show 2 * (M.2.2 - c0) ≤ 2 * (z.2.2.2 - c0) by omega), (show 52 * (M.2.2 - c0) ≤ 52 * (z.2.2.2 - c0) by omega)⟩ rfl dX11_said_2 (fun H locs hw => ?_)
  refine lv_if_eq (tgt := 19) hx hb dX11_said_5 (by decide) (fun c2 => ?_) (fun c2 => ?_)
  · rw [if_pos c2] at hf
    refine lv_iconst (v := (-1)) hx hb dX11_said_19 (by decide) ?_
    refine W.widen (k := 2 * (z.2.2.2 - c0)) (n := 52 * (z.2.2.2 - c0)) (by omega) (by omega) ?_
    have hz := Option.some.inj hf
    subst hz
    exact rta_i hC hw dX11_said_20
  · rw [if_neg c2] at hf
    refine lv_aload_n hx hb dX11_said_8 rfl (lv_at hl 0 rfl) ?_
    refine lv_iload_n hx hb dX11_said_9 rfl (lv_at hl 2 rfl) ?_
    refine lv_iload_n hx hb dX11_said_10 rfl (lv_at hl 3 rfl) ?_
    refine lv_iload hx hb dX11_said_11 (lv_at hl 4 rfl) ?_
    obtain ⟨z3, ez3, hf⟩ := sq_e hf
    refine clc_Vi hC hw (c_X11_isThenAndThere ez3.symm) hd_X11_isThenAndThere cw_X11_188 (Nat.le_of_ble_eq_true rfl) rfl rfl (rest := []) hl.1 rfl (Nat.le_of_ble_eq_true rfl) ⟨Nat.le_of_ble_eq_true rfl, Nat.le_of_ble_eq_true rfl⟩ ⟨(show 2 * (M.2.2 - c0) ≤ 2 * (z.2.2.2 - c0) by omega), (show 52 * (M.2.2 - c0) ≤ 52 * (z.2.2.2 - c0) by omega)⟩ rfl dX11_said_13 (fun H locs hw => ?_)
    refine lv_if_ne (tgt := 21) hx hb dX11_said_16 (by decide) (fun c4 => ?_) (fun c4 => ?_)
    · rw [if_neg c4] at hf
      refine lv_aload_n hx hb dX11_said_21 rfl (lv_at hl 0 rfl) ?_
      refine rg_p hC hw 0 (Nat.le_of_ble_eq_true rfl) rfl fd_X11_1 wf_X11_19 (q := 3) rfl dX11_said_22 ?_
      obtain ⟨z5, ez5, hf⟩ := sq_e hf
      have mz5 : M.2.2 ≤ z5.2.2 := mo_X4_clear ez5.symm
      refine clc_Vv hC hw (c_X4_clear ez5.symm) hd_X4_clear cw_X11_192 (Nat.le_of_ble_eq_true rfl) rfl rfl (rest := []) hl.1 rfl (Nat.le_of_ble_eq_true rfl) ⟨Nat.le_of_ble_eq_true rfl, Nat.le_of_ble_eq_true rfl⟩ ⟨(show 2 * (M.2.2 - c0) ≤ 2 * (z.2.2.2 - c0) by omega), (show 52 * (M.2.2 - c0) ≤ 52 * (z.2.2.2 - c0) by omega)⟩ rfl dX11_said_25 (fun H locs hw => ?_)
      refine lv_aload_n hx hb dX11_said_28 rfl (lv_at hl 0 rfl) ?_
      refine lv_aload_n hx hb dX11_said_29 rfl (lv_at hl 0 rfl) ?_
      refine rg_p hC hw 0 (Nat.le_of_ble_eq_true rfl) rfl fd_X11_2 wf_X11_26 (q := 5) rfl dX11_said_30 ?_
      refine lv_aload_n hx hb dX11_said_33 rfl (lv_at hl 0 rfl) ?_
      refine rg_p hC hw 0 (Nat.le_of_ble_eq_true rfl) rfl fd_X11_3 wf_X11_35 (q := 14) rfl dX11_said_34 ?_
      refine lv_iload_n hx hb dX11_said_37 rfl (lv_at hl 2 rfl) ?_
      refine lv_iload_n hx hb dX11_said_38 rfl (lv_at hl 3 rfl) ?_
      refine lv_iload hx hb dX11_said_39 (lv_at hl 4 rfl) ?_
      obtain ⟨z6, ez6, hf⟩ := bd_e hf
      have mz6 : z5.2.2 ≤ z6.2.2.2 := mo_X3_courseAt ez6
      have hnz : z6.2.2.2 ≤ z.2.2.2 := mo_X11_said_44 hf
      refine cla_Vi hC hw (c_X3_courseAt ez6) hd_X3_courseAt cw_X11_195 (Nat.le_of_ble_eq_true rfl) rfl rfl (rest := [.ref (ad 5), .ref (ad 0)]) hl.1 rfl (Nat.le_of_ble_eq_true rfl) ⟨Nat.le_of_ble_eq_true rfl, Nat.le_of_ble_eq_true rfl⟩ ⟨(show 2 * (M.2.2 - c0) + 2 * (z6.2.2.2 - z5.2.2) ≤ 2 * (z.2.2.2 - c0) by omega), (show 52 * (M.2.2 - c0) + 52 * (z6.2.2.2 - z5.2.2) ≤ 52 * (z.2.2.2 - c0) by omega)⟩ rfl dX11_said_41 (fun u H locs hw => ?_)
      refine W.widen (k := 2 * (z6.2.2.2 - c0)) (n := 52 * (z6.2.2.2 - c0)) (by omega) (by omega) ?_
      exact k_X11_said_44 hC (by omega) hf hw (lv_sub hl [1] rfl)
    · rw [if_pos c4] at hf
      refine lv_iconst (v := (-1)) hx hb dX11_said_19 (by decide) ?_
      refine W.widen (k := 2 * (z.2.2.2 - c0)) (n := 52 * (z.2.2.2 - c0)) (by omega) (by omega) ?_
      have hz := Option.some.inj hf
      subst hz
      exact rta_i hC hw dX11_said_20
set_option maxRecDepth 100000 in
theorem c_X11_said {l : Launch} {D : va_G} {cy : Nat → ClassId} {z0 : Nat} {ad : Nat → Nat} {u : Nat × Nat} {X : va_W} {z : (Int32 × mm_M)} {x1 : Int32} {x2 : Int32} {x3 : Int32} {x4 : Int32} {M : mm_M} (hf : f_X11_said x1 x2 x3 x4 M = some z) : ca_i cx_T l yX11_said (Cond.code yX11_said cX11_said 5 (some .int)) 7 215 D cy z0 ad u M X [.ref (ad 0), .int x1, .int x2, .int x3, .int x4] z.1 z.2 := by
  refine bga_i (by decide) (fun p e s m below meth c hC hw => ?_)
  refine en_t (Nat.le_of_ble_eq_true rfl) (fun ls hl => ?_)
  have hl : lv_has ls 5 [(0, .ref (ad 0)), (1, .int x1), (2, .int x2), (3, .int x3), (4, .int x4)] := hl
  refine W.widen (k := 2 * (M.2.2 - M.2.2)) (n := 52 * (M.2.2 - M.2.2)) (by omega) (by omega) ?_
  exact k_X11_said hC (Nat.le_refl _) hf hw hl
set_option maxRecDepth 100000 in
set_option maxHeartbeats 4000000 in
theorem k_X3_newsYear {p : Program} {l : Launch} {e : Env} {s : State} {m : MethodId} {args : Array Value} {below : List Frame} {meth : Method} {c : Code} {D : va_G} {cy : Nat → ClassId} {z0 : Nat} {ad : Nat → Nat} {X : va_W} {u : Nat × Nat} (hC : cx_C p s m args meth c cX3_newsYear "RhymedThen$Past" (Cond.code yX3_newsYear cX3_newsYear 4 (some .int)) 4 (some .int)) {z : Int32} {x1 : Int32} {x2 : Int32} {x3 : Int32} {M : mm_M} (hf : f_X3_newsYear x1 x2 x3 M = some z) {H : Heap} {locs : List Loc} (hw : wd_in cx_T D cy z0 ad u M X s H locs) {ls : Array Slot} (hl : lv_has ls 4 [(0, .ref (ad 14)), (1, .int x1), (2, .int x2), (3, .int x3)]) : W p l e { frames := 1, cells := 0, slots := 0, locals := 22 } s m args below meth c H locs 0 0 (MQ below (cq_i cx_T D cy z0 ad u X z M) args s 0 0 (fun q => z0 ≤ q)) (F0 m 0 ls []) := by
  have hx := hC.1
  have hb := hC.2.1
  unfold f_X3_newsYear at hf
  refine lv_iload_n hx hb dX3_newsYear_0 rfl (lv_at hl 2 rfl) ?_
  refine lv_if_ne (tgt := 8) hx hb dX3_newsYear_1 (by decide) (fun c1 => ?_) (fun c1 => ?_)
  · rw [if_neg c1] at hf
    refine lv_aload_n hx hb dX3_newsYear_8 rfl (lv_at hl 0 rfl) ?_
    refine rg_p hC hw 14 (Nat.le_of_ble_eq_true rfl) rfl fd_X3_5 wf_X3_25 (q := 17) rfl dX3_newsYear_9 ?_
    refine lv_iload_n hx hb dX3_newsYear_12 rfl (lv_at hl 1 rfl) ?_
    obtain ⟨h2, hf⟩ := ck_e hf
    refine ra_l hC hw 17 (Nat.le_of_ble_eq_true rfl) rfl h2 dX3_newsYear_13 ?_
    refine lv_iload_n hx hb dX3_newsYear_14 rfl (lv_at hl 2 rfl) ?_
    refine lv_iconst (v := 1) hx hb dX3_newsYear_15 (by decide) ?_
    refine lv_isub hx hb dX3_newsYear_16 ?_
    obtain ⟨z3, ez3, hf⟩ := sq_e hf
    refine clc_Si hC hw (c_X3_yearIn ez3.symm) hd_X3_yearIn cw_X3_40 (rest := []) hl.1 rfl (Nat.le_of_ble_eq_true rfl) ⟨Nat.le_of_ble_eq_true rfl, Nat.le_of_ble_eq_true rfl⟩ ⟨Nat.zero_le _, Nat.zero_le _⟩ rfl dX3_newsYear_17 (fun H locs hw => ?_)
    refine lv_aload_n hx hb dX3_newsYear_20 rfl (lv_at hl 0 rfl) ?_
    refine rg_p hC hw 14 (Nat.le_of_ble_eq_true rfl) rfl fd_X3_1 wf_X3_9 (q := 15) rfl dX3_newsYear_21 ?_
    refine lv_iload_n hx hb dX3_newsYear_24 rfl (lv_at hl 3 rfl) ?_
    obtain ⟨h4, hf⟩ := ck_e hf
    refine ra_i hC hw 15 (Nat.le_of_ble_eq_true rfl) rfl h4 dX3_newsYear_25 ?_
    refine lv_iadd hx hb dX3_newsYear_26 ?_
    have hz := Option.some.inj hf
    subst hz
    exact rtc_i hC hw dX3_newsYear_27
  · rw [if_pos c1] at hf
    refine lv_iconst (v := 0) hx hb dX3_newsYear_4 (by decide) ?_
    refine lv_goto (tgt := 27) hx hb dX3_newsYear_5 (by decide) ?_
    have hz := Option.some.inj hf
    subst hz
    exact rtc_i hC hw dX3_newsYear_27
set_option maxRecDepth 100000 in
theorem c_X3_newsYear {l : Launch} {D : va_G} {cy : Nat → ClassId} {z0 : Nat} {ad : Nat → Nat} {u : Nat × Nat} {X : va_W} {z : Int32} {x1 : Int32} {x2 : Int32} {x3 : Int32} {M : mm_M} (hf : f_X3_newsYear x1 x2 x3 M = some z) : ct_i cx_T l yX3_newsYear (Cond.code yX3_newsYear cX3_newsYear 4 (some .int)) 1 22 D cy z0 ad u M X [.ref (ad 14), .int x1, .int x2, .int x3] z M := by
  refine bgc_i (by decide) (fun p e s m below meth c hC hw => ?_)
  refine en_t (Nat.le_of_ble_eq_true rfl) (fun ls hl => ?_)
  have hl : lv_has ls 4 [(0, .ref (ad 14)), (1, .int x1), (2, .int x2), (3, .int x3)] := hl
  exact k_X3_newsYear hC hf hw hl
set_option maxRecDepth 100000 in
set_option maxHeartbeats 4000000 in
theorem k_X11_changes_114 {p : Program} {l : Launch} {e : Env} {s : State} {m : MethodId} {args : Array Value} {below : List Frame} {meth : Method} {c : Code} {D : va_G} {cy : Nat → ClassId} {z0 : Nat} {ad : Nat → Nat} {X : va_W} {u : Nat × Nat} (hC : cx_C p s m args meth c cX11_changes "RhymedThen" (Cond.code yX11_changes cX11_changes 10 (some .int)) 10 (some .int)) {z : (Int32 × mm_M)} {c0 : Nat} {x1 : Int32} {x2 : Int32} {x3 : Int32} {x4 : Int64} {x6 : Int32} {M : mm_M} (hc0 : c0 ≤ M.2.2) {q46 : Int32 → Int32 → Int32 → Int64 → Int32 → mm_M → Option (Int32 × mm_M)} (hq46 : ∀ (x1 : Int32) (x2 : Int32) (x3 : Int32) (x4 : Int64) (x6 : Int32) (M : mm_M) (u : Nat × Nat) (H : Heap) (locs : List Loc) (ls : Array Slot), c0 ≤ M.2.2 → q46 x1 x2 x3 x4 x6 M = some z → wd_in cx_T D cy z0 ad u M X s H locs → lv_has ls 10 [(0, .ref (ad 0)), (1, .int x1), (2, .int x2), (3, .int x3), (4, .long x4), (6, .int x6)] → W p l e { frames := 7, cells := 2 * (z.2.2.2 - c0), slots := 52 * (z.2.2.2 - c0), locals := 215 } s m args below meth c H locs (2 * (M.2.2 - c0)) (52 * (M.2.2 - c0)) (MQ below (aq_i cx_T D cy z0 ad X z.1 z.2) args s (2 * (z.2.2.2 - c0)) (52 * (z.2.2.2 - c0)) (fun q => z0 ≤ q)) (F0 m 46 ls [])) (hm46 : ∀ (x1 : Int32) (x2 : Int32) (x3 : Int32) (x4 : Int64) (x6 : Int32) (M : mm_M), q46 x1 x2 x3 x4 x6 M = some z → M.2.2 ≤ z.2.2.2) (hf : f_X11_changes_114 q46 x1 x2 x3 x4 x6 M = some z) {H : Heap} {locs : List Loc} (hw : wd_in cx_T D cy z0 ad u M X s H locs) {ls : Array Slot} (hl : lv_has ls 10 [(0, .ref (ad 0)), (1, .int x1), (2, .int x2), (3, .int x3), (4, .long x4), (6, .int x6)]) : W p l e { frames := 7, cells := 2 * (z.2.2.2 - c0), slots := 52 * (z.2.2.2 - c0), locals := 215 } s m args below meth c H locs (2 * (M.2.2 - c0)) (52 * (M.2.2 - c0)) (MQ below (aq_i cx_T D cy z0 ad X z.1 z.2) args s (2 * (z.2.2.2 - c0)) (52 * (z.2.2.2 - c0)) (fun q => z0 ≤ q)) (F0 m 114 ls []) := by
  have hx := hC.1
  have hb := hC.2.1
  have hmz : M.2.2 ≤ z.2.2.2 := mo_X11_changes_114 hm46 hf
  unfold f_X11_changes_114 at hf
  obtain ⟨y15, ey15, hf⟩ := sq_e hf
  refine lv_iinc (v := y15) (lv' := [(6, .int y15), (0, .ref (ad 0)), (1, .int x1), (2, .int x2), (3, .int x3), (4, .long x4)]) hx hb dX11_changes_114 hl (k := 5) rfl (by rw [ey15]; rfl) (by decide) rfl (fun ls hl => ?_)
  refine lv_goto (tgt := 46) hx hb dX11_changes_117 (by decide) ?_
  refine W.widen (k := 2 * (M.2.2 - c0)) (n := 52 * (M.2.2 - c0)) (by omega) (by omega) ?_
  exact hq46 _ _ _ _ _ _ _ _ _ _ (by omega) hf hw (lv_sub hl [1, 2, 3, 4, 5, 0] rfl)
set_option maxRecDepth 100000 in
set_option maxHeartbeats 4000000 in
theorem k_X11_changes_86 {p : Program} {l : Launch} {e : Env} {s : State} {m : MethodId} {args : Array Value} {below : List Frame} {meth : Method} {c : Code} {D : va_G} {cy : Nat → ClassId} {z0 : Nat} {ad : Nat → Nat} {X : va_W} {u : Nat × Nat} (hC : cx_C p s m args meth c cX11_changes "RhymedThen" (Cond.code yX11_changes cX11_changes 10 (some .int)) 10 (some .int)) {z : (Int32 × mm_M)} {c0 : Nat} {x1 : Int32} {x2 : Int32} {x3 : Int32} {x4 : Int64} {x6 : Int32} {x7 : Int32} {t1 : Int32} {M : mm_M} (hc0 : c0 ≤ M.2.2) {q46 : Int32 → Int32 → Int32 → Int64 → Int32 → mm_M → Option (Int32 × mm_M)} (hq46 : ∀ (x1 : Int32) (x2 : Int32) (x3 : Int32) (x4 : Int64) (x6 : Int32) (M : mm_M) (u : Nat × Nat) (H : Heap) (locs : List Loc) (ls : Array Slot), c0 ≤ M.2.2 → q46 x1 x2 x3 x4 x6 M = some z → wd_in cx_T D cy z0 ad u M X s H locs → lv_has ls 10 [(0, .ref (ad 0)), (1, .int x1), (2, .int x2), (3, .int x3), (4, .long x4), (6, .int x6)] → W p l e { frames := 7, cells := 2 * (z.2.2.2 - c0), slots := 52 * (z.2.2.2 - c0), locals := 215 } s m args below meth c H locs (2 * (M.2.2 - c0)) (52 * (M.2.2 - c0)) (MQ below (aq_i cx_T D cy z0 ad X z.1 z.2) args s (2 * (z.2.2.2 - c0)) (52 * (z.2.2.2 - c0)) (fun q => z0 ≤ q)) (F0 m 46 ls [])) (hm46 : ∀ (x1 : Int32) (x2 : Int32) (x3 : Int32) (x4 : Int64) (x6 : Int32) (M : mm_M), q46 x1 x2 x3 x4 x6 M = some z → M.2.2 ≤ z.2.2.2) (hf : f_X11_changes_86 q46 x1 x2 x3 x4 x6 x7 t1 M = some z) {H : Heap} {locs : List Loc} (hw : wd_in cx_T D cy z0 ad u M X s H locs) {ls : Array Slot} (hl : lv_has ls 10 [(0, .ref (ad 0)), (1, .int x1), (2, .int x2), (3, .int x3), (4, .long x4), (6, .int x6), (7, .int x7)]) : W p l e { frames := 7, cells := 2 * (z.2.2.2 - c0), slots := 52 * (z.2.2.2 - c0), locals := 215 } s m args below meth c H locs (2 * (M.2.2 - c0)) (52 * (M.2.2 - c0)) (MQ below (aq_i cx_T D cy z0 ad X z.1 z.2) args s (2 * (z.2.2.2 - c0)) (52 * (z.2.2.2 - c0)) (fun q => z0 ≤ q)) (F0 m 86 ls [.int t1, .ref (ad 5)]) := by
  have hx := hC.1
  have hb := hC.2.1
  have hmz : M.2.2 ≤ z.2.2.2 := mo_X11_changes_86 hm46 hf
  unfold f_X11_changes_86 at hf
  refine lv_iload_n hx hb dX11_changes_86 rfl (lv_at hl 1 rfl) ?_
  obtain ⟨z12, ez12, hf⟩ := bd_e hf
  refine clc_Vl hC hw (c_X9_formOn ez12) hd_X9_formOn cw_X11_198 (Nat.le_of_ble_eq_true rfl) rfl rfl (rest := []) hl.1 rfl (Nat.le_of_ble_eq_true rfl) ⟨Nat.le_of_ble_eq_true rfl, Nat.le_of_ble_eq_true rfl⟩ ⟨(show 2 * (M.2.2 - c0) ≤ 2 * (z.2.2.2 - c0) by omega), (show 52 * (M.2.2 - c0) ≤ 52 * (z.2.2.2 - c0) by omega)⟩ rfl dX11_changes_87 (fun H locs hw => ?_)
  refine lv_lstore (lv' := [(8, .long z12), (0, .ref (ad 0)), (1, .int x1), (2, .int x2), (3, .int x3), (4, .long x4), (6, .int x6), (7, .int x7)]) hx hb dX11_changes_90 hl (by decide) rfl (fun ls hl => ?_)
  refine lv_lload hx hb dX11_changes_92 (lv_at hl 0 rfl) ?_
  refine lv_lload hx hb dX11_changes_94 (lv_at hl 5 rfl) ?_
  refine lc_eq (tgt := 114) hx hb dX11_changes_96 dX11_changes_97 (by decide) (fun c13 => ?_) (fun c13 => ?_)
  · rw [if_pos c13] at hf
    refine W.widen (k := 2 * (M.2.2 - c0)) (n := 52 * (M.2.2 - c0)) (by omega) (by omega) ?_
    exact k_X11_changes_114 hC (by omega) hq46 hm46 hf hw (lv_sub hl [1, 2, 3, 4, 5, 6] rfl)
  · rw [if_neg c13] at hf
    refine lv_aload_n hx hb dX11_changes_100 rfl (lv_at hl 1 rfl) ?_
    refine rg_p hC hw 0 (Nat.le_of_ble_eq_true rfl) rfl fd_X11_1 wf_X11_19 (q := 3) rfl dX11_changes_101 ?_
    refine lv_iload hx hb dX11_changes_104 (lv_at hl 7 rfl) ?_
    refine lv_i2l hx hb dX11_changes_106 rfl ?_
    obtain ⟨z14, ez14, hf⟩ := bd_e hf
    have mz14 : M.2.2 ≤ z14.2.2 := mo_X4_add ez14
    refine clc_Vv hC hw (c_X4_add ez14) hd_X4_add cw_X11_214 (Nat.le_of_ble_eq_true rfl) rfl rfl (rest := []) hl.1 rfl (Nat.le_of_ble_eq_true rfl) ⟨Nat.le_of_ble_eq_true rfl, Nat.le_of_ble_eq_true rfl⟩ ⟨(show 2 * (M.2.2 - c0) ≤ 2 * (z.2.2.2 - c0) by omega), (show 52 * (M.2.2 - c0) ≤ 52 * (z.2.2.2 - c0) by omega)⟩ rfl dX11_changes_107 (fun H locs hw => ?_)
    refine lv_lload hx hb dX11_changes_110 (lv_at hl 0 rfl) ?_
    refine lv_lstore (lv' := [(4, .long z12), (8, .long z12), (0, .ref (ad 0)), (1, .int x1), (2, .int x2), (3, .int x3), (6, .int x6), (7, .int x7)]) hx hb dX11_changes_112 hl (by decide) rfl (fun ls hl => ?_)
    refine W.widen (k := 2 * (z14.2.2 - c0)) (n := 52 * (z14.2.2 - c0)) (by omega) (by omega) ?_
    exact k_X11_changes_114 hC (by omega) hq46 hm46 hf hw (lv_sub hl [2, 3, 4, 5, 0, 6] rfl)
set_option maxRecDepth 100000 in
set_option maxHeartbeats 4000000 in
theorem k_X11_changes_120 {p : Program} {l : Launch} {e : Env} {s : State} {m : MethodId} {args : Array Value} {below : List Frame} {meth : Method} {c : Code} {D : va_G} {cy : Nat → ClassId} {z0 : Nat} {ad : Nat → Nat} {X : va_W} {u : Nat × Nat} (hC : cx_C p s m args meth c cX11_changes "RhymedThen" (Cond.code yX11_changes cX11_changes 10 (some .int)) 10 (some .int)) {z : (Int32 × mm_M)} {c0 : Nat} {M : mm_M} (hc0 : c0 ≤ M.2.2) (hf : f_X11_changes_120 M = some z) {H : Heap} {locs : List Loc} (hw : wd_in cx_T D cy z0 ad u M X s H locs) {ls : Array Slot} (hl : lv_has ls 10 [(0, .ref (ad 0))]) : W p l e { frames := 7, cells := 2 * (z.2.2.2 - c0), slots := 52 * (z.2.2.2 - c0), locals := 215 } s m args below meth c H locs (2 * (M.2.2 - c0)) (52 * (M.2.2 - c0)) (MQ below (aq_i cx_T D cy z0 ad X z.1 z.2) args s (2 * (z.2.2.2 - c0)) (52 * (z.2.2.2 - c0)) (fun q => z0 ≤ q)) (F0 m 120 ls []) := by
  have hx := hC.1
  have hb := hC.2.1
  have hmz : M.2.2 ≤ z.2.2.2 := mo_X11_changes_120 hf
  unfold f_X11_changes_120 at hf
  refine lv_aload_n hx hb dX11_changes_120 rfl (lv_at hl 0 rfl) ?_
  refine rg_p hC hw 0 (Nat.le_of_ble_eq_true rfl) rfl fd_X11_1 wf_X11_19 (q := 3) rfl dX11_changes_121 ?_
  refine rg_i hC hw 3 (Nat.le_of_ble_eq_true rfl) rfl fd_X4_1 wf_X11_224 dX11_changes_124 ?_
  refine W.widen (k := 2 * (z.2.2.2 - c0)) (n := 52 * (z.2.2.2 - c0)) (by omega) (by omega) ?_
  have hz := Option.some.inj hf
  subst hz
  exact rta_i hC hw dX11_changes_127
set_option maxRecDepth 100000 in
set_option maxHeartbeats 4000000 in
theorem k_X11_changes_46 {p : Program} {l : Launch} {e : Env} {s : State} {m : MethodId} {args : Array Value} {below : List Frame} {meth : Method} {c : Code} {D : va_G} {cy : Nat → ClassId} {z0 : Nat} {ad : Nat → Nat} {X : va_W} {u : Nat × Nat} (hC : cx_C p s m args meth c cX11_changes "RhymedThen" (Cond.code yX11_changes cX11_changes 10 (some .int)) 10 (some .int)) {z : (Int32 × mm_M)} {c0 : Nat} {x1 : Int32} {x2 : Int32} {x3 : Int32} {x4 : Int64} {x6 : Int32} {M : mm_M} (hc0 : c0 ≤ M.2.2) {q46 : Int32 → Int32 → Int32 → Int64 → Int32 → mm_M → Option (Int32 × mm_M)} (hq46 : ∀ (x1 : Int32) (x2 : Int32) (x3 : Int32) (x4 : Int64) (x6 : Int32) (M : mm_M) (u : Nat × Nat) (H : Heap) (locs : List Loc) (ls : Array Slot), c0 ≤ M.2.2 → q46 x1 x2 x3 x4 x6 M = some z → wd_in cx_T D cy z0 ad u M X s H locs → lv_has ls 10 [(0, .ref (ad 0)), (1, .int x1), (2, .int x2), (3, .int x3), (4, .long x4), (6, .int x6)] → W p l e { frames := 7, cells := 2 * (z.2.2.2 - c0), slots := 52 * (z.2.2.2 - c0), locals := 215 } s m args below meth c H locs (2 * (M.2.2 - c0)) (52 * (M.2.2 - c0)) (MQ below (aq_i cx_T D cy z0 ad X z.1 z.2) args s (2 * (z.2.2.2 - c0)) (52 * (z.2.2.2 - c0)) (fun q => z0 ≤ q)) (F0 m 46 ls [])) (hm46 : ∀ (x1 : Int32) (x2 : Int32) (x3 : Int32) (x4 : Int64) (x6 : Int32) (M : mm_M), q46 x1 x2 x3 x4 x6 M = some z → M.2.2 ≤ z.2.2.2) (hf : f_X11_changes_46 q46 x1 x2 x3 x4 x6 M = some z) {H : Heap} {locs : List Loc} (hw : wd_in cx_T D cy z0 ad u M X s H locs) {ls : Array Slot} (hl : lv_has ls 10 [(0, .ref (ad 0)), (1, .int x1), (2, .int x2), (3, .int x3), (4, .long x4), (6, .int x6)]) : W p l e { frames := 7, cells := 2 * (z.2.2.2 - c0), slots := 52 * (z.2.2.2 - c0), locals := 215 } s m args below meth c H locs (2 * (M.2.2 - c0)) (52 * (M.2.2 - c0)) (MQ below (aq_i cx_T D cy z0 ad X z.1 z.2) args s (2 * (z.2.2.2 - c0)) (52 * (z.2.2.2 - c0)) (fun q => z0 ≤ q)) (F0 m 46 ls []) := by
  have hx := hC.1
  have hb := hC.2.1
  have hmz : M.2.2 ≤ z.2.2.2 := mo_X11_changes_46 hm46 hf
  unfold f_X11_changes_46 at hf
  refine lv_iload hx hb dX11_changes_46 (lv_at hl 5 rfl) ?_
  refine lv_aload_n hx hb dX11_changes_48 rfl (lv_at hl 0 rfl) ?_
  refine rg_p hC hw 0 (Nat.le_of_ble_eq_true rfl) rfl fd_X11_2 wf_X11_26 (q := 5) rfl dX11_changes_49 ?_
  refine rg_i hC hw 5 (Nat.le_of_ble_eq_true rfl) rfl fd_X9_1 wf_X11_138 dX11_changes_52 ?_
  refine lv_icmp_gt (tgt := 120) hx hb dX11_changes_55 (by decide) (fun c9 => ?_) (fun c9 => ?_)
  · rw [if_pos c9] at hf
    refine W.widen (k := 2 * (M.2.2 - c0)) (n := 52 * (M.2.2 - c0)) (by omega) (by omega) ?_
    exact k_X11_changes_120 hC (by omega) hf hw (lv_sub hl [0] rfl)
  · rw [if_neg c9] at hf
    refine lv_aload_n hx hb dX11_changes_58 rfl (lv_at hl 0 rfl) ?_
    refine rg_p hC hw 0 (Nat.le_of_ble_eq_true rfl) rfl fd_X11_3 wf_X11_35 (q := 14) rfl dX11_changes_59 ?_
    refine lv_iload_n hx hb dX11_changes_62 rfl (lv_at hl 2 rfl) ?_
    refine lv_iload hx hb dX11_changes_63 (lv_at hl 5 rfl) ?_
    refine lv_iload_n hx hb dX11_changes_65 rfl (lv_at hl 3 rfl) ?_
    obtain ⟨z10, ez10, hf⟩ := bd_e hf
    refine clc_Vi hC hw (c_X3_newsYear ez10) hd_X3_newsYear cw_X11_221 (Nat.le_of_ble_eq_true rfl) rfl rfl (rest := []) hl.1 rfl (Nat.le_of_ble_eq_true rfl) ⟨Nat.le_of_ble_eq_true rfl, Nat.le_of_ble_eq_true rfl⟩ ⟨(show 2 * (M.2.2 - c0) ≤ 2 * (z.2.2.2 - c0) by omega), (show 52 * (M.2.2 - c0) ≤ 52 * (z.2.2.2 - c0) by omega)⟩ rfl dX11_changes_66 (fun H locs hw => ?_)
    refine lv_istore (lv' := [(7, .int z10), (0, .ref (ad 0)), (1, .int x1), (2, .int x2), (3, .int x3), (4, .long x4), (6, .int x6)]) hx hb dX11_changes_69 hl (by decide) rfl (fun ls hl => ?_)
    refine lv_aload_n hx hb dX11_changes_71 rfl (lv_at hl 1 rfl) ?_
    refine rg_p hC hw 0 (Nat.le_of_ble_eq_true rfl) rfl fd_X11_2 wf_X11_26 (q := 5) rfl dX11_changes_72 ?_
    refine lv_aload_n hx hb dX11_changes_75 rfl (lv_at hl 1 rfl) ?_
    refine rg_p hC hw 0 (Nat.le_of_ble_eq_true rfl) rfl fd_X11_3 wf_X11_35 (q := 14) rfl dX11_changes_76 ?_
    refine lv_iload_n hx hb dX11_changes_79 rfl (lv_at hl 3 rfl) ?_
    refine lv_iload hx hb dX11_changes_80 (lv_at hl 0 rfl) ?_
    refine lv_iload_n hx hb dX11_changes_82 rfl (lv_at hl 4 rfl) ?_
    obtain ⟨z11, ez11, hf⟩ := bd_e hf
    have mz11 : M.2.2 ≤ z11.2.2.2 := mo_X3_courseAt ez11
    have hnz : z11.2.2.2 ≤ z.2.2.2 := mo_X11_changes_86 hm46 hf
    refine cla_Vi hC hw (c_X3_courseAt ez11) hd_X3_courseAt cw_X11_195 (Nat.le_of_ble_eq_true rfl) rfl rfl (rest := [.ref (ad 5)]) hl.1 rfl (Nat.le_of_ble_eq_true rfl) ⟨Nat.le_of_ble_eq_true rfl, Nat.le_of_ble_eq_true rfl⟩ ⟨(show 2 * (M.2.2 - c0) + 2 * (z11.2.2.2 - M.2.2) ≤ 2 * (z.2.2.2 - c0) by omega), (show 52 * (M.2.2 - c0) + 52 * (z11.2.2.2 - M.2.2) ≤ 52 * (z.2.2.2 - c0) by omega)⟩ rfl dX11_changes_83 (fun u H locs hw => ?_)
    refine W.widen (k := 2 * (z11.2.2.2 - c0)) (n := 52 * (z11.2.2.2 - c0)) (by omega) (by omega) ?_
    exact k_X11_changes_86 hC (by omega) hq46 hm46 hf hw (lv_sub hl [1, 2, 3, 4, 5, 6, 0] rfl)
set_option maxRecDepth 100000 in
set_option maxHeartbeats 4000000 in
theorem k_X11_changes_46l {p : Program} {l : Launch} {e : Env} {s : State} {m : MethodId} {args : Array Value} {below : List Frame} {meth : Method} {c : Code} {D : va_G} {cy : Nat → ClassId} {z0 : Nat} {ad : Nat → Nat} {X : va_W} (hC : cx_C p s m args meth c cX11_changes "RhymedThen" (Cond.code yX11_changes cX11_changes 10 (some .int)) 10 (some .int)) {z : (Int32 × mm_M)} {c0 : Nat} : ∀ (n : Nat) (x1 : Int32) (x2 : Int32) (x3 : Int32) (x4 : Int64) (x6 : Int32) (M : mm_M) (u : Nat × Nat) (H : Heap) (locs : List Loc) (ls : Array Slot), c0 ≤ M.2.2 → f_X11_changes_46l n x1 x2 x3 x4 x6 M = some z → wd_in cx_T D cy z0 ad u M X s H locs → lv_has ls 10 [(0, .ref (ad 0)), (1, .int x1), (2, .int x2), (3, .int x3), (4, .long x4), (6, .int x6)] → W p l e { frames := 7, cells := 2 * (z.2.2.2 - c0), slots := 52 * (z.2.2.2 - c0), locals := 215 } s m args below meth c H locs (2 * (M.2.2 - c0)) (52 * (M.2.2 - c0)) (MQ below (aq_i cx_T D cy z0 ad X z.1 z.2) args s (2 * (z.2.2.2 - c0)) (52 * (z.2.2.2 - c0)) (fun q => z0 ≤ q)) (F0 m 46 ls []) := by
  intro n
  induction n with
  | zero => intro x1 x2 x3 x4 x6 M u H locs ls hc0 hf; exact absurd hf (by simp [f_X11_changes_46l])
  | succ n ih => intro x1 x2 x3 x4 x6 M u H locs ls hc0 hf hw hl; exact k_X11_changes_46 hC hc0 ih (mo_X11_changes_46l n) hf hw hl
set_option maxRecDepth 100000 in
set_option maxHeartbeats 4000000 in
theorem k_X11_changes {p : Program} {l : Launch} {e : Env} {s : State} {m : MethodId} {args : Array Value} {below : List Frame} {meth : Method} {c : Code} {D : va_G} {cy : Nat → ClassId} {z0 : Nat} {ad : Nat → Nat} {X : va_W} {u : Nat × Nat} (hC : cx_C p s m args meth c cX11_changes "RhymedThen" (Cond.code yX11_changes cX11_changes 10 (some .int)) 10 (some .int)) {z : (Int32 × mm_M)} {c0 : Nat} {x1 : Int32} {x2 : Int32} {x3 : Int32} {M : mm_M} (hc0 : c0 ≤ M.2.2) (hf : f_X11_changes x1 x2 x3 M = some z) {H : Heap} {locs : List Loc} (hw : wd_in cx_T D cy z0 ad u M X s H locs) {ls : Array Slot} (hl : lv_has ls 10 [(0, .ref (ad 0)), (1, .int x1), (2, .int x2), (3, .int x3)]) : W p l e { frames := 7, cells := 2 * (z.2.2.2 - c0), slots := 52 * (z.2.2.2 - c0), locals := 215 } s m args below meth c H locs (2 * (M.2.2 - c0)) (52 * (M.2.2 - c0)) (MQ below (aq_i cx_T D cy z0 ad X z.1 z.2) args s (2 * (z.2.2.2 - c0)) (52 * (z.2.2.2 - c0)) (fun q => z0 ≤ q)) (F0 m 0 ls []) := by
  have hx := hC.1
  have hb := hC.2.1
  have hmz : M.2.2 ≤ z.2.2.2 := mo_X11_changes hf
  unfold f_X11_changes at hf
  refine lv_aload_n hx hb dX11_changes_0 rfl (lv_at hl 0 rfl) ?_
  refine lv_iload_n hx hb dX11_changes_1 rfl (lv_at hl 1 rfl) ?_
  obtain ⟨z1, ez1, hf⟩ := sq_e hf
  refine clc_Vi hC hw (c_X11_isWord ez1.symm) hd_X11_isWord cw_X11_185 (Nat.le_of_ble_eq_true rfl) rfl rfl (rest := []) hl.1 rfl (Nat.le_of_ble_eq_true rfl) ⟨Nat.le_of_ble_eq_true rfl, Nat.le_of_ble_eq_true rfl⟩ ⟨(show 2 * (M.2.2 - c0) ≤ 2 * (z.2.2.2 - c0) by omega), (show 52 * (M.2.2 - c0) ≤ 52 * (z.2.2.2 - c0) by omega)⟩ rfl dX11_changes_2 (fun H locs hw => ?_)
  refine lv_if_eq (tgt := 23) hx hb dX11_changes_5 (by decide) (fun c2 => ?_) (fun c2 => ?_)
  · rw [if_pos c2] at hf
    refine lv_iconst (v := (-1)) hx hb dX11_changes_23 (by decide) ?_
    refine W.widen (k := 2 * (z.2.2.2 - c0)) (n := 52 * (z.2.2.2 - c0)) (by omega) (by omega) ?_
    have hz := Option.some.inj hf
    subst hz
    exact rta_i hC hw dX11_changes_24
  · rw [if_neg c2] at hf
    refine lv_aload_n hx hb dX11_changes_8 rfl (lv_at hl 0 rfl) ?_
    refine lv_iload_n hx hb dX11_changes_9 rfl (lv_at hl 2 rfl) ?_
    obtain ⟨z3, ez3, hf⟩ := sq_e hf
    refine clc_Vi hC hw (c_X11_isHistory ez3.symm) hd_X11_isHistory cw_X11_218 (Nat.le_of_ble_eq_true rfl) rfl rfl (rest := []) hl.1 rfl (Nat.le_of_ble_eq_true rfl) ⟨Nat.le_of_ble_eq_true rfl, Nat.le_of_ble_eq_true rfl⟩ ⟨(show 2 * (M.2.2 - c0) ≤ 2 * (z.2.2.2 - c0) by omega), (show 52 * (M.2.2 - c0) ≤ 52 * (z.2.2.2 - c0) by omega)⟩ rfl dX11_changes_10 (fun H locs hw => ?_)
    refine lv_if_eq (tgt := 23) hx hb dX11_changes_13 (by decide) (fun c4 => ?_) (fun c4 => ?_)
    · rw [if_pos c4] at hf
      refine lv_iconst (v := (-1)) hx hb dX11_changes_23 (by decide) ?_
      refine W.widen (k := 2 * (z.2.2.2 - c0)) (n := 52 * (z.2.2.2 - c0)) (by omega) (by omega) ?_
      have hz := Option.some.inj hf
      subst hz
      exact rta_i hC hw dX11_changes_24
    · rw [if_neg c4] at hf
      refine lv_iload_n hx hb dX11_changes_16 rfl (lv_at hl 3 rfl) ?_
      obtain ⟨z5, ez5, hf⟩ := sq_e hf
      refine clc_Si hC hw (c_X11_isPlace ez5.symm) hd_X11_isPlace cw_X11_163 (rest := []) hl.1 rfl (Nat.le_of_ble_eq_true rfl) ⟨Nat.le_of_ble_eq_true rfl, Nat.le_of_ble_eq_true rfl⟩ ⟨(show 2 * (M.2.2 - c0) ≤ 2 * (z.2.2.2 - c0) by omega), (show 52 * (M.2.2 - c0) ≤ 52 * (z.2.2.2 - c0) by omega)⟩ rfl dX11_changes_17 (fun H locs hw => ?_)
      refine lv_if_ne (tgt := 25) hx hb dX11_changes_20 (by decide) (fun c6 => ?_) (fun c6 => ?_)
      · rw [if_neg c6] at hf
        refine lv_aload_n hx hb dX11_changes_25 rfl (lv_at hl 0 rfl) ?_
        refine rg_p hC hw 0 (Nat.le_of_ble_eq_true rfl) rfl fd_X11_1 wf_X11_19 (q := 3) rfl dX11_changes_26 ?_
        obtain ⟨z7, ez7, hf⟩ := sq_e hf
        have mz7 : M.2.2 ≤ z7.2.2 := mo_X4_clear ez7.symm
        refine clc_Vv hC hw (c_X4_clear ez7.symm) hd_X4_clear cw_X11_192 (Nat.le_of_ble_eq_true rfl) rfl rfl (rest := []) hl.1 rfl (Nat.le_of_ble_eq_true rfl) ⟨Nat.le_of_ble_eq_true rfl, Nat.le_of_ble_eq_true rfl⟩ ⟨(show 2 * (M.2.2 - c0) ≤ 2 * (z.2.2.2 - c0) by omega), (show 52 * (M.2.2 - c0) ≤ 52 * (z.2.2.2 - c0) by omega)⟩ rfl dX11_changes_29 (fun H locs hw => ?_)
        refine lv_aload_n hx hb dX11_changes_32 rfl (lv_at hl 0 rfl) ?_
        refine rg_p hC hw 0 (Nat.le_of_ble_eq_true rfl) rfl fd_X11_2 wf_X11_26 (q := 5) rfl dX11_changes_33 ?_
        refine lv_iconst (v := 0) hx hb dX11_changes_36 (by decide) ?_
        refine lv_iload_n hx hb dX11_changes_37 rfl (lv_at hl 1 rfl) ?_
        obtain ⟨z8, ez8, hf⟩ := bd_e hf
        refine clc_Vl hC hw (c_X9_formOn ez8) hd_X9_formOn cw_X11_198 (Nat.le_of_ble_eq_true rfl) rfl rfl (rest := []) hl.1 rfl (Nat.le_of_ble_eq_true rfl) ⟨Nat.le_of_ble_eq_true rfl, Nat.le_of_ble_eq_true rfl⟩ ⟨(show 2 * (M.2.2 - c0) ≤ 2 * (z.2.2.2 - c0) by omega), (show 52 * (M.2.2 - c0) ≤ 52 * (z.2.2.2 - c0) by omega)⟩ rfl dX11_changes_38 (fun H locs hw => ?_)
        refine lv_lstore (lv' := [(4, .long z8), (0, .ref (ad 0)), (1, .int x1), (2, .int x2), (3, .int x3)]) hx hb dX11_changes_41 hl (by decide) rfl (fun ls hl => ?_)
        refine lv_iconst (v := 0) hx hb dX11_changes_43 (by decide) ?_
        refine lv_istore (lv' := [(6, .int 0), (4, .long z8), (0, .ref (ad 0)), (1, .int x1), (2, .int x2), (3, .int x3)]) hx hb dX11_changes_44 hl (by decide) rfl (fun ls hl => ?_)
        refine W.widen (k := 2 * (z7.2.2 - c0)) (n := 52 * (z7.2.2 - c0)) (by omega) (by omega) ?_
        exact k_X11_changes_46l hC fu_ _ _ _ _ _ _ _ _ _ _ (by omega) hf hw (lv_sub hl [2, 3, 4, 5, 1, 0] rfl)
      · rw [if_pos c6] at hf
        refine lv_iconst (v := (-1)) hx hb dX11_changes_23 (by decide) ?_
        refine W.widen (k := 2 * (z.2.2.2 - c0)) (n := 52 * (z.2.2.2 - c0)) (by omega) (by omega) ?_
        have hz := Option.some.inj hf
        subst hz
        exact rta_i hC hw dX11_changes_24
set_option maxRecDepth 100000 in
theorem c_X11_changes {l : Launch} {D : va_G} {cy : Nat → ClassId} {z0 : Nat} {ad : Nat → Nat} {u : Nat × Nat} {X : va_W} {z : (Int32 × mm_M)} {x1 : Int32} {x2 : Int32} {x3 : Int32} {M : mm_M} (hf : f_X11_changes x1 x2 x3 M = some z) : ca_i cx_T l yX11_changes (Cond.code yX11_changes cX11_changes 10 (some .int)) 7 215 D cy z0 ad u M X [.ref (ad 0), .int x1, .int x2, .int x3] z.1 z.2 := by
  refine bga_i (by decide) (fun p e s m below meth c hC hw => ?_)
  refine en_t (Nat.le_of_ble_eq_true rfl) (fun ls hl => ?_)
  have hl : lv_has ls 10 [(0, .ref (ad 0)), (1, .int x1), (2, .int x2), (3, .int x3)] := hl
  refine W.widen (k := 2 * (M.2.2 - M.2.2)) (n := 52 * (M.2.2 - M.2.2)) (by omega) (by omega) ?_
  exact k_X11_changes hC (Nat.le_refl _) hf hw hl
set_option maxRecDepth 100000 in
set_option maxHeartbeats 4000000 in
theorem k_X9_vowels {p : Program} {l : Launch} {e : Env} {s : State} {m : MethodId} {args : Array Value} {below : List Frame} {meth : Method} {c : Code} {D : va_G} {cy : Nat → ClassId} {z0 : Nat} {ad : Nat → Nat} {X : va_W} {u : Nat × Nat} (hC : cx_C p s m args meth c cX9_vowels "RhymedThen$Tongue" (Cond.code yX9_vowels cX9_vowels 1 (some .int)) 1 (some .int)) {z : Int32} {M : mm_M} (hf : f_X9_vowels M = z) {H : Heap} {locs : List Loc} (hw : wd_in cx_T D cy z0 ad u M X s H locs) {ls : Array Slot} (hl : lv_has ls 1 [(0, .ref (ad 5))]) : W p l e { frames := 0, cells := 0, slots := 0, locals := 0 } s m args below meth c H locs 0 0 (MQ below (cq_i cx_T D cy z0 ad u X z M) args s 0 0 (fun q => z0 ≤ q)) (F0 m 0 ls []) := by
  have hx := hC.1
  have hb := hC.2.1
  unfold f_X9_vowels at hf
  refine lv_aload_n hx hb dX9_vowels_0 rfl (lv_at hl 0 rfl) ?_
  refine rg_p hC hw 5 (Nat.le_of_ble_eq_true rfl) rfl fd_X9_3 wf_X9_24 (q := 7) rfl dX9_vowels_1 ?_
  refine lv_iconst (v := 0) hx hb dX9_vowels_4 (by decide) ?_
  refine ra_i hC hw 7 (Nat.le_of_ble_eq_true rfl) rfl (by decide) dX9_vowels_5 ?_
  subst hf
  exact rtc_i hC hw dX9_vowels_6
set_option maxRecDepth 100000 in
theorem c_X9_vowels {l : Launch} {D : va_G} {cy : Nat → ClassId} {z0 : Nat} {ad : Nat → Nat} {u : Nat × Nat} {X : va_W} {z : Int32} {M : mm_M} (hf : f_X9_vowels M = z) : ct_i cx_T l yX9_vowels (Cond.code yX9_vowels cX9_vowels 1 (some .int)) 0 0 D cy z0 ad u M X [.ref (ad 5)] z M := by
  refine bgc_i (by decide) (fun p e s m below meth c hC hw => ?_)
  refine en_t (Nat.le_of_ble_eq_true rfl) (fun ls hl => ?_)
  have hl : lv_has ls 1 [(0, .ref (ad 5))] := hl
  exact k_X9_vowels hC hf hw hl
set_option maxRecDepth 100000 in
set_option maxHeartbeats 4000000 in
theorem k_X9_tailOn {p : Program} {l : Launch} {e : Env} {s : State} {m : MethodId} {args : Array Value} {below : List Frame} {meth : Method} {c : Code} {D : va_G} {cy : Nat → ClassId} {z0 : Nat} {ad : Nat → Nat} {X : va_W} {u : Nat × Nat} (hC : cx_C p s m args meth c cX9_tailOn "RhymedThen$Tongue" (Cond.code yX9_tailOn cX9_tailOn 3 (some .long)) 3 (some .long)) {z : Int64} {x1 : Int32} {x2 : Int32} {M : mm_M} (hf : f_X9_tailOn x1 x2 M = some z) {H : Heap} {locs : List Loc} (hw : wd_in cx_T D cy z0 ad u M X s H locs) {ls : Array Slot} (hl : lv_has ls 3 [(0, .ref (ad 5)), (1, .int x1), (2, .int x2)]) : W p l e { frames := 2, cells := 0, slots := 0, locals := 46 } s m args below meth c H locs 0 0 (MQ below (cq_l cx_T D cy z0 ad u X z M) args s 0 0 (fun q => z0 ≤ q)) (F0 m 0 ls []) := by
  have hx := hC.1
  have hb := hC.2.1
  unfold f_X9_tailOn at hf
  refine lv_aload_n hx hb dX9_tailOn_0 rfl (lv_at hl 0 rfl) ?_
  refine lv_iload_n hx hb dX9_tailOn_1 rfl (lv_at hl 1 rfl) ?_
  refine lv_iload_n hx hb dX9_tailOn_2 rfl (lv_at hl 2 rfl) ?_
  obtain ⟨z1, ez1, hf⟩ := bd_e hf
  refine clc_Vl hC hw (c_X9_formOn ez1) hd_X9_formOn cw_X9_62 (Nat.le_of_ble_eq_true rfl) rfl rfl (rest := []) hl.1 rfl (Nat.le_of_ble_eq_true rfl) ⟨Nat.le_of_ble_eq_true rfl, Nat.le_of_ble_eq_true rfl⟩ ⟨Nat.zero_le _, Nat.zero_le _⟩ rfl dX9_tailOn_3 (fun H locs hw => ?_)
  refine lv_aload_n hx hb dX9_tailOn_6 rfl (lv_at hl 0 rfl) ?_
  obtain ⟨z2, ez2, hf⟩ := sq_e hf
  refine clc_Vi hC hw (c_X9_vowels ez2.symm) hd_X9_vowels cw_X9_66 (Nat.le_of_ble_eq_true rfl) rfl rfl (rest := [.long z1]) hl.1 rfl (Nat.le_of_ble_eq_true rfl) ⟨Nat.le_of_ble_eq_true rfl, Nat.le_of_ble_eq_true rfl⟩ ⟨Nat.zero_le _, Nat.zero_le _⟩ rfl dX9_tailOn_7 (fun H locs hw => ?_)
  obtain ⟨z3, ez3, hf⟩ := bd_e hf
  refine clc_Sl hC hw (c_X0_tailOf ez3) hd_X0_tailOf cw_X9_70 (rest := []) hl.1 rfl (Nat.le_of_ble_eq_true rfl) ⟨Nat.le_of_ble_eq_true rfl, Nat.le_of_ble_eq_true rfl⟩ ⟨Nat.zero_le _, Nat.zero_le _⟩ rfl dX9_tailOn_10 (fun H locs hw => ?_)
  have hz := Option.some.inj hf
  subst hz
  exact rtc_l hC hw dX9_tailOn_13
set_option maxRecDepth 100000 in
theorem c_X9_tailOn {l : Launch} {D : va_G} {cy : Nat → ClassId} {z0 : Nat} {ad : Nat → Nat} {u : Nat × Nat} {X : va_W} {z : Int64} {x1 : Int32} {x2 : Int32} {M : mm_M} (hf : f_X9_tailOn x1 x2 M = some z) : ct_l cx_T l yX9_tailOn (Cond.code yX9_tailOn cX9_tailOn 3 (some .long)) 2 46 D cy z0 ad u M X [.ref (ad 5), .int x1, .int x2] z M := by
  refine bgc_l (by decide) (fun p e s m below meth c hC hw => ?_)
  refine en_t (Nat.le_of_ble_eq_true rfl) (fun ls hl => ?_)
  have hl : lv_has ls 3 [(0, .ref (ad 5)), (1, .int x1), (2, .int x2)] := hl
  exact k_X9_tailOn hC hf hw hl
set_option maxRecDepth 100000 in
set_option maxHeartbeats 4000000 in
theorem k_X9_rhymeOn {p : Program} {l : Launch} {e : Env} {s : State} {m : MethodId} {args : Array Value} {below : List Frame} {meth : Method} {c : Code} {D : va_G} {cy : Nat → ClassId} {z0 : Nat} {ad : Nat → Nat} {X : va_W} {u : Nat × Nat} (hC : cx_C p s m args meth c cX9_rhymeOn "RhymedThen$Tongue" (Cond.code yX9_rhymeOn cX9_rhymeOn 6 (some .boolean)) 6 (some .boolean)) {z : Int32} {x1 : Int32} {x2 : Int32} {x3 : Int32} {M : mm_M} (hf : f_X9_rhymeOn x1 x2 x3 M = some z) {H : Heap} {locs : List Loc} (hw : wd_in cx_T D cy z0 ad u M X s H locs) {ls : Array Slot} (hl : lv_has ls 6 [(0, .ref (ad 5)), (1, .int x1), (2, .int x2), (3, .int x3)]) : W p l e { frames := 3, cells := 0, slots := 0, locals := 68 } s m args below meth c H locs 0 0 (MQ below (cq_i cx_T D cy z0 ad u X z M) args s 0 0 (fun q => z0 ≤ q)) (F0 m 0 ls []) := by
  have hx := hC.1
  have hb := hC.2.1
  unfold f_X9_rhymeOn at hf
  refine lv_aload_n hx hb dX9_rhymeOn_0 rfl (lv_at hl 0 rfl) ?_
  refine lv_iload_n hx hb dX9_rhymeOn_1 rfl (lv_at hl 1 rfl) ?_
  refine lv_iload_n hx hb dX9_rhymeOn_2 rfl (lv_at hl 2 rfl) ?_
  obtain ⟨z1, ez1, hf⟩ := bd_e hf
  refine clc_Vl hC hw (c_X9_tailOn ez1) hd_X9_tailOn cw_X9_76 (Nat.le_of_ble_eq_true rfl) rfl rfl (rest := []) hl.1 rfl (Nat.le_of_ble_eq_true rfl) ⟨Nat.le_of_ble_eq_true rfl, Nat.le_of_ble_eq_true rfl⟩ ⟨Nat.zero_le _, Nat.zero_le _⟩ rfl dX9_rhymeOn_3 (fun H locs hw => ?_)
  refine lv_lstore (lv' := [(4, .long z1), (0, .ref (ad 5)), (1, .int x1), (2, .int x2), (3, .int x3)]) hx hb dX9_rhymeOn_6 hl (by decide) rfl (fun ls hl => ?_)
  refine lv_lload hx hb dX9_rhymeOn_8 (lv_at hl 0 rfl) ?_
  refine lv_lconst (v := 0) hx hb dX9_rhymeOn_10 (by decide) ?_
  refine lc_eq (tgt := 31) hx hb dX9_rhymeOn_11 dX9_rhymeOn_12 (by decide) (fun c2 => ?_) (fun c2 => ?_)
  · rw [if_pos c2] at hf
    refine lv_iconst (v := 0) hx hb dX9_rhymeOn_31 (by decide) ?_
    have hz := Option.some.inj hf
    subst hz
    exact rtc_z hC hw (Or.inl rfl) dX9_rhymeOn_32
  · rw [if_neg c2] at hf
    refine lv_lload hx hb dX9_rhymeOn_15 (lv_at hl 0 rfl) ?_
    refine lv_aload_n hx hb dX9_rhymeOn_17 rfl (lv_at hl 1 rfl) ?_
    refine lv_iload_n hx hb dX9_rhymeOn_18 rfl (lv_at hl 2 rfl) ?_
    refine lv_iload_n hx hb dX9_rhymeOn_19 rfl (lv_at hl 4 rfl) ?_
    obtain ⟨z3, ez3, hf⟩ := bd_e hf
    refine clc_Vl hC hw (c_X9_tailOn ez3) hd_X9_tailOn cw_X9_76 (Nat.le_of_ble_eq_true rfl) rfl rfl (rest := [.long z1]) hl.1 rfl (Nat.le_of_ble_eq_true rfl) ⟨Nat.le_of_ble_eq_true rfl, Nat.le_of_ble_eq_true rfl⟩ ⟨Nat.zero_le _, Nat.zero_le _⟩ rfl dX9_rhymeOn_20 (fun H locs hw => ?_)
    refine lc_ne (tgt := 31) hx hb dX9_rhymeOn_23 dX9_rhymeOn_24 (by decide) (fun c4 => ?_) (fun c4 => ?_)
    · rw [if_neg c4] at hf
      refine lv_iconst (v := 0) hx hb dX9_rhymeOn_31 (by decide) ?_
      have hz := Option.some.inj hf
      subst hz
      exact rtc_z hC hw (Or.inl rfl) dX9_rhymeOn_32
    · rw [if_pos c4] at hf
      refine lv_iconst (v := 1) hx hb dX9_rhymeOn_27 (by decide) ?_
      refine lv_goto (tgt := 32) hx hb dX9_rhymeOn_28 (by decide) ?_
      have hz := Option.some.inj hf
      subst hz
      exact rtc_z hC hw (Or.inr rfl) dX9_rhymeOn_32
set_option maxRecDepth 100000 in
theorem c_X9_rhymeOn {l : Launch} {D : va_G} {cy : Nat → ClassId} {z0 : Nat} {ad : Nat → Nat} {u : Nat × Nat} {X : va_W} {z : Int32} {x1 : Int32} {x2 : Int32} {x3 : Int32} {M : mm_M} (hf : f_X9_rhymeOn x1 x2 x3 M = some z) : ct_i cx_T l yX9_rhymeOn (Cond.code yX9_rhymeOn cX9_rhymeOn 6 (some .boolean)) 3 68 D cy z0 ad u M X [.ref (ad 5), .int x1, .int x2, .int x3] z M := by
  refine bgc_i (by decide) (fun p e s m below meth c hC hw => ?_)
  refine en_t (Nat.le_of_ble_eq_true rfl) (fun ls hl => ?_)
  have hl : lv_has ls 6 [(0, .ref (ad 5)), (1, .int x1), (2, .int x2), (3, .int x3)] := hl
  exact k_X9_rhymeOn hC hf hw hl
set_option maxRecDepth 100000 in
set_option maxHeartbeats 4000000 in
theorem k_X11_alike_42 {p : Program} {l : Launch} {e : Env} {s : State} {m : MethodId} {args : Array Value} {below : List Frame} {meth : Method} {c : Code} {D : va_G} {cy : Nat → ClassId} {z0 : Nat} {ad : Nat → Nat} {X : va_W} {u : Nat × Nat} (hC : cx_C p s m args meth c cX11_alike "RhymedThen" (Cond.code yX11_alike cX11_alike 7 (some .int)) 7 (some .int)) {z : (Int32 × mm_M)} {c0 : Nat} {x1 : Int32} {x2 : Int32} {t0 : Int32} {M : mm_M} (hc0 : c0 ≤ M.2.2) (hf : f_X11_alike_42 x1 x2 t0 M = some z) {H : Heap} {locs : List Loc} (hw : wd_in cx_T D cy z0 ad u M X s H locs) {ls : Array Slot} (hl : lv_has ls 7 [(0, .ref (ad 0)), (1, .int x1), (2, .int x2)]) : W p l e { frames := 7, cells := 2 * (z.2.2.2 - c0), slots := 52 * (z.2.2.2 - c0), locals := 215 } s m args below meth c H locs (2 * (M.2.2 - c0)) (52 * (M.2.2 - c0)) (MQ below (aq_i cx_T D cy z0 ad X z.1 z.2) args s (2 * (z.2.2.2 - c0)) (52 * (z.2.2.2 - c0)) (fun q => z0 ≤ q)) (F0 m 42 ls [.int t0]) := by
  have hx := hC.1
  have hb := hC.2.1
  have hmz : M.2.2 ≤ z.2.2.2 := mo_X11_alike_42 hf
  unfold f_X11_alike_42 at hf
  refine lv_istore (lv' := [(6, .int t0), (0, .ref (ad 0)), (1, .int x1), (2, .int x2)]) hx hb dX11_alike_42 hl (by decide) rfl (fun ls hl => ?_)
  refine lv_aload_n hx hb dX11_alike_44 rfl (lv_at hl 1 rfl) ?_
  refine rg_p hC hw 0 (Nat.le_of_ble_eq_true rfl) rfl fd_X11_2 wf_X11_26 (q := 5) rfl dX11_alike_45 ?_
  refine lv_iload hx hb dX11_alike_48 (lv_at hl 0 rfl) ?_
  refine lv_iload_n hx hb dX11_alike_50 rfl (lv_at hl 2 rfl) ?_
  obtain ⟨z8, ez8, hf⟩ := bd_e hf
  refine clc_Vl hC hw (c_X9_formOn ez8) hd_X9_formOn cw_X11_198 (Nat.le_of_ble_eq_true rfl) rfl rfl (rest := []) hl.1 rfl (Nat.le_of_ble_eq_true rfl) ⟨Nat.le_of_ble_eq_true rfl, Nat.le_of_ble_eq_true rfl⟩ ⟨(show 2 * (M.2.2 - c0) ≤ 2 * (z.2.2.2 - c0) by omega), (show 52 * (M.2.2 - c0) ≤ 52 * (z.2.2.2 - c0) by omega)⟩ rfl dX11_alike_51 (fun H locs hw => ?_)
  refine lv_aload_n hx hb dX11_alike_54 rfl (lv_at hl 1 rfl) ?_
  refine rg_p hC hw 0 (Nat.le_of_ble_eq_true rfl) rfl fd_X11_2 wf_X11_26 (q := 5) rfl dX11_alike_55 ?_
  refine lv_iload hx hb dX11_alike_58 (lv_at hl 0 rfl) ?_
  refine lv_iload_n hx hb dX11_alike_60 rfl (lv_at hl 3 rfl) ?_
  obtain ⟨z9, ez9, hf⟩ := bd_e hf
  refine clc_Vl hC hw (c_X9_formOn ez9) hd_X9_formOn cw_X11_198 (Nat.le_of_ble_eq_true rfl) rfl rfl (rest := [.long z8]) hl.1 rfl (Nat.le_of_ble_eq_true rfl) ⟨Nat.le_of_ble_eq_true rfl, Nat.le_of_ble_eq_true rfl⟩ ⟨(show 2 * (M.2.2 - c0) ≤ 2 * (z.2.2.2 - c0) by omega), (show 52 * (M.2.2 - c0) ≤ 52 * (z.2.2.2 - c0) by omega)⟩ rfl dX11_alike_61 (fun H locs hw => ?_)
  refine lc_ne (tgt := 70) hx hb dX11_alike_64 dX11_alike_65 (by decide) (fun c10 => ?_) (fun c10 => ?_)
  · rw [if_neg c10] at hf
    refine lv_aload_n hx hb dX11_alike_70 rfl (lv_at hl 1 rfl) ?_
    refine rg_p hC hw 0 (Nat.le_of_ble_eq_true rfl) rfl fd_X11_2 wf_X11_26 (q := 5) rfl dX11_alike_71 ?_
    refine lv_iload hx hb dX11_alike_74 (lv_at hl 0 rfl) ?_
    refine lv_iload_n hx hb dX11_alike_76 rfl (lv_at hl 2 rfl) ?_
    refine lv_iload_n hx hb dX11_alike_77 rfl (lv_at hl 3 rfl) ?_
    obtain ⟨z11, ez11, hf⟩ := bd_e hf
    refine clc_Vi hC hw (c_X9_rhymeOn ez11) hd_X9_rhymeOn cw_X11_225 (Nat.le_of_ble_eq_true rfl) rfl rfl (rest := []) hl.1 rfl (Nat.le_of_ble_eq_true rfl) ⟨Nat.le_of_ble_eq_true rfl, Nat.le_of_ble_eq_true rfl⟩ ⟨(show 2 * (M.2.2 - c0) ≤ 2 * (z.2.2.2 - c0) by omega), (show 52 * (M.2.2 - c0) ≤ 52 * (z.2.2.2 - c0) by omega)⟩ rfl dX11_alike_78 (fun H locs hw => ?_)
    refine lv_if_eq (tgt := 88) hx hb dX11_alike_81 (by decide) (fun c12 => ?_) (fun c12 => ?_)
    · rw [if_pos c12] at hf
      refine lv_iconst (v := 0) hx hb dX11_alike_88 (by decide) ?_
      refine W.widen (k := 2 * (z.2.2.2 - c0)) (n := 52 * (z.2.2.2 - c0)) (by omega) (by omega) ?_
      have hz := Option.some.inj hf
      subst hz
      exact rta_i hC hw dX11_alike_89
    · rw [if_neg c12] at hf
      refine lv_iconst (v := 1) hx hb dX11_alike_84 (by decide) ?_
      refine lv_goto (tgt := 89) hx hb dX11_alike_85 (by decide) ?_
      refine W.widen (k := 2 * (z.2.2.2 - c0)) (n := 52 * (z.2.2.2 - c0)) (by omega) (by omega) ?_
      have hz := Option.some.inj hf
      subst hz
      exact rta_i hC hw dX11_alike_89
  · rw [if_pos c10] at hf
    refine lv_iconst (v := 2) hx hb dX11_alike_68 (by decide) ?_
    refine W.widen (k := 2 * (z.2.2.2 - c0)) (n := 52 * (z.2.2.2 - c0)) (by omega) (by omega) ?_
    have hz := Option.some.inj hf
    subst hz
    exact rta_i hC hw dX11_alike_69
set_option maxRecDepth 100000 in
set_option maxHeartbeats 4000000 in
theorem k_X11_alike {p : Program} {l : Launch} {e : Env} {s : State} {m : MethodId} {args : Array Value} {below : List Frame} {meth : Method} {c : Code} {D : va_G} {cy : Nat → ClassId} {z0 : Nat} {ad : Nat → Nat} {X : va_W} {u : Nat × Nat} (hC : cx_C p s m args meth c cX11_alike "RhymedThen" (Cond.code yX11_alike cX11_alike 7 (some .int)) 7 (some .int)) {z : (Int32 × mm_M)} {c0 : Nat} {x1 : Int32} {x2 : Int32} {x3 : Int32} {x4 : Int32} {x5 : Int32} {M : mm_M} (hc0 : c0 ≤ M.2.2) (hf : f_X11_alike x1 x2 x3 x4 x5 M = some z) {H : Heap} {locs : List Loc} (hw : wd_in cx_T D cy z0 ad u M X s H locs) {ls : Array Slot} (hl : lv_has ls 7 [(0, .ref (ad 0)), (1, .int x1), (2, .int x2), (3, .int x3), (4, .int x4), (5, .int x5)]) : W p l e { frames := 7, cells := 2 * (z.2.2.2 - c0), slots := 52 * (z.2.2.2 - c0), locals := 215 } s m args below meth c H locs (2 * (M.2.2 - c0)) (52 * (M.2.2 - c0)) (MQ below (aq_i cx_T D cy z0 ad X z.1 z.2) args s (2 * (z.2.2.2 - c0)) (52 * (z.2.2.2 - c0)) (fun q => z0 ≤ q)) (F0 m 0 ls []) := by
  have hx := hC.1
  have hb := hC.2.1
  have hmz : M.2.2 ≤ z.2.2.2 := mo_X11_alike hf
  unfold f_X11_alike at hf
  refine lv_aload_n hx hb dX11_alike_0 rfl (lv_at hl 0 rfl) ?_
  refine lv_iload_n hx hb dX11_alike_1 rfl (lv_at hl 1 rfl) ?_
  obtain ⟨z1, ez1, hf⟩ := sq_e hf
  refine clc_Vi hC hw (c_X11_isWord ez1.symm) hd_X11_isWord cw_X11_185 (Nat.le_of_ble_eq_true rfl) rfl rfl (rest := []) hl.1 rfl (Nat.le_of_ble_eq_true rfl) ⟨Nat.le_of_ble_eq_true rfl, Nat.le_of_ble_eq_true rfl⟩ ⟨(show 2 * (M.2.2 - c0) ≤ 2 * (z.2.2.2 - c0) by omega), (show 52 * (M.2.2 - c0) ≤ 52 * (z.2.2.2 - c0) by omega)⟩ rfl dX11_alike_2 (fun H locs hw => ?_)
  refine lv_if_eq (tgt := 28) hx hb dX11_alike_5 (by decide) (fun c2 => ?_) (fun c2 => ?_)
  · rw [if_pos c2] at hf
    refine lv_iconst (v := (-1)) hx hb dX11_alike_28 (by decide) ?_
    refine W.widen (k := 2 * (z.2.2.2 - c0)) (n := 52 * (z.2.2.2 - c0)) (by omega) (by omega) ?_
    have hz := Option.some.inj hf
    subst hz
    exact rta_i hC hw dX11_alike_29
  · rw [if_neg c2] at hf
    refine lv_aload_n hx hb dX11_alike_8 rfl (lv_at hl 0 rfl) ?_
    refine lv_iload_n hx hb dX11_alike_9 rfl (lv_at hl 2 rfl) ?_
    obtain ⟨z3, ez3, hf⟩ := sq_e hf
    refine clc_Vi hC hw (c_X11_isWord ez3.symm) hd_X11_isWord cw_X11_185 (Nat.le_of_ble_eq_true rfl) rfl rfl (rest := []) hl.1 rfl (Nat.le_of_ble_eq_true rfl) ⟨Nat.le_of_ble_eq_true rfl, Nat.le_of_ble_eq_true rfl⟩ ⟨(show 2 * (M.2.2 - c0) ≤ 2 * (z.2.2.2 - c0) by omega), (show 52 * (M.2.2 - c0) ≤ 52 * (z.2.2.2 - c0) by omega)⟩ rfl dX11_alike_10 (fun H locs hw => ?_)
    refine lv_if_eq (tgt := 28) hx hb dX11_alike_13 (by decide) (fun c4 => ?_) (fun c4 => ?_)
    · rw [if_pos c4] at hf
      refine lv_iconst (v := (-1)) hx hb dX11_alike_28 (by decide) ?_
      refine W.widen (k := 2 * (z.2.2.2 - c0)) (n := 52 * (z.2.2.2 - c0)) (by omega) (by omega) ?_
      have hz := Option.some.inj hf
      subst hz
      exact rta_i hC hw dX11_alike_29
    · rw [if_neg c4] at hf
      refine lv_aload_n hx hb dX11_alike_16 rfl (lv_at hl 0 rfl) ?_
      refine lv_iload_n hx hb dX11_alike_17 rfl (lv_at hl 3 rfl) ?_
      refine lv_iload hx hb dX11_alike_18 (lv_at hl 4 rfl) ?_
      refine lv_iload hx hb dX11_alike_20 (lv_at hl 5 rfl) ?_
      obtain ⟨z5, ez5, hf⟩ := sq_e hf
      refine clc_Vi hC hw (c_X11_isThenAndThere ez5.symm) hd_X11_isThenAndThere cw_X11_188 (Nat.le_of_ble_eq_true rfl) rfl rfl (rest := []) hl.1 rfl (Nat.le_of_ble_eq_true rfl) ⟨Nat.le_of_ble_eq_true rfl, Nat.le_of_ble_eq_true rfl⟩ ⟨(show 2 * (M.2.2 - c0) ≤ 2 * (z.2.2.2 - c0) by omega), (show 52 * (M.2.2 - c0) ≤ 52 * (z.2.2.2 - c0) by omega)⟩ rfl dX11_alike_22 (fun H locs hw => ?_)
      refine lv_if_ne (tgt := 30) hx hb dX11_alike_25 (by decide) (fun c6 => ?_) (fun c6 => ?_)
      · rw [if_neg c6] at hf
        refine lv_aload_n hx hb dX11_alike_30 rfl (lv_at hl 0 rfl) ?_
        refine rg_p hC hw 0 (Nat.le_of_ble_eq_true rfl) rfl fd_X11_3 wf_X11_35 (q := 14) rfl dX11_alike_31 ?_
        refine lv_iload_n hx hb dX11_alike_34 rfl (lv_at hl 3 rfl) ?_
        refine lv_iload hx hb dX11_alike_35 (lv_at hl 4 rfl) ?_
        refine lv_iload hx hb dX11_alike_37 (lv_at hl 5 rfl) ?_
        obtain ⟨z7, ez7, hf⟩ := bd_e hf
        have mz7 : M.2.2 ≤ z7.2.2.2 := mo_X3_courseAt ez7
        have hnz : z7.2.2.2 ≤ z.2.2.2 := mo_X11_alike_42 hf
        refine cla_Vi hC hw (c_X3_courseAt ez7) hd_X3_courseAt cw_X11_195 (Nat.le_of_ble_eq_true rfl) rfl rfl (rest := []) hl.1 rfl (Nat.le_of_ble_eq_true rfl) ⟨Nat.le_of_ble_eq_true rfl, Nat.le_of_ble_eq_true rfl⟩ ⟨(show 2 * (M.2.2 - c0) + 2 * (z7.2.2.2 - M.2.2) ≤ 2 * (z.2.2.2 - c0) by omega), (show 52 * (M.2.2 - c0) + 52 * (z7.2.2.2 - M.2.2) ≤ 52 * (z.2.2.2 - c0) by omega)⟩ rfl dX11_alike_39 (fun u H locs hw => ?_)
        refine W.widen (k := 2 * (z7.2.2.2 - c0)) (n := 52 * (z7.2.2.2 - c0)) (by omega) (by omega) ?_
        exact k_X11_alike_42 hC (by omega) hf hw (lv_sub hl [0, 1, 2] rfl)
      · rw [if_pos c6] at hf
        refine lv_iconst (v := (-1)) hx hb dX11_alike_28 (by decide) ?_
        refine W.widen (k := 2 * (z.2.2.2 - c0)) (n := 52 * (z.2.2.2 - c0)) (by omega) (by omega) ?_
        have hz := Option.some.inj hf
        subst hz
        exact rta_i hC hw dX11_alike_29
set_option maxRecDepth 100000 in
theorem c_X11_alike {l : Launch} {D : va_G} {cy : Nat → ClassId} {z0 : Nat} {ad : Nat → Nat} {u : Nat × Nat} {X : va_W} {z : (Int32 × mm_M)} {x1 : Int32} {x2 : Int32} {x3 : Int32} {x4 : Int32} {x5 : Int32} {M : mm_M} (hf : f_X11_alike x1 x2 x3 x4 x5 M = some z) : ca_i cx_T l yX11_alike (Cond.code yX11_alike cX11_alike 7 (some .int)) 7 215 D cy z0 ad u M X [.ref (ad 0), .int x1, .int x2, .int x3, .int x4, .int x5] z.1 z.2 := by
  refine bga_i (by decide) (fun p e s m below meth c hC hw => ?_)
  refine en_t (Nat.le_of_ble_eq_true rfl) (fun ls hl => ?_)
  have hl : lv_has ls 7 [(0, .ref (ad 0)), (1, .int x1), (2, .int x2), (3, .int x3), (4, .int x4), (5, .int x5)] := hl
  refine W.widen (k := 2 * (M.2.2 - M.2.2)) (n := 52 * (M.2.2 - M.2.2)) (by omega) (by omega) ?_
  exact k_X11_alike hC (Nat.le_refl _) hf hw hl
set_option maxRecDepth 100000 in
set_option maxHeartbeats 4000000 in
theorem k_X11_tellSpan {p : Program} {l : Launch} {e : Env} {s : State} {m : MethodId} {args : Array Value} {below : List Frame} {meth : Method} {c : Code} {D : va_G} {cy : Nat → ClassId} {z0 : Nat} {ad : Nat → Nat} {X : va_W} {u : Nat × Nat} (hC : cx_C p s m args meth c cX11_tellSpan "RhymedThen" (Cond.code yX11_tellSpan cX11_tellSpan 3 none) 3 none) {z : mm_M} {x1 : Int32} {x2 : Int32} {M : mm_M} (hf : f_X11_tellSpan x1 x2 M = some z) {H : Heap} {locs : List Loc} (hw : wd_in cx_T D cy z0 ad u M X s H locs) {ls : Array Slot} (hl : lv_has ls 3 [(0, .ref (ad 0)), (1, .int x1), (2, .int x2)]) : W p l e { frames := 1, cells := 0, slots := 0, locals := 22 } s m args below meth c H locs 0 0 (MQ below (cq_v cx_T D cy z0 ad u X z) args s 0 0 (fun q => z0 ≤ q)) (F0 m 0 ls []) := by
  have hx := hC.1
  have hb := hC.2.1
  unfold f_X11_tellSpan at hf
  refine lv_aload_n hx hb dX11_tellSpan_0 rfl (lv_at hl 0 rfl) ?_
  refine rg_p hC hw 0 (Nat.le_of_ble_eq_true rfl) rfl fd_X11_1 wf_X11_19 (q := 3) rfl dX11_tellSpan_1 ?_
  refine lv_iload_n hx hb dX11_tellSpan_4 rfl (lv_at hl 1 rfl) ?_
  refine lv_i2l hx hb dX11_tellSpan_5 rfl ?_
  obtain ⟨z1, ez1, hf⟩ := bd_e hf
  refine clc_Vv hC hw (c_X4_add ez1) hd_X4_add cw_X11_214 (Nat.le_of_ble_eq_true rfl) rfl rfl (rest := []) hl.1 rfl (Nat.le_of_ble_eq_true rfl) ⟨Nat.le_of_ble_eq_true rfl, Nat.le_of_ble_eq_true rfl⟩ ⟨Nat.zero_le _, Nat.zero_le _⟩ rfl dX11_tellSpan_6 (fun H locs hw => ?_)
  refine lv_aload_n hx hb dX11_tellSpan_9 rfl (lv_at hl 0 rfl) ?_
  refine rg_p hC hw 0 (Nat.le_of_ble_eq_true rfl) rfl fd_X11_1 wf_X11_19 (q := 3) rfl dX11_tellSpan_10 ?_
  refine lv_iload_n hx hb dX11_tellSpan_13 rfl (lv_at hl 2 rfl) ?_
  refine lv_i2l hx hb dX11_tellSpan_14 rfl ?_
  obtain ⟨z2, ez2, hf⟩ := bd_e hf
  refine clc_Vv hC hw (c_X4_add ez2) hd_X4_add cw_X11_214 (Nat.le_of_ble_eq_true rfl) rfl rfl (rest := []) hl.1 rfl (Nat.le_of_ble_eq_true rfl) ⟨Nat.le_of_ble_eq_true rfl, Nat.le_of_ble_eq_true rfl⟩ ⟨Nat.zero_le _, Nat.zero_le _⟩ rfl dX11_tellSpan_15 (fun H locs hw => ?_)
  have hz := Option.some.inj hf
  subst hz
  exact rtc_v hC hw dX11_tellSpan_18
set_option maxRecDepth 100000 in
theorem c_X11_tellSpan {l : Launch} {D : va_G} {cy : Nat → ClassId} {z0 : Nat} {ad : Nat → Nat} {u : Nat × Nat} {X : va_W} {z : mm_M} {x1 : Int32} {x2 : Int32} {M : mm_M} (hf : f_X11_tellSpan x1 x2 M = some z) : ct_v cx_T l yX11_tellSpan (Cond.code yX11_tellSpan cX11_tellSpan 3 none) 1 22 D cy z0 ad u M X [.ref (ad 0), .int x1, .int x2] z := by
  refine bgc_v (by decide) (fun p e s m below meth c hC hw => ?_)
  refine en_t (Nat.le_of_ble_eq_true rfl) (fun ls hl => ?_)
  have hl : lv_has ls 3 [(0, .ref (ad 0)), (1, .int x1), (2, .int x2)] := hl
  exact k_X11_tellSpan hC hf hw hl
set_option maxRecDepth 100000 in
set_option maxHeartbeats 4000000 in
theorem k_X11_one_166 {p : Program} {l : Launch} {e : Env} {s : State} {m : MethodId} {args : Array Value} {below : List Frame} {meth : Method} {c : Code} {D : va_G} {cy : Nat → ClassId} {z0 : Nat} {ad : Nat → Nat} {X : va_W} {u : Nat × Nat} (hC : cx_C p s m args meth c cX11_one "RhymedThen" (Cond.code yX11_one cX11_one 11 (some .int)) 11 (some .int)) {z : (Int32 × mm_M)} {c0 : Nat} {x1 : Int32} {x2 : Int32} {x3 : Int32} {x4 : Int32} {x5 : Int32} {x6 : Int32} {x7 : Int32} {M : mm_M} (hc0 : c0 ≤ M.2.2) {q50 : Int32 → Int32 → Int32 → Int32 → Int32 → Int32 → Int32 → mm_M → Option (Int32 × mm_M)} (hq50 : ∀ (x1 : Int32) (x2 : Int32) (x3 : Int32) (x4 : Int32) (x5 : Int32) (x6 : Int32) (x7 : Int32) (M : mm_M) (u : Nat × Nat) (H : Heap) (locs : List Loc) (ls : Array Slot), c0 ≤ M.2.2 → q50 x1 x2 x3 x4 x5 x6 x7 M = some z → wd_in cx_T D cy z0 ad u M X s H locs → lv_has ls 11 [(0, .ref (ad 0)), (1, .int x1), (2, .int x2), (3, .int x3), (4, .int x4), (5, .int x5), (6, .int x6), (7, .int x7)] → W p l e { frames := 7, cells := 2 * (z.2.2.2 - c0), slots := 52 * (z.2.2.2 - c0), locals := 215 } s m args below meth c H locs (2 * (M.2.2 - c0)) (52 * (M.2.2 - c0)) (MQ below (aq_i cx_T D cy z0 ad X z.1 z.2) args s (2 * (z.2.2.2 - c0)) (52 * (z.2.2.2 - c0)) (fun q => z0 ≤ q)) (F0 m 50 ls [])) (hm50 : ∀ (x1 : Int32) (x2 : Int32) (x3 : Int32) (x4 : Int32) (x5 : Int32) (x6 : Int32) (x7 : Int32) (M : mm_M), q50 x1 x2 x3 x4 x5 x6 x7 M = some z → M.2.2 ≤ z.2.2.2) (hf : f_X11_one_166 q50 x1 x2 x3 x4 x5 x6 x7 M = some z) {H : Heap} {locs : List Loc} (hw : wd_in cx_T D cy z0 ad u M X s H locs) {ls : Array Slot} (hl : lv_has ls 11 [(0, .ref (ad 0)), (1, .int x1), (2, .int x2), (3, .int x3), (4, .int x4), (5, .int x5), (6, .int x6), (7, .int x7)]) : W p l e { frames := 7, cells := 2 * (z.2.2.2 - c0), slots := 52 * (z.2.2.2 - c0), locals := 215 } s m args below meth c H locs (2 * (M.2.2 - c0)) (52 * (M.2.2 - c0)) (MQ below (aq_i cx_T D cy z0 ad X z.1 z.2) args s (2 * (z.2.2.2 - c0)) (52 * (z.2.2.2 - c0)) (fun q => z0 ≤ q)) (F0 m 166 ls []) := by
  have hx := hC.1
  have hb := hC.2.1
  have hmz : M.2.2 ≤ z.2.2.2 := mo_X11_one_166 hm50 hf
  unfold f_X11_one_166 at hf
  obtain ⟨y24, ey24, hf⟩ := sq_e hf
  refine lv_iinc (v := y24) (lv' := [(7, .int y24), (0, .ref (ad 0)), (1, .int x1), (2, .int x2), (3, .int x3), (4, .int x4), (5, .int x5), (6, .int x6)]) hx hb dX11_one_166 hl (k := 7) rfl (by rw [ey24]; rfl) (by decide) rfl (fun ls hl => ?_)
  refine lv_goto (tgt := 50) hx hb dX11_one_169 (by decide) ?_
  refine W.widen (k := 2 * (M.2.2 - c0)) (n := 52 * (M.2.2 - c0)) (by omega) (by omega) ?_
  exact hq50 _ _ _ _ _ _ _ _ _ _ _ _ (by omega) hf hw (lv_sub hl [1, 2, 3, 4, 5, 6, 7, 0] rfl)
set_option maxRecDepth 100000 in
set_option maxHeartbeats 4000000 in
theorem k_X11_one_142 {p : Program} {l : Launch} {e : Env} {s : State} {m : MethodId} {args : Array Value} {below : List Frame} {meth : Method} {c : Code} {D : va_G} {cy : Nat → ClassId} {z0 : Nat} {ad : Nat → Nat} {X : va_W} {u : Nat × Nat} (hC : cx_C p s m args meth c cX11_one "RhymedThen" (Cond.code yX11_one cX11_one 11 (some .int)) 11 (some .int)) {z : (Int32 × mm_M)} {c0 : Nat} {x1 : Int32} {x2 : Int32} {x3 : Int32} {x4 : Int32} {x5 : Int32} {x6 : Int32} {x7 : Int32} {x8 : Int32} {x10 : Int32} {M : mm_M} (hc0 : c0 ≤ M.2.2) {q50 : Int32 → Int32 → Int32 → Int32 → Int32 → Int32 → Int32 → mm_M → Option (Int32 × mm_M)} (hq50 : ∀ (x1 : Int32) (x2 : Int32) (x3 : Int32) (x4 : Int32) (x5 : Int32) (x6 : Int32) (x7 : Int32) (M : mm_M) (u : Nat × Nat) (H : Heap) (locs : List Loc) (ls : Array Slot), c0 ≤ M.2.2 → q50 x1 x2 x3 x4 x5 x6 x7 M = some z → wd_in cx_T D cy z0 ad u M X s H locs → lv_has ls 11 [(0, .ref (ad 0)), (1, .int x1), (2, .int x2), (3, .int x3), (4, .int x4), (5, .int x5), (6, .int x6), (7, .int x7)] → W p l e { frames := 7, cells := 2 * (z.2.2.2 - c0), slots := 52 * (z.2.2.2 - c0), locals := 215 } s m args below meth c H locs (2 * (M.2.2 - c0)) (52 * (M.2.2 - c0)) (MQ below (aq_i cx_T D cy z0 ad X z.1 z.2) args s (2 * (z.2.2.2 - c0)) (52 * (z.2.2.2 - c0)) (fun q => z0 ≤ q)) (F0 m 50 ls [])) (hm50 : ∀ (x1 : Int32) (x2 : Int32) (x3 : Int32) (x4 : Int32) (x5 : Int32) (x6 : Int32) (x7 : Int32) (M : mm_M), q50 x1 x2 x3 x4 x5 x6 x7 M = some z → M.2.2 ≤ z.2.2.2) (hf : f_X11_one_142 q50 x1 x2 x3 x4 x5 x6 x7 x8 x10 M = some z) {H : Heap} {locs : List Loc} (hw : wd_in cx_T D cy z0 ad u M X s H locs) {ls : Array Slot} (hl : lv_has ls 11 [(0, .ref (ad 0)), (1, .int x1), (2, .int x2), (3, .int x3), (4, .int x4), (5, .int x5), (6, .int x6), (7, .int x7), (8, .int x8), (10, .int x10)]) : W p l e { frames := 7, cells := 2 * (z.2.2.2 - c0), slots := 52 * (z.2.2.2 - c0), locals := 215 } s m args below meth c H locs (2 * (M.2.2 - c0)) (52 * (M.2.2 - c0)) (MQ below (aq_i cx_T D cy z0 ad X z.1 z.2) args s (2 * (z.2.2.2 - c0)) (52 * (z.2.2.2 - c0)) (fun q => z0 ≤ q)) (F0 m 142 ls []) := by
  have hx := hC.1
  have hb := hC.2.1
  have hmz : M.2.2 ≤ z.2.2.2 := mo_X11_one_142 hm50 hf
  unfold f_X11_one_142 at hf
  refine lv_iload hx hb dX11_one_142 (lv_at hl 9 rfl) ?_
  refine lv_if_ne (tgt := 166) hx hb dX11_one_144 (by decide) (fun c21 => ?_) (fun c21 => ?_)
  · rw [if_neg c21] at hf
    refine W.widen (k := 2 * (M.2.2 - c0)) (n := 52 * (M.2.2 - c0)) (by omega) (by omega) ?_
    exact k_X11_one_166 hC (by omega) hq50 hm50 hf hw (lv_sub hl [0, 1, 2, 3, 4, 5, 6, 7] rfl)
  · rw [if_pos c21] at hf
    refine lv_iload hx hb dX11_one_147 (lv_at hl 6 rfl) ?_
    refine lv_iconst (v := (-1)) hx hb dX11_one_149 (by decide) ?_
    refine lv_icmp_eq (tgt := 166) hx hb dX11_one_150 (by decide) (fun c22 => ?_) (fun c22 => ?_)
    · rw [if_pos c22] at hf
      refine W.widen (k := 2 * (M.2.2 - c0)) (n := 52 * (M.2.2 - c0)) (by omega) (by omega) ?_
      exact k_X11_one_166 hC (by omega) hq50 hm50 hf hw (lv_sub hl [0, 1, 2, 3, 4, 5, 6, 7] rfl)
    · rw [if_neg c22] at hf
      refine lv_aload_n hx hb dX11_one_153 rfl (lv_at hl 0 rfl) ?_
      refine lv_iload hx hb dX11_one_154 (lv_at hl 6 rfl) ?_
      refine lv_iload hx hb dX11_one_156 (lv_at hl 8 rfl) ?_
      refine lv_iconst (v := 1) hx hb dX11_one_158 (by decide) ?_
      refine lv_isub hx hb dX11_one_159 ?_
      obtain ⟨z23, ez23, hf⟩ := bd_e hf
      have mz23 : M.2.2 ≤ z23.2.2 := mo_X11_tellSpan ez23
      refine clc_Vv hC hw (c_X11_tellSpan ez23) hd_X11_tellSpan cw_X11_228 (Nat.le_of_ble_eq_true rfl) rfl rfl (rest := []) hl.1 rfl (Nat.le_of_ble_eq_true rfl) ⟨Nat.le_of_ble_eq_true rfl, Nat.le_of_ble_eq_true rfl⟩ ⟨(show 2 * (M.2.2 - c0) ≤ 2 * (z.2.2.2 - c0) by omega), (show 52 * (M.2.2 - c0) ≤ 52 * (z.2.2.2 - c0) by omega)⟩ rfl dX11_one_160 (fun H locs hw => ?_)
      refine lv_iconst (v := (-1)) hx hb dX11_one_163 (by decide) ?_
      refine lv_istore (lv' := [(6, .int (-1)), (0, .ref (ad 0)), (1, .int x1), (2, .int x2), (3, .int x3), (4, .int x4), (5, .int x5), (7, .int x7), (8, .int x8), (10, .int x10)]) hx hb dX11_one_164 hl (by decide) rfl (fun ls hl => ?_)
      refine W.widen (k := 2 * (z23.2.2 - c0)) (n := 52 * (z23.2.2 - c0)) (by omega) (by omega) ?_
      exact k_X11_one_166 hC (by omega) hq50 hm50 hf hw (lv_sub hl [1, 2, 3, 4, 5, 6, 0, 7] rfl)
set_option maxRecDepth 100000 in
set_option maxHeartbeats 4000000 in
theorem k_X11_one_119 {p : Program} {l : Launch} {e : Env} {s : State} {m : MethodId} {args : Array Value} {below : List Frame} {meth : Method} {c : Code} {D : va_G} {cy : Nat → ClassId} {z0 : Nat} {ad : Nat → Nat} {X : va_W} {u : Nat × Nat} (hC : cx_C p s m args meth c cX11_one "RhymedThen" (Cond.code yX11_one cX11_one 11 (some .int)) 11 (some .int)) {z : (Int32 × mm_M)} {c0 : Nat} {x1 : Int32} {x2 : Int32} {x3 : Int32} {x4 : Int32} {x5 : Int32} {x6 : Int32} {x7 : Int32} {x8 : Int32} {t0 : Int32} {M : mm_M} (hc0 : c0 ≤ M.2.2) {q50 : Int32 → Int32 → Int32 → Int32 → Int32 → Int32 → Int32 → mm_M → Option (Int32 × mm_M)} (hq50 : ∀ (x1 : Int32) (x2 : Int32) (x3 : Int32) (x4 : Int32) (x5 : Int32) (x6 : Int32) (x7 : Int32) (M : mm_M) (u : Nat × Nat) (H : Heap) (locs : List Loc) (ls : Array Slot), c0 ≤ M.2.2 → q50 x1 x2 x3 x4 x5 x6 x7 M = some z → wd_in cx_T D cy z0 ad u M X s H locs → lv_has ls 11 [(0, .ref (ad 0)), (1, .int x1), (2, .int x2), (3, .int x3), (4, .int x4), (5, .int x5), (6, .int x6), (7, .int x7)] → W p l e { frames := 7, cells := 2 * (z.2.2.2 - c0), slots := 52 * (z.2.2.2 - c0), locals := 215 } s m args below meth c H locs (2 * (M.2.2 - c0)) (52 * (M.2.2 - c0)) (MQ below (aq_i cx_T D cy z0 ad X z.1 z.2) args s (2 * (z.2.2.2 - c0)) (52 * (z.2.2.2 - c0)) (fun q => z0 ≤ q)) (F0 m 50 ls [])) (hm50 : ∀ (x1 : Int32) (x2 : Int32) (x3 : Int32) (x4 : Int32) (x5 : Int32) (x6 : Int32) (x7 : Int32) (M : mm_M), q50 x1 x2 x3 x4 x5 x6 x7 M = some z → M.2.2 ≤ z.2.2.2) (hf : f_X11_one_119 q50 x1 x2 x3 x4 x5 x6 x7 x8 t0 M = some z) {H : Heap} {locs : List Loc} (hw : wd_in cx_T D cy z0 ad u M X s H locs) {ls : Array Slot} (hl : lv_has ls 11 [(0, .ref (ad 0)), (1, .int x1), (2, .int x2), (3, .int x3), (4, .int x4), (5, .int x5), (6, .int x6), (7, .int x7), (8, .int x8)]) : W p l e { frames := 7, cells := 2 * (z.2.2.2 - c0), slots := 52 * (z.2.2.2 - c0), locals := 215 } s m args below meth c H locs (2 * (M.2.2 - c0)) (52 * (M.2.2 - c0)) (MQ below (aq_i cx_T D cy z0 ad X z.1 z.2) args s (2 * (z.2.2.2 - c0)) (52 * (z.2.2.2 - c0)) (fun q => z0 ≤ q)) (F0 m 119 ls [.int t0]) := by
  have hx := hC.1
  have hb := hC.2.1
  have hmz : M.2.2 ≤ z.2.2.2 := mo_X11_one_119 hm50 hf
  unfold f_X11_one_119 at hf
  refine lv_istore (lv' := [(10, .int t0), (0, .ref (ad 0)), (1, .int x1), (2, .int x2), (3, .int x3), (4, .int x4), (5, .int x5), (6, .int x6), (7, .int x7), (8, .int x8)]) hx hb dX11_one_119 hl (by decide) rfl (fun ls hl => ?_)
  refine lv_iload hx hb dX11_one_121 (lv_at hl 0 rfl) ?_
  refine lv_if_eq (tgt := 142) hx hb dX11_one_123 (by decide) (fun c18 => ?_) (fun c18 => ?_)
  · rw [if_pos c18] at hf
    refine W.widen (k := 2 * (M.2.2 - c0)) (n := 52 * (M.2.2 - c0)) (by omega) (by omega) ?_
    exact k_X11_one_142 hC (by omega) hq50 hm50 hf hw (lv_sub hl [1, 2, 3, 4, 5, 6, 7, 8, 9, 0] rfl)
  · rw [if_neg c18] at hf
    refine lv_iload hx hb dX11_one_126 (lv_at hl 7 rfl) ?_
    refine lv_iconst (v := (-1)) hx hb dX11_one_128 (by decide) ?_
    refine lv_icmp_ne (tgt := 142) hx hb dX11_one_129 (by decide) (fun c19 => ?_) (fun c19 => ?_)
    · rw [if_neg c19] at hf
      refine W.widen (k := 2 * (M.2.2 - c0)) (n := 52 * (M.2.2 - c0)) (by omega) (by omega) ?_
      exact k_X11_one_142 hC (by omega) hq50 hm50 hf hw (lv_sub hl [1, 2, 3, 4, 5, 6, 7, 8, 9, 0] rfl)
    · rw [if_pos c19] at hf
      refine lv_iload hx hb dX11_one_132 (lv_at hl 9 rfl) ?_
      refine lv_istore (lv' := [(6, .int x8), (10, .int t0), (0, .ref (ad 0)), (1, .int x1), (2, .int x2), (3, .int x3), (4, .int x4), (5, .int x5), (7, .int x7), (8, .int x8)]) hx hb dX11_one_134 hl (by decide) rfl (fun ls hl => ?_)
      obtain ⟨y20, ey20, hf⟩ := sq_e hf
      refine lv_iinc (v := y20) (lv' := [(5, .int y20), (6, .int x8), (10, .int t0), (0, .ref (ad 0)), (1, .int x1), (2, .int x2), (3, .int x3), (4, .int x4), (7, .int x7), (8, .int x8)]) hx hb dX11_one_136 hl (k := 7) rfl (by rw [ey20]; rfl) (by decide) rfl (fun ls hl => ?_)
      refine lv_goto (tgt := 166) hx hb dX11_one_139 (by decide) ?_
      refine W.widen (k := 2 * (M.2.2 - c0)) (n := 52 * (M.2.2 - c0)) (by omega) (by omega) ?_
      exact k_X11_one_166 hC (by omega) hq50 hm50 hf hw (lv_sub hl [3, 4, 5, 6, 7, 0, 1, 8] rfl)
set_option maxRecDepth 100000 in
set_option maxHeartbeats 4000000 in
theorem k_X11_one_88 {p : Program} {l : Launch} {e : Env} {s : State} {m : MethodId} {args : Array Value} {below : List Frame} {meth : Method} {c : Code} {D : va_G} {cy : Nat → ClassId} {z0 : Nat} {ad : Nat → Nat} {X : va_W} {u : Nat × Nat} (hC : cx_C p s m args meth c cX11_one "RhymedThen" (Cond.code yX11_one cX11_one 11 (some .int)) 11 (some .int)) {z : (Int32 × mm_M)} {c0 : Nat} {x1 : Int32} {x2 : Int32} {x3 : Int32} {x4 : Int32} {x5 : Int32} {x6 : Int32} {x7 : Int32} {x8 : Int32} {t0 : Int32} {M : mm_M} (hc0 : c0 ≤ M.2.2) {q50 : Int32 → Int32 → Int32 → Int32 → Int32 → Int32 → Int32 → mm_M → Option (Int32 × mm_M)} (hq50 : ∀ (x1 : Int32) (x2 : Int32) (x3 : Int32) (x4 : Int32) (x5 : Int32) (x6 : Int32) (x7 : Int32) (M : mm_M) (u : Nat × Nat) (H : Heap) (locs : List Loc) (ls : Array Slot), c0 ≤ M.2.2 → q50 x1 x2 x3 x4 x5 x6 x7 M = some z → wd_in cx_T D cy z0 ad u M X s H locs → lv_has ls 11 [(0, .ref (ad 0)), (1, .int x1), (2, .int x2), (3, .int x3), (4, .int x4), (5, .int x5), (6, .int x6), (7, .int x7)] → W p l e { frames := 7, cells := 2 * (z.2.2.2 - c0), slots := 52 * (z.2.2.2 - c0), locals := 215 } s m args below meth c H locs (2 * (M.2.2 - c0)) (52 * (M.2.2 - c0)) (MQ below (aq_i cx_T D cy z0 ad X z.1 z.2) args s (2 * (z.2.2.2 - c0)) (52 * (z.2.2.2 - c0)) (fun q => z0 ≤ q)) (F0 m 50 ls [])) (hm50 : ∀ (x1 : Int32) (x2 : Int32) (x3 : Int32) (x4 : Int32) (x5 : Int32) (x6 : Int32) (x7 : Int32) (M : mm_M), q50 x1 x2 x3 x4 x5 x6 x7 M = some z → M.2.2 ≤ z.2.2.2) (hf : f_X11_one_88 q50 x1 x2 x3 x4 x5 x6 x7 x8 t0 M = some z) {H : Heap} {locs : List Loc} (hw : wd_in cx_T D cy z0 ad u M X s H locs) {ls : Array Slot} (hl : lv_has ls 11 [(0, .ref (ad 0)), (1, .int x1), (2, .int x2), (3, .int x3), (4, .int x4), (5, .int x5), (6, .int x6), (7, .int x7), (8, .int x8)]) : W p l e { frames := 7, cells := 2 * (z.2.2.2 - c0), slots := 52 * (z.2.2.2 - c0), locals := 215 } s m args below meth c H locs (2 * (M.2.2 - c0)) (52 * (M.2.2 - c0)) (MQ below (aq_i cx_T D cy z0 ad X z.1 z.2) args s (2 * (z.2.2.2 - c0)) (52 * (z.2.2.2 - c0)) (fun q => z0 ≤ q)) (F0 m 88 ls [.int t0]) := by
  have hx := hC.1
  have hb := hC.2.1
  have hmz : M.2.2 ≤ z.2.2.2 := mo_X11_one_88 hm50 hf
  unfold f_X11_one_88 at hf
  refine lv_istore (lv' := [(9, .int t0), (0, .ref (ad 0)), (1, .int x1), (2, .int x2), (3, .int x3), (4, .int x4), (5, .int x5), (6, .int x6), (7, .int x7), (8, .int x8)]) hx hb dX11_one_88 hl (by decide) rfl (fun ls hl => ?_)
  refine lv_aload_n hx hb dX11_one_90 rfl (lv_at hl 1 rfl) ?_
  refine rg_p hC hw 0 (Nat.le_of_ble_eq_true rfl) rfl fd_X11_2 wf_X11_26 (q := 5) rfl dX11_one_91 ?_
  refine lv_iload hx hb dX11_one_94 (lv_at hl 0 rfl) ?_
  refine lv_iload_n hx hb dX11_one_96 rfl (lv_at hl 2 rfl) ?_
  obtain ⟨z15, ez15, hf⟩ := bd_e hf
  refine clc_Vl hC hw (c_X9_formOn ez15) hd_X9_formOn cw_X11_198 (Nat.le_of_ble_eq_true rfl) rfl rfl (rest := []) hl.1 rfl (Nat.le_of_ble_eq_true rfl) ⟨Nat.le_of_ble_eq_true rfl, Nat.le_of_ble_eq_true rfl⟩ ⟨(show 2 * (M.2.2 - c0) ≤ 2 * (z.2.2.2 - c0) by omega), (show 52 * (M.2.2 - c0) ≤ 52 * (z.2.2.2 - c0) by omega)⟩ rfl dX11_one_97 (fun H locs hw => ?_)
  refine lv_aload_n hx hb dX11_one_100 rfl (lv_at hl 1 rfl) ?_
  refine rg_p hC hw 0 (Nat.le_of_ble_eq_true rfl) rfl fd_X11_2 wf_X11_26 (q := 5) rfl dX11_one_101 ?_
  refine lv_iload hx hb dX11_one_104 (lv_at hl 0 rfl) ?_
  refine lv_iload_n hx hb dX11_one_106 rfl (lv_at hl 3 rfl) ?_
  obtain ⟨z16, ez16, hf⟩ := bd_e hf
  refine clc_Vl hC hw (c_X9_formOn ez16) hd_X9_formOn cw_X11_198 (Nat.le_of_ble_eq_true rfl) rfl rfl (rest := [.long z15]) hl.1 rfl (Nat.le_of_ble_eq_true rfl) ⟨Nat.le_of_ble_eq_true rfl, Nat.le_of_ble_eq_true rfl⟩ ⟨(show 2 * (M.2.2 - c0) ≤ 2 * (z.2.2.2 - c0) by omega), (show 52 * (M.2.2 - c0) ≤ 52 * (z.2.2.2 - c0) by omega)⟩ rfl dX11_one_107 (fun H locs hw => ?_)
  refine lc_ne (tgt := 118) hx hb dX11_one_110 dX11_one_111 (by decide) (fun c17 => ?_) (fun c17 => ?_)
  · rw [if_neg c17] at hf
    refine lv_iconst (v := 0) hx hb dX11_one_118 (by decide) ?_
    refine W.widen (k := 2 * (M.2.2 - c0)) (n := 52 * (M.2.2 - c0)) (by omega) (by omega) ?_
    exact k_X11_one_119 hC (by omega) hq50 hm50 hf hw (lv_sub hl [1, 2, 3, 4, 5, 6, 7, 8, 9] rfl)
  · rw [if_pos c17] at hf
    refine lv_iconst (v := 1) hx hb dX11_one_114 (by decide) ?_
    refine lv_goto (tgt := 119) hx hb dX11_one_115 (by decide) ?_
    refine W.widen (k := 2 * (M.2.2 - c0)) (n := 52 * (M.2.2 - c0)) (by omega) (by omega) ?_
    exact k_X11_one_119 hC (by omega) hq50 hm50 hf hw (lv_sub hl [1, 2, 3, 4, 5, 6, 7, 8, 9] rfl)
set_option maxRecDepth 100000 in
set_option maxHeartbeats 4000000 in
theorem k_X11_one_172 {p : Program} {l : Launch} {e : Env} {s : State} {m : MethodId} {args : Array Value} {below : List Frame} {meth : Method} {c : Code} {D : va_G} {cy : Nat → ClassId} {z0 : Nat} {ad : Nat → Nat} {X : va_W} {u : Nat × Nat} (hC : cx_C p s m args meth c cX11_one "RhymedThen" (Cond.code yX11_one cX11_one 11 (some .int)) 11 (some .int)) {z : (Int32 × mm_M)} {c0 : Nat} {x5 : Int32} {x6 : Int32} {M : mm_M} (hc0 : c0 ≤ M.2.2) (hf : f_X11_one_172 x5 x6 M = some z) {H : Heap} {locs : List Loc} (hw : wd_in cx_T D cy z0 ad u M X s H locs) {ls : Array Slot} (hl : lv_has ls 11 [(0, .ref (ad 0)), (5, .int x5), (6, .int x6)]) : W p l e { frames := 7, cells := 2 * (z.2.2.2 - c0), slots := 52 * (z.2.2.2 - c0), locals := 215 } s m args below meth c H locs (2 * (M.2.2 - c0)) (52 * (M.2.2 - c0)) (MQ below (aq_i cx_T D cy z0 ad X z.1 z.2) args s (2 * (z.2.2.2 - c0)) (52 * (z.2.2.2 - c0)) (fun q => z0 ≤ q)) (F0 m 172 ls []) := by
  have hx := hC.1
  have hb := hC.2.1
  have hmz : M.2.2 ≤ z.2.2.2 := mo_X11_one_172 hf
  unfold f_X11_one_172 at hf
  refine lv_iload hx hb dX11_one_172 (lv_at hl 2 rfl) ?_
  refine lv_iconst (v := (-1)) hx hb dX11_one_174 (by decide) ?_
  refine lv_icmp_eq (tgt := 187) hx hb dX11_one_175 (by decide) (fun c13 => ?_) (fun c13 => ?_)
  · rw [if_pos c13] at hf
    refine lv_iload hx hb dX11_one_187 (lv_at hl 1 rfl) ?_
    refine W.widen (k := 2 * (z.2.2.2 - c0)) (n := 52 * (z.2.2.2 - c0)) (by omega) (by omega) ?_
    have hz := Option.some.inj hf
    subst hz
    exact rta_i hC hw dX11_one_189
  · rw [if_neg c13] at hf
    refine lv_aload_n hx hb dX11_one_178 rfl (lv_at hl 0 rfl) ?_
    refine lv_iload hx hb dX11_one_179 (lv_at hl 2 rfl) ?_
    refine lv_sipush (v := 600) hx hb dX11_one_181 (by decide) ?_
    obtain ⟨z14, ez14, hf⟩ := bd_e hf
    have mz14 : M.2.2 ≤ z14.2.2 := mo_X11_tellSpan ez14
    refine clc_Vv hC hw (c_X11_tellSpan ez14) hd_X11_tellSpan cw_X11_228 (Nat.le_of_ble_eq_true rfl) rfl rfl (rest := []) hl.1 rfl (Nat.le_of_ble_eq_true rfl) ⟨Nat.le_of_ble_eq_true rfl, Nat.le_of_ble_eq_true rfl⟩ ⟨(show 2 * (M.2.2 - c0) ≤ 2 * (z.2.2.2 - c0) by omega), (show 52 * (M.2.2 - c0) ≤ 52 * (z.2.2.2 - c0) by omega)⟩ rfl dX11_one_184 (fun H locs hw => ?_)
    refine lv_iload hx hb dX11_one_187 (lv_at hl 1 rfl) ?_
    refine W.widen (k := 2 * (z.2.2.2 - c0)) (n := 52 * (z.2.2.2 - c0)) (by omega) (by omega) ?_
    have hz := Option.some.inj hf
    subst hz
    exact rta_i hC hw dX11_one_189
set_option maxRecDepth 100000 in
set_option maxHeartbeats 4000000 in
theorem k_X11_one_50 {p : Program} {l : Launch} {e : Env} {s : State} {m : MethodId} {args : Array Value} {below : List Frame} {meth : Method} {c : Code} {D : va_G} {cy : Nat → ClassId} {z0 : Nat} {ad : Nat → Nat} {X : va_W} {u : Nat × Nat} (hC : cx_C p s m args meth c cX11_one "RhymedThen" (Cond.code yX11_one cX11_one 11 (some .int)) 11 (some .int)) {z : (Int32 × mm_M)} {c0 : Nat} {x1 : Int32} {x2 : Int32} {x3 : Int32} {x4 : Int32} {x5 : Int32} {x6 : Int32} {x7 : Int32} {M : mm_M} (hc0 : c0 ≤ M.2.2) {q50 : Int32 → Int32 → Int32 → Int32 → Int32 → Int32 → Int32 → mm_M → Option (Int32 × mm_M)} (hq50 : ∀ (x1 : Int32) (x2 : Int32) (x3 : Int32) (x4 : Int32) (x5 : Int32) (x6 : Int32) (x7 : Int32) (M : mm_M) (u : Nat × Nat) (H : Heap) (locs : List Loc) (ls : Array Slot), c0 ≤ M.2.2 → q50 x1 x2 x3 x4 x5 x6 x7 M = some z → wd_in cx_T D cy z0 ad u M X s H locs → lv_has ls 11 [(0, .ref (ad 0)), (1, .int x1), (2, .int x2), (3, .int x3), (4, .int x4), (5, .int x5), (6, .int x6), (7, .int x7)] → W p l e { frames := 7, cells := 2 * (z.2.2.2 - c0), slots := 52 * (z.2.2.2 - c0), locals := 215 } s m args below meth c H locs (2 * (M.2.2 - c0)) (52 * (M.2.2 - c0)) (MQ below (aq_i cx_T D cy z0 ad X z.1 z.2) args s (2 * (z.2.2.2 - c0)) (52 * (z.2.2.2 - c0)) (fun q => z0 ≤ q)) (F0 m 50 ls [])) (hm50 : ∀ (x1 : Int32) (x2 : Int32) (x3 : Int32) (x4 : Int32) (x5 : Int32) (x6 : Int32) (x7 : Int32) (M : mm_M), q50 x1 x2 x3 x4 x5 x6 x7 M = some z → M.2.2 ≤ z.2.2.2) (hf : f_X11_one_50 q50 x1 x2 x3 x4 x5 x6 x7 M = some z) {H : Heap} {locs : List Loc} (hw : wd_in cx_T D cy z0 ad u M X s H locs) {ls : Array Slot} (hl : lv_has ls 11 [(0, .ref (ad 0)), (1, .int x1), (2, .int x2), (3, .int x3), (4, .int x4), (5, .int x5), (6, .int x6), (7, .int x7)]) : W p l e { frames := 7, cells := 2 * (z.2.2.2 - c0), slots := 52 * (z.2.2.2 - c0), locals := 215 } s m args below meth c H locs (2 * (M.2.2 - c0)) (52 * (M.2.2 - c0)) (MQ below (aq_i cx_T D cy z0 ad X z.1 z.2) args s (2 * (z.2.2.2 - c0)) (52 * (z.2.2.2 - c0)) (fun q => z0 ≤ q)) (F0 m 50 ls []) := by
  have hx := hC.1
  have hb := hC.2.1
  have hmz : M.2.2 ≤ z.2.2.2 := mo_X11_one_50 hm50 hf
  unfold f_X11_one_50 at hf
  refine lv_iload hx hb dX11_one_50 (lv_at hl 7 rfl) ?_
  refine lv_aload_n hx hb dX11_one_52 rfl (lv_at hl 0 rfl) ?_
  refine rg_p hC hw 0 (Nat.le_of_ble_eq_true rfl) rfl fd_X11_2 wf_X11_26 (q := 5) rfl dX11_one_53 ?_
  refine rg_i hC hw 5 (Nat.le_of_ble_eq_true rfl) rfl fd_X9_1 wf_X11_138 dX11_one_56 ?_
  refine lv_icmp_gt (tgt := 172) hx hb dX11_one_59 (by decide) (fun c10 => ?_) (fun c10 => ?_)
  · rw [if_pos c10] at hf
    refine W.widen (k := 2 * (M.2.2 - c0)) (n := 52 * (M.2.2 - c0)) (by omega) (by omega) ?_
    exact k_X11_one_172 hC (by omega) hf hw (lv_sub hl [0, 5, 6] rfl)
  · rw [if_neg c10] at hf
    refine lv_aload_n hx hb dX11_one_62 rfl (lv_at hl 0 rfl) ?_
    refine rg_p hC hw 0 (Nat.le_of_ble_eq_true rfl) rfl fd_X11_3 wf_X11_35 (q := 14) rfl dX11_one_63 ?_
    refine lv_iload_n hx hb dX11_one_66 rfl (lv_at hl 3 rfl) ?_
    refine lv_iload hx hb dX11_one_67 (lv_at hl 7 rfl) ?_
    refine lv_iload hx hb dX11_one_69 (lv_at hl 4 rfl) ?_
    obtain ⟨z11, ez11, hf⟩ := bd_e hf
    refine clc_Vi hC hw (c_X3_newsYear ez11) hd_X3_newsYear cw_X11_221 (Nat.le_of_ble_eq_true rfl) rfl rfl (rest := []) hl.1 rfl (Nat.le_of_ble_eq_true rfl) ⟨Nat.le_of_ble_eq_true rfl, Nat.le_of_ble_eq_true rfl⟩ ⟨(show 2 * (M.2.2 - c0) ≤ 2 * (z.2.2.2 - c0) by omega), (show 52 * (M.2.2 - c0) ≤ 52 * (z.2.2.2 - c0) by omega)⟩ rfl dX11_one_71 (fun H locs hw => ?_)
    refine lv_istore (lv' := [(8, .int z11), (0, .ref (ad 0)), (1, .int x1), (2, .int x2), (3, .int x3), (4, .int x4), (5, .int x5), (6, .int x6), (7, .int x7)]) hx hb dX11_one_74 hl (by decide) rfl (fun ls hl => ?_)
    refine lv_aload_n hx hb dX11_one_76 rfl (lv_at hl 1 rfl) ?_
    refine rg_p hC hw 0 (Nat.le_of_ble_eq_true rfl) rfl fd_X11_3 wf_X11_35 (q := 14) rfl dX11_one_77 ?_
    refine lv_iload_n hx hb dX11_one_80 rfl (lv_at hl 4 rfl) ?_
    refine lv_iload hx hb dX11_one_81 (lv_at hl 0 rfl) ?_
    refine lv_iload hx hb dX11_one_83 (lv_at hl 5 rfl) ?_
    obtain ⟨z12, ez12, hf⟩ := bd_e hf
    have mz12 : M.2.2 ≤ z12.2.2.2 := mo_X3_courseAt ez12
    have hnz : z12.2.2.2 ≤ z.2.2.2 := mo_X11_one_88 hm50 hf
    refine cla_Vi hC hw (c_X3_courseAt ez12) hd_X3_courseAt cw_X11_195 (Nat.le_of_ble_eq_true rfl) rfl rfl (rest := []) hl.1 rfl (Nat.le_of_ble_eq_true rfl) ⟨Nat.le_of_ble_eq_true rfl, Nat.le_of_ble_eq_true rfl⟩ ⟨(show 2 * (M.2.2 - c0) + 2 * (z12.2.2.2 - M.2.2) ≤ 2 * (z.2.2.2 - c0) by omega), (show 52 * (M.2.2 - c0) + 52 * (z12.2.2.2 - M.2.2) ≤ 52 * (z.2.2.2 - c0) by omega)⟩ rfl dX11_one_85 (fun u H locs hw => ?_)
    refine W.widen (k := 2 * (z12.2.2.2 - c0)) (n := 52 * (z12.2.2.2 - c0)) (by omega) (by omega) ?_
    exact k_X11_one_88 hC (by omega) hq50 hm50 hf hw (lv_sub hl [1, 2, 3, 4, 5, 6, 7, 8, 0] rfl)
set_option maxRecDepth 100000 in
set_option maxHeartbeats 4000000 in
theorem k_X11_one_50l {p : Program} {l : Launch} {e : Env} {s : State} {m : MethodId} {args : Array Value} {below : List Frame} {meth : Method} {c : Code} {D : va_G} {cy : Nat → ClassId} {z0 : Nat} {ad : Nat → Nat} {X : va_W} (hC : cx_C p s m args meth c cX11_one "RhymedThen" (Cond.code yX11_one cX11_one 11 (some .int)) 11 (some .int)) {z : (Int32 × mm_M)} {c0 : Nat} : ∀ (n : Nat) (x1 : Int32) (x2 : Int32) (x3 : Int32) (x4 : Int32) (x5 : Int32) (x6 : Int32) (x7 : Int32) (M : mm_M) (u : Nat × Nat) (H : Heap) (locs : List Loc) (ls : Array Slot), c0 ≤ M.2.2 → f_X11_one_50l n x1 x2 x3 x4 x5 x6 x7 M = some z → wd_in cx_T D cy z0 ad u M X s H locs → lv_has ls 11 [(0, .ref (ad 0)), (1, .int x1), (2, .int x2), (3, .int x3), (4, .int x4), (5, .int x5), (6, .int x6), (7, .int x7)] → W p l e { frames := 7, cells := 2 * (z.2.2.2 - c0), slots := 52 * (z.2.2.2 - c0), locals := 215 } s m args below meth c H locs (2 * (M.2.2 - c0)) (52 * (M.2.2 - c0)) (MQ below (aq_i cx_T D cy z0 ad X z.1 z.2) args s (2 * (z.2.2.2 - c0)) (52 * (z.2.2.2 - c0)) (fun q => z0 ≤ q)) (F0 m 50 ls []) := by
  intro n
  induction n with
  | zero => intro x1 x2 x3 x4 x5 x6 x7 M u H locs ls hc0 hf; exact absurd hf (by simp [f_X11_one_50l])
  | succ n ih => intro x1 x2 x3 x4 x5 x6 x7 M u H locs ls hc0 hf hw hl; exact k_X11_one_50 hC hc0 ih (mo_X11_one_50l n) hf hw hl
set_option maxRecDepth 100000 in
set_option maxHeartbeats 4000000 in
theorem k_X11_one {p : Program} {l : Launch} {e : Env} {s : State} {m : MethodId} {args : Array Value} {below : List Frame} {meth : Method} {c : Code} {D : va_G} {cy : Nat → ClassId} {z0 : Nat} {ad : Nat → Nat} {X : va_W} {u : Nat × Nat} (hC : cx_C p s m args meth c cX11_one "RhymedThen" (Cond.code yX11_one cX11_one 11 (some .int)) 11 (some .int)) {z : (Int32 × mm_M)} {c0 : Nat} {x1 : Int32} {x2 : Int32} {x3 : Int32} {x4 : Int32} {M : mm_M} (hc0 : c0 ≤ M.2.2) (hf : f_X11_one x1 x2 x3 x4 M = some z) {H : Heap} {locs : List Loc} (hw : wd_in cx_T D cy z0 ad u M X s H locs) {ls : Array Slot} (hl : lv_has ls 11 [(0, .ref (ad 0)), (1, .int x1), (2, .int x2), (3, .int x3), (4, .int x4)]) : W p l e { frames := 7, cells := 2 * (z.2.2.2 - c0), slots := 52 * (z.2.2.2 - c0), locals := 215 } s m args below meth c H locs (2 * (M.2.2 - c0)) (52 * (M.2.2 - c0)) (MQ below (aq_i cx_T D cy z0 ad X z.1 z.2) args s (2 * (z.2.2.2 - c0)) (52 * (z.2.2.2 - c0)) (fun q => z0 ≤ q)) (F0 m 0 ls []) := by
  have hx := hC.1
  have hb := hC.2.1
  have hmz : M.2.2 ≤ z.2.2.2 := mo_X11_one hf
  unfold f_X11_one at hf
  refine lv_aload_n hx hb dX11_one_0 rfl (lv_at hl 0 rfl) ?_
  refine lv_iload_n hx hb dX11_one_1 rfl (lv_at hl 1 rfl) ?_
  obtain ⟨z1, ez1, hf⟩ := sq_e hf
  refine clc_Vi hC hw (c_X11_isWord ez1.symm) hd_X11_isWord cw_X11_185 (Nat.le_of_ble_eq_true rfl) rfl rfl (rest := []) hl.1 rfl (Nat.le_of_ble_eq_true rfl) ⟨Nat.le_of_ble_eq_true rfl, Nat.le_of_ble_eq_true rfl⟩ ⟨(show 2 * (M.2.2 - c0) ≤ 2 * (z.2.2.2 - c0) by omega), (show 52 * (M.2.2 - c0) ≤ 52 * (z.2.2.2 - c0) by omega)⟩ rfl dX11_one_2 (fun H locs hw => ?_)
  refine lv_if_eq (tgt := 32) hx hb dX11_one_5 (by decide) (fun c2 => ?_) (fun c2 => ?_)
  · rw [if_pos c2] at hf
    refine lv_iconst (v := (-1)) hx hb dX11_one_32 (by decide) ?_
    refine W.widen (k := 2 * (z.2.2.2 - c0)) (n := 52 * (z.2.2.2 - c0)) (by omega) (by omega) ?_
    have hz := Option.some.inj hf
    subst hz
    exact rta_i hC hw dX11_one_33
  · rw [if_neg c2] at hf
    refine lv_aload_n hx hb dX11_one_8 rfl (lv_at hl 0 rfl) ?_
    refine lv_iload_n hx hb dX11_one_9 rfl (lv_at hl 2 rfl) ?_
    obtain ⟨z3, ez3, hf⟩ := sq_e hf
    refine clc_Vi hC hw (c_X11_isWord ez3.symm) hd_X11_isWord cw_X11_185 (Nat.le_of_ble_eq_true rfl) rfl rfl (rest := []) hl.1 rfl (Nat.le_of_ble_eq_true rfl) ⟨Nat.le_of_ble_eq_true rfl, Nat.le_of_ble_eq_true rfl⟩ ⟨(show 2 * (M.2.2 - c0) ≤ 2 * (z.2.2.2 - c0) by omega), (show 52 * (M.2.2 - c0) ≤ 52 * (z.2.2.2 - c0) by omega)⟩ rfl dX11_one_10 (fun H locs hw => ?_)
    refine lv_if_eq (tgt := 32) hx hb dX11_one_13 (by decide) (fun c4 => ?_) (fun c4 => ?_)
    · rw [if_pos c4] at hf
      refine lv_iconst (v := (-1)) hx hb dX11_one_32 (by decide) ?_
      refine W.widen (k := 2 * (z.2.2.2 - c0)) (n := 52 * (z.2.2.2 - c0)) (by omega) (by omega) ?_
      have hz := Option.some.inj hf
      subst hz
      exact rta_i hC hw dX11_one_33
    · rw [if_neg c4] at hf
      refine lv_aload_n hx hb dX11_one_16 rfl (lv_at hl 0 rfl) ?_
      refine lv_iload_n hx hb dX11_one_17 rfl (lv_at hl 3 rfl) ?_
      obtain ⟨z5, ez5, hf⟩ := sq_e hf
      refine clc_Vi hC hw (c_X11_isHistory ez5.symm) hd_X11_isHistory cw_X11_218 (Nat.le_of_ble_eq_true rfl) rfl rfl (rest := []) hl.1 rfl (Nat.le_of_ble_eq_true rfl) ⟨Nat.le_of_ble_eq_true rfl, Nat.le_of_ble_eq_true rfl⟩ ⟨(show 2 * (M.2.2 - c0) ≤ 2 * (z.2.2.2 - c0) by omega), (show 52 * (M.2.2 - c0) ≤ 52 * (z.2.2.2 - c0) by omega)⟩ rfl dX11_one_18 (fun H locs hw => ?_)
      refine lv_if_eq (tgt := 32) hx hb dX11_one_21 (by decide) (fun c6 => ?_) (fun c6 => ?_)
      · rw [if_pos c6] at hf
        refine lv_iconst (v := (-1)) hx hb dX11_one_32 (by decide) ?_
        refine W.widen (k := 2 * (z.2.2.2 - c0)) (n := 52 * (z.2.2.2 - c0)) (by omega) (by omega) ?_
        have hz := Option.some.inj hf
        subst hz
        exact rta_i hC hw dX11_one_33
      · rw [if_neg c6] at hf
        refine lv_iload hx hb dX11_one_24 (lv_at hl 4 rfl) ?_
        obtain ⟨z7, ez7, hf⟩ := sq_e hf
        refine clc_Si hC hw (c_X11_isPlace ez7.symm) hd_X11_isPlace cw_X11_163 (rest := []) hl.1 rfl (Nat.le_of_ble_eq_true rfl) ⟨Nat.le_of_ble_eq_true rfl, Nat.le_of_ble_eq_true rfl⟩ ⟨(show 2 * (M.2.2 - c0) ≤ 2 * (z.2.2.2 - c0) by omega), (show 52 * (M.2.2 - c0) ≤ 52 * (z.2.2.2 - c0) by omega)⟩ rfl dX11_one_26 (fun H locs hw => ?_)
        refine lv_if_ne (tgt := 34) hx hb dX11_one_29 (by decide) (fun c8 => ?_) (fun c8 => ?_)
        · rw [if_neg c8] at hf
          refine lv_aload_n hx hb dX11_one_34 rfl (lv_at hl 0 rfl) ?_
          refine rg_p hC hw 0 (Nat.le_of_ble_eq_true rfl) rfl fd_X11_1 wf_X11_19 (q := 3) rfl dX11_one_35 ?_
          obtain ⟨z9, ez9, hf⟩ := sq_e hf
          have mz9 : M.2.2 ≤ z9.2.2 := mo_X4_clear ez9.symm
          refine clc_Vv hC hw (c_X4_clear ez9.symm) hd_X4_clear cw_X11_192 (Nat.le_of_ble_eq_true rfl) rfl rfl (rest := []) hl.1 rfl (Nat.le_of_ble_eq_true rfl) ⟨Nat.le_of_ble_eq_true rfl, Nat.le_of_ble_eq_true rfl⟩ ⟨(show 2 * (M.2.2 - c0) ≤ 2 * (z.2.2.2 - c0) by omega), (show 52 * (M.2.2 - c0) ≤ 52 * (z.2.2.2 - c0) by omega)⟩ rfl dX11_one_38 (fun H locs hw => ?_)
          refine lv_iconst (v := 0) hx hb dX11_one_41 (by decide) ?_
          refine lv_istore (lv' := [(5, .int 0), (0, .ref (ad 0)), (1, .int x1), (2, .int x2), (3, .int x3), (4, .int x4)]) hx hb dX11_one_42 hl (by decide) rfl (fun ls hl => ?_)
          refine lv_iconst (v := (-1)) hx hb dX11_one_44 (by decide) ?_
          refine lv_istore (lv' := [(6, .int (-1)), (5, .int 0), (0, .ref (ad 0)), (1, .int x1), (2, .int x2), (3, .int x3), (4, .int x4)]) hx hb dX11_one_45 hl (by decide) rfl (fun ls hl => ?_)
          refine lv_iconst (v := 0) hx hb dX11_one_47 (by decide) ?_
          refine lv_istore (lv' := [(7, .int 0), (6, .int (-1)), (5, .int 0), (0, .ref (ad 0)), (1, .int x1), (2, .int x2), (3, .int x3), (4, .int x4)]) hx hb dX11_one_48 hl (by decide) rfl (fun ls hl => ?_)
          refine W.widen (k := 2 * (z9.2.2 - c0)) (n := 52 * (z9.2.2 - c0)) (by omega) (by omega) ?_
          exact k_X11_one_50l hC fu_ _ _ _ _ _ _ _ _ _ _ _ _ (by omega) hf hw (lv_sub hl [3, 4, 5, 6, 7, 2, 1, 0] rfl)
        · rw [if_pos c8] at hf
          refine lv_iconst (v := (-1)) hx hb dX11_one_32 (by decide) ?_
          refine W.widen (k := 2 * (z.2.2.2 - c0)) (n := 52 * (z.2.2.2 - c0)) (by omega) (by omega) ?_
          have hz := Option.some.inj hf
          subst hz
          exact rta_i hC hw dX11_one_33
set_option maxRecDepth 100000 in
theorem c_X11_one {l : Launch} {D : va_G} {cy : Nat → ClassId} {z0 : Nat} {ad : Nat → Nat} {u : Nat × Nat} {X : va_W} {z : (Int32 × mm_M)} {x1 : Int32} {x2 : Int32} {x3 : Int32} {x4 : Int32} {M : mm_M} (hf : f_X11_one x1 x2 x3 x4 M = some z) : ca_i cx_T l yX11_one (Cond.code yX11_one cX11_one 11 (some .int)) 7 215 D cy z0 ad u M X [.ref (ad 0), .int x1, .int x2, .int x3, .int x4] z.1 z.2 := by
  refine bga_i (by decide) (fun p e s m below meth c hC hw => ?_)
  refine en_t (Nat.le_of_ble_eq_true rfl) (fun ls hl => ?_)
  have hl : lv_has ls 11 [(0, .ref (ad 0)), (1, .int x1), (2, .int x2), (3, .int x3), (4, .int x4)] := hl
  refine W.widen (k := 2 * (M.2.2 - M.2.2)) (n := 52 * (M.2.2 - M.2.2)) (by omega) (by omega) ?_
  exact k_X11_one hC (Nat.le_refl _) hf hw hl
set_option maxRecDepth 100000 in
set_option maxHeartbeats 4000000 in
theorem k_X11_rhymes_87 {p : Program} {l : Launch} {e : Env} {s : State} {m : MethodId} {args : Array Value} {below : List Frame} {meth : Method} {c : Code} {D : va_G} {cy : Nat → ClassId} {z0 : Nat} {ad : Nat → Nat} {X : va_W} {u : Nat × Nat} (hC : cx_C p s m args meth c cX11_rhymes "RhymedThen" (Cond.code yX11_rhymes cX11_rhymes 7 (some .int)) 7 (some .int)) {z : (Int32 × mm_M)} {c0 : Nat} {x1 : Int32} {x5 : Int32} {x6 : Int32} {M : mm_M} (hc0 : c0 ≤ M.2.2) {q44 : Int32 → Int32 → Int32 → mm_M → Option (Int32 × mm_M)} (hq44 : ∀ (x1 : Int32) (x5 : Int32) (x6 : Int32) (M : mm_M) (u : Nat × Nat) (H : Heap) (locs : List Loc) (ls : Array Slot), c0 ≤ M.2.2 → q44 x1 x5 x6 M = some z → wd_in cx_T D cy z0 ad u M X s H locs → lv_has ls 7 [(0, .ref (ad 0)), (1, .int x1), (5, .int x5), (6, .int x6)] → W p l e { frames := 7, cells := 2 * (z.2.2.2 - c0), slots := 52 * (z.2.2.2 - c0), locals := 215 } s m args below meth c H locs (2 * (M.2.2 - c0)) (52 * (M.2.2 - c0)) (MQ below (aq_i cx_T D cy z0 ad X z.1 z.2) args s (2 * (z.2.2.2 - c0)) (52 * (z.2.2.2 - c0)) (fun q => z0 ≤ q)) (F0 m 44 ls [])) (hm44 : ∀ (x1 : Int32) (x5 : Int32) (x6 : Int32) (M : mm_M), q44 x1 x5 x6 M = some z → M.2.2 ≤ z.2.2.2) (hf : f_X11_rhymes_87 q44 x1 x5 x6 M = some z) {H : Heap} {locs : List Loc} (hw : wd_in cx_T D cy z0 ad u M X s H locs) {ls : Array Slot} (hl : lv_has ls 7 [(0, .ref (ad 0)), (1, .int x1), (5, .int x5), (6, .int x6)]) : W p l e { frames := 7, cells := 2 * (z.2.2.2 - c0), slots := 52 * (z.2.2.2 - c0), locals := 215 } s m args below meth c H locs (2 * (M.2.2 - c0)) (52 * (M.2.2 - c0)) (MQ below (aq_i cx_T D cy z0 ad X z.1 z.2) args s (2 * (z.2.2.2 - c0)) (52 * (z.2.2.2 - c0)) (fun q => z0 ≤ q)) (F0 m 87 ls []) := by
  have hx := hC.1
  have hb := hC.2.1
  have hmz : M.2.2 ≤ z.2.2.2 := mo_X11_rhymes_87 hm44 hf
  unfold f_X11_rhymes_87 at hf
  obtain ⟨y12, ey12, hf⟩ := sq_e hf
  refine lv_iinc (v := y12) (lv' := [(6, .int y12), (0, .ref (ad 0)), (1, .int x1), (5, .int x5)]) hx hb dX11_rhymes_87 hl (k := 3) rfl (by rw [ey12]; rfl) (by decide) rfl (fun ls hl => ?_)
  refine lv_goto (tgt := 44) hx hb dX11_rhymes_90 (by decide) ?_
  refine W.widen (k := 2 * (M.2.2 - c0)) (n := 52 * (M.2.2 - c0)) (by omega) (by omega) ?_
  exact hq44 _ _ _ _ _ _ _ _ (by omega) hf hw (lv_sub hl [1, 2, 3, 0] rfl)
set_option maxRecDepth 100000 in
set_option maxHeartbeats 4000000 in
theorem k_X11_rhymes_93 {p : Program} {l : Launch} {e : Env} {s : State} {m : MethodId} {args : Array Value} {below : List Frame} {meth : Method} {c : Code} {D : va_G} {cy : Nat → ClassId} {z0 : Nat} {ad : Nat → Nat} {X : va_W} {u : Nat × Nat} (hC : cx_C p s m args meth c cX11_rhymes "RhymedThen" (Cond.code yX11_rhymes cX11_rhymes 7 (some .int)) 7 (some .int)) {z : (Int32 × mm_M)} {c0 : Nat} {M : mm_M} (hc0 : c0 ≤ M.2.2) (hf : f_X11_rhymes_93 M = some z) {H : Heap} {locs : List Loc} (hw : wd_in cx_T D cy z0 ad u M X s H locs) {ls : Array Slot} (hl : lv_has ls 7 [(0, .ref (ad 0))]) : W p l e { frames := 7, cells := 2 * (z.2.2.2 - c0), slots := 52 * (z.2.2.2 - c0), locals := 215 } s m args below meth c H locs (2 * (M.2.2 - c0)) (52 * (M.2.2 - c0)) (MQ below (aq_i cx_T D cy z0 ad X z.1 z.2) args s (2 * (z.2.2.2 - c0)) (52 * (z.2.2.2 - c0)) (fun q => z0 ≤ q)) (F0 m 93 ls []) := by
  have hx := hC.1
  have hb := hC.2.1
  have hmz : M.2.2 ≤ z.2.2.2 := mo_X11_rhymes_93 hf
  unfold f_X11_rhymes_93 at hf
  refine lv_aload_n hx hb dX11_rhymes_93 rfl (lv_at hl 0 rfl) ?_
  refine rg_p hC hw 0 (Nat.le_of_ble_eq_true rfl) rfl fd_X11_1 wf_X11_19 (q := 3) rfl dX11_rhymes_94 ?_
  refine rg_i hC hw 3 (Nat.le_of_ble_eq_true rfl) rfl fd_X4_1 wf_X11_224 dX11_rhymes_97 ?_
  refine W.widen (k := 2 * (z.2.2.2 - c0)) (n := 52 * (z.2.2.2 - c0)) (by omega) (by omega) ?_
  have hz := Option.some.inj hf
  subst hz
  exact rta_i hC hw dX11_rhymes_100
set_option maxRecDepth 100000 in
set_option maxHeartbeats 4000000 in
theorem k_X11_rhymes_44 {p : Program} {l : Launch} {e : Env} {s : State} {m : MethodId} {args : Array Value} {below : List Frame} {meth : Method} {c : Code} {D : va_G} {cy : Nat → ClassId} {z0 : Nat} {ad : Nat → Nat} {X : va_W} {u : Nat × Nat} (hC : cx_C p s m args meth c cX11_rhymes "RhymedThen" (Cond.code yX11_rhymes cX11_rhymes 7 (some .int)) 7 (some .int)) {z : (Int32 × mm_M)} {c0 : Nat} {x1 : Int32} {x5 : Int32} {x6 : Int32} {M : mm_M} (hc0 : c0 ≤ M.2.2) {q44 : Int32 → Int32 → Int32 → mm_M → Option (Int32 × mm_M)} (hq44 : ∀ (x1 : Int32) (x5 : Int32) (x6 : Int32) (M : mm_M) (u : Nat × Nat) (H : Heap) (locs : List Loc) (ls : Array Slot), c0 ≤ M.2.2 → q44 x1 x5 x6 M = some z → wd_in cx_T D cy z0 ad u M X s H locs → lv_has ls 7 [(0, .ref (ad 0)), (1, .int x1), (5, .int x5), (6, .int x6)] → W p l e { frames := 7, cells := 2 * (z.2.2.2 - c0), slots := 52 * (z.2.2.2 - c0), locals := 215 } s m args below meth c H locs (2 * (M.2.2 - c0)) (52 * (M.2.2 - c0)) (MQ below (aq_i cx_T D cy z0 ad X z.1 z.2) args s (2 * (z.2.2.2 - c0)) (52 * (z.2.2.2 - c0)) (fun q => z0 ≤ q)) (F0 m 44 ls [])) (hm44 : ∀ (x1 : Int32) (x5 : Int32) (x6 : Int32) (M : mm_M), q44 x1 x5 x6 M = some z → M.2.2 ≤ z.2.2.2) (hf : f_X11_rhymes_44 q44 x1 x5 x6 M = some z) {H : Heap} {locs : List Loc} (hw : wd_in cx_T D cy z0 ad u M X s H locs) {ls : Array Slot} (hl : lv_has ls 7 [(0, .ref (ad 0)), (1, .int x1), (5, .int x5), (6, .int x6)]) : W p l e { frames := 7, cells := 2 * (z.2.2.2 - c0), slots := 52 * (z.2.2.2 - c0), locals := 215 } s m args below meth c H locs (2 * (M.2.2 - c0)) (52 * (M.2.2 - c0)) (MQ below (aq_i cx_T D cy z0 ad X z.1 z.2) args s (2 * (z.2.2.2 - c0)) (52 * (z.2.2.2 - c0)) (fun q => z0 ≤ q)) (F0 m 44 ls []) := by
  have hx := hC.1
  have hb := hC.2.1
  have hmz : M.2.2 ≤ z.2.2.2 := mo_X11_rhymes_44 hm44 hf
  unfold f_X11_rhymes_44 at hf
  refine lv_iload hx hb dX11_rhymes_44 (lv_at hl 3 rfl) ?_
  refine lv_aload_n hx hb dX11_rhymes_46 rfl (lv_at hl 0 rfl) ?_
  refine rg_p hC hw 0 (Nat.le_of_ble_eq_true rfl) rfl fd_X11_2 wf_X11_26 (q := 5) rfl dX11_rhymes_47 ?_
  refine rg_i hC hw 5 (Nat.le_of_ble_eq_true rfl) rfl fd_X9_2 wf_X11_116 dX11_rhymes_50 ?_
  refine lv_icmp_ge (tgt := 93) hx hb dX11_rhymes_53 (by decide) (fun c7 => ?_) (fun c7 => ?_)
  · rw [if_pos c7] at hf
    refine W.widen (k := 2 * (M.2.2 - c0)) (n := 52 * (M.2.2 - c0)) (by omega) (by omega) ?_
    exact k_X11_rhymes_93 hC (by omega) hf hw (lv_sub hl [0] rfl)
  · rw [if_neg c7] at hf
    refine lv_iload hx hb dX11_rhymes_56 (lv_at hl 3 rfl) ?_
    refine lv_iload_n hx hb dX11_rhymes_58 rfl (lv_at hl 1 rfl) ?_
    refine lv_icmp_eq (tgt := 87) hx hb dX11_rhymes_59 (by decide) (fun c8 => ?_) (fun c8 => ?_)
    · rw [if_pos c8] at hf
      refine W.widen (k := 2 * (M.2.2 - c0)) (n := 52 * (M.2.2 - c0)) (by omega) (by omega) ?_
      exact k_X11_rhymes_87 hC (by omega) hq44 hm44 hf hw (lv_sub hl [0, 1, 2, 3] rfl)
    · rw [if_neg c8] at hf
      refine lv_aload_n hx hb dX11_rhymes_62 rfl (lv_at hl 0 rfl) ?_
      refine rg_p hC hw 0 (Nat.le_of_ble_eq_true rfl) rfl fd_X11_2 wf_X11_26 (q := 5) rfl dX11_rhymes_63 ?_
      refine lv_iload hx hb dX11_rhymes_66 (lv_at hl 2 rfl) ?_
      refine lv_iload_n hx hb dX11_rhymes_68 rfl (lv_at hl 1 rfl) ?_
      refine lv_iload hx hb dX11_rhymes_69 (lv_at hl 3 rfl) ?_
      obtain ⟨z9, ez9, hf⟩ := bd_e hf
      refine clc_Vi hC hw (c_X9_rhymeOn ez9) hd_X9_rhymeOn cw_X11_225 (Nat.le_of_ble_eq_true rfl) rfl rfl (rest := []) hl.1 rfl (Nat.le_of_ble_eq_true rfl) ⟨Nat.le_of_ble_eq_true rfl, Nat.le_of_ble_eq_true rfl⟩ ⟨(show 2 * (M.2.2 - c0) ≤ 2 * (z.2.2.2 - c0) by omega), (show 52 * (M.2.2 - c0) ≤ 52 * (z.2.2.2 - c0) by omega)⟩ rfl dX11_rhymes_71 (fun H locs hw => ?_)
      refine lv_if_eq (tgt := 87) hx hb dX11_rhymes_74 (by decide) (fun c10 => ?_) (fun c10 => ?_)
      · rw [if_pos c10] at hf
        refine W.widen (k := 2 * (M.2.2 - c0)) (n := 52 * (M.2.2 - c0)) (by omega) (by omega) ?_
        exact k_X11_rhymes_87 hC (by omega) hq44 hm44 hf hw (lv_sub hl [0, 1, 2, 3] rfl)
      · rw [if_neg c10] at hf
        refine lv_aload_n hx hb dX11_rhymes_77 rfl (lv_at hl 0 rfl) ?_
        refine rg_p hC hw 0 (Nat.le_of_ble_eq_true rfl) rfl fd_X11_1 wf_X11_19 (q := 3) rfl dX11_rhymes_78 ?_
        refine lv_iload hx hb dX11_rhymes_81 (lv_at hl 3 rfl) ?_
        refine lv_i2l hx hb dX11_rhymes_83 rfl ?_
        obtain ⟨z11, ez11, hf⟩ := bd_e hf
        have mz11 : M.2.2 ≤ z11.2.2 := mo_X4_add ez11
        refine clc_Vv hC hw (c_X4_add ez11) hd_X4_add cw_X11_214 (Nat.le_of_ble_eq_true rfl) rfl rfl (rest := []) hl.1 rfl (Nat.le_of_ble_eq_true rfl) ⟨Nat.le_of_ble_eq_true rfl, Nat.le_of_ble_eq_true rfl⟩ ⟨(show 2 * (M.2.2 - c0) ≤ 2 * (z.2.2.2 - c0) by omega), (show 52 * (M.2.2 - c0) ≤ 52 * (z.2.2.2 - c0) by omega)⟩ rfl dX11_rhymes_84 (fun H locs hw => ?_)
        refine W.widen (k := 2 * (z11.2.2 - c0)) (n := 52 * (z11.2.2 - c0)) (by omega) (by omega) ?_
        exact k_X11_rhymes_87 hC (by omega) hq44 hm44 hf hw (lv_sub hl [0, 1, 2, 3] rfl)
set_option maxRecDepth 100000 in
set_option maxHeartbeats 4000000 in
theorem k_X11_rhymes_44l {p : Program} {l : Launch} {e : Env} {s : State} {m : MethodId} {args : Array Value} {below : List Frame} {meth : Method} {c : Code} {D : va_G} {cy : Nat → ClassId} {z0 : Nat} {ad : Nat → Nat} {X : va_W} (hC : cx_C p s m args meth c cX11_rhymes "RhymedThen" (Cond.code yX11_rhymes cX11_rhymes 7 (some .int)) 7 (some .int)) {z : (Int32 × mm_M)} {c0 : Nat} : ∀ (n : Nat) (x1 : Int32) (x5 : Int32) (x6 : Int32) (M : mm_M) (u : Nat × Nat) (H : Heap) (locs : List Loc) (ls : Array Slot), c0 ≤ M.2.2 → f_X11_rhymes_44l n x1 x5 x6 M = some z → wd_in cx_T D cy z0 ad u M X s H locs → lv_has ls 7 [(0, .ref (ad 0)), (1, .int x1), (5, .int x5), (6, .int x6)] → W p l e { frames := 7, cells := 2 * (z.2.2.2 - c0), slots := 52 * (z.2.2.2 - c0), locals := 215 } s m args below meth c H locs (2 * (M.2.2 - c0)) (52 * (M.2.2 - c0)) (MQ below (aq_i cx_T D cy z0 ad X z.1 z.2) args s (2 * (z.2.2.2 - c0)) (52 * (z.2.2.2 - c0)) (fun q => z0 ≤ q)) (F0 m 44 ls []) := by
  intro n
  induction n with
  | zero => intro x1 x5 x6 M u H locs ls hc0 hf; exact absurd hf (by simp [f_X11_rhymes_44l])
  | succ n ih => intro x1 x5 x6 M u H locs ls hc0 hf hw hl; exact k_X11_rhymes_44 hC hc0 ih (mo_X11_rhymes_44l n) hf hw hl
set_option maxRecDepth 100000 in
set_option maxHeartbeats 4000000 in
theorem k_X11_rhymes_32 {p : Program} {l : Launch} {e : Env} {s : State} {m : MethodId} {args : Array Value} {below : List Frame} {meth : Method} {c : Code} {D : va_G} {cy : Nat → ClassId} {z0 : Nat} {ad : Nat → Nat} {X : va_W} {u : Nat × Nat} (hC : cx_C p s m args meth c cX11_rhymes "RhymedThen" (Cond.code yX11_rhymes cX11_rhymes 7 (some .int)) 7 (some .int)) {z : (Int32 × mm_M)} {c0 : Nat} {x1 : Int32} {t0 : Int32} {M : mm_M} (hc0 : c0 ≤ M.2.2) (hf : f_X11_rhymes_32 x1 t0 M = some z) {H : Heap} {locs : List Loc} (hw : wd_in cx_T D cy z0 ad u M X s H locs) {ls : Array Slot} (hl : lv_has ls 7 [(0, .ref (ad 0)), (1, .int x1)]) : W p l e { frames := 7, cells := 2 * (z.2.2.2 - c0), slots := 52 * (z.2.2.2 - c0), locals := 215 } s m args below meth c H locs (2 * (M.2.2 - c0)) (52 * (M.2.2 - c0)) (MQ below (aq_i cx_T D cy z0 ad X z.1 z.2) args s (2 * (z.2.2.2 - c0)) (52 * (z.2.2.2 - c0)) (fun q => z0 ≤ q)) (F0 m 32 ls [.int t0]) := by
  have hx := hC.1
  have hb := hC.2.1
  have hmz : M.2.2 ≤ z.2.2.2 := mo_X11_rhymes_32 hf
  unfold f_X11_rhymes_32 at hf
  refine lv_istore (lv' := [(5, .int t0), (0, .ref (ad 0)), (1, .int x1)]) hx hb dX11_rhymes_32 hl (by decide) rfl (fun ls hl => ?_)
  refine lv_aload_n hx hb dX11_rhymes_34 rfl (lv_at hl 1 rfl) ?_
  refine rg_p hC hw 0 (Nat.le_of_ble_eq_true rfl) rfl fd_X11_1 wf_X11_19 (q := 3) rfl dX11_rhymes_35 ?_
  obtain ⟨z6, ez6, hf⟩ := sq_e hf
  have mz6 : M.2.2 ≤ z6.2.2 := mo_X4_clear ez6.symm
  refine clc_Vv hC hw (c_X4_clear ez6.symm) hd_X4_clear cw_X11_192 (Nat.le_of_ble_eq_true rfl) rfl rfl (rest := []) hl.1 rfl (Nat.le_of_ble_eq_true rfl) ⟨Nat.le_of_ble_eq_true rfl, Nat.le_of_ble_eq_true rfl⟩ ⟨(show 2 * (M.2.2 - c0) ≤ 2 * (z.2.2.2 - c0) by omega), (show 52 * (M.2.2 - c0) ≤ 52 * (z.2.2.2 - c0) by omega)⟩ rfl dX11_rhymes_38 (fun H locs hw => ?_)
  refine lv_iconst (v := 0) hx hb dX11_rhymes_41 (by decide) ?_
  refine lv_istore (lv' := [(6, .int 0), (5, .int t0), (0, .ref (ad 0)), (1, .int x1)]) hx hb dX11_rhymes_42 hl (by decide) rfl (fun ls hl => ?_)
  refine W.widen (k := 2 * (z6.2.2 - c0)) (n := 52 * (z6.2.2 - c0)) (by omega) (by omega) ?_
  exact k_X11_rhymes_44l hC fu_ _ _ _ _ _ _ _ _ (by omega) hf hw (lv_sub hl [2, 3, 1, 0] rfl)
set_option maxRecDepth 100000 in
set_option maxHeartbeats 4000000 in
theorem k_X11_rhymes {p : Program} {l : Launch} {e : Env} {s : State} {m : MethodId} {args : Array Value} {below : List Frame} {meth : Method} {c : Code} {D : va_G} {cy : Nat → ClassId} {z0 : Nat} {ad : Nat → Nat} {X : va_W} {u : Nat × Nat} (hC : cx_C p s m args meth c cX11_rhymes "RhymedThen" (Cond.code yX11_rhymes cX11_rhymes 7 (some .int)) 7 (some .int)) {z : (Int32 × mm_M)} {c0 : Nat} {x1 : Int32} {x2 : Int32} {x3 : Int32} {x4 : Int32} {M : mm_M} (hc0 : c0 ≤ M.2.2) (hf : f_X11_rhymes x1 x2 x3 x4 M = some z) {H : Heap} {locs : List Loc} (hw : wd_in cx_T D cy z0 ad u M X s H locs) {ls : Array Slot} (hl : lv_has ls 7 [(0, .ref (ad 0)), (1, .int x1), (2, .int x2), (3, .int x3), (4, .int x4)]) : W p l e { frames := 7, cells := 2 * (z.2.2.2 - c0), slots := 52 * (z.2.2.2 - c0), locals := 215 } s m args below meth c H locs (2 * (M.2.2 - c0)) (52 * (M.2.2 - c0)) (MQ below (aq_i cx_T D cy z0 ad X z.1 z.2) args s (2 * (z.2.2.2 - c0)) (52 * (z.2.2.2 - c0)) (fun q => z0 ≤ q)) (F0 m 0 ls []) := by
  have hx := hC.1
  have hb := hC.2.1
  have hmz : M.2.2 ≤ z.2.2.2 := mo_X11_rhymes hf
  unfold f_X11_rhymes at hf
  refine lv_aload_n hx hb dX11_rhymes_0 rfl (lv_at hl 0 rfl) ?_
  refine lv_iload_n hx hb dX11_rhymes_1 rfl (lv_at hl 1 rfl) ?_
  obtain ⟨z1, ez1, hf⟩ := sq_e hf
  refine clc_Vi hC hw (c_X11_isWord ez1.symm) hd_X11_isWord cw_X11_185 (Nat.le_of_ble_eq_true rfl) rfl rfl (rest := []) hl.1 rfl (Nat.le_of_ble_eq_true rfl) ⟨Nat.le_of_ble_eq_true rfl, Nat.le_of_ble_eq_true rfl⟩ ⟨(show 2 * (M.2.2 - c0) ≤ 2 * (z.2.2.2 - c0) by omega), (show 52 * (M.2.2 - c0) ≤ 52 * (z.2.2.2 - c0) by omega)⟩ rfl dX11_rhymes_2 (fun H locs hw => ?_)
  refine lv_if_eq (tgt := 19) hx hb dX11_rhymes_5 (by decide) (fun c2 => ?_) (fun c2 => ?_)
  · rw [if_pos c2] at hf
    refine lv_iconst (v := (-1)) hx hb dX11_rhymes_19 (by decide) ?_
    refine W.widen (k := 2 * (z.2.2.2 - c0)) (n := 52 * (z.2.2.2 - c0)) (by omega) (by omega) ?_
    have hz := Option.some.inj hf
    subst hz
    exact rta_i hC hw dX11_rhymes_20
  · rw [if_neg c2] at hf
    refine lv_aload_n hx hb dX11_rhymes_8 rfl (lv_at hl 0 rfl) ?_
    refine lv_iload_n hx hb dX11_rhymes_9 rfl (lv_at hl 2 rfl) ?_
    refine lv_iload_n hx hb dX11_rhymes_10 rfl (lv_at hl 3 rfl) ?_
    refine lv_iload hx hb dX11_rhymes_11 (lv_at hl 4 rfl) ?_
    obtain ⟨z3, ez3, hf⟩ := sq_e hf
    refine clc_Vi hC hw (c_X11_isThenAndThere ez3.symm) hd_X11_isThenAndThere cw_X11_188 (Nat.le_of_ble_eq_true rfl) rfl rfl (rest := []) hl.1 rfl (Nat.le_of_ble_eq_true rfl) ⟨Nat.le_of_ble_eq_true rfl, Nat.le_of_ble_eq_true rfl⟩ ⟨(show 2 * (M.2.2 - c0) ≤ 2 * (z.2.2.2 - c0) by omega), (show 52 * (M.2.2 - c0) ≤ 52 * (z.2.2.2 - c0) by omega)⟩ rfl dX11_rhymes_13 (fun H locs hw => ?_)
    refine lv_if_ne (tgt := 21) hx hb dX11_rhymes_16 (by decide) (fun c4 => ?_) (fun c4 => ?_)
    · rw [if_neg c4] at hf
      refine lv_aload_n hx hb dX11_rhymes_21 rfl (lv_at hl 0 rfl) ?_
      refine rg_p hC hw 0 (Nat.le_of_ble_eq_true rfl) rfl fd_X11_3 wf_X11_35 (q := 14) rfl dX11_rhymes_22 ?_
      refine lv_iload_n hx hb dX11_rhymes_25 rfl (lv_at hl 2 rfl) ?_
      refine lv_iload_n hx hb dX11_rhymes_26 rfl (lv_at hl 3 rfl) ?_
      refine lv_iload hx hb dX11_rhymes_27 (lv_at hl 4 rfl) ?_
      obtain ⟨z5, ez5, hf⟩ := bd_e hf
      have mz5 : M.2.2 ≤ z5.2.2.2 := mo_X3_courseAt ez5
      have hnz : z5.2.2.2 ≤ z.2.2.2 := mo_X11_rhymes_32 hf
      refine cla_Vi hC hw (c_X3_courseAt ez5) hd_X3_courseAt cw_X11_195 (Nat.le_of_ble_eq_true rfl) rfl rfl (rest := []) hl.1 rfl (Nat.le_of_ble_eq_true rfl) ⟨Nat.le_of_ble_eq_true rfl, Nat.le_of_ble_eq_true rfl⟩ ⟨(show 2 * (M.2.2 - c0) + 2 * (z5.2.2.2 - M.2.2) ≤ 2 * (z.2.2.2 - c0) by omega), (show 52 * (M.2.2 - c0) + 52 * (z5.2.2.2 - M.2.2) ≤ 52 * (z.2.2.2 - c0) by omega)⟩ rfl dX11_rhymes_29 (fun u H locs hw => ?_)
      refine W.widen (k := 2 * (z5.2.2.2 - c0)) (n := 52 * (z5.2.2.2 - c0)) (by omega) (by omega) ?_
      exact k_X11_rhymes_32 hC (by omega) hf hw (lv_sub hl [0, 1] rfl)
    · rw [if_pos c4] at hf
      refine lv_iconst (v := (-1)) hx hb dX11_rhymes_19 (by decide) ?_
      refine W.widen (k := 2 * (z.2.2.2 - c0)) (n := 52 * (z.2.2.2 - c0)) (by omega) (by omega) ?_
      have hz := Option.some.inj hf
      subst hz
      exact rta_i hC hw dX11_rhymes_20
set_option maxRecDepth 100000 in
theorem c_X11_rhymes {l : Launch} {D : va_G} {cy : Nat → ClassId} {z0 : Nat} {ad : Nat → Nat} {u : Nat × Nat} {X : va_W} {z : (Int32 × mm_M)} {x1 : Int32} {x2 : Int32} {x3 : Int32} {x4 : Int32} {M : mm_M} (hf : f_X11_rhymes x1 x2 x3 x4 M = some z) : ca_i cx_T l yX11_rhymes (Cond.code yX11_rhymes cX11_rhymes 7 (some .int)) 7 215 D cy z0 ad u M X [.ref (ad 0), .int x1, .int x2, .int x3, .int x4] z.1 z.2 := by
  refine bga_i (by decide) (fun p e s m below meth c hC hw => ?_)
  refine en_t (Nat.le_of_ble_eq_true rfl) (fun ls hl => ?_)
  have hl : lv_has ls 7 [(0, .ref (ad 0)), (1, .int x1), (2, .int x2), (3, .int x3), (4, .int x4)] := hl
  refine W.widen (k := 2 * (M.2.2 - M.2.2)) (n := 52 * (M.2.2 - M.2.2)) (by omega) (by omega) ?_
  exact k_X11_rhymes hC (Nat.le_refl _) hf hw hl
