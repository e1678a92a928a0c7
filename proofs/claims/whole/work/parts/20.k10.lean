set_option maxRecDepth 100000 in
set_option maxHeartbeats 4000000 in
theorem k_X12_again_99 {p : Program} {l : Launch} {e : Env} {s : State} {m : MethodId} {args : Array Value} {below : List Frame} {meth : Method} {c : Code} {D : va_G} {cy : Nat → ClassId} {z0 : Nat} {ad : Nat → Nat} {X : va_W} {u : Nat × Nat} (hC : cx_C p s m args meth c cX12_again "RhymedThenModel" (Cond.code yX12_again cX12_again 3 (some .boolean)) 3 (some .boolean)) {z : (Int32 × mm_M)} {x1 : Int32} {x2 : Int32} {M : mm_M} {q99 : Int32 → Int32 → mm_M → Option (Int32 × mm_M)} (hq99 : ∀ (x1 : Int32) (x2 : Int32) (M : mm_M) (H : Heap) (locs : List Loc) (ls : Array Slot), q99 x1 x2 M = some z → wd_in rf_T D cy z0 ad u M X s H locs → lv_has ls 3 [(0, .ref (ad 0)), (1, .int x1), (2, .int x2)] → W p l e { frames := 1, cells := 0, slots := 0, locals := 25 } s m args below meth c H locs 0 0 (MQ below (cq_i rf_T D cy z0 ad u X z.1 z.2) args s 0 0 (fun q => z0 ≤ q)) (F0 m 99 ls [])) (hf : f_X12_again_99 q99 x1 x2 M = some z) {H : Heap} {locs : List Loc} (hw : wd_in rf_T D cy z0 ad u M X s H locs) {ls : Array Slot} (hl : lv_has ls 3 [(0, .ref (ad 0)), (1, .int x1), (2, .int x2)]) : W p l e { frames := 1, cells := 0, slots := 0, locals := 25 } s m args below meth c H locs 0 0 (MQ below (cq_i rf_T D cy z0 ad u X z.1 z.2) args s 0 0 (fun q => z0 ≤ q)) (F0 m 99 ls []) := by
  have hx := hC.1
  have hb := hC.2.1
  unfold f_X12_again_99 at hf
  refine lv_iload_n hx hb dX12_again_99 rfl (lv_at hl 2 rfl) ?_
  refine lv_bipush (v := 6) hx hb dX12_again_100 (by decide) ?_
  refine lv_icmp_ge (tgt := 145) hx hb dX12_again_102 (by decide) (fun c18 => ?_) (fun c18 => ?_)
  · rw [if_pos c18] at hf
    refine lv_iconst (v := 1) hx hb dX12_again_145 (by decide) ?_
    have hz := Option.some.inj hf
    subst hz
    exact rtc_z hC hw (Or.inr rfl) dX12_again_146
  · rw [if_neg c18] at hf
    refine lv_aload_n hx hb dX12_again_105 rfl (lv_at hl 0 rfl) ?_
    refine rg_p hC hw 0 (Nat.le_of_ble_eq_true rfl) rfl fd_X12_19 wf_X12_122 (q := 13) rfl dX12_again_106 ?_
    refine lv_iload_n hx hb dX12_again_109 rfl (lv_at hl 2 rfl) ?_
    refine lv_aload_n hx hb dX12_again_110 rfl (lv_at hl 0 rfl) ?_
    refine rg_p hC hw 0 (Nat.le_of_ble_eq_true rfl) rfl fd_X12_56 wf_X12_398 (q := 41) rfl dX12_again_111 ?_
    refine lv_bipush (v := 6) hx hb dX12_again_114 (by decide) ?_
    refine lv_iload_n hx hb dX12_again_116 rfl (lv_at hl 1 rfl) ?_
    refine lv_imul hx hb dX12_again_117 ?_
    refine lv_iload_n hx hb dX12_again_118 rfl (lv_at hl 2 rfl) ?_
    refine lv_iadd hx hb dX12_again_119 ?_
    obtain ⟨h19, hf⟩ := ck_e hf
    refine ra_i hC hw 41 (Nat.le_of_ble_eq_true rfl) rfl h19 dX12_again_120 ?_
    obtain ⟨h20, hf⟩ := ck_e hf
    obtain ⟨M21, eM21, hf⟩ := sq_e hf
    refine rs_i hC hw 13 (Nat.le_of_ble_eq_true rfl) rfl h20 dX12_again_121 eM21 (fun H locs hw => ?_)
    refine lv_aload_n hx hb dX12_again_122 rfl (lv_at hl 0 rfl) ?_
    refine rg_p hC hw 0 (Nat.le_of_ble_eq_true rfl) rfl fd_X12_7 wf_X12_66 (q := 3) rfl dX12_again_123 ?_
    refine lv_iload_n hx hb dX12_again_126 rfl (lv_at hl 2 rfl) ?_
    refine lv_aload_n hx hb dX12_again_127 rfl (lv_at hl 0 rfl) ?_
    refine rg_p hC hw 0 (Nat.le_of_ble_eq_true rfl) rfl fd_X12_57 wf_X12_401 (q := 42) rfl dX12_again_128 ?_
    refine lv_bipush (v := 6) hx hb dX12_again_131 (by decide) ?_
    refine lv_iload_n hx hb dX12_again_133 rfl (lv_at hl 1 rfl) ?_
    refine lv_imul hx hb dX12_again_134 ?_
    refine lv_iload_n hx hb dX12_again_135 rfl (lv_at hl 2 rfl) ?_
    refine lv_iadd hx hb dX12_again_136 ?_
    obtain ⟨h22, hf⟩ := ck_e hf
    refine ra_i hC hw 42 (Nat.le_of_ble_eq_true rfl) rfl h22 dX12_again_137 ?_
    obtain ⟨h23, hf⟩ := ck_e hf
    obtain ⟨M24, eM24, hf⟩ := sq_e hf
    refine rs_i hC hw 3 (Nat.le_of_ble_eq_true rfl) rfl h23 dX12_again_138 eM24 (fun H locs hw => ?_)
    obtain ⟨y25, ey25, hf⟩ := sq_e hf
    refine lv_iinc (v := y25) (lv' := [(2, .int y25), (0, .ref (ad 0)), (1, .int x1)]) hx hb dX12_again_139 hl (k := 2) rfl (by rw [ey25]; rfl) (by decide) rfl (fun ls hl => ?_)
    refine lv_goto (tgt := 99) hx hb dX12_again_142 (by decide) ?_
    exact hq99 _ _ _ _ _ _ hf hw (lv_sub hl [1, 2, 0] rfl)
set_option maxRecDepth 100000 in
set_option maxHeartbeats 4000000 in
theorem k_X12_again_99l {p : Program} {l : Launch} {e : Env} {s : State} {m : MethodId} {args : Array Value} {below : List Frame} {meth : Method} {c : Code} {D : va_G} {cy : Nat → ClassId} {z0 : Nat} {ad : Nat → Nat} {X : va_W} {u : Nat × Nat} (hC : cx_C p s m args meth c cX12_again "RhymedThenModel" (Cond.code yX12_again cX12_again 3 (some .boolean)) 3 (some .boolean)) {z : (Int32 × mm_M)} : ∀ (n : Nat) (x1 : Int32) (x2 : Int32) (M : mm_M) (H : Heap) (locs : List Loc) (ls : Array Slot), f_X12_again_99l n x1 x2 M = some z → wd_in rf_T D cy z0 ad u M X s H locs → lv_has ls 3 [(0, .ref (ad 0)), (1, .int x1), (2, .int x2)] → W p l e { frames := 1, cells := 0, slots := 0, locals := 25 } s m args below meth c H locs 0 0 (MQ below (cq_i rf_T D cy z0 ad u X z.1 z.2) args s 0 0 (fun q => z0 ≤ q)) (F0 m 99 ls []) := by
  intro n
  induction n with
  | zero => intro x1 x2 M H locs ls hf; exact absurd hf (by simp [f_X12_again_99l])
  | succ n ih => intro x1 x2 M H locs ls hf hw hl; exact k_X12_again_99 hC ih hf hw hl
set_option maxRecDepth 100000 in
set_option maxHeartbeats 4000000 in
theorem k_X12_again_97 {p : Program} {l : Launch} {e : Env} {s : State} {m : MethodId} {args : Array Value} {below : List Frame} {meth : Method} {c : Code} {D : va_G} {cy : Nat → ClassId} {z0 : Nat} {ad : Nat → Nat} {X : va_W} {u : Nat × Nat} (hC : cx_C p s m args meth c cX12_again "RhymedThenModel" (Cond.code yX12_again cX12_again 3 (some .boolean)) 3 (some .boolean)) {z : (Int32 × mm_M)} {x1 : Int32} {M : mm_M} (hf : f_X12_again_97 x1 M = some z) {H : Heap} {locs : List Loc} (hw : wd_in rf_T D cy z0 ad u M X s H locs) {ls : Array Slot} (hl : lv_has ls 3 [(0, .ref (ad 0)), (1, .int x1)]) : W p l e { frames := 1, cells := 0, slots := 0, locals := 25 } s m args below meth c H locs 0 0 (MQ below (cq_i rf_T D cy z0 ad u X z.1 z.2) args s 0 0 (fun q => z0 ≤ q)) (F0 m 97 ls []) := by
  have hx := hC.1
  have hb := hC.2.1
  unfold f_X12_again_97 at hf
  refine lv_iconst (v := 0) hx hb dX12_again_97 (by decide) ?_
  refine lv_istore_n (lv' := [(2, .int 0), (0, .ref (ad 0)), (1, .int x1)]) hx hb dX12_again_98 rfl hl (by decide) rfl (fun ls hl => ?_)
  exact k_X12_again_99l hC fu_ _ _ _ _ _ _ hf hw (lv_sub hl [1, 2, 0] rfl)
set_option maxRecDepth 100000 in
set_option maxHeartbeats 4000000 in
theorem k_X12_again_30 {p : Program} {l : Launch} {e : Env} {s : State} {m : MethodId} {args : Array Value} {below : List Frame} {meth : Method} {c : Code} {D : va_G} {cy : Nat → ClassId} {z0 : Nat} {ad : Nat → Nat} {X : va_W} {u : Nat × Nat} (hC : cx_C p s m args meth c cX12_again "RhymedThenModel" (Cond.code yX12_again cX12_again 3 (some .boolean)) 3 (some .boolean)) {z : (Int32 × mm_M)} {x1 : Int32} {x2 : Int32} {M : mm_M} {q30 : Int32 → Int32 → mm_M → Option (Int32 × mm_M)} (hq30 : ∀ (x1 : Int32) (x2 : Int32) (M : mm_M) (H : Heap) (locs : List Loc) (ls : Array Slot), q30 x1 x2 M = some z → wd_in rf_T D cy z0 ad u M X s H locs → lv_has ls 3 [(0, .ref (ad 0)), (1, .int x1), (2, .int x2)] → W p l e { frames := 1, cells := 0, slots := 0, locals := 25 } s m args below meth c H locs 0 0 (MQ below (cq_i rf_T D cy z0 ad u X z.1 z.2) args s 0 0 (fun q => z0 ≤ q)) (F0 m 30 ls [])) (hf : f_X12_again_30 q30 x1 x2 M = some z) {H : Heap} {locs : List Loc} (hw : wd_in rf_T D cy z0 ad u M X s H locs) {ls : Array Slot} (hl : lv_has ls 3 [(0, .ref (ad 0)), (1, .int x1), (2, .int x2)]) : W p l e { frames := 1, cells := 0, slots := 0, locals := 25 } s m args below meth c H locs 0 0 (MQ below (cq_i rf_T D cy z0 ad u X z.1 z.2) args s 0 0 (fun q => z0 ≤ q)) (F0 m 30 ls []) := by
  have hx := hC.1
  have hb := hC.2.1
  unfold f_X12_again_30 at hf
  refine lv_iload_n hx hb dX12_again_30 rfl (lv_at hl 2 rfl) ?_
  refine lv_aload_n hx hb dX12_again_31 rfl (lv_at hl 0 rfl) ?_
  refine rg_p hC hw 0 (Nat.le_of_ble_eq_true rfl) rfl fd_X12_52 wf_X12_386 (q := 37) rfl dX12_again_32 ?_
  refine lv_iload_n hx hb dX12_again_35 rfl (lv_at hl 1 rfl) ?_
  obtain ⟨h6, hf⟩ := ck_e hf
  refine ra_i hC hw 37 (Nat.le_of_ble_eq_true rfl) rfl h6 dX12_again_36 ?_
  refine lv_icmp_ge (tgt := 97) hx hb dX12_again_37 (by decide) (fun c7 => ?_) (fun c7 => ?_)
  · rw [if_pos c7] at hf
    exact k_X12_again_97 hC hf hw (lv_sub hl [0, 1] rfl)
  · rw [if_neg c7] at hf
    refine lv_aload_n hx hb dX12_again_40 rfl (lv_at hl 0 rfl) ?_
    refine rg_p hC hw 0 (Nat.le_of_ble_eq_true rfl) rfl fd_X12_37 wf_X12_250 (q := 26) rfl dX12_again_41 ?_
    refine lv_iload_n hx hb dX12_again_44 rfl (lv_at hl 2 rfl) ?_
    refine lv_aload_n hx hb dX12_again_45 rfl (lv_at hl 0 rfl) ?_
    refine rg_p hC hw 0 (Nat.le_of_ble_eq_true rfl) rfl fd_X12_53 wf_X12_389 (q := 38) rfl dX12_again_46 ?_
    refine lv_bipush (v := 16) hx hb dX12_again_49 (by decide) ?_
    refine lv_iload_n hx hb dX12_again_51 rfl (lv_at hl 1 rfl) ?_
    refine lv_imul hx hb dX12_again_52 ?_
    refine lv_iload_n hx hb dX12_again_53 rfl (lv_at hl 2 rfl) ?_
    refine lv_iadd hx hb dX12_again_54 ?_
    obtain ⟨h8, hf⟩ := ck_e hf
    refine ra_z hC hw 38 (Nat.le_of_ble_eq_true rfl) rfl h8 dX12_again_55 ?_
    obtain ⟨h9, hf⟩ := ck_e hf
    obtain ⟨M10, eM10, hf⟩ := sq_e hf
    refine rs_z hC hw 26 (Nat.le_of_ble_eq_true rfl) rfl h9 dX12_again_56 eM10 (fun H locs hw => ?_)
    refine lv_aload_n hx hb dX12_again_57 rfl (lv_at hl 0 rfl) ?_
    refine rg_p hC hw 0 (Nat.le_of_ble_eq_true rfl) rfl fd_X12_35 wf_X12_244 (q := 24) rfl dX12_again_58 ?_
    refine lv_iload_n hx hb dX12_again_61 rfl (lv_at hl 2 rfl) ?_
    refine lv_aload_n hx hb dX12_again_62 rfl (lv_at hl 0 rfl) ?_
    refine rg_p hC hw 0 (Nat.le_of_ble_eq_true rfl) rfl fd_X12_54 wf_X12_392 (q := 39) rfl dX12_again_63 ?_
    refine lv_bipush (v := 16) hx hb dX12_again_66 (by decide) ?_
    refine lv_iload_n hx hb dX12_again_68 rfl (lv_at hl 1 rfl) ?_
    refine lv_imul hx hb dX12_again_69 ?_
    refine lv_iload_n hx hb dX12_again_70 rfl (lv_at hl 2 rfl) ?_
    refine lv_iadd hx hb dX12_again_71 ?_
    obtain ⟨h11, hf⟩ := ck_e hf
    refine ra_i hC hw 39 (Nat.le_of_ble_eq_true rfl) rfl h11 dX12_again_72 ?_
    obtain ⟨h12, hf⟩ := ck_e hf
    obtain ⟨M13, eM13, hf⟩ := sq_e hf
    refine rs_i hC hw 24 (Nat.le_of_ble_eq_true rfl) rfl h12 dX12_again_73 eM13 (fun H locs hw => ?_)
    refine lv_aload_n hx hb dX12_again_74 rfl (lv_at hl 0 rfl) ?_
    refine rg_p hC hw 0 (Nat.le_of_ble_eq_true rfl) rfl fd_X12_36 wf_X12_247 (q := 25) rfl dX12_again_75 ?_
    refine lv_iload_n hx hb dX12_again_78 rfl (lv_at hl 2 rfl) ?_
    refine lv_aload_n hx hb dX12_again_79 rfl (lv_at hl 0 rfl) ?_
    refine rg_p hC hw 0 (Nat.le_of_ble_eq_true rfl) rfl fd_X12_55 wf_X12_395 (q := 40) rfl dX12_again_80 ?_
    refine lv_bipush (v := 16) hx hb dX12_again_83 (by decide) ?_
    refine lv_iload_n hx hb dX12_again_85 rfl (lv_at hl 1 rfl) ?_
    refine lv_imul hx hb dX12_again_86 ?_
    refine lv_iload_n hx hb dX12_again_87 rfl (lv_at hl 2 rfl) ?_
    refine lv_iadd hx hb dX12_again_88 ?_
    obtain ⟨h14, hf⟩ := ck_e hf
    refine ra_i hC hw 40 (Nat.le_of_ble_eq_true rfl) rfl h14 dX12_again_89 ?_
    obtain ⟨h15, hf⟩ := ck_e hf
    obtain ⟨M16, eM16, hf⟩ := sq_e hf
    refine rs_i hC hw 25 (Nat.le_of_ble_eq_true rfl) rfl h15 dX12_again_90 eM16 (fun H locs hw => ?_)
    obtain ⟨y17, ey17, hf⟩ := sq_e hf
    refine lv_iinc (v := y17) (lv' := [(2, .int y17), (0, .ref (ad 0)), (1, .int x1)]) hx hb dX12_again_91 hl (k := 2) rfl (by rw [ey17]; rfl) (by decide) rfl (fun ls hl => ?_)
    refine lv_goto (tgt := 30) hx hb dX12_again_94 (by decide) ?_
    exact hq30 _ _ _ _ _ _ hf hw (lv_sub hl [1, 2, 0] rfl)
set_option maxRecDepth 100000 in
set_option maxHeartbeats 4000000 in
theorem k_X12_again_30l {p : Program} {l : Launch} {e : Env} {s : State} {m : MethodId} {args : Array Value} {below : List Frame} {meth : Method} {c : Code} {D : va_G} {cy : Nat → ClassId} {z0 : Nat} {ad : Nat → Nat} {X : va_W} {u : Nat × Nat} (hC : cx_C p s m args meth c cX12_again "RhymedThenModel" (Cond.code yX12_again cX12_again 3 (some .boolean)) 3 (some .boolean)) {z : (Int32 × mm_M)} : ∀ (n : Nat) (x1 : Int32) (x2 : Int32) (M : mm_M) (H : Heap) (locs : List Loc) (ls : Array Slot), f_X12_again_30l n x1 x2 M = some z → wd_in rf_T D cy z0 ad u M X s H locs → lv_has ls 3 [(0, .ref (ad 0)), (1, .int x1), (2, .int x2)] → W p l e { frames := 1, cells := 0, slots := 0, locals := 25 } s m args below meth c H locs 0 0 (MQ below (cq_i rf_T D cy z0 ad u X z.1 z.2) args s 0 0 (fun q => z0 ≤ q)) (F0 m 30 ls []) := by
  intro n
  induction n with
  | zero => intro x1 x2 M H locs ls hf; exact absurd hf (by simp [f_X12_again_30l])
  | succ n ih => intro x1 x2 M H locs ls hf hw hl; exact k_X12_again_30 hC ih hf hw hl
set_option maxRecDepth 100000 in
set_option maxHeartbeats 4000000 in
theorem k_X12_again {p : Program} {l : Launch} {e : Env} {s : State} {m : MethodId} {args : Array Value} {below : List Frame} {meth : Method} {c : Code} {D : va_G} {cy : Nat → ClassId} {z0 : Nat} {ad : Nat → Nat} {X : va_W} {u : Nat × Nat} (hC : cx_C p s m args meth c cX12_again "RhymedThenModel" (Cond.code yX12_again cX12_again 3 (some .boolean)) 3 (some .boolean)) {z : (Int32 × mm_M)} {x1 : Int32} {M : mm_M} (hf : f_X12_again x1 M = some z) {H : Heap} {locs : List Loc} (hw : wd_in rf_T D cy z0 ad u M X s H locs) {ls : Array Slot} (hl : lv_has ls 3 [(0, .ref (ad 0)), (1, .int x1)]) : W p l e { frames := 1, cells := 0, slots := 0, locals := 25 } s m args below meth c H locs 0 0 (MQ below (cq_i rf_T D cy z0 ad u X z.1 z.2) args s 0 0 (fun q => z0 ≤ q)) (F0 m 0 ls []) := by
  have hx := hC.1
  have hb := hC.2.1
  unfold f_X12_again at hf
  refine lv_aload_n hx hb dX12_again_0 rfl (lv_at hl 0 rfl) ?_
  refine lv_iconst (v := 0) hx hb dX12_again_1 (by decide) ?_
  obtain ⟨M1, eM1, hf⟩ := sq_e hf
  refine rp_i hC hw 0 (Nat.le_of_ble_eq_true rfl) rfl fd_X12_0 wf_X12_1 fp_X12_0 rfl rfl dX12_again_2 eM1 (fun H locs hw => ?_)
  refine lv_iload_n hx hb dX12_again_5 rfl (lv_at hl 1 rfl) ?_
  refine lv_i2l hx hb dX12_again_6 rfl ?_
  refine lv_lconst (v := 0) hx hb dX12_again_7 (by decide) ?_
  refine lv_ldc2 (v := 2) hx hb hC.2.2.2.1 (hC.t wk_X12_381) dX12_again_8 ?_
  obtain ⟨z2, ez2, hf⟩ := sq_e hf
  refine clc_Si hC hw (c_X12_in ez2.symm) hd_X12_in cw_X12_29 (rest := []) hl.1 rfl (Nat.le_of_ble_eq_true rfl) ⟨Nat.le_of_ble_eq_true rfl, Nat.le_of_ble_eq_true rfl⟩ ⟨Nat.zero_le _, Nat.zero_le _⟩ rfl dX12_again_11 (fun H locs hw => ?_)
  refine lv_if_eq (tgt := 26) hx hb dX12_again_14 (by decide) (fun c3 => ?_) (fun c3 => ?_)
  · rw [if_pos c3] at hf
    refine lv_iconst (v := 0) hx hb dX12_again_26 (by decide) ?_
    have hz := Option.some.inj hf
    subst hz
    exact rtc_z hC hw (Or.inl rfl) dX12_again_27
  · rw [if_neg c3] at hf
    refine lv_aload_n hx hb dX12_again_17 rfl (lv_at hl 0 rfl) ?_
    refine rg_p hC hw 0 (Nat.le_of_ble_eq_true rfl) rfl fd_X12_51 wf_X12_383 (q := 36) rfl dX12_again_18 ?_
    refine lv_iload_n hx hb dX12_again_21 rfl (lv_at hl 1 rfl) ?_
    obtain ⟨h4, hf⟩ := ck_e hf
    refine ra_z hC hw 36 (Nat.le_of_ble_eq_true rfl) rfl h4 dX12_again_22 ?_
    refine lv_if_ne (tgt := 28) hx hb dX12_again_23 (by decide) (fun c5 => ?_) (fun c5 => ?_)
    · rw [if_neg c5] at hf
      refine lv_iconst (v := 0) hx hb dX12_again_28 (by decide) ?_
      refine lv_istore_n (lv' := [(2, .int 0), (0, .ref (ad 0)), (1, .int x1)]) hx hb dX12_again_29 rfl hl (by decide) rfl (fun ls hl => ?_)
      exact k_X12_again_30l hC fu_ _ _ _ _ _ _ hf hw (lv_sub hl [1, 2, 0] rfl)
    · rw [if_pos c5] at hf
      refine lv_iconst (v := 0) hx hb dX12_again_26 (by decide) ?_
      have hz := Option.some.inj hf
      subst hz
      exact rtc_z hC hw (Or.inl rfl) dX12_again_27
set_option maxRecDepth 100000 in
theorem c_X12_again {l : Launch} {D : va_G} {cy : Nat → ClassId} {z0 : Nat} {ad : Nat → Nat} {u : Nat × Nat} {X : va_W} {z : (Int32 × mm_M)} {x1 : Int32} {M : mm_M} (hf : f_X12_again x1 M = some z) : ct_i rf_T l yX12_again (Cond.code yX12_again cX12_again 3 (some .boolean)) 1 25 D cy z0 ad u M X [.ref (ad 0), .int x1] z.1 z.2 := by
  refine bgc_i (by decide) (fun p e s m below meth c hC hw => ?_)
  refine en_t (Nat.le_of_ble_eq_true rfl) (fun ls hl => ?_)
  have hl : lv_has ls 3 [(0, .ref (ad 0)), (1, .int x1)] := hl
  exact k_X12_again hC hf hw hl
set_option maxRecDepth 100000 in
set_option maxHeartbeats 4000000 in
theorem k_X12_onBits_29 {p : Program} {l : Launch} {e : Env} {s : State} {m : MethodId} {args : Array Value} {below : List Frame} {meth : Method} {c : Code} {D : va_G} {cy : Nat → ClassId} {z0 : Nat} {ad : Nat → Nat} {X : va_W} {u : Nat × Nat} (hC : cx_C p s m args meth c cX12_onBits "RhymedThenModel" (Cond.code yX12_onBits cX12_onBits 3 (some .int)) 3 (some .int)) {z : Int32} {x2 : Int32} {t0 : Int32} {t1 : Int32} {M : mm_M} {q4 : Int32 → Int32 → Option Int32} (hq4 : ∀ (x1 : Int32) (x2 : Int32) (H : Heap) (locs : List Loc) (ls : Array Slot), q4 x1 x2 = some z → wd_in rf_T D cy z0 ad u M X s H locs → lv_has ls 3 [(0, .ref (ad 0)), (1, .int x1), (2, .int x2)] → W p l e { frames := 0, cells := 0, slots := 0, locals := 0 } s m args below meth c H locs 0 0 (MQ below (cq_i rf_T D cy z0 ad u X z M) args s 0 0 (fun q => z0 ≤ q)) (F0 m 4 ls [])) (hf : f_X12_onBits_29 q4 x2 t0 t1 M = some z) {H : Heap} {locs : List Loc} (hw : wd_in rf_T D cy z0 ad u M X s H locs) {ls : Array Slot} (hl : lv_has ls 3 [(0, .ref (ad 0)), (2, .int x2)]) : W p l e { frames := 0, cells := 0, slots := 0, locals := 0 } s m args below meth c H locs 0 0 (MQ below (cq_i rf_T D cy z0 ad u X z M) args s 0 0 (fun q => z0 ≤ q)) (F0 m 29 ls [.int t1, .int t0]) := by
  have hx := hC.1
  have hb := hC.2.1
  unfold f_X12_onBits_29 at hf
  refine lv_ior hx hb dX12_onBits_29 ?_
  obtain ⟨y4, ey4, hf⟩ := sq_e hf
  refine lt_i ey4 ?_
  refine lv_istore_n (lv' := [(1, .int y4), (0, .ref (ad 0)), (2, .int x2)]) hx hb dX12_onBits_30 rfl hl (by decide) rfl (fun ls hl => ?_)
  obtain ⟨y5, ey5, hf⟩ := sq_e hf
  refine lv_iinc (v := y5) (lv' := [(2, .int y5), (1, .int y4), (0, .ref (ad 0))]) hx hb dX12_onBits_31 hl (k := 2) rfl (by rw [ey5]; rfl) (by decide) rfl (fun ls hl => ?_)
  refine lv_goto (tgt := 4) hx hb dX12_onBits_34 (by decide) ?_
  exact hq4 _ _ _ _ _ hf hw (lv_sub hl [2, 1, 0] rfl)
set_option maxRecDepth 100000 in
set_option maxHeartbeats 4000000 in
theorem k_X12_onBits_4 {p : Program} {l : Launch} {e : Env} {s : State} {m : MethodId} {args : Array Value} {below : List Frame} {meth : Method} {c : Code} {D : va_G} {cy : Nat → ClassId} {z0 : Nat} {ad : Nat → Nat} {X : va_W} {u : Nat × Nat} (hC : cx_C p s m args meth c cX12_onBits "RhymedThenModel" (Cond.code yX12_onBits cX12_onBits 3 (some .int)) 3 (some .int)) {z : Int32} {x1 : Int32} {x2 : Int32} {M : mm_M} {q4 : Int32 → Int32 → Option Int32} (hq4 : ∀ (x1 : Int32) (x2 : Int32) (H : Heap) (locs : List Loc) (ls : Array Slot), q4 x1 x2 = some z → wd_in rf_T D cy z0 ad u M X s H locs → lv_has ls 3 [(0, .ref (ad 0)), (1, .int x1), (2, .int x2)] → W p l e { frames := 0, cells := 0, slots := 0, locals := 0 } s m args below meth c H locs 0 0 (MQ below (cq_i rf_T D cy z0 ad u X z M) args s 0 0 (fun q => z0 ≤ q)) (F0 m 4 ls [])) (hf : f_X12_onBits_4 q4 x1 x2 M = some z) {H : Heap} {locs : List Loc} (hw : wd_in rf_T D cy z0 ad u M X s H locs) {ls : Array Slot} (hl : lv_has ls 3 [(0, .ref (ad 0)), (1, .int x1), (2, .int x2)]) : W p l e { frames := 0, cells := 0, slots := 0, locals := 0 } s m args below meth c H locs 0 0 (MQ below (cq_i rf_T D cy z0 ad u X z M) args s 0 0 (fun q => z0 ≤ q)) (F0 m 4 ls []) := by
  have hx := hC.1
  have hb := hC.2.1
  unfold f_X12_onBits_4 at hf
  refine lv_iload_n hx hb dX12_onBits_4 rfl (lv_at hl 2 rfl) ?_
  refine lv_aload_n hx hb dX12_onBits_5 rfl (lv_at hl 0 rfl) ?_
  refine rg_i hC hw 0 (Nat.le_of_ble_eq_true rfl) rfl fd_X12_28 wf_X12_258 dX12_onBits_6 ?_
  refine lv_icmp_ge (tgt := 37) hx hb dX12_onBits_9 (by decide) (fun c1 => ?_) (fun c1 => ?_)
  · rw [if_pos c1] at hf
    refine lv_iload_n hx hb dX12_onBits_37 rfl (lv_at hl 1 rfl) ?_
    have hz := Option.some.inj hf
    subst hz
    exact rtc_i hC hw dX12_onBits_38
  · rw [if_neg c1] at hf
    refine lv_iload_n hx hb dX12_onBits_12 rfl (lv_at hl 1 rfl) ?_
    refine lv_aload_n hx hb dX12_onBits_13 rfl (lv_at hl 0 rfl) ?_
    refine rg_p hC hw 0 (Nat.le_of_ble_eq_true rfl) rfl fd_X12_37 wf_X12_250 (q := 26) rfl dX12_onBits_14 ?_
    refine lv_iload_n hx hb dX12_onBits_17 rfl (lv_at hl 2 rfl) ?_
    obtain ⟨h2, hf⟩ := ck_e hf
    refine ra_z hC hw 26 (Nat.le_of_ble_eq_true rfl) rfl h2 dX12_onBits_18 ?_
    refine lv_if_eq (tgt := 28) hx hb dX12_onBits_19 (by decide) (fun c3 => ?_) (fun c3 => ?_)
    · rw [if_pos c3] at hf
      refine lv_iconst (v := 0) hx hb dX12_onBits_28 (by decide) ?_
      exact k_X12_onBits_29 hC hq4 hf hw (lv_sub hl [0, 2] rfl)
    · rw [if_neg c3] at hf
      refine lv_iconst (v := 1) hx hb dX12_onBits_22 (by decide) ?_
      refine lv_iload_n hx hb dX12_onBits_23 rfl (lv_at hl 2 rfl) ?_
      refine lv_ishl hx hb dX12_onBits_24 ?_
      refine lv_goto (tgt := 29) hx hb dX12_onBits_25 (by decide) ?_
      exact k_X12_onBits_29 hC hq4 hf hw (lv_sub hl [0, 2] rfl)
set_option maxRecDepth 100000 in
set_option maxHeartbeats 4000000 in
theorem k_X12_onBits_4l {p : Program} {l : Launch} {e : Env} {s : State} {m : MethodId} {args : Array Value} {below : List Frame} {meth : Method} {c : Code} {D : va_G} {cy : Nat → ClassId} {z0 : Nat} {ad : Nat → Nat} {X : va_W} {u : Nat × Nat} (hC : cx_C p s m args meth c cX12_onBits "RhymedThenModel" (Cond.code yX12_onBits cX12_onBits 3 (some .int)) 3 (some .int)) {z : Int32} {M : mm_M} : ∀ (n : Nat) (x1 : Int32) (x2 : Int32) (H : Heap) (locs : List Loc) (ls : Array Slot), f_X12_onBits_4l M n x1 x2 = some z → wd_in rf_T D cy z0 ad u M X s H locs → lv_has ls 3 [(0, .ref (ad 0)), (1, .int x1), (2, .int x2)] → W p l e { frames := 0, cells := 0, slots := 0, locals := 0 } s m args below meth c H locs 0 0 (MQ below (cq_i rf_T D cy z0 ad u X z M) args s 0 0 (fun q => z0 ≤ q)) (F0 m 4 ls []) := by
  intro n
  induction n with
  | zero => intro x1 x2 H locs ls hf; exact absurd hf (by simp [f_X12_onBits_4l])
  | succ n ih => intro x1 x2 H locs ls hf hw hl; exact k_X12_onBits_4 hC ih hf hw hl
set_option maxRecDepth 100000 in
set_option maxHeartbeats 4000000 in
theorem k_X12_onBits {p : Program} {l : Launch} {e : Env} {s : State} {m : MethodId} {args : Array Value} {below : List Frame} {meth : Method} {c : Code} {D : va_G} {cy : Nat → ClassId} {z0 : Nat} {ad : Nat → Nat} {X : va_W} {u : Nat × Nat} (hC : cx_C p s m args meth c cX12_onBits "RhymedThenModel" (Cond.code yX12_onBits cX12_onBits 3 (some .int)) 3 (some .int)) {z : Int32} {M : mm_M} (hf : f_X12_onBits M = some z) {H : Heap} {locs : List Loc} (hw : wd_in rf_T D cy z0 ad u M X s H locs) {ls : Array Slot} (hl : lv_has ls 3 [(0, .ref (ad 0))]) : W p l e { frames := 0, cells := 0, slots := 0, locals := 0 } s m args below meth c H locs 0 0 (MQ below (cq_i rf_T D cy z0 ad u X z M) args s 0 0 (fun q => z0 ≤ q)) (F0 m 0 ls []) := by
  have hx := hC.1
  have hb := hC.2.1
  unfold f_X12_onBits at hf
  refine lv_iconst (v := 0) hx hb dX12_onBits_0 (by decide) ?_
  refine lv_istore_n (lv' := [(1, .int 0), (0, .ref (ad 0))]) hx hb dX12_onBits_1 rfl hl (by decide) rfl (fun ls hl => ?_)
  refine lv_iconst (v := 0) hx hb dX12_onBits_2 (by decide) ?_
  refine lv_istore_n (lv' := [(2, .int 0), (1, .int 0), (0, .ref (ad 0))]) hx hb dX12_onBits_3 rfl hl (by decide) rfl (fun ls hl => ?_)
  exact k_X12_onBits_4l hC fu_ _ _ _ _ _ hf hw (lv_sub hl [2, 1, 0] rfl)
set_option maxRecDepth 100000 in
theorem c_X12_onBits {l : Launch} {D : va_G} {cy : Nat → ClassId} {z0 : Nat} {ad : Nat → Nat} {u : Nat × Nat} {X : va_W} {z : Int32} {M : mm_M} (hf : f_X12_onBits M = some z) : ct_i rf_T l yX12_onBits (Cond.code yX12_onBits cX12_onBits 3 (some .int)) 0 0 D cy z0 ad u M X [.ref (ad 0)] z M := by
  refine bgc_i (by decide) (fun p e s m below meth c hC hw => ?_)
  refine en_t (Nat.le_of_ble_eq_true rfl) (fun ls hl => ?_)
  have hl : lv_has ls 3 [(0, .ref (ad 0))] := hl
  exact k_X12_onBits hC hf hw hl
set_option maxRecDepth 100000 in
set_option maxHeartbeats 4000000 in
theorem k_X12_count {p : Program} {l : Launch} {e : Env} {s : State} {m : MethodId} {args : Array Value} {below : List Frame} {meth : Method} {c : Code} {D : va_G} {cy : Nat → ClassId} {z0 : Nat} {ad : Nat → Nat} {X : va_W} {u : Nat × Nat} (hC : cx_C p s m args meth c cX12_count "RhymedThenModel" (Cond.code yX12_count cX12_count 2 (some .int)) 2 (some .int)) {z : (Int32 × mm_M)} {x1 : Int32} {M : mm_M} (hf : f_X12_count x1 M = some z) {H : Heap} {locs : List Loc} (hw : wd_in rf_T D cy z0 ad u M X s H locs) {ls : Array Slot} (hl : lv_has ls 2 [(0, .ref (ad 0)), (1, .int x1)]) : W p l e { frames := 1, cells := 0, slots := 0, locals := 22 } s m args below meth c H locs 0 0 (MQ below (cq_i rf_T D cy z0 ad u X z.1 z.2) args s 0 0 (fun q => z0 ≤ q)) (F0 m 0 ls []) := by
  have hx := hC.1
  have hb := hC.2.1
  unfold f_X12_count at hf
  refine lv_aload_n hx hb dX12_count_0 rfl (lv_at hl 0 rfl) ?_
  refine lv_iconst (v := 0) hx hb dX12_count_1 (by decide) ?_
  obtain ⟨M1, eM1, hf⟩ := sq_e hf
  refine rp_i hC hw 0 (Nat.le_of_ble_eq_true rfl) rfl fd_X12_0 wf_X12_1 fp_X12_0 rfl rfl dX12_count_2 eM1 (fun H locs hw => ?_)
  refine lv_iload_n hx hb dX12_count_5 rfl (lv_at hl 1 rfl) ?_
  by_cases s4 : x1 = 0
  · rw [if_pos s4] at hf
    refine lt_i s4.symm ?_
    refine lv_tableIn (tgt := 48) hx hb dX12_count_6 (by decide) (by decide) rfl (by decide) ?_
    refine lv_aload_n hx hb dX12_count_48 rfl (lv_at hl 0 rfl) ?_
    refine rg_i hC hw 0 (Nat.le_of_ble_eq_true rfl) rfl fd_X12_8 wf_X12_75 dX12_count_49 ?_
    have hz := Option.some.inj hf
    subst hz
    exact rtc_i hC hw dX12_count_52
  rw [if_neg s4] at hf
  by_cases s5 : x1 = 1
  · rw [if_pos s5] at hf
    refine lt_i s5.symm ?_
    refine lv_tableIn (tgt := 53) hx hb dX12_count_6 (by decide) (by decide) rfl (by decide) ?_
    refine lv_aload_n hx hb dX12_count_53 rfl (lv_at hl 0 rfl) ?_
    refine rg_i hC hw 0 (Nat.le_of_ble_eq_true rfl) rfl fd_X12_11 wf_X12_99 dX12_count_54 ?_
    have hz := Option.some.inj hf
    subst hz
    exact rtc_i hC hw dX12_count_57
  rw [if_neg s5] at hf
  by_cases s6 : x1 = 2
  · rw [if_pos s6] at hf
    refine lt_i s6.symm ?_
    refine lv_tableIn (tgt := 58) hx hb dX12_count_6 (by decide) (by decide) rfl (by decide) ?_
    refine lv_aload_n hx hb dX12_count_58 rfl (lv_at hl 0 rfl) ?_
    obtain ⟨z2, ez2, hf⟩ := bd_e hf
    refine clc_Vi hC hw (c_X12_histories ez2) hd_X12_histories cw_X12_107 (Nat.le_of_ble_eq_true rfl) rfl rfl (rest := []) hl.1 rfl (Nat.le_of_ble_eq_true rfl) ⟨Nat.le_of_ble_eq_true rfl, Nat.le_of_ble_eq_true rfl⟩ ⟨Nat.zero_le _, Nat.zero_le _⟩ rfl dX12_count_59 (fun H locs hw => ?_)
    have hz := Option.some.inj hf
    subst hz
    exact rtc_i hC hw dX12_count_62
  rw [if_neg s6] at hf
  by_cases s7 : x1 = 3
  · rw [if_pos s7] at hf
    refine lt_i s7.symm ?_
    refine lv_tableIn (tgt := 63) hx hb dX12_count_6 (by decide) (by decide) rfl (by decide) ?_
    refine lv_aload_n hx hb dX12_count_63 rfl (lv_at hl 0 rfl) ?_
    refine rg_i hC hw 0 (Nat.le_of_ble_eq_true rfl) rfl fd_X12_28 wf_X12_258 dX12_count_64 ?_
    have hz := Option.some.inj hf
    subst hz
    exact rtc_i hC hw dX12_count_67
  rw [if_neg s7] at hf
  by_cases s8 : x1 = 4
  · rw [if_pos s8] at hf
    refine lt_i s8.symm ?_
    refine lv_tableIn (tgt := 68) hx hb dX12_count_6 (by decide) (by decide) rfl (by decide) ?_
    refine lv_aload_n hx hb dX12_count_68 rfl (lv_at hl 0 rfl) ?_
    obtain ⟨z3, ez3, hf⟩ := bd_e hf
    refine clc_Vi hC hw (c_X12_onBits ez3) hd_X12_onBits cw_X12_404 (Nat.le_of_ble_eq_true rfl) rfl rfl (rest := []) hl.1 rfl (Nat.le_of_ble_eq_true rfl) ⟨Nat.le_of_ble_eq_true rfl, Nat.le_of_ble_eq_true rfl⟩ ⟨Nat.zero_le _, Nat.zero_le _⟩ rfl dX12_count_69 (fun H locs hw => ?_)
    have hz := Option.some.inj hf
    subst hz
    exact rtc_i hC hw dX12_count_72
  rw [if_neg s8] at hf
  by_cases s9 : x1 = 5
  · rw [if_pos s9] at hf
    refine lt_i s9.symm ?_
    refine lv_tableIn (tgt := 73) hx hb dX12_count_6 (by decide) (by decide) rfl (by decide) ?_
    refine lv_aload_n hx hb dX12_count_73 rfl (lv_at hl 0 rfl) ?_
    refine rg_i hC hw 0 (Nat.le_of_ble_eq_true rfl) rfl fd_X12_1 wf_X12_11 dX12_count_74 ?_
    have hz := Option.some.inj hf
    subst hz
    exact rtc_i hC hw dX12_count_77
  rw [if_neg s9] at hf
  by_cases s10 : x1 = 6
  · rw [if_pos s10] at hf
    refine lt_i s10.symm ?_
    refine lv_tableIn (tgt := 78) hx hb dX12_count_6 (by decide) (by decide) rfl (by decide) ?_
    refine lv_aload_n hx hb dX12_count_78 rfl (lv_at hl 0 rfl) ?_
    refine rg_i hC hw 0 (Nat.le_of_ble_eq_true rfl) rfl fd_X12_4 wf_X12_22 dX12_count_79 ?_
    have hz := Option.some.inj hf
    subst hz
    exact rtc_i hC hw dX12_count_82
  rw [if_neg s10] at hf
  refine lv_tableOut (tgt := 83) hx hb dX12_count_6 (sw_out x1 0 6 (fun v h1 h2 => by rcases (show v = 0 ∨ v = 1 ∨ v = 2 ∨ v = 3 ∨ v = 4 ∨ v = 5 ∨ v = 6 by omega) with rfl | rfl | rfl | rfl | rfl | rfl | rfl <;> first | exact sw_ne s4 (by decide) | exact sw_ne s5 (by decide) | exact sw_ne s6 (by decide) | exact sw_ne s7 (by decide) | exact sw_ne s8 (by decide) | exact sw_ne s9 (by decide) | exact sw_ne s10 (by decide))) (by decide) ?_
  refine lv_iconst (v := (-1)) hx hb dX12_count_83 (by decide) ?_
  have hz := Option.some.inj hf
  subst hz
  exact rtc_i hC hw dX12_count_84
set_option maxRecDepth 100000 in
theorem c_X12_count {l : Launch} {D : va_G} {cy : Nat → ClassId} {z0 : Nat} {ad : Nat → Nat} {u : Nat × Nat} {X : va_W} {z : (Int32 × mm_M)} {x1 : Int32} {M : mm_M} (hf : f_X12_count x1 M = some z) : ct_i rf_T l yX12_count (Cond.code yX12_count cX12_count 2 (some .int)) 1 22 D cy z0 ad u M X [.ref (ad 0), .int x1] z.1 z.2 := by
  refine bgc_i (by decide) (fun p e s m below meth c hC hw => ?_)
  refine en_t (Nat.le_of_ble_eq_true rfl) (fun ls hl => ?_)
  have hl : lv_has ls 2 [(0, .ref (ad 0)), (1, .int x1)] := hl
  exact k_X12_count hC hf hw hl
set_option maxRecDepth 100000 in
set_option maxHeartbeats 4000000 in
theorem k_X12_year {p : Program} {l : Launch} {e : Env} {s : State} {m : MethodId} {args : Array Value} {below : List Frame} {meth : Method} {c : Code} {D : va_G} {cy : Nat → ClassId} {z0 : Nat} {ad : Nat → Nat} {X : va_W} {u : Nat × Nat} (hC : cx_C p s m args meth c cX12_year "RhymedThenModel" (Cond.code yX12_year cX12_year 3 (some .int)) 3 (some .int)) {z : (Int32 × mm_M)} {x1 : Int32} {x2 : Int32} {M : mm_M} (hf : f_X12_year x1 x2 M = some z) {H : Heap} {locs : List Loc} (hw : wd_in rf_T D cy z0 ad u M X s H locs) {ls : Array Slot} (hl : lv_has ls 3 [(0, .ref (ad 0)), (1, .int x1), (2, .int x2)]) : W p l e { frames := 2, cells := 0, slots := 0, locals := 46 } s m args below meth c H locs 0 0 (MQ below (cq_i rf_T D cy z0 ad u X z.1 z.2) args s 0 0 (fun q => z0 ≤ q)) (F0 m 0 ls []) := by
  have hx := hC.1
  have hb := hC.2.1
  unfold f_X12_year at hf
  refine lv_aload_n hx hb dX12_year_0 rfl (lv_at hl 0 rfl) ?_
  refine lv_iconst (v := 0) hx hb dX12_year_1 (by decide) ?_
  obtain ⟨M1, eM1, hf⟩ := sq_e hf
  refine rp_i hC hw 0 (Nat.le_of_ble_eq_true rfl) rfl fd_X12_0 wf_X12_1 fp_X12_0 rfl rfl dX12_year_2 eM1 (fun H locs hw => ?_)
  refine lv_aload_n hx hb dX12_year_5 rfl (lv_at hl 0 rfl) ?_
  refine lv_iload_n hx hb dX12_year_6 rfl (lv_at hl 1 rfl) ?_
  obtain ⟨z2, ez2, hf⟩ := sq_e hf
  refine clc_Vi hC hw (c_X12_isLaw ez2.symm) hd_X12_isLaw cw_X12_217 (Nat.le_of_ble_eq_true rfl) rfl rfl (rest := []) hl.1 rfl (Nat.le_of_ble_eq_true rfl) ⟨Nat.le_of_ble_eq_true rfl, Nat.le_of_ble_eq_true rfl⟩ ⟨Nat.zero_le _, Nat.zero_le _⟩ rfl dX12_year_7 (fun H locs hw => ?_)
  refine lv_if_eq (tgt := 30) hx hb dX12_year_10 (by decide) (fun c3 => ?_) (fun c3 => ?_)
  · rw [if_pos c3] at hf
    refine lv_iconst (v := (-1)) hx hb dX12_year_30 (by decide) ?_
    have hz := Option.some.inj hf
    subst hz
    exact rtc_i hC hw dX12_year_31
  · rw [if_neg c3] at hf
    refine lv_aload_n hx hb dX12_year_13 rfl (lv_at hl 0 rfl) ?_
    refine lv_iload_n hx hb dX12_year_14 rfl (lv_at hl 2 rfl) ?_
    obtain ⟨z4, ez4, hf⟩ := bd_e hf
    refine clc_Vi hC hw (c_X12_isHistory ez4) hd_X12_isHistory cw_X12_194 (Nat.le_of_ble_eq_true rfl) rfl rfl (rest := []) hl.1 rfl (Nat.le_of_ble_eq_true rfl) ⟨Nat.le_of_ble_eq_true rfl, Nat.le_of_ble_eq_true rfl⟩ ⟨Nat.zero_le _, Nat.zero_le _⟩ rfl dX12_year_15 (fun H locs hw => ?_)
    refine lv_if_eq (tgt := 30) hx hb dX12_year_18 (by decide) (fun c5 => ?_) (fun c5 => ?_)
    · rw [if_pos c5] at hf
      refine lv_iconst (v := (-1)) hx hb dX12_year_30 (by decide) ?_
      have hz := Option.some.inj hf
      subst hz
      exact rtc_i hC hw dX12_year_31
    · rw [if_neg c5] at hf
      refine lv_aload_n hx hb dX12_year_21 rfl (lv_at hl 0 rfl) ?_
      refine lv_iload_n hx hb dX12_year_22 rfl (lv_at hl 1 rfl) ?_
      refine lv_iload_n hx hb dX12_year_23 rfl (lv_at hl 2 rfl) ?_
      obtain ⟨z6, ez6, hf⟩ := bd_e hf
      refine clc_Vi hC hw (c_X12_yearOf ez6) hd_X12_yearOf cw_X12_140 (Nat.le_of_ble_eq_true rfl) rfl rfl (rest := []) hl.1 rfl (Nat.le_of_ble_eq_true rfl) ⟨Nat.le_of_ble_eq_true rfl, Nat.le_of_ble_eq_true rfl⟩ ⟨Nat.zero_le _, Nat.zero_le _⟩ rfl dX12_year_24 (fun H locs hw => ?_)
      refine lv_goto (tgt := 31) hx hb dX12_year_27 (by decide) ?_
      have hz := Option.some.inj hf
      subst hz
      exact rtc_i hC hw dX12_year_31
set_option maxRecDepth 100000 in
theorem c_X12_year {l : Launch} {D : va_G} {cy : Nat → ClassId} {z0 : Nat} {ad : Nat → Nat} {u : Nat × Nat} {X : va_W} {z : (Int32 × mm_M)} {x1 : Int32} {x2 : Int32} {M : mm_M} (hf : f_X12_year x1 x2 M = some z) : ct_i rf_T l yX12_year (Cond.code yX12_year cX12_year 3 (some .int)) 2 46 D cy z0 ad u M X [.ref (ad 0), .int x1, .int x2] z.1 z.2 := by
  refine bgc_i (by decide) (fun p e s m below meth c hC hw => ?_)
  refine en_t (Nat.le_of_ble_eq_true rfl) (fun ls hl => ?_)
  have hl : lv_has ls 3 [(0, .ref (ad 0)), (1, .int x1), (2, .int x2)] := hl
  exact k_X12_year hC hf hw hl
set_option maxRecDepth 100000 in
set_option maxHeartbeats 4000000 in
theorem k_X12_row {p : Program} {l : Launch} {e : Env} {s : State} {m : MethodId} {args : Array Value} {below : List Frame} {meth : Method} {c : Code} {D : va_G} {cy : Nat → ClassId} {z0 : Nat} {ad : Nat → Nat} {X : va_W} {u : Nat × Nat} (hC : cx_C p s m args meth c cX12_row "RhymedThenModel" (Cond.code yX12_row cX12_row 2 (some .long)) 2 (some .long)) {z : (Int64 × mm_M)} {x1 : Int32} {M : mm_M} (hf : f_X12_row x1 M = some z) {H : Heap} {locs : List Loc} (hw : wd_in rf_T D cy z0 ad u M X s H locs) {ls : Array Slot} (hl : lv_has ls 2 [(0, .ref (ad 0)), (1, .int x1)]) : W p l e { frames := 1, cells := 0, slots := 0, locals := 25 } s m args below meth c H locs 0 0 (MQ below (cq_l rf_T D cy z0 ad u X z.1 z.2) args s 0 0 (fun q => z0 ≤ q)) (F0 m 0 ls []) := by
  have hx := hC.1
  have hb := hC.2.1
  unfold f_X12_row at hf
  refine lv_aload_n hx hb dX12_row_0 rfl (lv_at hl 0 rfl) ?_
  refine lv_iconst (v := 0) hx hb dX12_row_1 (by decide) ?_
  obtain ⟨M1, eM1, hf⟩ := sq_e hf
  refine rp_i hC hw 0 (Nat.le_of_ble_eq_true rfl) rfl fd_X12_0 wf_X12_1 fp_X12_0 rfl rfl dX12_row_2 eM1 (fun H locs hw => ?_)
  refine lv_iload_n hx hb dX12_row_5 rfl (lv_at hl 1 rfl) ?_
  refine lv_i2l hx hb dX12_row_6 rfl ?_
  refine lv_lconst (v := 0) hx hb dX12_row_7 (by decide) ?_
  refine lv_aload_n hx hb dX12_row_8 rfl (lv_at hl 0 rfl) ?_
  refine rg_i hC hw 0 (Nat.le_of_ble_eq_true rfl) rfl fd_X12_1 wf_X12_11 dX12_row_9 ?_
  refine lv_iconst (v := 1) hx hb dX12_row_12 (by decide) ?_
  refine lv_isub hx hb dX12_row_13 ?_
  refine lv_i2l hx hb dX12_row_14 rfl ?_
  obtain ⟨z2, ez2, hf⟩ := sq_e hf
  refine clc_Si hC hw (c_X12_in ez2.symm) hd_X12_in cw_X12_29 (rest := []) hl.1 rfl (Nat.le_of_ble_eq_true rfl) ⟨Nat.le_of_ble_eq_true rfl, Nat.le_of_ble_eq_true rfl⟩ ⟨Nat.zero_le _, Nat.zero_le _⟩ rfl dX12_row_15 (fun H locs hw => ?_)
  refine lv_if_ne (tgt := 28) hx hb dX12_row_18 (by decide) (fun c3 => ?_) (fun c3 => ?_)
  · rw [if_neg c3] at hf
    refine lv_aload_n hx hb dX12_row_28 rfl (lv_at hl 0 rfl) ?_
    refine rg_p hC hw 0 (Nat.le_of_ble_eq_true rfl) rfl fd_X12_2 wf_X12_7 (q := 1) rfl dX12_row_29 ?_
    refine lv_iload_n hx hb dX12_row_32 rfl (lv_at hl 1 rfl) ?_
    obtain ⟨h4, hf⟩ := ck_e hf
    refine ra_l hC hw 1 (Nat.le_of_ble_eq_true rfl) rfl h4 dX12_row_33 ?_
    have hz := Option.some.inj hf
    subst hz
    exact rtc_l hC hw dX12_row_34
  · rw [if_pos c3] at hf
    refine lv_aload_n hx hb dX12_row_21 rfl (lv_at hl 0 rfl) ?_
    refine lv_iconst (v := 1) hx hb dX12_row_22 (by decide) ?_
    obtain ⟨M5, eM5, hf⟩ := sq_e hf
    refine rp_i hC hw 0 (Nat.le_of_ble_eq_true rfl) rfl fd_X12_0 wf_X12_1 fp_X12_0 rfl rfl dX12_row_23 eM5 (fun H locs hw => ?_)
    refine lv_lconst (v := 0) hx hb dX12_row_26 (by decide) ?_
    have hz := Option.some.inj hf
    subst hz
    exact rtc_l hC hw dX12_row_27
set_option maxRecDepth 100000 in
theorem c_X12_row {l : Launch} {D : va_G} {cy : Nat → ClassId} {z0 : Nat} {ad : Nat → Nat} {u : Nat × Nat} {X : va_W} {z : (Int64 × mm_M)} {x1 : Int32} {M : mm_M} (hf : f_X12_row x1 M = some z) : ct_l rf_T l yX12_row (Cond.code yX12_row cX12_row 2 (some .long)) 1 25 D cy z0 ad u M X [.ref (ad 0), .int x1] z.1 z.2 := by
  refine bgc_l (by decide) (fun p e s m below meth c hC hw => ?_)
  refine en_t (Nat.le_of_ble_eq_true rfl) (fun ls hl => ?_)
  have hl : lv_has ls 2 [(0, .ref (ad 0)), (1, .int x1)] := hl
  exact k_X12_row hC hf hw hl
