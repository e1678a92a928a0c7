set_option maxRecDepth 100000 in
set_option maxHeartbeats 4000000 in
theorem k_X12_rhymes_80 {p : Program} {l : Launch} {e : Env} {s : State} {m : MethodId} {args : Array Value} {below : List Frame} {meth : Method} {c : Code} {D : va_G} {cy : Nat → ClassId} {z0 : Nat} {ad : Nat → Nat} {X : va_W} {u : Nat × Nat} (hC : cx_C p s m args meth c cX12_rhymes "RhymedThenModel" (Cond.code yX12_rhymes cX12_rhymes 6 (some .int)) 6 (some .int)) {z : (Int32 × mm_M)} {x1 : Int32} {x2 : Int32} {x3 : Int32} {x4 : Int32} {x5 : Int32} {M : mm_M} {q40 : Int32 → Int32 → Int32 → Int32 → Int32 → mm_M → Option (Int32 × mm_M)} (hq40 : ∀ (x1 : Int32) (x2 : Int32) (x3 : Int32) (x4 : Int32) (x5 : Int32) (M : mm_M) (H : Heap) (locs : List Loc) (ls : Array Slot), q40 x1 x2 x3 x4 x5 M = some z → wd_in rf_T D cy z0 ad u M X s H locs → lv_has ls 6 [(0, .ref (ad 0)), (1, .int x1), (2, .int x2), (3, .int x3), (4, .int x4), (5, .int x5)] → W p l e { frames := 6, cells := 0, slots := 0, locals := 146 } s m args below meth c H locs 0 0 (MQ below (cq_i rf_T D cy z0 ad u X z.1 z.2) args s 0 0 (fun q => z0 ≤ q)) (F0 m 40 ls [])) (hf : f_X12_rhymes_80 q40 x1 x2 x3 x4 x5 M = some z) {H : Heap} {locs : List Loc} (hw : wd_in rf_T D cy z0 ad u M X s H locs) {ls : Array Slot} (hl : lv_has ls 6 [(0, .ref (ad 0)), (1, .int x1), (2, .int x2), (3, .int x3), (4, .int x4), (5, .int x5)]) : W p l e { frames := 6, cells := 0, slots := 0, locals := 146 } s m args below meth c H locs 0 0 (MQ below (cq_i rf_T D cy z0 ad u X z.1 z.2) args s 0 0 (fun q => z0 ≤ q)) (F0 m 80 ls []) := by
  have hx := hC.1
  have hb := hC.2.1
  unfold f_X12_rhymes_80 at hf
  obtain ⟨y15, ey15, hf⟩ := sq_e hf
  refine lv_iinc (v := y15) (lv' := [(5, .int y15), (0, .ref (ad 0)), (1, .int x1), (2, .int x2), (3, .int x3), (4, .int x4)]) hx hb dX12_rhymes_80 hl (k := 5) rfl (by rw [ey15]; rfl) (by decide) rfl (fun ls hl => ?_)
  refine lv_goto (tgt := 40) hx hb dX12_rhymes_83 (by decide) ?_
  exact hq40 _ _ _ _ _ _ _ _ _ hf hw (lv_sub hl [1, 2, 3, 4, 5, 0] rfl)
set_option maxRecDepth 100000 in
set_option maxHeartbeats 4000000 in
theorem k_X12_rhymes_86 {p : Program} {l : Launch} {e : Env} {s : State} {m : MethodId} {args : Array Value} {below : List Frame} {meth : Method} {c : Code} {D : va_G} {cy : Nat → ClassId} {z0 : Nat} {ad : Nat → Nat} {X : va_W} {u : Nat × Nat} (hC : cx_C p s m args meth c cX12_rhymes "RhymedThenModel" (Cond.code yX12_rhymes cX12_rhymes 6 (some .int)) 6 (some .int)) {z : (Int32 × mm_M)} {M : mm_M} (hf : f_X12_rhymes_86 M = some z) {H : Heap} {locs : List Loc} (hw : wd_in rf_T D cy z0 ad u M X s H locs) {ls : Array Slot} (hl : lv_has ls 6 [(0, .ref (ad 0))]) : W p l e { frames := 6, cells := 0, slots := 0, locals := 146 } s m args below meth c H locs 0 0 (MQ below (cq_i rf_T D cy z0 ad u X z.1 z.2) args s 0 0 (fun q => z0 ≤ q)) (F0 m 86 ls []) := by
  have hx := hC.1
  have hb := hC.2.1
  unfold f_X12_rhymes_86 at hf
  refine lv_aload_n hx hb dX12_rhymes_86 rfl (lv_at hl 0 rfl) ?_
  refine rg_i hC hw 0 (Nat.le_of_ble_eq_true rfl) rfl fd_X12_1 wf_X12_11 dX12_rhymes_87 ?_
  have hz := Option.some.inj hf
  subst hz
  exact rtc_i hC hw dX12_rhymes_90
set_option maxRecDepth 100000 in
set_option maxHeartbeats 4000000 in
theorem k_X12_rhymes_40 {p : Program} {l : Launch} {e : Env} {s : State} {m : MethodId} {args : Array Value} {below : List Frame} {meth : Method} {c : Code} {D : va_G} {cy : Nat → ClassId} {z0 : Nat} {ad : Nat → Nat} {X : va_W} {u : Nat × Nat} (hC : cx_C p s m args meth c cX12_rhymes "RhymedThenModel" (Cond.code yX12_rhymes cX12_rhymes 6 (some .int)) 6 (some .int)) {z : (Int32 × mm_M)} {x1 : Int32} {x2 : Int32} {x3 : Int32} {x4 : Int32} {x5 : Int32} {M : mm_M} {q40 : Int32 → Int32 → Int32 → Int32 → Int32 → mm_M → Option (Int32 × mm_M)} (hq40 : ∀ (x1 : Int32) (x2 : Int32) (x3 : Int32) (x4 : Int32) (x5 : Int32) (M : mm_M) (H : Heap) (locs : List Loc) (ls : Array Slot), q40 x1 x2 x3 x4 x5 M = some z → wd_in rf_T D cy z0 ad u M X s H locs → lv_has ls 6 [(0, .ref (ad 0)), (1, .int x1), (2, .int x2), (3, .int x3), (4, .int x4), (5, .int x5)] → W p l e { frames := 6, cells := 0, slots := 0, locals := 146 } s m args below meth c H locs 0 0 (MQ below (cq_i rf_T D cy z0 ad u X z.1 z.2) args s 0 0 (fun q => z0 ≤ q)) (F0 m 40 ls [])) (hf : f_X12_rhymes_40 q40 x1 x2 x3 x4 x5 M = some z) {H : Heap} {locs : List Loc} (hw : wd_in rf_T D cy z0 ad u M X s H locs) {ls : Array Slot} (hl : lv_has ls 6 [(0, .ref (ad 0)), (1, .int x1), (2, .int x2), (3, .int x3), (4, .int x4), (5, .int x5)]) : W p l e { frames := 6, cells := 0, slots := 0, locals := 146 } s m args below meth c H locs 0 0 (MQ below (cq_i rf_T D cy z0 ad u X z.1 z.2) args s 0 0 (fun q => z0 ≤ q)) (F0 m 40 ls []) := by
  have hx := hC.1
  have hb := hC.2.1
  unfold f_X12_rhymes_40 at hf
  refine lv_iload hx hb dX12_rhymes_40 (lv_at hl 5 rfl) ?_
  refine lv_aload_n hx hb dX12_rhymes_42 rfl (lv_at hl 0 rfl) ?_
  refine rg_i hC hw 0 (Nat.le_of_ble_eq_true rfl) rfl fd_X12_8 wf_X12_75 dX12_rhymes_43 ?_
  refine lv_icmp_ge (tgt := 86) hx hb dX12_rhymes_46 (by decide) (fun c9 => ?_) (fun c9 => ?_)
  · rw [if_pos c9] at hf
    exact k_X12_rhymes_86 hC hf hw (lv_sub hl [0] rfl)
  · rw [if_neg c9] at hf
    refine lv_aload_n hx hb dX12_rhymes_49 rfl (lv_at hl 0 rfl) ?_
    refine lv_iload_n hx hb dX12_rhymes_50 rfl (lv_at hl 1 rfl) ?_
    refine lv_iload hx hb dX12_rhymes_51 (lv_at hl 5 rfl) ?_
    refine lv_iload_n hx hb dX12_rhymes_53 rfl (lv_at hl 2 rfl) ?_
    refine lv_iload_n hx hb dX12_rhymes_54 rfl (lv_at hl 3 rfl) ?_
    refine lv_iload hx hb dX12_rhymes_55 (lv_at hl 4 rfl) ?_
    obtain ⟨z10, ez10, hf⟩ := bd_e hf
    refine clc_Vv hC hw (c_X12_saysBoth ez10) hd_X12_saysBoth cw_X12_207 (Nat.le_of_ble_eq_true rfl) rfl rfl (rest := []) hl.1 rfl (Nat.le_of_ble_eq_true rfl) ⟨Nat.le_of_ble_eq_true rfl, Nat.le_of_ble_eq_true rfl⟩ ⟨Nat.zero_le _, Nat.zero_le _⟩ rfl dX12_rhymes_57 (fun H locs hw => ?_)
    refine lv_iload hx hb dX12_rhymes_60 (lv_at hl 5 rfl) ?_
    refine lv_iload_n hx hb dX12_rhymes_62 rfl (lv_at hl 1 rfl) ?_
    refine lv_icmp_eq (tgt := 80) hx hb dX12_rhymes_63 (by decide) (fun c11 => ?_) (fun c11 => ?_)
    · rw [if_pos c11] at hf
      exact k_X12_rhymes_80 hC hq40 hf hw (lv_sub hl [0, 1, 2, 3, 4, 5] rfl)
    · rw [if_neg c11] at hf
      refine lv_aload_n hx hb dX12_rhymes_66 rfl (lv_at hl 0 rfl) ?_
      obtain ⟨z12, ez12, hf⟩ := bd_e hf
      refine clc_Vi hC hw (c_X12_areRhymes ez12) hd_X12_areRhymes cw_X12_210 (Nat.le_of_ble_eq_true rfl) rfl rfl (rest := []) hl.1 rfl (Nat.le_of_ble_eq_true rfl) ⟨Nat.le_of_ble_eq_true rfl, Nat.le_of_ble_eq_true rfl⟩ ⟨Nat.zero_le _, Nat.zero_le _⟩ rfl dX12_rhymes_67 (fun H locs hw => ?_)
      refine lv_if_eq (tgt := 80) hx hb dX12_rhymes_70 (by decide) (fun c13 => ?_) (fun c13 => ?_)
      · rw [if_pos c13] at hf
        exact k_X12_rhymes_80 hC hq40 hf hw (lv_sub hl [0, 1, 2, 3, 4, 5] rfl)
      · rw [if_neg c13] at hf
        refine lv_aload_n hx hb dX12_rhymes_73 rfl (lv_at hl 0 rfl) ?_
        refine lv_iload hx hb dX12_rhymes_74 (lv_at hl 5 rfl) ?_
        refine lv_i2l hx hb dX12_rhymes_76 rfl ?_
        obtain ⟨z14, ez14, hf⟩ := bd_e hf
        refine clc_Vv hC hw (c_X12_enters ez14) hd_X12_enters cw_X12_18 (Nat.le_of_ble_eq_true rfl) rfl rfl (rest := []) hl.1 rfl (Nat.le_of_ble_eq_true rfl) ⟨Nat.le_of_ble_eq_true rfl, Nat.le_of_ble_eq_true rfl⟩ ⟨Nat.zero_le _, Nat.zero_le _⟩ rfl dX12_rhymes_77 (fun H locs hw => ?_)
        exact k_X12_rhymes_80 hC hq40 hf hw (lv_sub hl [0, 1, 2, 3, 4, 5] rfl)
set_option maxRecDepth 100000 in
set_option maxHeartbeats 4000000 in
theorem k_X12_rhymes_40l {p : Program} {l : Launch} {e : Env} {s : State} {m : MethodId} {args : Array Value} {below : List Frame} {meth : Method} {c : Code} {D : va_G} {cy : Nat → ClassId} {z0 : Nat} {ad : Nat → Nat} {X : va_W} {u : Nat × Nat} (hC : cx_C p s m args meth c cX12_rhymes "RhymedThenModel" (Cond.code yX12_rhymes cX12_rhymes 6 (some .int)) 6 (some .int)) {z : (Int32 × mm_M)} : ∀ (n : Nat) (x1 : Int32) (x2 : Int32) (x3 : Int32) (x4 : Int32) (x5 : Int32) (M : mm_M) (H : Heap) (locs : List Loc) (ls : Array Slot), f_X12_rhymes_40l n x1 x2 x3 x4 x5 M = some z → wd_in rf_T D cy z0 ad u M X s H locs → lv_has ls 6 [(0, .ref (ad 0)), (1, .int x1), (2, .int x2), (3, .int x3), (4, .int x4), (5, .int x5)] → W p l e { frames := 6, cells := 0, slots := 0, locals := 146 } s m args below meth c H locs 0 0 (MQ below (cq_i rf_T D cy z0 ad u X z.1 z.2) args s 0 0 (fun q => z0 ≤ q)) (F0 m 40 ls []) := by
  intro n
  induction n with
  | zero => intro x1 x2 x3 x4 x5 M H locs ls hf; exact absurd hf (by simp [f_X12_rhymes_40l])
  | succ n ih => intro x1 x2 x3 x4 x5 M H locs ls hf hw hl; exact k_X12_rhymes_40 hC ih hf hw hl
set_option maxRecDepth 100000 in
set_option maxHeartbeats 4000000 in
theorem k_X12_rhymes {p : Program} {l : Launch} {e : Env} {s : State} {m : MethodId} {args : Array Value} {below : List Frame} {meth : Method} {c : Code} {D : va_G} {cy : Nat → ClassId} {z0 : Nat} {ad : Nat → Nat} {X : va_W} {u : Nat × Nat} (hC : cx_C p s m args meth c cX12_rhymes "RhymedThenModel" (Cond.code yX12_rhymes cX12_rhymes 6 (some .int)) 6 (some .int)) {z : (Int32 × mm_M)} {x1 : Int32} {x2 : Int32} {x3 : Int32} {x4 : Int32} {M : mm_M} (hf : f_X12_rhymes x1 x2 x3 x4 M = some z) {H : Heap} {locs : List Loc} (hw : wd_in rf_T D cy z0 ad u M X s H locs) {ls : Array Slot} (hl : lv_has ls 6 [(0, .ref (ad 0)), (1, .int x1), (2, .int x2), (3, .int x3), (4, .int x4)]) : W p l e { frames := 6, cells := 0, slots := 0, locals := 146 } s m args below meth c H locs 0 0 (MQ below (cq_i rf_T D cy z0 ad u X z.1 z.2) args s 0 0 (fun q => z0 ≤ q)) (F0 m 0 ls []) := by
  have hx := hC.1
  have hb := hC.2.1
  unfold f_X12_rhymes at hf
  refine lv_aload_n hx hb dX12_rhymes_0 rfl (lv_at hl 0 rfl) ?_
  refine lv_iconst (v := 0) hx hb dX12_rhymes_1 (by decide) ?_
  obtain ⟨M1, eM1, hf⟩ := sq_e hf
  refine rp_i hC hw 0 (Nat.le_of_ble_eq_true rfl) rfl fd_X12_0 wf_X12_1 fp_X12_0 rfl rfl dX12_rhymes_2 eM1 (fun H locs hw => ?_)
  refine lv_aload_n hx hb dX12_rhymes_5 rfl (lv_at hl 0 rfl) ?_
  refine lv_iload_n hx hb dX12_rhymes_6 rfl (lv_at hl 1 rfl) ?_
  obtain ⟨z2, ez2, hf⟩ := sq_e hf
  refine clc_Vi hC hw (c_X12_isWord ez2.symm) hd_X12_isWord cw_X12_191 (Nat.le_of_ble_eq_true rfl) rfl rfl (rest := []) hl.1 rfl (Nat.le_of_ble_eq_true rfl) ⟨Nat.le_of_ble_eq_true rfl, Nat.le_of_ble_eq_true rfl⟩ ⟨Nat.zero_le _, Nat.zero_le _⟩ rfl dX12_rhymes_7 (fun H locs hw => ?_)
  refine lv_if_eq (tgt := 30) hx hb dX12_rhymes_10 (by decide) (fun c3 => ?_) (fun c3 => ?_)
  · rw [if_pos c3] at hf
    refine lv_iconst (v := (-1)) hx hb dX12_rhymes_30 (by decide) ?_
    have hz := Option.some.inj hf
    subst hz
    exact rtc_i hC hw dX12_rhymes_31
  · rw [if_neg c3] at hf
    refine lv_aload_n hx hb dX12_rhymes_13 rfl (lv_at hl 0 rfl) ?_
    refine lv_iload_n hx hb dX12_rhymes_14 rfl (lv_at hl 2 rfl) ?_
    obtain ⟨z4, ez4, hf⟩ := bd_e hf
    refine clc_Vi hC hw (c_X12_isHistory ez4) hd_X12_isHistory cw_X12_194 (Nat.le_of_ble_eq_true rfl) rfl rfl (rest := []) hl.1 rfl (Nat.le_of_ble_eq_true rfl) ⟨Nat.le_of_ble_eq_true rfl, Nat.le_of_ble_eq_true rfl⟩ ⟨Nat.zero_le _, Nat.zero_le _⟩ rfl dX12_rhymes_15 (fun H locs hw => ?_)
    refine lv_if_eq (tgt := 30) hx hb dX12_rhymes_18 (by decide) (fun c5 => ?_) (fun c5 => ?_)
    · rw [if_pos c5] at hf
      refine lv_iconst (v := (-1)) hx hb dX12_rhymes_30 (by decide) ?_
      have hz := Option.some.inj hf
      subst hz
      exact rtc_i hC hw dX12_rhymes_31
    · rw [if_neg c5] at hf
      refine lv_iload_n hx hb dX12_rhymes_21 rfl (lv_at hl 3 rfl) ?_
      refine lv_iload hx hb dX12_rhymes_22 (lv_at hl 4 rfl) ?_
      obtain ⟨z6, ez6, hf⟩ := sq_e hf
      refine clc_Si hC hw (c_X12_isThen ez6.symm) hd_X12_isThen cw_X12_197 (rest := []) hl.1 rfl (Nat.le_of_ble_eq_true rfl) ⟨Nat.le_of_ble_eq_true rfl, Nat.le_of_ble_eq_true rfl⟩ ⟨Nat.zero_le _, Nat.zero_le _⟩ rfl dX12_rhymes_24 (fun H locs hw => ?_)
      refine lv_if_ne (tgt := 32) hx hb dX12_rhymes_27 (by decide) (fun c7 => ?_) (fun c7 => ?_)
      · rw [if_neg c7] at hf
        refine lv_aload_n hx hb dX12_rhymes_32 rfl (lv_at hl 0 rfl) ?_
        refine lv_iconst (v := 0) hx hb dX12_rhymes_33 (by decide) ?_
        obtain ⟨M8, eM8, hf⟩ := sq_e hf
        refine rp_i hC hw 0 (Nat.le_of_ble_eq_true rfl) rfl fd_X12_1 wf_X12_11 fp_X12_1 rfl rfl dX12_rhymes_34 eM8 (fun H locs hw => ?_)
        refine lv_iconst (v := 0) hx hb dX12_rhymes_37 (by decide) ?_
        refine lv_istore (lv' := [(5, .int 0), (0, .ref (ad 0)), (1, .int x1), (2, .int x2), (3, .int x3), (4, .int x4)]) hx hb dX12_rhymes_38 hl (by decide) rfl (fun ls hl => ?_)
        exact k_X12_rhymes_40l hC fu_ _ _ _ _ _ _ _ _ _ hf hw (lv_sub hl [1, 2, 3, 4, 5, 0] rfl)
      · rw [if_pos c7] at hf
        refine lv_iconst (v := (-1)) hx hb dX12_rhymes_30 (by decide) ?_
        have hz := Option.some.inj hf
        subst hz
        exact rtc_i hC hw dX12_rhymes_31
set_option maxRecDepth 100000 in
theorem c_X12_rhymes {l : Launch} {D : va_G} {cy : Nat → ClassId} {z0 : Nat} {ad : Nat → Nat} {u : Nat × Nat} {X : va_W} {z : (Int32 × mm_M)} {x1 : Int32} {x2 : Int32} {x3 : Int32} {x4 : Int32} {M : mm_M} (hf : f_X12_rhymes x1 x2 x3 x4 M = some z) : ct_i rf_T l yX12_rhymes (Cond.code yX12_rhymes cX12_rhymes 6 (some .int)) 6 146 D cy z0 ad u M X [.ref (ad 0), .int x1, .int x2, .int x3, .int x4] z.1 z.2 := by
  refine bgc_i (by decide) (fun p e s m below meth c hC hw => ?_)
  refine en_t (Nat.le_of_ble_eq_true rfl) (fun ls hl => ?_)
  have hl : lv_has ls 6 [(0, .ref (ad 0)), (1, .int x1), (2, .int x2), (3, .int x3), (4, .int x4)] := hl
  exact k_X12_rhymes hC hf hw hl
set_option maxRecDepth 100000 in
set_option maxHeartbeats 4000000 in
theorem k_X12_chance_88 {p : Program} {l : Launch} {e : Env} {s : State} {m : MethodId} {args : Array Value} {below : List Frame} {meth : Method} {c : Code} {D : va_G} {cy : Nat → ClassId} {z0 : Nat} {ad : Nat → Nat} {X : va_W} {u : Nat × Nat} (hC : cx_C p s m args meth c cX12_chance "RhymedThenModel" (Cond.code yX12_chance cX12_chance 7 (some .int)) 7 (some .int)) {z : (Int32 × mm_M)} {x1 : Int32} {x2 : Int32} {x3 : Int32} {x4 : Int32} {x5 : Int32} {M : mm_M} {q40 : Int32 → Int32 → Int32 → Int32 → Int32 → mm_M → Option (Int32 × mm_M)} (hq40 : ∀ (x1 : Int32) (x2 : Int32) (x3 : Int32) (x4 : Int32) (x5 : Int32) (M : mm_M) (H : Heap) (locs : List Loc) (ls : Array Slot), q40 x1 x2 x3 x4 x5 M = some z → wd_in rf_T D cy z0 ad u M X s H locs → lv_has ls 7 [(0, .ref (ad 0)), (1, .int x1), (2, .int x2), (3, .int x3), (4, .int x4), (5, .int x5)] → W p l e { frames := 6, cells := 0, slots := 0, locals := 146 } s m args below meth c H locs 0 0 (MQ below (cq_i rf_T D cy z0 ad u X z.1 z.2) args s 0 0 (fun q => z0 ≤ q)) (F0 m 40 ls [])) (hf : f_X12_chance_88 q40 x1 x2 x3 x4 x5 M = some z) {H : Heap} {locs : List Loc} (hw : wd_in rf_T D cy z0 ad u M X s H locs) {ls : Array Slot} (hl : lv_has ls 7 [(0, .ref (ad 0)), (1, .int x1), (2, .int x2), (3, .int x3), (4, .int x4), (5, .int x5)]) : W p l e { frames := 6, cells := 0, slots := 0, locals := 146 } s m args below meth c H locs 0 0 (MQ below (cq_i rf_T D cy z0 ad u X z.1 z.2) args s 0 0 (fun q => z0 ≤ q)) (F0 m 88 ls []) := by
  have hx := hC.1
  have hb := hC.2.1
  unfold f_X12_chance_88 at hf
  obtain ⟨y16, ey16, hf⟩ := sq_e hf
  refine lv_iinc (v := y16) (lv' := [(5, .int y16), (0, .ref (ad 0)), (1, .int x1), (2, .int x2), (3, .int x3), (4, .int x4)]) hx hb dX12_chance_88 hl (k := 5) rfl (by rw [ey16]; rfl) (by decide) rfl (fun ls hl => ?_)
  refine lv_goto (tgt := 40) hx hb dX12_chance_91 (by decide) ?_
  exact hq40 _ _ _ _ _ _ _ _ _ hf hw (lv_sub hl [1, 2, 3, 4, 5, 0] rfl)
set_option maxRecDepth 100000 in
set_option maxHeartbeats 4000000 in
theorem k_X12_chance_52 {p : Program} {l : Launch} {e : Env} {s : State} {m : MethodId} {args : Array Value} {below : List Frame} {meth : Method} {c : Code} {D : va_G} {cy : Nat → ClassId} {z0 : Nat} {ad : Nat → Nat} {X : va_W} {u : Nat × Nat} (hC : cx_C p s m args meth c cX12_chance "RhymedThenModel" (Cond.code yX12_chance cX12_chance 7 (some .int)) 7 (some .int)) {z : (Int32 × mm_M)} {x1 : Int32} {x2 : Int32} {x3 : Int32} {x4 : Int32} {x5 : Int32} {x6 : Int32} {M : mm_M} {q40 : Int32 → Int32 → Int32 → Int32 → Int32 → mm_M → Option (Int32 × mm_M)} (hq40 : ∀ (x1 : Int32) (x2 : Int32) (x3 : Int32) (x4 : Int32) (x5 : Int32) (M : mm_M) (H : Heap) (locs : List Loc) (ls : Array Slot), q40 x1 x2 x3 x4 x5 M = some z → wd_in rf_T D cy z0 ad u M X s H locs → lv_has ls 7 [(0, .ref (ad 0)), (1, .int x1), (2, .int x2), (3, .int x3), (4, .int x4), (5, .int x5)] → W p l e { frames := 6, cells := 0, slots := 0, locals := 146 } s m args below meth c H locs 0 0 (MQ below (cq_i rf_T D cy z0 ad u X z.1 z.2) args s 0 0 (fun q => z0 ≤ q)) (F0 m 40 ls [])) {q52 : Int32 → Int32 → Int32 → Int32 → Int32 → Int32 → mm_M → Option (Int32 × mm_M)} (hq52 : ∀ (x1 : Int32) (x2 : Int32) (x3 : Int32) (x4 : Int32) (x5 : Int32) (x6 : Int32) (M : mm_M) (H : Heap) (locs : List Loc) (ls : Array Slot), q52 x1 x2 x3 x4 x5 x6 M = some z → wd_in rf_T D cy z0 ad u M X s H locs → lv_has ls 7 [(0, .ref (ad 0)), (1, .int x1), (2, .int x2), (3, .int x3), (4, .int x4), (5, .int x5), (6, .int x6)] → W p l e { frames := 6, cells := 0, slots := 0, locals := 146 } s m args below meth c H locs 0 0 (MQ below (cq_i rf_T D cy z0 ad u X z.1 z.2) args s 0 0 (fun q => z0 ≤ q)) (F0 m 52 ls [])) (hf : f_X12_chance_52 q40 q52 x1 x2 x3 x4 x5 x6 M = some z) {H : Heap} {locs : List Loc} (hw : wd_in rf_T D cy z0 ad u M X s H locs) {ls : Array Slot} (hl : lv_has ls 7 [(0, .ref (ad 0)), (1, .int x1), (2, .int x2), (3, .int x3), (4, .int x4), (5, .int x5), (6, .int x6)]) : W p l e { frames := 6, cells := 0, slots := 0, locals := 146 } s m args below meth c H locs 0 0 (MQ below (cq_i rf_T D cy z0 ad u X z.1 z.2) args s 0 0 (fun q => z0 ≤ q)) (F0 m 52 ls []) := by
  have hx := hC.1
  have hb := hC.2.1
  unfold f_X12_chance_52 at hf
  refine lv_iload hx hb dX12_chance_52 (lv_at hl 6 rfl) ?_
  refine lv_iload hx hb dX12_chance_54 (lv_at hl 5 rfl) ?_
  refine lv_icmp_ge (tgt := 88) hx hb dX12_chance_56 (by decide) (fun c10 => ?_) (fun c10 => ?_)
  · rw [if_pos c10] at hf
    exact k_X12_chance_88 hC hq40 hf hw (lv_sub hl [0, 1, 2, 3, 4, 5] rfl)
  · rw [if_neg c10] at hf
    refine lv_aload_n hx hb dX12_chance_59 rfl (lv_at hl 0 rfl) ?_
    refine lv_iload hx hb dX12_chance_60 (lv_at hl 5 rfl) ?_
    refine lv_iload hx hb dX12_chance_62 (lv_at hl 6 rfl) ?_
    refine lv_iload_n hx hb dX12_chance_64 rfl (lv_at hl 1 rfl) ?_
    refine lv_iload_n hx hb dX12_chance_65 rfl (lv_at hl 2 rfl) ?_
    refine lv_iload_n hx hb dX12_chance_66 rfl (lv_at hl 3 rfl) ?_
    obtain ⟨z11, ez11, hf⟩ := bd_e hf
    refine clc_Vv hC hw (c_X12_saysBoth ez11) hd_X12_saysBoth cw_X12_207 (Nat.le_of_ble_eq_true rfl) rfl rfl (rest := []) hl.1 rfl (Nat.le_of_ble_eq_true rfl) ⟨Nat.le_of_ble_eq_true rfl, Nat.le_of_ble_eq_true rfl⟩ ⟨Nat.zero_le _, Nat.zero_le _⟩ rfl dX12_chance_67 (fun H locs hw => ?_)
    refine lv_iload hx hb dX12_chance_70 (lv_at hl 4 rfl) ?_
    refine lv_aload_n hx hb dX12_chance_72 rfl (lv_at hl 0 rfl) ?_
    obtain ⟨z12, ez12, hf⟩ := bd_e hf
    refine clc_Vi hC hw (c_X12_areRhymes ez12) hd_X12_areRhymes cw_X12_210 (Nat.le_of_ble_eq_true rfl) rfl rfl (rest := [.int x4]) hl.1 rfl (Nat.le_of_ble_eq_true rfl) ⟨Nat.le_of_ble_eq_true rfl, Nat.le_of_ble_eq_true rfl⟩ ⟨Nat.zero_le _, Nat.zero_le _⟩ rfl dX12_chance_73 (fun H locs hw => ?_)
    obtain ⟨z13, ez13, hf⟩ := sq_e hf
    refine clc_Si hC hw (c_X12_truth ez13.symm) hd_X12_truth cw_X12_39 (rest := [.int x4]) hl.1 rfl (Nat.le_of_ble_eq_true rfl) ⟨Nat.le_of_ble_eq_true rfl, Nat.le_of_ble_eq_true rfl⟩ ⟨Nat.zero_le _, Nat.zero_le _⟩ rfl dX12_chance_76 (fun H locs hw => ?_)
    refine lv_iadd hx hb dX12_chance_79 ?_
    obtain ⟨y14, ey14, hf⟩ := sq_e hf
    refine lt_i ey14 ?_
    refine lv_istore (lv' := [(4, .int y14), (0, .ref (ad 0)), (1, .int x1), (2, .int x2), (3, .int x3), (5, .int x5), (6, .int x6)]) hx hb dX12_chance_80 hl (by decide) rfl (fun ls hl => ?_)
    obtain ⟨y15, ey15, hf⟩ := sq_e hf
    refine lv_iinc (v := y15) (lv' := [(6, .int y15), (4, .int y14), (0, .ref (ad 0)), (1, .int x1), (2, .int x2), (3, .int x3), (5, .int x5)]) hx hb dX12_chance_82 hl (k := 6) rfl (by rw [ey15]; rfl) (by decide) rfl (fun ls hl => ?_)
    refine lv_goto (tgt := 52) hx hb dX12_chance_85 (by decide) ?_
    exact hq52 _ _ _ _ _ _ _ _ _ _ hf hw (lv_sub hl [2, 3, 4, 5, 1, 6, 0] rfl)
set_option maxRecDepth 100000 in
set_option maxHeartbeats 4000000 in
theorem k_X12_chance_52l {p : Program} {l : Launch} {e : Env} {s : State} {m : MethodId} {args : Array Value} {below : List Frame} {meth : Method} {c : Code} {D : va_G} {cy : Nat → ClassId} {z0 : Nat} {ad : Nat → Nat} {X : va_W} {u : Nat × Nat} (hC : cx_C p s m args meth c cX12_chance "RhymedThenModel" (Cond.code yX12_chance cX12_chance 7 (some .int)) 7 (some .int)) {z : (Int32 × mm_M)} {q40 : Int32 → Int32 → Int32 → Int32 → Int32 → mm_M → Option (Int32 × mm_M)} (hq40 : ∀ (x1 : Int32) (x2 : Int32) (x3 : Int32) (x4 : Int32) (x5 : Int32) (M : mm_M) (H : Heap) (locs : List Loc) (ls : Array Slot), q40 x1 x2 x3 x4 x5 M = some z → wd_in rf_T D cy z0 ad u M X s H locs → lv_has ls 7 [(0, .ref (ad 0)), (1, .int x1), (2, .int x2), (3, .int x3), (4, .int x4), (5, .int x5)] → W p l e { frames := 6, cells := 0, slots := 0, locals := 146 } s m args below meth c H locs 0 0 (MQ below (cq_i rf_T D cy z0 ad u X z.1 z.2) args s 0 0 (fun q => z0 ≤ q)) (F0 m 40 ls [])) : ∀ (n : Nat) (x1 : Int32) (x2 : Int32) (x3 : Int32) (x4 : Int32) (x5 : Int32) (x6 : Int32) (M : mm_M) (H : Heap) (locs : List Loc) (ls : Array Slot), f_X12_chance_52l q40 n x1 x2 x3 x4 x5 x6 M = some z → wd_in rf_T D cy z0 ad u M X s H locs → lv_has ls 7 [(0, .ref (ad 0)), (1, .int x1), (2, .int x2), (3, .int x3), (4, .int x4), (5, .int x5), (6, .int x6)] → W p l e { frames := 6, cells := 0, slots := 0, locals := 146 } s m args below meth c H locs 0 0 (MQ below (cq_i rf_T D cy z0 ad u X z.1 z.2) args s 0 0 (fun q => z0 ≤ q)) (F0 m 52 ls []) := by
  intro n
  induction n with
  | zero => intro x1 x2 x3 x4 x5 x6 M H locs ls hf; exact absurd hf (by simp [f_X12_chance_52l])
  | succ n ih => intro x1 x2 x3 x4 x5 x6 M H locs ls hf hw hl; exact k_X12_chance_52 hC hq40 ih hf hw hl
set_option maxRecDepth 100000 in
set_option maxHeartbeats 4000000 in
theorem k_X12_chance_94 {p : Program} {l : Launch} {e : Env} {s : State} {m : MethodId} {args : Array Value} {below : List Frame} {meth : Method} {c : Code} {D : va_G} {cy : Nat → ClassId} {z0 : Nat} {ad : Nat → Nat} {X : va_W} {u : Nat × Nat} (hC : cx_C p s m args meth c cX12_chance "RhymedThenModel" (Cond.code yX12_chance cX12_chance 7 (some .int)) 7 (some .int)) {z : (Int32 × mm_M)} {x4 : Int32} {M : mm_M} (hf : f_X12_chance_94 x4 M = some z) {H : Heap} {locs : List Loc} (hw : wd_in rf_T D cy z0 ad u M X s H locs) {ls : Array Slot} (hl : lv_has ls 7 [(0, .ref (ad 0)), (4, .int x4)]) : W p l e { frames := 6, cells := 0, slots := 0, locals := 146 } s m args below meth c H locs 0 0 (MQ below (cq_i rf_T D cy z0 ad u X z.1 z.2) args s 0 0 (fun q => z0 ≤ q)) (F0 m 94 ls []) := by
  have hx := hC.1
  have hb := hC.2.1
  unfold f_X12_chance_94 at hf
  refine lv_aload_n hx hb dX12_chance_94 rfl (lv_at hl 0 rfl) ?_
  refine lv_iconst (v := 0) hx hb dX12_chance_95 (by decide) ?_
  obtain ⟨M8, eM8, hf⟩ := sq_e hf
  refine rp_i hC hw 0 (Nat.le_of_ble_eq_true rfl) rfl fd_X12_1 wf_X12_11 fp_X12_1 rfl rfl dX12_chance_96 eM8 (fun H locs hw => ?_)
  refine lv_aload_n hx hb dX12_chance_99 rfl (lv_at hl 0 rfl) ?_
  refine lv_iload hx hb dX12_chance_100 (lv_at hl 1 rfl) ?_
  refine lv_i2l hx hb dX12_chance_102 rfl ?_
  refine lv_aload_n hx hb dX12_chance_103 rfl (lv_at hl 0 rfl) ?_
  refine rg_i hC hw 0 (Nat.le_of_ble_eq_true rfl) rfl fd_X12_8 wf_X12_75 dX12_chance_104 ?_
  refine lv_aload_n hx hb dX12_chance_107 rfl (lv_at hl 0 rfl) ?_
  refine rg_i hC hw 0 (Nat.le_of_ble_eq_true rfl) rfl fd_X12_8 wf_X12_75 dX12_chance_108 ?_
  refine lv_iconst (v := 1) hx hb dX12_chance_111 (by decide) ?_
  refine lv_isub hx hb dX12_chance_112 ?_
  refine lv_imul hx hb dX12_chance_113 ?_
  refine lv_iconst (v := 2) hx hb dX12_chance_114 (by decide) ?_
  refine lv_idiv hx hb dX12_chance_115 (by decide) ?_
  refine lv_i2l hx hb dX12_chance_116 rfl ?_
  obtain ⟨z9, ez9, hf⟩ := bd_e hf
  refine clc_Vv hC hw (c_X12_entersFraction ez9) hd_X12_entersFraction cw_X12_213 (Nat.le_of_ble_eq_true rfl) rfl rfl (rest := []) hl.1 rfl (Nat.le_of_ble_eq_true rfl) ⟨Nat.le_of_ble_eq_true rfl, Nat.le_of_ble_eq_true rfl⟩ ⟨Nat.zero_le _, Nat.zero_le _⟩ rfl dX12_chance_117 (fun H locs hw => ?_)
  refine lv_iconst (v := 0) hx hb dX12_chance_120 (by decide) ?_
  have hz := Option.some.inj hf
  subst hz
  exact rtc_i hC hw dX12_chance_121
set_option maxRecDepth 100000 in
set_option maxHeartbeats 4000000 in
theorem k_X12_chance_40 {p : Program} {l : Launch} {e : Env} {s : State} {m : MethodId} {args : Array Value} {below : List Frame} {meth : Method} {c : Code} {D : va_G} {cy : Nat → ClassId} {z0 : Nat} {ad : Nat → Nat} {X : va_W} {u : Nat × Nat} (hC : cx_C p s m args meth c cX12_chance "RhymedThenModel" (Cond.code yX12_chance cX12_chance 7 (some .int)) 7 (some .int)) {z : (Int32 × mm_M)} {x1 : Int32} {x2 : Int32} {x3 : Int32} {x4 : Int32} {x5 : Int32} {M : mm_M} {q40 : Int32 → Int32 → Int32 → Int32 → Int32 → mm_M → Option (Int32 × mm_M)} (hq40 : ∀ (x1 : Int32) (x2 : Int32) (x3 : Int32) (x4 : Int32) (x5 : Int32) (M : mm_M) (H : Heap) (locs : List Loc) (ls : Array Slot), q40 x1 x2 x3 x4 x5 M = some z → wd_in rf_T D cy z0 ad u M X s H locs → lv_has ls 7 [(0, .ref (ad 0)), (1, .int x1), (2, .int x2), (3, .int x3), (4, .int x4), (5, .int x5)] → W p l e { frames := 6, cells := 0, slots := 0, locals := 146 } s m args below meth c H locs 0 0 (MQ below (cq_i rf_T D cy z0 ad u X z.1 z.2) args s 0 0 (fun q => z0 ≤ q)) (F0 m 40 ls [])) (hf : f_X12_chance_40 q40 x1 x2 x3 x4 x5 M = some z) {H : Heap} {locs : List Loc} (hw : wd_in rf_T D cy z0 ad u M X s H locs) {ls : Array Slot} (hl : lv_has ls 7 [(0, .ref (ad 0)), (1, .int x1), (2, .int x2), (3, .int x3), (4, .int x4), (5, .int x5)]) : W p l e { frames := 6, cells := 0, slots := 0, locals := 146 } s m args below meth c H locs 0 0 (MQ below (cq_i rf_T D cy z0 ad u X z.1 z.2) args s 0 0 (fun q => z0 ≤ q)) (F0 m 40 ls []) := by
  have hx := hC.1
  have hb := hC.2.1
  unfold f_X12_chance_40 at hf
  refine lv_iload hx hb dX12_chance_40 (lv_at hl 5 rfl) ?_
  refine lv_aload_n hx hb dX12_chance_42 rfl (lv_at hl 0 rfl) ?_
  refine rg_i hC hw 0 (Nat.le_of_ble_eq_true rfl) rfl fd_X12_8 wf_X12_75 dX12_chance_43 ?_
  refine lv_icmp_ge (tgt := 94) hx hb dX12_chance_46 (by decide) (fun c7 => ?_) (fun c7 => ?_)
  · rw [if_pos c7] at hf
    exact k_X12_chance_94 hC hf hw (lv_sub hl [0, 4] rfl)
  · rw [if_neg c7] at hf
    refine lv_iconst (v := 0) hx hb dX12_chance_49 (by decide) ?_
    refine lv_istore (lv' := [(6, .int 0), (0, .ref (ad 0)), (1, .int x1), (2, .int x2), (3, .int x3), (4, .int x4), (5, .int x5)]) hx hb dX12_chance_50 hl (by decide) rfl (fun ls hl => ?_)
    exact k_X12_chance_52l hC hq40 fu_ _ _ _ _ _ _ _ _ _ _ hf hw (lv_sub hl [1, 2, 3, 4, 5, 6, 0] rfl)
set_option maxRecDepth 100000 in
set_option maxHeartbeats 4000000 in
theorem k_X12_chance_40l {p : Program} {l : Launch} {e : Env} {s : State} {m : MethodId} {args : Array Value} {below : List Frame} {meth : Method} {c : Code} {D : va_G} {cy : Nat → ClassId} {z0 : Nat} {ad : Nat → Nat} {X : va_W} {u : Nat × Nat} (hC : cx_C p s m args meth c cX12_chance "RhymedThenModel" (Cond.code yX12_chance cX12_chance 7 (some .int)) 7 (some .int)) {z : (Int32 × mm_M)} : ∀ (n : Nat) (x1 : Int32) (x2 : Int32) (x3 : Int32) (x4 : Int32) (x5 : Int32) (M : mm_M) (H : Heap) (locs : List Loc) (ls : Array Slot), f_X12_chance_40l n x1 x2 x3 x4 x5 M = some z → wd_in rf_T D cy z0 ad u M X s H locs → lv_has ls 7 [(0, .ref (ad 0)), (1, .int x1), (2, .int x2), (3, .int x3), (4, .int x4), (5, .int x5)] → W p l e { frames := 6, cells := 0, slots := 0, locals := 146 } s m args below meth c H locs 0 0 (MQ below (cq_i rf_T D cy z0 ad u X z.1 z.2) args s 0 0 (fun q => z0 ≤ q)) (F0 m 40 ls []) := by
  intro n
  induction n with
  | zero => intro x1 x2 x3 x4 x5 M H locs ls hf; exact absurd hf (by simp [f_X12_chance_40l])
  | succ n ih => intro x1 x2 x3 x4 x5 M H locs ls hf hw hl; exact k_X12_chance_40 hC ih hf hw hl
set_option maxRecDepth 100000 in
set_option maxHeartbeats 4000000 in
theorem k_X12_chance {p : Program} {l : Launch} {e : Env} {s : State} {m : MethodId} {args : Array Value} {below : List Frame} {meth : Method} {c : Code} {D : va_G} {cy : Nat → ClassId} {z0 : Nat} {ad : Nat → Nat} {X : va_W} {u : Nat × Nat} (hC : cx_C p s m args meth c cX12_chance "RhymedThenModel" (Cond.code yX12_chance cX12_chance 7 (some .int)) 7 (some .int)) {z : (Int32 × mm_M)} {x1 : Int32} {x2 : Int32} {x3 : Int32} {M : mm_M} (hf : f_X12_chance x1 x2 x3 M = some z) {H : Heap} {locs : List Loc} (hw : wd_in rf_T D cy z0 ad u M X s H locs) {ls : Array Slot} (hl : lv_has ls 7 [(0, .ref (ad 0)), (1, .int x1), (2, .int x2), (3, .int x3)]) : W p l e { frames := 6, cells := 0, slots := 0, locals := 146 } s m args below meth c H locs 0 0 (MQ below (cq_i rf_T D cy z0 ad u X z.1 z.2) args s 0 0 (fun q => z0 ≤ q)) (F0 m 0 ls []) := by
  have hx := hC.1
  have hb := hC.2.1
  unfold f_X12_chance at hf
  refine lv_aload_n hx hb dX12_chance_0 rfl (lv_at hl 0 rfl) ?_
  refine lv_iconst (v := 0) hx hb dX12_chance_1 (by decide) ?_
  obtain ⟨M1, eM1, hf⟩ := sq_e hf
  refine rp_i hC hw 0 (Nat.le_of_ble_eq_true rfl) rfl fd_X12_0 wf_X12_1 fp_X12_0 rfl rfl dX12_chance_2 eM1 (fun H locs hw => ?_)
  refine lv_aload_n hx hb dX12_chance_5 rfl (lv_at hl 0 rfl) ?_
  refine lv_iload_n hx hb dX12_chance_6 rfl (lv_at hl 1 rfl) ?_
  obtain ⟨z2, ez2, hf⟩ := bd_e hf
  refine clc_Vi hC hw (c_X12_isHistory ez2) hd_X12_isHistory cw_X12_194 (Nat.le_of_ble_eq_true rfl) rfl rfl (rest := []) hl.1 rfl (Nat.le_of_ble_eq_true rfl) ⟨Nat.le_of_ble_eq_true rfl, Nat.le_of_ble_eq_true rfl⟩ ⟨Nat.zero_le _, Nat.zero_le _⟩ rfl dX12_chance_7 (fun H locs hw => ?_)
  refine lv_if_eq (tgt := 21) hx hb dX12_chance_10 (by decide) (fun c3 => ?_) (fun c3 => ?_)
  · rw [if_pos c3] at hf
    refine lv_iconst (v := (-1)) hx hb dX12_chance_21 (by decide) ?_
    have hz := Option.some.inj hf
    subst hz
    exact rtc_i hC hw dX12_chance_22
  · rw [if_neg c3] at hf
    refine lv_iload_n hx hb dX12_chance_13 rfl (lv_at hl 2 rfl) ?_
    refine lv_iload_n hx hb dX12_chance_14 rfl (lv_at hl 3 rfl) ?_
    obtain ⟨z4, ez4, hf⟩ := sq_e hf
    refine clc_Si hC hw (c_X12_isThen ez4.symm) hd_X12_isThen cw_X12_197 (rest := []) hl.1 rfl (Nat.le_of_ble_eq_true rfl) ⟨Nat.le_of_ble_eq_true rfl, Nat.le_of_ble_eq_true rfl⟩ ⟨Nat.zero_le _, Nat.zero_le _⟩ rfl dX12_chance_15 (fun H locs hw => ?_)
    refine lv_if_ne (tgt := 23) hx hb dX12_chance_18 (by decide) (fun c5 => ?_) (fun c5 => ?_)
    · rw [if_neg c5] at hf
      refine lv_aload_n hx hb dX12_chance_23 rfl (lv_at hl 0 rfl) ?_
      refine rg_i hC hw 0 (Nat.le_of_ble_eq_true rfl) rfl fd_X12_8 wf_X12_75 dX12_chance_24 ?_
      refine lv_iconst (v := 2) hx hb dX12_chance_27 (by decide) ?_
      refine lv_icmp_ge (tgt := 34) hx hb dX12_chance_28 (by decide) (fun c6 => ?_) (fun c6 => ?_)
      · rw [if_pos c6] at hf
        refine lv_iconst (v := 0) hx hb dX12_chance_34 (by decide) ?_
        refine lv_istore (lv' := [(4, .int 0), (0, .ref (ad 0)), (1, .int x1), (2, .int x2), (3, .int x3)]) hx hb dX12_chance_35 hl (by decide) rfl (fun ls hl => ?_)
        refine lv_iconst (v := 0) hx hb dX12_chance_37 (by decide) ?_
        refine lv_istore (lv' := [(5, .int 0), (4, .int 0), (0, .ref (ad 0)), (1, .int x1), (2, .int x2), (3, .int x3)]) hx hb dX12_chance_38 hl (by decide) rfl (fun ls hl => ?_)
        exact k_X12_chance_40l hC fu_ _ _ _ _ _ _ _ _ _ hf hw (lv_sub hl [2, 3, 4, 5, 1, 0] rfl)
      · rw [if_neg c6] at hf
        refine lv_bipush (v := (-2)) hx hb dX12_chance_31 (by decide) ?_
        have hz := Option.some.inj hf
        subst hz
        exact rtc_i hC hw dX12_chance_33
    · rw [if_pos c5] at hf
      refine lv_iconst (v := (-1)) hx hb dX12_chance_21 (by decide) ?_
      have hz := Option.some.inj hf
      subst hz
      exact rtc_i hC hw dX12_chance_22
set_option maxRecDepth 100000 in
theorem c_X12_chance {l : Launch} {D : va_G} {cy : Nat → ClassId} {z0 : Nat} {ad : Nat → Nat} {u : Nat × Nat} {X : va_W} {z : (Int32 × mm_M)} {x1 : Int32} {x2 : Int32} {x3 : Int32} {M : mm_M} (hf : f_X12_chance x1 x2 x3 M = some z) : ct_i rf_T l yX12_chance (Cond.code yX12_chance cX12_chance 7 (some .int)) 6 146 D cy z0 ad u M X [.ref (ad 0), .int x1, .int x2, .int x3] z.1 z.2 := by
  refine bgc_i (by decide) (fun p e s m below meth c hC hw => ?_)
  refine en_t (Nat.le_of_ble_eq_true rfl) (fun ls hl => ?_)
  have hl : lv_has ls 7 [(0, .ref (ad 0)), (1, .int x1), (2, .int x2), (3, .int x3)] := hl
  exact k_X12_chance hC hf hw hl
set_option maxRecDepth 100000 in
set_option maxHeartbeats 4000000 in
theorem k_X12_works_114 {p : Program} {l : Launch} {e : Env} {s : State} {m : MethodId} {args : Array Value} {below : List Frame} {meth : Method} {c : Code} {D : va_G} {cy : Nat → ClassId} {z0 : Nat} {ad : Nat → Nat} {X : va_W} {u : Nat × Nat} (hC : cx_C p s m args meth c cX12_works "RhymedThenModel" (Cond.code yX12_works cX12_works 9 (some .int)) 9 (some .int)) {z : (Int32 × mm_M)} {x1 : Int32} {x2 : Int32} {x3 : Int32} {x4 : Int32} {x6 : Int32} {x7 : Int32} {t0 : Int32} {t1 : Int32} {M : mm_M} {q65 : Int32 → Int32 → Int32 → Int32 → Int32 → Int32 → Int32 → mm_M → Option (Int32 × mm_M)} (hq65 : ∀ (x1 : Int32) (x2 : Int32) (x3 : Int32) (x4 : Int32) (x5 : Int32) (x6 : Int32) (x7 : Int32) (M : mm_M) (H : Heap) (locs : List Loc) (ls : Array Slot), q65 x1 x2 x3 x4 x5 x6 x7 M = some z → wd_in rf_T D cy z0 ad u M X s H locs → lv_has ls 9 [(0, .ref (ad 0)), (1, .int x1), (2, .int x2), (3, .int x3), (4, .int x4), (5, .int x5), (6, .int x6), (7, .int x7)] → W p l e { frames := 4, cells := 0, slots := 0, locals := 95 } s m args below meth c H locs 0 0 (MQ below (cq_i rf_T D cy z0 ad u X z.1 z.2) args s 0 0 (fun q => z0 ≤ q)) (F0 m 65 ls [])) (hf : f_X12_works_114 q65 x1 x2 x3 x4 x6 x7 t0 t1 M = some z) {H : Heap} {locs : List Loc} (hw : wd_in rf_T D cy z0 ad u M X s H locs) {ls : Array Slot} (hl : lv_has ls 9 [(0, .ref (ad 0)), (1, .int x1), (2, .int x2), (3, .int x3), (4, .int x4), (6, .int x6), (7, .int x7)]) : W p l e { frames := 4, cells := 0, slots := 0, locals := 95 } s m args below meth c H locs 0 0 (MQ below (cq_i rf_T D cy z0 ad u X z.1 z.2) args s 0 0 (fun q => z0 ≤ q)) (F0 m 114 ls [.int t1, .int t0]) := by
  have hx := hC.1
  have hb := hC.2.1
  unfold f_X12_works_114 at hf
  refine lv_ior hx hb dX12_works_114 ?_
  obtain ⟨y18, ey18, hf⟩ := sq_e hf
  refine lt_i ey18 ?_
  refine lv_istore (lv' := [(5, .int y18), (0, .ref (ad 0)), (1, .int x1), (2, .int x2), (3, .int x3), (4, .int x4), (6, .int x6), (7, .int x7)]) hx hb dX12_works_115 hl (by decide) rfl (fun ls hl => ?_)
  obtain ⟨y19, ey19, hf⟩ := sq_e hf
  refine lv_iinc (v := y19) (lv' := [(7, .int y19), (5, .int y18), (0, .ref (ad 0)), (1, .int x1), (2, .int x2), (3, .int x3), (4, .int x4), (6, .int x6)]) hx hb dX12_works_117 hl (k := 7) rfl (by rw [ey19]; rfl) (by decide) rfl (fun ls hl => ?_)
  refine lv_goto (tgt := 65) hx hb dX12_works_120 (by decide) ?_
  exact hq65 _ _ _ _ _ _ _ _ _ _ _ hf hw (lv_sub hl [2, 3, 4, 5, 6, 1, 7, 0] rfl)
set_option maxRecDepth 100000 in
set_option maxHeartbeats 4000000 in
theorem k_X12_works_113 {p : Program} {l : Launch} {e : Env} {s : State} {m : MethodId} {args : Array Value} {below : List Frame} {meth : Method} {c : Code} {D : va_G} {cy : Nat → ClassId} {z0 : Nat} {ad : Nat → Nat} {X : va_W} {u : Nat × Nat} (hC : cx_C p s m args meth c cX12_works "RhymedThenModel" (Cond.code yX12_works cX12_works 9 (some .int)) 9 (some .int)) {z : (Int32 × mm_M)} {x1 : Int32} {x2 : Int32} {x3 : Int32} {x4 : Int32} {x6 : Int32} {x7 : Int32} {t0 : Int32} {M : mm_M} {q65 : Int32 → Int32 → Int32 → Int32 → Int32 → Int32 → Int32 → mm_M → Option (Int32 × mm_M)} (hq65 : ∀ (x1 : Int32) (x2 : Int32) (x3 : Int32) (x4 : Int32) (x5 : Int32) (x6 : Int32) (x7 : Int32) (M : mm_M) (H : Heap) (locs : List Loc) (ls : Array Slot), q65 x1 x2 x3 x4 x5 x6 x7 M = some z → wd_in rf_T D cy z0 ad u M X s H locs → lv_has ls 9 [(0, .ref (ad 0)), (1, .int x1), (2, .int x2), (3, .int x3), (4, .int x4), (5, .int x5), (6, .int x6), (7, .int x7)] → W p l e { frames := 4, cells := 0, slots := 0, locals := 95 } s m args below meth c H locs 0 0 (MQ below (cq_i rf_T D cy z0 ad u X z.1 z.2) args s 0 0 (fun q => z0 ≤ q)) (F0 m 65 ls [])) (hf : f_X12_works_113 q65 x1 x2 x3 x4 x6 x7 t0 M = some z) {H : Heap} {locs : List Loc} (hw : wd_in rf_T D cy z0 ad u M X s H locs) {ls : Array Slot} (hl : lv_has ls 9 [(0, .ref (ad 0)), (1, .int x1), (2, .int x2), (3, .int x3), (4, .int x4), (6, .int x6), (7, .int x7)]) : W p l e { frames := 4, cells := 0, slots := 0, locals := 95 } s m args below meth c H locs 0 0 (MQ below (cq_i rf_T D cy z0 ad u X z.1 z.2) args s 0 0 (fun q => z0 ≤ q)) (F0 m 113 ls [.int t0]) := by
  have hx := hC.1
  have hb := hC.2.1
  unfold f_X12_works_113 at hf
  refine lv_iconst (v := 0) hx hb dX12_works_113 (by decide) ?_
  exact k_X12_works_114 hC hq65 hf hw (lv_sub hl [0, 1, 2, 3, 4, 5, 6] rfl)
set_option maxRecDepth 100000 in
set_option maxHeartbeats 4000000 in
theorem k_X12_works_123 {p : Program} {l : Launch} {e : Env} {s : State} {m : MethodId} {args : Array Value} {below : List Frame} {meth : Method} {c : Code} {D : va_G} {cy : Nat → ClassId} {z0 : Nat} {ad : Nat → Nat} {X : va_W} {u : Nat × Nat} (hC : cx_C p s m args meth c cX12_works "RhymedThenModel" (Cond.code yX12_works cX12_works 9 (some .int)) 9 (some .int)) {z : (Int32 × mm_M)} {x1 : Int32} {x2 : Int32} {x3 : Int32} {x4 : Int32} {x5 : Int32} {x6 : Int32} {M : mm_M} {q38 : Int32 → Int32 → Int32 → Int32 → Int32 → Int32 → mm_M → Option (Int32 × mm_M)} (hq38 : ∀ (x1 : Int32) (x2 : Int32) (x3 : Int32) (x4 : Int32) (x5 : Int32) (x6 : Int32) (M : mm_M) (H : Heap) (locs : List Loc) (ls : Array Slot), q38 x1 x2 x3 x4 x5 x6 M = some z → wd_in rf_T D cy z0 ad u M X s H locs → lv_has ls 9 [(0, .ref (ad 0)), (1, .int x1), (2, .int x2), (3, .int x3), (4, .int x4), (5, .int x5), (6, .int x6)] → W p l e { frames := 4, cells := 0, slots := 0, locals := 95 } s m args below meth c H locs 0 0 (MQ below (cq_i rf_T D cy z0 ad u X z.1 z.2) args s 0 0 (fun q => z0 ≤ q)) (F0 m 38 ls [])) (hf : f_X12_works_123 q38 x1 x2 x3 x4 x5 x6 M = some z) {H : Heap} {locs : List Loc} (hw : wd_in rf_T D cy z0 ad u M X s H locs) {ls : Array Slot} (hl : lv_has ls 9 [(0, .ref (ad 0)), (1, .int x1), (2, .int x2), (3, .int x3), (4, .int x4), (5, .int x5), (6, .int x6)]) : W p l e { frames := 4, cells := 0, slots := 0, locals := 95 } s m args below meth c H locs 0 0 (MQ below (cq_i rf_T D cy z0 ad u X z.1 z.2) args s 0 0 (fun q => z0 ≤ q)) (F0 m 123 ls []) := by
  have hx := hC.1
  have hb := hC.2.1
  unfold f_X12_works_123 at hf
  obtain ⟨y17, ey17, hf⟩ := sq_e hf
  refine lv_iinc (v := y17) (lv' := [(6, .int y17), (0, .ref (ad 0)), (1, .int x1), (2, .int x2), (3, .int x3), (4, .int x4), (5, .int x5)]) hx hb dX12_works_123 hl (k := 6) rfl (by rw [ey17]; rfl) (by decide) rfl (fun ls hl => ?_)
  refine lv_goto (tgt := 38) hx hb dX12_works_126 (by decide) ?_
  exact hq38 _ _ _ _ _ _ _ _ _ _ hf hw (lv_sub hl [1, 2, 3, 4, 5, 6, 0] rfl)
set_option maxRecDepth 100000 in
set_option maxHeartbeats 4000000 in
theorem k_X12_works_65 {p : Program} {l : Launch} {e : Env} {s : State} {m : MethodId} {args : Array Value} {below : List Frame} {meth : Method} {c : Code} {D : va_G} {cy : Nat → ClassId} {z0 : Nat} {ad : Nat → Nat} {X : va_W} {u : Nat × Nat} (hC : cx_C p s m args meth c cX12_works "RhymedThenModel" (Cond.code yX12_works cX12_works 9 (some .int)) 9 (some .int)) {z : (Int32 × mm_M)} {x1 : Int32} {x2 : Int32} {x3 : Int32} {x4 : Int32} {x5 : Int32} {x6 : Int32} {x7 : Int32} {M : mm_M} {q38 : Int32 → Int32 → Int32 → Int32 → Int32 → Int32 → mm_M → Option (Int32 × mm_M)} (hq38 : ∀ (x1 : Int32) (x2 : Int32) (x3 : Int32) (x4 : Int32) (x5 : Int32) (x6 : Int32) (M : mm_M) (H : Heap) (locs : List Loc) (ls : Array Slot), q38 x1 x2 x3 x4 x5 x6 M = some z → wd_in rf_T D cy z0 ad u M X s H locs → lv_has ls 9 [(0, .ref (ad 0)), (1, .int x1), (2, .int x2), (3, .int x3), (4, .int x4), (5, .int x5), (6, .int x6)] → W p l e { frames := 4, cells := 0, slots := 0, locals := 95 } s m args below meth c H locs 0 0 (MQ below (cq_i rf_T D cy z0 ad u X z.1 z.2) args s 0 0 (fun q => z0 ≤ q)) (F0 m 38 ls [])) {q65 : Int32 → Int32 → Int32 → Int32 → Int32 → Int32 → Int32 → mm_M → Option (Int32 × mm_M)} (hq65 : ∀ (x1 : Int32) (x2 : Int32) (x3 : Int32) (x4 : Int32) (x5 : Int32) (x6 : Int32) (x7 : Int32) (M : mm_M) (H : Heap) (locs : List Loc) (ls : Array Slot), q65 x1 x2 x3 x4 x5 x6 x7 M = some z → wd_in rf_T D cy z0 ad u M X s H locs → lv_has ls 9 [(0, .ref (ad 0)), (1, .int x1), (2, .int x2), (3, .int x3), (4, .int x4), (5, .int x5), (6, .int x6), (7, .int x7)] → W p l e { frames := 4, cells := 0, slots := 0, locals := 95 } s m args below meth c H locs 0 0 (MQ below (cq_i rf_T D cy z0 ad u X z.1 z.2) args s 0 0 (fun q => z0 ≤ q)) (F0 m 65 ls [])) (hf : f_X12_works_65 q38 q65 x1 x2 x3 x4 x5 x6 x7 M = some z) {H : Heap} {locs : List Loc} (hw : wd_in rf_T D cy z0 ad u M X s H locs) {ls : Array Slot} (hl : lv_has ls 9 [(0, .ref (ad 0)), (1, .int x1), (2, .int x2), (3, .int x3), (4, .int x4), (5, .int x5), (6, .int x6), (7, .int x7)]) : W p l e { frames := 4, cells := 0, slots := 0, locals := 95 } s m args below meth c H locs 0 0 (MQ below (cq_i rf_T D cy z0 ad u X z.1 z.2) args s 0 0 (fun q => z0 ≤ q)) (F0 m 65 ls []) := by
  have hx := hC.1
  have hb := hC.2.1
  unfold f_X12_works_65 at hf
  refine lv_iload hx hb dX12_works_65 (lv_at hl 7 rfl) ?_
  refine lv_aload_n hx hb dX12_works_67 rfl (lv_at hl 0 rfl) ?_
  refine rg_i hC hw 0 (Nat.le_of_ble_eq_true rfl) rfl fd_X12_24 wf_X12_130 dX12_works_68 ?_
  refine lv_icmp_ge (tgt := 123) hx hb dX12_works_71 (by decide) (fun c11 => ?_) (fun c11 => ?_)
  · rw [if_pos c11] at hf
    exact k_X12_works_123 hC hq38 hf hw (lv_sub hl [0, 1, 2, 3, 4, 5, 6] rfl)
  · rw [if_neg c11] at hf
    refine lv_aload_n hx hb dX12_works_74 rfl (lv_at hl 0 rfl) ?_
    refine lv_iconst (v := 0) hx hb dX12_works_75 (by decide) ?_
    refine lv_aload_n hx hb dX12_works_76 rfl (lv_at hl 0 rfl) ?_
    refine rg_p hC hw 0 (Nat.le_of_ble_eq_true rfl) rfl fd_X12_23 wf_X12_143 (q := 17) rfl dX12_works_77 ?_
    refine lv_iload hx hb dX12_works_80 (lv_at hl 7 rfl) ?_
    obtain ⟨h12, hf⟩ := ck_e hf
    refine ra_i hC hw 17 (Nat.le_of_ble_eq_true rfl) rfl h12 dX12_works_82 ?_
    obtain ⟨z13, ez13, hf⟩ := bd_e hf
    refine clc_Vi hC hw (c_X12_worksOn ez13) hd_X12_worksOn cw_X12_175 (Nat.le_of_ble_eq_true rfl) rfl rfl (rest := []) hl.1 rfl (Nat.le_of_ble_eq_true rfl) ⟨Nat.le_of_ble_eq_true rfl, Nat.le_of_ble_eq_true rfl⟩ ⟨Nat.zero_le _, Nat.zero_le _⟩ rfl dX12_works_83 (fun H locs hw => ?_)
    refine lv_istore (lv' := [(8, .int z13.1), (0, .ref (ad 0)), (1, .int x1), (2, .int x2), (3, .int x3), (4, .int x4), (5, .int x5), (6, .int x6), (7, .int x7)]) hx hb dX12_works_86 hl (by decide) rfl (fun ls hl => ?_)
    refine lv_iload hx hb dX12_works_88 (lv_at hl 6 rfl) ?_
    refine lv_iload hx hb dX12_works_90 (lv_at hl 0 rfl) ?_
    refine lv_if_eq (tgt := 113) hx hb dX12_works_92 (by decide) (fun c14 => ?_) (fun c14 => ?_)
    · rw [if_pos c14] at hf
      exact k_X12_works_113 hC hq65 hf hw (lv_sub hl [1, 2, 3, 4, 5, 7, 8] rfl)
    · rw [if_neg c14] at hf
      refine lv_aload_n hx hb dX12_works_95 rfl (lv_at hl 1 rfl) ?_
      refine rg_p hC hw 0 (Nat.le_of_ble_eq_true rfl) rfl fd_X12_23 wf_X12_143 (q := 17) rfl dX12_works_96 ?_
      refine lv_iload hx hb dX12_works_99 (lv_at hl 8 rfl) ?_
      obtain ⟨h15, hf⟩ := ck_e hf
      refine ra_i hC hw 17 (Nat.le_of_ble_eq_true rfl) rfl h15 dX12_works_101 ?_
      refine lv_iload_n hx hb dX12_works_102 rfl (lv_at hl 2 rfl) ?_
      refine lv_icmp_ne (tgt := 113) hx hb dX12_works_103 (by decide) (fun c16 => ?_) (fun c16 => ?_)
      · rw [if_neg c16] at hf
        exact k_X12_works_113 hC hq65 hf hw (lv_sub hl [1, 2, 3, 4, 5, 7, 8] rfl)
      · rw [if_pos c16] at hf
        refine lv_iconst (v := 1) hx hb dX12_works_106 (by decide) ?_
        refine lv_iload hx hb dX12_works_107 (lv_at hl 7 rfl) ?_
        refine lv_ishl hx hb dX12_works_109 ?_
        refine lv_goto (tgt := 114) hx hb dX12_works_110 (by decide) ?_
        exact k_X12_works_114 hC hq65 hf hw (lv_sub hl [1, 2, 3, 4, 5, 7, 8] rfl)
set_option maxRecDepth 100000 in
set_option maxHeartbeats 4000000 in
theorem k_X12_works_65l {p : Program} {l : Launch} {e : Env} {s : State} {m : MethodId} {args : Array Value} {below : List Frame} {meth : Method} {c : Code} {D : va_G} {cy : Nat → ClassId} {z0 : Nat} {ad : Nat → Nat} {X : va_W} {u : Nat × Nat} (hC : cx_C p s m args meth c cX12_works "RhymedThenModel" (Cond.code yX12_works cX12_works 9 (some .int)) 9 (some .int)) {z : (Int32 × mm_M)} {q38 : Int32 → Int32 → Int32 → Int32 → Int32 → Int32 → mm_M → Option (Int32 × mm_M)} (hq38 : ∀ (x1 : Int32) (x2 : Int32) (x3 : Int32) (x4 : Int32) (x5 : Int32) (x6 : Int32) (M : mm_M) (H : Heap) (locs : List Loc) (ls : Array Slot), q38 x1 x2 x3 x4 x5 x6 M = some z → wd_in rf_T D cy z0 ad u M X s H locs → lv_has ls 9 [(0, .ref (ad 0)), (1, .int x1), (2, .int x2), (3, .int x3), (4, .int x4), (5, .int x5), (6, .int x6)] → W p l e { frames := 4, cells := 0, slots := 0, locals := 95 } s m args below meth c H locs 0 0 (MQ below (cq_i rf_T D cy z0 ad u X z.1 z.2) args s 0 0 (fun q => z0 ≤ q)) (F0 m 38 ls [])) : ∀ (n : Nat) (x1 : Int32) (x2 : Int32) (x3 : Int32) (x4 : Int32) (x5 : Int32) (x6 : Int32) (x7 : Int32) (M : mm_M) (H : Heap) (locs : List Loc) (ls : Array Slot), f_X12_works_65l q38 n x1 x2 x3 x4 x5 x6 x7 M = some z → wd_in rf_T D cy z0 ad u M X s H locs → lv_has ls 9 [(0, .ref (ad 0)), (1, .int x1), (2, .int x2), (3, .int x3), (4, .int x4), (5, .int x5), (6, .int x6), (7, .int x7)] → W p l e { frames := 4, cells := 0, slots := 0, locals := 95 } s m args below meth c H locs 0 0 (MQ below (cq_i rf_T D cy z0 ad u X z.1 z.2) args s 0 0 (fun q => z0 ≤ q)) (F0 m 65 ls []) := by
  intro n
  induction n with
  | zero => intro x1 x2 x3 x4 x5 x6 x7 M H locs ls hf; exact absurd hf (by simp [f_X12_works_65l])
  | succ n ih => intro x1 x2 x3 x4 x5 x6 x7 M H locs ls hf hw hl; exact k_X12_works_65 hC hq38 ih hf hw hl
set_option maxRecDepth 100000 in
set_option maxHeartbeats 4000000 in
theorem k_X12_works_38 {p : Program} {l : Launch} {e : Env} {s : State} {m : MethodId} {args : Array Value} {below : List Frame} {meth : Method} {c : Code} {D : va_G} {cy : Nat → ClassId} {z0 : Nat} {ad : Nat → Nat} {X : va_W} {u : Nat × Nat} (hC : cx_C p s m args meth c cX12_works "RhymedThenModel" (Cond.code yX12_works cX12_works 9 (some .int)) 9 (some .int)) {z : (Int32 × mm_M)} {x1 : Int32} {x2 : Int32} {x3 : Int32} {x4 : Int32} {x5 : Int32} {x6 : Int32} {M : mm_M} {q38 : Int32 → Int32 → Int32 → Int32 → Int32 → Int32 → mm_M → Option (Int32 × mm_M)} (hq38 : ∀ (x1 : Int32) (x2 : Int32) (x3 : Int32) (x4 : Int32) (x5 : Int32) (x6 : Int32) (M : mm_M) (H : Heap) (locs : List Loc) (ls : Array Slot), q38 x1 x2 x3 x4 x5 x6 M = some z → wd_in rf_T D cy z0 ad u M X s H locs → lv_has ls 9 [(0, .ref (ad 0)), (1, .int x1), (2, .int x2), (3, .int x3), (4, .int x4), (5, .int x5), (6, .int x6)] → W p l e { frames := 4, cells := 0, slots := 0, locals := 95 } s m args below meth c H locs 0 0 (MQ below (cq_i rf_T D cy z0 ad u X z.1 z.2) args s 0 0 (fun q => z0 ≤ q)) (F0 m 38 ls [])) (hf : f_X12_works_38 q38 x1 x2 x3 x4 x5 x6 M = some z) {H : Heap} {locs : List Loc} (hw : wd_in rf_T D cy z0 ad u M X s H locs) {ls : Array Slot} (hl : lv_has ls 9 [(0, .ref (ad 0)), (1, .int x1), (2, .int x2), (3, .int x3), (4, .int x4), (5, .int x5), (6, .int x6)]) : W p l e { frames := 4, cells := 0, slots := 0, locals := 95 } s m args below meth c H locs 0 0 (MQ below (cq_i rf_T D cy z0 ad u X z.1 z.2) args s 0 0 (fun q => z0 ≤ q)) (F0 m 38 ls []) := by
  have hx := hC.1
  have hb := hC.2.1
  unfold f_X12_works_38 at hf
  refine lv_iload hx hb dX12_works_38 (lv_at hl 6 rfl) ?_
  refine lv_aload_n hx hb dX12_works_40 rfl (lv_at hl 0 rfl) ?_
  refine rg_i hC hw 0 (Nat.le_of_ble_eq_true rfl) rfl fd_X12_8 wf_X12_75 dX12_works_41 ?_
  refine lv_icmp_ge (tgt := 129) hx hb dX12_works_44 (by decide) (fun c8 => ?_) (fun c8 => ?_)
  · rw [if_pos c8] at hf
    refine lv_iload hx hb dX12_works_129 (lv_at hl 5 rfl) ?_
    have hz := Option.some.inj hf
    subst hz
    exact rtc_i hC hw dX12_works_131
  · rw [if_neg c8] at hf
    refine lv_aload_n hx hb dX12_works_47 rfl (lv_at hl 0 rfl) ?_
    refine lv_iconst (v := 0) hx hb dX12_works_48 (by decide) ?_
    refine lv_iload hx hb dX12_works_49 (lv_at hl 6 rfl) ?_
    obtain ⟨z9, ez9, hf⟩ := bd_e hf
    refine clc_Vv hC hw (c_X12_spells ez9) hd_X12_spells cw_X12_167 (Nat.le_of_ble_eq_true rfl) rfl rfl (rest := []) hl.1 rfl (Nat.le_of_ble_eq_true rfl) ⟨Nat.le_of_ble_eq_true rfl, Nat.le_of_ble_eq_true rfl⟩ ⟨Nat.zero_le _, Nat.zero_le _⟩ rfl dX12_works_51 (fun H locs hw => ?_)
    refine lv_aload_n hx hb dX12_works_54 rfl (lv_at hl 0 rfl) ?_
    refine lv_iload_n hx hb dX12_works_55 rfl (lv_at hl 2 rfl) ?_
    refine lv_iload_n hx hb dX12_works_56 rfl (lv_at hl 3 rfl) ?_
    refine lv_iload hx hb dX12_works_57 (lv_at hl 4 rfl) ?_
    obtain ⟨z10, ez10, hf⟩ := bd_e hf
    refine clc_Vv hC hw (c_X12_lines ez10) hd_X12_lines cw_X12_171 (Nat.le_of_ble_eq_true rfl) rfl rfl (rest := []) hl.1 rfl (Nat.le_of_ble_eq_true rfl) ⟨Nat.le_of_ble_eq_true rfl, Nat.le_of_ble_eq_true rfl⟩ ⟨Nat.zero_le _, Nat.zero_le _⟩ rfl dX12_works_59 (fun H locs hw => ?_)
    refine lv_iconst (v := 0) hx hb dX12_works_62 (by decide) ?_
    refine lv_istore (lv' := [(7, .int 0), (0, .ref (ad 0)), (1, .int x1), (2, .int x2), (3, .int x3), (4, .int x4), (5, .int x5), (6, .int x6)]) hx hb dX12_works_63 hl (by decide) rfl (fun ls hl => ?_)
    exact k_X12_works_65l hC hq38 fu_ _ _ _ _ _ _ _ _ _ _ _ hf hw (lv_sub hl [1, 2, 3, 4, 5, 6, 7, 0] rfl)
set_option maxRecDepth 100000 in
set_option maxHeartbeats 4000000 in
theorem k_X12_works_38l {p : Program} {l : Launch} {e : Env} {s : State} {m : MethodId} {args : Array Value} {below : List Frame} {meth : Method} {c : Code} {D : va_G} {cy : Nat → ClassId} {z0 : Nat} {ad : Nat → Nat} {X : va_W} {u : Nat × Nat} (hC : cx_C p s m args meth c cX12_works "RhymedThenModel" (Cond.code yX12_works cX12_works 9 (some .int)) 9 (some .int)) {z : (Int32 × mm_M)} : ∀ (n : Nat) (x1 : Int32) (x2 : Int32) (x3 : Int32) (x4 : Int32) (x5 : Int32) (x6 : Int32) (M : mm_M) (H : Heap) (locs : List Loc) (ls : Array Slot), f_X12_works_38l n x1 x2 x3 x4 x5 x6 M = some z → wd_in rf_T D cy z0 ad u M X s H locs → lv_has ls 9 [(0, .ref (ad 0)), (1, .int x1), (2, .int x2), (3, .int x3), (4, .int x4), (5, .int x5), (6, .int x6)] → W p l e { frames := 4, cells := 0, slots := 0, locals := 95 } s m args below meth c H locs 0 0 (MQ below (cq_i rf_T D cy z0 ad u X z.1 z.2) args s 0 0 (fun q => z0 ≤ q)) (F0 m 38 ls []) := by
  intro n
  induction n with
  | zero => intro x1 x2 x3 x4 x5 x6 M H locs ls hf; exact absurd hf (by simp [f_X12_works_38l])
  | succ n ih => intro x1 x2 x3 x4 x5 x6 M H locs ls hf hw hl; exact k_X12_works_38 hC ih hf hw hl
set_option maxRecDepth 100000 in
set_option maxHeartbeats 4000000 in
theorem k_X12_works {p : Program} {l : Launch} {e : Env} {s : State} {m : MethodId} {args : Array Value} {below : List Frame} {meth : Method} {c : Code} {D : va_G} {cy : Nat → ClassId} {z0 : Nat} {ad : Nat → Nat} {X : va_W} {u : Nat × Nat} (hC : cx_C p s m args meth c cX12_works "RhymedThenModel" (Cond.code yX12_works cX12_works 9 (some .int)) 9 (some .int)) {z : (Int32 × mm_M)} {x1 : Int32} {x2 : Int32} {x3 : Int32} {x4 : Int32} {M : mm_M} (hf : f_X12_works x1 x2 x3 x4 M = some z) {H : Heap} {locs : List Loc} (hw : wd_in rf_T D cy z0 ad u M X s H locs) {ls : Array Slot} (hl : lv_has ls 9 [(0, .ref (ad 0)), (1, .int x1), (2, .int x2), (3, .int x3), (4, .int x4)]) : W p l e { frames := 4, cells := 0, slots := 0, locals := 95 } s m args below meth c H locs 0 0 (MQ below (cq_i rf_T D cy z0 ad u X z.1 z.2) args s 0 0 (fun q => z0 ≤ q)) (F0 m 0 ls []) := by
  have hx := hC.1
  have hb := hC.2.1
  unfold f_X12_works at hf
  refine lv_aload_n hx hb dX12_works_0 rfl (lv_at hl 0 rfl) ?_
  refine lv_iconst (v := 0) hx hb dX12_works_1 (by decide) ?_
  obtain ⟨M1, eM1, hf⟩ := sq_e hf
  refine rp_i hC hw 0 (Nat.le_of_ble_eq_true rfl) rfl fd_X12_0 wf_X12_1 fp_X12_0 rfl rfl dX12_works_2 eM1 (fun H locs hw => ?_)
  refine lv_aload_n hx hb dX12_works_5 rfl (lv_at hl 0 rfl) ?_
  refine lv_iload_n hx hb dX12_works_6 rfl (lv_at hl 1 rfl) ?_
  obtain ⟨z2, ez2, hf⟩ := sq_e hf
  refine clc_Vi hC hw (c_X12_isLaw ez2.symm) hd_X12_isLaw cw_X12_217 (Nat.le_of_ble_eq_true rfl) rfl rfl (rest := []) hl.1 rfl (Nat.le_of_ble_eq_true rfl) ⟨Nat.le_of_ble_eq_true rfl, Nat.le_of_ble_eq_true rfl⟩ ⟨Nat.zero_le _, Nat.zero_le _⟩ rfl dX12_works_7 (fun H locs hw => ?_)
  refine lv_if_eq (tgt := 30) hx hb dX12_works_10 (by decide) (fun c3 => ?_) (fun c3 => ?_)
  · rw [if_pos c3] at hf
    refine lv_iconst (v := (-1)) hx hb dX12_works_30 (by decide) ?_
    have hz := Option.some.inj hf
    subst hz
    exact rtc_i hC hw dX12_works_31
  · rw [if_neg c3] at hf
    refine lv_aload_n hx hb dX12_works_13 rfl (lv_at hl 0 rfl) ?_
    refine lv_iload_n hx hb dX12_works_14 rfl (lv_at hl 2 rfl) ?_
    obtain ⟨z4, ez4, hf⟩ := bd_e hf
    refine clc_Vi hC hw (c_X12_isHistory ez4) hd_X12_isHistory cw_X12_194 (Nat.le_of_ble_eq_true rfl) rfl rfl (rest := []) hl.1 rfl (Nat.le_of_ble_eq_true rfl) ⟨Nat.le_of_ble_eq_true rfl, Nat.le_of_ble_eq_true rfl⟩ ⟨Nat.zero_le _, Nat.zero_le _⟩ rfl dX12_works_15 (fun H locs hw => ?_)
    refine lv_if_eq (tgt := 30) hx hb dX12_works_18 (by decide) (fun c5 => ?_) (fun c5 => ?_)
    · rw [if_pos c5] at hf
      refine lv_iconst (v := (-1)) hx hb dX12_works_30 (by decide) ?_
      have hz := Option.some.inj hf
      subst hz
      exact rtc_i hC hw dX12_works_31
    · rw [if_neg c5] at hf
      refine lv_iload_n hx hb dX12_works_21 rfl (lv_at hl 3 rfl) ?_
      refine lv_iload hx hb dX12_works_22 (lv_at hl 4 rfl) ?_
      obtain ⟨z6, ez6, hf⟩ := sq_e hf
      refine clc_Si hC hw (c_X12_isThen ez6.symm) hd_X12_isThen cw_X12_197 (rest := []) hl.1 rfl (Nat.le_of_ble_eq_true rfl) ⟨Nat.le_of_ble_eq_true rfl, Nat.le_of_ble_eq_true rfl⟩ ⟨Nat.zero_le _, Nat.zero_le _⟩ rfl dX12_works_24 (fun H locs hw => ?_)
      refine lv_if_ne (tgt := 32) hx hb dX12_works_27 (by decide) (fun c7 => ?_) (fun c7 => ?_)
      · rw [if_neg c7] at hf
        refine lv_iconst (v := 0) hx hb dX12_works_32 (by decide) ?_
        refine lv_istore (lv' := [(5, .int 0), (0, .ref (ad 0)), (1, .int x1), (2, .int x2), (3, .int x3), (4, .int x4)]) hx hb dX12_works_33 hl (by decide) rfl (fun ls hl => ?_)
        refine lv_iconst (v := 0) hx hb dX12_works_35 (by decide) ?_
        refine lv_istore (lv' := [(6, .int 0), (5, .int 0), (0, .ref (ad 0)), (1, .int x1), (2, .int x2), (3, .int x3), (4, .int x4)]) hx hb dX12_works_36 hl (by decide) rfl (fun ls hl => ?_)
        exact k_X12_works_38l hC fu_ _ _ _ _ _ _ _ _ _ _ hf hw (lv_sub hl [2, 3, 4, 5, 6, 1, 0] rfl)
      · rw [if_pos c7] at hf
        refine lv_iconst (v := (-1)) hx hb dX12_works_30 (by decide) ?_
        have hz := Option.some.inj hf
        subst hz
        exact rtc_i hC hw dX12_works_31
set_option maxRecDepth 100000 in
theorem c_X12_works {l : Launch} {D : va_G} {cy : Nat → ClassId} {z0 : Nat} {ad : Nat → Nat} {u : Nat × Nat} {X : va_W} {z : (Int32 × mm_M)} {x1 : Int32} {x2 : Int32} {x3 : Int32} {x4 : Int32} {M : mm_M} (hf : f_X12_works x1 x2 x3 x4 M = some z) : ct_i rf_T l yX12_works (Cond.code yX12_works cX12_works 9 (some .int)) 4 95 D cy z0 ad u M X [.ref (ad 0), .int x1, .int x2, .int x3, .int x4] z.1 z.2 := by
  refine bgc_i (by decide) (fun p e s m below meth c hC hw => ?_)
  refine en_t (Nat.le_of_ble_eq_true rfl) (fun ls hl => ?_)
  have hl : lv_has ls 9 [(0, .ref (ad 0)), (1, .int x1), (2, .int x2), (3, .int x3), (4, .int x4)] := hl
  exact k_X12_works hC hf hw hl
set_option maxRecDepth 100000 in
set_option maxHeartbeats 4000000 in
theorem k_X12_isMark_117 {p : Program} {l : Launch} {e : Env} {s : State} {m : MethodId} {args : Array Value} {below : List Frame} {meth : Method} {c : Code} {D : va_G} {cy : Nat → ClassId} {z0 : Nat} {ad : Nat → Nat} {X : va_W} {u : Nat × Nat} (hC : cx_C p s m args meth c cX12_isMark "RhymedThenModel" (Cond.code yX12_isMark cX12_isMark 9 (some .boolean)) 9 (some .boolean)) {z : Int32} {M : mm_M} (hf : f_X12_isMark_117 M = z) {H : Heap} {locs : List Loc} (hw : wd_in rf_T D cy z0 ad u M X s H locs) {ls : Array Slot} (hl : lv_has ls 9 []) : W p l e { frames := 2, cells := 0, slots := 0, locals := 46 } s m args below meth c H locs 0 0 (MQ below (cq_i rf_T D cy z0 ad u X z M) args s 0 0 (fun q => z0 ≤ q)) (F0 m 117 ls []) := by
  have hx := hC.1
  have hb := hC.2.1
  unfold f_X12_isMark_117 at hf
  refine lv_iconst (v := 1) hx hb dX12_isMark_117 (by decide) ?_
  refine lv_goto (tgt := 122) hx hb dX12_isMark_118 (by decide) ?_
  subst hf
  exact rtc_z hC hw (Or.inr rfl) dX12_isMark_122
set_option maxRecDepth 100000 in
set_option maxHeartbeats 4000000 in
theorem k_X12_isMark_99 {p : Program} {l : Launch} {e : Env} {s : State} {m : MethodId} {args : Array Value} {below : List Frame} {meth : Method} {c : Code} {D : va_G} {cy : Nat → ClassId} {z0 : Nat} {ad : Nat → Nat} {X : va_W} {u : Nat × Nat} (hC : cx_C p s m args meth c cX12_isMark "RhymedThenModel" (Cond.code yX12_isMark cX12_isMark 9 (some .boolean)) 9 (some .boolean)) {z : Int32} {x1 : Int32} {x6 : Int32} {M : mm_M} (hf : f_X12_isMark_99 x1 x6 M = z) {H : Heap} {locs : List Loc} (hw : wd_in rf_T D cy z0 ad u M X s H locs) {ls : Array Slot} (hl : lv_has ls 9 [(1, .int x1), (6, .int x6)]) : W p l e { frames := 2, cells := 0, slots := 0, locals := 46 } s m args below meth c H locs 0 0 (MQ below (cq_i rf_T D cy z0 ad u X z M) args s 0 0 (fun q => z0 ≤ q)) (F0 m 99 ls []) := by
  have hx := hC.1
  have hb := hC.2.1
  unfold f_X12_isMark_99 at hf
  refine lv_iload_n hx hb dX12_isMark_99 rfl (lv_at hl 0 rfl) ?_
  refine lv_iconst (v := 3) hx hb dX12_isMark_100 (by decide) ?_
  refine lv_icmp_ne (tgt := 117) hx hb dX12_isMark_101 (by decide) (fun c18 => ?_) (fun c18 => ?_)
  · rw [if_neg c18] at hf
    exact k_X12_isMark_117 hC hf hw (lv_sub hl [] rfl)
  · rw [if_pos c18] at hf
    refine lv_iload hx hb dX12_isMark_104 (lv_at hl 1 rfl) ?_
    refine lv_i2l hx hb dX12_isMark_106 rfl ?_
    refine lv_lconst (v := 0) hx hb dX12_isMark_107 (by decide) ?_
    refine lv_ldc2 (v := 127) hx hb hC.2.2.2.1 (hC.t wk_X12_224) dX12_isMark_108 ?_
    obtain ⟨z19, ez19, hf⟩ := sq_e hf
    refine clc_Si hC hw (c_X12_in ez19.symm) hd_X12_in cw_X12_29 (rest := []) hl.1 rfl (Nat.le_of_ble_eq_true rfl) ⟨Nat.le_of_ble_eq_true rfl, Nat.le_of_ble_eq_true rfl⟩ ⟨Nat.zero_le _, Nat.zero_le _⟩ rfl dX12_isMark_111 (fun H locs hw => ?_)
    refine lv_if_eq (tgt := 121) hx hb dX12_isMark_114 (by decide) (fun c20 => ?_) (fun c20 => ?_)
    · rw [if_pos c20] at hf
      refine lv_iconst (v := 0) hx hb dX12_isMark_121 (by decide) ?_
      subst hf
      exact rtc_z hC hw (Or.inl rfl) dX12_isMark_122
    · rw [if_neg c20] at hf
      exact k_X12_isMark_117 hC hf hw (lv_sub hl [] rfl)
set_option maxRecDepth 100000 in
set_option maxHeartbeats 4000000 in
theorem k_X12_isMark_74 {p : Program} {l : Launch} {e : Env} {s : State} {m : MethodId} {args : Array Value} {below : List Frame} {meth : Method} {c : Code} {D : va_G} {cy : Nat → ClassId} {z0 : Nat} {ad : Nat → Nat} {X : va_W} {u : Nat × Nat} (hC : cx_C p s m args meth c cX12_isMark "RhymedThenModel" (Cond.code yX12_isMark cX12_isMark 9 (some .boolean)) 9 (some .boolean)) {z : Int32} {x1 : Int32} {x6 : Int32} {t0 : Int32} {M : mm_M} (hf : f_X12_isMark_74 x1 x6 t0 M = z) {H : Heap} {locs : List Loc} (hw : wd_in rf_T D cy z0 ad u M X s H locs) {ls : Array Slot} (hl : lv_has ls 9 [(1, .int x1), (6, .int x6)]) : W p l e { frames := 2, cells := 0, slots := 0, locals := 46 } s m args below meth c H locs 0 0 (MQ below (cq_i rf_T D cy z0 ad u X z M) args s 0 0 (fun q => z0 ≤ q)) (F0 m 74 ls [.int t0]) := by
  have hx := hC.1
  have hb := hC.2.1
  unfold f_X12_isMark_74 at hf
  refine lv_istore (lv' := [(8, .int t0), (1, .int x1), (6, .int x6)]) hx hb dX12_isMark_74 hl (by decide) rfl (fun ls hl => ?_)
  refine lv_iload hx hb dX12_isMark_76 (lv_at hl 0 rfl) ?_
  refine lv_if_eq (tgt := 121) hx hb dX12_isMark_78 (by decide) (fun c14 => ?_) (fun c14 => ?_)
  · rw [if_pos c14] at hf
    refine lv_iconst (v := 0) hx hb dX12_isMark_121 (by decide) ?_
    subst hf
    exact rtc_z hC hw (Or.inl rfl) dX12_isMark_122
  · rw [if_neg c14] at hf
    refine lv_iload_n hx hb dX12_isMark_81 rfl (lv_at hl 1 rfl) ?_
    refine lv_iconst (v := 2) hx hb dX12_isMark_82 (by decide) ?_
    refine lv_icmp_ne (tgt := 99) hx hb dX12_isMark_83 (by decide) (fun c15 => ?_) (fun c15 => ?_)
    · rw [if_neg c15] at hf
      exact k_X12_isMark_99 hC hf hw (lv_sub hl [1, 2] rfl)
    · rw [if_pos c15] at hf
      refine lv_iload hx hb dX12_isMark_86 (lv_at hl 2 rfl) ?_
      refine lv_i2l hx hb dX12_isMark_88 rfl ?_
      refine lv_lconst (v := 0) hx hb dX12_isMark_89 (by decide) ?_
      refine lv_ldc2 (v := 8) hx hb hC.2.2.2.1 (hC.t wk_X12_222) dX12_isMark_90 ?_
      obtain ⟨z16, ez16, hf⟩ := sq_e hf
      refine clc_Si hC hw (c_X12_in ez16.symm) hd_X12_in cw_X12_29 (rest := []) hl.1 rfl (Nat.le_of_ble_eq_true rfl) ⟨Nat.le_of_ble_eq_true rfl, Nat.le_of_ble_eq_true rfl⟩ ⟨Nat.zero_le _, Nat.zero_le _⟩ rfl dX12_isMark_93 (fun H locs hw => ?_)
      refine lv_if_eq (tgt := 121) hx hb dX12_isMark_96 (by decide) (fun c17 => ?_) (fun c17 => ?_)
      · rw [if_pos c17] at hf
        refine lv_iconst (v := 0) hx hb dX12_isMark_121 (by decide) ?_
        subst hf
        exact rtc_z hC hw (Or.inl rfl) dX12_isMark_122
      · rw [if_neg c17] at hf
        exact k_X12_isMark_99 hC hf hw (lv_sub hl [1, 2] rfl)
set_option maxRecDepth 100000 in
set_option maxHeartbeats 4000000 in
theorem k_X12_isMark_69 {p : Program} {l : Launch} {e : Env} {s : State} {m : MethodId} {args : Array Value} {below : List Frame} {meth : Method} {c : Code} {D : va_G} {cy : Nat → ClassId} {z0 : Nat} {ad : Nat → Nat} {X : va_W} {u : Nat × Nat} (hC : cx_C p s m args meth c cX12_isMark "RhymedThenModel" (Cond.code yX12_isMark cX12_isMark 9 (some .boolean)) 9 (some .boolean)) {z : Int32} {x1 : Int32} {x6 : Int32} {M : mm_M} (hf : f_X12_isMark_69 x1 x6 M = z) {H : Heap} {locs : List Loc} (hw : wd_in rf_T D cy z0 ad u M X s H locs) {ls : Array Slot} (hl : lv_has ls 9 [(1, .int x1), (6, .int x6)]) : W p l e { frames := 2, cells := 0, slots := 0, locals := 46 } s m args below meth c H locs 0 0 (MQ below (cq_i rf_T D cy z0 ad u X z M) args s 0 0 (fun q => z0 ≤ q)) (F0 m 69 ls []) := by
  have hx := hC.1
  have hb := hC.2.1
  unfold f_X12_isMark_69 at hf
  refine lv_iconst (v := 1) hx hb dX12_isMark_69 (by decide) ?_
  refine lv_goto (tgt := 74) hx hb dX12_isMark_70 (by decide) ?_
  exact k_X12_isMark_74 hC hf hw (lv_sub hl [0, 1] rfl)
set_option maxRecDepth 100000 in
set_option maxHeartbeats 4000000 in
theorem k_X12_isMark_73 {p : Program} {l : Launch} {e : Env} {s : State} {m : MethodId} {args : Array Value} {below : List Frame} {meth : Method} {c : Code} {D : va_G} {cy : Nat → ClassId} {z0 : Nat} {ad : Nat → Nat} {X : va_W} {u : Nat × Nat} (hC : cx_C p s m args meth c cX12_isMark "RhymedThenModel" (Cond.code yX12_isMark cX12_isMark 9 (some .boolean)) 9 (some .boolean)) {z : Int32} {x1 : Int32} {x6 : Int32} {M : mm_M} (hf : f_X12_isMark_73 x1 x6 M = z) {H : Heap} {locs : List Loc} (hw : wd_in rf_T D cy z0 ad u M X s H locs) {ls : Array Slot} (hl : lv_has ls 9 [(1, .int x1), (6, .int x6)]) : W p l e { frames := 2, cells := 0, slots := 0, locals := 46 } s m args below meth c H locs 0 0 (MQ below (cq_i rf_T D cy z0 ad u X z M) args s 0 0 (fun q => z0 ≤ q)) (F0 m 73 ls []) := by
  have hx := hC.1
  have hb := hC.2.1
  unfold f_X12_isMark_73 at hf
  refine lv_iconst (v := 0) hx hb dX12_isMark_73 (by decide) ?_
  exact k_X12_isMark_74 hC hf hw (lv_sub hl [0, 1] rfl)
set_option maxRecDepth 100000 in
set_option maxHeartbeats 4000000 in
theorem k_X12_isMark_19 {p : Program} {l : Launch} {e : Env} {s : State} {m : MethodId} {args : Array Value} {below : List Frame} {meth : Method} {c : Code} {D : va_G} {cy : Nat → ClassId} {z0 : Nat} {ad : Nat → Nat} {X : va_W} {u : Nat × Nat} (hC : cx_C p s m args meth c cX12_isMark "RhymedThenModel" (Cond.code yX12_isMark cX12_isMark 9 (some .boolean)) 9 (some .boolean)) {z : Int32} {x1 : Int32} {x2 : Int32} {x3 : Int32} {x4 : Int32} {x5 : Int32} {x6 : Int32} {t0 : Int32} {M : mm_M} (hf : f_X12_isMark_19 x1 x2 x3 x4 x5 x6 t0 M = z) {H : Heap} {locs : List Loc} (hw : wd_in rf_T D cy z0 ad u M X s H locs) {ls : Array Slot} (hl : lv_has ls 9 [(0, .ref (ad 0)), (1, .int x1), (2, .int x2), (3, .int x3), (4, .int x4), (5, .int x5), (6, .int x6)]) : W p l e { frames := 2, cells := 0, slots := 0, locals := 46 } s m args below meth c H locs 0 0 (MQ below (cq_i rf_T D cy z0 ad u X z M) args s 0 0 (fun q => z0 ≤ q)) (F0 m 19 ls [.int t0]) := by
  have hx := hC.1
  have hb := hC.2.1
  unfold f_X12_isMark_19 at hf
  refine lv_istore (lv' := [(7, .int t0), (0, .ref (ad 0)), (1, .int x1), (2, .int x2), (3, .int x3), (4, .int x4), (5, .int x5), (6, .int x6)]) hx hb dX12_isMark_19 hl (by decide) rfl (fun ls hl => ?_)
  refine lv_iload_n hx hb dX12_isMark_21 rfl (lv_at hl 2 rfl) ?_
  refine lv_i2l hx hb dX12_isMark_22 rfl ?_
  refine lv_lconst (v := 0) hx hb dX12_isMark_23 (by decide) ?_
  refine lv_ldc2 (v := 4) hx hb hC.2.2.2.1 (hC.t wk_X12_220) dX12_isMark_24 ?_
  obtain ⟨z4, ez4, hf⟩ := sq_e hf
  refine clc_Si hC hw (c_X12_in ez4.symm) hd_X12_in cw_X12_29 (rest := []) hl.1 rfl (Nat.le_of_ble_eq_true rfl) ⟨Nat.le_of_ble_eq_true rfl, Nat.le_of_ble_eq_true rfl⟩ ⟨Nat.zero_le _, Nat.zero_le _⟩ rfl dX12_isMark_27 (fun H locs hw => ?_)
  refine lv_if_eq (tgt := 73) hx hb dX12_isMark_30 (by decide) (fun c5 => ?_) (fun c5 => ?_)
  · rw [if_pos c5] at hf
    exact k_X12_isMark_73 hC hf hw (lv_sub hl [2, 7] rfl)
  · rw [if_neg c5] at hf
    refine lv_aload_n hx hb dX12_isMark_33 rfl (lv_at hl 1 rfl) ?_
    refine lv_iload_n hx hb dX12_isMark_34 rfl (lv_at hl 3 rfl) ?_
    obtain ⟨z6, ez6, hf⟩ := sq_e hf
    refine clc_Vi hC hw (c_X12_isWord ez6.symm) hd_X12_isWord cw_X12_191 (Nat.le_of_ble_eq_true rfl) rfl rfl (rest := []) hl.1 rfl (Nat.le_of_ble_eq_true rfl) ⟨Nat.le_of_ble_eq_true rfl, Nat.le_of_ble_eq_true rfl⟩ ⟨Nat.zero_le _, Nat.zero_le _⟩ rfl dX12_isMark_35 (fun H locs hw => ?_)
    refine lv_if_eq (tgt := 73) hx hb dX12_isMark_38 (by decide) (fun c7 => ?_) (fun c7 => ?_)
    · rw [if_pos c7] at hf
      exact k_X12_isMark_73 hC hf hw (lv_sub hl [2, 7] rfl)
    · rw [if_neg c7] at hf
      refine lv_iload hx hb dX12_isMark_41 (lv_at hl 5 rfl) ?_
      refine lv_iload hx hb dX12_isMark_43 (lv_at hl 6 rfl) ?_
      obtain ⟨z8, ez8, hf⟩ := sq_e hf
      refine clc_Si hC hw (c_X12_isThen ez8.symm) hd_X12_isThen cw_X12_197 (rest := []) hl.1 rfl (Nat.le_of_ble_eq_true rfl) ⟨Nat.le_of_ble_eq_true rfl, Nat.le_of_ble_eq_true rfl⟩ ⟨Nat.zero_le _, Nat.zero_le _⟩ rfl dX12_isMark_45 (fun H locs hw => ?_)
      refine lv_if_eq (tgt := 73) hx hb dX12_isMark_48 (by decide) (fun c9 => ?_) (fun c9 => ?_)
      · rw [if_pos c9] at hf
        exact k_X12_isMark_73 hC hf hw (lv_sub hl [2, 7] rfl)
      · rw [if_neg c9] at hf
        refine lv_iload hx hb dX12_isMark_51 (lv_at hl 0 rfl) ?_
        refine lv_if_eq (tgt := 69) hx hb dX12_isMark_53 (by decide) (fun c10 => ?_) (fun c10 => ?_)
        · rw [if_pos c10] at hf
          exact k_X12_isMark_69 hC hf hw (lv_sub hl [2, 7] rfl)
        · rw [if_neg c10] at hf
          refine lv_aload_n hx hb dX12_isMark_56 rfl (lv_at hl 1 rfl) ?_
          refine lv_iload_n hx hb dX12_isMark_57 rfl (lv_at hl 4 rfl) ?_
          obtain ⟨z11, ez11, hf⟩ := sq_e hf
          refine clc_Vi hC hw (c_X12_isWord ez11.symm) hd_X12_isWord cw_X12_191 (Nat.le_of_ble_eq_true rfl) rfl rfl (rest := []) hl.1 rfl (Nat.le_of_ble_eq_true rfl) ⟨Nat.le_of_ble_eq_true rfl, Nat.le_of_ble_eq_true rfl⟩ ⟨Nat.zero_le _, Nat.zero_le _⟩ rfl dX12_isMark_58 (fun H locs hw => ?_)
          refine lv_if_eq (tgt := 73) hx hb dX12_isMark_61 (by decide) (fun c12 => ?_) (fun c12 => ?_)
          · rw [if_pos c12] at hf
            exact k_X12_isMark_73 hC hf hw (lv_sub hl [2, 7] rfl)
          · rw [if_neg c12] at hf
            refine lv_iload_n hx hb dX12_isMark_64 rfl (lv_at hl 4 rfl) ?_
            refine lv_iload_n hx hb dX12_isMark_65 rfl (lv_at hl 3 rfl) ?_
            refine lv_icmp_eq (tgt := 73) hx hb dX12_isMark_66 (by decide) (fun c13 => ?_) (fun c13 => ?_)
            · rw [if_pos c13] at hf
              exact k_X12_isMark_73 hC hf hw (lv_sub hl [2, 7] rfl)
            · rw [if_neg c13] at hf
              exact k_X12_isMark_69 hC hf hw (lv_sub hl [2, 7] rfl)
set_option maxRecDepth 100000 in
set_option maxHeartbeats 4000000 in
theorem k_X12_isMark_14 {p : Program} {l : Launch} {e : Env} {s : State} {m : MethodId} {args : Array Value} {below : List Frame} {meth : Method} {c : Code} {D : va_G} {cy : Nat → ClassId} {z0 : Nat} {ad : Nat → Nat} {X : va_W} {u : Nat × Nat} (hC : cx_C p s m args meth c cX12_isMark "RhymedThenModel" (Cond.code yX12_isMark cX12_isMark 9 (some .boolean)) 9 (some .boolean)) {z : Int32} {x1 : Int32} {x2 : Int32} {x3 : Int32} {x4 : Int32} {x5 : Int32} {x6 : Int32} {M : mm_M} (hf : f_X12_isMark_14 x1 x2 x3 x4 x5 x6 M = z) {H : Heap} {locs : List Loc} (hw : wd_in rf_T D cy z0 ad u M X s H locs) {ls : Array Slot} (hl : lv_has ls 9 [(0, .ref (ad 0)), (1, .int x1), (2, .int x2), (3, .int x3), (4, .int x4), (5, .int x5), (6, .int x6)]) : W p l e { frames := 2, cells := 0, slots := 0, locals := 46 } s m args below meth c H locs 0 0 (MQ below (cq_i rf_T D cy z0 ad u X z M) args s 0 0 (fun q => z0 ≤ q)) (F0 m 14 ls []) := by
  have hx := hC.1
  have hb := hC.2.1
  unfold f_X12_isMark_14 at hf
  refine lv_iconst (v := 1) hx hb dX12_isMark_14 (by decide) ?_
  refine lv_goto (tgt := 19) hx hb dX12_isMark_15 (by decide) ?_
  exact k_X12_isMark_19 hC hf hw (lv_sub hl [0, 1, 2, 3, 4, 5, 6] rfl)
set_option maxRecDepth 100000 in
set_option maxHeartbeats 4000000 in
theorem k_X12_isMark {p : Program} {l : Launch} {e : Env} {s : State} {m : MethodId} {args : Array Value} {below : List Frame} {meth : Method} {c : Code} {D : va_G} {cy : Nat → ClassId} {z0 : Nat} {ad : Nat → Nat} {X : va_W} {u : Nat × Nat} (hC : cx_C p s m args meth c cX12_isMark "RhymedThenModel" (Cond.code yX12_isMark cX12_isMark 9 (some .boolean)) 9 (some .boolean)) {z : Int32} {x1 : Int32} {x2 : Int32} {x3 : Int32} {x4 : Int32} {x5 : Int32} {x6 : Int32} {M : mm_M} (hf : f_X12_isMark x1 x2 x3 x4 x5 x6 M = z) {H : Heap} {locs : List Loc} (hw : wd_in rf_T D cy z0 ad u M X s H locs) {ls : Array Slot} (hl : lv_has ls 9 [(0, .ref (ad 0)), (1, .int x1), (2, .int x2), (3, .int x3), (4, .int x4), (5, .int x5), (6, .int x6)]) : W p l e { frames := 2, cells := 0, slots := 0, locals := 46 } s m args below meth c H locs 0 0 (MQ below (cq_i rf_T D cy z0 ad u X z M) args s 0 0 (fun q => z0 ≤ q)) (F0 m 0 ls []) := by
  have hx := hC.1
  have hb := hC.2.1
  unfold f_X12_isMark at hf
  refine lv_iload_n hx hb dX12_isMark_0 rfl (lv_at hl 1 rfl) ?_
  refine lv_if_eq (tgt := 14) hx hb dX12_isMark_1 (by decide) (fun c1 => ?_) (fun c1 => ?_)
  · rw [if_pos c1] at hf
    exact k_X12_isMark_14 hC hf hw (lv_sub hl [0, 1, 2, 3, 4, 5, 6] rfl)
  · rw [if_neg c1] at hf
    refine lv_iload_n hx hb dX12_isMark_4 rfl (lv_at hl 1 rfl) ?_
    refine lv_iconst (v := 1) hx hb dX12_isMark_5 (by decide) ?_
    refine lv_icmp_eq (tgt := 14) hx hb dX12_isMark_6 (by decide) (fun c2 => ?_) (fun c2 => ?_)
    · rw [if_pos c2] at hf
      exact k_X12_isMark_14 hC hf hw (lv_sub hl [0, 1, 2, 3, 4, 5, 6] rfl)
    · rw [if_neg c2] at hf
      refine lv_iload_n hx hb dX12_isMark_9 rfl (lv_at hl 1 rfl) ?_
      refine lv_iconst (v := 4) hx hb dX12_isMark_10 (by decide) ?_
      refine lv_icmp_ne (tgt := 18) hx hb dX12_isMark_11 (by decide) (fun c3 => ?_) (fun c3 => ?_)
      · rw [if_neg c3] at hf
        refine lv_iconst (v := 0) hx hb dX12_isMark_18 (by decide) ?_
        exact k_X12_isMark_19 hC hf hw (lv_sub hl [0, 1, 2, 3, 4, 5, 6] rfl)
      · rw [if_pos c3] at hf
        exact k_X12_isMark_14 hC hf hw (lv_sub hl [0, 1, 2, 3, 4, 5, 6] rfl)
set_option maxRecDepth 100000 in
theorem c_X12_isMark {l : Launch} {D : va_G} {cy : Nat → ClassId} {z0 : Nat} {ad : Nat → Nat} {u : Nat × Nat} {X : va_W} {z : Int32} {x1 : Int32} {x2 : Int32} {x3 : Int32} {x4 : Int32} {x5 : Int32} {x6 : Int32} {M : mm_M} (hf : f_X12_isMark x1 x2 x3 x4 x5 x6 M = z) : ct_i rf_T l yX12_isMark (Cond.code yX12_isMark cX12_isMark 9 (some .boolean)) 2 46 D cy z0 ad u M X [.ref (ad 0), .int x1, .int x2, .int x3, .int x4, .int x5, .int x6] z M := by
  refine bgc_i (by decide) (fun p e s m below meth c hC hw => ?_)
  refine en_t (Nat.le_of_ble_eq_true rfl) (fun ls hl => ?_)
  have hl : lv_has ls 9 [(0, .ref (ad 0)), (1, .int x1), (2, .int x2), (3, .int x3), (4, .int x4), (5, .int x5), (6, .int x6)] := hl
  exact k_X12_isMark hC hf hw hl
set_option maxRecDepth 100000 in
set_option maxHeartbeats 4000000 in
theorem k_X12_lays {p : Program} {l : Launch} {e : Env} {s : State} {m : MethodId} {args : Array Value} {below : List Frame} {meth : Method} {c : Code} {D : va_G} {cy : Nat → ClassId} {z0 : Nat} {ad : Nat → Nat} {X : va_W} {u : Nat × Nat} (hC : cx_C p s m args meth c cX12_lays "RhymedThenModel" (Cond.code yX12_lays cX12_lays 8 none) 8 none) {z : mm_M} {x1 : Int32} {x2 : Int32} {x3 : Int32} {x4 : Int32} {x5 : Int32} {x6 : Int32} {x7 : Int32} {M : mm_M} (hf : f_X12_lays x1 x2 x3 x4 x5 x6 x7 M = some z) {H : Heap} {locs : List Loc} (hw : wd_in rf_T D cy z0 ad u M X s H locs) {ls : Array Slot} (hl : lv_has ls 8 [(0, .ref (ad 0)), (1, .int x1), (2, .int x2), (3, .int x3), (4, .int x4), (5, .int x5), (6, .int x6), (7, .int x7)]) : W p l e { frames := 0, cells := 0, slots := 0, locals := 0 } s m args below meth c H locs 0 0 (MQ below (cq_v rf_T D cy z0 ad u X z) args s 0 0 (fun q => z0 ≤ q)) (F0 m 0 ls []) := by
  have hx := hC.1
  have hb := hC.2.1
  unfold f_X12_lays at hf
  refine lv_aload_n hx hb dX12_lays_0 rfl (lv_at hl 0 rfl) ?_
  refine rg_p hC hw 0 (Nat.le_of_ble_eq_true rfl) rfl fd_X12_29 wf_X12_226 (q := 18) rfl dX12_lays_1 ?_
  refine lv_iload_n hx hb dX12_lays_4 rfl (lv_at hl 1 rfl) ?_
  refine lv_iload_n hx hb dX12_lays_5 rfl (lv_at hl 2 rfl) ?_
  obtain ⟨h1, hf⟩ := ck_e hf
  obtain ⟨M2, eM2, hf⟩ := sq_e hf
  refine rs_i hC hw 18 (Nat.le_of_ble_eq_true rfl) rfl h1 dX12_lays_6 eM2 (fun H locs hw => ?_)
  refine lv_aload_n hx hb dX12_lays_7 rfl (lv_at hl 0 rfl) ?_
  refine rg_p hC hw 0 (Nat.le_of_ble_eq_true rfl) rfl fd_X12_30 wf_X12_229 (q := 19) rfl dX12_lays_8 ?_
  refine lv_iload_n hx hb dX12_lays_11 rfl (lv_at hl 1 rfl) ?_
  refine lv_iload_n hx hb dX12_lays_12 rfl (lv_at hl 3 rfl) ?_
  obtain ⟨h3, hf⟩ := ck_e hf
  obtain ⟨M4, eM4, hf⟩ := sq_e hf
  refine rs_i hC hw 19 (Nat.le_of_ble_eq_true rfl) rfl h3 dX12_lays_13 eM4 (fun H locs hw => ?_)
  refine lv_aload_n hx hb dX12_lays_14 rfl (lv_at hl 0 rfl) ?_
  refine rg_p hC hw 0 (Nat.le_of_ble_eq_true rfl) rfl fd_X12_31 wf_X12_232 (q := 20) rfl dX12_lays_15 ?_
  refine lv_iload_n hx hb dX12_lays_18 rfl (lv_at hl 1 rfl) ?_
  refine lv_iload hx hb dX12_lays_19 (lv_at hl 4 rfl) ?_
  obtain ⟨h5, hf⟩ := ck_e hf
  obtain ⟨M6, eM6, hf⟩ := sq_e hf
  refine rs_i hC hw 20 (Nat.le_of_ble_eq_true rfl) rfl h5 dX12_lays_21 eM6 (fun H locs hw => ?_)
  refine lv_aload_n hx hb dX12_lays_22 rfl (lv_at hl 0 rfl) ?_
  refine rg_p hC hw 0 (Nat.le_of_ble_eq_true rfl) rfl fd_X12_32 wf_X12_235 (q := 21) rfl dX12_lays_23 ?_
  refine lv_iload_n hx hb dX12_lays_26 rfl (lv_at hl 1 rfl) ?_
  refine lv_iload hx hb dX12_lays_27 (lv_at hl 5 rfl) ?_
  obtain ⟨h7, hf⟩ := ck_e hf
  obtain ⟨M8, eM8, hf⟩ := sq_e hf
  refine rs_i hC hw 21 (Nat.le_of_ble_eq_true rfl) rfl h7 dX12_lays_29 eM8 (fun H locs hw => ?_)
  refine lv_aload_n hx hb dX12_lays_30 rfl (lv_at hl 0 rfl) ?_
  refine rg_p hC hw 0 (Nat.le_of_ble_eq_true rfl) rfl fd_X12_33 wf_X12_238 (q := 22) rfl dX12_lays_31 ?_
  refine lv_iload_n hx hb dX12_lays_34 rfl (lv_at hl 1 rfl) ?_
  refine lv_iload hx hb dX12_lays_35 (lv_at hl 6 rfl) ?_
  obtain ⟨h9, hf⟩ := ck_e hf
  obtain ⟨M10, eM10, hf⟩ := sq_e hf
  refine rs_i hC hw 22 (Nat.le_of_ble_eq_true rfl) rfl h9 dX12_lays_37 eM10 (fun H locs hw => ?_)
  refine lv_aload_n hx hb dX12_lays_38 rfl (lv_at hl 0 rfl) ?_
  refine rg_p hC hw 0 (Nat.le_of_ble_eq_true rfl) rfl fd_X12_34 wf_X12_241 (q := 23) rfl dX12_lays_39 ?_
  refine lv_iload_n hx hb dX12_lays_42 rfl (lv_at hl 1 rfl) ?_
  refine lv_iload hx hb dX12_lays_43 (lv_at hl 7 rfl) ?_
  obtain ⟨h11, hf⟩ := ck_e hf
  obtain ⟨M12, eM12, hf⟩ := sq_e hf
  refine rs_i hC hw 23 (Nat.le_of_ble_eq_true rfl) rfl h11 dX12_lays_45 eM12 (fun H locs hw => ?_)
  refine lv_aload_n hx hb dX12_lays_46 rfl (lv_at hl 0 rfl) ?_
  refine rg_p hC hw 0 (Nat.le_of_ble_eq_true rfl) rfl fd_X12_35 wf_X12_244 (q := 24) rfl dX12_lays_47 ?_
  refine lv_iload_n hx hb dX12_lays_50 rfl (lv_at hl 1 rfl) ?_
  refine lv_iconst (v := 0) hx hb dX12_lays_51 (by decide) ?_
  obtain ⟨h13, hf⟩ := ck_e hf
  obtain ⟨M14, eM14, hf⟩ := sq_e hf
  refine rs_i hC hw 24 (Nat.le_of_ble_eq_true rfl) rfl h13 dX12_lays_52 eM14 (fun H locs hw => ?_)
  refine lv_aload_n hx hb dX12_lays_53 rfl (lv_at hl 0 rfl) ?_
  refine rg_p hC hw 0 (Nat.le_of_ble_eq_true rfl) rfl fd_X12_36 wf_X12_247 (q := 25) rfl dX12_lays_54 ?_
  refine lv_iload_n hx hb dX12_lays_57 rfl (lv_at hl 1 rfl) ?_
  refine lv_iconst (v := 5) hx hb dX12_lays_58 (by decide) ?_
  obtain ⟨h15, hf⟩ := ck_e hf
  obtain ⟨M16, eM16, hf⟩ := sq_e hf
  refine rs_i hC hw 25 (Nat.le_of_ble_eq_true rfl) rfl h15 dX12_lays_59 eM16 (fun H locs hw => ?_)
  refine lv_aload_n hx hb dX12_lays_60 rfl (lv_at hl 0 rfl) ?_
  refine rg_p hC hw 0 (Nat.le_of_ble_eq_true rfl) rfl fd_X12_37 wf_X12_250 (q := 26) rfl dX12_lays_61 ?_
  refine lv_iload_n hx hb dX12_lays_64 rfl (lv_at hl 1 rfl) ?_
  refine lv_iconst (v := 1) hx hb dX12_lays_65 (by decide) ?_
  obtain ⟨h17, hf⟩ := ck_e hf
  obtain ⟨M18, eM18, hf⟩ := sq_e hf
  refine rs_z hC hw 26 (Nat.le_of_ble_eq_true rfl) rfl h17 dX12_lays_66 eM18 (fun H locs hw => ?_)
  have hz := Option.some.inj hf
  subst hz
  exact rtc_v hC hw dX12_lays_67
set_option maxRecDepth 100000 in
theorem c_X12_lays {l : Launch} {D : va_G} {cy : Nat → ClassId} {z0 : Nat} {ad : Nat → Nat} {u : Nat × Nat} {X : va_W} {z : mm_M} {x1 : Int32} {x2 : Int32} {x3 : Int32} {x4 : Int32} {x5 : Int32} {x6 : Int32} {x7 : Int32} {M : mm_M} (hf : f_X12_lays x1 x2 x3 x4 x5 x6 x7 M = some z) : ct_v rf_T l yX12_lays (Cond.code yX12_lays cX12_lays 8 none) 0 0 D cy z0 ad u M X [.ref (ad 0), .int x1, .int x2, .int x3, .int x4, .int x5, .int x6, .int x7] z := by
  refine bgc_v (by decide) (fun p e s m below meth c hC hw => ?_)
  refine en_t (Nat.le_of_ble_eq_true rfl) (fun ls hl => ?_)
  have hl : lv_has ls 8 [(0, .ref (ad 0)), (1, .int x1), (2, .int x2), (3, .int x3), (4, .int x4), (5, .int x5), (6, .int x6), (7, .int x7)] := hl
  exact k_X12_lays hC hf hw hl
set_option maxRecDepth 100000 in
set_option maxHeartbeats 4000000 in
theorem k_X12_mark {p : Program} {l : Launch} {e : Env} {s : State} {m : MethodId} {args : Array Value} {below : List Frame} {meth : Method} {c : Code} {D : va_G} {cy : Nat → ClassId} {z0 : Nat} {ad : Nat → Nat} {X : va_W} {u : Nat × Nat} (hC : cx_C p s m args meth c cX12_mark "RhymedThenModel" (Cond.code yX12_mark cX12_mark 7 (some .int)) 7 (some .int)) {z : (Int32 × mm_M)} {x1 : Int32} {x2 : Int32} {x3 : Int32} {x4 : Int32} {x5 : Int32} {x6 : Int32} {M : mm_M} (hf : f_X12_mark x1 x2 x3 x4 x5 x6 M = some z) {H : Heap} {locs : List Loc} (hw : wd_in rf_T D cy z0 ad u M X s H locs) {ls : Array Slot} (hl : lv_has ls 7 [(0, .ref (ad 0)), (1, .int x1), (2, .int x2), (3, .int x3), (4, .int x4), (5, .int x5), (6, .int x6)]) : W p l e { frames := 3, cells := 0, slots := 0, locals := 74 } s m args below meth c H locs 0 0 (MQ below (cq_i rf_T D cy z0 ad u X z.1 z.2) args s 0 0 (fun q => z0 ≤ q)) (F0 m 0 ls []) := by
  have hx := hC.1
  have hb := hC.2.1
  unfold f_X12_mark at hf
  refine lv_aload_n hx hb dX12_mark_0 rfl (lv_at hl 0 rfl) ?_
  refine lv_iconst (v := 0) hx hb dX12_mark_1 (by decide) ?_
  obtain ⟨M1, eM1, hf⟩ := sq_e hf
  refine rp_i hC hw 0 (Nat.le_of_ble_eq_true rfl) rfl fd_X12_0 wf_X12_1 fp_X12_0 rfl rfl dX12_mark_2 eM1 (fun H locs hw => ?_)
  refine lv_aload_n hx hb dX12_mark_5 rfl (lv_at hl 0 rfl) ?_
  refine lv_iload_n hx hb dX12_mark_6 rfl (lv_at hl 1 rfl) ?_
  refine lv_iload_n hx hb dX12_mark_7 rfl (lv_at hl 2 rfl) ?_
  refine lv_iload_n hx hb dX12_mark_8 rfl (lv_at hl 3 rfl) ?_
  refine lv_iload hx hb dX12_mark_9 (lv_at hl 4 rfl) ?_
  refine lv_iload hx hb dX12_mark_11 (lv_at hl 5 rfl) ?_
  refine lv_iload hx hb dX12_mark_13 (lv_at hl 6 rfl) ?_
  obtain ⟨z2, ez2, hf⟩ := sq_e hf
  refine clc_Vi hC hw (c_X12_isMark ez2.symm) hd_X12_isMark cw_X12_254 (Nat.le_of_ble_eq_true rfl) rfl rfl (rest := []) hl.1 rfl (Nat.le_of_ble_eq_true rfl) ⟨Nat.le_of_ble_eq_true rfl, Nat.le_of_ble_eq_true rfl⟩ ⟨Nat.zero_le _, Nat.zero_le _⟩ rfl dX12_mark_15 (fun H locs hw => ?_)
  refine lv_if_eq (tgt := 30) hx hb dX12_mark_18 (by decide) (fun c3 => ?_) (fun c3 => ?_)
  · rw [if_pos c3] at hf
    refine lv_iconst (v := (-1)) hx hb dX12_mark_30 (by decide) ?_
    have hz := Option.some.inj hf
    subst hz
    exact rtc_i hC hw dX12_mark_31
  · rw [if_neg c3] at hf
    refine lv_aload_n hx hb dX12_mark_21 rfl (lv_at hl 0 rfl) ?_
    refine rg_i hC hw 0 (Nat.le_of_ble_eq_true rfl) rfl fd_X12_28 wf_X12_258 dX12_mark_22 ?_
    refine lv_bipush (v := 16) hx hb dX12_mark_25 (by decide) ?_
    refine lv_icmp_ne (tgt := 32) hx hb dX12_mark_27 (by decide) (fun c4 => ?_) (fun c4 => ?_)
    · rw [if_neg c4] at hf
      refine lv_aload_n hx hb dX12_mark_32 rfl (lv_at hl 0 rfl) ?_
      refine lv_aload_n hx hb dX12_mark_33 rfl (lv_at hl 0 rfl) ?_
      refine rg_i hC hw 0 (Nat.le_of_ble_eq_true rfl) rfl fd_X12_28 wf_X12_258 dX12_mark_34 ?_
      refine lv_iload_n hx hb dX12_mark_37 rfl (lv_at hl 1 rfl) ?_
      refine lv_iload_n hx hb dX12_mark_38 rfl (lv_at hl 2 rfl) ?_
      refine lv_iload_n hx hb dX12_mark_39 rfl (lv_at hl 3 rfl) ?_
      refine lv_iload hx hb dX12_mark_40 (lv_at hl 4 rfl) ?_
      refine lv_iload hx hb dX12_mark_42 (lv_at hl 5 rfl) ?_
      refine lv_iload hx hb dX12_mark_44 (lv_at hl 6 rfl) ?_
      obtain ⟨z5, ez5, hf⟩ := bd_e hf
      refine clc_Vv hC hw (c_X12_lays ez5) hd_X12_lays cw_X12_261 (Nat.le_of_ble_eq_true rfl) rfl rfl (rest := []) hl.1 rfl (Nat.le_of_ble_eq_true rfl) ⟨Nat.le_of_ble_eq_true rfl, Nat.le_of_ble_eq_true rfl⟩ ⟨Nat.zero_le _, Nat.zero_le _⟩ rfl dX12_mark_46 (fun H locs hw => ?_)
      refine lv_aload_n hx hb dX12_mark_49 rfl (lv_at hl 0 rfl) ?_
      refine lv_dup hx hb dX12_mark_50 rfl ?_
      refine rg_i hC hw 0 (Nat.le_of_ble_eq_true rfl) rfl fd_X12_28 wf_X12_258 dX12_mark_51 ?_
      refine lv_iconst (v := 1) hx hb dX12_mark_54 (by decide) ?_
      refine lv_iadd hx hb dX12_mark_55 ?_
      obtain ⟨M6, eM6, hf⟩ := sq_e hf
      refine rp_i hC hw 0 (Nat.le_of_ble_eq_true rfl) rfl fd_X12_28 wf_X12_258 fp_X12_28 rfl rfl dX12_mark_56 eM6 (fun H locs hw => ?_)
      refine lv_aload_n hx hb dX12_mark_59 rfl (lv_at hl 0 rfl) ?_
      refine rg_i hC hw 0 (Nat.le_of_ble_eq_true rfl) rfl fd_X12_28 wf_X12_258 dX12_mark_60 ?_
      refine lv_iconst (v := 1) hx hb dX12_mark_63 (by decide) ?_
      refine lv_isub hx hb dX12_mark_64 ?_
      have hz := Option.some.inj hf
      subst hz
      exact rtc_i hC hw dX12_mark_65
    · rw [if_pos c4] at hf
      refine lv_iconst (v := (-1)) hx hb dX12_mark_30 (by decide) ?_
      have hz := Option.some.inj hf
      subst hz
      exact rtc_i hC hw dX12_mark_31
set_option maxRecDepth 100000 in
theorem c_X12_mark {l : Launch} {D : va_G} {cy : Nat → ClassId} {z0 : Nat} {ad : Nat → Nat} {u : Nat × Nat} {X : va_W} {z : (Int32 × mm_M)} {x1 : Int32} {x2 : Int32} {x3 : Int32} {x4 : Int32} {x5 : Int32} {x6 : Int32} {M : mm_M} (hf : f_X12_mark x1 x2 x3 x4 x5 x6 M = some z) : ct_i rf_T l yX12_mark (Cond.code yX12_mark cX12_mark 7 (some .int)) 3 74 D cy z0 ad u M X [.ref (ad 0), .int x1, .int x2, .int x3, .int x4, .int x5, .int x6] z.1 z.2 := by
  refine bgc_i (by decide) (fun p e s m below meth c hC hw => ?_)
  refine en_t (Nat.le_of_ble_eq_true rfl) (fun ls hl => ?_)
  have hl : lv_has ls 7 [(0, .ref (ad 0)), (1, .int x1), (2, .int x2), (3, .int x3), (4, .int x4), (5, .int x5), (6, .int x6)] := hl
  exact k_X12_mark hC hf hw hl
set_option maxRecDepth 100000 in
set_option maxHeartbeats 4000000 in
theorem k_X12_isSign {p : Program} {l : Launch} {e : Env} {s : State} {m : MethodId} {args : Array Value} {below : List Frame} {meth : Method} {c : Code} {D : va_G} {cy : Nat → ClassId} {z0 : Nat} {ad : Nat → Nat} {X : va_W} {u : Nat × Nat} (hC : cx_C p s m args meth c cX12_isSign "RhymedThenModel" (Cond.code yX12_isSign cX12_isSign 2 (some .boolean)) 2 (some .boolean)) {z : Int32} {x1 : Int32} {M : mm_M} (hf : f_X12_isSign x1 M = z) {H : Heap} {locs : List Loc} (hw : wd_in rf_T D cy z0 ad u M X s H locs) {ls : Array Slot} (hl : lv_has ls 2 [(0, .ref (ad 0)), (1, .int x1)]) : W p l e { frames := 1, cells := 0, slots := 0, locals := 25 } s m args below meth c H locs 0 0 (MQ below (cq_i rf_T D cy z0 ad u X z M) args s 0 0 (fun q => z0 ≤ q)) (F0 m 0 ls []) := by
  have hx := hC.1
  have hb := hC.2.1
  unfold f_X12_isSign at hf
  refine lv_iload_n hx hb dX12_isSign_0 rfl (lv_at hl 1 rfl) ?_
  refine lv_i2l hx hb dX12_isSign_1 rfl ?_
  refine lv_lconst (v := 0) hx hb dX12_isSign_2 (by decide) ?_
  refine lv_aload_n hx hb dX12_isSign_3 rfl (lv_at hl 0 rfl) ?_
  refine rg_i hC hw 0 (Nat.le_of_ble_eq_true rfl) rfl fd_X12_28 wf_X12_258 dX12_isSign_4 ?_
  refine lv_iconst (v := 1) hx hb dX12_isSign_7 (by decide) ?_
  refine lv_isub hx hb dX12_isSign_8 ?_
  refine lv_i2l hx hb dX12_isSign_9 rfl ?_
  obtain ⟨z1, ez1, hf⟩ := sq_e hf
  refine clc_Si hC hw (c_X12_in ez1.symm) hd_X12_in cw_X12_29 (rest := []) hl.1 rfl (Nat.le_of_ble_eq_true rfl) ⟨Nat.le_of_ble_eq_true rfl, Nat.le_of_ble_eq_true rfl⟩ ⟨Nat.zero_le _, Nat.zero_le _⟩ rfl dX12_isSign_10 (fun H locs hw => ?_)
  subst hf
  exact rtc_z hC hw (bz_X12_in ez1.symm) dX12_isSign_13
set_option maxRecDepth 100000 in
theorem c_X12_isSign {l : Launch} {D : va_G} {cy : Nat → ClassId} {z0 : Nat} {ad : Nat → Nat} {u : Nat × Nat} {X : va_W} {z : Int32} {x1 : Int32} {M : mm_M} (hf : f_X12_isSign x1 M = z) : ct_i rf_T l yX12_isSign (Cond.code yX12_isSign cX12_isSign 2 (some .boolean)) 1 25 D cy z0 ad u M X [.ref (ad 0), .int x1] z M := by
  refine bgc_i (by decide) (fun p e s m below meth c hC hw => ?_)
  refine en_t (Nat.le_of_ble_eq_true rfl) (fun ls hl => ?_)
  have hl : lv_has ls 2 [(0, .ref (ad 0)), (1, .int x1)] := hl
  exact k_X12_isSign hC hf hw hl
set_option maxRecDepth 100000 in
set_option maxHeartbeats 4000000 in
theorem k_X12_by {p : Program} {l : Launch} {e : Env} {s : State} {m : MethodId} {args : Array Value} {below : List Frame} {meth : Method} {c : Code} {D : va_G} {cy : Nat → ClassId} {z0 : Nat} {ad : Nat → Nat} {X : va_W} {u : Nat × Nat} (hC : cx_C p s m args meth c cX12_by "RhymedThenModel" (Cond.code yX12_by cX12_by 4 (some .boolean)) 4 (some .boolean)) {z : (Int32 × mm_M)} {x1 : Int32} {x2 : Int32} {x3 : Int32} {M : mm_M} (hf : f_X12_by x1 x2 x3 M = some z) {H : Heap} {locs : List Loc} (hw : wd_in rf_T D cy z0 ad u M X s H locs) {ls : Array Slot} (hl : lv_has ls 4 [(0, .ref (ad 0)), (1, .int x1), (2, .int x2), (3, .int x3)]) : W p l e { frames := 2, cells := 0, slots := 0, locals := 46 } s m args below meth c H locs 0 0 (MQ below (cq_i rf_T D cy z0 ad u X z.1 z.2) args s 0 0 (fun q => z0 ≤ q)) (F0 m 0 ls []) := by
  have hx := hC.1
  have hb := hC.2.1
  unfold f_X12_by at hf
  refine lv_aload_n hx hb dX12_by_0 rfl (lv_at hl 0 rfl) ?_
  refine lv_iconst (v := 0) hx hb dX12_by_1 (by decide) ?_
  obtain ⟨M1, eM1, hf⟩ := sq_e hf
  refine rp_i hC hw 0 (Nat.le_of_ble_eq_true rfl) rfl fd_X12_0 wf_X12_1 fp_X12_0 rfl rfl dX12_by_2 eM1 (fun H locs hw => ?_)
  refine lv_aload_n hx hb dX12_by_5 rfl (lv_at hl 0 rfl) ?_
  refine lv_iload_n hx hb dX12_by_6 rfl (lv_at hl 1 rfl) ?_
  obtain ⟨z2, ez2, hf⟩ := sq_e hf
  refine clc_Vi hC hw (c_X12_isSign ez2.symm) hd_X12_isSign cw_X12_265 (Nat.le_of_ble_eq_true rfl) rfl rfl (rest := []) hl.1 rfl (Nat.le_of_ble_eq_true rfl) ⟨Nat.le_of_ble_eq_true rfl, Nat.le_of_ble_eq_true rfl⟩ ⟨Nat.zero_le _, Nat.zero_le _⟩ rfl dX12_by_7 (fun H locs hw => ?_)
  refine lv_if_eq (tgt := 37) hx hb dX12_by_10 (by decide) (fun c3 => ?_) (fun c3 => ?_)
  · rw [if_pos c3] at hf
    refine lv_iconst (v := 0) hx hb dX12_by_37 (by decide) ?_
    have hz := Option.some.inj hf
    subst hz
    exact rtc_z hC hw (Or.inl rfl) dX12_by_38
  · rw [if_neg c3] at hf
    refine lv_iload_n hx hb dX12_by_13 rfl (lv_at hl 2 rfl) ?_
    refine lv_i2l hx hb dX12_by_14 rfl ?_
    refine lv_lconst (v := 0) hx hb dX12_by_15 (by decide) ?_
    refine lv_ldc2 (v := 5) hx hb hC.2.2.2.1 (hC.t wk_X12_62) dX12_by_16 ?_
    obtain ⟨z4, ez4, hf⟩ := sq_e hf
    refine clc_Si hC hw (c_X12_in ez4.symm) hd_X12_in cw_X12_29 (rest := []) hl.1 rfl (Nat.le_of_ble_eq_true rfl) ⟨Nat.le_of_ble_eq_true rfl, Nat.le_of_ble_eq_true rfl⟩ ⟨Nat.zero_le _, Nat.zero_le _⟩ rfl dX12_by_19 (fun H locs hw => ?_)
    refine lv_if_eq (tgt := 37) hx hb dX12_by_22 (by decide) (fun c5 => ?_) (fun c5 => ?_)
    · rw [if_pos c5] at hf
      refine lv_iconst (v := 0) hx hb dX12_by_37 (by decide) ?_
      have hz := Option.some.inj hf
      subst hz
      exact rtc_z hC hw (Or.inl rfl) dX12_by_38
    · rw [if_neg c5] at hf
      refine lv_iload_n hx hb dX12_by_25 rfl (lv_at hl 3 rfl) ?_
      refine lv_i2l hx hb dX12_by_26 rfl ?_
      refine lv_lconst (v := 1) hx hb dX12_by_27 (by decide) ?_
      refine lv_ldc2 (v := 9) hx hb hC.2.2.2.1 (hC.t wk_X12_268) dX12_by_28 ?_
      obtain ⟨z6, ez6, hf⟩ := sq_e hf
      refine clc_Si hC hw (c_X12_in ez6.symm) hd_X12_in cw_X12_29 (rest := []) hl.1 rfl (Nat.le_of_ble_eq_true rfl) ⟨Nat.le_of_ble_eq_true rfl, Nat.le_of_ble_eq_true rfl⟩ ⟨Nat.zero_le _, Nat.zero_le _⟩ rfl dX12_by_31 (fun H locs hw => ?_)
      refine lv_if_ne (tgt := 39) hx hb dX12_by_34 (by decide) (fun c7 => ?_) (fun c7 => ?_)
      · rw [if_neg c7] at hf
        refine lv_aload_n hx hb dX12_by_39 rfl (lv_at hl 0 rfl) ?_
        refine rg_p hC hw 0 (Nat.le_of_ble_eq_true rfl) rfl fd_X12_35 wf_X12_244 (q := 24) rfl dX12_by_40 ?_
        refine lv_iload_n hx hb dX12_by_43 rfl (lv_at hl 1 rfl) ?_
        refine lv_iload_n hx hb dX12_by_44 rfl (lv_at hl 2 rfl) ?_
        obtain ⟨h8, hf⟩ := ck_e hf
        obtain ⟨M9, eM9, hf⟩ := sq_e hf
        refine rs_i hC hw 24 (Nat.le_of_ble_eq_true rfl) rfl h8 dX12_by_45 eM9 (fun H locs hw => ?_)
        refine lv_aload_n hx hb dX12_by_46 rfl (lv_at hl 0 rfl) ?_
        refine rg_p hC hw 0 (Nat.le_of_ble_eq_true rfl) rfl fd_X12_36 wf_X12_247 (q := 25) rfl dX12_by_47 ?_
        refine lv_iload_n hx hb dX12_by_50 rfl (lv_at hl 1 rfl) ?_
        refine lv_iload_n hx hb dX12_by_51 rfl (lv_at hl 3 rfl) ?_
        obtain ⟨h10, hf⟩ := ck_e hf
        obtain ⟨M11, eM11, hf⟩ := sq_e hf
        refine rs_i hC hw 25 (Nat.le_of_ble_eq_true rfl) rfl h10 dX12_by_52 eM11 (fun H locs hw => ?_)
        refine lv_iconst (v := 1) hx hb dX12_by_53 (by decide) ?_
        have hz := Option.some.inj hf
        subst hz
        exact rtc_z hC hw (Or.inr rfl) dX12_by_54
      · rw [if_pos c7] at hf
        refine lv_iconst (v := 0) hx hb dX12_by_37 (by decide) ?_
        have hz := Option.some.inj hf
        subst hz
        exact rtc_z hC hw (Or.inl rfl) dX12_by_38
set_option maxRecDepth 100000 in
theorem c_X12_by {l : Launch} {D : va_G} {cy : Nat → ClassId} {z0 : Nat} {ad : Nat → Nat} {u : Nat × Nat} {X : va_W} {z : (Int32 × mm_M)} {x1 : Int32} {x2 : Int32} {x3 : Int32} {M : mm_M} (hf : f_X12_by x1 x2 x3 M = some z) : ct_i rf_T l yX12_by (Cond.code yX12_by cX12_by 4 (some .boolean)) 2 46 D cy z0 ad u M X [.ref (ad 0), .int x1, .int x2, .int x3] z.1 z.2 := by
  refine bgc_i (by decide) (fun p e s m below meth c hC hw => ?_)
  refine en_t (Nat.le_of_ble_eq_true rfl) (fun ls hl => ?_)
  have hl : lv_has ls 4 [(0, .ref (ad 0)), (1, .int x1), (2, .int x2), (3, .int x3)] := hl
  exact k_X12_by hC hf hw hl
set_option maxRecDepth 100000 in
set_option maxHeartbeats 4000000 in
theorem k_X12_turn {p : Program} {l : Launch} {e : Env} {s : State} {m : MethodId} {args : Array Value} {below : List Frame} {meth : Method} {c : Code} {D : va_G} {cy : Nat → ClassId} {z0 : Nat} {ad : Nat → Nat} {X : va_W} {u : Nat × Nat} (hC : cx_C p s m args meth c cX12_turn "RhymedThenModel" (Cond.code yX12_turn cX12_turn 3 (some .boolean)) 3 (some .boolean)) {z : (Int32 × mm_M)} {x1 : Int32} {x2 : Int32} {M : mm_M} (hf : f_X12_turn x1 x2 M = some z) {H : Heap} {locs : List Loc} (hw : wd_in rf_T D cy z0 ad u M X s H locs) {ls : Array Slot} (hl : lv_has ls 3 [(0, .ref (ad 0)), (1, .int x1), (2, .int x2)]) : W p l e { frames := 2, cells := 0, slots := 0, locals := 46 } s m args below meth c H locs 0 0 (MQ below (cq_i rf_T D cy z0 ad u X z.1 z.2) args s 0 0 (fun q => z0 ≤ q)) (F0 m 0 ls []) := by
  have hx := hC.1
  have hb := hC.2.1
  unfold f_X12_turn at hf
  refine lv_aload_n hx hb dX12_turn_0 rfl (lv_at hl 0 rfl) ?_
  refine lv_iconst (v := 0) hx hb dX12_turn_1 (by decide) ?_
  obtain ⟨M1, eM1, hf⟩ := sq_e hf
  refine rp_i hC hw 0 (Nat.le_of_ble_eq_true rfl) rfl fd_X12_0 wf_X12_1 fp_X12_0 rfl rfl dX12_turn_2 eM1 (fun H locs hw => ?_)
  refine lv_aload_n hx hb dX12_turn_5 rfl (lv_at hl 0 rfl) ?_
  refine lv_iload_n hx hb dX12_turn_6 rfl (lv_at hl 1 rfl) ?_
  obtain ⟨z2, ez2, hf⟩ := sq_e hf
  refine clc_Vi hC hw (c_X12_isSign ez2.symm) hd_X12_isSign cw_X12_265 (Nat.le_of_ble_eq_true rfl) rfl rfl (rest := []) hl.1 rfl (Nat.le_of_ble_eq_true rfl) ⟨Nat.le_of_ble_eq_true rfl, Nat.le_of_ble_eq_true rfl⟩ ⟨Nat.zero_le _, Nat.zero_le _⟩ rfl dX12_turn_7 (fun H locs hw => ?_)
  refine lv_if_ne (tgt := 15) hx hb dX12_turn_10 (by decide) (fun c3 => ?_) (fun c3 => ?_)
  · rw [if_neg c3] at hf
    refine lv_aload_n hx hb dX12_turn_15 rfl (lv_at hl 0 rfl) ?_
    refine rg_p hC hw 0 (Nat.le_of_ble_eq_true rfl) rfl fd_X12_37 wf_X12_250 (q := 26) rfl dX12_turn_16 ?_
    refine lv_iload_n hx hb dX12_turn_19 rfl (lv_at hl 1 rfl) ?_
    refine lv_iload_n hx hb dX12_turn_20 rfl (lv_at hl 2 rfl) ?_
    obtain ⟨h4, hf⟩ := ck_e hf
    obtain ⟨M5, eM5, hf⟩ := sq_e hf
    refine rs_z hC hw 26 (Nat.le_of_ble_eq_true rfl) rfl h4 dX12_turn_21 eM5 (fun H locs hw => ?_)
    refine lv_iconst (v := 1) hx hb dX12_turn_22 (by decide) ?_
    have hz := Option.some.inj hf
    subst hz
    exact rtc_z hC hw (Or.inr rfl) dX12_turn_23
  · rw [if_pos c3] at hf
    refine lv_iconst (v := 0) hx hb dX12_turn_13 (by decide) ?_
    have hz := Option.some.inj hf
    subst hz
    exact rtc_z hC hw (Or.inl rfl) dX12_turn_14
set_option maxRecDepth 100000 in
theorem c_X12_turn {l : Launch} {D : va_G} {cy : Nat → ClassId} {z0 : Nat} {ad : Nat → Nat} {u : Nat × Nat} {X : va_W} {z : (Int32 × mm_M)} {x1 : Int32} {x2 : Int32} {M : mm_M} (hf : f_X12_turn x1 x2 M = some z) : ct_i rf_T l yX12_turn (Cond.code yX12_turn cX12_turn 3 (some .boolean)) 2 46 D cy z0 ad u M X [.ref (ad 0), .int x1, .int x2] z.1 z.2 := by
  refine bgc_i (by decide) (fun p e s m below meth c hC hw => ?_)
  refine en_t (Nat.le_of_ble_eq_true rfl) (fun ls hl => ?_)
  have hl : lv_has ls 3 [(0, .ref (ad 0)), (1, .int x1), (2, .int x2)] := hl
  exact k_X12_turn hC hf hw hl
set_option maxRecDepth 100000 in
set_option maxHeartbeats 4000000 in
theorem k_X12_isHeld_78 {p : Program} {l : Launch} {e : Env} {s : State} {m : MethodId} {args : Array Value} {below : List Frame} {meth : Method} {c : Code} {D : va_G} {cy : Nat → ClassId} {z0 : Nat} {ad : Nat → Nat} {X : va_W} {u : Nat × Nat} (hC : cx_C p s m args meth c cX12_isHeld "RhymedThenModel" (Cond.code yX12_isHeld cX12_isHeld 5 (some .boolean)) 5 (some .boolean)) {z : (Int32 × mm_M)} {x1 : Int32} {x3 : Int32} {M : mm_M} (hf : f_X12_isHeld_78 x1 x3 M = some z) {H : Heap} {locs : List Loc} (hw : wd_in rf_T D cy z0 ad u M X s H locs) {ls : Array Slot} (hl : lv_has ls 5 [(0, .ref (ad 0)), (1, .int x1), (3, .int x3)]) : W p l e { frames := 5, cells := 0, slots := 0, locals := 121 } s m args below meth c H locs 0 0 (MQ below (cq_i rf_T D cy z0 ad u X z.1 z.2) args s 0 0 (fun q => z0 ≤ q)) (F0 m 78 ls []) := by
  have hx := hC.1
  have hb := hC.2.1
  unfold f_X12_isHeld_78 at hf
  refine lv_iload_n hx hb dX12_isHeld_78 rfl (lv_at hl 2 rfl) ?_
  refine lv_aload_n hx hb dX12_isHeld_79 rfl (lv_at hl 0 rfl) ?_
  refine rg_p hC hw 0 (Nat.le_of_ble_eq_true rfl) rfl fd_X12_34 wf_X12_241 (q := 23) rfl dX12_isHeld_80 ?_
  refine lv_iload_n hx hb dX12_isHeld_83 rfl (lv_at hl 1 rfl) ?_
  obtain ⟨h34, hf⟩ := ck_e hf
  refine ra_i hC hw 23 (Nat.le_of_ble_eq_true rfl) rfl h34 dX12_isHeld_84 ?_
  refine lv_icmp_ne (tgt := 92) hx hb dX12_isHeld_85 (by decide) (fun c35 => ?_) (fun c35 => ?_)
  · rw [if_neg c35] at hf
    refine lv_iconst (v := 0) hx hb dX12_isHeld_92 (by decide) ?_
    have hz := Option.some.inj hf
    subst hz
    exact rtc_z hC hw (Or.inl rfl) dX12_isHeld_93
  · rw [if_pos c35] at hf
    refine lv_iconst (v := 1) hx hb dX12_isHeld_88 (by decide) ?_
    refine lv_goto (tgt := 93) hx hb dX12_isHeld_89 (by decide) ?_
    have hz := Option.some.inj hf
    subst hz
    exact rtc_z hC hw (Or.inr rfl) dX12_isHeld_93
set_option maxRecDepth 100000 in
set_option maxHeartbeats 4000000 in
theorem k_X12_isHeld_39 {p : Program} {l : Launch} {e : Env} {s : State} {m : MethodId} {args : Array Value} {below : List Frame} {meth : Method} {c : Code} {D : va_G} {cy : Nat → ClassId} {z0 : Nat} {ad : Nat → Nat} {X : va_W} {u : Nat × Nat} (hC : cx_C p s m args meth c cX12_isHeld "RhymedThenModel" (Cond.code yX12_isHeld cX12_isHeld 5 (some .boolean)) 5 (some .boolean)) {z : (Int32 × mm_M)} {x1 : Int32} {x3 : Int32} {x4 : Int32} {M : mm_M} {q39 : Int32 → Int32 → Int32 → mm_M → Option (Int32 × mm_M)} (hq39 : ∀ (x1 : Int32) (x3 : Int32) (x4 : Int32) (M : mm_M) (H : Heap) (locs : List Loc) (ls : Array Slot), q39 x1 x3 x4 M = some z → wd_in rf_T D cy z0 ad u M X s H locs → lv_has ls 5 [(0, .ref (ad 0)), (1, .int x1), (3, .int x3), (4, .int x4)] → W p l e { frames := 5, cells := 0, slots := 0, locals := 121 } s m args below meth c H locs 0 0 (MQ below (cq_i rf_T D cy z0 ad u X z.1 z.2) args s 0 0 (fun q => z0 ≤ q)) (F0 m 39 ls [])) (hf : f_X12_isHeld_39 q39 x1 x3 x4 M = some z) {H : Heap} {locs : List Loc} (hw : wd_in rf_T D cy z0 ad u M X s H locs) {ls : Array Slot} (hl : lv_has ls 5 [(0, .ref (ad 0)), (1, .int x1), (3, .int x3), (4, .int x4)]) : W p l e { frames := 5, cells := 0, slots := 0, locals := 121 } s m args below meth c H locs 0 0 (MQ below (cq_i rf_T D cy z0 ad u X z.1 z.2) args s 0 0 (fun q => z0 ≤ q)) (F0 m 39 ls []) := by
  have hx := hC.1
  have hb := hC.2.1
  unfold f_X12_isHeld_39 at hf
  refine lv_iload hx hb dX12_isHeld_39 (lv_at hl 3 rfl) ?_
  refine lv_aload_n hx hb dX12_isHeld_41 rfl (lv_at hl 0 rfl) ?_
  refine rg_p hC hw 0 (Nat.le_of_ble_eq_true rfl) rfl fd_X12_21 wf_X12_155 (q := 15) rfl dX12_isHeld_42 ?_
  refine lv_iconst (v := 0) hx hb dX12_isHeld_45 (by decide) ?_
  refine ra_i hC hw 15 (Nat.le_of_ble_eq_true rfl) rfl (by decide) dX12_isHeld_46 ?_
  refine lv_icmp_ge (tgt := 78) hx hb dX12_isHeld_47 (by decide) (fun c28 => ?_) (fun c28 => ?_)
  · rw [if_pos c28] at hf
    exact k_X12_isHeld_78 hC hf hw (lv_sub hl [0, 1, 2] rfl)
  · rw [if_neg c28] at hf
    refine lv_iload_n hx hb dX12_isHeld_50 rfl (lv_at hl 2 rfl) ?_
    refine lv_aload_n hx hb dX12_isHeld_51 rfl (lv_at hl 0 rfl) ?_
    refine rg_p hC hw 0 (Nat.le_of_ble_eq_true rfl) rfl fd_X12_7 wf_X12_66 (q := 3) rfl dX12_isHeld_52 ?_
    refine lv_iconst (v := 0) hx hb dX12_isHeld_55 (by decide) ?_
    refine ra_i hC hw 3 (Nat.le_of_ble_eq_true rfl) rfl (by decide) dX12_isHeld_56 ?_
    refine lv_aload_n hx hb dX12_isHeld_57 rfl (lv_at hl 0 rfl) ?_
    refine rg_p hC hw 0 (Nat.le_of_ble_eq_true rfl) rfl fd_X12_20 wf_X12_158 (q := 14) rfl dX12_isHeld_58 ?_
    refine lv_iload hx hb dX12_isHeld_61 (lv_at hl 3 rfl) ?_
    obtain ⟨h29, hf⟩ := ck_e hf
    refine ra_i hC hw 14 (Nat.le_of_ble_eq_true rfl) rfl h29 dX12_isHeld_63 ?_
    obtain ⟨z30, ez30, hf⟩ := sq_e hf
    refine clc_Si hC hw (c_X12_has ez30.symm) hd_X12_has cw_X12_136 (rest := [.int x3]) hl.1 rfl (Nat.le_of_ble_eq_true rfl) ⟨Nat.le_of_ble_eq_true rfl, Nat.le_of_ble_eq_true rfl⟩ ⟨Nat.zero_le _, Nat.zero_le _⟩ rfl dX12_isHeld_64 (fun H locs hw => ?_)
    obtain ⟨z31, ez31, hf⟩ := sq_e hf
    refine clc_Si hC hw (c_X12_truth ez31.symm) hd_X12_truth cw_X12_39 (rest := [.int x3]) hl.1 rfl (Nat.le_of_ble_eq_true rfl) ⟨Nat.le_of_ble_eq_true rfl, Nat.le_of_ble_eq_true rfl⟩ ⟨Nat.zero_le _, Nat.zero_le _⟩ rfl dX12_isHeld_67 (fun H locs hw => ?_)
    refine lv_iadd hx hb dX12_isHeld_70 ?_
    obtain ⟨y32, ey32, hf⟩ := sq_e hf
    refine lt_i ey32 ?_
    refine lv_istore_n (lv' := [(3, .int y32), (0, .ref (ad 0)), (1, .int x1), (4, .int x4)]) hx hb dX12_isHeld_71 rfl hl (by decide) rfl (fun ls hl => ?_)
    obtain ⟨y33, ey33, hf⟩ := sq_e hf
    refine lv_iinc (v := y33) (lv' := [(4, .int y33), (3, .int y32), (0, .ref (ad 0)), (1, .int x1)]) hx hb dX12_isHeld_72 hl (k := 3) rfl (by rw [ey33]; rfl) (by decide) rfl (fun ls hl => ?_)
    refine lv_goto (tgt := 39) hx hb dX12_isHeld_75 (by decide) ?_
    exact hq39 _ _ _ _ _ _ _ hf hw (lv_sub hl [2, 3, 1, 0] rfl)
set_option maxRecDepth 100000 in
set_option maxHeartbeats 4000000 in
theorem k_X12_isHeld_39l {p : Program} {l : Launch} {e : Env} {s : State} {m : MethodId} {args : Array Value} {below : List Frame} {meth : Method} {c : Code} {D : va_G} {cy : Nat → ClassId} {z0 : Nat} {ad : Nat → Nat} {X : va_W} {u : Nat × Nat} (hC : cx_C p s m args meth c cX12_isHeld "RhymedThenModel" (Cond.code yX12_isHeld cX12_isHeld 5 (some .boolean)) 5 (some .boolean)) {z : (Int32 × mm_M)} : ∀ (n : Nat) (x1 : Int32) (x3 : Int32) (x4 : Int32) (M : mm_M) (H : Heap) (locs : List Loc) (ls : Array Slot), f_X12_isHeld_39l n x1 x3 x4 M = some z → wd_in rf_T D cy z0 ad u M X s H locs → lv_has ls 5 [(0, .ref (ad 0)), (1, .int x1), (3, .int x3), (4, .int x4)] → W p l e { frames := 5, cells := 0, slots := 0, locals := 121 } s m args below meth c H locs 0 0 (MQ below (cq_i rf_T D cy z0 ad u X z.1 z.2) args s 0 0 (fun q => z0 ≤ q)) (F0 m 39 ls []) := by
  intro n
  induction n with
  | zero => intro x1 x3 x4 M H locs ls hf; exact absurd hf (by simp [f_X12_isHeld_39l])
  | succ n ih => intro x1 x3 x4 M H locs ls hf hw hl; exact k_X12_isHeld_39 hC ih hf hw hl
set_option maxRecDepth 100000 in
set_option maxHeartbeats 4000000 in
theorem k_X12_isHeld_214 {p : Program} {l : Launch} {e : Env} {s : State} {m : MethodId} {args : Array Value} {below : List Frame} {meth : Method} {c : Code} {D : va_G} {cy : Nat → ClassId} {z0 : Nat} {ad : Nat → Nat} {X : va_W} {u : Nat × Nat} (hC : cx_C p s m args meth c cX12_isHeld "RhymedThenModel" (Cond.code yX12_isHeld cX12_isHeld 5 (some .boolean)) 5 (some .boolean)) {z : (Int32 × mm_M)} {t0 : Int32} {t1 : Int32} {M : mm_M} (hf : f_X12_isHeld_214 t0 t1 M = some z) {H : Heap} {locs : List Loc} (hw : wd_in rf_T D cy z0 ad u M X s H locs) {ls : Array Slot} (hl : lv_has ls 5 []) : W p l e { frames := 5, cells := 0, slots := 0, locals := 121 } s m args below meth c H locs 0 0 (MQ below (cq_i rf_T D cy z0 ad u X z.1 z.2) args s 0 0 (fun q => z0 ≤ q)) (F0 m 214 ls [.int t1, .int t0]) := by
  have hx := hC.1
  have hb := hC.2.1
  unfold f_X12_isHeld_214 at hf
  refine lv_icmp_ne (tgt := 221) hx hb dX12_isHeld_214 (by decide) (fun c27 => ?_) (fun c27 => ?_)
  · rw [if_neg c27] at hf
    refine lv_iconst (v := 0) hx hb dX12_isHeld_221 (by decide) ?_
    have hz := Option.some.inj hf
    subst hz
    exact rtc_z hC hw (Or.inl rfl) dX12_isHeld_222
  · rw [if_pos c27] at hf
    refine lv_iconst (v := 1) hx hb dX12_isHeld_217 (by decide) ?_
    refine lv_goto (tgt := 222) hx hb dX12_isHeld_218 (by decide) ?_
    have hz := Option.some.inj hf
    subst hz
    exact rtc_z hC hw (Or.inr rfl) dX12_isHeld_222
set_option maxRecDepth 100000 in
set_option maxHeartbeats 4000000 in
theorem k_X12_isHeld {p : Program} {l : Launch} {e : Env} {s : State} {m : MethodId} {args : Array Value} {below : List Frame} {meth : Method} {c : Code} {D : va_G} {cy : Nat → ClassId} {z0 : Nat} {ad : Nat → Nat} {X : va_W} {u : Nat × Nat} (hC : cx_C p s m args meth c cX12_isHeld "RhymedThenModel" (Cond.code yX12_isHeld cX12_isHeld 5 (some .boolean)) 5 (some .boolean)) {z : (Int32 × mm_M)} {x1 : Int32} {x2 : Int32} {M : mm_M} (hf : f_X12_isHeld x1 x2 M = some z) {H : Heap} {locs : List Loc} (hw : wd_in rf_T D cy z0 ad u M X s H locs) {ls : Array Slot} (hl : lv_has ls 5 [(0, .ref (ad 0)), (1, .int x1), (2, .int x2)]) : W p l e { frames := 5, cells := 0, slots := 0, locals := 121 } s m args below meth c H locs 0 0 (MQ below (cq_i rf_T D cy z0 ad u X z.1 z.2) args s 0 0 (fun q => z0 ≤ q)) (F0 m 0 ls []) := by
  have hx := hC.1
  have hb := hC.2.1
  unfold f_X12_isHeld at hf
  refine lv_aload_n hx hb dX12_isHeld_0 rfl (lv_at hl 0 rfl) ?_
  refine lv_iconst (v := 0) hx hb dX12_isHeld_1 (by decide) ?_
  refine lv_aload_n hx hb dX12_isHeld_2 rfl (lv_at hl 0 rfl) ?_
  refine rg_p hC hw 0 (Nat.le_of_ble_eq_true rfl) rfl fd_X12_30 wf_X12_229 (q := 19) rfl dX12_isHeld_3 ?_
  refine lv_iload_n hx hb dX12_isHeld_6 rfl (lv_at hl 1 rfl) ?_
  obtain ⟨h1, hf⟩ := ck_e hf
  refine ra_i hC hw 19 (Nat.le_of_ble_eq_true rfl) rfl h1 dX12_isHeld_7 ?_
  refine lv_iload_n hx hb dX12_isHeld_8 rfl (lv_at hl 2 rfl) ?_
  refine lv_aload_n hx hb dX12_isHeld_9 rfl (lv_at hl 0 rfl) ?_
  refine rg_p hC hw 0 (Nat.le_of_ble_eq_true rfl) rfl fd_X12_32 wf_X12_235 (q := 21) rfl dX12_isHeld_10 ?_
  refine lv_iload_n hx hb dX12_isHeld_13 rfl (lv_at hl 1 rfl) ?_
  obtain ⟨h2, hf⟩ := ck_e hf
  refine ra_i hC hw 21 (Nat.le_of_ble_eq_true rfl) rfl h2 dX12_isHeld_14 ?_
  refine lv_aload_n hx hb dX12_isHeld_15 rfl (lv_at hl 0 rfl) ?_
  refine rg_p hC hw 0 (Nat.le_of_ble_eq_true rfl) rfl fd_X12_33 wf_X12_238 (q := 22) rfl dX12_isHeld_16 ?_
  refine lv_iload_n hx hb dX12_isHeld_19 rfl (lv_at hl 1 rfl) ?_
  obtain ⟨h3, hf⟩ := ck_e hf
  refine ra_i hC hw 22 (Nat.le_of_ble_eq_true rfl) rfl h3 dX12_isHeld_20 ?_
  obtain ⟨z4, ez4, hf⟩ := bd_e hf
  refine clc_Vv hC hw (c_X12_says ez4) hd_X12_says cw_X12_200 (Nat.le_of_ble_eq_true rfl) rfl rfl (rest := []) hl.1 rfl (Nat.le_of_ble_eq_true rfl) ⟨Nat.le_of_ble_eq_true rfl, Nat.le_of_ble_eq_true rfl⟩ ⟨Nat.zero_le _, Nat.zero_le _⟩ rfl dX12_isHeld_21 (fun H locs hw => ?_)
  refine lv_aload_n hx hb dX12_isHeld_24 rfl (lv_at hl 0 rfl) ?_
  refine rg_p hC hw 0 (Nat.le_of_ble_eq_true rfl) rfl fd_X12_29 wf_X12_226 (q := 18) rfl dX12_isHeld_25 ?_
  refine lv_iload_n hx hb dX12_isHeld_28 rfl (lv_at hl 1 rfl) ?_
  obtain ⟨h5, hf⟩ := ck_e hf
  refine ra_i hC hw 18 (Nat.le_of_ble_eq_true rfl) rfl h5 dX12_isHeld_29 ?_
  refine lv_iconst (v := 2) hx hb dX12_isHeld_30 (by decide) ?_
  refine lv_icmp_ne (tgt := 94) hx hb dX12_isHeld_31 (by decide) (fun c6 => ?_) (fun c6 => ?_)
  · rw [if_neg c6] at hf
    refine lv_aload_n hx hb dX12_isHeld_94 rfl (lv_at hl 0 rfl) ?_
    refine rg_p hC hw 0 (Nat.le_of_ble_eq_true rfl) rfl fd_X12_29 wf_X12_226 (q := 18) rfl dX12_isHeld_95 ?_
    refine lv_iload_n hx hb dX12_isHeld_98 rfl (lv_at hl 1 rfl) ?_
    obtain ⟨h7, hf⟩ := ck_e hf
    refine ra_i hC hw 18 (Nat.le_of_ble_eq_true rfl) rfl h7 dX12_isHeld_99 ?_
    refine lv_iconst (v := 3) hx hb dX12_isHeld_100 (by decide) ?_
    refine lv_icmp_ne (tgt := 148) hx hb dX12_isHeld_101 (by decide) (fun c8 => ?_) (fun c8 => ?_)
    · rw [if_neg c8] at hf
      refine lv_aload_n hx hb dX12_isHeld_148 rfl (lv_at hl 0 rfl) ?_
      refine lv_iconst (v := 1) hx hb dX12_isHeld_149 (by decide) ?_
      refine lv_aload_n hx hb dX12_isHeld_150 rfl (lv_at hl 0 rfl) ?_
      refine rg_p hC hw 0 (Nat.le_of_ble_eq_true rfl) rfl fd_X12_31 wf_X12_232 (q := 20) rfl dX12_isHeld_151 ?_
      refine lv_iload_n hx hb dX12_isHeld_154 rfl (lv_at hl 1 rfl) ?_
      obtain ⟨h9, hf⟩ := ck_e hf
      refine ra_i hC hw 20 (Nat.le_of_ble_eq_true rfl) rfl h9 dX12_isHeld_155 ?_
      refine lv_iload_n hx hb dX12_isHeld_156 rfl (lv_at hl 2 rfl) ?_
      refine lv_aload_n hx hb dX12_isHeld_157 rfl (lv_at hl 0 rfl) ?_
      refine rg_p hC hw 0 (Nat.le_of_ble_eq_true rfl) rfl fd_X12_32 wf_X12_235 (q := 21) rfl dX12_isHeld_158 ?_
      refine lv_iload_n hx hb dX12_isHeld_161 rfl (lv_at hl 1 rfl) ?_
      obtain ⟨h10, hf⟩ := ck_e hf
      refine ra_i hC hw 21 (Nat.le_of_ble_eq_true rfl) rfl h10 dX12_isHeld_162 ?_
      refine lv_aload_n hx hb dX12_isHeld_163 rfl (lv_at hl 0 rfl) ?_
      refine rg_p hC hw 0 (Nat.le_of_ble_eq_true rfl) rfl fd_X12_33 wf_X12_238 (q := 22) rfl dX12_isHeld_164 ?_
      refine lv_iload_n hx hb dX12_isHeld_167 rfl (lv_at hl 1 rfl) ?_
      obtain ⟨h11, hf⟩ := ck_e hf
      refine ra_i hC hw 22 (Nat.le_of_ble_eq_true rfl) rfl h11 dX12_isHeld_168 ?_
      obtain ⟨z12, ez12, hf⟩ := bd_e hf
      refine clc_Vv hC hw (c_X12_says ez12) hd_X12_says cw_X12_200 (Nat.le_of_ble_eq_true rfl) rfl rfl (rest := []) hl.1 rfl (Nat.le_of_ble_eq_true rfl) ⟨Nat.le_of_ble_eq_true rfl, Nat.le_of_ble_eq_true rfl⟩ ⟨Nat.zero_le _, Nat.zero_le _⟩ rfl dX12_isHeld_169 (fun H locs hw => ?_)
      refine lv_aload_n hx hb dX12_isHeld_172 rfl (lv_at hl 0 rfl) ?_
      refine rg_p hC hw 0 (Nat.le_of_ble_eq_true rfl) rfl fd_X12_29 wf_X12_226 (q := 18) rfl dX12_isHeld_173 ?_
      refine lv_iload_n hx hb dX12_isHeld_176 rfl (lv_at hl 1 rfl) ?_
      obtain ⟨h13, hf⟩ := ck_e hf
      refine ra_i hC hw 18 (Nat.le_of_ble_eq_true rfl) rfl h13 dX12_isHeld_177 ?_
      refine lv_iconst (v := 1) hx hb dX12_isHeld_178 (by decide) ?_
      refine lv_icmp_ne (tgt := 189) hx hb dX12_isHeld_179 (by decide) (fun c14 => ?_) (fun c14 => ?_)
      · rw [if_neg c14] at hf
        refine lv_aload_n hx hb dX12_isHeld_189 rfl (lv_at hl 0 rfl) ?_
        obtain ⟨z15, ez15, hf⟩ := bd_e hf
        refine clc_Vi hC hw (c_X12_haveTails ez15) hd_X12_haveTails cw_X12_182 (Nat.le_of_ble_eq_true rfl) rfl rfl (rest := []) hl.1 rfl (Nat.le_of_ble_eq_true rfl) ⟨Nat.le_of_ble_eq_true rfl, Nat.le_of_ble_eq_true rfl⟩ ⟨Nat.zero_le _, Nat.zero_le _⟩ rfl dX12_isHeld_190 (fun H locs hw => ?_)
        refine lv_if_eq (tgt := 221) hx hb dX12_isHeld_193 (by decide) (fun c16 => ?_) (fun c16 => ?_)
        · rw [if_pos c16] at hf
          refine lv_iconst (v := 0) hx hb dX12_isHeld_221 (by decide) ?_
          have hz := Option.some.inj hf
          subst hz
          exact rtc_z hC hw (Or.inl rfl) dX12_isHeld_222
        · rw [if_neg c16] at hf
          refine lv_aload_n hx hb dX12_isHeld_196 rfl (lv_at hl 0 rfl) ?_
          obtain ⟨z17, ez17, hf⟩ := bd_e hf
          refine clc_Vi hC hw (c_X12_areTailsAlike ez17) hd_X12_areTailsAlike cw_X12_186 (Nat.le_of_ble_eq_true rfl) rfl rfl (rest := []) hl.1 rfl (Nat.le_of_ble_eq_true rfl) ⟨Nat.le_of_ble_eq_true rfl, Nat.le_of_ble_eq_true rfl⟩ ⟨Nat.zero_le _, Nat.zero_le _⟩ rfl dX12_isHeld_197 (fun H locs hw => ?_)
          refine lv_aload_n hx hb dX12_isHeld_200 rfl (lv_at hl 0 rfl) ?_
          refine rg_p hC hw 0 (Nat.le_of_ble_eq_true rfl) rfl fd_X12_29 wf_X12_226 (q := 18) rfl dX12_isHeld_201 ?_
          refine lv_iload_n hx hb dX12_isHeld_204 rfl (lv_at hl 1 rfl) ?_
          obtain ⟨h18, hf⟩ := ck_e hf
          refine ra_i hC hw 18 (Nat.le_of_ble_eq_true rfl) rfl h18 dX12_isHeld_205 ?_
          refine lv_if_ne (tgt := 213) hx hb dX12_isHeld_206 (by decide) (fun c19 => ?_) (fun c19 => ?_)
          · rw [if_neg c19] at hf
            refine lv_iconst (v := 0) hx hb dX12_isHeld_213 (by decide) ?_
            exact k_X12_isHeld_214 hC hf hw (lv_sub hl [] rfl)
          · rw [if_pos c19] at hf
            refine lv_iconst (v := 1) hx hb dX12_isHeld_209 (by decide) ?_
            refine lv_goto (tgt := 214) hx hb dX12_isHeld_210 (by decide) ?_
            exact k_X12_isHeld_214 hC hf hw (lv_sub hl [] rfl)
      · rw [if_pos c14] at hf
        refine lv_aload_n hx hb dX12_isHeld_182 rfl (lv_at hl 0 rfl) ?_
        obtain ⟨z20, ez20, hf⟩ := bd_e hf
        refine clc_Vi hC hw (c_X12_areAlike ez20) hd_X12_areAlike cw_X12_204 (Nat.le_of_ble_eq_true rfl) rfl rfl (rest := []) hl.1 rfl (Nat.le_of_ble_eq_true rfl) ⟨Nat.le_of_ble_eq_true rfl, Nat.le_of_ble_eq_true rfl⟩ ⟨Nat.zero_le _, Nat.zero_le _⟩ rfl dX12_isHeld_183 (fun H locs hw => ?_)
        refine lv_goto (tgt := 222) hx hb dX12_isHeld_186 (by decide) ?_
        have hz := Option.some.inj hf
        subst hz
        exact rtc_z hC hw (bz_X12_areAlike ez20) dX12_isHeld_222
    · rw [if_pos c8] at hf
      refine lv_aload_n hx hb dX12_isHeld_104 rfl (lv_at hl 0 rfl) ?_
      refine rg_p hC hw 0 (Nat.le_of_ble_eq_true rfl) rfl fd_X12_34 wf_X12_241 (q := 23) rfl dX12_isHeld_105 ?_
      refine lv_iload_n hx hb dX12_isHeld_108 rfl (lv_at hl 1 rfl) ?_
      obtain ⟨h21, hf⟩ := ck_e hf
      refine ra_i hC hw 23 (Nat.le_of_ble_eq_true rfl) rfl h21 dX12_isHeld_109 ?_
      refine lv_bipush (v := 16) hx hb dX12_isHeld_110 (by decide) ?_
      refine lv_idiv hx hb dX12_isHeld_112 (by decide) ?_
      obtain ⟨y22, ey22, hf⟩ := sq_e hf
      refine lt_i ey22 ?_
      refine lv_istore_n (lv' := [(3, .int y22), (0, .ref (ad 0)), (1, .int x1), (2, .int x2)]) hx hb dX12_isHeld_113 rfl hl (by decide) rfl (fun ls hl => ?_)
      refine lv_iload_n hx hb dX12_isHeld_114 rfl (lv_at hl 0 rfl) ?_
      refine lv_aload_n hx hb dX12_isHeld_115 rfl (lv_at hl 1 rfl) ?_
      refine rg_p hC hw 0 (Nat.le_of_ble_eq_true rfl) rfl fd_X12_21 wf_X12_155 (q := 15) rfl dX12_isHeld_116 ?_
      refine lv_iconst (v := 0) hx hb dX12_isHeld_119 (by decide) ?_
      refine ra_i hC hw 15 (Nat.le_of_ble_eq_true rfl) rfl (by decide) dX12_isHeld_120 ?_
      refine lv_icmp_ge (tgt := 146) hx hb dX12_isHeld_121 (by decide) (fun c23 => ?_) (fun c23 => ?_)
      · rw [if_pos c23] at hf
        refine lv_iconst (v := 0) hx hb dX12_isHeld_146 (by decide) ?_
        have hz := Option.some.inj hf
        subst hz
        exact rtc_z hC hw (Or.inl rfl) dX12_isHeld_147
      · rw [if_neg c23] at hf
        refine lv_aload_n hx hb dX12_isHeld_124 rfl (lv_at hl 1 rfl) ?_
        refine rg_p hC hw 0 (Nat.le_of_ble_eq_true rfl) rfl fd_X12_20 wf_X12_158 (q := 14) rfl dX12_isHeld_125 ?_
        refine lv_iload_n hx hb dX12_isHeld_128 rfl (lv_at hl 0 rfl) ?_
        obtain ⟨h24, hf⟩ := ck_e hf
        refine ra_i hC hw 14 (Nat.le_of_ble_eq_true rfl) rfl h24 dX12_isHeld_129 ?_
        refine lv_aload_n hx hb dX12_isHeld_130 rfl (lv_at hl 1 rfl) ?_
        refine rg_p hC hw 0 (Nat.le_of_ble_eq_true rfl) rfl fd_X12_34 wf_X12_241 (q := 23) rfl dX12_isHeld_131 ?_
        refine lv_iload_n hx hb dX12_isHeld_134 rfl (lv_at hl 2 rfl) ?_
        obtain ⟨h25, hf⟩ := ck_e hf
        refine ra_i hC hw 23 (Nat.le_of_ble_eq_true rfl) rfl h25 dX12_isHeld_135 ?_
        refine lv_bipush (v := 16) hx hb dX12_isHeld_136 (by decide) ?_
        refine lv_irem hx hb dX12_isHeld_138 (by decide) ?_
        refine lv_icmp_ne (tgt := 146) hx hb dX12_isHeld_139 (by decide) (fun c26 => ?_) (fun c26 => ?_)
        · rw [if_neg c26] at hf
          refine lv_iconst (v := 0) hx hb dX12_isHeld_146 (by decide) ?_
          have hz := Option.some.inj hf
          subst hz
          exact rtc_z hC hw (Or.inl rfl) dX12_isHeld_147
        · rw [if_pos c26] at hf
          refine lv_iconst (v := 1) hx hb dX12_isHeld_142 (by decide) ?_
          refine lv_goto (tgt := 147) hx hb dX12_isHeld_143 (by decide) ?_
          have hz := Option.some.inj hf
          subst hz
          exact rtc_z hC hw (Or.inr rfl) dX12_isHeld_147
  · rw [if_pos c6] at hf
    refine lv_iconst (v := 0) hx hb dX12_isHeld_34 (by decide) ?_
    refine lv_istore_n (lv' := [(3, .int 0), (0, .ref (ad 0)), (1, .int x1), (2, .int x2)]) hx hb dX12_isHeld_35 rfl hl (by decide) rfl (fun ls hl => ?_)
    refine lv_iconst (v := 0) hx hb dX12_isHeld_36 (by decide) ?_
    refine lv_istore (lv' := [(4, .int 0), (3, .int 0), (0, .ref (ad 0)), (1, .int x1), (2, .int x2)]) hx hb dX12_isHeld_37 hl (by decide) rfl (fun ls hl => ?_)
    exact k_X12_isHeld_39l hC fu_ _ _ _ _ _ _ _ hf hw (lv_sub hl [2, 3, 1, 0] rfl)
set_option maxRecDepth 100000 in
theorem c_X12_isHeld {l : Launch} {D : va_G} {cy : Nat → ClassId} {z0 : Nat} {ad : Nat → Nat} {u : Nat × Nat} {X : va_W} {z : (Int32 × mm_M)} {x1 : Int32} {x2 : Int32} {M : mm_M} (hf : f_X12_isHeld x1 x2 M = some z) : ct_i rf_T l yX12_isHeld (Cond.code yX12_isHeld cX12_isHeld 5 (some .boolean)) 5 121 D cy z0 ad u M X [.ref (ad 0), .int x1, .int x2] z.1 z.2 := by
  refine bgc_i (by decide) (fun p e s m below meth c hC hw => ?_)
  refine en_t (Nat.le_of_ble_eq_true rfl) (fun ls hl => ?_)
  have hl : lv_has ls 5 [(0, .ref (ad 0)), (1, .int x1), (2, .int x2)] := hl
  exact k_X12_isHeld hC hf hw hl
set_option maxRecDepth 100000 in
set_option maxHeartbeats 4000000 in
theorem k_X12_holds {p : Program} {l : Launch} {e : Env} {s : State} {m : MethodId} {args : Array Value} {below : List Frame} {meth : Method} {c : Code} {D : va_G} {cy : Nat → ClassId} {z0 : Nat} {ad : Nat → Nat} {X : va_W} {u : Nat × Nat} (hC : cx_C p s m args meth c cX12_holds "RhymedThenModel" (Cond.code yX12_holds cX12_holds 3 (some .int)) 3 (some .int)) {z : (Int32 × mm_M)} {x1 : Int32} {x2 : Int32} {M : mm_M} (hf : f_X12_holds x1 x2 M = some z) {H : Heap} {locs : List Loc} (hw : wd_in rf_T D cy z0 ad u M X s H locs) {ls : Array Slot} (hl : lv_has ls 3 [(0, .ref (ad 0)), (1, .int x1), (2, .int x2)]) : W p l e { frames := 6, cells := 0, slots := 0, locals := 145 } s m args below meth c H locs 0 0 (MQ below (cq_i rf_T D cy z0 ad u X z.1 z.2) args s 0 0 (fun q => z0 ≤ q)) (F0 m 0 ls []) := by
  have hx := hC.1
  have hb := hC.2.1
  unfold f_X12_holds at hf
  refine lv_aload_n hx hb dX12_holds_0 rfl (lv_at hl 0 rfl) ?_
  refine lv_iconst (v := 0) hx hb dX12_holds_1 (by decide) ?_
  obtain ⟨M1, eM1, hf⟩ := sq_e hf
  refine rp_i hC hw 0 (Nat.le_of_ble_eq_true rfl) rfl fd_X12_0 wf_X12_1 fp_X12_0 rfl rfl dX12_holds_2 eM1 (fun H locs hw => ?_)
  refine lv_aload_n hx hb dX12_holds_5 rfl (lv_at hl 0 rfl) ?_
  refine lv_iload_n hx hb dX12_holds_6 rfl (lv_at hl 1 rfl) ?_
  obtain ⟨z2, ez2, hf⟩ := sq_e hf
  refine clc_Vi hC hw (c_X12_isSign ez2.symm) hd_X12_isSign cw_X12_265 (Nat.le_of_ble_eq_true rfl) rfl rfl (rest := []) hl.1 rfl (Nat.le_of_ble_eq_true rfl) ⟨Nat.le_of_ble_eq_true rfl, Nat.le_of_ble_eq_true rfl⟩ ⟨Nat.zero_le _, Nat.zero_le _⟩ rfl dX12_holds_7 (fun H locs hw => ?_)
  refine lv_if_eq (tgt := 33) hx hb dX12_holds_10 (by decide) (fun c3 => ?_) (fun c3 => ?_)
  · rw [if_pos c3] at hf
    refine lv_iconst (v := (-1)) hx hb dX12_holds_33 (by decide) ?_
    have hz := Option.some.inj hf
    subst hz
    exact rtc_i hC hw dX12_holds_34
  · rw [if_neg c3] at hf
    refine lv_aload_n hx hb dX12_holds_13 rfl (lv_at hl 0 rfl) ?_
    refine lv_iload_n hx hb dX12_holds_14 rfl (lv_at hl 2 rfl) ?_
    obtain ⟨z4, ez4, hf⟩ := bd_e hf
    refine clc_Vi hC hw (c_X12_isHistory ez4) hd_X12_isHistory cw_X12_194 (Nat.le_of_ble_eq_true rfl) rfl rfl (rest := []) hl.1 rfl (Nat.le_of_ble_eq_true rfl) ⟨Nat.le_of_ble_eq_true rfl, Nat.le_of_ble_eq_true rfl⟩ ⟨Nat.zero_le _, Nat.zero_le _⟩ rfl dX12_holds_15 (fun H locs hw => ?_)
    refine lv_if_eq (tgt := 33) hx hb dX12_holds_18 (by decide) (fun c5 => ?_) (fun c5 => ?_)
    · rw [if_pos c5] at hf
      refine lv_iconst (v := (-1)) hx hb dX12_holds_33 (by decide) ?_
      have hz := Option.some.inj hf
      subst hz
      exact rtc_i hC hw dX12_holds_34
    · rw [if_neg c5] at hf
      refine lv_aload_n hx hb dX12_holds_21 rfl (lv_at hl 0 rfl) ?_
      refine lv_iload_n hx hb dX12_holds_22 rfl (lv_at hl 1 rfl) ?_
      refine lv_iload_n hx hb dX12_holds_23 rfl (lv_at hl 2 rfl) ?_
      obtain ⟨z6, ez6, hf⟩ := bd_e hf
      refine clc_Vi hC hw (c_X12_isHeld ez6) hd_X12_isHeld cw_X12_270 (Nat.le_of_ble_eq_true rfl) rfl rfl (rest := []) hl.1 rfl (Nat.le_of_ble_eq_true rfl) ⟨Nat.le_of_ble_eq_true rfl, Nat.le_of_ble_eq_true rfl⟩ ⟨Nat.zero_le _, Nat.zero_le _⟩ rfl dX12_holds_24 (fun H locs hw => ?_)
      obtain ⟨z7, ez7, hf⟩ := sq_e hf
      refine clc_Si hC hw (c_X12_truth ez7.symm) hd_X12_truth cw_X12_39 (rest := []) hl.1 rfl (Nat.le_of_ble_eq_true rfl) ⟨Nat.le_of_ble_eq_true rfl, Nat.le_of_ble_eq_true rfl⟩ ⟨Nat.zero_le _, Nat.zero_le _⟩ rfl dX12_holds_27 (fun H locs hw => ?_)
      refine lv_goto (tgt := 34) hx hb dX12_holds_30 (by decide) ?_
      have hz := Option.some.inj hf
      subst hz
      exact rtc_i hC hw dX12_holds_34
set_option maxRecDepth 100000 in
theorem c_X12_holds {l : Launch} {D : va_G} {cy : Nat → ClassId} {z0 : Nat} {ad : Nat → Nat} {u : Nat × Nat} {X : va_W} {z : (Int32 × mm_M)} {x1 : Int32} {x2 : Int32} {M : mm_M} (hf : f_X12_holds x1 x2 M = some z) : ct_i rf_T l yX12_holds (Cond.code yX12_holds cX12_holds 3 (some .int)) 6 145 D cy z0 ad u M X [.ref (ad 0), .int x1, .int x2] z.1 z.2 := by
  refine bgc_i (by decide) (fun p e s m below meth c hC hw => ?_)
  refine en_t (Nat.le_of_ble_eq_true rfl) (fun ls hl => ?_)
  have hl : lv_has ls 3 [(0, .ref (ad 0)), (1, .int x1), (2, .int x2)] := hl
  exact k_X12_holds hC hf hw hl
set_option maxRecDepth 100000 in
set_option maxHeartbeats 4000000 in
theorem k_X12_isFit_30 {p : Program} {l : Launch} {e : Env} {s : State} {m : MethodId} {args : Array Value} {below : List Frame} {meth : Method} {c : Code} {D : va_G} {cy : Nat → ClassId} {z0 : Nat} {ad : Nat → Nat} {X : va_W} {u : Nat × Nat} (hC : cx_C p s m args meth c cX12_isFit "RhymedThenModel" (Cond.code yX12_isFit cX12_isFit 3 (some .boolean)) 3 (some .boolean)) {z : (Int32 × mm_M)} {x1 : Int32} {x2 : Int32} {M : mm_M} {q2 : Int32 → Int32 → mm_M → Option (Int32 × mm_M)} (hq2 : ∀ (x1 : Int32) (x2 : Int32) (M : mm_M) (H : Heap) (locs : List Loc) (ls : Array Slot), q2 x1 x2 M = some z → wd_in rf_T D cy z0 ad u M X s H locs → lv_has ls 3 [(0, .ref (ad 0)), (1, .int x1), (2, .int x2)] → W p l e { frames := 6, cells := 0, slots := 0, locals := 145 } s m args below meth c H locs 0 0 (MQ below (cq_i rf_T D cy z0 ad u X z.1 z.2) args s 0 0 (fun q => z0 ≤ q)) (F0 m 2 ls [])) (hf : f_X12_isFit_30 q2 x1 x2 M = some z) {H : Heap} {locs : List Loc} (hw : wd_in rf_T D cy z0 ad u M X s H locs) {ls : Array Slot} (hl : lv_has ls 3 [(0, .ref (ad 0)), (1, .int x1), (2, .int x2)]) : W p l e { frames := 6, cells := 0, slots := 0, locals := 145 } s m args below meth c H locs 0 0 (MQ below (cq_i rf_T D cy z0 ad u X z.1 z.2) args s 0 0 (fun q => z0 ≤ q)) (F0 m 30 ls []) := by
  have hx := hC.1
  have hb := hC.2.1
  unfold f_X12_isFit_30 at hf
  obtain ⟨y6, ey6, hf⟩ := sq_e hf
  refine lv_iinc (v := y6) (lv' := [(2, .int y6), (0, .ref (ad 0)), (1, .int x1)]) hx hb dX12_isFit_30 hl (k := 2) rfl (by rw [ey6]; rfl) (by decide) rfl (fun ls hl => ?_)
  refine lv_goto (tgt := 2) hx hb dX12_isFit_33 (by decide) ?_
  exact hq2 _ _ _ _ _ _ hf hw (lv_sub hl [1, 2, 0] rfl)
set_option maxRecDepth 100000 in
set_option maxHeartbeats 4000000 in
theorem k_X12_isFit_2 {p : Program} {l : Launch} {e : Env} {s : State} {m : MethodId} {args : Array Value} {below : List Frame} {meth : Method} {c : Code} {D : va_G} {cy : Nat → ClassId} {z0 : Nat} {ad : Nat → Nat} {X : va_W} {u : Nat × Nat} (hC : cx_C p s m args meth c cX12_isFit "RhymedThenModel" (Cond.code yX12_isFit cX12_isFit 3 (some .boolean)) 3 (some .boolean)) {z : (Int32 × mm_M)} {x1 : Int32} {x2 : Int32} {M : mm_M} {q2 : Int32 → Int32 → mm_M → Option (Int32 × mm_M)} (hq2 : ∀ (x1 : Int32) (x2 : Int32) (M : mm_M) (H : Heap) (locs : List Loc) (ls : Array Slot), q2 x1 x2 M = some z → wd_in rf_T D cy z0 ad u M X s H locs → lv_has ls 3 [(0, .ref (ad 0)), (1, .int x1), (2, .int x2)] → W p l e { frames := 6, cells := 0, slots := 0, locals := 145 } s m args below meth c H locs 0 0 (MQ below (cq_i rf_T D cy z0 ad u X z.1 z.2) args s 0 0 (fun q => z0 ≤ q)) (F0 m 2 ls [])) (hf : f_X12_isFit_2 q2 x1 x2 M = some z) {H : Heap} {locs : List Loc} (hw : wd_in rf_T D cy z0 ad u M X s H locs) {ls : Array Slot} (hl : lv_has ls 3 [(0, .ref (ad 0)), (1, .int x1), (2, .int x2)]) : W p l e { frames := 6, cells := 0, slots := 0, locals := 145 } s m args below meth c H locs 0 0 (MQ below (cq_i rf_T D cy z0 ad u X z.1 z.2) args s 0 0 (fun q => z0 ≤ q)) (F0 m 2 ls []) := by
  have hx := hC.1
  have hb := hC.2.1
  unfold f_X12_isFit_2 at hf
  refine lv_iload_n hx hb dX12_isFit_2 rfl (lv_at hl 2 rfl) ?_
  refine lv_aload_n hx hb dX12_isFit_3 rfl (lv_at hl 0 rfl) ?_
  refine rg_i hC hw 0 (Nat.le_of_ble_eq_true rfl) rfl fd_X12_28 wf_X12_258 dX12_isFit_4 ?_
  refine lv_icmp_ge (tgt := 36) hx hb dX12_isFit_7 (by decide) (fun c1 => ?_) (fun c1 => ?_)
  · rw [if_pos c1] at hf
    refine lv_iconst (v := 1) hx hb dX12_isFit_36 (by decide) ?_
    have hz := Option.some.inj hf
    subst hz
    exact rtc_z hC hw (Or.inr rfl) dX12_isFit_37
  · rw [if_neg c1] at hf
    refine lv_aload_n hx hb dX12_isFit_10 rfl (lv_at hl 0 rfl) ?_
    refine rg_p hC hw 0 (Nat.le_of_ble_eq_true rfl) rfl fd_X12_37 wf_X12_250 (q := 26) rfl dX12_isFit_11 ?_
    refine lv_iload_n hx hb dX12_isFit_14 rfl (lv_at hl 2 rfl) ?_
    obtain ⟨h2, hf⟩ := ck_e hf
    refine ra_z hC hw 26 (Nat.le_of_ble_eq_true rfl) rfl h2 dX12_isFit_15 ?_
    refine lv_if_eq (tgt := 30) hx hb dX12_isFit_16 (by decide) (fun c3 => ?_) (fun c3 => ?_)
    · rw [if_pos c3] at hf
      exact k_X12_isFit_30 hC hq2 hf hw (lv_sub hl [0, 1, 2] rfl)
    · rw [if_neg c3] at hf
      refine lv_aload_n hx hb dX12_isFit_19 rfl (lv_at hl 0 rfl) ?_
      refine lv_iload_n hx hb dX12_isFit_20 rfl (lv_at hl 2 rfl) ?_
      refine lv_iload_n hx hb dX12_isFit_21 rfl (lv_at hl 1 rfl) ?_
      obtain ⟨z4, ez4, hf⟩ := bd_e hf
      refine clc_Vi hC hw (c_X12_isHeld ez4) hd_X12_isHeld cw_X12_270 (Nat.le_of_ble_eq_true rfl) rfl rfl (rest := []) hl.1 rfl (Nat.le_of_ble_eq_true rfl) ⟨Nat.le_of_ble_eq_true rfl, Nat.le_of_ble_eq_true rfl⟩ ⟨Nat.zero_le _, Nat.zero_le _⟩ rfl dX12_isFit_22 (fun H locs hw => ?_)
      refine lv_if_ne (tgt := 30) hx hb dX12_isFit_25 (by decide) (fun c5 => ?_) (fun c5 => ?_)
      · rw [if_neg c5] at hf
        exact k_X12_isFit_30 hC hq2 hf hw (lv_sub hl [0, 1, 2] rfl)
      · rw [if_pos c5] at hf
        refine lv_iconst (v := 0) hx hb dX12_isFit_28 (by decide) ?_
        have hz := Option.some.inj hf
        subst hz
        exact rtc_z hC hw (Or.inl rfl) dX12_isFit_29
set_option maxRecDepth 100000 in
set_option maxHeartbeats 4000000 in
theorem k_X12_isFit_2l {p : Program} {l : Launch} {e : Env} {s : State} {m : MethodId} {args : Array Value} {below : List Frame} {meth : Method} {c : Code} {D : va_G} {cy : Nat → ClassId} {z0 : Nat} {ad : Nat → Nat} {X : va_W} {u : Nat × Nat} (hC : cx_C p s m args meth c cX12_isFit "RhymedThenModel" (Cond.code yX12_isFit cX12_isFit 3 (some .boolean)) 3 (some .boolean)) {z : (Int32 × mm_M)} : ∀ (n : Nat) (x1 : Int32) (x2 : Int32) (M : mm_M) (H : Heap) (locs : List Loc) (ls : Array Slot), f_X12_isFit_2l n x1 x2 M = some z → wd_in rf_T D cy z0 ad u M X s H locs → lv_has ls 3 [(0, .ref (ad 0)), (1, .int x1), (2, .int x2)] → W p l e { frames := 6, cells := 0, slots := 0, locals := 145 } s m args below meth c H locs 0 0 (MQ below (cq_i rf_T D cy z0 ad u X z.1 z.2) args s 0 0 (fun q => z0 ≤ q)) (F0 m 2 ls []) := by
  intro n
  induction n with
  | zero => intro x1 x2 M H locs ls hf; exact absurd hf (by simp [f_X12_isFit_2l])
  | succ n ih => intro x1 x2 M H locs ls hf hw hl; exact k_X12_isFit_2 hC ih hf hw hl
set_option maxRecDepth 100000 in
set_option maxHeartbeats 4000000 in
theorem k_X12_isFit {p : Program} {l : Launch} {e : Env} {s : State} {m : MethodId} {args : Array Value} {below : List Frame} {meth : Method} {c : Code} {D : va_G} {cy : Nat → ClassId} {z0 : Nat} {ad : Nat → Nat} {X : va_W} {u : Nat × Nat} (hC : cx_C p s m args meth c cX12_isFit "RhymedThenModel" (Cond.code yX12_isFit cX12_isFit 3 (some .boolean)) 3 (some .boolean)) {z : (Int32 × mm_M)} {x1 : Int32} {M : mm_M} (hf : f_X12_isFit x1 M = some z) {H : Heap} {locs : List Loc} (hw : wd_in rf_T D cy z0 ad u M X s H locs) {ls : Array Slot} (hl : lv_has ls 3 [(0, .ref (ad 0)), (1, .int x1)]) : W p l e { frames := 6, cells := 0, slots := 0, locals := 145 } s m args below meth c H locs 0 0 (MQ below (cq_i rf_T D cy z0 ad u X z.1 z.2) args s 0 0 (fun q => z0 ≤ q)) (F0 m 0 ls []) := by
  have hx := hC.1
  have hb := hC.2.1
  unfold f_X12_isFit at hf
  refine lv_iconst (v := 0) hx hb dX12_isFit_0 (by decide) ?_
  refine lv_istore_n (lv' := [(2, .int 0), (0, .ref (ad 0)), (1, .int x1)]) hx hb dX12_isFit_1 rfl hl (by decide) rfl (fun ls hl => ?_)
  exact k_X12_isFit_2l hC fu_ _ _ _ _ _ _ hf hw (lv_sub hl [1, 2, 0] rfl)
set_option maxRecDepth 100000 in
theorem c_X12_isFit {l : Launch} {D : va_G} {cy : Nat → ClassId} {z0 : Nat} {ad : Nat → Nat} {u : Nat × Nat} {X : va_W} {z : (Int32 × mm_M)} {x1 : Int32} {M : mm_M} (hf : f_X12_isFit x1 M = some z) : ct_i rf_T l yX12_isFit (Cond.code yX12_isFit cX12_isFit 3 (some .boolean)) 6 145 D cy z0 ad u M X [.ref (ad 0), .int x1] z.1 z.2 := by
  refine bgc_i (by decide) (fun p e s m below meth c hC hw => ?_)
  refine en_t (Nat.le_of_ble_eq_true rfl) (fun ls hl => ?_)
  have hl : lv_has ls 3 [(0, .ref (ad 0)), (1, .int x1)] := hl
  exact k_X12_isFit hC hf hw hl
set_option maxRecDepth 100000 in
set_option maxHeartbeats 4000000 in
theorem k_X12_wrongs_38 {p : Program} {l : Launch} {e : Env} {s : State} {m : MethodId} {args : Array Value} {below : List Frame} {meth : Method} {c : Code} {D : va_G} {cy : Nat → ClassId} {z0 : Nat} {ad : Nat → Nat} {X : va_W} {u : Nat × Nat} (hC : cx_C p s m args meth c cX12_wrongs "RhymedThenModel" (Cond.code yX12_wrongs cX12_wrongs 4 (some .int)) 4 (some .int)) {z : (Int32 × mm_M)} {x1 : Int32} {x3 : Int32} {t0 : Int32} {t1 : Int32} {M : mm_M} {q4 : Int32 → Int32 → Int32 → mm_M → Option (Int32 × mm_M)} (hq4 : ∀ (x1 : Int32) (x2 : Int32) (x3 : Int32) (M : mm_M) (H : Heap) (locs : List Loc) (ls : Array Slot), q4 x1 x2 x3 M = some z → wd_in rf_T D cy z0 ad u M X s H locs → lv_has ls 4 [(0, .ref (ad 0)), (1, .int x1), (2, .int x2), (3, .int x3)] → W p l e { frames := 6, cells := 0, slots := 0, locals := 145 } s m args below meth c H locs 0 0 (MQ below (cq_i rf_T D cy z0 ad u X z.1 z.2) args s 0 0 (fun q => z0 ≤ q)) (F0 m 4 ls [])) (hf : f_X12_wrongs_38 q4 x1 x3 t0 t1 M = some z) {H : Heap} {locs : List Loc} (hw : wd_in rf_T D cy z0 ad u M X s H locs) {ls : Array Slot} (hl : lv_has ls 4 [(0, .ref (ad 0)), (1, .int x1), (3, .int x3)]) : W p l e { frames := 6, cells := 0, slots := 0, locals := 145 } s m args below meth c H locs 0 0 (MQ below (cq_i rf_T D cy z0 ad u X z.1 z.2) args s 0 0 (fun q => z0 ≤ q)) (F0 m 38 ls [.int t1, .int t0]) := by
  have hx := hC.1
  have hb := hC.2.1
  unfold f_X12_wrongs_38 at hf
  refine lv_ior hx hb dX12_wrongs_38 ?_
  obtain ⟨y6, ey6, hf⟩ := sq_e hf
  refine lt_i ey6 ?_
  refine lv_istore_n (lv' := [(2, .int y6), (0, .ref (ad 0)), (1, .int x1), (3, .int x3)]) hx hb dX12_wrongs_39 rfl hl (by decide) rfl (fun ls hl => ?_)
  obtain ⟨y7, ey7, hf⟩ := sq_e hf
  refine lv_iinc (v := y7) (lv' := [(3, .int y7), (2, .int y6), (0, .ref (ad 0)), (1, .int x1)]) hx hb dX12_wrongs_40 hl (k := 3) rfl (by rw [ey7]; rfl) (by decide) rfl (fun ls hl => ?_)
  refine lv_goto (tgt := 4) hx hb dX12_wrongs_43 (by decide) ?_
  exact hq4 _ _ _ _ _ _ _ hf hw (lv_sub hl [2, 3, 1, 0] rfl)
set_option maxRecDepth 100000 in
set_option maxHeartbeats 4000000 in
theorem k_X12_wrongs_37 {p : Program} {l : Launch} {e : Env} {s : State} {m : MethodId} {args : Array Value} {below : List Frame} {meth : Method} {c : Code} {D : va_G} {cy : Nat → ClassId} {z0 : Nat} {ad : Nat → Nat} {X : va_W} {u : Nat × Nat} (hC : cx_C p s m args meth c cX12_wrongs "RhymedThenModel" (Cond.code yX12_wrongs cX12_wrongs 4 (some .int)) 4 (some .int)) {z : (Int32 × mm_M)} {x1 : Int32} {x3 : Int32} {t0 : Int32} {M : mm_M} {q4 : Int32 → Int32 → Int32 → mm_M → Option (Int32 × mm_M)} (hq4 : ∀ (x1 : Int32) (x2 : Int32) (x3 : Int32) (M : mm_M) (H : Heap) (locs : List Loc) (ls : Array Slot), q4 x1 x2 x3 M = some z → wd_in rf_T D cy z0 ad u M X s H locs → lv_has ls 4 [(0, .ref (ad 0)), (1, .int x1), (2, .int x2), (3, .int x3)] → W p l e { frames := 6, cells := 0, slots := 0, locals := 145 } s m args below meth c H locs 0 0 (MQ below (cq_i rf_T D cy z0 ad u X z.1 z.2) args s 0 0 (fun q => z0 ≤ q)) (F0 m 4 ls [])) (hf : f_X12_wrongs_37 q4 x1 x3 t0 M = some z) {H : Heap} {locs : List Loc} (hw : wd_in rf_T D cy z0 ad u M X s H locs) {ls : Array Slot} (hl : lv_has ls 4 [(0, .ref (ad 0)), (1, .int x1), (3, .int x3)]) : W p l e { frames := 6, cells := 0, slots := 0, locals := 145 } s m args below meth c H locs 0 0 (MQ below (cq_i rf_T D cy z0 ad u X z.1 z.2) args s 0 0 (fun q => z0 ≤ q)) (F0 m 37 ls [.int t0]) := by
  have hx := hC.1
  have hb := hC.2.1
  unfold f_X12_wrongs_37 at hf
  refine lv_iconst (v := 0) hx hb dX12_wrongs_37 (by decide) ?_
  exact k_X12_wrongs_38 hC hq4 hf hw (lv_sub hl [0, 1, 2] rfl)
set_option maxRecDepth 100000 in
set_option maxHeartbeats 4000000 in
theorem k_X12_wrongs_4 {p : Program} {l : Launch} {e : Env} {s : State} {m : MethodId} {args : Array Value} {below : List Frame} {meth : Method} {c : Code} {D : va_G} {cy : Nat → ClassId} {z0 : Nat} {ad : Nat → Nat} {X : va_W} {u : Nat × Nat} (hC : cx_C p s m args meth c cX12_wrongs "RhymedThenModel" (Cond.code yX12_wrongs cX12_wrongs 4 (some .int)) 4 (some .int)) {z : (Int32 × mm_M)} {x1 : Int32} {x2 : Int32} {x3 : Int32} {M : mm_M} {q4 : Int32 → Int32 → Int32 → mm_M → Option (Int32 × mm_M)} (hq4 : ∀ (x1 : Int32) (x2 : Int32) (x3 : Int32) (M : mm_M) (H : Heap) (locs : List Loc) (ls : Array Slot), q4 x1 x2 x3 M = some z → wd_in rf_T D cy z0 ad u M X s H locs → lv_has ls 4 [(0, .ref (ad 0)), (1, .int x1), (2, .int x2), (3, .int x3)] → W p l e { frames := 6, cells := 0, slots := 0, locals := 145 } s m args below meth c H locs 0 0 (MQ below (cq_i rf_T D cy z0 ad u X z.1 z.2) args s 0 0 (fun q => z0 ≤ q)) (F0 m 4 ls [])) (hf : f_X12_wrongs_4 q4 x1 x2 x3 M = some z) {H : Heap} {locs : List Loc} (hw : wd_in rf_T D cy z0 ad u M X s H locs) {ls : Array Slot} (hl : lv_has ls 4 [(0, .ref (ad 0)), (1, .int x1), (2, .int x2), (3, .int x3)]) : W p l e { frames := 6, cells := 0, slots := 0, locals := 145 } s m args below meth c H locs 0 0 (MQ below (cq_i rf_T D cy z0 ad u X z.1 z.2) args s 0 0 (fun q => z0 ≤ q)) (F0 m 4 ls []) := by
  have hx := hC.1
  have hb := hC.2.1
  unfold f_X12_wrongs_4 at hf
  refine lv_iload_n hx hb dX12_wrongs_4 rfl (lv_at hl 3 rfl) ?_
  refine lv_aload_n hx hb dX12_wrongs_5 rfl (lv_at hl 0 rfl) ?_
  refine rg_i hC hw 0 (Nat.le_of_ble_eq_true rfl) rfl fd_X12_28 wf_X12_258 dX12_wrongs_6 ?_
  refine lv_icmp_ge (tgt := 46) hx hb dX12_wrongs_9 (by decide) (fun c1 => ?_) (fun c1 => ?_)
  · rw [if_pos c1] at hf
    refine lv_iload_n hx hb dX12_wrongs_46 rfl (lv_at hl 2 rfl) ?_
    have hz := Option.some.inj hf
    subst hz
    exact rtc_i hC hw dX12_wrongs_47
  · rw [if_neg c1] at hf
    refine lv_iload_n hx hb dX12_wrongs_12 rfl (lv_at hl 2 rfl) ?_
    refine lv_aload_n hx hb dX12_wrongs_13 rfl (lv_at hl 0 rfl) ?_
    refine rg_p hC hw 0 (Nat.le_of_ble_eq_true rfl) rfl fd_X12_37 wf_X12_250 (q := 26) rfl dX12_wrongs_14 ?_
    refine lv_iload_n hx hb dX12_wrongs_17 rfl (lv_at hl 3 rfl) ?_
    obtain ⟨h2, hf⟩ := ck_e hf
    refine ra_z hC hw 26 (Nat.le_of_ble_eq_true rfl) rfl h2 dX12_wrongs_18 ?_
    refine lv_if_eq (tgt := 37) hx hb dX12_wrongs_19 (by decide) (fun c3 => ?_) (fun c3 => ?_)
    · rw [if_pos c3] at hf
      exact k_X12_wrongs_37 hC hq4 hf hw (lv_sub hl [0, 1, 3] rfl)
    · rw [if_neg c3] at hf
      refine lv_aload_n hx hb dX12_wrongs_22 rfl (lv_at hl 0 rfl) ?_
      refine lv_iload_n hx hb dX12_wrongs_23 rfl (lv_at hl 3 rfl) ?_
      refine lv_iload_n hx hb dX12_wrongs_24 rfl (lv_at hl 1 rfl) ?_
      obtain ⟨z4, ez4, hf⟩ := bd_e hf
      refine clc_Vi hC hw (c_X12_isHeld ez4) hd_X12_isHeld cw_X12_270 (Nat.le_of_ble_eq_true rfl) rfl rfl (rest := [.int x2]) hl.1 rfl (Nat.le_of_ble_eq_true rfl) ⟨Nat.le_of_ble_eq_true rfl, Nat.le_of_ble_eq_true rfl⟩ ⟨Nat.zero_le _, Nat.zero_le _⟩ rfl dX12_wrongs_25 (fun H locs hw => ?_)
      refine lv_if_ne (tgt := 37) hx hb dX12_wrongs_28 (by decide) (fun c5 => ?_) (fun c5 => ?_)
      · rw [if_neg c5] at hf
        exact k_X12_wrongs_37 hC hq4 hf hw (lv_sub hl [0, 1, 3] rfl)
      · rw [if_pos c5] at hf
        refine lv_iconst (v := 1) hx hb dX12_wrongs_31 (by decide) ?_
        refine lv_iload_n hx hb dX12_wrongs_32 rfl (lv_at hl 3 rfl) ?_
        refine lv_ishl hx hb dX12_wrongs_33 ?_
        refine lv_goto (tgt := 38) hx hb dX12_wrongs_34 (by decide) ?_
        exact k_X12_wrongs_38 hC hq4 hf hw (lv_sub hl [0, 1, 3] rfl)
set_option maxRecDepth 100000 in
set_option maxHeartbeats 4000000 in
theorem k_X12_wrongs_4l {p : Program} {l : Launch} {e : Env} {s : State} {m : MethodId} {args : Array Value} {below : List Frame} {meth : Method} {c : Code} {D : va_G} {cy : Nat → ClassId} {z0 : Nat} {ad : Nat → Nat} {X : va_W} {u : Nat × Nat} (hC : cx_C p s m args meth c cX12_wrongs "RhymedThenModel" (Cond.code yX12_wrongs cX12_wrongs 4 (some .int)) 4 (some .int)) {z : (Int32 × mm_M)} : ∀ (n : Nat) (x1 : Int32) (x2 : Int32) (x3 : Int32) (M : mm_M) (H : Heap) (locs : List Loc) (ls : Array Slot), f_X12_wrongs_4l n x1 x2 x3 M = some z → wd_in rf_T D cy z0 ad u M X s H locs → lv_has ls 4 [(0, .ref (ad 0)), (1, .int x1), (2, .int x2), (3, .int x3)] → W p l e { frames := 6, cells := 0, slots := 0, locals := 145 } s m args below meth c H locs 0 0 (MQ below (cq_i rf_T D cy z0 ad u X z.1 z.2) args s 0 0 (fun q => z0 ≤ q)) (F0 m 4 ls []) := by
  intro n
  induction n with
  | zero => intro x1 x2 x3 M H locs ls hf; exact absurd hf (by simp [f_X12_wrongs_4l])
  | succ n ih => intro x1 x2 x3 M H locs ls hf hw hl; exact k_X12_wrongs_4 hC ih hf hw hl
set_option maxRecDepth 100000 in
set_option maxHeartbeats 4000000 in
theorem k_X12_wrongs {p : Program} {l : Launch} {e : Env} {s : State} {m : MethodId} {args : Array Value} {below : List Frame} {meth : Method} {c : Code} {D : va_G} {cy : Nat → ClassId} {z0 : Nat} {ad : Nat → Nat} {X : va_W} {u : Nat × Nat} (hC : cx_C p s m args meth c cX12_wrongs "RhymedThenModel" (Cond.code yX12_wrongs cX12_wrongs 4 (some .int)) 4 (some .int)) {z : (Int32 × mm_M)} {x1 : Int32} {M : mm_M} (hf : f_X12_wrongs x1 M = some z) {H : Heap} {locs : List Loc} (hw : wd_in rf_T D cy z0 ad u M X s H locs) {ls : Array Slot} (hl : lv_has ls 4 [(0, .ref (ad 0)), (1, .int x1)]) : W p l e { frames := 6, cells := 0, slots := 0, locals := 145 } s m args below meth c H locs 0 0 (MQ below (cq_i rf_T D cy z0 ad u X z.1 z.2) args s 0 0 (fun q => z0 ≤ q)) (F0 m 0 ls []) := by
  have hx := hC.1
  have hb := hC.2.1
  unfold f_X12_wrongs at hf
  refine lv_iconst (v := 0) hx hb dX12_wrongs_0 (by decide) ?_
  refine lv_istore_n (lv' := [(2, .int 0), (0, .ref (ad 0)), (1, .int x1)]) hx hb dX12_wrongs_1 rfl hl (by decide) rfl (fun ls hl => ?_)
  refine lv_iconst (v := 0) hx hb dX12_wrongs_2 (by decide) ?_
  refine lv_istore_n (lv' := [(3, .int 0), (2, .int 0), (0, .ref (ad 0)), (1, .int x1)]) hx hb dX12_wrongs_3 rfl hl (by decide) rfl (fun ls hl => ?_)
  exact k_X12_wrongs_4l hC fu_ _ _ _ _ _ _ _ hf hw (lv_sub hl [2, 3, 1, 0] rfl)
set_option maxRecDepth 100000 in
theorem c_X12_wrongs {l : Launch} {D : va_G} {cy : Nat → ClassId} {z0 : Nat} {ad : Nat → Nat} {u : Nat × Nat} {X : va_W} {z : (Int32 × mm_M)} {x1 : Int32} {M : mm_M} (hf : f_X12_wrongs x1 M = some z) : ct_i rf_T l yX12_wrongs (Cond.code yX12_wrongs cX12_wrongs 4 (some .int)) 6 145 D cy z0 ad u M X [.ref (ad 0), .int x1] z.1 z.2 := by
  refine bgc_i (by decide) (fun p e s m below meth c hC hw => ?_)
  refine en_t (Nat.le_of_ble_eq_true rfl) (fun ls hl => ?_)
  have hl : lv_has ls 4 [(0, .ref (ad 0)), (1, .int x1)] := hl
  exact k_X12_wrongs hC hf hw hl
set_option maxRecDepth 100000 in
set_option maxHeartbeats 4000000 in
theorem k_X12_gathers_45 {p : Program} {l : Launch} {e : Env} {s : State} {m : MethodId} {args : Array Value} {below : List Frame} {meth : Method} {c : Code} {D : va_G} {cy : Nat → ClassId} {z0 : Nat} {ad : Nat → Nat} {X : va_W} {u : Nat × Nat} (hC : cx_C p s m args meth c cX12_gathers "RhymedThenModel" (Cond.code yX12_gathers cX12_gathers 3 none) 3 none) {z : mm_M} {x1 : Int32} {x2 : Int32} {M : mm_M} {q12 : Int32 → Int32 → mm_M → Option mm_M} (hq12 : ∀ (x1 : Int32) (x2 : Int32) (M : mm_M) (H : Heap) (locs : List Loc) (ls : Array Slot), q12 x1 x2 M = some z → wd_in rf_T D cy z0 ad u M X s H locs → lv_has ls 3 [(0, .ref (ad 0)), (1, .int x1), (2, .int x2)] → W p l e { frames := 7, cells := 0, slots := 0, locals := 167 } s m args below meth c H locs 0 0 (MQ below (cq_v rf_T D cy z0 ad u X z) args s 0 0 (fun q => z0 ≤ q)) (F0 m 12 ls [])) (hf : f_X12_gathers_45 q12 x1 x2 M = some z) {H : Heap} {locs : List Loc} (hw : wd_in rf_T D cy z0 ad u M X s H locs) {ls : Array Slot} (hl : lv_has ls 3 [(0, .ref (ad 0)), (1, .int x1), (2, .int x2)]) : W p l e { frames := 7, cells := 0, slots := 0, locals := 167 } s m args below meth c H locs 0 0 (MQ below (cq_v rf_T D cy z0 ad u X z) args s 0 0 (fun q => z0 ≤ q)) (F0 m 45 ls []) := by
  have hx := hC.1
  have hb := hC.2.1
  unfold f_X12_gathers_45 at hf
  obtain ⟨y9, ey9, hf⟩ := sq_e hf
  refine lv_iinc (v := y9) (lv' := [(2, .int y9), (0, .ref (ad 0)), (1, .int x1)]) hx hb dX12_gathers_45 hl (k := 2) rfl (by rw [ey9]; rfl) (by decide) rfl (fun ls hl => ?_)
  refine lv_goto (tgt := 12) hx hb dX12_gathers_48 (by decide) ?_
  exact hq12 _ _ _ _ _ _ hf hw (lv_sub hl [1, 2, 0] rfl)
set_option maxRecDepth 100000 in
set_option maxHeartbeats 4000000 in
theorem k_X12_gathers_12 {p : Program} {l : Launch} {e : Env} {s : State} {m : MethodId} {args : Array Value} {below : List Frame} {meth : Method} {c : Code} {D : va_G} {cy : Nat → ClassId} {z0 : Nat} {ad : Nat → Nat} {X : va_W} {u : Nat × Nat} (hC : cx_C p s m args meth c cX12_gathers "RhymedThenModel" (Cond.code yX12_gathers cX12_gathers 3 none) 3 none) {z : mm_M} {x1 : Int32} {x2 : Int32} {M : mm_M} {q12 : Int32 → Int32 → mm_M → Option mm_M} (hq12 : ∀ (x1 : Int32) (x2 : Int32) (M : mm_M) (H : Heap) (locs : List Loc) (ls : Array Slot), q12 x1 x2 M = some z → wd_in rf_T D cy z0 ad u M X s H locs → lv_has ls 3 [(0, .ref (ad 0)), (1, .int x1), (2, .int x2)] → W p l e { frames := 7, cells := 0, slots := 0, locals := 167 } s m args below meth c H locs 0 0 (MQ below (cq_v rf_T D cy z0 ad u X z) args s 0 0 (fun q => z0 ≤ q)) (F0 m 12 ls [])) (hf : f_X12_gathers_12 q12 x1 x2 M = some z) {H : Heap} {locs : List Loc} (hw : wd_in rf_T D cy z0 ad u M X s H locs) {ls : Array Slot} (hl : lv_has ls 3 [(0, .ref (ad 0)), (1, .int x1), (2, .int x2)]) : W p l e { frames := 7, cells := 0, slots := 0, locals := 167 } s m args below meth c H locs 0 0 (MQ below (cq_v rf_T D cy z0 ad u X z) args s 0 0 (fun q => z0 ≤ q)) (F0 m 12 ls []) := by
  have hx := hC.1
  have hb := hC.2.1
  unfold f_X12_gathers_12 at hf
  refine lv_iload_n hx hb dX12_gathers_12 rfl (lv_at hl 2 rfl) ?_
  refine lv_iload_n hx hb dX12_gathers_13 rfl (lv_at hl 1 rfl) ?_
  refine lv_icmp_ge (tgt := 51) hx hb dX12_gathers_14 (by decide) (fun c3 => ?_) (fun c3 => ?_)
  · rw [if_pos c3] at hf
    have hz := Option.some.inj hf
    subst hz
    exact rtc_v hC hw dX12_gathers_51
  · rw [if_neg c3] at hf
    refine lv_aload_n hx hb dX12_gathers_17 rfl (lv_at hl 0 rfl) ?_
    refine lv_iload_n hx hb dX12_gathers_18 rfl (lv_at hl 2 rfl) ?_
    obtain ⟨z4, ez4, hf⟩ := bd_e hf
    refine clc_Vi hC hw (c_X12_isFit ez4) hd_X12_isFit cw_X12_276 (Nat.le_of_ble_eq_true rfl) rfl rfl (rest := []) hl.1 rfl (Nat.le_of_ble_eq_true rfl) ⟨Nat.le_of_ble_eq_true rfl, Nat.le_of_ble_eq_true rfl⟩ ⟨Nat.zero_le _, Nat.zero_le _⟩ rfl dX12_gathers_19 (fun H locs hw => ?_)
    refine lv_if_eq (tgt := 45) hx hb dX12_gathers_22 (by decide) (fun c5 => ?_) (fun c5 => ?_)
    · rw [if_pos c5] at hf
      exact k_X12_gathers_45 hC hq12 hf hw (lv_sub hl [0, 1, 2] rfl)
    · rw [if_neg c5] at hf
      refine lv_aload_n hx hb dX12_gathers_25 rfl (lv_at hl 0 rfl) ?_
      refine rg_p hC hw 0 (Nat.le_of_ble_eq_true rfl) rfl fd_X12_38 wf_X12_279 (q := 27) rfl dX12_gathers_26 ?_
      refine lv_aload_n hx hb dX12_gathers_29 rfl (lv_at hl 0 rfl) ?_
      refine rg_i hC hw 0 (Nat.le_of_ble_eq_true rfl) rfl fd_X12_39 wf_X12_273 dX12_gathers_30 ?_
      refine lv_iload_n hx hb dX12_gathers_33 rfl (lv_at hl 2 rfl) ?_
      obtain ⟨h6, hf⟩ := ck_e hf
      obtain ⟨M7, eM7, hf⟩ := sq_e hf
      refine rs_i hC hw 27 (Nat.le_of_ble_eq_true rfl) rfl h6 dX12_gathers_34 eM7 (fun H locs hw => ?_)
      refine lv_aload_n hx hb dX12_gathers_35 rfl (lv_at hl 0 rfl) ?_
      refine lv_dup hx hb dX12_gathers_36 rfl ?_
      refine rg_i hC hw 0 (Nat.le_of_ble_eq_true rfl) rfl fd_X12_39 wf_X12_273 dX12_gathers_37 ?_
      refine lv_iconst (v := 1) hx hb dX12_gathers_40 (by decide) ?_
      refine lv_iadd hx hb dX12_gathers_41 ?_
      obtain ⟨M8, eM8, hf⟩ := sq_e hf
      refine rp_i hC hw 0 (Nat.le_of_ble_eq_true rfl) rfl fd_X12_39 wf_X12_273 fp_X12_39 rfl rfl dX12_gathers_42 eM8 (fun H locs hw => ?_)
      exact k_X12_gathers_45 hC hq12 hf hw (lv_sub hl [0, 1, 2] rfl)
set_option maxRecDepth 100000 in
set_option maxHeartbeats 4000000 in
theorem k_X12_gathers_12l {p : Program} {l : Launch} {e : Env} {s : State} {m : MethodId} {args : Array Value} {below : List Frame} {meth : Method} {c : Code} {D : va_G} {cy : Nat → ClassId} {z0 : Nat} {ad : Nat → Nat} {X : va_W} {u : Nat × Nat} (hC : cx_C p s m args meth c cX12_gathers "RhymedThenModel" (Cond.code yX12_gathers cX12_gathers 3 none) 3 none) {z : mm_M} : ∀ (n : Nat) (x1 : Int32) (x2 : Int32) (M : mm_M) (H : Heap) (locs : List Loc) (ls : Array Slot), f_X12_gathers_12l n x1 x2 M = some z → wd_in rf_T D cy z0 ad u M X s H locs → lv_has ls 3 [(0, .ref (ad 0)), (1, .int x1), (2, .int x2)] → W p l e { frames := 7, cells := 0, slots := 0, locals := 167 } s m args below meth c H locs 0 0 (MQ below (cq_v rf_T D cy z0 ad u X z) args s 0 0 (fun q => z0 ≤ q)) (F0 m 12 ls []) := by
  intro n
  induction n with
  | zero => intro x1 x2 M H locs ls hf; exact absurd hf (by simp [f_X12_gathers_12l])
  | succ n ih => intro x1 x2 M H locs ls hf hw hl; exact k_X12_gathers_12 hC ih hf hw hl
set_option maxRecDepth 100000 in
set_option maxHeartbeats 4000000 in
theorem k_X12_gathers {p : Program} {l : Launch} {e : Env} {s : State} {m : MethodId} {args : Array Value} {below : List Frame} {meth : Method} {c : Code} {D : va_G} {cy : Nat → ClassId} {z0 : Nat} {ad : Nat → Nat} {X : va_W} {u : Nat × Nat} (hC : cx_C p s m args meth c cX12_gathers "RhymedThenModel" (Cond.code yX12_gathers cX12_gathers 3 none) 3 none) {z : mm_M} {M : mm_M} (hf : f_X12_gathers M = some z) {H : Heap} {locs : List Loc} (hw : wd_in rf_T D cy z0 ad u M X s H locs) {ls : Array Slot} (hl : lv_has ls 3 [(0, .ref (ad 0))]) : W p l e { frames := 7, cells := 0, slots := 0, locals := 167 } s m args below meth c H locs 0 0 (MQ below (cq_v rf_T D cy z0 ad u X z) args s 0 0 (fun q => z0 ≤ q)) (F0 m 0 ls []) := by
  have hx := hC.1
  have hb := hC.2.1
  unfold f_X12_gathers at hf
  refine lv_aload_n hx hb dX12_gathers_0 rfl (lv_at hl 0 rfl) ?_
  refine lv_iconst (v := 0) hx hb dX12_gathers_1 (by decide) ?_
  obtain ⟨M1, eM1, hf⟩ := sq_e hf
  refine rp_i hC hw 0 (Nat.le_of_ble_eq_true rfl) rfl fd_X12_39 wf_X12_273 fp_X12_39 rfl rfl dX12_gathers_2 eM1 (fun H locs hw => ?_)
  refine lv_aload_n hx hb dX12_gathers_5 rfl (lv_at hl 0 rfl) ?_
  obtain ⟨z2, ez2, hf⟩ := bd_e hf
  refine clc_Vi hC hw (c_X12_histories ez2) hd_X12_histories cw_X12_107 (Nat.le_of_ble_eq_true rfl) rfl rfl (rest := []) hl.1 rfl (Nat.le_of_ble_eq_true rfl) ⟨Nat.le_of_ble_eq_true rfl, Nat.le_of_ble_eq_true rfl⟩ ⟨Nat.zero_le _, Nat.zero_le _⟩ rfl dX12_gathers_6 (fun H locs hw => ?_)
  refine lv_istore_n (lv' := [(1, .int z2), (0, .ref (ad 0))]) hx hb dX12_gathers_9 rfl hl (by decide) rfl (fun ls hl => ?_)
  refine lv_iconst (v := 0) hx hb dX12_gathers_10 (by decide) ?_
  refine lv_istore_n (lv' := [(2, .int 0), (1, .int z2), (0, .ref (ad 0))]) hx hb dX12_gathers_11 rfl hl (by decide) rfl (fun ls hl => ?_)
  exact k_X12_gathers_12l hC fu_ _ _ _ _ _ _ hf hw (lv_sub hl [2, 1, 0] rfl)
set_option maxRecDepth 100000 in
theorem c_X12_gathers {l : Launch} {D : va_G} {cy : Nat → ClassId} {z0 : Nat} {ad : Nat → Nat} {u : Nat × Nat} {X : va_W} {z : mm_M} {M : mm_M} (hf : f_X12_gathers M = some z) : ct_v rf_T l yX12_gathers (Cond.code yX12_gathers cX12_gathers 3 none) 7 167 D cy z0 ad u M X [.ref (ad 0)] z := by
  refine bgc_v (by decide) (fun p e s m below meth c hC hw => ?_)
  refine en_t (Nat.le_of_ble_eq_true rfl) (fun ls hl => ?_)
  have hl : lv_has ls 3 [(0, .ref (ad 0))] := hl
  exact k_X12_gathers hC hf hw hl
set_option maxRecDepth 100000 in
set_option maxHeartbeats 4000000 in
theorem k_X12_fits_32 {p : Program} {l : Launch} {e : Env} {s : State} {m : MethodId} {args : Array Value} {below : List Frame} {meth : Method} {c : Code} {D : va_G} {cy : Nat → ClassId} {z0 : Nat} {ad : Nat → Nat} {X : va_W} {u : Nat × Nat} (hC : cx_C p s m args meth c cX12_fits "RhymedThenModel" (Cond.code yX12_fits cX12_fits 1 (some .int)) 1 (some .int)) {z : (Int32 × mm_M)} {M : mm_M} (hf : f_X12_fits_32 M = some z) {H : Heap} {locs : List Loc} (hw : wd_in rf_T D cy z0 ad u M X s H locs) {ls : Array Slot} (hl : lv_has ls 1 [(0, .ref (ad 0))]) : W p l e { frames := 8, cells := 0, slots := 0, locals := 189 } s m args below meth c H locs 0 0 (MQ below (cq_i rf_T D cy z0 ad u X z.1 z.2) args s 0 0 (fun q => z0 ≤ q)) (F0 m 32 ls []) := by
  have hx := hC.1
  have hb := hC.2.1
  unfold f_X12_fits_32 at hf
  refine lv_aload_n hx hb dX12_fits_32 rfl (lv_at hl 0 rfl) ?_
  refine rg_i hC hw 0 (Nat.le_of_ble_eq_true rfl) rfl fd_X12_39 wf_X12_273 dX12_fits_33 ?_
  have hz := Option.some.inj hf
  subst hz
  exact rtc_i hC hw dX12_fits_36
set_option maxRecDepth 100000 in
set_option maxHeartbeats 4000000 in
theorem k_X12_fits {p : Program} {l : Launch} {e : Env} {s : State} {m : MethodId} {args : Array Value} {below : List Frame} {meth : Method} {c : Code} {D : va_G} {cy : Nat → ClassId} {z0 : Nat} {ad : Nat → Nat} {X : va_W} {u : Nat × Nat} (hC : cx_C p s m args meth c cX12_fits "RhymedThenModel" (Cond.code yX12_fits cX12_fits 1 (some .int)) 1 (some .int)) {z : (Int32 × mm_M)} {M : mm_M} (hf : f_X12_fits M = some z) {H : Heap} {locs : List Loc} (hw : wd_in rf_T D cy z0 ad u M X s H locs) {ls : Array Slot} (hl : lv_has ls 1 [(0, .ref (ad 0))]) : W p l e { frames := 8, cells := 0, slots := 0, locals := 189 } s m args below meth c H locs 0 0 (MQ below (cq_i rf_T D cy z0 ad u X z.1 z.2) args s 0 0 (fun q => z0 ≤ q)) (F0 m 0 ls []) := by
  have hx := hC.1
  have hb := hC.2.1
  unfold f_X12_fits at hf
  refine lv_aload_n hx hb dX12_fits_0 rfl (lv_at hl 0 rfl) ?_
  refine lv_iconst (v := 0) hx hb dX12_fits_1 (by decide) ?_
  obtain ⟨M1, eM1, hf⟩ := sq_e hf
  refine rp_i hC hw 0 (Nat.le_of_ble_eq_true rfl) rfl fd_X12_0 wf_X12_1 fp_X12_0 rfl rfl dX12_fits_2 eM1 (fun H locs hw => ?_)
  refine lv_aload_n hx hb dX12_fits_5 rfl (lv_at hl 0 rfl) ?_
  obtain ⟨z2, ez2, hf⟩ := bd_e hf
  refine clc_Vv hC hw (c_X12_gathers ez2) hd_X12_gathers cw_X12_282 (Nat.le_of_ble_eq_true rfl) rfl rfl (rest := []) hl.1 rfl (Nat.le_of_ble_eq_true rfl) ⟨Nat.le_of_ble_eq_true rfl, Nat.le_of_ble_eq_true rfl⟩ ⟨Nat.zero_le _, Nat.zero_le _⟩ rfl dX12_fits_6 (fun H locs hw => ?_)
  refine lv_aload_n hx hb dX12_fits_9 rfl (lv_at hl 0 rfl) ?_
  refine lv_iconst (v := 0) hx hb dX12_fits_10 (by decide) ?_
  obtain ⟨M3, eM3, hf⟩ := sq_e hf
  refine rp_i hC hw 0 (Nat.le_of_ble_eq_true rfl) rfl fd_X12_1 wf_X12_11 fp_X12_1 rfl rfl dX12_fits_11 eM3 (fun H locs hw => ?_)
  refine lv_aload_n hx hb dX12_fits_14 rfl (lv_at hl 0 rfl) ?_
  refine rg_i hC hw 0 (Nat.le_of_ble_eq_true rfl) rfl fd_X12_39 wf_X12_273 dX12_fits_15 ?_
  refine lv_if_le (tgt := 32) hx hb dX12_fits_18 (by decide) (fun c4 => ?_) (fun c4 => ?_)
  · rw [if_pos c4] at hf
    exact k_X12_fits_32 hC hf hw (lv_sub hl [0] rfl)
  · rw [if_neg c4] at hf
    refine lv_aload_n hx hb dX12_fits_21 rfl (lv_at hl 0 rfl) ?_
    refine lv_aload_n hx hb dX12_fits_22 rfl (lv_at hl 0 rfl) ?_
    refine rg_p hC hw 0 (Nat.le_of_ble_eq_true rfl) rfl fd_X12_38 wf_X12_279 (q := 27) rfl dX12_fits_23 ?_
    refine lv_iconst (v := 0) hx hb dX12_fits_26 (by decide) ?_
    refine ra_i hC hw 27 (Nat.le_of_ble_eq_true rfl) rfl (by decide) dX12_fits_27 ?_
    refine lv_i2l hx hb dX12_fits_28 rfl ?_
    obtain ⟨z5, ez5, hf⟩ := bd_e hf
    refine clc_Vv hC hw (c_X12_enters ez5) hd_X12_enters cw_X12_18 (Nat.le_of_ble_eq_true rfl) rfl rfl (rest := []) hl.1 rfl (Nat.le_of_ble_eq_true rfl) ⟨Nat.le_of_ble_eq_true rfl, Nat.le_of_ble_eq_true rfl⟩ ⟨Nat.zero_le _, Nat.zero_le _⟩ rfl dX12_fits_29 (fun H locs hw => ?_)
    exact k_X12_fits_32 hC hf hw (lv_sub hl [0] rfl)
set_option maxRecDepth 100000 in
theorem c_X12_fits {l : Launch} {D : va_G} {cy : Nat → ClassId} {z0 : Nat} {ad : Nat → Nat} {u : Nat × Nat} {X : va_W} {z : (Int32 × mm_M)} {M : mm_M} (hf : f_X12_fits M = some z) : ct_i rf_T l yX12_fits (Cond.code yX12_fits cX12_fits 1 (some .int)) 8 189 D cy z0 ad u M X [.ref (ad 0)] z.1 z.2 := by
  refine bgc_i (by decide) (fun p e s m below meth c hC hw => ?_)
  refine en_t (Nat.le_of_ble_eq_true rfl) (fun ls hl => ?_)
  have hl : lv_has ls 1 [(0, .ref (ad 0))] := hl
  exact k_X12_fits hC hf hw hl
set_option maxRecDepth 100000 in
set_option maxHeartbeats 4000000 in
theorem k_X12_span_86 {p : Program} {l : Launch} {e : Env} {s : State} {m : MethodId} {args : Array Value} {below : List Frame} {meth : Method} {c : Code} {D : va_G} {cy : Nat → ClassId} {z0 : Nat} {ad : Nat → Nat} {X : va_W} {u : Nat × Nat} (hC : cx_C p s m args meth c cX12_span "RhymedThenModel" (Cond.code yX12_span cX12_span 6 (some .int)) 6 (some .int)) {z : (Int32 × mm_M)} {x1 : Int32} {x2 : Int32} {x4 : Int32} {t0 : Int32} {M : mm_M} {q35 : Int32 → Int32 → Int32 → Int32 → mm_M → Option (Int32 × mm_M)} (hq35 : ∀ (x1 : Int32) (x2 : Int32) (x3 : Int32) (x4 : Int32) (M : mm_M) (H : Heap) (locs : List Loc) (ls : Array Slot), q35 x1 x2 x3 x4 M = some z → wd_in rf_T D cy z0 ad u M X s H locs → lv_has ls 6 [(0, .ref (ad 0)), (1, .int x1), (2, .int x2), (3, .int x3), (4, .int x4)] → W p l e { frames := 8, cells := 0, slots := 0, locals := 189 } s m args below meth c H locs 0 0 (MQ below (cq_i rf_T D cy z0 ad u X z.1 z.2) args s 0 0 (fun q => z0 ≤ q)) (F0 m 35 ls [])) (hf : f_X12_span_86 q35 x1 x2 x4 t0 M = some z) {H : Heap} {locs : List Loc} (hw : wd_in rf_T D cy z0 ad u M X s H locs) {ls : Array Slot} (hl : lv_has ls 6 [(0, .ref (ad 0)), (1, .int x1), (2, .int x2), (4, .int x4)]) : W p l e { frames := 8, cells := 0, slots := 0, locals := 189 } s m args below meth c H locs 0 0 (MQ below (cq_i rf_T D cy z0 ad u X z.1 z.2) args s 0 0 (fun q => z0 ≤ q)) (F0 m 86 ls [.int t0]) := by
  have hx := hC.1
  have hb := hC.2.1
  unfold f_X12_span_86 at hf
  refine lv_istore_n (lv' := [(3, .int t0), (0, .ref (ad 0)), (1, .int x1), (2, .int x2), (4, .int x4)]) hx hb dX12_span_86 rfl hl (by decide) rfl (fun ls hl => ?_)
  obtain ⟨y12, ey12, hf⟩ := sq_e hf
  refine lv_iinc (v := y12) (lv' := [(4, .int y12), (3, .int t0), (0, .ref (ad 0)), (1, .int x1), (2, .int x2)]) hx hb dX12_span_87 hl (k := 4) rfl (by rw [ey12]; rfl) (by decide) rfl (fun ls hl => ?_)
  refine lv_goto (tgt := 35) hx hb dX12_span_90 (by decide) ?_
  exact hq35 _ _ _ _ _ _ _ _ hf hw (lv_sub hl [2, 3, 4, 1, 0] rfl)
set_option maxRecDepth 100000 in
set_option maxHeartbeats 4000000 in
theorem k_X12_span_35 {p : Program} {l : Launch} {e : Env} {s : State} {m : MethodId} {args : Array Value} {below : List Frame} {meth : Method} {c : Code} {D : va_G} {cy : Nat → ClassId} {z0 : Nat} {ad : Nat → Nat} {X : va_W} {u : Nat × Nat} (hC : cx_C p s m args meth c cX12_span "RhymedThenModel" (Cond.code yX12_span cX12_span 6 (some .int)) 6 (some .int)) {z : (Int32 × mm_M)} {x1 : Int32} {x2 : Int32} {x3 : Int32} {x4 : Int32} {M : mm_M} {q35 : Int32 → Int32 → Int32 → Int32 → mm_M → Option (Int32 × mm_M)} (hq35 : ∀ (x1 : Int32) (x2 : Int32) (x3 : Int32) (x4 : Int32) (M : mm_M) (H : Heap) (locs : List Loc) (ls : Array Slot), q35 x1 x2 x3 x4 M = some z → wd_in rf_T D cy z0 ad u M X s H locs → lv_has ls 6 [(0, .ref (ad 0)), (1, .int x1), (2, .int x2), (3, .int x3), (4, .int x4)] → W p l e { frames := 8, cells := 0, slots := 0, locals := 189 } s m args below meth c H locs 0 0 (MQ below (cq_i rf_T D cy z0 ad u X z.1 z.2) args s 0 0 (fun q => z0 ≤ q)) (F0 m 35 ls [])) (hf : f_X12_span_35 q35 x1 x2 x3 x4 M = some z) {H : Heap} {locs : List Loc} (hw : wd_in rf_T D cy z0 ad u M X s H locs) {ls : Array Slot} (hl : lv_has ls 6 [(0, .ref (ad 0)), (1, .int x1), (2, .int x2), (3, .int x3), (4, .int x4)]) : W p l e { frames := 8, cells := 0, slots := 0, locals := 189 } s m args below meth c H locs 0 0 (MQ below (cq_i rf_T D cy z0 ad u X z.1 z.2) args s 0 0 (fun q => z0 ≤ q)) (F0 m 35 ls []) := by
  have hx := hC.1
  have hb := hC.2.1
  unfold f_X12_span_35 at hf
  refine lv_iload hx hb dX12_span_35 (lv_at hl 4 rfl) ?_
  refine lv_aload_n hx hb dX12_span_37 rfl (lv_at hl 0 rfl) ?_
  refine rg_i hC hw 0 (Nat.le_of_ble_eq_true rfl) rfl fd_X12_39 wf_X12_273 dX12_span_38 ?_
  refine lv_icmp_ge (tgt := 93) hx hb dX12_span_41 (by decide) (fun c7 => ?_) (fun c7 => ?_)
  · rw [if_pos c7] at hf
    refine lv_iload_n hx hb dX12_span_93 rfl (lv_at hl 3 rfl) ?_
    have hz := Option.some.inj hf
    subst hz
    exact rtc_i hC hw dX12_span_94
  · rw [if_neg c7] at hf
    refine lv_aload_n hx hb dX12_span_44 rfl (lv_at hl 0 rfl) ?_
    refine lv_iload_n hx hb dX12_span_45 rfl (lv_at hl 1 rfl) ?_
    refine lv_aload_n hx hb dX12_span_46 rfl (lv_at hl 0 rfl) ?_
    refine rg_p hC hw 0 (Nat.le_of_ble_eq_true rfl) rfl fd_X12_38 wf_X12_279 (q := 27) rfl dX12_span_47 ?_
    refine lv_iload hx hb dX12_span_50 (lv_at hl 4 rfl) ?_
    obtain ⟨h8, hf⟩ := ck_e hf
    refine ra_i hC hw 27 (Nat.le_of_ble_eq_true rfl) rfl h8 dX12_span_52 ?_
    obtain ⟨z9, ez9, hf⟩ := bd_e hf
    refine clc_Vi hC hw (c_X12_yearOf ez9) hd_X12_yearOf cw_X12_140 (Nat.le_of_ble_eq_true rfl) rfl rfl (rest := []) hl.1 rfl (Nat.le_of_ble_eq_true rfl) ⟨Nat.le_of_ble_eq_true rfl, Nat.le_of_ble_eq_true rfl⟩ ⟨Nat.zero_le _, Nat.zero_le _⟩ rfl dX12_span_53 (fun H locs hw => ?_)
    refine lv_istore (lv' := [(5, .int z9), (0, .ref (ad 0)), (1, .int x1), (2, .int x2), (3, .int x3), (4, .int x4)]) hx hb dX12_span_56 hl (by decide) rfl (fun ls hl => ?_)
    refine lv_iload_n hx hb dX12_span_58 rfl (lv_at hl 4 rfl) ?_
    refine lv_if_ge (tgt := 67) hx hb dX12_span_59 (by decide) (fun c10 => ?_) (fun c10 => ?_)
    · rw [if_pos c10] at hf
      refine lv_iload_n hx hb dX12_span_67 rfl (lv_at hl 3 rfl) ?_
      refine lv_if_ne (tgt := 80) hx hb dX12_span_68 (by decide) (fun c11 => ?_) (fun c11 => ?_)
      · rw [if_neg c11] at hf
        refine lv_iload_n hx hb dX12_span_80 rfl (lv_at hl 4 rfl) ?_
        refine lv_iload hx hb dX12_span_81 (lv_at hl 0 rfl) ?_
        refine mx_max hC (rest := []) wm_X12_127 hl.1 ⟨Nat.le_of_ble_eq_true rfl, Nat.le_of_ble_eq_true rfl⟩ ⟨Nat.zero_le _, Nat.zero_le _⟩ dX12_span_83 ?_
        exact k_X12_span_86 hC hq35 hf hw (lv_sub hl [1, 2, 3, 5] rfl)
      · rw [if_pos c11] at hf
        refine lv_iload_n hx hb dX12_span_71 rfl (lv_at hl 4 rfl) ?_
        refine lv_iload hx hb dX12_span_72 (lv_at hl 0 rfl) ?_
        refine mx_min hC (rest := []) wm_X12_69 hl.1 ⟨Nat.le_of_ble_eq_true rfl, Nat.le_of_ble_eq_true rfl⟩ ⟨Nat.zero_le _, Nat.zero_le _⟩ dX12_span_74 ?_
        refine lv_goto (tgt := 86) hx hb dX12_span_77 (by decide) ?_
        exact k_X12_span_86 hC hq35 hf hw (lv_sub hl [1, 2, 3, 5] rfl)
    · rw [if_neg c10] at hf
      refine lv_iload hx hb dX12_span_62 (lv_at hl 0 rfl) ?_
      refine lv_goto (tgt := 86) hx hb dX12_span_64 (by decide) ?_
      exact k_X12_span_86 hC hq35 hf hw (lv_sub hl [1, 2, 3, 5] rfl)
set_option maxRecDepth 100000 in
set_option maxHeartbeats 4000000 in
theorem k_X12_span_35l {p : Program} {l : Launch} {e : Env} {s : State} {m : MethodId} {args : Array Value} {below : List Frame} {meth : Method} {c : Code} {D : va_G} {cy : Nat → ClassId} {z0 : Nat} {ad : Nat → Nat} {X : va_W} {u : Nat × Nat} (hC : cx_C p s m args meth c cX12_span "RhymedThenModel" (Cond.code yX12_span cX12_span 6 (some .int)) 6 (some .int)) {z : (Int32 × mm_M)} : ∀ (n : Nat) (x1 : Int32) (x2 : Int32) (x3 : Int32) (x4 : Int32) (M : mm_M) (H : Heap) (locs : List Loc) (ls : Array Slot), f_X12_span_35l n x1 x2 x3 x4 M = some z → wd_in rf_T D cy z0 ad u M X s H locs → lv_has ls 6 [(0, .ref (ad 0)), (1, .int x1), (2, .int x2), (3, .int x3), (4, .int x4)] → W p l e { frames := 8, cells := 0, slots := 0, locals := 189 } s m args below meth c H locs 0 0 (MQ below (cq_i rf_T D cy z0 ad u X z.1 z.2) args s 0 0 (fun q => z0 ≤ q)) (F0 m 35 ls []) := by
  intro n
  induction n with
  | zero => intro x1 x2 x3 x4 M H locs ls hf; exact absurd hf (by simp [f_X12_span_35l])
  | succ n ih => intro x1 x2 x3 x4 M H locs ls hf hw hl; exact k_X12_span_35 hC ih hf hw hl
set_option maxRecDepth 100000 in
set_option maxHeartbeats 4000000 in
theorem k_X12_span {p : Program} {l : Launch} {e : Env} {s : State} {m : MethodId} {args : Array Value} {below : List Frame} {meth : Method} {c : Code} {D : va_G} {cy : Nat → ClassId} {z0 : Nat} {ad : Nat → Nat} {X : va_W} {u : Nat × Nat} (hC : cx_C p s m args meth c cX12_span "RhymedThenModel" (Cond.code yX12_span cX12_span 6 (some .int)) 6 (some .int)) {z : (Int32 × mm_M)} {x1 : Int32} {x2 : Int32} {M : mm_M} (hf : f_X12_span x1 x2 M = some z) {H : Heap} {locs : List Loc} (hw : wd_in rf_T D cy z0 ad u M X s H locs) {ls : Array Slot} (hl : lv_has ls 6 [(0, .ref (ad 0)), (1, .int x1), (2, .int x2)]) : W p l e { frames := 8, cells := 0, slots := 0, locals := 189 } s m args below meth c H locs 0 0 (MQ below (cq_i rf_T D cy z0 ad u X z.1 z.2) args s 0 0 (fun q => z0 ≤ q)) (F0 m 0 ls []) := by
  have hx := hC.1
  have hb := hC.2.1
  unfold f_X12_span at hf
  refine lv_aload_n hx hb dX12_span_0 rfl (lv_at hl 0 rfl) ?_
  refine lv_iconst (v := 0) hx hb dX12_span_1 (by decide) ?_
  obtain ⟨M1, eM1, hf⟩ := sq_e hf
  refine rp_i hC hw 0 (Nat.le_of_ble_eq_true rfl) rfl fd_X12_0 wf_X12_1 fp_X12_0 rfl rfl dX12_span_2 eM1 (fun H locs hw => ?_)
  refine lv_aload_n hx hb dX12_span_5 rfl (lv_at hl 0 rfl) ?_
  refine lv_iload_n hx hb dX12_span_6 rfl (lv_at hl 1 rfl) ?_
  obtain ⟨z2, ez2, hf⟩ := sq_e hf
  refine clc_Vi hC hw (c_X12_isLaw ez2.symm) hd_X12_isLaw cw_X12_217 (Nat.le_of_ble_eq_true rfl) rfl rfl (rest := []) hl.1 rfl (Nat.le_of_ble_eq_true rfl) ⟨Nat.le_of_ble_eq_true rfl, Nat.le_of_ble_eq_true rfl⟩ ⟨Nat.zero_le _, Nat.zero_le _⟩ rfl dX12_span_7 (fun H locs hw => ?_)
  refine lv_if_eq (tgt := 23) hx hb dX12_span_10 (by decide) (fun c3 => ?_) (fun c3 => ?_)
  · rw [if_pos c3] at hf
    refine lv_iconst (v := (-1)) hx hb dX12_span_23 (by decide) ?_
    have hz := Option.some.inj hf
    subst hz
    exact rtc_i hC hw dX12_span_24
  · rw [if_neg c3] at hf
    refine lv_iload_n hx hb dX12_span_13 rfl (lv_at hl 2 rfl) ?_
    refine lv_i2l hx hb dX12_span_14 rfl ?_
    refine lv_lconst (v := 0) hx hb dX12_span_15 (by decide) ?_
    refine lv_lconst (v := 1) hx hb dX12_span_16 (by decide) ?_
    obtain ⟨z4, ez4, hf⟩ := sq_e hf
    refine clc_Si hC hw (c_X12_in ez4.symm) hd_X12_in cw_X12_29 (rest := []) hl.1 rfl (Nat.le_of_ble_eq_true rfl) ⟨Nat.le_of_ble_eq_true rfl, Nat.le_of_ble_eq_true rfl⟩ ⟨Nat.zero_le _, Nat.zero_le _⟩ rfl dX12_span_17 (fun H locs hw => ?_)
    refine lv_if_ne (tgt := 25) hx hb dX12_span_20 (by decide) (fun c5 => ?_) (fun c5 => ?_)
    · rw [if_neg c5] at hf
      refine lv_aload_n hx hb dX12_span_25 rfl (lv_at hl 0 rfl) ?_
      obtain ⟨z6, ez6, hf⟩ := bd_e hf
      refine clc_Vv hC hw (c_X12_gathers ez6) hd_X12_gathers cw_X12_282 (Nat.le_of_ble_eq_true rfl) rfl rfl (rest := []) hl.1 rfl (Nat.le_of_ble_eq_true rfl) ⟨Nat.le_of_ble_eq_true rfl, Nat.le_of_ble_eq_true rfl⟩ ⟨Nat.zero_le _, Nat.zero_le _⟩ rfl dX12_span_26 (fun H locs hw => ?_)
      refine lv_bipush (v := (-2)) hx hb dX12_span_29 (by decide) ?_
      refine lv_istore_n (lv' := [(3, .int (-2)), (0, .ref (ad 0)), (1, .int x1), (2, .int x2)]) hx hb dX12_span_31 rfl hl (by decide) rfl (fun ls hl => ?_)
      refine lv_iconst (v := 0) hx hb dX12_span_32 (by decide) ?_
      refine lv_istore (lv' := [(4, .int 0), (3, .int (-2)), (0, .ref (ad 0)), (1, .int x1), (2, .int x2)]) hx hb dX12_span_33 hl (by decide) rfl (fun ls hl => ?_)
      exact k_X12_span_35l hC fu_ _ _ _ _ _ _ _ _ hf hw (lv_sub hl [2, 3, 4, 1, 0] rfl)
    · rw [if_pos c5] at hf
      refine lv_iconst (v := (-1)) hx hb dX12_span_23 (by decide) ?_
      have hz := Option.some.inj hf
      subst hz
      exact rtc_i hC hw dX12_span_24
set_option maxRecDepth 100000 in
theorem c_X12_span {l : Launch} {D : va_G} {cy : Nat → ClassId} {z0 : Nat} {ad : Nat → Nat} {u : Nat × Nat} {X : va_W} {z : (Int32 × mm_M)} {x1 : Int32} {x2 : Int32} {M : mm_M} (hf : f_X12_span x1 x2 M = some z) : ct_i rf_T l yX12_span (Cond.code yX12_span cX12_span 6 (some .int)) 8 189 D cy z0 ad u M X [.ref (ad 0), .int x1, .int x2] z.1 z.2 := by
  refine bgc_i (by decide) (fun p e s m below meth c hC hw => ?_)
  refine en_t (Nat.le_of_ble_eq_true rfl) (fun ls hl => ?_)
  have hl : lv_has ls 6 [(0, .ref (ad 0)), (1, .int x1), (2, .int x2)] := hl
  exact k_X12_span hC hf hw hl
set_option maxRecDepth 100000 in
set_option maxHeartbeats 4000000 in
theorem k_X12_order_99 {p : Program} {l : Launch} {e : Env} {s : State} {m : MethodId} {args : Array Value} {below : List Frame} {meth : Method} {c : Code} {D : va_G} {cy : Nat → ClassId} {z0 : Nat} {ad : Nat → Nat} {X : va_W} {u : Nat × Nat} (hC : cx_C p s m args meth c cX12_order "RhymedThenModel" (Cond.code yX12_order cX12_order 7 (some .int)) 7 (some .int)) {z : (Int32 × mm_M)} {x1 : Int32} {x2 : Int32} {x4 : Int32} {t0 : Int32} {t1 : Int32} {M : mm_M} {q37 : Int32 → Int32 → Int32 → Int32 → mm_M → Option (Int32 × mm_M)} (hq37 : ∀ (x1 : Int32) (x2 : Int32) (x3 : Int32) (x4 : Int32) (M : mm_M) (H : Heap) (locs : List Loc) (ls : Array Slot), q37 x1 x2 x3 x4 M = some z → wd_in rf_T D cy z0 ad u M X s H locs → lv_has ls 7 [(0, .ref (ad 0)), (1, .int x1), (2, .int x2), (3, .int x3), (4, .int x4)] → W p l e { frames := 8, cells := 0, slots := 0, locals := 189 } s m args below meth c H locs 0 0 (MQ below (cq_i rf_T D cy z0 ad u X z.1 z.2) args s 0 0 (fun q => z0 ≤ q)) (F0 m 37 ls [])) (hf : f_X12_order_99 q37 x1 x2 x4 t0 t1 M = some z) {H : Heap} {locs : List Loc} (hw : wd_in rf_T D cy z0 ad u M X s H locs) {ls : Array Slot} (hl : lv_has ls 7 [(0, .ref (ad 0)), (1, .int x1), (2, .int x2), (4, .int x4)]) : W p l e { frames := 8, cells := 0, slots := 0, locals := 189 } s m args below meth c H locs 0 0 (MQ below (cq_i rf_T D cy z0 ad u X z.1 z.2) args s 0 0 (fun q => z0 ≤ q)) (F0 m 99 ls [.int t1, .int t0]) := by
  have hx := hC.1
  have hb := hC.2.1
  unfold f_X12_order_99 at hf
  obtain ⟨z19, ez19, hf⟩ := sq_e hf
  refine clc_Si hC hw (c_X12_truth ez19.symm) hd_X12_truth cw_X12_39 (rest := [.int t0]) hl.1 rfl (Nat.le_of_ble_eq_true rfl) ⟨Nat.le_of_ble_eq_true rfl, Nat.le_of_ble_eq_true rfl⟩ ⟨Nat.zero_le _, Nat.zero_le _⟩ rfl dX12_order_99 (fun H locs hw => ?_)
  refine lv_iadd hx hb dX12_order_102 ?_
  obtain ⟨y20, ey20, hf⟩ := sq_e hf
  refine lt_i ey20 ?_
  refine lv_istore_n (lv' := [(3, .int y20), (0, .ref (ad 0)), (1, .int x1), (2, .int x2), (4, .int x4)]) hx hb dX12_order_103 rfl hl (by decide) rfl (fun ls hl => ?_)
  obtain ⟨y21, ey21, hf⟩ := sq_e hf
  refine lv_iinc (v := y21) (lv' := [(4, .int y21), (3, .int y20), (0, .ref (ad 0)), (1, .int x1), (2, .int x2)]) hx hb dX12_order_104 hl (k := 4) rfl (by rw [ey21]; rfl) (by decide) rfl (fun ls hl => ?_)
  refine lv_goto (tgt := 37) hx hb dX12_order_107 (by decide) ?_
  exact hq37 _ _ _ _ _ _ _ _ hf hw (lv_sub hl [2, 3, 4, 1, 0] rfl)
set_option maxRecDepth 100000 in
set_option maxHeartbeats 4000000 in
theorem k_X12_order_94 {p : Program} {l : Launch} {e : Env} {s : State} {m : MethodId} {args : Array Value} {below : List Frame} {meth : Method} {c : Code} {D : va_G} {cy : Nat → ClassId} {z0 : Nat} {ad : Nat → Nat} {X : va_W} {u : Nat × Nat} (hC : cx_C p s m args meth c cX12_order "RhymedThenModel" (Cond.code yX12_order cX12_order 7 (some .int)) 7 (some .int)) {z : (Int32 × mm_M)} {x1 : Int32} {x2 : Int32} {x4 : Int32} {t0 : Int32} {M : mm_M} {q37 : Int32 → Int32 → Int32 → Int32 → mm_M → Option (Int32 × mm_M)} (hq37 : ∀ (x1 : Int32) (x2 : Int32) (x3 : Int32) (x4 : Int32) (M : mm_M) (H : Heap) (locs : List Loc) (ls : Array Slot), q37 x1 x2 x3 x4 M = some z → wd_in rf_T D cy z0 ad u M X s H locs → lv_has ls 7 [(0, .ref (ad 0)), (1, .int x1), (2, .int x2), (3, .int x3), (4, .int x4)] → W p l e { frames := 8, cells := 0, slots := 0, locals := 189 } s m args below meth c H locs 0 0 (MQ below (cq_i rf_T D cy z0 ad u X z.1 z.2) args s 0 0 (fun q => z0 ≤ q)) (F0 m 37 ls [])) (hf : f_X12_order_94 q37 x1 x2 x4 t0 M = some z) {H : Heap} {locs : List Loc} (hw : wd_in rf_T D cy z0 ad u M X s H locs) {ls : Array Slot} (hl : lv_has ls 7 [(0, .ref (ad 0)), (1, .int x1), (2, .int x2), (4, .int x4)]) : W p l e { frames := 8, cells := 0, slots := 0, locals := 189 } s m args below meth c H locs 0 0 (MQ below (cq_i rf_T D cy z0 ad u X z.1 z.2) args s 0 0 (fun q => z0 ≤ q)) (F0 m 94 ls [.int t0]) := by
  have hx := hC.1
  have hb := hC.2.1
  unfold f_X12_order_94 at hf
  refine lv_iconst (v := 1) hx hb dX12_order_94 (by decide) ?_
  refine lv_goto (tgt := 99) hx hb dX12_order_95 (by decide) ?_
  exact k_X12_order_99 hC hq37 hf hw (lv_sub hl [0, 1, 2, 3] rfl)
set_option maxRecDepth 100000 in
set_option maxHeartbeats 4000000 in
theorem k_X12_order_98 {p : Program} {l : Launch} {e : Env} {s : State} {m : MethodId} {args : Array Value} {below : List Frame} {meth : Method} {c : Code} {D : va_G} {cy : Nat → ClassId} {z0 : Nat} {ad : Nat → Nat} {X : va_W} {u : Nat × Nat} (hC : cx_C p s m args meth c cX12_order "RhymedThenModel" (Cond.code yX12_order cX12_order 7 (some .int)) 7 (some .int)) {z : (Int32 × mm_M)} {x1 : Int32} {x2 : Int32} {x4 : Int32} {t0 : Int32} {M : mm_M} {q37 : Int32 → Int32 → Int32 → Int32 → mm_M → Option (Int32 × mm_M)} (hq37 : ∀ (x1 : Int32) (x2 : Int32) (x3 : Int32) (x4 : Int32) (M : mm_M) (H : Heap) (locs : List Loc) (ls : Array Slot), q37 x1 x2 x3 x4 M = some z → wd_in rf_T D cy z0 ad u M X s H locs → lv_has ls 7 [(0, .ref (ad 0)), (1, .int x1), (2, .int x2), (3, .int x3), (4, .int x4)] → W p l e { frames := 8, cells := 0, slots := 0, locals := 189 } s m args below meth c H locs 0 0 (MQ below (cq_i rf_T D cy z0 ad u X z.1 z.2) args s 0 0 (fun q => z0 ≤ q)) (F0 m 37 ls [])) (hf : f_X12_order_98 q37 x1 x2 x4 t0 M = some z) {H : Heap} {locs : List Loc} (hw : wd_in rf_T D cy z0 ad u M X s H locs) {ls : Array Slot} (hl : lv_has ls 7 [(0, .ref (ad 0)), (1, .int x1), (2, .int x2), (4, .int x4)]) : W p l e { frames := 8, cells := 0, slots := 0, locals := 189 } s m args below meth c H locs 0 0 (MQ below (cq_i rf_T D cy z0 ad u X z.1 z.2) args s 0 0 (fun q => z0 ≤ q)) (F0 m 98 ls [.int t0]) := by
  have hx := hC.1
  have hb := hC.2.1
  unfold f_X12_order_98 at hf
  refine lv_iconst (v := 0) hx hb dX12_order_98 (by decide) ?_
  exact k_X12_order_99 hC hq37 hf hw (lv_sub hl [0, 1, 2, 3] rfl)
set_option maxRecDepth 100000 in
set_option maxHeartbeats 4000000 in
theorem k_X12_order_110 {p : Program} {l : Launch} {e : Env} {s : State} {m : MethodId} {args : Array Value} {below : List Frame} {meth : Method} {c : Code} {D : va_G} {cy : Nat → ClassId} {z0 : Nat} {ad : Nat → Nat} {X : va_W} {u : Nat × Nat} (hC : cx_C p s m args meth c cX12_order "RhymedThenModel" (Cond.code yX12_order cX12_order 7 (some .int)) 7 (some .int)) {z : (Int32 × mm_M)} {x3 : Int32} {M : mm_M} (hf : f_X12_order_110 x3 M = some z) {H : Heap} {locs : List Loc} (hw : wd_in rf_T D cy z0 ad u M X s H locs) {ls : Array Slot} (hl : lv_has ls 7 [(0, .ref (ad 0)), (3, .int x3)]) : W p l e { frames := 8, cells := 0, slots := 0, locals := 189 } s m args below meth c H locs 0 0 (MQ below (cq_i rf_T D cy z0 ad u X z.1 z.2) args s 0 0 (fun q => z0 ≤ q)) (F0 m 110 ls []) := by
  have hx := hC.1
  have hb := hC.2.1
  unfold f_X12_order_110 at hf
  refine lv_aload_n hx hb dX12_order_110 rfl (lv_at hl 0 rfl) ?_
  refine rg_i hC hw 0 (Nat.le_of_ble_eq_true rfl) rfl fd_X12_39 wf_X12_273 dX12_order_111 ?_
  refine lv_if_ne (tgt := 122) hx hb dX12_order_114 (by decide) (fun c16 => ?_) (fun c16 => ?_)
  · rw [if_neg c16] at hf
    refine lv_iload_n hx hb dX12_order_122 rfl (lv_at hl 1 rfl) ?_
    refine lv_aload_n hx hb dX12_order_123 rfl (lv_at hl 0 rfl) ?_
    refine rg_i hC hw 0 (Nat.le_of_ble_eq_true rfl) rfl fd_X12_39 wf_X12_273 dX12_order_124 ?_
    refine lv_icmp_ne (tgt := 134) hx hb dX12_order_127 (by decide) (fun c17 => ?_) (fun c17 => ?_)
    · rw [if_neg c17] at hf
      refine lv_iload_n hx hb dX12_order_134 rfl (lv_at hl 1 rfl) ?_
      refine lv_if_ne (tgt := 142) hx hb dX12_order_135 (by decide) (fun c18 => ?_) (fun c18 => ?_)
      · rw [if_neg c18] at hf
        refine lv_iconst (v := 0) hx hb dX12_order_142 (by decide) ?_
        have hz := Option.some.inj hf
        subst hz
        exact rtc_i hC hw dX12_order_143
      · rw [if_pos c18] at hf
        refine lv_iconst (v := 2) hx hb dX12_order_138 (by decide) ?_
        refine lv_goto (tgt := 143) hx hb dX12_order_139 (by decide) ?_
        have hz := Option.some.inj hf
        subst hz
        exact rtc_i hC hw dX12_order_143
    · rw [if_pos c17] at hf
      refine lv_iconst (v := 1) hx hb dX12_order_130 (by decide) ?_
      refine lv_goto (tgt := 143) hx hb dX12_order_131 (by decide) ?_
      have hz := Option.some.inj hf
      subst hz
      exact rtc_i hC hw dX12_order_143
  · rw [if_pos c16] at hf
    refine lv_bipush (v := (-2)) hx hb dX12_order_117 (by decide) ?_
    refine lv_goto (tgt := 143) hx hb dX12_order_119 (by decide) ?_
    have hz := Option.some.inj hf
    subst hz
    exact rtc_i hC hw dX12_order_143
set_option maxRecDepth 100000 in
set_option maxHeartbeats 4000000 in
theorem k_X12_order_37 {p : Program} {l : Launch} {e : Env} {s : State} {m : MethodId} {args : Array Value} {below : List Frame} {meth : Method} {c : Code} {D : va_G} {cy : Nat → ClassId} {z0 : Nat} {ad : Nat → Nat} {X : va_W} {u : Nat × Nat} (hC : cx_C p s m args meth c cX12_order "RhymedThenModel" (Cond.code yX12_order cX12_order 7 (some .int)) 7 (some .int)) {z : (Int32 × mm_M)} {x1 : Int32} {x2 : Int32} {x3 : Int32} {x4 : Int32} {M : mm_M} {q37 : Int32 → Int32 → Int32 → Int32 → mm_M → Option (Int32 × mm_M)} (hq37 : ∀ (x1 : Int32) (x2 : Int32) (x3 : Int32) (x4 : Int32) (M : mm_M) (H : Heap) (locs : List Loc) (ls : Array Slot), q37 x1 x2 x3 x4 M = some z → wd_in rf_T D cy z0 ad u M X s H locs → lv_has ls 7 [(0, .ref (ad 0)), (1, .int x1), (2, .int x2), (3, .int x3), (4, .int x4)] → W p l e { frames := 8, cells := 0, slots := 0, locals := 189 } s m args below meth c H locs 0 0 (MQ below (cq_i rf_T D cy z0 ad u X z.1 z.2) args s 0 0 (fun q => z0 ≤ q)) (F0 m 37 ls [])) (hf : f_X12_order_37 q37 x1 x2 x3 x4 M = some z) {H : Heap} {locs : List Loc} (hw : wd_in rf_T D cy z0 ad u M X s H locs) {ls : Array Slot} (hl : lv_has ls 7 [(0, .ref (ad 0)), (1, .int x1), (2, .int x2), (3, .int x3), (4, .int x4)]) : W p l e { frames := 8, cells := 0, slots := 0, locals := 189 } s m args below meth c H locs 0 0 (MQ below (cq_i rf_T D cy z0 ad u X z.1 z.2) args s 0 0 (fun q => z0 ≤ q)) (F0 m 37 ls []) := by
  have hx := hC.1
  have hb := hC.2.1
  unfold f_X12_order_37 at hf
  refine lv_iload hx hb dX12_order_37 (lv_at hl 4 rfl) ?_
  refine lv_aload_n hx hb dX12_order_39 rfl (lv_at hl 0 rfl) ?_
  refine rg_i hC hw 0 (Nat.le_of_ble_eq_true rfl) rfl fd_X12_39 wf_X12_273 dX12_order_40 ?_
  refine lv_icmp_ge (tgt := 110) hx hb dX12_order_43 (by decide) (fun c8 => ?_) (fun c8 => ?_)
  · rw [if_pos c8] at hf
    exact k_X12_order_110 hC hf hw (lv_sub hl [0, 3] rfl)
  · rw [if_neg c8] at hf
    refine lv_aload_n hx hb dX12_order_46 rfl (lv_at hl 0 rfl) ?_
    refine lv_iload_n hx hb dX12_order_47 rfl (lv_at hl 1 rfl) ?_
    refine lv_aload_n hx hb dX12_order_48 rfl (lv_at hl 0 rfl) ?_
    refine rg_p hC hw 0 (Nat.le_of_ble_eq_true rfl) rfl fd_X12_38 wf_X12_279 (q := 27) rfl dX12_order_49 ?_
    refine lv_iload hx hb dX12_order_52 (lv_at hl 4 rfl) ?_
    obtain ⟨h9, hf⟩ := ck_e hf
    refine ra_i hC hw 27 (Nat.le_of_ble_eq_true rfl) rfl h9 dX12_order_54 ?_
    obtain ⟨z10, ez10, hf⟩ := bd_e hf
    refine clc_Vi hC hw (c_X12_yearOf ez10) hd_X12_yearOf cw_X12_140 (Nat.le_of_ble_eq_true rfl) rfl rfl (rest := []) hl.1 rfl (Nat.le_of_ble_eq_true rfl) ⟨Nat.le_of_ble_eq_true rfl, Nat.le_of_ble_eq_true rfl⟩ ⟨Nat.zero_le _, Nat.zero_le _⟩ rfl dX12_order_55 (fun H locs hw => ?_)
    refine lv_istore (lv' := [(5, .int z10), (0, .ref (ad 0)), (1, .int x1), (2, .int x2), (3, .int x3), (4, .int x4)]) hx hb dX12_order_58 hl (by decide) rfl (fun ls hl => ?_)
    refine lv_aload_n hx hb dX12_order_60 rfl (lv_at hl 1 rfl) ?_
    refine lv_iload_n hx hb dX12_order_61 rfl (lv_at hl 3 rfl) ?_
    refine lv_aload_n hx hb dX12_order_62 rfl (lv_at hl 1 rfl) ?_
    refine rg_p hC hw 0 (Nat.le_of_ble_eq_true rfl) rfl fd_X12_38 wf_X12_279 (q := 27) rfl dX12_order_63 ?_
    refine lv_iload hx hb dX12_order_66 (lv_at hl 5 rfl) ?_
    obtain ⟨h11, hf⟩ := ck_e hf
    refine ra_i hC hw 27 (Nat.le_of_ble_eq_true rfl) rfl h11 dX12_order_68 ?_
    obtain ⟨z12, ez12, hf⟩ := bd_e hf
    refine clc_Vi hC hw (c_X12_yearOf ez12) hd_X12_yearOf cw_X12_140 (Nat.le_of_ble_eq_true rfl) rfl rfl (rest := []) hl.1 rfl (Nat.le_of_ble_eq_true rfl) ⟨Nat.le_of_ble_eq_true rfl, Nat.le_of_ble_eq_true rfl⟩ ⟨Nat.zero_le _, Nat.zero_le _⟩ rfl dX12_order_69 (fun H locs hw => ?_)
    refine lv_istore (lv' := [(6, .int z12), (5, .int z10), (0, .ref (ad 0)), (1, .int x1), (2, .int x2), (3, .int x3), (4, .int x4)]) hx hb dX12_order_72 hl (by decide) rfl (fun ls hl => ?_)
    refine lv_iload_n hx hb dX12_order_74 rfl (lv_at hl 5 rfl) ?_
    refine lv_iload hx hb dX12_order_75 (lv_at hl 1 rfl) ?_
    refine lv_iload hx hb dX12_order_77 (lv_at hl 0 rfl) ?_
    refine lv_icmp_lt (tgt := 94) hx hb dX12_order_79 (by decide) (fun c13 => ?_) (fun c13 => ?_)
    · rw [if_pos c13] at hf
      exact k_X12_order_94 hC hq37 hf hw (lv_sub hl [2, 3, 4, 6] rfl)
    · rw [if_neg c13] at hf
      refine lv_iload hx hb dX12_order_82 (lv_at hl 1 rfl) ?_
      refine lv_iload hx hb dX12_order_84 (lv_at hl 0 rfl) ?_
      refine lv_icmp_ne (tgt := 98) hx hb dX12_order_86 (by decide) (fun c14 => ?_) (fun c14 => ?_)
      · rw [if_neg c14] at hf
        exact k_X12_order_98 hC hq37 hf hw (lv_sub hl [2, 3, 4, 6] rfl)
      · rw [if_pos c14] at hf
        refine lv_iload_n hx hb dX12_order_89 rfl (lv_at hl 3 rfl) ?_
        refine lv_iload_n hx hb dX12_order_90 rfl (lv_at hl 4 rfl) ?_
        refine lv_icmp_ge (tgt := 98) hx hb dX12_order_91 (by decide) (fun c15 => ?_) (fun c15 => ?_)
        · rw [if_pos c15] at hf
          exact k_X12_order_98 hC hq37 hf hw (lv_sub hl [2, 3, 4, 6] rfl)
        · rw [if_neg c15] at hf
          exact k_X12_order_94 hC hq37 hf hw (lv_sub hl [2, 3, 4, 6] rfl)
set_option maxRecDepth 100000 in
set_option maxHeartbeats 4000000 in
theorem k_X12_order_37l {p : Program} {l : Launch} {e : Env} {s : State} {m : MethodId} {args : Array Value} {below : List Frame} {meth : Method} {c : Code} {D : va_G} {cy : Nat → ClassId} {z0 : Nat} {ad : Nat → Nat} {X : va_W} {u : Nat × Nat} (hC : cx_C p s m args meth c cX12_order "RhymedThenModel" (Cond.code yX12_order cX12_order 7 (some .int)) 7 (some .int)) {z : (Int32 × mm_M)} : ∀ (n : Nat) (x1 : Int32) (x2 : Int32) (x3 : Int32) (x4 : Int32) (M : mm_M) (H : Heap) (locs : List Loc) (ls : Array Slot), f_X12_order_37l n x1 x2 x3 x4 M = some z → wd_in rf_T D cy z0 ad u M X s H locs → lv_has ls 7 [(0, .ref (ad 0)), (1, .int x1), (2, .int x2), (3, .int x3), (4, .int x4)] → W p l e { frames := 8, cells := 0, slots := 0, locals := 189 } s m args below meth c H locs 0 0 (MQ below (cq_i rf_T D cy z0 ad u X z.1 z.2) args s 0 0 (fun q => z0 ≤ q)) (F0 m 37 ls []) := by
  intro n
  induction n with
  | zero => intro x1 x2 x3 x4 M H locs ls hf; exact absurd hf (by simp [f_X12_order_37l])
  | succ n ih => intro x1 x2 x3 x4 M H locs ls hf hw hl; exact k_X12_order_37 hC ih hf hw hl
set_option maxRecDepth 100000 in
set_option maxHeartbeats 4000000 in
theorem k_X12_order {p : Program} {l : Launch} {e : Env} {s : State} {m : MethodId} {args : Array Value} {below : List Frame} {meth : Method} {c : Code} {D : va_G} {cy : Nat → ClassId} {z0 : Nat} {ad : Nat → Nat} {X : va_W} {u : Nat × Nat} (hC : cx_C p s m args meth c cX12_order "RhymedThenModel" (Cond.code yX12_order cX12_order 7 (some .int)) 7 (some .int)) {z : (Int32 × mm_M)} {x1 : Int32} {x2 : Int32} {M : mm_M} (hf : f_X12_order x1 x2 M = some z) {H : Heap} {locs : List Loc} (hw : wd_in rf_T D cy z0 ad u M X s H locs) {ls : Array Slot} (hl : lv_has ls 7 [(0, .ref (ad 0)), (1, .int x1), (2, .int x2)]) : W p l e { frames := 8, cells := 0, slots := 0, locals := 189 } s m args below meth c H locs 0 0 (MQ below (cq_i rf_T D cy z0 ad u X z.1 z.2) args s 0 0 (fun q => z0 ≤ q)) (F0 m 0 ls []) := by
  have hx := hC.1
  have hb := hC.2.1
  unfold f_X12_order at hf
  refine lv_aload_n hx hb dX12_order_0 rfl (lv_at hl 0 rfl) ?_
  refine lv_iconst (v := 0) hx hb dX12_order_1 (by decide) ?_
  obtain ⟨M1, eM1, hf⟩ := sq_e hf
  refine rp_i hC hw 0 (Nat.le_of_ble_eq_true rfl) rfl fd_X12_0 wf_X12_1 fp_X12_0 rfl rfl dX12_order_2 eM1 (fun H locs hw => ?_)
  refine lv_aload_n hx hb dX12_order_5 rfl (lv_at hl 0 rfl) ?_
  refine lv_iload_n hx hb dX12_order_6 rfl (lv_at hl 1 rfl) ?_
  obtain ⟨z2, ez2, hf⟩ := sq_e hf
  refine clc_Vi hC hw (c_X12_isLaw ez2.symm) hd_X12_isLaw cw_X12_217 (Nat.le_of_ble_eq_true rfl) rfl rfl (rest := []) hl.1 rfl (Nat.le_of_ble_eq_true rfl) ⟨Nat.le_of_ble_eq_true rfl, Nat.le_of_ble_eq_true rfl⟩ ⟨Nat.zero_le _, Nat.zero_le _⟩ rfl dX12_order_7 (fun H locs hw => ?_)
  refine lv_if_eq (tgt := 26) hx hb dX12_order_10 (by decide) (fun c3 => ?_) (fun c3 => ?_)
  · rw [if_pos c3] at hf
    refine lv_iconst (v := (-1)) hx hb dX12_order_26 (by decide) ?_
    have hz := Option.some.inj hf
    subst hz
    exact rtc_i hC hw dX12_order_27
  · rw [if_neg c3] at hf
    refine lv_aload_n hx hb dX12_order_13 rfl (lv_at hl 0 rfl) ?_
    refine lv_iload_n hx hb dX12_order_14 rfl (lv_at hl 2 rfl) ?_
    obtain ⟨z4, ez4, hf⟩ := sq_e hf
    refine clc_Vi hC hw (c_X12_isLaw ez4.symm) hd_X12_isLaw cw_X12_217 (Nat.le_of_ble_eq_true rfl) rfl rfl (rest := []) hl.1 rfl (Nat.le_of_ble_eq_true rfl) ⟨Nat.le_of_ble_eq_true rfl, Nat.le_of_ble_eq_true rfl⟩ ⟨Nat.zero_le _, Nat.zero_le _⟩ rfl dX12_order_15 (fun H locs hw => ?_)
    refine lv_if_eq (tgt := 26) hx hb dX12_order_18 (by decide) (fun c5 => ?_) (fun c5 => ?_)
    · rw [if_pos c5] at hf
      refine lv_iconst (v := (-1)) hx hb dX12_order_26 (by decide) ?_
      have hz := Option.some.inj hf
      subst hz
      exact rtc_i hC hw dX12_order_27
    · rw [if_neg c5] at hf
      refine lv_iload_n hx hb dX12_order_21 rfl (lv_at hl 1 rfl) ?_
      refine lv_iload_n hx hb dX12_order_22 rfl (lv_at hl 2 rfl) ?_
      refine lv_icmp_ne (tgt := 28) hx hb dX12_order_23 (by decide) (fun c6 => ?_) (fun c6 => ?_)
      · rw [if_neg c6] at hf
        refine lv_aload_n hx hb dX12_order_28 rfl (lv_at hl 0 rfl) ?_
        obtain ⟨z7, ez7, hf⟩ := bd_e hf
        refine clc_Vv hC hw (c_X12_gathers ez7) hd_X12_gathers cw_X12_282 (Nat.le_of_ble_eq_true rfl) rfl rfl (rest := []) hl.1 rfl (Nat.le_of_ble_eq_true rfl) ⟨Nat.le_of_ble_eq_true rfl, Nat.le_of_ble_eq_true rfl⟩ ⟨Nat.zero_le _, Nat.zero_le _⟩ rfl dX12_order_29 (fun H locs hw => ?_)
        refine lv_iconst (v := 0) hx hb dX12_order_32 (by decide) ?_
        refine lv_istore_n (lv' := [(3, .int 0), (0, .ref (ad 0)), (1, .int x1), (2, .int x2)]) hx hb dX12_order_33 rfl hl (by decide) rfl (fun ls hl => ?_)
        refine lv_iconst (v := 0) hx hb dX12_order_34 (by decide) ?_
        refine lv_istore (lv' := [(4, .int 0), (3, .int 0), (0, .ref (ad 0)), (1, .int x1), (2, .int x2)]) hx hb dX12_order_35 hl (by decide) rfl (fun ls hl => ?_)
        exact k_X12_order_37l hC fu_ _ _ _ _ _ _ _ _ hf hw (lv_sub hl [2, 3, 4, 1, 0] rfl)
      · rw [if_pos c6] at hf
        refine lv_iconst (v := (-1)) hx hb dX12_order_26 (by decide) ?_
        have hz := Option.some.inj hf
        subst hz
        exact rtc_i hC hw dX12_order_27
set_option maxRecDepth 100000 in
theorem c_X12_order {l : Launch} {D : va_G} {cy : Nat → ClassId} {z0 : Nat} {ad : Nat → Nat} {u : Nat × Nat} {X : va_W} {z : (Int32 × mm_M)} {x1 : Int32} {x2 : Int32} {M : mm_M} (hf : f_X12_order x1 x2 M = some z) : ct_i rf_T l yX12_order (Cond.code yX12_order cX12_order 7 (some .int)) 8 189 D cy z0 ad u M X [.ref (ad 0), .int x1, .int x2] z.1 z.2 := by
  refine bgc_i (by decide) (fun p e s m below meth c hC hw => ?_)
  refine en_t (Nat.le_of_ble_eq_true rfl) (fun ls hl => ?_)
  have hl : lv_has ls 7 [(0, .ref (ad 0)), (1, .int x1), (2, .int x2)] := hl
  exact k_X12_order hC hf hw hl
set_option maxRecDepth 100000 in
set_option maxHeartbeats 4000000 in
theorem k_X12_wrong_53 {p : Program} {l : Launch} {e : Env} {s : State} {m : MethodId} {args : Array Value} {below : List Frame} {meth : Method} {c : Code} {D : va_G} {cy : Nat → ClassId} {z0 : Nat} {ad : Nat → Nat} {X : va_W} {u : Nat × Nat} (hC : cx_C p s m args meth c cX12_wrong "RhymedThenModel" (Cond.code yX12_wrong cX12_wrong 6 (some .int)) 6 (some .int)) {z : (Int32 × mm_M)} {x1 : Int32} {x2 : Int32} {x3 : Int32} {x4 : Int32} {M : mm_M} {q17 : Int32 → Int32 → Int32 → Int32 → mm_M → Option (Int32 × mm_M)} (hq17 : ∀ (x1 : Int32) (x2 : Int32) (x3 : Int32) (x4 : Int32) (M : mm_M) (H : Heap) (locs : List Loc) (ls : Array Slot), q17 x1 x2 x3 x4 M = some z → wd_in rf_T D cy z0 ad u M X s H locs → lv_has ls 6 [(0, .ref (ad 0)), (1, .int x1), (2, .int x2), (3, .int x3), (4, .int x4)] → W p l e { frames := 7, cells := 0, slots := 0, locals := 168 } s m args below meth c H locs 0 0 (MQ below (cq_i rf_T D cy z0 ad u X z.1 z.2) args s 0 0 (fun q => z0 ≤ q)) (F0 m 17 ls [])) (hf : f_X12_wrong_53 q17 x1 x2 x3 x4 M = some z) {H : Heap} {locs : List Loc} (hw : wd_in rf_T D cy z0 ad u M X s H locs) {ls : Array Slot} (hl : lv_has ls 6 [(0, .ref (ad 0)), (1, .int x1), (2, .int x2), (3, .int x3), (4, .int x4)]) : W p l e { frames := 7, cells := 0, slots := 0, locals := 168 } s m args below meth c H locs 0 0 (MQ below (cq_i rf_T D cy z0 ad u X z.1 z.2) args s 0 0 (fun q => z0 ≤ q)) (F0 m 53 ls []) := by
  have hx := hC.1
  have hb := hC.2.1
  unfold f_X12_wrong_53 at hf
  obtain ⟨y13, ey13, hf⟩ := sq_e hf
  refine lv_iinc (v := y13) (lv' := [(4, .int y13), (0, .ref (ad 0)), (1, .int x1), (2, .int x2), (3, .int x3)]) hx hb dX12_wrong_53 hl (k := 4) rfl (by rw [ey13]; rfl) (by decide) rfl (fun ls hl => ?_)
  refine lv_goto (tgt := 17) hx hb dX12_wrong_56 (by decide) ?_
  exact hq17 _ _ _ _ _ _ _ _ hf hw (lv_sub hl [1, 2, 3, 4, 0] rfl)
set_option maxRecDepth 100000 in
set_option maxHeartbeats 4000000 in
theorem k_X12_wrong_47 {p : Program} {l : Launch} {e : Env} {s : State} {m : MethodId} {args : Array Value} {below : List Frame} {meth : Method} {c : Code} {D : va_G} {cy : Nat → ClassId} {z0 : Nat} {ad : Nat → Nat} {X : va_W} {u : Nat × Nat} (hC : cx_C p s m args meth c cX12_wrong "RhymedThenModel" (Cond.code yX12_wrong cX12_wrong 6 (some .int)) 6 (some .int)) {z : (Int32 × mm_M)} {x3 : Int32} {x4 : Int32} {x5 : Int32} {M : mm_M} {q17 : Int32 → Int32 → Int32 → Int32 → mm_M → Option (Int32 × mm_M)} (hq17 : ∀ (x1 : Int32) (x2 : Int32) (x3 : Int32) (x4 : Int32) (M : mm_M) (H : Heap) (locs : List Loc) (ls : Array Slot), q17 x1 x2 x3 x4 M = some z → wd_in rf_T D cy z0 ad u M X s H locs → lv_has ls 6 [(0, .ref (ad 0)), (1, .int x1), (2, .int x2), (3, .int x3), (4, .int x4)] → W p l e { frames := 7, cells := 0, slots := 0, locals := 168 } s m args below meth c H locs 0 0 (MQ below (cq_i rf_T D cy z0 ad u X z.1 z.2) args s 0 0 (fun q => z0 ≤ q)) (F0 m 17 ls [])) (hf : f_X12_wrong_47 q17 x3 x4 x5 M = some z) {H : Heap} {locs : List Loc} (hw : wd_in rf_T D cy z0 ad u M X s H locs) {ls : Array Slot} (hl : lv_has ls 6 [(0, .ref (ad 0)), (3, .int x3), (4, .int x4), (5, .int x5)]) : W p l e { frames := 7, cells := 0, slots := 0, locals := 168 } s m args below meth c H locs 0 0 (MQ below (cq_i rf_T D cy z0 ad u X z.1 z.2) args s 0 0 (fun q => z0 ≤ q)) (F0 m 47 ls []) := by
  have hx := hC.1
  have hb := hC.2.1
  unfold f_X12_wrong_47 at hf
  refine lv_iload hx hb dX12_wrong_47 (lv_at hl 2 rfl) ?_
  refine lv_istore_n (lv' := [(1, .int x4), (0, .ref (ad 0)), (3, .int x3), (4, .int x4), (5, .int x5)]) hx hb dX12_wrong_49 rfl hl (by decide) rfl (fun ls hl => ?_)
  refine lv_iload hx hb dX12_wrong_50 (lv_at hl 4 rfl) ?_
  refine lv_istore_n (lv' := [(2, .int x5), (1, .int x4), (0, .ref (ad 0)), (3, .int x3), (4, .int x4), (5, .int x5)]) hx hb dX12_wrong_52 rfl hl (by decide) rfl (fun ls hl => ?_)
  exact k_X12_wrong_53 hC hq17 hf hw (lv_sub hl [2, 1, 0, 3, 4] rfl)
set_option maxRecDepth 100000 in
set_option maxHeartbeats 4000000 in
theorem k_X12_wrong_59 {p : Program} {l : Launch} {e : Env} {s : State} {m : MethodId} {args : Array Value} {below : List Frame} {meth : Method} {c : Code} {D : va_G} {cy : Nat → ClassId} {z0 : Nat} {ad : Nat → Nat} {X : va_W} {u : Nat × Nat} (hC : cx_C p s m args meth c cX12_wrong "RhymedThenModel" (Cond.code yX12_wrong cX12_wrong 6 (some .int)) 6 (some .int)) {z : (Int32 × mm_M)} {x1 : Int32} {x2 : Int32} {M : mm_M} (hf : f_X12_wrong_59 x1 x2 M = some z) {H : Heap} {locs : List Loc} (hw : wd_in rf_T D cy z0 ad u M X s H locs) {ls : Array Slot} (hl : lv_has ls 6 [(0, .ref (ad 0)), (1, .int x1), (2, .int x2)]) : W p l e { frames := 7, cells := 0, slots := 0, locals := 168 } s m args below meth c H locs 0 0 (MQ below (cq_i rf_T D cy z0 ad u X z.1 z.2) args s 0 0 (fun q => z0 ≤ q)) (F0 m 59 ls []) := by
  have hx := hC.1
  have hb := hC.2.1
  unfold f_X12_wrong_59 at hf
  refine lv_aload_n hx hb dX12_wrong_59 rfl (lv_at hl 0 rfl) ?_
  refine lv_iconst (v := 0) hx hb dX12_wrong_60 (by decide) ?_
  obtain ⟨M9, eM9, hf⟩ := sq_e hf
  refine rp_i hC hw 0 (Nat.le_of_ble_eq_true rfl) rfl fd_X12_1 wf_X12_11 fp_X12_1 rfl rfl dX12_wrong_61 eM9 (fun H locs hw => ?_)
  refine lv_aload_n hx hb dX12_wrong_64 rfl (lv_at hl 0 rfl) ?_
  refine lv_iload_n hx hb dX12_wrong_65 rfl (lv_at hl 1 rfl) ?_
  refine lv_i2l hx hb dX12_wrong_66 rfl ?_
  obtain ⟨z10, ez10, hf⟩ := bd_e hf
  refine clc_Vv hC hw (c_X12_enters ez10) hd_X12_enters cw_X12_18 (Nat.le_of_ble_eq_true rfl) rfl rfl (rest := []) hl.1 rfl (Nat.le_of_ble_eq_true rfl) ⟨Nat.le_of_ble_eq_true rfl, Nat.le_of_ble_eq_true rfl⟩ ⟨Nat.zero_le _, Nat.zero_le _⟩ rfl dX12_wrong_67 (fun H locs hw => ?_)
  refine lv_aload_n hx hb dX12_wrong_70 rfl (lv_at hl 0 rfl) ?_
  refine lv_iload_n hx hb dX12_wrong_71 rfl (lv_at hl 2 rfl) ?_
  refine lv_i2l hx hb dX12_wrong_72 rfl ?_
  obtain ⟨z11, ez11, hf⟩ := bd_e hf
  refine clc_Vv hC hw (c_X12_enters ez11) hd_X12_enters cw_X12_18 (Nat.le_of_ble_eq_true rfl) rfl rfl (rest := []) hl.1 rfl (Nat.le_of_ble_eq_true rfl) ⟨Nat.le_of_ble_eq_true rfl, Nat.le_of_ble_eq_true rfl⟩ ⟨Nat.zero_le _, Nat.zero_le _⟩ rfl dX12_wrong_73 (fun H locs hw => ?_)
  refine lv_iload_n hx hb dX12_wrong_76 rfl (lv_at hl 2 rfl) ?_
  obtain ⟨z12, ez12, hf⟩ := sq_e hf
  refine clc_Si hC hw (c_J6_bitCount_0f7a4 ez12.symm) hd_J6_bitCount_0f7a4 cw_X12_289 (rest := []) hl.1 rfl (Nat.le_of_ble_eq_true rfl) ⟨Nat.le_of_ble_eq_true rfl, Nat.le_of_ble_eq_true rfl⟩ ⟨Nat.zero_le _, Nat.zero_le _⟩ rfl dX12_wrong_77 (fun H locs hw => ?_)
  have hz := Option.some.inj hf
  subst hz
  exact rtc_i hC hw dX12_wrong_80
set_option maxRecDepth 100000 in
set_option maxHeartbeats 4000000 in
theorem k_X12_wrong_17 {p : Program} {l : Launch} {e : Env} {s : State} {m : MethodId} {args : Array Value} {below : List Frame} {meth : Method} {c : Code} {D : va_G} {cy : Nat → ClassId} {z0 : Nat} {ad : Nat → Nat} {X : va_W} {u : Nat × Nat} (hC : cx_C p s m args meth c cX12_wrong "RhymedThenModel" (Cond.code yX12_wrong cX12_wrong 6 (some .int)) 6 (some .int)) {z : (Int32 × mm_M)} {x1 : Int32} {x2 : Int32} {x3 : Int32} {x4 : Int32} {M : mm_M} {q17 : Int32 → Int32 → Int32 → Int32 → mm_M → Option (Int32 × mm_M)} (hq17 : ∀ (x1 : Int32) (x2 : Int32) (x3 : Int32) (x4 : Int32) (M : mm_M) (H : Heap) (locs : List Loc) (ls : Array Slot), q17 x1 x2 x3 x4 M = some z → wd_in rf_T D cy z0 ad u M X s H locs → lv_has ls 6 [(0, .ref (ad 0)), (1, .int x1), (2, .int x2), (3, .int x3), (4, .int x4)] → W p l e { frames := 7, cells := 0, slots := 0, locals := 168 } s m args below meth c H locs 0 0 (MQ below (cq_i rf_T D cy z0 ad u X z.1 z.2) args s 0 0 (fun q => z0 ≤ q)) (F0 m 17 ls [])) (hf : f_X12_wrong_17 q17 x1 x2 x3 x4 M = some z) {H : Heap} {locs : List Loc} (hw : wd_in rf_T D cy z0 ad u M X s H locs) {ls : Array Slot} (hl : lv_has ls 6 [(0, .ref (ad 0)), (1, .int x1), (2, .int x2), (3, .int x3), (4, .int x4)]) : W p l e { frames := 7, cells := 0, slots := 0, locals := 168 } s m args below meth c H locs 0 0 (MQ below (cq_i rf_T D cy z0 ad u X z.1 z.2) args s 0 0 (fun q => z0 ≤ q)) (F0 m 17 ls []) := by
  have hx := hC.1
  have hb := hC.2.1
  unfold f_X12_wrong_17 at hf
  refine lv_iload hx hb dX12_wrong_17 (lv_at hl 4 rfl) ?_
  refine lv_iload_n hx hb dX12_wrong_19 rfl (lv_at hl 3 rfl) ?_
  refine lv_icmp_ge (tgt := 59) hx hb dX12_wrong_20 (by decide) (fun c3 => ?_) (fun c3 => ?_)
  · rw [if_pos c3] at hf
    exact k_X12_wrong_59 hC hf hw (lv_sub hl [0, 1, 2] rfl)
  · rw [if_neg c3] at hf
    refine lv_aload_n hx hb dX12_wrong_23 rfl (lv_at hl 0 rfl) ?_
    refine lv_iload hx hb dX12_wrong_24 (lv_at hl 4 rfl) ?_
    obtain ⟨z4, ez4, hf⟩ := bd_e hf
    refine clc_Vi hC hw (c_X12_wrongs ez4) hd_X12_wrongs cw_X12_286 (Nat.le_of_ble_eq_true rfl) rfl rfl (rest := []) hl.1 rfl (Nat.le_of_ble_eq_true rfl) ⟨Nat.le_of_ble_eq_true rfl, Nat.le_of_ble_eq_true rfl⟩ ⟨Nat.zero_le _, Nat.zero_le _⟩ rfl dX12_wrong_26 (fun H locs hw => ?_)
    refine lv_istore (lv' := [(5, .int z4.1), (0, .ref (ad 0)), (1, .int x1), (2, .int x2), (3, .int x3), (4, .int x4)]) hx hb dX12_wrong_29 hl (by decide) rfl (fun ls hl => ?_)
    refine lv_iload_n hx hb dX12_wrong_31 rfl (lv_at hl 2 rfl) ?_
    refine lv_if_lt (tgt := 47) hx hb dX12_wrong_32 (by decide) (fun c5 => ?_) (fun c5 => ?_)
    · rw [if_pos c5] at hf
      exact k_X12_wrong_47 hC hq17 hf hw (lv_sub hl [1, 4, 5, 0] rfl)
    · rw [if_neg c5] at hf
      refine lv_iload hx hb dX12_wrong_35 (lv_at hl 0 rfl) ?_
      obtain ⟨z6, ez6, hf⟩ := sq_e hf
      refine clc_Si hC hw (c_J6_bitCount_0f7a4 ez6.symm) hd_J6_bitCount_0f7a4 cw_X12_289 (rest := []) hl.1 rfl (Nat.le_of_ble_eq_true rfl) ⟨Nat.le_of_ble_eq_true rfl, Nat.le_of_ble_eq_true rfl⟩ ⟨Nat.zero_le _, Nat.zero_le _⟩ rfl dX12_wrong_37 (fun H locs hw => ?_)
      refine lv_iload_n hx hb dX12_wrong_40 rfl (lv_at hl 3 rfl) ?_
      obtain ⟨z7, ez7, hf⟩ := sq_e hf
      refine clc_Si hC hw (c_J6_bitCount_0f7a4 ez7.symm) hd_J6_bitCount_0f7a4 cw_X12_289 (rest := [.int z6]) hl.1 rfl (Nat.le_of_ble_eq_true rfl) ⟨Nat.le_of_ble_eq_true rfl, Nat.le_of_ble_eq_true rfl⟩ ⟨Nat.zero_le _, Nat.zero_le _⟩ rfl dX12_wrong_41 (fun H locs hw => ?_)
      refine lv_icmp_ge (tgt := 53) hx hb dX12_wrong_44 (by decide) (fun c8 => ?_) (fun c8 => ?_)
      · rw [if_pos c8] at hf
        exact k_X12_wrong_53 hC hq17 hf hw (lv_sub hl [1, 2, 3, 4, 5] rfl)
      · rw [if_neg c8] at hf
        exact k_X12_wrong_47 hC hq17 hf hw (lv_sub hl [1, 4, 5, 0] rfl)
set_option maxRecDepth 100000 in
set_option maxHeartbeats 4000000 in
theorem k_X12_wrong_17l {p : Program} {l : Launch} {e : Env} {s : State} {m : MethodId} {args : Array Value} {below : List Frame} {meth : Method} {c : Code} {D : va_G} {cy : Nat → ClassId} {z0 : Nat} {ad : Nat → Nat} {X : va_W} {u : Nat × Nat} (hC : cx_C p s m args meth c cX12_wrong "RhymedThenModel" (Cond.code yX12_wrong cX12_wrong 6 (some .int)) 6 (some .int)) {z : (Int32 × mm_M)} : ∀ (n : Nat) (x1 : Int32) (x2 : Int32) (x3 : Int32) (x4 : Int32) (M : mm_M) (H : Heap) (locs : List Loc) (ls : Array Slot), f_X12_wrong_17l n x1 x2 x3 x4 M = some z → wd_in rf_T D cy z0 ad u M X s H locs → lv_has ls 6 [(0, .ref (ad 0)), (1, .int x1), (2, .int x2), (3, .int x3), (4, .int x4)] → W p l e { frames := 7, cells := 0, slots := 0, locals := 168 } s m args below meth c H locs 0 0 (MQ below (cq_i rf_T D cy z0 ad u X z.1 z.2) args s 0 0 (fun q => z0 ≤ q)) (F0 m 17 ls []) := by
  intro n
  induction n with
  | zero => intro x1 x2 x3 x4 M H locs ls hf; exact absurd hf (by simp [f_X12_wrong_17l])
  | succ n ih => intro x1 x2 x3 x4 M H locs ls hf hw hl; exact k_X12_wrong_17 hC ih hf hw hl
set_option maxRecDepth 100000 in
set_option maxHeartbeats 4000000 in
theorem k_X12_wrong {p : Program} {l : Launch} {e : Env} {s : State} {m : MethodId} {args : Array Value} {below : List Frame} {meth : Method} {c : Code} {D : va_G} {cy : Nat → ClassId} {z0 : Nat} {ad : Nat → Nat} {X : va_W} {u : Nat × Nat} (hC : cx_C p s m args meth c cX12_wrong "RhymedThenModel" (Cond.code yX12_wrong cX12_wrong 6 (some .int)) 6 (some .int)) {z : (Int32 × mm_M)} {M : mm_M} (hf : f_X12_wrong M = some z) {H : Heap} {locs : List Loc} (hw : wd_in rf_T D cy z0 ad u M X s H locs) {ls : Array Slot} (hl : lv_has ls 6 [(0, .ref (ad 0))]) : W p l e { frames := 7, cells := 0, slots := 0, locals := 168 } s m args below meth c H locs 0 0 (MQ below (cq_i rf_T D cy z0 ad u X z.1 z.2) args s 0 0 (fun q => z0 ≤ q)) (F0 m 0 ls []) := by
  have hx := hC.1
  have hb := hC.2.1
  unfold f_X12_wrong at hf
  refine lv_aload_n hx hb dX12_wrong_0 rfl (lv_at hl 0 rfl) ?_
  refine lv_iconst (v := 0) hx hb dX12_wrong_1 (by decide) ?_
  obtain ⟨M1, eM1, hf⟩ := sq_e hf
  refine rp_i hC hw 0 (Nat.le_of_ble_eq_true rfl) rfl fd_X12_0 wf_X12_1 fp_X12_0 rfl rfl dX12_wrong_2 eM1 (fun H locs hw => ?_)
  refine lv_iconst (v := (-1)) hx hb dX12_wrong_5 (by decide) ?_
  refine lv_istore_n (lv' := [(1, .int (-1)), (0, .ref (ad 0))]) hx hb dX12_wrong_6 rfl hl (by decide) rfl (fun ls hl => ?_)
  refine lv_iconst (v := 0) hx hb dX12_wrong_7 (by decide) ?_
  refine lv_istore_n (lv' := [(2, .int 0), (1, .int (-1)), (0, .ref (ad 0))]) hx hb dX12_wrong_8 rfl hl (by decide) rfl (fun ls hl => ?_)
  refine lv_aload_n hx hb dX12_wrong_9 rfl (lv_at hl 2 rfl) ?_
  obtain ⟨z2, ez2, hf⟩ := bd_e hf
  refine clc_Vi hC hw (c_X12_histories ez2) hd_X12_histories cw_X12_107 (Nat.le_of_ble_eq_true rfl) rfl rfl (rest := []) hl.1 rfl (Nat.le_of_ble_eq_true rfl) ⟨Nat.le_of_ble_eq_true rfl, Nat.le_of_ble_eq_true rfl⟩ ⟨Nat.zero_le _, Nat.zero_le _⟩ rfl dX12_wrong_10 (fun H locs hw => ?_)
  refine lv_istore_n (lv' := [(3, .int z2), (2, .int 0), (1, .int (-1)), (0, .ref (ad 0))]) hx hb dX12_wrong_13 rfl hl (by decide) rfl (fun ls hl => ?_)
  refine lv_iconst (v := 0) hx hb dX12_wrong_14 (by decide) ?_
  refine lv_istore (lv' := [(4, .int 0), (3, .int z2), (2, .int 0), (1, .int (-1)), (0, .ref (ad 0))]) hx hb dX12_wrong_15 hl (by decide) rfl (fun ls hl => ?_)
  exact k_X12_wrong_17l hC fu_ _ _ _ _ _ _ _ _ hf hw (lv_sub hl [4, 3, 2, 1, 0] rfl)
set_option maxRecDepth 100000 in
theorem c_X12_wrong {l : Launch} {D : va_G} {cy : Nat → ClassId} {z0 : Nat} {ad : Nat → Nat} {u : Nat × Nat} {X : va_W} {z : (Int32 × mm_M)} {M : mm_M} (hf : f_X12_wrong M = some z) : ct_i rf_T l yX12_wrong (Cond.code yX12_wrong cX12_wrong 6 (some .int)) 7 168 D cy z0 ad u M X [.ref (ad 0)] z.1 z.2 := by
  refine bgc_i (by decide) (fun p e s m below meth c hC hw => ?_)
  refine en_t (Nat.le_of_ble_eq_true rfl) (fun ls hl => ?_)
  have hl : lv_has ls 6 [(0, .ref (ad 0))] := hl
  exact k_X12_wrong hC hf hw hl
set_option maxRecDepth 100000 in
set_option maxHeartbeats 4000000 in
theorem k_X12_blunder_49 {p : Program} {l : Launch} {e : Env} {s : State} {m : MethodId} {args : Array Value} {below : List Frame} {meth : Method} {c : Code} {D : va_G} {cy : Nat → ClassId} {z0 : Nat} {ad : Nat → Nat} {X : va_W} {u : Nat × Nat} (hC : cx_C p s m args meth c cX12_blunder "RhymedThenModel" (Cond.code yX12_blunder cX12_blunder 5 (some .int)) 5 (some .int)) {z : (Int32 × mm_M)} {x2 : Int32} {x3 : Int32} {t0 : Int32} {t1 : Int32} {M : mm_M} {q14 : Int32 → Int32 → Int32 → mm_M → Option (Int32 × mm_M)} (hq14 : ∀ (x1 : Int32) (x2 : Int32) (x3 : Int32) (M : mm_M) (H : Heap) (locs : List Loc) (ls : Array Slot), q14 x1 x2 x3 M = some z → wd_in rf_T D cy z0 ad u M X s H locs → lv_has ls 5 [(0, .ref (ad 0)), (1, .int x1), (2, .int x2), (3, .int x3)] → W p l e { frames := 7, cells := 0, slots := 0, locals := 168 } s m args below meth c H locs 0 0 (MQ below (cq_i rf_T D cy z0 ad u X z.1 z.2) args s 0 0 (fun q => z0 ≤ q)) (F0 m 14 ls [])) (hf : f_X12_blunder_49 q14 x2 x3 t0 t1 M = some z) {H : Heap} {locs : List Loc} (hw : wd_in rf_T D cy z0 ad u M X s H locs) {ls : Array Slot} (hl : lv_has ls 5 [(0, .ref (ad 0)), (2, .int x2), (3, .int x3)]) : W p l e { frames := 7, cells := 0, slots := 0, locals := 168 } s m args below meth c H locs 0 0 (MQ below (cq_i rf_T D cy z0 ad u X z.1 z.2) args s 0 0 (fun q => z0 ≤ q)) (F0 m 49 ls [.int t1, .int t0]) := by
  have hx := hC.1
  have hb := hC.2.1
  unfold f_X12_blunder_49 at hf
  refine lv_ior hx hb dX12_blunder_49 ?_
  obtain ⟨y8, ey8, hf⟩ := sq_e hf
  refine lt_i ey8 ?_
  refine lv_istore_n (lv' := [(1, .int y8), (0, .ref (ad 0)), (2, .int x2), (3, .int x3)]) hx hb dX12_blunder_50 rfl hl (by decide) rfl (fun ls hl => ?_)
  obtain ⟨y9, ey9, hf⟩ := sq_e hf
  refine lv_iinc (v := y9) (lv' := [(3, .int y9), (1, .int y8), (0, .ref (ad 0)), (2, .int x2)]) hx hb dX12_blunder_51 hl (k := 3) rfl (by rw [ey9]; rfl) (by decide) rfl (fun ls hl => ?_)
  refine lv_goto (tgt := 14) hx hb dX12_blunder_54 (by decide) ?_
  exact hq14 _ _ _ _ _ _ _ hf hw (lv_sub hl [2, 1, 3, 0] rfl)
set_option maxRecDepth 100000 in
set_option maxHeartbeats 4000000 in
theorem k_X12_blunder_14 {p : Program} {l : Launch} {e : Env} {s : State} {m : MethodId} {args : Array Value} {below : List Frame} {meth : Method} {c : Code} {D : va_G} {cy : Nat → ClassId} {z0 : Nat} {ad : Nat → Nat} {X : va_W} {u : Nat × Nat} (hC : cx_C p s m args meth c cX12_blunder "RhymedThenModel" (Cond.code yX12_blunder cX12_blunder 5 (some .int)) 5 (some .int)) {z : (Int32 × mm_M)} {x1 : Int32} {x2 : Int32} {x3 : Int32} {M : mm_M} {q14 : Int32 → Int32 → Int32 → mm_M → Option (Int32 × mm_M)} (hq14 : ∀ (x1 : Int32) (x2 : Int32) (x3 : Int32) (M : mm_M) (H : Heap) (locs : List Loc) (ls : Array Slot), q14 x1 x2 x3 M = some z → wd_in rf_T D cy z0 ad u M X s H locs → lv_has ls 5 [(0, .ref (ad 0)), (1, .int x1), (2, .int x2), (3, .int x3)] → W p l e { frames := 7, cells := 0, slots := 0, locals := 168 } s m args below meth c H locs 0 0 (MQ below (cq_i rf_T D cy z0 ad u X z.1 z.2) args s 0 0 (fun q => z0 ≤ q)) (F0 m 14 ls [])) (hf : f_X12_blunder_14 q14 x1 x2 x3 M = some z) {H : Heap} {locs : List Loc} (hw : wd_in rf_T D cy z0 ad u M X s H locs) {ls : Array Slot} (hl : lv_has ls 5 [(0, .ref (ad 0)), (1, .int x1), (2, .int x2), (3, .int x3)]) : W p l e { frames := 7, cells := 0, slots := 0, locals := 168 } s m args below meth c H locs 0 0 (MQ below (cq_i rf_T D cy z0 ad u X z.1 z.2) args s 0 0 (fun q => z0 ≤ q)) (F0 m 14 ls []) := by
  have hx := hC.1
  have hb := hC.2.1
  unfold f_X12_blunder_14 at hf
  refine lv_iload_n hx hb dX12_blunder_14 rfl (lv_at hl 3 rfl) ?_
  refine lv_iload_n hx hb dX12_blunder_15 rfl (lv_at hl 2 rfl) ?_
  refine lv_icmp_ge (tgt := 57) hx hb dX12_blunder_16 (by decide) (fun c3 => ?_) (fun c3 => ?_)
  · rw [if_pos c3] at hf
    refine lv_iload_n hx hb dX12_blunder_57 rfl (lv_at hl 1 rfl) ?_
    have hz := Option.some.inj hf
    subst hz
    exact rtc_i hC hw dX12_blunder_58
  · rw [if_neg c3] at hf
    refine lv_aload_n hx hb dX12_blunder_19 rfl (lv_at hl 0 rfl) ?_
    refine lv_iload_n hx hb dX12_blunder_20 rfl (lv_at hl 3 rfl) ?_
    obtain ⟨z4, ez4, hf⟩ := bd_e hf
    refine clc_Vi hC hw (c_X12_wrongs ez4) hd_X12_wrongs cw_X12_286 (Nat.le_of_ble_eq_true rfl) rfl rfl (rest := []) hl.1 rfl (Nat.le_of_ble_eq_true rfl) ⟨Nat.le_of_ble_eq_true rfl, Nat.le_of_ble_eq_true rfl⟩ ⟨Nat.zero_le _, Nat.zero_le _⟩ rfl dX12_blunder_21 (fun H locs hw => ?_)
    refine lv_istore (lv' := [(4, .int z4.1), (0, .ref (ad 0)), (1, .int x1), (2, .int x2), (3, .int x3)]) hx hb dX12_blunder_24 hl (by decide) rfl (fun ls hl => ?_)
    refine lv_iload hx hb dX12_blunder_26 (lv_at hl 0 rfl) ?_
    refine lv_if_ne (tgt := 33) hx hb dX12_blunder_28 (by decide) (fun c5 => ?_) (fun c5 => ?_)
    · rw [if_neg c5] at hf
      refine lv_iload_n hx hb dX12_blunder_33 rfl (lv_at hl 2 rfl) ?_
      refine lv_iload hx hb dX12_blunder_34 (lv_at hl 0 rfl) ?_
      obtain ⟨z6, ez6, hf⟩ := sq_e hf
      refine clc_Si hC hw (c_J6_bitCount_0f7a4 ez6.symm) hd_J6_bitCount_0f7a4 cw_X12_289 (rest := [.int x1]) hl.1 rfl (Nat.le_of_ble_eq_true rfl) ⟨Nat.le_of_ble_eq_true rfl, Nat.le_of_ble_eq_true rfl⟩ ⟨Nat.zero_le _, Nat.zero_le _⟩ rfl dX12_blunder_36 (fun H locs hw => ?_)
      refine lv_iconst (v := 1) hx hb dX12_blunder_39 (by decide) ?_
      refine lv_icmp_ne (tgt := 48) hx hb dX12_blunder_40 (by decide) (fun c7 => ?_) (fun c7 => ?_)
      · rw [if_neg c7] at hf
        refine lv_iconst (v := 0) hx hb dX12_blunder_48 (by decide) ?_
        exact k_X12_blunder_49 hC hq14 hf hw (lv_sub hl [1, 3, 4] rfl)
      · rw [if_pos c7] at hf
        refine lv_iload hx hb dX12_blunder_43 (lv_at hl 0 rfl) ?_
        refine lv_goto (tgt := 49) hx hb dX12_blunder_45 (by decide) ?_
        exact k_X12_blunder_49 hC hq14 hf hw (lv_sub hl [1, 3, 4] rfl)
    · rw [if_pos c5] at hf
      refine lv_iconst (v := 0) hx hb dX12_blunder_31 (by decide) ?_
      have hz := Option.some.inj hf
      subst hz
      exact rtc_i hC hw dX12_blunder_32
set_option maxRecDepth 100000 in
set_option maxHeartbeats 4000000 in
theorem k_X12_blunder_14l {p : Program} {l : Launch} {e : Env} {s : State} {m : MethodId} {args : Array Value} {below : List Frame} {meth : Method} {c : Code} {D : va_G} {cy : Nat → ClassId} {z0 : Nat} {ad : Nat → Nat} {X : va_W} {u : Nat × Nat} (hC : cx_C p s m args meth c cX12_blunder "RhymedThenModel" (Cond.code yX12_blunder cX12_blunder 5 (some .int)) 5 (some .int)) {z : (Int32 × mm_M)} : ∀ (n : Nat) (x1 : Int32) (x2 : Int32) (x3 : Int32) (M : mm_M) (H : Heap) (locs : List Loc) (ls : Array Slot), f_X12_blunder_14l n x1 x2 x3 M = some z → wd_in rf_T D cy z0 ad u M X s H locs → lv_has ls 5 [(0, .ref (ad 0)), (1, .int x1), (2, .int x2), (3, .int x3)] → W p l e { frames := 7, cells := 0, slots := 0, locals := 168 } s m args below meth c H locs 0 0 (MQ below (cq_i rf_T D cy z0 ad u X z.1 z.2) args s 0 0 (fun q => z0 ≤ q)) (F0 m 14 ls []) := by
  intro n
  induction n with
  | zero => intro x1 x2 x3 M H locs ls hf; exact absurd hf (by simp [f_X12_blunder_14l])
  | succ n ih => intro x1 x2 x3 M H locs ls hf hw hl; exact k_X12_blunder_14 hC ih hf hw hl
set_option maxRecDepth 100000 in
set_option maxHeartbeats 4000000 in
theorem k_X12_blunder {p : Program} {l : Launch} {e : Env} {s : State} {m : MethodId} {args : Array Value} {below : List Frame} {meth : Method} {c : Code} {D : va_G} {cy : Nat → ClassId} {z0 : Nat} {ad : Nat → Nat} {X : va_W} {u : Nat × Nat} (hC : cx_C p s m args meth c cX12_blunder "RhymedThenModel" (Cond.code yX12_blunder cX12_blunder 5 (some .int)) 5 (some .int)) {z : (Int32 × mm_M)} {M : mm_M} (hf : f_X12_blunder M = some z) {H : Heap} {locs : List Loc} (hw : wd_in rf_T D cy z0 ad u M X s H locs) {ls : Array Slot} (hl : lv_has ls 5 [(0, .ref (ad 0))]) : W p l e { frames := 7, cells := 0, slots := 0, locals := 168 } s m args below meth c H locs 0 0 (MQ below (cq_i rf_T D cy z0 ad u X z.1 z.2) args s 0 0 (fun q => z0 ≤ q)) (F0 m 0 ls []) := by
  have hx := hC.1
  have hb := hC.2.1
  unfold f_X12_blunder at hf
  refine lv_aload_n hx hb dX12_blunder_0 rfl (lv_at hl 0 rfl) ?_
  refine lv_iconst (v := 0) hx hb dX12_blunder_1 (by decide) ?_
  obtain ⟨M1, eM1, hf⟩ := sq_e hf
  refine rp_i hC hw 0 (Nat.le_of_ble_eq_true rfl) rfl fd_X12_0 wf_X12_1 fp_X12_0 rfl rfl dX12_blunder_2 eM1 (fun H locs hw => ?_)
  refine lv_iconst (v := 0) hx hb dX12_blunder_5 (by decide) ?_
  refine lv_istore_n (lv' := [(1, .int 0), (0, .ref (ad 0))]) hx hb dX12_blunder_6 rfl hl (by decide) rfl (fun ls hl => ?_)
  refine lv_aload_n hx hb dX12_blunder_7 rfl (lv_at hl 1 rfl) ?_
  obtain ⟨z2, ez2, hf⟩ := bd_e hf
  refine clc_Vi hC hw (c_X12_histories ez2) hd_X12_histories cw_X12_107 (Nat.le_of_ble_eq_true rfl) rfl rfl (rest := []) hl.1 rfl (Nat.le_of_ble_eq_true rfl) ⟨Nat.le_of_ble_eq_true rfl, Nat.le_of_ble_eq_true rfl⟩ ⟨Nat.zero_le _, Nat.zero_le _⟩ rfl dX12_blunder_8 (fun H locs hw => ?_)
  refine lv_istore_n (lv' := [(2, .int z2), (1, .int 0), (0, .ref (ad 0))]) hx hb dX12_blunder_11 rfl hl (by decide) rfl (fun ls hl => ?_)
  refine lv_iconst (v := 0) hx hb dX12_blunder_12 (by decide) ?_
  refine lv_istore_n (lv' := [(3, .int 0), (2, .int z2), (1, .int 0), (0, .ref (ad 0))]) hx hb dX12_blunder_13 rfl hl (by decide) rfl (fun ls hl => ?_)
  exact k_X12_blunder_14l hC fu_ _ _ _ _ _ _ _ hf hw (lv_sub hl [3, 2, 1, 0] rfl)
set_option maxRecDepth 100000 in
theorem c_X12_blunder {l : Launch} {D : va_G} {cy : Nat → ClassId} {z0 : Nat} {ad : Nat → Nat} {u : Nat × Nat} {X : va_W} {z : (Int32 × mm_M)} {M : mm_M} (hf : f_X12_blunder M = some z) : ct_i rf_T l yX12_blunder (Cond.code yX12_blunder cX12_blunder 5 (some .int)) 7 168 D cy z0 ad u M X [.ref (ad 0)] z.1 z.2 := by
  refine bgc_i (by decide) (fun p e s m below meth c hC hw => ?_)
  refine en_t (Nat.le_of_ble_eq_true rfl) (fun ls hl => ?_)
  have hl : lv_has ls 5 [(0, .ref (ad 0))] := hl
  exact k_X12_blunder hC hf hw hl
set_option maxRecDepth 100000 in
set_option maxHeartbeats 4000000 in
theorem k_X12_packs_5 {p : Program} {l : Launch} {e : Env} {s : State} {m : MethodId} {args : Array Value} {below : List Frame} {meth : Method} {c : Code} {D : va_G} {cy : Nat → ClassId} {z0 : Nat} {ad : Nat → Nat} {X : va_W} {u : Nat × Nat} (hC : cx_C p s m args meth c cX12_packs "RhymedThenModel" (Cond.code yX12_packs cX12_packs 5 (some .long)) 5 (some .long)) {z : Int64} {x1 : Int32} {x2 : Int64} {x4 : Int32} {M : mm_M} {q5 : Int32 → Int64 → Int32 → Option Int64} (hq5 : ∀ (x1 : Int32) (x2 : Int64) (x4 : Int32) (H : Heap) (locs : List Loc) (ls : Array Slot), q5 x1 x2 x4 = some z → wd_in rf_T D cy z0 ad u M X s H locs → lv_has ls 5 [(0, .ref (ad 0)), (1, .int x1), (2, .long x2), (4, .int x4)] → W p l e { frames := 0, cells := 0, slots := 0, locals := 0 } s m args below meth c H locs 0 0 (MQ below (cq_l rf_T D cy z0 ad u X z M) args s 0 0 (fun q => z0 ≤ q)) (F0 m 5 ls [])) (hf : f_X12_packs_5 q5 x1 x2 x4 M = some z) {H : Heap} {locs : List Loc} (hw : wd_in rf_T D cy z0 ad u M X s H locs) {ls : Array Slot} (hl : lv_has ls 5 [(0, .ref (ad 0)), (1, .int x1), (2, .long x2), (4, .int x4)]) : W p l e { frames := 0, cells := 0, slots := 0, locals := 0 } s m args below meth c H locs 0 0 (MQ below (cq_l rf_T D cy z0 ad u X z M) args s 0 0 (fun q => z0 ≤ q)) (F0 m 5 ls []) := by
  have hx := hC.1
  have hb := hC.2.1
  unfold f_X12_packs_5 at hf
  refine lv_iload hx hb dX12_packs_5 (lv_at hl 3 rfl) ?_
  refine lv_aload_n hx hb dX12_packs_7 rfl (lv_at hl 0 rfl) ?_
  refine rg_p hC hw 0 (Nat.le_of_ble_eq_true rfl) rfl fd_X12_21 wf_X12_155 (q := 15) rfl dX12_packs_8 ?_
  refine lv_iload_n hx hb dX12_packs_11 rfl (lv_at hl 1 rfl) ?_
  obtain ⟨h1, hf⟩ := ck_e hf
  refine ra_i hC hw 15 (Nat.le_of_ble_eq_true rfl) rfl h1 dX12_packs_12 ?_
  refine lv_icmp_ge (tgt := 40) hx hb dX12_packs_13 (by decide) (fun c2 => ?_) (fun c2 => ?_)
  · rw [if_pos c2] at hf
    refine lv_lload_n hx hb dX12_packs_40 rfl (lv_at hl 2 rfl) ?_
    have hz := Option.some.inj hf
    subst hz
    exact rtc_l hC hw dX12_packs_41
  · rw [if_neg c2] at hf
    refine lv_lload_n hx hb dX12_packs_16 rfl (lv_at hl 2 rfl) ?_
    refine lv_iconst (v := 4) hx hb dX12_packs_17 (by decide) ?_
    refine lv_lshl hx hb dX12_packs_18 rfl ?_
    refine lv_aload_n hx hb dX12_packs_19 rfl (lv_at hl 0 rfl) ?_
    refine rg_p hC hw 0 (Nat.le_of_ble_eq_true rfl) rfl fd_X12_20 wf_X12_158 (q := 14) rfl dX12_packs_20 ?_
    refine lv_bipush (v := 8) hx hb dX12_packs_23 (by decide) ?_
    refine lv_iload_n hx hb dX12_packs_25 rfl (lv_at hl 1 rfl) ?_
    refine lv_imul hx hb dX12_packs_26 ?_
    refine lv_iload hx hb dX12_packs_27 (lv_at hl 3 rfl) ?_
    refine lv_iadd hx hb dX12_packs_29 ?_
    obtain ⟨h3, hf⟩ := ck_e hf
    refine ra_i hC hw 14 (Nat.le_of_ble_eq_true rfl) rfl h3 dX12_packs_30 ?_
    refine lv_i2l hx hb dX12_packs_31 rfl ?_
    refine lv_lor hx hb dX12_packs_32 ?_
    obtain ⟨y4, ey4, hf⟩ := sq_e hf
    refine lt_l ey4 ?_
    refine lv_lstore_n (lv' := [(2, .long y4), (0, .ref (ad 0)), (1, .int x1), (4, .int x4)]) hx hb dX12_packs_33 rfl hl (by decide) rfl (fun ls hl => ?_)
    obtain ⟨y5, ey5, hf⟩ := sq_e hf
    refine lv_iinc (v := y5) (lv' := [(4, .int y5), (2, .long y4), (0, .ref (ad 0)), (1, .int x1)]) hx hb dX12_packs_34 hl (k := 3) rfl (by rw [ey5]; rfl) (by decide) rfl (fun ls hl => ?_)
    refine lv_goto (tgt := 5) hx hb dX12_packs_37 (by decide) ?_
    exact hq5 _ _ _ _ _ _ hf hw (lv_sub hl [2, 3, 1, 0] rfl)
set_option maxRecDepth 100000 in
set_option maxHeartbeats 4000000 in
theorem k_X12_packs_5l {p : Program} {l : Launch} {e : Env} {s : State} {m : MethodId} {args : Array Value} {below : List Frame} {meth : Method} {c : Code} {D : va_G} {cy : Nat → ClassId} {z0 : Nat} {ad : Nat → Nat} {X : va_W} {u : Nat × Nat} (hC : cx_C p s m args meth c cX12_packs "RhymedThenModel" (Cond.code yX12_packs cX12_packs 5 (some .long)) 5 (some .long)) {z : Int64} {M : mm_M} : ∀ (n : Nat) (x1 : Int32) (x2 : Int64) (x4 : Int32) (H : Heap) (locs : List Loc) (ls : Array Slot), f_X12_packs_5l M n x1 x2 x4 = some z → wd_in rf_T D cy z0 ad u M X s H locs → lv_has ls 5 [(0, .ref (ad 0)), (1, .int x1), (2, .long x2), (4, .int x4)] → W p l e { frames := 0, cells := 0, slots := 0, locals := 0 } s m args below meth c H locs 0 0 (MQ below (cq_l rf_T D cy z0 ad u X z M) args s 0 0 (fun q => z0 ≤ q)) (F0 m 5 ls []) := by
  intro n
  induction n with
  | zero => intro x1 x2 x4 H locs ls hf; exact absurd hf (by simp [f_X12_packs_5l])
  | succ n ih => intro x1 x2 x4 H locs ls hf hw hl; exact k_X12_packs_5 hC ih hf hw hl
set_option maxRecDepth 100000 in
set_option maxHeartbeats 4000000 in
theorem k_X12_packs {p : Program} {l : Launch} {e : Env} {s : State} {m : MethodId} {args : Array Value} {below : List Frame} {meth : Method} {c : Code} {D : va_G} {cy : Nat → ClassId} {z0 : Nat} {ad : Nat → Nat} {X : va_W} {u : Nat × Nat} (hC : cx_C p s m args meth c cX12_packs "RhymedThenModel" (Cond.code yX12_packs cX12_packs 5 (some .long)) 5 (some .long)) {z : Int64} {x1 : Int32} {M : mm_M} (hf : f_X12_packs x1 M = some z) {H : Heap} {locs : List Loc} (hw : wd_in rf_T D cy z0 ad u M X s H locs) {ls : Array Slot} (hl : lv_has ls 5 [(0, .ref (ad 0)), (1, .int x1)]) : W p l e { frames := 0, cells := 0, slots := 0, locals := 0 } s m args below meth c H locs 0 0 (MQ below (cq_l rf_T D cy z0 ad u X z M) args s 0 0 (fun q => z0 ≤ q)) (F0 m 0 ls []) := by
  have hx := hC.1
  have hb := hC.2.1
  unfold f_X12_packs at hf
  refine lv_lconst (v := 1) hx hb dX12_packs_0 (by decide) ?_
  refine lv_lstore_n (lv' := [(2, .long 1), (0, .ref (ad 0)), (1, .int x1)]) hx hb dX12_packs_1 rfl hl (by decide) rfl (fun ls hl => ?_)
  refine lv_iconst (v := 0) hx hb dX12_packs_2 (by decide) ?_
  refine lv_istore (lv' := [(4, .int 0), (2, .long 1), (0, .ref (ad 0)), (1, .int x1)]) hx hb dX12_packs_3 hl (by decide) rfl (fun ls hl => ?_)
  exact k_X12_packs_5l hC fu_ _ _ _ _ _ _ hf hw (lv_sub hl [2, 3, 1, 0] rfl)
set_option maxRecDepth 100000 in
theorem c_X12_packs {l : Launch} {D : va_G} {cy : Nat → ClassId} {z0 : Nat} {ad : Nat → Nat} {u : Nat × Nat} {X : va_W} {z : Int64} {x1 : Int32} {M : mm_M} (hf : f_X12_packs x1 M = some z) : ct_l rf_T l yX12_packs (Cond.code yX12_packs cX12_packs 5 (some .long)) 0 0 D cy z0 ad u M X [.ref (ad 0), .int x1] z M := by
  refine bgc_l (by decide) (fun p e s m below meth c hC hw => ?_)
  refine en_t (Nat.le_of_ble_eq_true rfl) (fun ls hl => ?_)
  have hl : lv_has ls 5 [(0, .ref (ad 0)), (1, .int x1)] := hl
  exact k_X12_packs hC hf hw hl
set_option maxRecDepth 100000 in
set_option maxHeartbeats 4000000 in
theorem k_X12_longOf_4 {p : Program} {l : Launch} {e : Env} {s : State} {m : MethodId} {args : Array Value} {below : List Frame} {meth : Method} {c : Code} {T : wd_T} {D : va_G} {cy : Nat → ClassId} {z0 : Nat} {ad : Nat → Nat} {X : va_W} {M : mm_M} {u : Nat × Nat} (hC : cx_C p s m args meth c cX12_longOf "RhymedThenModel" (Cond.code yX12_longOf cX12_longOf 5 (some .int)) 5 (some .int)) {z : Int32} {x2 : Int32} {x3 : Int64} {q4 : Int32 → Int64 → Option Int32} (hq4 : ∀ (x2 : Int32) (x3 : Int64) (H : Heap) (locs : List Loc) (ls : Array Slot), q4 x2 x3 = some z → wd_in T D cy z0 ad u M X s H locs → lv_has ls 5 [(2, .int x2), (3, .long x3)] → W p l e { frames := 0, cells := 0, slots := 0, locals := 0 } s m args below meth c H locs 0 0 (MQ below (cq_i T D cy z0 ad u X z M) args s 0 0 (fun q => z0 ≤ q)) (F0 m 4 ls [])) (hf : f_X12_longOf_4 q4 x2 x3 = some z) {H : Heap} {locs : List Loc} (hw : wd_in T D cy z0 ad u M X s H locs) {ls : Array Slot} (hl : lv_has ls 5 [(2, .int x2), (3, .long x3)]) : W p l e { frames := 0, cells := 0, slots := 0, locals := 0 } s m args below meth c H locs 0 0 (MQ below (cq_i T D cy z0 ad u X z M) args s 0 0 (fun q => z0 ≤ q)) (F0 m 4 ls []) := by
  have hx := hC.1
  have hb := hC.2.1
  unfold f_X12_longOf_4 at hf
  refine lv_lload_n hx hb dX12_longOf_4 rfl (lv_at hl 1 rfl) ?_
  refine lv_lconst (v := 1) hx hb dX12_longOf_5 (by decide) ?_
  refine lc_le (tgt := 20) hx hb dX12_longOf_6 dX12_longOf_7 (by decide) (fun c1 => ?_) (fun c1 => ?_)
  · rw [if_pos c1] at hf
    refine lv_iload_n hx hb dX12_longOf_20 rfl (lv_at hl 0 rfl) ?_
    have hz := Option.some.inj hf
    subst hz
    exact rtc_i hC hw dX12_longOf_21
  · rw [if_neg c1] at hf
    obtain ⟨y2, ey2, hf⟩ := sq_e hf
    refine lv_iinc (v := y2) (lv' := [(2, .int y2), (3, .long x3)]) hx hb dX12_longOf_10 hl (k := 0) rfl (by rw [ey2]; rfl) (by decide) rfl (fun ls hl => ?_)
    refine lv_lload_n hx hb dX12_longOf_13 rfl (lv_at hl 1 rfl) ?_
    refine lv_iconst (v := 4) hx hb dX12_longOf_14 (by decide) ?_
    refine lv_lshr hx hb dX12_longOf_15 rfl ?_
    obtain ⟨y3, ey3, hf⟩ := sq_e hf
    refine lt_l ey3 ?_
    refine lv_lstore_n (lv' := [(3, .long y3), (2, .int y2)]) hx hb dX12_longOf_16 rfl hl (by decide) rfl (fun ls hl => ?_)
    refine lv_goto (tgt := 4) hx hb dX12_longOf_17 (by decide) ?_
    exact hq4 _ _ _ _ _ hf hw (lv_sub hl [1, 0] rfl)
set_option maxRecDepth 100000 in
set_option maxHeartbeats 4000000 in
theorem k_X12_longOf_4l {p : Program} {l : Launch} {e : Env} {s : State} {m : MethodId} {args : Array Value} {below : List Frame} {meth : Method} {c : Code} {T : wd_T} {D : va_G} {cy : Nat → ClassId} {z0 : Nat} {ad : Nat → Nat} {X : va_W} {M : mm_M} {u : Nat × Nat} (hC : cx_C p s m args meth c cX12_longOf "RhymedThenModel" (Cond.code yX12_longOf cX12_longOf 5 (some .int)) 5 (some .int)) {z : Int32} : ∀ (n : Nat) (x2 : Int32) (x3 : Int64) (H : Heap) (locs : List Loc) (ls : Array Slot), f_X12_longOf_4l n x2 x3 = some z → wd_in T D cy z0 ad u M X s H locs → lv_has ls 5 [(2, .int x2), (3, .long x3)] → W p l e { frames := 0, cells := 0, slots := 0, locals := 0 } s m args below meth c H locs 0 0 (MQ below (cq_i T D cy z0 ad u X z M) args s 0 0 (fun q => z0 ≤ q)) (F0 m 4 ls []) := by
  intro n
  induction n with
  | zero => intro x2 x3 H locs ls hf; exact absurd hf (by simp [f_X12_longOf_4l])
  | succ n ih => intro x2 x3 H locs ls hf hw hl; exact k_X12_longOf_4 hC ih hf hw hl
set_option maxRecDepth 100000 in
set_option maxHeartbeats 4000000 in
theorem k_X12_longOf {p : Program} {l : Launch} {e : Env} {s : State} {m : MethodId} {args : Array Value} {below : List Frame} {meth : Method} {c : Code} {T : wd_T} {D : va_G} {cy : Nat → ClassId} {z0 : Nat} {ad : Nat → Nat} {X : va_W} {M : mm_M} {u : Nat × Nat} (hC : cx_C p s m args meth c cX12_longOf "RhymedThenModel" (Cond.code yX12_longOf cX12_longOf 5 (some .int)) 5 (some .int)) {z : Int32} {x0 : Int64} (hf : f_X12_longOf x0 = some z) {H : Heap} {locs : List Loc} (hw : wd_in T D cy z0 ad u M X s H locs) {ls : Array Slot} (hl : lv_has ls 5 [(0, .long x0)]) : W p l e { frames := 0, cells := 0, slots := 0, locals := 0 } s m args below meth c H locs 0 0 (MQ below (cq_i T D cy z0 ad u X z M) args s 0 0 (fun q => z0 ≤ q)) (F0 m 0 ls []) := by
  have hx := hC.1
  have hb := hC.2.1
  unfold f_X12_longOf at hf
  refine lv_iconst (v := 0) hx hb dX12_longOf_0 (by decide) ?_
  refine lv_istore_n (lv' := [(2, .int 0), (0, .long x0)]) hx hb dX12_longOf_1 rfl hl (by decide) rfl (fun ls hl => ?_)
  refine lv_lload_n hx hb dX12_longOf_2 rfl (lv_at hl 1 rfl) ?_
  refine lv_lstore_n (lv' := [(3, .long x0), (2, .int 0), (0, .long x0)]) hx hb dX12_longOf_3 rfl hl (by decide) rfl (fun ls hl => ?_)
  exact k_X12_longOf_4l hC fu_ _ _ _ _ _ hf hw (lv_sub hl [1, 0] rfl)
set_option maxRecDepth 100000 in
theorem c_X12_longOf {l : Launch} {T : wd_T} {D : va_G} {cy : Nat → ClassId} {z0 : Nat} {ad : Nat → Nat} {u : Nat × Nat} {X : va_W} {z : Int32} {x0 : Int64} {M : mm_M} (hf : f_X12_longOf x0 = some z) : ct_i T l yX12_longOf (Cond.code yX12_longOf cX12_longOf 5 (some .int)) 0 0 D cy z0 ad u M X [.long x0] z M := by
  refine bgc_i (by decide) (fun p e s m below meth c hC hw => ?_)
  refine en_t (Nat.le_of_ble_eq_true rfl) (fun ls hl => ?_)
  have hl : lv_has ls 5 [(0, .long x0)] := hl
  exact k_X12_longOf hC hf hw hl
